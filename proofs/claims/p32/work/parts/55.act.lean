/-! ===== the law's act ===== -/
theorem ne_n {a b : Nat} (ha : a < 2147483648) (hb : b < 2147483648) (h : a ≠ b) : ¬ nI a = nI b := by
  rw [x_eq ha hb]
  exact h
/-- what an act comes to, on any object that holds the game -/
def Res (K : Nat) (A : AS) (f : Tx → St → Sv → St → Fm → Option (Int32 × Tx × St × Sv × St × Fm)) : Prop := ∃ a A', OKA (K + 1) A' ∧ ∀ T z V D F, RC T z V A → ∃ T' z' V' D' F', f T z V D F = some (a, T', z', V', D', F') ∧ RC T' z' V' A'
section ACT
variable {K c t m n : Nat} {g : GS} {gs : Nat → GS} {ch : Nat → Nat}
theorem jAdd (h : OKA K (g, c, gs, t, ch)) (hm : m < 134217728) : Res K (g, c, gs, t, ch) (fun T z V D F => f_L_acts_J68 (nI m) T z V D F) := by
  obtain ⟨w1, e1⟩ := wordL (m := m) (by omega)
  obtain ⟨w2, e2⟩ := wordL (m := m / 3 + 77) (by omega)
  obtain ⟨n1, t1⟩ := typesL w1
  obtain ⟨n2, t2⟩ := typesL w2
  obtain ⟨S1, hS1⟩ : ∃ S1, S1 = tyN w1 0 ch n1 := ⟨_, rfl⟩
  obtain ⟨S2, hS2⟩ : ∃ S2, S2 = tyA 44 S1.2.1 S1.2.2 := ⟨_, rfl⟩
  obtain ⟨S3, hS3⟩ : ∃ S3, S3 = tyN w2 S2.2.1 S2.2.2 n2 := ⟨_, rfl⟩
  have b3 : S3.2.1 ≤ 80 := by
    rw [hS3]
    refine tyN_t ?_ _
    rw [hS2]
    refine tyA_t ?_
    rw [hS1]
    exact tyN_t (by omega) _
  have E : ∀ T z V D F, TXr T t ch → ∃ T4, TXr T4 S3.2.1 S3.2.2 ∧ f_L_acts_J68 (nI m) T z V D F = if S3.1 < 1 then some ((-9 : Int32), T4, z, V, D, F) else Option.bind (f_X5_addWords T4 z V D) fun r_27 => some (r_27.1, r_27.2.1, r_27.2.2.1, r_27.2.2.2.1, r_27.2.2.2.2, F) := by
    intro T z V D F tx
    obtain ⟨T1, c1, c2⟩ := clear5 tx
    obtain ⟨T2, d1, d2⟩ := t1 T1 0 ch c2
    rw [← hS1] at d1 d2
    obtain ⟨T3, x1, x2⟩ := tyA_5 (p := 44) d2
    rw [← hS2] at x1 x2
    obtain ⟨T4, y1, y2⟩ := t2 T3 _ _ x2
    rw [← hS3] at y1 y2
    refine ⟨T4, y2, ?_⟩
    unfold f_L_acts_J68
    rw [c1, ob, e1, ob]
    show Option.bind (f_L_types T1 w1) _ = _
    rw [d1, ob]
    show Option.bind (f_X5_type T2 44) _ = _
    rw [x1, ob, show (3 : Int32) = nI 3 from rfl, divI_n (by omega) (by omega) (by omega), show nI (m / 3) + (77 : Int32) = nI (m / 3 + 77) from nI_add _ 77, e2, ob]
    show Option.bind (f_L_types T3 w2) _ = _
    rw [y1]
    rfl
  by_cases q : S3.1 < 1
  · refine ⟨-9, (g, c, gs, S3.2.1, S3.2.2), OKA_m (OKA_t h b3), fun T z V D F r => ?_⟩
    obtain ⟨T4, x, e⟩ := E T z V D F r.2.2
    show ∃ T' z' V' D' F', f_L_acts_J68 (nI m) T z V D F = _ ∧ _
    rw [e, if_pos q]
    exact ⟨_, _, _, _, _, rfl, r.1, r.2.1, x⟩
  · obtain ⟨a, A', hA, f⟩ := addA (OKA_t (t' := S3.2.1) (ch' := S3.2.2) h b3)
    refine ⟨a, A', hA, fun T z V D F r => ?_⟩
    obtain ⟨T4, x, e⟩ := E T z V D F r.2.2
    obtain ⟨T', z', V', D', e5, r5⟩ := f T4 z V D ⟨r.1, r.2.1, x⟩
    show ∃ T' z' V' D' F', f_L_acts_J68 (nI m) T z V D F = _ ∧ _
    rw [e, if_neg q, e5, ob]
    exact ⟨_, _, _, _, _, rfl, r5⟩
def glA (g : GS) (w : Nat) (v0 : Int32) (ch : Nat → Nat) : Nat → Int32 × Nat × (Nat → Nat)
  | 0 => (v0, 0, ch)
  | j + 1 => tyA (aLet g (nI w) (nI j)) (glA g w v0 ch j).2.1 (glA g w v0 ch j).2.2
theorem glA_t (w : Nat) (v0 : Int32) : ∀ j, (glA g w v0 ch j).2.1 ≤ 80
  | 0 => Nat.zero_le _
  | j + 1 => tyA_t (glA_t w v0 j)
theorem jWord (h : OKA K (g, c, gs, t, ch)) (hm : m < 134217728) (hn : 0 < n) (hn2 : n < 100) : Res K (g, c, gs, t, ch) (fun T z V D F => Option.bind (f_X5_clearText T) fun r_40 => loop3 (f_L_acts_L166 (nI m) (nI n) z V D F) FU r_40.1 (0 : Int32) r_40.2) := by
  have ok : okG g := h.1.1
  obtain ⟨w, hw⟩ : ∃ w, w = m % n := ⟨_, rfl⟩
  obtain ⟨J, hJ, p1, p2⟩ := fb_first (p := fun i => ¬ (0 : Int32) < aLet g (nI w) (nI i) ∨ i = 8) (n := 9) ⟨8, by omega, Or.inr rfl⟩
  obtain ⟨S, hS⟩ : ∃ S, S = glA g w (nI t) ch J := ⟨_, rfl⟩
  have b : S.2.1 ≤ 80 := by rw [hS]; exact glA_t _ _ _
  have E : ∀ T z V D F, RS z g → TXr T t ch → ∃ T4, TXr T4 S.2.1 S.2.2 ∧ (Option.bind (f_X5_clearText T) fun r_40 => loop3 (f_L_acts_L166 (nI m) (nI n) z V D F) FU r_40.1 (0 : Int32) r_40.2) = if S.1 < 0 then some ((-9 : Int32), T4, z, V, D, F) else Option.bind (f_X5_guessWord T4 z V) fun r_48 => some (r_48.1, r_48.2.1, r_48.2.2.1, r_48.2.2.2, D, F) := by
    intro T z V D F r1 tx
    obtain ⟨T1, c1, c2⟩ := clear5 tx
    rw [c1, ob]
    show ∃ T4, _ ∧ loop3 (f_L_acts_L166 (nI m) (nI n) z V D F) FU (nI t) (0 : Int32) T1 = _
    refine run3 (fun j a b (T' : Tx) => a = (glA g w (nI t) ch j).1 ∧ b = nI j ∧ TXr T' (glA g w (nI t) ch j).2.1 (glA g w (nI t) ch j).2.2) (fun r => ∃ T4, TXr T4 S.2.1 S.2.2 ∧ r = if S.1 < 0 then some ((-9 : Int32), T4, z, V, D, F) else Option.bind (f_X5_guessWord T4 z V) fun r_48 => some (r_48.1, r_48.2.1, r_48.2.2.1, r_48.2.2.2, D, F)) J ?_ ?_ FU _ _ _ (FU_gt (by omega)) ⟨rfl, rfl, c2⟩
    · rintro j a b T' hj ⟨rfl, rfl, hT⟩
      have hp := p2 j hj
      have pos : (0 : Int32) < aLet g (nI w) (nI j) := Classical.byContradiction (fun x => hp (Or.inl x))
      have j8 : j < 8 := by
        have : ¬ j = 8 := fun x => hp (Or.inr x)
        omega
      obtain ⟨T2, e2, h2⟩ := tyA_5 (p := aLet g (nI w) (nI j)) hT
      refine ⟨_, nI (j + 1), T2, ⟨rfl, rfl, h2⟩, fun re => ?_⟩
      unfold f_L_acts_L166
      rw [show (8 : Int32) = nI 8 from rfl, i_lt (by omega) (by omega), if_pos j8, remI_n (by omega) hn (by omega), ← hw, letterOf5 r1 ok, ob, if_pos pos, remI_n (by omega) hn (by omega), ← hw, letterOf5 r1 ok, ob, e2, ob, lt_, x_a1]
      rfl
    · rintro a b T' ⟨rfl, rfl, hT⟩ re
      rw [← hS] at hT
      refine ⟨T', hT, ?_⟩
      unfold f_L_acts_L166
      rw [← hS, show (8 : Int32) = nI 8 from rfl, i_lt (by omega) (by omega)]
      by_cases j8 : J < 8
      · have np : ¬ (0 : Int32) < aLet g (nI w) (nI J) := by
          rcases p1 with x | x
          · exact x
          · omega
        rw [if_pos j8, remI_n (by omega) hn (by omega), ← hw, letterOf5 r1 ok, ob, if_neg np]
      · rw [if_neg j8]
  by_cases q : S.1 < 0
  · refine ⟨-9, (g, c, gs, S.2.1, S.2.2), OKA_m (OKA_t h b), fun T z V D F r => ?_⟩
    have r1 : RS z g := r.1
    obtain ⟨T4, x, e⟩ := E T z V D F r1 r.2.2
    show ∃ T' z' V' D' F', (Option.bind (f_X5_clearText T) fun r_40 => loop3 (f_L_acts_L166 (nI m) (nI n) z V D F) FU r_40.1 (0 : Int32) r_40.2) = _ ∧ _
    rw [e, if_pos q]
    exact ⟨_, _, _, _, _, rfl, r.1, r.2.1, x⟩
  · obtain ⟨a, A', hA, f⟩ := gwordA (OKA_t (t' := S.2.1) (ch' := S.2.2) h b)
    refine ⟨a, A', hA, fun T z V D F r => ?_⟩
    have r1 : RS z g := r.1
    obtain ⟨T4, x, e⟩ := E T z V D F r1 r.2.2
    obtain ⟨T', z', V', e5, r5⟩ := f T4 z V ⟨r.1, r.2.1, x⟩
    show ∃ T' z' V' D' F', (Option.bind (f_X5_clearText T) fun r_40 => loop3 (f_L_acts_L166 (nI m) (nI n) z V D F) FU r_40.1 (0 : Int32) r_40.2) = _ ∧ _
    rw [e, if_neg q, e5, ob]
    exact ⟨_, _, _, _, _, rfl, r5⟩
theorem jStart (h : OKA K (g, c, gs, t, ch)) (hm : m < 134217728) : Res K (g, c, gs, t, ch) (fun T z V D F => f_L_acts_J221 (nI m) T z V D F) := by
  by_cases q : m % 5 = 0
  · obtain ⟨a, A', hA, f⟩ := startA h (l := 2 + m / 5 % 5) (v := 1 + m / 25 % 6) (by omega) (by omega)
    refine ⟨a, A', hA, fun T z V D F r => ?_⟩
    obtain ⟨z', V', e, r'⟩ := f T z V r
    show ∃ T' z' V' D' F', f_L_acts_J221 (nI m) T z V D F = _ ∧ _
    unfold f_L_acts_J221
    rw [show (5 : Int32) = nI 5 from rfl, show (25 : Int32) = nI 25 from rfl, show (6 : Int32) = nI 6 from rfl, remI_n (by omega) (by omega) (by omega), i_z (by omega), if_pos q, divI_n (by omega) (by omega) (by omega), remI_n (by omega) (by omega) (by omega), divI_n (by omega) (by omega) (by omega), remI_n (by omega) (by omega) (by omega), show (2 : Int32) + nI (m / 5 % 5) = nI (2 + m / 5 % 5) from nI_add 2 _, show (1 : Int32) + nI (m / 25 % 6) = nI (1 + m / 25 % 6) from nI_add 1 _, e, ob]
    exact ⟨_, _, _, _, _, rfl, r'⟩
  · obtain ⟨a, A', hA, f⟩ := startA h (l := 4) (v := 1 + m / 25 % 6) (by omega) (by omega)
    refine ⟨a, A', hA, fun T z V D F r => ?_⟩
    obtain ⟨z', V', e, r'⟩ := f T z V r
    show ∃ T' z' V' D' F', f_L_acts_J221 (nI m) T z V D F = _ ∧ _
    unfold f_L_acts_J221
    rw [show (5 : Int32) = nI 5 from rfl, show (25 : Int32) = nI 25 from rfl, show (6 : Int32) = nI 6 from rfl, remI_n (by omega) (by omega) (by omega), i_z (by omega), if_neg q, divI_n (by omega) (by omega) (by omega), remI_n (by omega) (by omega) (by omega), show (1 : Int32) + nI (m / 25 % 6) = nI (1 + m / 25 % 6) from nI_add 1 _, show (4 : Int32) = nI 4 from rfl, e, ob]
    exact ⟨_, _, _, _, _, rfl, r'⟩
theorem jAny (h : OKA K (g, c, gs, t, ch)) (hm : m < 134217728) (hn : n = G_n g) {s : Nat} (hs : s < 16) (hz : s ≠ 0 → 3 ≤ n) : Res K (g, c, gs, t, ch) (fun T z V D F => f_L_acts_J23 (nI m) (nI n) T z V D F (nI s)) := by
  have ok : okG g := h.1.1
  have n30 := ok.1
  have ne : ∀ v : Nat, v < 16 → s ≠ v → ¬ nI s = nI v := fun v hv h => ne_n (by omega) (by omega) h
  by_cases s0 : s = 0
  · subst s0
    obtain ⟨a, A', hA, f⟩ := jAdd h hm
    refine ⟨a, A', hA, fun T z V D F r => ?_⟩
    show ∃ T' z' V' D' F', f_L_acts_J23 (nI m) (nI n) T z V D F (nI 0) = _ ∧ _
    unfold f_L_acts_J23
    rw [if_pos (show nI 0 = 0 from rfl)]
    exact f T z V D F r
  have n3 := hz s0
  by_cases s1 : s = 1
  · subst s1
    obtain ⟨a, A', hA, f⟩ := jAdd h hm
    refine ⟨a, A', hA, fun T z V D F r => ?_⟩
    show ∃ T' z' V' D' F', f_L_acts_J23 (nI m) (nI n) T z V D F (nI 1) = _ ∧ _
    unfold f_L_acts_J23
    rw [if_neg (show ¬ nI 1 = 0 by decide), if_pos (show nI 1 = 1 from rfl)]
    exact f T z V D F r
  by_cases s2 : s = 2
  · subst s2
    obtain ⟨a, A', hA, f⟩ := remA h (j := m % n) (by rw [← hn]; exact Nat.mod_lt _ (by omega))
    refine ⟨a, A', hA, fun T z V D F r => ?_⟩
    obtain ⟨z', V', e, r'⟩ := f T z V r
    show ∃ T' z' V' D' F', f_L_acts_J23 (nI m) (nI n) T z V D F (nI 2) = _ ∧ _
    unfold f_L_acts_J23
    rw [if_neg (show ¬ nI 2 = 0 by decide), if_neg (show ¬ nI 2 = 1 by decide), if_pos (show nI 2 = 2 from rfl), remI_n (by omega) (by omega) (by omega), e, ob]
    exact ⟨_, _, _, _, _, rfl, r'⟩
  by_cases s3 : s = 3
  · subst s3
    obtain ⟨a, A', hA, f⟩ := polA h (j := m % 3) (by omega)
    refine ⟨a, A', hA, fun T z V D F r => ?_⟩
    obtain ⟨z', V', e, r'⟩ := f T z V r
    show ∃ T' z' V' D' F', f_L_acts_J23 (nI m) (nI n) T z V D F (nI 3) = _ ∧ _
    unfold f_L_acts_J23
    rw [if_neg (show ¬ nI 3 = 0 by decide), if_neg (show ¬ nI 3 = 1 by decide), if_neg (show ¬ nI 3 = 2 by decide), if_pos (show nI 3 = 3 from rfl), show (3 : Int32) = nI 3 from rfl, remI_n (by omega) (by omega) (by omega), e, ob]
    exact ⟨_, _, _, _, _, rfl, r'⟩
  by_cases s4 : s = 4
  · subst s4
    by_cases q : m % 4 = 0
    · obtain ⟨a, A', hA, f⟩ := giveA h
      refine ⟨a, A', hA, fun T z V D F r => ?_⟩
      obtain ⟨z', V', e, r'⟩ := f T z V r
      show ∃ T' z' V' D' F', f_L_acts_J23 (nI m) (nI n) T z V D F (nI 4) = _ ∧ _
      unfold f_L_acts_J23
      rw [if_neg (show ¬ nI 4 = 0 by decide), if_neg (show ¬ nI 4 = 1 by decide), if_neg (show ¬ nI 4 = 2 by decide), if_neg (show ¬ nI 4 = 3 by decide), if_pos (show nI 4 = 4 from rfl), show (4 : Int32) = nI 4 from rfl, remI_n (by omega) (by omega) (by omega), i_z (by omega), if_pos q, e, ob]
      exact ⟨_, _, _, _, _, rfl, r'⟩
    · obtain ⟨a, A', hA, f⟩ := undoA h
      refine ⟨a, A', hA, fun T z V D F r => ?_⟩
      obtain ⟨z', V', e, r'⟩ := f T z V r
      show ∃ T' z' V' D' F', f_L_acts_J23 (nI m) (nI n) T z V D F (nI 4) = _ ∧ _
      unfold f_L_acts_J23
      rw [if_neg (show ¬ nI 4 = 0 by decide), if_neg (show ¬ nI 4 = 1 by decide), if_neg (show ¬ nI 4 = 2 by decide), if_neg (show ¬ nI 4 = 3 by decide), if_pos (show nI 4 = 4 from rfl), show (4 : Int32) = nI 4 from rfl, remI_n (by omega) (by omega) (by omega), i_z (by omega), if_neg q, e, ob]
      exact ⟨_, _, _, _, _, rfl, r'⟩
  by_cases s5 : s = 5
  · subst s5
    obtain ⟨a, A', hA, f⟩ := jWord h hm (n := n) (by omega) (by omega)
    refine ⟨a, A', hA, fun T z V D F r => ?_⟩
    show ∃ T' z' V' D' F', f_L_acts_J23 (nI m) (nI n) T z V D F (nI 5) = _ ∧ _
    unfold f_L_acts_J23
    rw [if_neg (show ¬ nI 5 = 0 by decide), if_neg (show ¬ nI 5 = 1 by decide), if_neg (show ¬ nI 5 = 2 by decide), if_neg (show ¬ nI 5 = 3 by decide), if_neg (show ¬ nI 5 = 4 by decide), if_pos (show nI 5 = 5 from rfl)]
    exact f T z V D F r
  by_cases s6 : s = 6
  · subst s6
    obtain ⟨a, A', hA, f⟩ := jStart h hm
    refine ⟨a, A', hA, fun T z V D F r => ?_⟩
    show ∃ T' z' V' D' F', f_L_acts_J23 (nI m) (nI n) T z V D F (nI 6) = _ ∧ _
    unfold f_L_acts_J23
    rw [if_neg (show ¬ nI 6 = 0 by decide), if_neg (show ¬ nI 6 = 1 by decide), if_neg (show ¬ nI 6 = 2 by decide), if_neg (show ¬ nI 6 = 3 by decide), if_neg (show ¬ nI 6 = 4 by decide), if_neg (show ¬ nI 6 = 5 by decide), if_pos (show nI 6 = 6 from rfl)]
    exact f T z V D F r
  by_cases s7 : s = 7
  · subst s7
    obtain ⟨a, A', hA, f⟩ := jStart h hm
    refine ⟨a, A', hA, fun T z V D F r => ?_⟩
    show ∃ T' z' V' D' F', f_L_acts_J23 (nI m) (nI n) T z V D F (nI 7) = _ ∧ _
    unfold f_L_acts_J23
    rw [if_neg (show ¬ nI 7 = 0 by decide), if_neg (show ¬ nI 7 = 1 by decide), if_neg (show ¬ nI 7 = 2 by decide), if_neg (show ¬ nI 7 = 3 by decide), if_neg (show ¬ nI 7 = 4 by decide), if_neg (show ¬ nI 7 = 5 by decide), if_neg (show ¬ nI 7 = 6 by decide), if_pos (show nI 7 = 7 from rfl)]
    exact f T z V D F r
  · obtain ⟨a, A', hA, f⟩ := guessA h (b := m % 6) (by omega)
    refine ⟨a, A', hA, fun T z V D F r => ?_⟩
    obtain ⟨z', V', F', e, r'⟩ := f T z V F r
    show ∃ T' z' V' D' F', f_L_acts_J23 (nI m) (nI n) T z V D F (nI s) = _ ∧ _
    unfold f_L_acts_J23
    rw [if_neg (show ¬ nI s = 0 from ne 0 (by omega) s0), if_neg (show ¬ nI s = 1 from ne 1 (by omega) s1), if_neg (show ¬ nI s = 2 from ne 2 (by omega) s2), if_neg (show ¬ nI s = 3 from ne 3 (by omega) s3), if_neg (show ¬ nI s = 4 from ne 4 (by omega) s4), if_neg (show ¬ nI s = 5 from ne 5 (by omega) s5), if_neg (show ¬ nI s = 6 from ne 6 (by omega) s6), if_neg (show ¬ nI s = 7 from ne 7 (by omega) s7), show (6 : Int32) = nI 6 from rfl, remI_n (by omega) (by omega) (by omega), show (97 : Int32) + nI (m % 6) = nI (97 + m % 6) from nI_add 97 _, e, ob]
    exact ⟨_, _, _, _, _, rfl, r'⟩
theorem actsA {C : Nat} (hC : C < 2147483648) {A : AS} (h : OKA K A) : Res K A (fun T z V D F => f_L_acts T z V D F (nI C)) := by
  obtain ⟨g, c, gs, t, ch⟩ := A
  have ok : okG g := h.1.1
  have n30 := ok.1
  by_cases q : G_n g < 3
  · obtain ⟨a, A', hA, f⟩ := jAny h (m := C / 16) (by omega) (n := G_n g) rfl (s := 0) (by omega) (fun x => absurd rfl x)
    refine ⟨a, A', hA, fun T z V D F r => ?_⟩
    have r1 : RS z g := r.1
    show ∃ T' z' V' D' F', f_L_acts T z V D F (nI C) = _ ∧ _
    unfold f_L_acts
    rw [show (16 : Int32) = nI 16 from rfl, divI_n hC (by omega) (by omega), words5 r1, ob, show (3 : Int32) = nI 3 from rfl, i_lt (by omega) (by omega), if_pos q]
    exact f T z V D F r
  · obtain ⟨a, A', hA, f⟩ := jAny h (m := C / 16) (by omega) (n := G_n g) rfl (s := C % 16) (by omega) (fun _ => by omega)
    refine ⟨a, A', hA, fun T z V D F r => ?_⟩
    have r1 : RS z g := r.1
    show ∃ T' z' V' D' F', f_L_acts T z V D F (nI C) = _ ∧ _
    unfold f_L_acts
    rw [show (16 : Int32) = nI 16 from rfl, divI_n hC (by omega) (by omega), words5 r1, ob, show (3 : Int32) = nI 3 from rfl, i_lt (by omega) (by omega), if_neg q, remI_n hC (by omega) (by omega)]
    exact f T z V D F r
end ACT
