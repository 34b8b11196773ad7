/-! ===== stage B: words added ===== -/
def inB_ (g : GS) (d : Nat → Nat) : Bool := decide (gPos g d < G_n g) && decide (encN (G_D g (gPos g d)) = encN d)
theorem inB_t {g : GS} {d : Nat → Nat} : inB_ g d = true ↔ inL g d := by
  unfold inB_ inL
  rw [Bool.and_eq_true, decide_eq_true_eq, decide_eq_true_eq]
def addL (ch : Nat → Nat) : List (Nat × Nat) → GS → Bool × GS × Nat
  | [], g => (false, g, 0)
  | w :: l, g =>
    if inB_ g (dW ch w) = true then addL ch l g
    else if G_n g = 30 then (true, g, 0)
    else ((addL ch l (gIns g (dW ch w) (w.2 - w.1) (gPos g (dW ch w)))).1, (addL ch l (gIns g (dW ch w) (w.2 - w.1) (gPos g (dW ch w)))).2.1, (addL ch l (gIns g (dW ch w) (w.2 - w.1) (gPos g (dW ch w)))).2.2 + 1)
def okWs (ch : Nat → Nat) (l : List (Nat × Nat)) : Prop := ∀ w, w ∈ l → okw (dW ch w) (w.2 - w.1)
theorem addL_ok {ch : Nat → Nat} : ∀ (l : List (Nat × Nat)) (g : GS), okWs ch l → okG g → G_st g ≠ 1 → okG (addL ch l g).2.1 ∧ G_n (addL ch l g).2.1 = G_n g + (addL ch l g).2.2
  | [], g, _, ok, _ => ⟨ok, rfl⟩
  | w :: l, g, hw, ok, hs => by
    have hw1 := hw w (List.mem_cons_self)
    have hw2 : okWs ch l := fun v hv => hw v (List.mem_cons_of_mem _ hv)
    unfold addL
    by_cases q : inB_ g (dW ch w) = true
    · rw [if_pos q]; exact addL_ok l g hw2 ok hs
    · rw [if_neg q]
      by_cases u : G_n g = 30
      · rw [if_pos u]; exact ⟨ok, rfl⟩
      · rw [if_neg u]
        have ok2 := ins_ok ok hw1 (by have := ok.1; omega) (fun x => q (inB_t.mpr x)) hs (fun i hi => ok_cd ok hi)
        obtain ⟨a, b⟩ := addL_ok l (gIns g (dW ch w) (w.2 - w.1) (gPos g (dW ch w))) hw2 ok2 hs
        refine ⟨a, ?_⟩
        show G_n (addL ch l (gIns g (dW ch w) (w.2 - w.1) (gPos g (dW ch w)))).2.1 = _
        rw [b]
        show G_n g + 1 + _ = G_n g + (_ + 1)
        omega
section ADD
variable {z : St} {T : Tx} {t : Nat} {ch : Nat → Nat}
theorem add2 {W : Nat → Int64} {n : Nat} (hn : n ≤ 27) : ∀ (l : List (Nat × Nat)) (i N : Nat) (z : St) (g : GS), okWs ch l → i + l.length = n → (∀ j w, l[j]? = some w → W (i + j) = lN (encN (dW ch w))) → RS z g → okG g → G_st g ≠ 1 → l.length < N → ∃ z', loop2 (f_X5_addTextTo_L10 (nI n, T_wordsRead_set T W)) N (nI i) z = some (if (addL ch l g).1 = true then 0 else 1, T_wordsRead_set T W, z') ∧ RS z' (addL ch l g).2.1
  | [], i, N, z, g, _, hi, _, r, ok, _, hN => by
    obtain ⟨m, rfl⟩ : ∃ m, N = m + 1 := ⟨N - 1, by have : 0 < N := hN; omega⟩
    have hi : i + 0 = n := hi
    refine ⟨z, ?_, r⟩
    show f_X5_addTextTo_L10 (nI n, T_wordsRead_set T W) (loop2 (f_X5_addTextTo_L10 (nI n, T_wordsRead_set T W)) m) (nI i) z = _
    generalize loop2 (f_X5_addTextTo_L10 (nI n, T_wordsRead_set T W)) m = re
    unfold f_X5_addTextTo_L10
    rw [show ((nI n, T_wordsRead_set T W) : Int32 × Tx).1 = nI n from rfl, i_lt (by omega) (by omega), if_neg (by omega)]
    rfl
  | w :: l, i, N, z, g, hw, hi, hW, r, ok, hs, hN => by
    obtain ⟨m, rfl⟩ : ∃ m, N = m + 1 := ⟨N - 1, by omega⟩
    have hi : i + (l.length + 1) = n := hi
    have hN : l.length + 1 < m + 1 := hN
    have hw1 := hw w (List.mem_cons_self)
    have hw2 : okWs ch l := fun v hv => hw v (List.mem_cons_of_mem _ hv)
    have hW0 : W i = lN (encN (dW ch w)) := hW 0 w rfl
    have hW1 : ∀ j v, l[j]? = some v → W (i + 1 + j) = lN (encN (dW ch v)) := fun j v hv => by
      rw [show i + 1 + j = i + (j + 1) by omega]
      exact hW (j + 1) v (by simpa using hv)
    obtain ⟨X, hX⟩ : ∃ X, X = lN (encN (dW ch w)) := ⟨_, rfl⟩
    have eR : f_X3_wordRead (T_wordsRead_set T W) (nI i) = some X := by
      unfold f_X3_wordRead
      rw [i_n (by omega), show (27 : Int32) = nI 27 from rfl, i_lt (by omega) (by omega), if_pos (by omega), getA_n (by omega) (by omega), TW_w, hW0, hX]
    have in2 := isIn2 r ok (okw_d hw1)
    rw [← hX] at in2
    show ∃ z', f_X5_addTextTo_L10 (nI n, T_wordsRead_set T W) (loop2 (f_X5_addTextTo_L10 (nI n, T_wordsRead_set T W)) m) (nI i) z = _ ∧ _
    have IH := add2 (W := W) hn l (i + 1) m
    generalize loop2 (f_X5_addTextTo_L10 (nI n, T_wordsRead_set T W)) m = re at *
    unfold f_X5_addTextTo_L10 addL
    rw [show ((nI n, T_wordsRead_set T W) : Int32 × Tx).1 = nI n from rfl, show ((nI n, T_wordsRead_set T W) : Int32 × Tx).2 = T_wordsRead_set T W from rfl, i_lt (by omega) (by omega), if_pos (by omega), eR, ob]
    by_cases q : inB_ g (dW ch w) = true
    · rw [in2.1 (inB_t.mp q), ob, if_neg (show ¬ (1 : Int32) = 0 by decide), lt_, x_a1, if_pos q]
      exact IH z g hw2 (by omega) hW1 r ok hs (by omega)
    · have nq : ¬ inL g (dW ch w) := fun x => q (inB_t.mpr x)
      rw [in2.2 nq, ob, if_pos (show (0 : Int32) = 0 from rfl), if_neg q]
      by_cases u : G_n g = 30
      · have ei : f_X2_insert z X = some (0, z) := by
          unfold f_X2_insert
          rw [r.1, i_n (by omega), show (30 : Int32) = nI 30 from rfl, i_lt (by omega) (by omega), if_neg (by omega)]
        rw [ei, ob, if_pos (show (0 : Int32) = 0 from rfl), if_pos u]
        exact ⟨z, rfl, r⟩
      · have g30 : G_n g < 30 := by have := ok.1; omega
        obtain ⟨z2, e2, r2⟩ := ins2 r ok (okw_d hw1) g30 nq (w.2 - w.1)
        rw [← hX] at e2
        rw [e2, ob, if_neg (show ¬ (1 : Int32) = 0 by decide), lt_, x_a1, if_neg u]
        exact IH z2 _ hw2 (by omega) hW1 r2 (ins_ok ok hw1 g30 nq hs (fun i hi => ok_cd ok hi)) hs (by omega)
theorem WL_tw : ∀ {l : List (Nat × Nat)} {p : Nat} {w : Nat × Nat}, WL ch t (w :: l) p → w.1 = p ∧ TWd ch t w.1 w.2 ∧ (w.2 = t ∨ (w.2 < t ∧ ch w.2 = 44)) ∧ (l = [] ∧ w.2 = t ∨ WL ch t l (w.2 + 1))
  | [], p, w, h => by
    obtain ⟨a1, a2, a3, a4, a5, a6⟩ := h
    exact ⟨a1, ⟨a5, by omega, a3, a4, a6⟩, Or.inl a2, Or.inl ⟨rfl, a2⟩⟩
  | y :: l, p, w, h => by
    obtain ⟨a1, a2, a3, a4, a5, a6, a7, a8⟩ := h
    exact ⟨a1, ⟨a5, by omega, a3, a4, a6⟩, Or.inr ⟨a2, a7⟩, Or.inr a8⟩
/-- a list of words, or the end -/
def WLe (ch : Nat → Nat) (t : Nat) (l : List (Nat × Nat)) (p : Nat) : Prop := (l = [] ∧ p = t + 1) ∨ WL ch t l p
theorem WLe_c {l : List (Nat × Nat)} {p : Nat} {w : Nat × Nat} (h : WLe ch t (w :: l) p) : w.1 = p ∧ TWd ch t w.1 w.2 ∧ (w.2 = t ∨ (w.2 < t ∧ ch w.2 = 44)) ∧ WLe ch t l (w.2 + 1) := by
  rcases h with ⟨h, _⟩ | h
  · cases h
  · obtain ⟨a, b, c, d⟩ := WL_tw h
    refine ⟨a, b, c, ?_⟩
    rcases d with ⟨d1, d2⟩ | d
    · exact Or.inl ⟨d1, by rw [d2]⟩
    · exact Or.inr d
end ADD
