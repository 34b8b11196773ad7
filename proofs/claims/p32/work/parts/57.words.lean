/-! ===== words in order, candidates agree with all that was told ===== -/
def Lk (d : Nat) : Int32 := if d = 0 then (-1 : Int32) else nI (96 + d)
theorem Lk_lt {a b : Nat} (ha : a < 27) (hb : b < 27) : (Lk a < Lk b) = (a < b) := by
  unfold Lk
  by_cases p : a = 0
  · rw [if_pos p]
    by_cases q : b = 0
    · rw [if_pos q]
      exact propext ⟨fun h => absurd h (Int32.lt_irrefl), fun h => by omega⟩
    · rw [if_neg q]
      exact propext ⟨fun _ => by omega, fun _ => neg_lt (by decide) (by omega)⟩
  · rw [if_neg p]
    by_cases q : b = 0
    · rw [if_pos q]
      exact propext ⟨fun h => absurd h (neg_nlt (by decide) (by omega)), fun h => by omega⟩
    · rw [if_neg q, x_lt (by omega) (by omega)]
      exact propext (by omega)
section WRD
variable {z : St} {g : GS} {K : Nat}
theorem aLet_k (ok : okG g) {w k : Nat} (hw : w < G_n g) (hk : k < 8) : aLet g (nI w) (nI k) = Lk (G_D g w k) := by
  have n30 := ok.1
  have ow := ok_w ok hw
  have hd := ow.2.2 k hk
  have z8 := ow.2.1
  by_cases q : k < G_Z g w
  · rw [aLet_in ok hw q, ltr_nI (hd.2.mpr q)]
    unfold Lk
    rw [if_neg (hd.2.mpr q)]
  · have e : G_D g w k = 0 := Classical.byContradiction (fun x => q (hd.2.mp x))
    rw [e]
    unfold aLet
    rw [x_cl (by omega), if_pos ⟨pos_n w (by omega), by rw [x_lt (by omega) (by omega)]; exact hw⟩, if_neg (fun x => q (by have := x.2; rw [x_lt (by omega) (by omega)] at this; exact this))]
    rfl
theorem aLet_8 (ok : okG g) {w k : Nat} (hk : 8 ≤ k) (hk2 : k < 2147483648) : aLet g (nI w) (nI k) = -1 := by
  unfold aLet
  by_cases y : 0 ≤ nI w ∧ nI w < nI (G_n g)
  · have n30 := ok.1
    rw [if_pos y]
    by_cases u : 0 ≤ nI k ∧ nI k < nI (G_Z g (nI w).toNatClampNeg)
    · obtain ⟨v, hv, e⟩ := (neg_or (nI w)).resolve_left (fun x => neg_c x _ y)
      rw [e] at u y
      rw [x_cl hv] at u
      have y2 : v < G_n g := by have := y.2; rw [x_lt hv (by omega)] at this; exact this
      have z8 := (ok_w ok y2).2.1
      have := u.2
      rw [x_lt hk2 (by omega)] at this
      omega
    · rw [if_neg u]
  · rw [if_neg y]
/-- where a word differs from the one ahead of it -/
theorem first_diff (ok : okG g) {w : Nat} (h0 : 0 < w) (hw : w < G_n g) : ∃ m, m < 8 ∧ G_D g (w - 1) m < G_D g w m ∧ ∀ k, k < m → G_D g (w - 1) k = G_D g w k := by
  have so := ok.2.2.2.2.2.2.2.2.2.1 (w - 1) w (by omega) hw
  have d1 := okd_32 (okw_d (ok_w ok (w := w - 1) (by omega)))
  have d2 := okd_32 (okw_d (ok_w ok hw))
  have ex : ∃ m, m < 8 ∧ G_D g (w - 1) m ≠ G_D g w m := Classical.byContradiction (fun x => by
    have := encN_cong (d := G_D g (w - 1)) (e := G_D g w) (fun k hk => Classical.byContradiction (fun y => x ⟨k, hk, y⟩))
    omega)
  obtain ⟨m, h1, h2, h3⟩ := fb_first ex
  have eq : ∀ k, k < m → G_D g (w - 1) k = G_D g w k := fun k hk => Classical.byContradiction (fun y => h3 k hk y)
  refine ⟨m, h1, ?_, eq⟩
  rcases Nat.lt_trichotomy (G_D g (w - 1) m) (G_D g w m) with y | y | y
  · exact y
  · exact absurd y h2
  · have := encN_less d2 d1 h1 (fun j hj => (eq j hj).symm) y
    omega
theorem isWordA (r : RS z g) (ok : okG g) {w : Nat} (hw : w < G_n g) : f_L_isWord z (nI w) = some 1 := by
  have n30 := ok.1
  have ow := ok_w ok hw
  have z8 := ow.2.1
  have z2 := ow.1
  -- the place of the first difference; 9 for the first word
  obtain ⟨m, hm9, hm⟩ : ∃ m, (w ≠ 0 → m < 9) ∧ (w = 0 ∨ (m < 8 ∧ G_D g (w - 1) m < G_D g w m ∧ ∀ k, k < m → G_D g (w - 1) k = G_D g w k)) := by
    by_cases q : w = 0
    · exact ⟨0, fun x => absurd q x, Or.inl q⟩
    · obtain ⟨m, a, b⟩ := first_diff ok (by omega) hw
      exact ⟨m, fun _ => by omega, Or.inr ⟨a, b⟩⟩
  unfold f_L_isWord
  refine run3 (fun j a b c => a = (if w ≠ 0 ∧ m < j then 1 else 0) ∧ b = nI (min j (G_Z g w)) ∧ c = nI j) (fun r => r = some 1) 9 ?_ ?_ FU _ _ _ (FU_gt (by omega)) ⟨(if_neg (fun x => absurd x.2 (Nat.not_lt_zero _))).symm, by rw [Nat.zero_min]; rfl, rfl⟩
  · rintro j a b c hj ⟨rfl, rfl, rfl⟩
    -- what the step goes on with
    have next : ∀ (b' : Int32) (re : Int32 → Int32 → Int32 → Option Int32) (its : Int32), its = aLet g (nI w) (nI j) → b' = nI (min (j + 1) (G_Z g w)) → (if nI w = 0 then f_L_isWord_J116 (nI w) re (if w ≠ 0 ∧ m < j then 1 else 0) b' (nI j) its (-2 : Int32) else Option.bind (f_X5_letterOf z (nI w - (1 : Int32)) (nI j)) fun r_24 => f_L_isWord_J116 (nI w) re (if w ≠ 0 ∧ m < j then 1 else 0) b' (nI j) its r_24) = re (if w ≠ 0 ∧ m < j + 1 then 1 else 0) (nI (min (j + 1) (G_Z g w))) (nI (j + 1)) := by
      intro b' re its hits hb
      rw [i_z (by omega)]
      by_cases w0 : w = 0
      · have n1 : ¬ (w ≠ 0 ∧ m < j) := fun x => x.1 w0
        have n2 : ¬ (w ≠ 0 ∧ m < j + 1) := fun x => x.1 w0
        rw [if_pos w0, if_neg n1, if_neg n2]
        unfold f_L_isWord_J116
        rw [if_pos rfl, i_z (by omega), if_pos w0, lt_, x_a1, hb]
      · obtain ⟨m8, mlt, meq⟩ := hm.resolve_left w0
        rw [if_neg w0, show nI w - (1 : Int32) = nI (w - 1) from pk_sub (b := 1) (by omega), letterOf5 r ok, ob]
        unfold f_L_isWord_J116
        by_cases q : m < j
        · rw [if_pos (show w ≠ 0 ∧ m < j from ⟨w0, q⟩), if_pos (show w ≠ 0 ∧ m < j + 1 from ⟨w0, by omega⟩), if_neg (show ¬ (1 : Int32) = 0 by decide), lt_, x_a1, hb]
        · have j8 : j < 8 := by omega
          have n1 : ¬ (w ≠ 0 ∧ m < j) := fun x => q x.2
          rw [if_neg n1, if_pos rfl, i_z (by omega), if_neg w0, hits, aLet_k ok hw j8, aLet_k ok (w := w - 1) (by omega) j8]
          have dA := (ok_w ok (w := w - 1) (by omega)).2.2 j j8
          have dB := ow.2.2 j j8
          by_cases y : j = m
          · rw [if_pos ((Lk_lt dA.1 dB.1).mpr (by rw [y]; exact mlt)), if_pos (show w ≠ 0 ∧ m < j + 1 from ⟨w0, by omega⟩), lt_, x_a1, hb]
          · have e := meq j (by omega)
            have n2 : ¬ (w ≠ 0 ∧ m < j + 1) := fun x => by have := x.2; omega
            rw [if_neg (fun x => by have x := (Lk_lt dA.1 dB.1).mp x; omega), if_neg (fun x => by have x := (Lk_lt dB.1 dA.1).mp x; omega), if_neg n2, lt_, x_a1, hb]
    refine ⟨_, _, nI (j + 1), ⟨rfl, rfl, rfl⟩, fun re => ?_⟩
    unfold f_L_isWord_L7
    rw [show (9 : Int32) = nI 9 from rfl, i_lt (by omega) (by omega), if_pos hj, letterOf5 r ok, ob]
    by_cases q : j < G_Z g w
    · have j8 : j < 8 := by omega
      have hd := ow.2.2 j j8
      have h0 := hd.2.mpr q
      have e : aLet g (nI w) (nI j) = nI (96 + G_D g w j) := by
        rw [aLet_in ok hw q, ltr_nI h0]
      have mj : min j (G_Z g w) = j := Nat.min_eq_left (by omega)
      have mj1 : min (j + 1) (G_Z g w) = j + 1 := Nat.min_eq_left (by omega)
      have ne : ¬ nI (96 + G_D g w j) = (-1 : Int32) := fun x => neg_ne (x := -1) (by decide) (a := 96 + G_D g w j) (by omega) x.symm
      rw [e, if_neg ne, show (96 : Int32) = nI 96 from rfl, i_lt (by omega) (by omega), if_pos (by omega), show (123 : Int32) = nI 123 from rfl, i_lt (by omega) (by omega), if_pos (by omega), mj, if_pos rfl, show (8 : Int32) = nI 8 from rfl, i_lt (by omega) (by omega), if_pos j8]
      unfold f_L_isWord_J75
      rw [if_neg (show ¬ (1 : Int32) = 0 by decide), if_neg ne, lt_, x_a1]
      rw [next (nI (j + 1)) re _ e.symm (by rw [mj1])]
    · have e : aLet g (nI w) (nI j) = -1 := by
        rcases Nat.lt_or_ge j 8 with j8 | j8
        · rw [aLet_k ok hw j8, show G_D g w j = 0 from Classical.byContradiction (fun x => q ((ow.2.2 j j8).2.mp x))]
          rfl
        · exact aLet_8 ok j8 (by omega)
      have mj : min j (G_Z g w) = G_Z g w := Nat.min_eq_right (by omega)
      have mj1 : min (j + 1) (G_Z g w) = G_Z g w := Nat.min_eq_right (by omega)
      rw [e, if_pos rfl, if_pos (show (1 : Int32) < nI j by rw [show (1 : Int32) = nI 1 from rfl, x_lt (by omega) (by omega)]; omega), mj]
      unfold f_L_isWord_J75
      rw [if_neg (show ¬ (1 : Int32) = 0 by decide), if_pos rfl, lt_, Int32.add_zero]
      have nx := next (nI (G_Z g w)) re (-1) e.symm (by rw [mj1])
      rw [mj1] at nx
      rw [mj1]
      exact nx
  · rintro a b c ⟨rfl, rfl, rfl⟩ re
    unfold f_L_isWord_L7 f_L_isWord_J160
    rw [if_neg (show ¬ nI 9 < (9 : Int32) by decide), i_z (by omega)]
    by_cases w0 : w = 0
    · rw [if_pos w0]
    · rw [if_neg w0, if_pos (show w ≠ 0 ∧ m < 9 from ⟨w0, hm9 w0⟩)]
      rfl
/-- a candidate agrees with all that was told -/
theorem agreeA (r : RS z g) (h : okX K g) (hs : G_st g ≠ 0) {i : Nat} (hi : bt (G_cd g) i = true) : f_L_doesAgree z (nI i) (nI (G_len g)) = some 1 := by
  have ok := h.1
  have n30 := ok.1
  have gc := ok_gc ok
  have l8 := ok.2.2.2.1
  obtain ⟨l2, hne, ag⟩ := h.2.2.1 hs
  obtain ⟨zi, agi⟩ := ag i hi
  have hin := ok_cd ok hi
  have ow := ok_w ok hin
  obtain ⟨q, q1, q2, q3⟩ := h.2.2.2.2.1
  have letter : ∀ k, k < G_len g → aLet g (nI i) (nI k) = nI (96 + G_D g i k) ∧ G_D g i k ≠ 0 ∧ G_D g i k < 27 := fun k hk => by
    have hd := ow.2.2 k (by omega)
    have h0 := hd.2.mpr (by rw [zi]; exact hk)
    exact ⟨by rw [aLet_in ok hin (by rw [zi]; exact hk), ltr_nI h0], h0, hd.1⟩
  unfold f_L_doesAgree
  refine run1 (fun j a => a = nI j) (fun r => r = some 1) (G_len g) ?_ ?_ FU _ (FU_gt (by omega)) rfl
  · rintro j a hj rfl
    refine ⟨nI (j + 1), rfl, fun re => ?_⟩
    obtain ⟨e1, e2, e3⟩ := letter j hj
    obtain ⟨a1, a2⟩ := agi j hj
    have J : ∀ v : Int32, (v = 0 ∨ (v = 1 ∧ ∃ u, u < G_gc g ∧ G_od g u = nI (96 + G_D g i j))) → f_L_doesAgree_J66 z re (nI j) (nI (96 + G_D g i j)) v = re (nI (j + 1)) := by
      intro v hv
      have sh : aShow g (nI j) = if G_pt g j = 0 then -6 else ltr (G_pt g j) := by
        unfold aShow
        rw [if_pos ⟨pos_n j (by omega), by rw [x_lt (by omega) (by omega)]; exact hj⟩, x_cl (by omega)]
      unfold f_L_doesAgree_J66
      rw [shown5 r ok, ob, sh]
      by_cases p : G_pt g j = 0
      · have v0 : v = 0 := by
          rcases hv with x | ⟨_, u, hu, x⟩
          · exact x
          · obtain ⟨b1, b2, b3⟩ := q1 u hu
            rw [b1, x_eq (by omega) (by omega)] at x
            have := a2 p
            rw [show G_D g i j - 1 = q u by omega, b3] at this
            cases this
        rw [if_pos p, if_pos rfl, if_pos v0, lt_, x_a1]
      · have e4 : ltr (G_pt g j) = nI (96 + G_D g i j) := by
          rw [← a1 p, ltr_nI e2]
        rw [if_neg p, e4, if_neg (fun x => neg_ne (x := -6) (by decide) (a := 96 + G_D g i j) (by omega) x.symm), ob, if_pos rfl, lt_, x_a1]
    unfold f_L_doesAgree_L2
    rw [i_lt (by omega) (by omega), if_pos hj, letterOf5 r ok, ob, e1]
    refine run2 (fun u (a b : Int32) => (a = 0 ∨ (a = 1 ∧ ∃ u, u < G_gc g ∧ G_od g u = nI (96 + G_D g i j))) ∧ b = nI u) (fun r => r = re (nI (j + 1))) (G_gc g) ?_ ?_ FU _ _ (FU_gt (by omega)) ⟨Or.inl rfl, rfl⟩
    · rintro u a b hu ⟨ha, rfl⟩
      have eg : aGuess g (nI u) = G_od g u := by
        unfold aGuess
        rw [if_pos ⟨pos_n u (by omega), by rw [x_lt (by omega) (by omega)]; exact hu⟩, x_cl (by omega)]
      by_cases a0 : a = 0
      · by_cases y : G_od g u = nI (96 + G_D g i j)
        · refine ⟨1, nI (u + 1), ⟨Or.inr ⟨rfl, u, hu, y⟩, rfl⟩, fun re2 => ?_⟩
          unfold f_L_doesAgree_L21
          rw [guesses5 r, ob, i_lt (by omega) (by omega), if_pos hu, show (26 : Int32) = nI 26 from rfl, i_lt (by omega) (by omega), if_pos (by omega), if_pos a0, guessAt5 r ok, ob, eg, if_pos y, lt_, x_a1]
        · refine ⟨0, nI (u + 1), ⟨Or.inl rfl, rfl⟩, fun re2 => ?_⟩
          unfold f_L_doesAgree_L21
          rw [guesses5 r, ob, i_lt (by omega) (by omega), if_pos hu, show (26 : Int32) = nI 26 from rfl, i_lt (by omega) (by omega), if_pos (by omega), if_pos a0, guessAt5 r ok, ob, eg, if_neg y, lt_, x_a1]
      · refine ⟨1, nI (u + 1), ⟨Or.inr ⟨rfl, (ha.resolve_left a0).2⟩, rfl⟩, fun re2 => ?_⟩
        unfold f_L_doesAgree_L21
        rw [guesses5 r, ob, i_lt (by omega) (by omega), if_pos hu, show (26 : Int32) = nI 26 from rfl, i_lt (by omega) (by omega), if_pos (by omega), if_neg a0, lt_, x_a1]
    · rintro a b ⟨ha, rfl⟩ re2
      unfold f_L_doesAgree_L21
      rw [guesses5 r, ob, i_lt (by omega) (by omega), if_neg (by omega)]
      exact J a ha
  · rintro a rfl re
    have e : aLet g (nI i) (nI (G_len g)) = -1 := by
      unfold aLet
      rw [x_cl (show i < 2147483648 by omega), zi, if_pos ⟨pos_n i (by omega), by rw [x_lt (by omega) (by omega)]; exact hin⟩, if_neg (fun x => by have := x.2; rw [x_lt (by omega) (by omega)] at this; omega)]
    unfold f_L_doesAgree_L2 f_L_doesAgree_J102
    rw [i_lt (by omega) (by omega), if_neg (by omega), letterOf5 r ok, ob, e, if_pos rfl]
end WRD
