/-! ===== calls that return error codes: they change nothing ===== -/
theorem sub_m {a y : Nat} (ha : a < 1000) (hy : y < 100000) : ((nI a - nI y).toInt = (a : Int) - y) := by
  rw [fb_subI (by rw [nI_toInt (by omega), nI_toInt (by omega)]; omega) (by rw [nI_toInt (by omega), nI_toInt (by omega)]; omega), nI_toInt (by omega), nI_toInt (by omega)]
theorem m1_neg {y : Nat} (hy : y < 100000) : (-1 : Int32) - nI y < 0 := by
  have e1 : (-1 : Int32).toInt = -1 := by decide
  rw [fa_lt, fb_subI (by rw [e1, nI_toInt (by omega)]; omega) (by rw [e1, nI_toInt (by omega)]; omega), e1, nI_toInt (by omega)]
  show -1 - (y : Int) < 0
  omega
/-- a number at most a, or below 0 -/
theorem sub_or {a y : Nat} (ha : a < 1000) (hy : y < 100000) : nI a - nI y < 0 ∨ ∃ j, j ≤ a ∧ nI a - nI y = nI j := by
  by_cases q : a < y
  · refine Or.inl ?_
    rw [fa_lt, sub_m ha hy]
    show (a : Int) - y < 0
    omega
  · exact Or.inr ⟨a - y, Nat.sub_le _ _, pk_sub (by omega)⟩
theorem noLetter_hi {j : Nat} (h1 : 122 < j) (h2 : j < 2147483648) : f_X5_isLetter (nI j) = some 0 := by
  rw [isLetter5 h2, if_neg (by omega)]
theorem noLetter_lo {y : Nat} (hy : y < 100000) : f_X5_isLetter (nI 96 - nI y) = some 0 := by
  rcases sub_or (a := 96) (by omega) hy with h | ⟨j, h, e⟩
  · exact isLetter5_neg h
  · rw [e, isLetter5 (by omega), if_neg (by omega)]
section REF
variable {T : Tx} {z : St} {V : Sv} {F : Fm} {D : St} {K t : Nat} {g : GS} {ch : Nat → Nat}
theorem fams5_bar (r : RS z g) (ok : okG g) {p : Int32} (h : aBar g p ≠ 0) (F : Fm) : f_X5_families z F p = some (aBar g p, F) := by
  unfold f_X5_families
  rw [bar5 r ok, ob, if_neg h]
theorem fam5_bar (r : RS z g) (ok : okG g) {p : Int32} (h : aBar g p ≠ 0) (F : Fm) (x y : Int32) : f_X5_family z F p x y = some (aBar g p, F) := by
  unfold f_X5_family
  rw [bar5 r ok, ob, if_neg h]
theorem spread5_bar (r : RS z g) (ok : okG g) {p : Int32} (h : aBar g p ≠ 0) (F : Fm) : f_X5_spread z F p = some (aBar g p, F) := by
  unfold f_X5_spread
  rw [bar5 r ok, ob, if_neg h]
theorem bar_m2 {p : Int32} (h : f_X5_isLetter p = some 0) : aBar g p = -2 := if_pos h
theorem bar_m3 {c : Nat} (hc : c < 26) (hs : G_st g ≠ 1) : aBar g (nI (97 + c)) = -3 := by
  have e : f_X5_isLetter (nI (97 + c)) = some 1 := by rw [isLetter5 (by omega), if_pos (by omega)]
  unfold aBar
  rw [e, if_neg (by decide)]
  first | exact if_neg hs | exact if_pos hs
theorem hav_bad {p : Int32} (h : f_X5_isLetter p = some 0) : f_X5_having z p = some (-2) := by
  unfold f_X5_having
  rw [h, ob, if_pos rfl]
theorem aLet_hi {w : Nat} (h1 : G_n g ≤ w) (h2 : w < 2147483648) (q : Int32) : aLet g (nI w) q = -1 := by
  unfold aLet
  rw [if_neg (fun x => by have := x.2; rw [x_lt h2 (by omega)] at this; omega)]
theorem aLet_neg {p : Int32} (h : p < 0) (q : Int32) : aLet g p q = -1 := by
  unfold aLet
  rw [if_neg (neg_c h _)]
theorem aLet_neg2 (p : Int32) {q : Int32} (h : q < 0) : aLet g p q = -1 := by
  unfold aLet
  by_cases y : 0 ≤ p ∧ p < nI (G_n g)
  · rw [if_pos y, if_neg (neg_c h _)]
  · rw [if_neg y]
theorem aTot_neg {p : Int32} (h : p < 0) : aTot g p = -2 := by
  unfold aTot
  rw [if_neg (neg_c h _)]
theorem aTot_hi {j : Nat} (h1 : 7 ≤ j) (h2 : j < 2147483648) : aTot g (nI j) = -2 := by
  unfold aTot
  rw [if_neg (fun x => by have := x.2; rw [x_lt h2 (by omega)] at this; omega)]
theorem ref304 (r : RS z g) (h : okX K g) (T : Tx) (V : Sv) (F : Fm) : f_L_refuses_J304 T z V F = some (1, T, z, V, F) := by
  have ok := h.1
  have gc := ok_gc ok
  have s3 := ok.2.2.1
  unfold f_L_refuses_J304
  rw [guesses5 r, ob, i_z (by omega)]
  by_cases q : G_gc g = 0
  · rw [if_pos q]
  · rw [if_neg q, status5 r, ob, show (1 : Int32) = nI 1 from rfl, i_eq (by omega) (by omega)]
    by_cases s : G_st g = 1
    · obtain ⟨f, f1, f2, f3⟩ := h.2.2.2.2.1
      obtain ⟨a1, a2, a3⟩ := f1 0 (by omega)
      have e : aGuess g 0 = nI (97 + f 0) := by
        unfold aGuess
        rw [if_pos ⟨by decide, by rw [show (0 : Int32) = nI 0 from rfl, x_lt (by omega) (by omega)]; omega⟩]
        exact a1
      rw [if_pos s, guessAt5 r ok, ob, e, guess5_none r ok s a2 a3, ob, if_pos (show ((-6 : Int32), z, V, F).1 = -6 from rfl)]
    · rw [if_neg s]
theorem refA (r : RS z g) (tx : TXr T t ch) (h : okX K g) {y : Nat} (hy : y < 100000) (V : Sv) (F : Fm) : f_L_refuses T z V F (nI y) = some (1, T, z, V, F) := by
  have ok := h.1
  have n30 := ok.1
  have neg := m1_neg hy
  have a1 : f_X5_removeWord z V (nI (G_n g) + nI y) = some (-1, z, V) := by
    rw [nI_add]
    exact rem5_bad r ok (Or.inr ⟨G_n g + y, by omega, by omega, rfl⟩)
  have a2 : f_X5_removeWord z V ((-1 : Int32) - nI y) = some (-1, z, V) := rem5_bad r ok (Or.inl neg)
  have a3 : f_X5_letterOf z (nI (G_n g) + nI y) (0 : Int32) = some (-1) := by
    rw [letterOf5 r ok, nI_add, aLet_hi (by omega) (by omega)]
  have a4 : f_X5_letterOf z (0 : Int32) ((-1 : Int32) - nI y) = some (-1) := by
    rw [letterOf5 r ok, aLet_neg2 _ neg]
  have a5 : f_X5_setPolicy z V ((3 : Int32) + nI y) = some (-2, z, V) := by
    rw [show (3 : Int32) + nI y = nI (3 + y) from nI_add 3 y]
    exact pol5_bad (Or.inr ⟨3 + y, by omega, by omega, rfl⟩)
  have a6 : f_X5_setPolicy z V ((-1 : Int32) - nI y) = some (-2, z, V) := pol5_bad (Or.inl neg)
  have a7 : f_X5_start z V ((9 : Int32) + nI y) (1 : Int32) = some (-2, z, V) := by
    rw [show (9 : Int32) + nI y = nI (9 + y) from nI_add 9 y]
    exact start5_bad (Or.inr (Or.inl (by rw [show (8 : Int32) = nI 8 from rfl, x_lt (by omega) (by omega)]; omega)))
  have a8 : f_X5_start z V (1 : Int32) (1 : Int32) = some (-2, z, V) := start5_bad (Or.inl (by decide))
  have a9 : f_X5_start z V (4 : Int32) (0 : Int32) = some (-2, z, V) := start5_bad (Or.inr (Or.inr (Or.inl (by decide))))
  have a10 : f_X5_start z V (4 : Int32) ((21 : Int32) + nI y) = some (-2, z, V) := by
    rw [show (21 : Int32) + nI y = nI (21 + y) from nI_add 21 y]
    exact start5_bad (Or.inr (Or.inr (Or.inr (by rw [show (20 : Int32) = nI 20 from rfl, x_lt (by omega) (by omega)]; omega))))
  have l1 : f_X5_isLetter ((123 : Int32) + nI y) = some 0 := by
    rw [show (123 : Int32) + nI y = nI (123 + y) from nI_add 123 y]
    exact noLetter_hi (by omega) (by omega)
  have l2 : f_X5_isLetter ((96 : Int32) - nI y) = some 0 := noLetter_lo hy
  have l3 : f_X5_isLetter (96 : Int32) = some 0 := noLetter_lo (y := 0) (by omega)
  have l4 : f_X5_isLetter (123 : Int32) = some 0 := noLetter_hi (j := 123) (by omega) (by omega)
  have a11 := guess5_bad (z := z) (V := V) l1 F
  have a12 := guess5_bad (z := z) (V := V) l2 F
  have m2 : ∀ p : Int32, f_X5_isLetter p = some 0 → aBar g p ≠ 0 := fun p hp => by rw [bar_m2 hp]; decide
  have a13 := fams5_bar r ok (m2 _ l2) F
  have a14 := fam5_bar r ok (m2 _ l1) F 0 0
  have a15 := spread5_bar r ok (m2 _ l3) F
  rw [bar_m2 l2] at a13
  rw [bar_m2 l1] at a14
  rw [bar_m2 l3] at a15
  have a16 := hav_bad (z := z) l4
  have a17 : f_X5_total z ((7 : Int32) + nI y) = some (-2) := by
    rw [total5 r, show (7 : Int32) + nI y = nI (7 + y) from nI_add 7 y, aTot_hi (by omega) (by omega)]
  have a18 : f_X5_total z ((-1 : Int32) - nI y) = some (-2) := by
    rw [total5 r, aTot_neg neg]
  have a19 : f_X5_type T ((32 : Int32) - nI y) = some (-2, T) := by
    rcases sub_or (a := 32) (by omega) hy with q | ⟨j, q, e⟩
    · exact type5_bad (Or.inl q)
    · exact type5_bad (Or.inr ⟨j, by omega, by omega, e⟩)
  have a20 : f_X5_type T ((127 : Int32) + nI y) = some (-2, T) := by
    rw [show (127 : Int32) + nI y = nI (127 + y) from nI_add 127 y]
    exact type5_bad (Or.inr ⟨127 + y, by omega, by omega, rfl⟩)
  have J : f_L_refuses_J257 T z V F 1 = some (1, T, z, V, F) := by
    have s3 := ok.2.2.1
    unfold f_L_refuses_J257
    rw [if_neg (show ¬ (1 : Int32) = 0 by decide), status5 r, ob]
    have b1 : ∀ {α : Type} (x y : α), (if nI (G_st g) = 1 then x else y) = if G_st g = 1 then x else y := fun x y => i_eq (b := 1) (by omega) (by omega)
    rw [b1]
    by_cases s : G_st g = 1
    · rw [if_pos s]; exact ref304 r h T V F
    · have c1 : f_X5_guess z V F (97 : Int32) = some (-3, z, V, F) := guess5_no r ok s (b := 0) (by omega) F
      have c2 : f_X5_giveUp z V = some (-3, z, V) := give5_no r ok s
      have c3 : f_X5_family z F (97 : Int32) (-1 : Int32) (9 : Int32) = some (-3, F) := by
        have e : aBar g (97 : Int32) = -3 := bar_m3 (c := 0) (by omega) s
        rw [fam5_bar r ok (by rw [e]; decide), e]
      rw [if_neg s, c1, ob]
      dsimp only
      rw [if_pos rfl, c2, ob]
      dsimp only
      rw [if_pos rfl, c3, ob]
      dsimp only
      rw [if_pos rfl]
      exact ref304 r h T V F
  unfold f_L_refuses
  rw [words5 r, ob, a1, ob]
  dsimp only
  rw [if_pos rfl, a2, ob]
  dsimp only
  rw [if_pos rfl, a3, ob, if_pos rfl, a4, ob, if_pos rfl, a5, ob]
  dsimp only
  rw [if_pos rfl, a6, ob]
  dsimp only
  rw [if_pos rfl, a7, ob]
  dsimp only
  rw [if_pos rfl, a8, ob]
  dsimp only
  rw [if_pos rfl, a9, ob]
  dsimp only
  rw [if_pos rfl, a10, ob]
  dsimp only
  rw [if_pos rfl, a11, ob]
  dsimp only
  rw [if_pos rfl, a12, ob]
  dsimp only
  rw [if_pos rfl, a13, ob]
  dsimp only
  rw [if_pos rfl, a14, ob]
  dsimp only
  rw [if_pos rfl, a15, ob]
  dsimp only
  rw [if_pos rfl, a16, ob, if_pos rfl, a17, ob, if_pos rfl, a18, ob, if_pos rfl, a19, ob]
  dsimp only
  rw [if_pos rfl, a20, ob]
  dsimp only
  rw [if_pos rfl]
  exact J
end REF
