/-! ===== all that the law asks of one object ===== -/
theorem pos_of {x : Int32} (h : bt x 31 = false) : ∃ n, n < 2147483648 ∧ x = nI n := by
  obtain ⟨n, hn, rfl⟩ := wb_of32 x
  refine ⟨n, Nat.lt_pow_two_of_testBit (n := 31) n (fun i hi => ?_), rfl⟩
  rcases Nat.lt_or_ge i 32 with q | q
  · have : i = 31 := by omega
    subst this
    rw [← bt_nI n 31 (by omega)]
    exact h
  · exact Nat.testBit_lt_two_pow (Nat.lt_of_lt_of_le hn (Nat.pow_le_pow_right (n := 2) (by omega) q))
theorem sureN_in (g : GS) (a : Int32) (i : Nat) : ∀ n, bt (sureN g a n) i = true → bt a i = true
  | 0, h => h
  | n + 1, h => by
    have h : bt (if bt (G_cd g) n = true then sureN g a n &&& lts (G_D g n) else sureN g a n) i = true := h
    by_cases q : bt (G_cd g) n = true
    · rw [if_pos q, b_and, Bool.and_eq_true] at h
      exact sureN_in g a i n h.1
    · rw [if_neg q] at h
      exact sureN_in g a i n h
theorem aSure_pos (g : GS) : ¬ aSure g < 0 := by
  have h : bt (aSure g) 31 = false := by
    unfold aSure
    rw [b_and]
    cases e : bt (sureN g 67108863 (G_n g)) 31
    · rfl
    · have := sureN_in g _ _ _ e
      rw [show bt 67108863 31 = false by decide] at this
      cases this
  obtain ⟨n, hn, e⟩ := pos_of h
  rw [e]
  exact nI_pos hn
section LV
variable {g : GS}
theorem gMiss_lv (nar : Bool) : G_lv (gMiss g nar) = G_lv g - 1 ∧ G_tot (gMiss g nar) 5 = G_tot g 5 + 1 := by
  unfold gMiss
  by_cases q : G_lv g - 1 = 0
  · rw [if_pos q]
    cases nar
    · exact ⟨rfl, rfl⟩
    · exact ⟨rfl, rfl⟩
  · rw [if_neg q]
    cases nar
    · exact ⟨rfl, rfl⟩
    · exact ⟨rfl, rfl⟩
theorem guess_lv (h1 : 1 ≤ G_lv g) (c : Nat) : G_lv (gGuess g c) ≤ G_lv g ∧ G_tot (gGuess g c) 5 = G_tot g 5 + nI (G_lv g - G_lv (gGuess g c)) := by
  unfold gGuess gTake
  by_cases q : gM g c = 0
  · rw [if_pos q]
    obtain ⟨a, b⟩ := gMiss_lv (g := U_cd (gNote g c) (gE g c)) (decide (1 < (gF g c).2.2))
    have a : G_lv (gMiss (U_cd (gNote g c) (gE g c)) (decide (1 < (gF g c).2.2))) = G_lv g - 1 := a
    have b : G_tot (gMiss (U_cd (gNote g c) (gE g c)) (decide (1 < (gF g c).2.2))) 5 = G_tot g 5 + 1 := b
    rw [a, b, show G_lv g - (G_lv g - 1) = 1 by omega]
    exact ⟨Nat.sub_le _ _, rfl⟩
  · rw [if_neg q]
    have z : G_tot g 5 = G_tot g 5 + nI (G_lv g - G_lv g) := by
      rw [Nat.sub_self, show nI 0 = 0 from rfl, Int32.add_zero]
    by_cases w : szN (G_pt (gShow g c (gM g c) (gE g c))) = G_len g
    · rw [if_pos w]
      exact ⟨Nat.le_refl _, z⟩
    · rw [if_neg w]
      exact ⟨Nat.le_refl _, z⟩
theorem gA_lv (ok : okG g) (rn : okR g) : ∀ k, (∀ j, j < k → G_st (gA g j) = 1) → G_lv (gA g k) ≤ G_lv g ∧ G_tot (gA g k) 5 = G_tot g 5 + nI (G_lv g - G_lv (gA g k))
  | 0, _ => by
    refine ⟨Nat.le_refl _, ?_⟩
    show G_tot g 5 = G_tot g 5 + nI (G_lv g - G_lv g)
    rw [Nat.sub_self, show nI 0 = 0 from rfl, Int32.add_zero]
  | k + 1, h => by
    obtain ⟨o, c, e⟩ := gA_ok ok rn k (fun j hj => h j (by omega))
    obtain ⟨i1, i2⟩ := gA_lv ok rn k (fun j hj => h j (by omega))
    have r := o.2.2.2.2.2.2.2.2.2.2.2.2 (h k (by omega))
    obtain ⟨b, b1, b2, b3, b4⟩ := step_p o r
    obtain ⟨g1, g2⟩ := guess_lv r.2.2.2.2.2 b
    show G_lv (gStep (gA g k)) ≤ G_lv g ∧ G_tot (gStep (gA g k)) 5 = G_tot g 5 + nI (G_lv g - G_lv (gStep (gA g k)))
    rw [b4]
    refine ⟨by omega, ?_⟩
    rw [g2, i2, Int32.add_assoc, nI_add]
    refine congrArg (fun x => G_tot g 5 + nI x) ?_
    omega
theorem ahead_val (ok : okG g) (rn : okR g) {k : Nat} (hk : ∀ j, j < k → G_st (gA g j) = 1) : G_tot (gA g k) 5 - G_tot g 5 = nI (G_lv g - G_lv (gA g k)) := by
  rw [(gA_lv ok rn k hk).2, Int32.add_comm, Int32.add_sub_cancel]
theorem ahead5_no {z : St} (r : RS z g) (ok : okG g) (hs : G_st g ≠ 1) (D : St) (F : Fm) : f_X5_missesAhead z D F = some (-3, D, F) := by
  unfold f_X5_missesAhead
  rw [runs2 r ok, ob, if_neg hs, if_pos rfl]
theorem aHav_0 (hs : G_st g = 0) (c : Nat) : aHav g c = -3 := if_pos hs
theorem aHav_pos (ok : okG g) (hs : G_st g ≠ 0) (c : Nat) : ¬ aHav g c < 0 := by
  have := ok.1
  have := fb_ct_le (hvB g c) (G_n g)
  unfold aHav
  rw [if_neg hs]
  exact nI_pos (by omega)
theorem memA_no {x p : Int32} (h : ∀ j, bt x j = true → nI (bc x j) ≠ p) : memA x p = -1 := by
  unfold memA
  by_cases q : memAt x p 30 < 30
  · obtain ⟨a, b⟩ := memF_1.mp (look_at (f := memF x p) q)
    exact absurd b (h _ a)
  · rw [if_neg q]
theorem bc_lt {x : Int32} {j N : Nat} (hj : bt x j = true) (hN : j < N) : bc x j < bc x N := by
  have h1 := fb_ct_mono (bt x) (m := j + 1) (n := N) (by omega)
  have h2 : fb_ct (bt x) (j + 1) = fb_ct (bt x) j + 1 := by rw [fb_ct_succ, if_pos hj]
  show fb_ct (bt x) j < fb_ct (bt x) N
  omega
end LV
section HANG
variable {z : St} {g : GS} {K : Nat}
/-- the last of it: totals -/
theorem h564 (r : RS z g) (h : okX K g) (hK : K < 100000) (D : St) (F : Fm) {v : Int32} (hv : v = if G_st g = 1 then 1 else 0) : f_L_hangs_J564 z v D F 1 = some (1, D, F) := by
  have ok := h.1
  have gc := ok_gc ok
  obtain ⟨T, t1, t2, t3, t4, t5, t6⟩ := h.2.2.2.2.2
  have tot : ∀ k, k < 7 → f_X5_total z (nI k) = some (nI (T k)) := fun k hk => by
    rw [total5 r]
    unfold aTot
    rw [if_pos ⟨pos_n k (by omega), by rw [x_lt (by omega) (by omega)]; exact hk⟩, x_cl (by omega), t1 k hk]
  have e0 : f_X5_total z (0 : Int32) = some (nI (T 0)) := tot 0 (by omega)
  have e1 : f_X5_total z (1 : Int32) = some (nI (T 1)) := tot 1 (by omega)
  have e2 : f_X5_total z (2 : Int32) = some (nI (T 2)) := tot 2 (by omega)
  have e3 : f_X5_total z (3 : Int32) = some (nI (T 3)) := tot 3 (by omega)
  have e4 : f_X5_total z (4 : Int32) = some (nI (T 4)) := tot 4 (by omega)
  have e5 : f_X5_total z (5 : Int32) = some (nI (T 5)) := tot 5 (by omega)
  have e6 : f_X5_total z (6 : Int32) = some (nI (T 6)) := tot 6 (by omega)
  have hv2 : v = nI (if G_st g = 1 then 1 else 0) := by
    rw [hv]
    by_cases q : G_st g = 1
    · rw [if_pos q, if_pos q]; rfl
    · rw [if_neg q, if_neg q]; rfl
  have o1 : (if G_st g = 1 then 1 else 0) ≤ 1 := by
    by_cases q : G_st g = 1
    · rw [if_pos q]; omega
    · rw [if_neg q]; omega
  generalize (if G_st g = 1 then 1 else 0) = o at *
  unfold f_L_hangs_J564
  rw [if_neg (show ¬ (1 : Int32) = 0 by decide), e0, ob, e1, ob, e2, ob, hv2, nI_add, nI_add, i_lt (by omega) (by omega), if_neg (by omega), e3, ob, guesses5 r, ob, i_lt (by omega) (by omega), if_neg (by omega), e5, ob, e6, ob, i_lt (by omega) (by omega), if_neg (by omega), ob, ob, e4, ob, nI_add, i_lt (by omega) (by omega), if_neg (by omega)]
theorem h495 (r : RS z g) (h : okX K g) (hK : K < 100000) (D : St) (F : Fm) {v : Int32} (hv : v = if G_st g = 1 then 1 else 0) : ∃ D' F', f_L_hangs_J495 z (nI (G_st g)) (nI (bc (G_cd g) 31)) v D F = some (1, D', F') := by
  have ok := h.1
  have s3 := ok.2.2.1
  have b31 := bc_le (G_cd g) 31
  have b1 : ∀ {α : Type} (x y : α), (if nI (G_st g) = 1 then x else y) = if G_st g = 1 then x else y := fun x y => i_eq (b := 1) (by omega) (by omega)
  have b2 : ∀ {α : Type} (x y : α), (if nI (G_st g) = 2 then x else y) = if G_st g = 2 then x else y := fun x y => i_eq (b := 2) (by omega) (by omega)
  have c1 : ∀ {α : Type} (x y : α), (if nI (bc (G_cd g) 31) = 1 then x else y) = if bc (G_cd g) 31 = 1 then x else y := fun x y => i_eq (b := 1) (by omega) (by omega)
  unfold f_L_hangs_J495
  by_cases s : G_st g = 1
  · rw [b1, if_pos s, b2, if_neg (by omega), h564 r h hK D F hv]
    exact ⟨_, _, rfl⟩
  · have ew := bestG5 r ok F
    rw [if_neg s] at ew
    obtain ⟨F1, e1⟩ := ew
    have e3 := sure5 r ok
    rw [if_neg s] at e3
    have m3 : aBar g (100 : Int32) = -3 := bar_m3 (c := 3) (by omega) s
    have n3 : aBar g (100 : Int32) ≠ 0 := by rw [m3]; decide
    have e4 := fams5_bar r ok n3 F1
    have e5 := spread5_bar r ok n3 F1
    rw [m3] at e4 e5
    rw [b1, if_neg s, e1, ob]
    dsimp only
    rw [if_pos rfl, ahead5_no r ok s, ob]
    dsimp only
    rw [if_pos rfl, e3, ob, if_pos rfl, e4, ob]
    dsimp only
    rw [if_pos rfl, e5, ob]
    dsimp only
    rw [if_pos rfl, b2]
    by_cases s2 : G_st g = 2
    · rw [if_pos s2, c1, if_pos (h.2.2.2.1 s2), h564 r h hK D F1 hv]
      exact ⟨_, _, rfl⟩
    · rw [if_neg s2, h564 r h hK D F1 hv]
      exact ⟨_, _, rfl⟩
theorem h449 (r : RS z g) (h : okX K g) (hK : K < 100000) (D : St) (F : Fm) {v : Int32} (hv : v = if G_st g = 1 then 1 else 0) : ∃ D' F', f_L_hangs_J449 z (nI (G_st g)) (nI (bc (G_cd g) 31)) v D F = some (1, D', F') := by
  have ok := h.1
  have s3 := ok.2.2.1
  have lv20 := ok.2.2.2.2.1
  have b1 : ∀ {α : Type} (x y : α), (if nI (G_st g) = 1 then x else y) = if G_st g = 1 then x else y := fun x y => i_eq (b := 1) (by omega) (by omega)
  unfold f_L_hangs_J449
  by_cases s : G_st g = 1
  · have rn := ok.2.2.2.2.2.2.2.2.2.2.2.2 s
    have lv1 := rn.2.2.2.2.2
    have ew := bestG5 r ok F
    rw [if_pos s] at ew
    obtain ⟨F1, e1⟩ := ew
    obtain ⟨c, c1, c2, c3⟩ := gBest_p (letter_left ok rn)
    obtain ⟨k, hk⟩ := gLast_ex ok rn
    have val := ahead_val ok rn hk.2.2
    obtain ⟨D2, F2, e2⟩ := ahead2 r ok rn s hk D F1
    obtain ⟨D3, F3, e3⟩ := ahead2 r ok rn s hk D2 F2
    rw [val] at e2 e3
    have e4 := sure5 r ok
    rw [if_pos s] at e4
    rw [b1, if_pos s, lives5 r, ob, i_p (by omega), if_pos (by omega), e1, ob]
    dsimp only
    rw [c3, if_pos (show (96 : Int32) < nI (97 + c) by rw [show (96 : Int32) = nI 96 from rfl, x_lt (by omega) (by omega)]; omega), e2, ob]
    dsimp only
    rw [ob, i_lt (by omega) (by omega), if_neg (by omega), e3, ob]
    dsimp only
    rw [i_n (by omega), e4, ob, if_neg (aSure_pos g)]
    exact h495 r h hK D3 F3 hv
  · rw [b1, if_neg s]
    exact h495 r h hK D F hv
theorem h382 (r : RS z g) (h : okX K g) (hK : K < 100000) (D : St) (F : Fm) {v : Int32} (hv : v = if G_st g = 1 then 1 else 0) : ∃ D' F', f_L_hangs_J382 z (nI (G_st g)) (nI (bc (G_cd g) 31)) 1 (nI (G_len g)) D F v = some (1, D', F') := by
  have ok := h.1
  have s3 := ok.2.2.1
  have l8 := ok.2.2.2.1
  have n30 := ok.1
  unfold f_L_hangs_J382
  rw [if_neg (show ¬ (1 : Int32) = 0 by decide), i_z (by omega)]
  by_cases s : G_st g = 0
  · obtain ⟨x1, x2, x3, x4⟩ := h.2.1 s
    have x5 : bc (G_cd g) 31 = 0 := by
      rw [x2]
      exact fb_ct_zero.mpr (fun k _ => b_0 k)
    have e1 : f_X5_having z (97 : Int32) = some (aHav g 0) := having5 r ok (c := 0) (by omega)
    have fin := h449 r h hK D F hv
    rw [if_pos s, x1, if_pos (show nI 0 = 0 from rfl), x5, if_pos (show nI 0 = 0 from rfl), guesses5 r, ob, x3, if_pos (show nI 0 = 0 from rfl), lives5 r, ob, x4, if_pos (show nI 0 = 0 from rfl), e1, ob, aHav_0 s, if_pos rfl]
    rw [x5] at fin
    exact fin
  · obtain ⟨x1, ⟨i, hi⟩, x3⟩ := h.2.2.1 s
    have i30 := ok_cd ok hi
    have pos := bc_lt (N := 31) hi (by omega)
    have b31 := bc_le (G_cd g) 31
    have e1 : f_X5_having z (97 : Int32) = some (aHav g 0) := having5 r ok (c := 0) (by omega)
    rw [if_neg s, show (1 : Int32) = nI 1 from rfl, i_lt (by omega) (by omega), if_pos (by omega), i_p (by omega), if_pos (by omega), e1, ob, if_neg (aHav_pos ok s 0)]
    exact h449 r h hK D F hv
/-- the candidates, one behind the other -/
theorem h298 (r : RS z g) (h : okX K g) (hK : K < 100000) (D : St) (F : Fm) : ∃ D' F', f_L_hangs_J298 z (nI (G_n g)) (nI (G_st g)) (nI (bc (G_cd g) 31)) 1 (nI (G_len g)) D F = some (1, D', F') := by
  have ok := h.1
  have n30 := ok.1
  have s3 := ok.2.2.1
  have b31 := bc_le (G_cd g) 31
  have b1 : ∀ {α : Type} (x y : α), (if nI (G_st g) = 1 then x else y) = if G_st g = 1 then x else y := fun x y => i_eq (b := 1) (by omega) (by omega)
  unfold f_L_hangs_J298
  refine run3 (fun j a b c => a = 1 ∧ ((j = 0 ∧ b = -1) ∨ ∃ i, bt (G_cd g) i = true ∧ bc (G_cd g) i + 1 = j ∧ b = nI i) ∧ c = nI j) (fun r => ∃ D' F', r = some (1, D', F')) (bc (G_cd g) 31) ?_ ?_ FU _ _ _ (FU_gt (by omega)) ⟨rfl, Or.inl ⟨rfl, rfl⟩, rfl⟩
  · rintro j a b c hj ⟨rfl, hb, rfl⟩
    obtain ⟨i, i1, i2, i3⟩ := fb_ct_kth hj
    have i30 := ok_cd ok i2
    have st : G_st g ≠ 0 := fun s => by
      rw [(h.2.1 s).2.1, b_0] at i2
      cases i2
    have ec : f_X5_candidate z (nI j) = some (nI i) := by
      have e := memA_k ok i2
      have i3 : bc (G_cd g) i = j := i3
      rw [i3] at e
      rw [cand5 r, e]
    have less : b < nI i := by
      rcases hb with ⟨_, rfl⟩ | ⟨i', j1, j2, rfl⟩
      · exact neg_lt (by decide) (by omega)
      · have j30 := ok_cd ok j1
        rw [x_lt (by omega) (by omega)]
        refine Nat.not_le.mp (fun q => ?_)
        have := fb_ct_mono (bt (G_cd g)) q
        have i3 : fb_ct (bt (G_cd g)) i = j := i3
        have j2 : fb_ct (bt (G_cd g)) i' + 1 = j := j2
        omega
    refine ⟨1, nI i, nI (j + 1), ⟨rfl, Or.inr ⟨i, i2, by have i3 : bc (G_cd g) i = j := i3; omega, rfl⟩, rfl⟩, fun re => ?_⟩
    unfold f_L_hangs_L304
    rw [i_lt (by omega) (by omega), if_pos hj, if_neg (show ¬ (1 : Int32) = 0 by decide), ec, ob, if_pos less, ob, i_lt (by omega) (by omega), if_pos i30, ob, agreeA r h st i2, ob, if_neg (show ¬ (1 : Int32) = 0 by decide), ob, lt_, x_a1]
  · rintro a b c ⟨rfl, hb, rfl⟩ re
    unfold f_L_hangs_L304
    rw [i_lt (by omega) (by omega), if_neg (by omega), b1]
    by_cases s : G_st g = 1
    · rw [if_pos s]
      exact h382 r h hK D F (if_pos s).symm
    · rw [if_neg s]
      exact h382 r h hK D F (if_neg s).symm
/-- the letters that were guessed: no two alike -/
theorem h214 (r : RS z g) (h : okX K g) (hK : K < 100000) (D : St) (F : Fm) : ∃ D' F', f_L_hangs_J214 z (nI (G_n g)) (nI (G_st g)) (nI (bc (G_cd g) 31)) 1 (nI (G_len g)) D F = some (1, D', F') := by
  have ok := h.1
  have gc := ok_gc ok
  obtain ⟨q, q1, q2, q3⟩ := h.2.2.2.2.1
  unfold f_L_hangs_J214
  refine run3 (fun j a b c => a = 1 ∧ (∀ d, d < 32 → (bt b d = true ↔ ∃ i, i < j ∧ q i = d)) ∧ c = nI j) (fun r => ∃ D' F', r = some (1, D', F')) (G_gc g) ?_ ?_ FU _ _ _ (FU_gt (by omega)) ⟨rfl, fun d _ => ⟨fun x => absurd x (by rw [b_0]; decide), fun ⟨i, hi, _⟩ => absurd hi (Nat.not_lt_zero _)⟩, rfl⟩
  · rintro j a b c hj ⟨rfl, hb, rfl⟩
    obtain ⟨a1, a2, a3⟩ := q1 j hj
    have eg : aGuess g (nI j) = nI (97 + q j) := by
      unfold aGuess
      rw [if_pos ⟨pos_n j (by omega), by rw [x_lt (by omega) (by omega)]; exact hj⟩, x_cl (by omega), a1]
    have b0 : bt b (q j) = false := by
      cases e : bt b (q j)
      · rfl
      · obtain ⟨i, i1, i2⟩ := (hb (q j) (by omega)).mp e
        exact absurd i2 (q2 i j i1 hj)
    refine ⟨1, b ||| bit (q j), nI (j + 1), ⟨rfl, fun d hd => ?_, rfl⟩, fun re => ?_⟩
    · rw [b_or, Bool.or_eq_true, show bt (bit (q j)) d = decide (d = q j) from bt_p _ d (by omega) hd, decide_eq_true_eq, hb d hd]
      constructor
      · rintro (⟨i, i1, i2⟩ | e)
        · exact ⟨i, by omega, i2⟩
        · exact ⟨j, by omega, e.symm⟩
      · rintro ⟨i, i1, i2⟩
        rcases (show i < j ∨ i = j by omega) with y | y
        · exact Or.inl ⟨i, y, i2⟩
        · rw [y] at i2
          exact Or.inr i2.symm
    · unfold f_L_hangs_L220
      rw [guesses5 r, ob, i_lt (by omega) (by omega), if_pos hj, if_neg (show ¬ (1 : Int32) = 0 by decide), guessAt5 r ok, ob, eg, lt_, show nI (97 + q j) - (97 : Int32) = nI (q j) by rw [show (97 : Int32) = nI 97 from rfl, pk_sub (by omega), show 97 + q j - 97 = q j by omega], i_n (by omega), show (26 : Int32) = nI 26 from rfl, i_lt (by omega) (by omega), if_pos a2]
      simp only [sh_0 b (q j) (show q j < 32 by omega)]
      rw [if_pos b0]
      unfold f_L_hangs_J272
      rw [if_neg (show ¬ (1 : Int32) = 0 by decide), lt_, lt_, x_a1]
  · rintro a b c ⟨rfl, hb, rfl⟩ re
    unfold f_L_hangs_L220
    rw [guesses5 r, ob, i_lt (by omega) (by omega), if_neg (by omega)]
    exact h298 r h hK D F
theorem aShow_out {k : Nat} (h1 : G_len g ≤ k) (h2 : k < 2147483648) : aShow g (nI k) = -1 := by
  unfold aShow
  rw [if_neg (fun x => by have := x.2; rw [x_lt h2 (by omega)] at this; omega)]
theorem h188 (r : RS z g) (h : okX K g) (hK : K < 100000) (D : St) (F : Fm) : ∃ D' F', f_L_hangs_J188 z (nI (G_n g)) (nI (G_st g)) (nI (bc (G_cd g) 31)) 1 D F = some (1, D', F') := by
  have ok := h.1
  have l8 := ok.2.2.2.1
  unfold f_L_hangs_J188
  refine run1 (fun j a => a = nI j) (fun r => ∃ D' F', r = some (1, D', F')) (G_len g) ?_ ?_ FU _ (FU_gt (by omega)) rfl
  · rintro j a hj rfl
    refine ⟨nI (j + 1), rfl, fun re => ?_⟩
    have sh : aShow g (nI j) = if G_pt g j = 0 then -6 else ltr (G_pt g j) := by
      unfold aShow
      rw [if_pos ⟨pos_n j (by omega), by rw [x_lt (by omega) (by omega)]; exact hj⟩, x_cl (by omega)]
    have pt := ok.2.2.2.2.2.2.2.2.2.2.1 j (by omega)
    have ne : ¬ aShow g (nI j) = -1 := by
      rw [sh]
      by_cases q : G_pt g j = 0
      · rw [if_pos q]; decide
      · rw [if_neg q, ltr_nI q]
        exact fun x => neg_ne (x := -1) (by decide) (a := 96 + G_pt g j) (by omega) x.symm
    unfold f_L_hangs_L191
    rw [show (8 : Int32) = nI 8 from rfl, i_lt (by omega) (by omega), if_pos (by omega), shown5 r ok, ob, if_neg ne, lt_, x_a1]
  · rintro a rfl re
    unfold f_L_hangs_L191
    rw [show (8 : Int32) = nI 8 from rfl, i_lt (by omega) (by omega)]
    by_cases q : G_len g < 8
    · rw [if_pos q, shown5 r ok, ob, aShow_out (Nat.le_refl _) (by omega), if_pos rfl]
      exact h214 r h hK D F
    · rw [if_neg q]
      exact h214 r h hK D F
theorem h158 (r : RS z g) (h : okX K g) (hK : K < 100000) (D : St) (F : Fm) : ∃ D' F', f_L_hangs_J158 z (nI (G_n g)) (nI (G_st g)) (nI (bc (G_cd g) 31)) D F 1 = some (1, D', F') := by
  have ok := h.1
  have n30 := ok.1
  unfold f_L_hangs_J158
  refine run2 (fun j a b => a = 1 ∧ b = nI j) (fun r => ∃ D' F', r = some (1, D', F')) (G_n g) ?_ ?_ FU _ _ (FU_gt (by omega)) ⟨rfl, rfl⟩
  · rintro j a b hj ⟨rfl, rfl⟩
    refine ⟨1, nI (j + 1), ⟨rfl, rfl⟩, fun re => ?_⟩
    unfold f_L_hangs_L163
    rw [i_lt (by omega) (by omega), if_pos hj, if_neg (show ¬ (1 : Int32) = 0 by decide), isWordA r ok hj, ob, lt_, x_a1]
  · rintro a b ⟨rfl, rfl⟩ re
    unfold f_L_hangs_L163
    rw [i_lt (by omega) (by omega), if_neg (by omega)]
    exact h188 r h hK D F
theorem hangsA (r : RS z g) (h : okX K g) (hK : K < 100000) (D : St) (F : Fm) : ∃ D' F', f_L_hangs z D F = some (1, D', F') := by
  have ok := h.1
  have n30 := ok.1
  have s3 := ok.2.2.1
  have l8 := ok.2.2.2.1
  have lv20 := ok.2.2.2.2.1
  have gc := ok_gc ok
  have cn : bc (G_cd g) 31 ≤ G_n g := by
    rw [bc_cut ok]
    exact bc_le _ _
  have a1 : f_X5_letterOf z (nI (G_n g)) (0 : Int32) = some (-1) := by
    rw [letterOf5 r ok, aLet_hi (Nat.le_refl _) (by omega)]
  have a2 : f_X5_letterOf z (-1 : Int32) (0 : Int32) = some (-1) := by
    rw [letterOf5 r ok, aLet_neg (by decide)]
  have a3 : f_X5_candidate z (nI (bc (G_cd g) 31)) = some (-1) := by
    rw [cand5 r, memA_no]
    intro j hj e
    have j30 := ok_cd ok hj
    have := bc_lt (N := 31) hj (by omega)
    rw [x_eq (by omega) (by omega)] at e
    omega
  have a4 : f_X5_candidate z (-1 : Int32) = some (-1) := by
    rw [cand5 r, memA_no]
    intro j hj e
    have := bc_le (G_cd g) j
    have j30 := ok_cd ok hj
    exact neg_ne (x := -1) (by decide) (a := bc (G_cd g) j) (by omega) e.symm
  have a5 : f_X5_guessAt z (nI (G_gc g)) = some (-1) := by
    rw [guessAt5 r ok]
    unfold aGuess
    rw [if_neg (fun x => absurd x.2 (Int32.lt_irrefl))]
  have a6 : f_X5_guessAt z (-1 : Int32) = some (-1) := by
    rw [guessAt5 r ok]
    unfold aGuess
    rw [if_neg (neg_c (by decide) _)]
  have a7 : f_X5_shown z (-1 : Int32) = some (-1) := by
    rw [shown5 r ok]
    unfold aShow
    rw [if_neg (neg_c (by decide) _)]
  have a8 : f_X5_shown z (8 : Int32) = some (-1) := by
    rw [shown5 r ok, show (8 : Int32) = nI 8 from rfl, aShow_out (by omega) (by omega)]
  unfold f_L_hangs
  rw [words5 r, ob, status5 r, ob, cds5 r ok, ob, i_n (by omega), show (31 : Int32) = nI 31 from rfl, i_lt (by omega) (by omega), if_pos (by omega), i_n (by omega), show (4 : Int32) = nI 4 from rfl, i_lt (by omega) (by omega), if_pos (by omega), i_n (by omega), i_lt (by omega) (by omega), if_neg (by omega), guesses5 r, ob, i_n (by omega), ob, show (27 : Int32) = nI 27 from rfl, i_lt (by omega) (by omega), if_pos (by omega), lives5 r, ob, i_n (by omega), ob, show (21 : Int32) = nI 21 from rfl, i_lt (by omega) (by omega), if_pos (by omega), a1, ob, if_pos rfl, a2, ob, if_pos rfl, a3, ob, if_pos rfl, a4, ob, if_pos rfl, ob, a5, ob, if_pos rfl, a6, ob, if_pos rfl, a7, ob, if_pos rfl, a8, ob, if_pos rfl]
  exact h158 r h hK D F
end HANG
