/-! ===== stage B: calls that ask ===== -/
def memF (x p : Int32) (j : Nat) : Int32 := if bt x j = true ∧ nI (bc x j) = p then 1 else 0
abbrev memAt (x p : Int32) (N : Nat) : Nat := look (memF x p) 1 N
def memA (x p : Int32) : Int32 := if memAt x p 30 < 30 then nI (memAt x p 30) else -1
theorem memF_1 {x p : Int32} {j : Nat} : memF x p j = 1 ↔ bt x j = true ∧ nI (bc x j) = p := by
  unfold memF
  by_cases q : bt x j = true ∧ nI (bc x j) = p
  · rw [if_pos q]; exact ⟨fun _ => q, fun _ => rfl⟩
  · rw [if_neg q]; exact ⟨fun h => absurd h (by decide), fun h => absurd h q⟩
theorem member5 (x p : Int32) : f_X5_memberAt x p = some (memA x p) := by
  unfold f_X5_memberAt memA
  have hle := look_le (memF x p) 1 30
  refine run2 (fun j a b => a = nI (bc x j) ∧ b = nI j) (fun r => r = some (if memAt x p 30 < 30 then nI (memAt x p 30) else -1)) (memAt x p 30) ?_ ?_ FU 0 0 (FU_gt (by unfold memAt; omega)) ⟨rfl, rfl⟩
  · rintro j a b hj ⟨rfl, rfl⟩
    have hno : memF x p j ≠ 1 := look_no hj
    have hj30 : j < 30 := by unfold memAt at hj; omega
    refine ⟨nI (bc x (j + 1)), nI (j + 1), ⟨rfl, rfl⟩, fun re => ?_⟩
    unfold f_X5_memberAt_L4
    rw [show (30 : Int32) = nI 30 from rfl, i_lt (by omega) (by omega), if_pos hj30]
    simp only [sh_0 x j (show j < 32 by omega)]
    show _ = re (nI (fb_ct (bt x) j + (if bt x j then 1 else 0))) _
    cases hb : bt x j
    · rw [if_pos rfl, lt_, x_a1]; rfl
    · rw [if_neg (by decide), if_neg (fun e => hno (memF_1.mpr ⟨hb, e⟩)), lt_, lt_, x_a1, x_a1]; rfl
  · rintro a b ⟨rfl, rfl⟩ re
    unfold f_X5_memberAt_L4
    rw [show (30 : Int32) = nI 30 from rfl, i_lt (by unfold memAt; omega) (by omega)]
    by_cases q : memAt x p 30 < 30
    · have hat := memF_1.mp (look_at (f := memF x p) q)
      rw [if_pos q, if_pos q]
      simp only [sh_0 x (memAt x p 30) (show memAt x p 30 < 32 by omega)]
      have hb : bt x (memAt x p 30) = true := hat.1
      rw [if_neg (by rw [hb]; decide), if_pos hat.2]
    · rw [if_neg q, if_neg q]
theorem look_cut {f : Nat → Int32} {x : Int32} {n N : Nat} (h : n ≤ N) (hz : ∀ k, n ≤ k → k < N → f k ≠ x) : (look f x n < n → look f x N = look f x n ∧ look f x N < N) ∧ (¬ look f x n < n → ¬ look f x N < N) := by
  have l1 := look_le f x n
  have l2 := look_le f x N
  refine ⟨fun q => ?_, fun q r => ?_⟩
  · have hat := look_at q
    have h2 := look_in (n := N) (show look f x n < N by omega) hat
    have hat2 := look_at h2
    have e : look f x N = look f x n := by
      rcases Nat.lt_trichotomy (look f x N) (look f x n) with y | y | y
      · exact absurd hat2 (look_no y)
      · exact y
      · exact absurd hat (look_no y)
    exact ⟨e, h2⟩
  · have hat := look_at r
    by_cases y : look f x N < n
    · exact q (look_in y hat)
    · exact hz _ (by omega) r hat
theorem memA_n {x p : Int32} {n : Nat} (hn : n ≤ 30) (hz : ∀ i, bt x i = true → i < n) : memA x p = if memAt x p n < n then nI (memAt x p n) else -1 := by
  have h := look_cut (f := memF x p) (x := 1) hn (fun k a b e => by have := hz k (memF_1.mp e).1; omega)
  unfold memA
  by_cases q : memAt x p n < n
  · have := h.1 q
    rw [if_pos q, if_pos this.2]
    show nI (look (memF x p) 1 30) = _
    rw [this.1]
  · rw [if_neg q, if_neg (h.2 q)]
theorem lowest6 {x : Int32} (h : ∃ i, i < 30 ∧ bt x i = true) : f_X6_lowest x = some (memA x 0) := by
  have hx : look (memF x 0) 1 30 < 30 := by
    obtain ⟨i, hi, hb, hm⟩ := fb_first (p := fun i => bt x i = true) (n := 30) h
    refine look_in hi (memF_1.mpr ⟨hb, ?_⟩)
    have : bc x i = 0 := fb_ct_zero.mpr (fun k hk => by cases e : bt x k; rfl; exact absurd e (hm k hk))
    rw [this]; rfl
  have hat := memF_1.mp (look_at hx)
  have h0 : bc x (look (memF x 0) 1 30) = 0 := by
    have := hat.2
    have l := bc_le x (look (memF x 0) 1 30)
    rw [x_z (by omega)] at this
    exact this
  unfold memA
  rw [if_pos hx]
  unfold f_X6_lowest memAt
  refine run1 (fun j a => a = nI j) (fun r => r = some (nI (look (memF x 0) 1 30))) (look (memF x 0) 1 30) ?_ ?_ FU 0 (FU_gt (by omega)) rfl
  · rintro j a hj rfl
    refine ⟨_, rfl, fun re => ?_⟩
    unfold f_X6_lowest_L2
    have hb : bt x j = false := fb_ct_zero.mp h0 j hj
    rw [show (30 : Int32) = nI 30 from rfl, i_lt (by omega) (by omega), if_pos (by omega)]
    simp only [sh_0 x j (show j < 32 by omega)]
    rw [if_pos hb, lt_, x_a1]
  · rintro a rfl re
    unfold f_X6_lowest_L2
    rw [show (30 : Int32) = nI 30 from rfl, i_lt (by omega) (by omega), if_pos hx]
    simp only [sh_0 x _ (show look (memF x 0) 1 30 < 32 by omega)]
    rw [if_neg (by rw [hat.1]; decide)]
section ASK
variable {z : St} {M : Md} {g : GS}
theorem cand5 (h : RS z g) (p : Int32) : f_X5_candidate z p = some (memA (G_cd g) p) := by
  unfold f_X5_candidate
  rw [h.2.2.2.2.2.2.2.1, member5, ob]
theorem cand6 (h : RM (M_s M) g) (ok : okG g) (p : Int32) : f_X6_candidate M p = some (memA (G_cd g) p) := by
  have hn := ok.1
  rw [memA_n hn (fun i hi => ok_cd ok hi)]
  have hle := look_le (memF (G_cd g) p) 1 (G_n g)
  unfold f_X6_candidate
  rcases neg_or p with hp | ⟨q, hq, rfl⟩
  · rw [if_neg (fun y => by
      have := (memF_1.mp (look_at (f := memF (G_cd g) p) y)).2
      have l := bc_le (G_cd g) (memAt (G_cd g) p (G_n g))
      exact neg_ne hp (a := bc (G_cd g) (memAt (G_cd g) p (G_n g))) (by unfold memAt at *; omega) this.symm)]
    show f_X6_candidate_L4 M p (loop2 (f_X6_candidate_L4 M p) 4095) p (nI 0) = _
    unfold f_X6_candidate_L4
    rw [m0, h.1, i_lt (by omega) (by omega), if_pos hp, ite_self]
  · refine run2 (fun j a b => bc (G_cd g) j ≤ q ∧ a = nI (q - bc (G_cd g) j) ∧ b = nI j) (fun r => r = some (if memAt (G_cd g) (nI q) (G_n g) < G_n g then nI (memAt (G_cd g) (nI q) (G_n g)) else -1)) (memAt (G_cd g) (nI q) (G_n g)) ?_ ?_ FU _ _ (FU_gt (by unfold memAt; omega)) ⟨Nat.zero_le _, rfl, rfl⟩
    · rintro j a b hj ⟨hb, rfl, rfl⟩
      have hno : memF (G_cd g) (nI q) j ≠ 1 := look_no hj
      have hjn : j < G_n g := by unfold memAt at hj; omega
      have l := bc_le (G_cd g) j
      have hs : bc (G_cd g) (j + 1) = bc (G_cd g) j + (if bt (G_cd g) j = true then 1 else 0) := rfl
      unfold f_X6_candidate_L4
      have hdo : bt (G_cd g) j = true → bc (G_cd g) j ≠ q := fun y e => hno (memF_1.mpr ⟨y, by rw [e]⟩)
      refine ⟨nI (q - bc (G_cd g) (j + 1)), nI (j + 1), ⟨?_, rfl, rfl⟩, fun re => ?_⟩
      · rw [hs]
        by_cases y : bt (G_cd g) j = true
        · have := hdo y
          rw [if_pos y]; omega
        · rw [if_neg y]; omega
      · rw [m0, h.1, i_lt (by omega) (by omega), if_pos hjn, i_n (by omega), isCand6 h (by omega), ob]
        by_cases y : bt (G_cd g) j = true
        · have := hdo y
          rw [if_pos y, if_neg (by decide), i_z (by omega), if_neg (by omega), lt_, lt_, x_a1, hs, if_pos y, show q - bc (G_cd g) j = (q - (bc (G_cd g) j + 1)) + 1 by omega, x_m1]
        · rw [if_neg y, if_pos rfl, lt_, x_a1, hs, if_neg y]; rfl
    · rintro a b ⟨hb, rfl, rfl⟩ re
      unfold f_X6_candidate_L4
      rw [m0, h.1, i_lt (by unfold memAt; omega) (by omega)]
      by_cases y : memAt (G_cd g) (nI q) (G_n g) < G_n g
      · have hat := memF_1.mp (look_at (f := memF (G_cd g) (nI q)) y)
        have hb : bt (G_cd g) (memAt (G_cd g) (nI q) (G_n g)) = true := hat.1
        have l := bc_le (G_cd g) (memAt (G_cd g) (nI q) (G_n g))
        have he : bc (G_cd g) (memAt (G_cd g) (nI q) (G_n g)) = q := by
          have := hat.2
          rw [x_eq (by unfold memAt at *; omega) hq] at this
          exact this
        rw [if_pos y, if_pos y, i_n (by omega), isCand6 h (by omega), ob, if_pos hb, if_neg (by decide), he, Nat.sub_self, if_pos (by rfl)]
      · rw [if_neg y, if_neg y]
theorem cds5 (h : RS z g) (ok : okG g) : f_X5_candidates z = some (nI (bc (G_cd g) 31)) := by
  unfold f_X5_candidates
  rw [h.2.2.2.2.2.2.2.1, bitCount5, ob, bc_top (by cases e : bt (G_cd g) 31; rfl; have := cd32 ok e; have := ok_cd ok e; have := ok.1; omega)]
theorem cds6 (h : RM (M_s M) g) : f_X6_candidates M = some (nI (bc (G_cd g) 31)) := by
  unfold f_X6_candidates
  rw [m7, h.2.2.2.2.2.2.2.1, bits6, ob]
theorem words5 (h : RS z g) : f_X5_words z = some (nI (G_n g)) := congrArg some h.1
theorem words6 (h : RM (M_s M) g) : f_X6_words M = some (nI (G_n g)) := by
  unfold f_X6_words
  rw [m0, h.1]
theorem status5 (h : RS z g) : f_X5_status z = some (nI (G_st g)) := congrArg some h.2.2.1
theorem status6 (h : RM (M_s M) g) : f_X6_status M = some (nI (G_st g)) := by
  unfold f_X6_status
  rw [m2, h.2.2.1]
theorem lives5 (h : RS z g) : f_X5_lives z = some (nI (G_lv g)) := congrArg some h.2.2.2.2.1
theorem lives6 (h : RM (M_s M) g) : f_X6_lives M = some (nI (G_lv g)) := by
  unfold f_X6_lives
  rw [m4, h.2.2.2.2.1]
theorem guesses5 (h : RS z g) : f_X5_guesses z = some (nI (G_gc g)) := congrArg some h.2.2.2.2.2.2.1
theorem guesses6 (h : RM (M_s M) g) : f_X6_guesses M = some (nI (G_gc g)) := by
  unfold f_X6_guesses
  rw [m6, h.2.2.2.2.2.2.1]
/-- a letter of a word, or -1 -/
def aLet (g : GS) (p q : Int32) : Int32 := if 0 ≤ p ∧ p < nI (G_n g) then (if 0 ≤ q ∧ q < nI (G_Z g p.toNatClampNeg) then ltr (G_D g p.toNatClampNeg q.toNatClampNeg) else -1) else -1
theorem pos_n (j : Nat) (hj : j < 2147483648) : (0 : Int32) ≤ nI j := nI_pos' hj
theorem neg_c {x : Int32} (h : x < 0) (y : Int32) : ¬ (0 ≤ x ∧ x < y) := fun q => Int32.not_lt.mpr q.1 h
theorem letterOf5 (h : RS z g) (ok : okG g) (p q : Int32) : f_X5_letterOf z p q = some (aLet g p q) := by
  have hn := ok.1
  unfold f_X5_letterOf aLet
  rcases neg_or p with hp | ⟨w, hw, rfl⟩
  · rw [if_neg (neg_c hp _)]
    unfold f_X2_wordAt
    rw [hasWord2_neg hp, ob, if_pos rfl, ob]
    have e : f_X4_letterAt 0 q = some 0 := by
      rcases neg_or q with hq | ⟨k, hk, rfl⟩
      · exact letterAt_neg _ hq
      · rcases Nat.lt_or_ge k 8 with y | y
        · rw [show (0 : Int64) = lN 0 from rfl, letterAt_n (by omega) y, Nat.zero_div]; rfl
        · exact letterAt_out _ y hk
    rw [e, ob, if_pos rfl]
  · by_cases y : w < G_n g
    · have ow := ok_w ok y
      rw [wordAt2 h ok y, ob, if_pos ⟨pos_n w hw, by rw [x_lt hw (by omega)]; exact y⟩, x_cl hw]
      rcases neg_or q with hq | ⟨k, hk, rfl⟩
      · rw [letterAt_neg _ hq, ob, if_pos rfl, if_neg (neg_c hq _)]
      · have z8 := ow.2.1
        rcases Nat.lt_or_ge k 8 with u | u
        · have hd := ow.2.2 k u
          rw [letterAt_e (okd_32 (okw_d ow)) u, ob, x_cl hk]
          by_cases v : k < G_Z g w
          · rw [if_neg (by rw [ltr_0 (by omega)]; exact hd.2.mpr v), if_pos ⟨pos_n k hk, by rw [x_lt hk (by omega)]; exact v⟩]
          · rw [if_pos (by rw [ltr_0 (by omega)]; exact Classical.byContradiction (fun x => v (hd.2.mp x))), if_neg (fun x => v (by have := x.2; rw [x_lt hk (by omega)] at this; exact this))]
        · rw [letterAt_out _ u hk, ob, if_pos rfl, if_neg (fun x => by have := x.2; rw [x_lt hk (by omega)] at this; omega)]
    · rw [if_neg (fun x => y (by have := x.2; rw [x_lt hw (by omega)] at this; exact this))]
      unfold f_X2_wordAt
      rw [hasWord2 h ok hw, ob, if_neg y, if_pos rfl, ob]
      have e : f_X4_letterAt 0 q = some 0 := by
        rcases neg_or q with hq | ⟨k, hk, rfl⟩
        · exact letterAt_neg _ hq
        · rcases Nat.lt_or_ge k 8 with y | y
          · rw [show (0 : Int64) = lN 0 from rfl, letterAt_n (by omega) y, Nat.zero_div]; rfl
          · exact letterAt_out _ y hk
      rw [e, ob, if_pos rfl]
theorem letterOf6 (h : RM (M_s M) g) (ok : okG g) (p q : Int32) : f_X6_letterOf M p q = some (aLet g p q) := by
  have hn := ok.1
  unfold f_X6_letterOf aLet
  rw [m0, h.1, in_top p (by omega), ob]
  by_cases y : 0 ≤ p ∧ p < nI (G_n g)
  · obtain ⟨w, hw, rfl⟩ := (neg_or p).resolve_left (fun x => neg_c x _ y)
    have y2 : w < G_n g := by have := y.2; rw [x_lt hw (by omega)] at this; exact this
    have ow := ok_w ok y2
    have z8 := ow.2.1
    rw [if_pos y, if_neg (by decide), size6 h ok y2, in_top q (by omega), ob, if_pos y, x_cl hw]
    by_cases u : 0 ≤ q ∧ q < nI (G_Z g w)
    · obtain ⟨k, hk, rfl⟩ := (neg_or q).resolve_left (fun x => neg_c x _ u)
      have u2 : k < G_Z g w := by have := u.2; rw [x_lt hk (by omega)] at this; exact this
      rw [if_pos u, if_neg (by decide), letter6 h ok y2 (by omega), ob, if_pos u, x_cl hk]
    · rw [if_neg u, if_pos rfl, if_neg u]
  · rw [if_neg y, if_pos rfl, if_neg y]
def aShow (g : GS) (p : Int32) : Int32 := if 0 ≤ p ∧ p < nI (G_len g) then (if G_pt g p.toNatClampNeg = 0 then -6 else ltr (G_pt g p.toNatClampNeg)) else -1
theorem shown5 (h : RS z g) (ok : okG g) (p : Int32) : f_X5_shown z p = some (aShow g p) := by
  have hl := ok.2.2.2.1
  unfold f_X5_shown aShow
  rcases neg_or p with hp | ⟨k, hk, rfl⟩
  · rw [if_pos hp, if_neg (neg_c hp _)]
  · rw [i_n hk, h.2.2.2.1, i_lt hk (by omega)]
    by_cases y : k < G_len g
    · have hd := ok.2.2.2.2.2.2.2.2.2.2.1 k (by omega)
      have hh : (0 : Int32) ≤ nI k ∧ nI k < nI (G_len g) := ⟨pos_n k hk, by rw [x_lt hk (by omega)]; exact y⟩
      rw [if_pos y, h.2.2.2.2.2.2.2.2.2.2.1, letterAt_e (okd_32 ok.2.2.2.2.2.2.2.2.2.2.1) (by omega), ob, if_pos hh, x_cl hk]
      by_cases u : G_pt g k = 0
      · rw [if_pos (by rw [ltr_0 (by omega)]; exact u), if_pos u]
      · rw [if_neg (by rw [ltr_0 (by omega)]; exact u), if_neg u]
    · rw [if_neg y, if_neg (fun x => y (by have := x.2; rw [x_lt hk (by omega)] at this; exact this))]
theorem shown6 (h : RM (M_s M) g) (ok : okG g) (p : Int32) : f_X6_shown M p = some (aShow g p) := by
  have hl := ok.2.2.2.1
  unfold f_X6_shown aShow
  rw [m3, h.2.2.2.1, in_top p (by omega), ob]
  by_cases y : 0 ≤ p ∧ p < nI (G_len g)
  · obtain ⟨k, hk, rfl⟩ := (neg_or p).resolve_left (fun x => neg_c x _ y)
    have y2 : k < G_len g := by have := y.2; rw [x_lt hk (by omega)] at this; exact this
    have hd := ok.2.2.2.2.2.2.2.2.2.2.1 k (by omega)
    rw [if_pos y, if_neg (by decide), a41, getA_n (by omega) (by omega), getA_n (by omega) (by omega), h.2.2.2.2.2.2.2.2.2.2.1 k (by omega), if_pos y, x_cl hk]
    by_cases u : G_pt g k = 0
    · rw [if_pos (by rw [ltr_0 (by omega)]; exact u), if_pos u]
    · rw [if_neg (by rw [ltr_0 (by omega)]; exact u), if_neg u]
  · rw [if_neg y, if_pos rfl, if_neg y]
def aGuess (g : GS) (p : Int32) : Int32 := if 0 ≤ p ∧ p < nI (G_gc g) then G_od g p.toNatClampNeg else -1
theorem guessAt5 (h : RS z g) (ok : okG g) (p : Int32) : f_X5_guessAt z p = some (aGuess g p) := by
  have hl := ok_gc ok
  unfold f_X5_guessAt f_X2_guessedAt aGuess
  rcases neg_or p with hp | ⟨k, hk, rfl⟩
  · rw [if_pos hp, if_neg (neg_c hp _), ob]
  · rw [i_n hk, h.2.2.2.2.2.2.1, i_lt hk (by omega), show (26 : Int32) = nI 26 from rfl, i_lt hk (by omega)]
    by_cases y : k < G_gc g
    · rw [if_pos y, if_pos (by omega), getA_n (by omega) (by omega), ob, if_pos ⟨pos_n k hk, by rw [x_lt hk (by omega)]; exact y⟩, x_cl hk, h.2.2.2.2.2.2.2.2.2.1 k y]
    · rw [if_neg y, ob, if_neg (fun x => y (by have := x.2; rw [x_lt hk (by omega)] at this; exact this))]
theorem guessAt6 (h : RM (M_s M) g) (ok : okG g) (p : Int32) : f_X6_guessAt M p = some (aGuess g p) := by
  have hl := ok_gc ok
  unfold f_X6_guessAt aGuess
  rw [m6, h.2.2.2.2.2.2.1, in_top p (by omega), ob]
  by_cases y : 0 ≤ p ∧ p < nI (G_gc g)
  · obtain ⟨k, hk, rfl⟩ := (neg_or p).resolve_left (fun x => neg_c x _ y)
    have y2 : k < G_gc g := by have := y.2; rw [x_lt hk (by omega)] at this; exact this
    rw [if_pos y, if_neg (by decide), a15, getA_n (by omega) (by omega), h.2.2.2.2.2.2.2.2.2.1 k y2, if_pos y, x_cl hk]
  · rw [if_neg y, if_pos rfl, if_neg y]
def aTot (g : GS) (p : Int32) : Int32 := if 0 ≤ p ∧ p < nI 7 then G_tot g p.toNatClampNeg else -2
theorem total5 (h : RS z g) (p : Int32) : f_X5_total z p = some (aTot g p) := by
  unfold f_X5_total f_X2_totalOf aTot
  rcases neg_or p with hp | ⟨k, hk, rfl⟩
  · rw [if_pos hp, if_neg (neg_c hp _)]
  · rw [i_n hk, i_n hk, show (7 : Int32) = nI 7 from rfl, i_lt hk (by omega), i_lt hk (by omega)]
    by_cases y : k < 7
    · rw [if_pos y, if_pos y, getA_n (by omega) (by omega), ob, if_pos ⟨pos_n k hk, by rw [x_lt hk (by omega)]; exact y⟩, x_cl hk, h.2.2.2.2.2.2.2.2.1 k y]
    · rw [if_neg y, if_neg (fun x => y (by have := x.2; rw [x_lt hk (by omega)] at this; exact this))]
theorem total6 (h : RM (M_s M) g) (p : Int32) : f_X6_total M p = some (aTot g p) := by
  unfold f_X6_total aTot
  rw [show (6 : Int32) = nI 7 - 1 from rfl, in_top p (by omega), ob]
  by_cases y : 0 ≤ p ∧ p < nI 7
  · obtain ⟨k, hk, rfl⟩ := (neg_or p).resolve_left (fun x => neg_c x _ y)
    have y2 : k < 7 := by have := y.2; rw [x_lt hk (by omega)] at this; exact this
    rw [if_pos y, if_neg (by decide), a8, getA_n (by omega) (by omega), h.2.2.2.2.2.2.2.2.1 k y2, if_pos y, x_cl hk]
  · rw [if_neg y, if_pos rfl, if_neg y]
end ASK
