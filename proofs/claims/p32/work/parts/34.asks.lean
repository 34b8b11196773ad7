/-! ===== stage B: calls that ask ===== -/
def memF (x p : Int32) (j : Nat) : Int32 := if bt x j = true ∧ nI (bc x j) = p then 1 else 0
abbrev memAt (x p : Int32) (N : Nat) : Nat := look (memF x p) 1 N
def memA (x p : Int32) : Int32 := if memAt x p 30 < 30 then nI (memAt x p 30) else -1
theorem memF_1 {x p : Int32} {j : Nat} : memF x p j = 1 ↔ bt x j = true ∧ nI (bc x j) = p := by
  unfold memF
  by_cases q : bt x j = true ∧ nI (bc x j) = p
  · rw [if_pos q]; exact ⟨fun _ => q, fun _ => rfl⟩
  · rw [if_neg q]; exact ⟨fun h => absurd h (by decide), fun h => absurd h q⟩
theorem member5 (x p : Int32) : f_X5_memberAt x p = some (memA x p) := by
  unfold f_X5_memberAt memA
  have hle := look_le (memF x p) 1 30
  refine run2 (fun j a b => a = nI (bc x j) ∧ b = nI j) (fun r => r = some (if memAt x p 30 < 30 then nI (memAt x p 30) else -1)) (memAt x p 30) ?_ ?_ FU 0 0 (FU_gt (by unfold memAt; omega)) ⟨rfl, rfl⟩
  · rintro j a b hj ⟨rfl, rfl⟩
    have hno : memF x p j ≠ 1 := look_no hj
    have hj30 : j < 30 := by unfold memAt at hj; omega
    refine ⟨nI (bc x (j + 1)), nI (j + 1), ⟨rfl, rfl⟩, fun re => ?_⟩
    unfold f_X5_memberAt_L4
    rw [show (30 : Int32) = nI 30 from rfl, i_lt (by omega) (by omega), if_pos hj30]
    simp only [sh_0 x j (show j < 32 by omega)]
    show _ = re (nI (fb_ct (bt x) j + (if bt x j then 1 else 0))) _
    cases hb : bt x j
    · rw [if_pos rfl, lt_, x_a1]; rfl
    · rw [if_neg (by decide), if_neg (fun e => hno (memF_1.mpr ⟨hb, e⟩)), lt_, lt_, x_a1, x_a1]; rfl
  · rintro a b ⟨rfl, rfl⟩ re
    unfold f_X5_memberAt_L4
    rw [show (30 : Int32) = nI 30 from rfl, i_lt (by unfold memAt; omega) (by omega)]
    by_cases q : memAt x p 30 < 30
    · have hat := memF_1.mp (look_at (f := memF x p) q)
      rw [if_pos q, if_pos q]
      simp only [sh_0 x (memAt x p 30) (show memAt x p 30 < 32 by omega)]
      have hb : bt x (memAt x p 30) = true := hat.1
      rw [if_neg (by rw [hb]; decide), if_pos hat.2]
    · rw [if_neg q, if_neg q]
theorem look_cut {f : Nat → Int32} {x : Int32} {n N : Nat} (h : n ≤ N) (hz : ∀ k, n ≤ k → k < N → f k ≠ x) : (look f x n < n → look f x N = look f x n ∧ look f x N < N) ∧ (¬ look f x n < n → ¬ look f x N < N) := by
  have l1 := look_le f x n
  have l2 := look_le f x N
  refine ⟨fun q => ?_, fun q r => ?_⟩
  · have hat := look_at q
    have h2 := look_in (n := N) (show look f x n < N by omega) hat
    have hat2 := look_at h2
    have e : look f x N = look f x n := by
      rcases Nat.lt_trichotomy (look f x N) (look f x n) with y | y | y
      · exact absurd hat2 (look_no y)
      · exact y
      · exact absurd hat (look_no y)
    exact ⟨e, h2⟩
  · have hat := look_at r
    by_cases y : look f x N < n
    · exact q (look_in y hat)
    · exact hz _ (by omega) r hat
theorem memA_n {x p : Int32} {n : Nat} (hn : n ≤ 30) (hz : ∀ i, bt x i = true → i < n) : memA x p = if memAt x p n < n then nI (memAt x p n) else -1 := by
  have h := look_cut (f := memF x p) (x := 1) hn (fun k a b e => by have := hz k (memF_1.mp e).1; omega)
  unfold memA
  by_cases q : memAt x p n < n
  · have := h.1 q
    rw [if_pos q, if_pos this.2]
    show nI (look (memF x p) 1 30) = _
    rw [this.1]
  · rw [if_neg q, if_neg (h.2 q)]
section ASK
variable {z : St} {g : GS}
theorem cand5 (h : RS z g) (p : Int32) : f_X5_candidate z p = some (memA (G_cd g) p) := by
  unfold f_X5_candidate
  rw [h.2.2.2.2.2.2.2.1, member5, ob]
theorem cds5 (h : RS z g) (ok : okG g) : f_X5_candidates z = some (nI (bc (G_cd g) 31)) := by
  unfold f_X5_candidates
  rw [h.2.2.2.2.2.2.2.1, bitCount5, ob, bc_top (by cases e : bt (G_cd g) 31; rfl; have := cd32 ok e; have := ok_cd ok e; have := ok.1; omega)]
theorem words5 (h : RS z g) : f_X5_words z = some (nI (G_n g)) := congrArg some h.1
theorem status5 (h : RS z g) : f_X5_status z = some (nI (G_st g)) := congrArg some h.2.2.1
theorem lives5 (h : RS z g) : f_X5_lives z = some (nI (G_lv g)) := congrArg some h.2.2.2.2.1
theorem guesses5 (h : RS z g) : f_X5_guesses z = some (nI (G_gc g)) := congrArg some h.2.2.2.2.2.2.1
/-- a letter of a word, or -1 -/
def aLet (g : GS) (p q : Int32) : Int32 := if 0 ≤ p ∧ p < nI (G_n g) then (if 0 ≤ q ∧ q < nI (G_Z g p.toNatClampNeg) then ltr (G_D g p.toNatClampNeg q.toNatClampNeg) else -1) else -1
theorem pos_n (j : Nat) (hj : j < 2147483648) : (0 : Int32) ≤ nI j := nI_pos' hj
theorem neg_c {x : Int32} (h : x < 0) (y : Int32) : ¬ (0 ≤ x ∧ x < y) := fun q => Int32.not_lt.mpr q.1 h
theorem letterOf5 (h : RS z g) (ok : okG g) (p q : Int32) : f_X5_letterOf z p q = some (aLet g p q) := by
  have hn := ok.1
  unfold f_X5_letterOf aLet
  rcases neg_or p with hp | ⟨w, hw, rfl⟩
  · rw [if_neg (neg_c hp _)]
    unfold f_X2_wordAt
    rw [hasWord2_neg hp, ob, if_pos rfl, ob]
    have e : f_X4_letterAt 0 q = some 0 := by
      rcases neg_or q with hq | ⟨k, hk, rfl⟩
      · exact letterAt_neg _ hq
      · rcases Nat.lt_or_ge k 8 with y | y
        · rw [show (0 : Int64) = lN 0 from rfl, letterAt_n (by omega) y, Nat.zero_div]; rfl
        · exact letterAt_out _ y hk
    rw [e, ob, if_pos rfl]
  · by_cases y : w < G_n g
    · have ow := ok_w ok y
      rw [wordAt2 h ok y, ob, if_pos ⟨pos_n w hw, by rw [x_lt hw (by omega)]; exact y⟩, x_cl hw]
      rcases neg_or q with hq | ⟨k, hk, rfl⟩
      · rw [letterAt_neg _ hq, ob, if_pos rfl, if_neg (neg_c hq _)]
      · have z8 := ow.2.1
        rcases Nat.lt_or_ge k 8 with u | u
        · have hd := ow.2.2 k u
          rw [letterAt_e (okd_32 (okw_d ow)) u, ob, x_cl hk]
          by_cases v : k < G_Z g w
          · rw [if_neg (by rw [ltr_0 (by omega)]; exact hd.2.mpr v), if_pos ⟨pos_n k hk, by rw [x_lt hk (by omega)]; exact v⟩]
          · rw [if_pos (by rw [ltr_0 (by omega)]; exact Classical.byContradiction (fun x => v (hd.2.mp x))), if_neg (fun x => v (by have := x.2; rw [x_lt hk (by omega)] at this; exact this))]
        · rw [letterAt_out _ u hk, ob, if_pos rfl, if_neg (fun x => by have := x.2; rw [x_lt hk (by omega)] at this; omega)]
    · rw [if_neg (fun x => y (by have := x.2; rw [x_lt hw (by omega)] at this; exact this))]
      unfold f_X2_wordAt
      rw [hasWord2 h ok hw, ob, if_neg y, if_pos rfl, ob]
      have e : f_X4_letterAt 0 q = some 0 := by
        rcases neg_or q with hq | ⟨k, hk, rfl⟩
        · exact letterAt_neg _ hq
        · rcases Nat.lt_or_ge k 8 with y | y
          · rw [show (0 : Int64) = lN 0 from rfl, letterAt_n (by omega) y, Nat.zero_div]; rfl
          · exact letterAt_out _ y hk
      rw [e, ob, if_pos rfl]
def aShow (g : GS) (p : Int32) : Int32 := if 0 ≤ p ∧ p < nI (G_len g) then (if G_pt g p.toNatClampNeg = 0 then -6 else ltr (G_pt g p.toNatClampNeg)) else -1
theorem shown5 (h : RS z g) (ok : okG g) (p : Int32) : f_X5_shown z p = some (aShow g p) := by
  have hl := ok.2.2.2.1
  unfold f_X5_shown aShow
  rcases neg_or p with hp | ⟨k, hk, rfl⟩
  · rw [if_pos hp, if_neg (neg_c hp _)]
  · rw [i_n hk, h.2.2.2.1, i_lt hk (by omega)]
    by_cases y : k < G_len g
    · have hd := ok.2.2.2.2.2.2.2.2.2.2.1 k (by omega)
      have hh : (0 : Int32) ≤ nI k ∧ nI k < nI (G_len g) := ⟨pos_n k hk, by rw [x_lt hk (by omega)]; exact y⟩
      rw [if_pos y, h.2.2.2.2.2.2.2.2.2.2.1, letterAt_e (okd_32 ok.2.2.2.2.2.2.2.2.2.2.1) (by omega), ob, if_pos hh, x_cl hk]
      by_cases u : G_pt g k = 0
      · rw [if_pos (by rw [ltr_0 (by omega)]; exact u), if_pos u]
      · rw [if_neg (by rw [ltr_0 (by omega)]; exact u), if_neg u]
    · rw [if_neg y, if_neg (fun x => y (by have := x.2; rw [x_lt hk (by omega)] at this; exact this))]
def aGuess (g : GS) (p : Int32) : Int32 := if 0 ≤ p ∧ p < nI (G_gc g) then G_od g p.toNatClampNeg else -1
theorem guessAt5 (h : RS z g) (ok : okG g) (p : Int32) : f_X5_guessAt z p = some (aGuess g p) := by
  have hl := ok_gc ok
  unfold f_X5_guessAt f_X2_guessedAt aGuess
  rcases neg_or p with hp | ⟨k, hk, rfl⟩
  · rw [if_pos hp, if_neg (neg_c hp _), ob]
  · rw [i_n hk, h.2.2.2.2.2.2.1, i_lt hk (by omega), show (26 : Int32) = nI 26 from rfl, i_lt hk (by omega)]
    by_cases y : k < G_gc g
    · rw [if_pos y, if_pos (by omega), getA_n (by omega) (by omega), ob, if_pos ⟨pos_n k hk, by rw [x_lt hk (by omega)]; exact y⟩, x_cl hk, h.2.2.2.2.2.2.2.2.2.1 k y]
    · rw [if_neg y, ob, if_neg (fun x => y (by have := x.2; rw [x_lt hk (by omega)] at this; exact this))]
def aTot (g : GS) (p : Int32) : Int32 := if 0 ≤ p ∧ p < nI 7 then G_tot g p.toNatClampNeg else -2
theorem total5 (h : RS z g) (p : Int32) : f_X5_total z p = some (aTot g p) := by
  unfold f_X5_total f_X2_totalOf aTot
  rcases neg_or p with hp | ⟨k, hk, rfl⟩
  · rw [if_pos hp, if_neg (neg_c hp _)]
  · rw [i_n hk, i_n hk, show (7 : Int32) = nI 7 from rfl, i_lt hk (by omega), i_lt hk (by omega)]
    by_cases y : k < 7
    · rw [if_pos y, if_pos y, getA_n (by omega) (by omega), ob, if_pos ⟨pos_n k hk, by rw [x_lt hk (by omega)]; exact y⟩, x_cl hk, h.2.2.2.2.2.2.2.2.1 k y]
    · rw [if_neg y, if_neg (fun x => y (by have := x.2; rw [x_lt hk (by omega)] at this; exact this))]
end ASK
