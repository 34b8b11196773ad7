/-! ===== stage B: the digest ===== -/
def mx (h : Int64) (x : Int32) : Int64 := ((31 : Int64) * h) + x.toInt64
def hW (g : GS) (w : Nat) (x : Int64) : Int64 := acc (fun k y => mx y (ltr (G_D g w k))) (mx x (nI (G_Z g w))) (G_Z g w)
def h1 (g : GS) : Int64 := acc (hW g) (mx 131 (nI (G_n g))) (G_n g)
def h2 (g : GS) : Int64 := acc (fun k x => mx x (aShow g (nI k))) (mx (mx (h1 g) (nI (G_st g))) (nI (G_lv g))) (G_len g)
def h3 (g : GS) : Int64 := acc (fun w x => if bt (G_cd g) w = true then mx x (nI w) else x) (mx (h2 g) (nI (bc (G_cd g) 31))) (G_n g)
def h4 (g : GS) : Int64 := acc (fun k x => mx x (G_od g k)) (mx (h3 g) (nI (G_gc g))) (G_gc g)
def h5 (g : GS) : Int64 := if G_st g = 1 then mx (mx (h4 g) (aSure g)) (gBest g) else h4 g
def h6 (g : GS) : Int64 := acc (fun k x => mx x (G_tot g k)) (h5 g) 7
theorem mixed5 (h : Int64) (x : Int32) : f_X5_mixed h x.toInt64 = some (mx h x) := rfl
theorem raccm {α γ : Type} {step : (α → Int32 → Option γ) → α → Int32 → Option γ} (f : Nat → α → α) (n : Nat) (hn : n < 4096) (a0 : α) {r : Option γ} (hs : ∀ j x, j < n → ∀ re, step re x (nI j) = re (f j x) (nI (j + 1))) (hx : ∀ re, step re (acc f a0 n) (nI n) = r) : loop2 step FU a0 0 = r := racc f n hn a0 (fun j hj re => hs j _ hj re) hx
section DIG
variable {z : St} {g : GS}
theorem aLet_in (ok : okG g) {w k : Nat} (hw : w < G_n g) (hk : k < G_Z g w) : aLet g (nI w) (nI k) = ltr (G_D g w k) := by
  have := ok.1
  have := (ok_w ok hw).2.1
  unfold aLet
  rw [x_cl (by omega), x_cl (by omega), if_pos ⟨pos_n w (by omega), by rw [x_lt (by omega) (by omega)]; exact hw⟩, if_pos ⟨pos_n k (by omega), by rw [x_lt (by omega) (by omega)]; exact hk⟩]
theorem list5 (h : RS z g) (ok : okG g) : f_X5_hashOfList z 131 = some (h1 g) := by
  have hn := ok.1
  unfold f_X5_hashOfList
  rw [words5 h, ob, mixed5, ob]
  refine raccm (hW g) (G_n g) (by omega) _ ?_ ?_
  · intro w x hw re
    have ow := ok_w ok hw
    have z8 := ow.2.1
    unfold f_X5_hashOfList_L13
    rw [h.1, i_lt (by omega) (by omega), if_pos hw, wordAt2 h ok hw, ob, lengthOf4 (okw_d ow), ob, szN_w ow, mixed5, ob]
    refine raccm (fun k y => mx y (ltr (G_D g w k))) (G_Z g w) (by omega) _ ?_ ?_
    · intro k y hk re2
      unfold f_X5_hashOfList_L50
      rw [i_lt (by omega) (by omega), if_pos hk, letterOf5 h ok, ob, aLet_in ok hw hk, mixed5, ob, lt_, x_a1]
    · intro re2
      unfold f_X5_hashOfList_L50
      rw [i_lt (by omega) (by omega), if_neg (by omega), lt_, x_a1]
      rfl
  · intro re
    unfold f_X5_hashOfList_L13
    rw [h.1, i_lt (by omega) (by omega), if_neg (by omega)]
    rfl
theorem bc_cut (ok : okG g) : bc (G_cd g) 31 = bc (G_cd g) (G_n g) := by
  have hn := ok.1
  show fb_ct _ 31 = fb_ct _ _
  rw [show (31 : Nat) = G_n g + (31 - G_n g) by omega, fb_ct_split]
  have : fb_ct (fun k => bt (G_cd g) (G_n g + k)) (31 - G_n g) = 0 := fb_ct_zero.mpr (fun k hk => by
    cases e : bt (G_cd g) (G_n g + k)
    · rfl
    · have := ok_cd ok e; omega)
  omega
theorem memA_k (ok : okG g) {j : Nat} (hj : bt (G_cd g) j = true) : memA (G_cd g) (nI (bc (G_cd g) j)) = nI j := by
  have hn := ok_cd ok hj
  have h30 := ok.1
  have b := bc_le (G_cd g) j
  generalize G_cd g = x at *
  obtain ⟨p, hp⟩ : ∃ p, p = nI (bc x j) := ⟨_, rfl⟩
  rw [← hp]
  have hf : memF x p j = 1 := memF_1.mpr ⟨hj, hp.symm⟩
  have hin : look (memF x p) 1 30 < 30 := look_in (show j < 30 by omega) hf
  have hat := look_at hin
  have e1 : memA x p = nI (look (memF x p) 1 30) := if_pos hin
  rw [e1]
  generalize look (memF x p) 1 30 = v at *
  obtain ⟨h1, h2⟩ := memF_1.mp hat
  have a := bc_le x v
  rw [hp, x_eq (by omega) (by omega)] at h2
  exact congrArg nI (fb_ct_kth_one h1 hj h2)
theorem acc_0 {α : Type} (f : Nat → α → α) (a : α) : acc f a 0 = a := rfl
theorem memb_fold (ok : okG g) (a : Int64) : ∀ j, j ≤ G_n g → acc (fun k x => mx x (memA (G_cd g) (nI k))) a (bc (G_cd g) j) = acc (fun w x => if bt (G_cd g) w = true then mx x (nI w) else x) a j
  | 0, _ => by
    have e : bc (G_cd g) 0 = 0 := rfl
    rw [e, acc_0, acc_0]
  | j + 1, hj => by
    have ih := memb_fold ok a j (by omega)
    show acc _ a (fb_ct (bt (G_cd g)) j + (if bt (G_cd g) j then 1 else 0)) = (if bt (G_cd g) j = true then mx (acc _ a j) (nI j) else acc _ a j)
    rw [← ih]
    by_cases q : bt (G_cd g) j = true
    · rw [if_pos q, if_pos q]
      show mx (acc _ a (bc (G_cd g) j)) (memA (G_cd g) (nI (bc (G_cd g) j))) = _
      rw [memA_k ok q]
    · rw [if_neg q, if_neg q]; rfl
theorem game5 (h : RS z g) (ok : okG g) (F : Fm) : f_X5_hashOfGame z F (h1 g) = some (h4 g) := by
  have hn := ok.1
  have hl := ok.2.2.2.1
  have hg := ok_gc ok
  have j93 : f_X5_hashOfGame_J93 z (h3 g) = some (h4 g) := by
    unfold f_X5_hashOfGame_J93
    rw [guesses5 h, ob, mixed5, ob]
    refine raccm (fun k x => mx x (G_od g k)) (G_gc g) (by omega) _ ?_ ?_
    · intro k x hk re
      unfold f_X5_hashOfGame_L106
      have : aGuess g (nI k) = G_od g k := by
        unfold aGuess
        rw [if_pos ⟨pos_n k (by omega), by rw [x_lt (by omega) (by omega)]; exact hk⟩, x_cl (by omega)]
      rw [h.2.2.2.2.2.2.1, i_lt (by omega) (by omega), if_pos hk, guessAt5 h ok, ob, this, mixed5, ob, lt_, x_a1]
    · intro re
      unfold f_X5_hashOfGame_L106
      rw [h.2.2.2.2.2.2.1, i_lt (by omega) (by omega), if_neg (by omega)]
      rfl
  have j51 : f_X5_hashOfGame_J51 z (h2 g) = f_X5_hashOfGame_J93 z (h3 g) := by
    unfold f_X5_hashOfGame_J51
    have cl := bc_le (G_cd g) 31
    rw [cds5 h ok, ob, mixed5, ob]
    have e3 : h3 g = acc (fun k x => mx x (memA (G_cd g) (nI k))) (mx (h2 g) (nI (bc (G_cd g) 31))) (bc (G_cd g) 31) := by
      rw [show acc (fun k x => mx x (memA (G_cd g) (nI k))) (mx (h2 g) (nI (bc (G_cd g) 31))) (bc (G_cd g) 31) = acc (fun k x => mx x (memA (G_cd g) (nI k))) (mx (h2 g) (nI (bc (G_cd g) 31))) (bc (G_cd g) (G_n g)) by rw [← bc_cut ok], memb_fold ok _ _ (Nat.le_refl _)]
      rfl
    refine raccm (fun k x => mx x (memA (G_cd g) (nI k))) (bc (G_cd g) 31) (by omega) _ ?_ ?_
    · intro k x hk re
      unfold f_X5_hashOfGame_L68
      rw [i_lt (by omega) (by omega), if_pos hk, cand5 h, ob, mixed5, ob, lt_, x_a1]
    · intro re
      unfold f_X5_hashOfGame_L68
      rw [i_lt (by omega) (by omega), if_neg (by omega), ← e3]
  unfold f_X5_hashOfGame
  rw [status5 h, ob, mixed5, ob, lives5 h, ob, mixed5, ob]
  have fin : loop2 (f_X5_hashOfGame_L21 z) FU (mx (mx (h1 g) (nI (G_st g))) (nI (G_lv g))) 0 = f_X5_hashOfGame_J51 z (h2 g) := by
    refine raccm (fun k x => mx x (aShow g (nI k))) (G_len g) (by omega) _ ?_ ?_
    · intro k x hk re
      unfold f_X5_hashOfGame_L21
      rw [h.2.2.2.1, i_lt (by omega) (by omega), if_pos hk, shown5 h ok, ob, mixed5, ob, lt_, x_a1]
    · intro re
      unfold f_X5_hashOfGame_L21
      rw [h.2.2.2.1, i_lt (by omega) (by omega), if_neg (by omega)]
      rfl
  rw [fin, j51, j93]
theorem digest5 (h : RS z g) (ok : okG g) (F : Fm) : ∃ F', f_X5_digest z F = some (h6 g, F') := by
  have j40 : ∀ F', f_X5_digest_J40 z (h5 g) F' = some (h6 g, F') := by
    intro F'
    unfold f_X5_digest_J40
    refine raccm (fun k x => mx x (G_tot g k)) 7 (by omega) _ ?_ ?_
    · intro k x hk re
      unfold f_X5_digest_L42
      have : aTot g (nI k) = G_tot g k := by
        unfold aTot
        rw [if_pos ⟨pos_n k (by omega), by rw [x_lt (by omega) (by omega)]; exact hk⟩, x_cl (by omega)]
      rw [show (7 : Int32) = nI 7 from rfl, i_lt (by omega) (by omega), if_pos hk, total5 h, ob, this, mixed5, ob, lt_, x_a1]
    · intro re
      unfold f_X5_digest_L42
      rw [show (7 : Int32) = nI 7 from rfl, i_lt (by omega) (by omega), if_neg (by omega)]
      rfl
  unfold f_X5_digest
  rw [list5 h ok, ob, game5 h ok F, ob, runs2 h ok, ob]
  by_cases q : G_st g = 1
  · obtain ⟨F', e⟩ := bestG5 h ok F
    rw [if_pos q] at e
    rw [if_pos q, if_neg (by decide), sure5 h ok, ob, if_pos q, mixed5, ob, e, ob]
    have e5 : h5 g = mx (mx (h4 g) (aSure g)) (gBest g) := if_pos q
    have := j40 F'
    rw [e5] at this
    refine ⟨F', ?_⟩
    show Option.bind (f_X5_mixed (mx (h4 g) (aSure g)) (gBest g).toInt64) _ = _
    rw [mixed5, ob]
    exact this
  · rw [if_neg q, if_pos rfl]
    have e5 : h5 g = h4 g := if_neg q
    have := j40 F
    rw [e5] at this
    exact ⟨F, this⟩
end DIG
