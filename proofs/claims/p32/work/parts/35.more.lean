/-! ===== stage B: having, sure letters, families, spread, the best guess ===== -/
section MORE
variable {z : St} {g : GS}
theorem letter_or (p : Int32) : f_X5_isLetter p = some 0 ∨ ∃ c, c < 26 ∧ p = nI (97 + c) ∧ f_X5_isLetter p = some 1 := by
  rcases neg_or p with hp | ⟨j, hj, rfl⟩
  · exact Or.inl (isLetter5_neg hp)
  · rw [isLetter5 hj]
    by_cases q : 97 ≤ j ∧ j ≤ 122
    · exact Or.inr ⟨j - 97, by omega, by rw [show 97 + (j - 97) = j by omega], by rw [if_pos q]⟩
    · exact Or.inl (by rw [if_neg q])
theorem msk_0 (d : Nat → Nat) (c : Nat) : msk d c = 0 ↔ ∀ k, k < 8 → d k ≠ c := by
  constructor
  · intro h k hk e
    have := bt_msk d c (i := k) (by omega)
    rw [h, b_0, decide_eq_true hk, decide_eq_true e] at this
    cases this
  · intro h
    apply b_ext
    intro i hi
    rw [bt_msk d c hi, b_0]
    by_cases q : i < 8
    · rw [decide_eq_false (h i q), Bool.and_false]
    · rw [decide_eq_false q, Bool.false_and]
def hvB (g : GS) (c w : Nat) : Bool := bt (G_cd g) w && decide (¬ msk (G_D g w) (c + 1) = 0)
def aHav (g : GS) (c : Nat) : Int32 := if G_st g = 0 then -3 else nI (fb_ct (hvB g c) (G_n g))
theorem having5 (h : RS z g) (ok : okG g) {c : Nat} (hc : c < 26) : f_X5_having z (nI (97 + c)) = some (aHav g c) := by
  have hn := ok.1
  have hs := ok.2.2.1
  unfold f_X5_having aHav
  rw [isLetter5 (by omega), if_pos (by omega), ob, if_neg (by decide), h.2.2.1, i_z (by omega)]
  by_cases q : G_st g = 0
  · rw [if_pos q, if_pos q]
  · rw [if_neg q, if_neg q]
    have e : f_X2_candidatesWith z (nI (97 + c)) = some (nI (fb_ct (hvB g c) (G_n g))) := by
      unfold f_X2_candidatesWith
      refine run2 (fun j a b => a = nI (fb_ct (hvB g c) j) ∧ b = nI j) (fun r => r = some (nI (fb_ct (hvB g c) (G_n g)))) (G_n g) ?_ ?_ FU 0 0 (FU_gt (by omega)) ⟨rfl, rfl⟩
      · rintro j a b hj ⟨rfl, rfl⟩
        refine ⟨nI (fb_ct (hvB g c) (j + 1)), nI (j + 1), ⟨rfl, rfl⟩, fun re => ?_⟩
        unfold f_X2_candidatesWith_L4
        rw [h.1, i_lt (by omega) (by omega), if_pos hj, isCand2 h ok hj, ob, fb_ct_succ]
        unfold hvB
        by_cases y : bt (G_cd g) j = true
        · rw [if_pos y, if_neg (by decide), wordAt2 h ok hj, ob, maskOf4 (okw_d (ok_w ok hj)) hc, ob, lt_, lt_, lt_, x_a1, x_a1]
          by_cases u : msk (G_D g j) (c + 1) = 0
          · rw [if_pos u, if_neg (by simp [u])]; rfl
          · rw [if_neg u, if_pos (by simp [u, y])]
        · rw [if_neg y, if_pos rfl, lt_, x_a1, if_neg (by simp [y])]; rfl
      · rintro a b ⟨rfl, rfl⟩ re
        unfold f_X2_candidatesWith_L4
        rw [h.1, i_lt (by omega) (by omega), if_neg (by omega)]
    rw [e, ob]
/-! sure letters -/
def sureN (g : GS) (a : Int32) (n : Nat) : Int32 := acc (fun w x => if bt (G_cd g) w = true then x &&& lts (G_D g w) else x) a n
theorem sureN_and (g : GS) (a b : Int32) : ∀ n, sureN g (a &&& b) n = sureN g a n &&& b
  | 0 => rfl
  | n + 1 => by
    show (if bt (G_cd g) n = true then sureN g (a &&& b) n &&& lts (G_D g n) else sureN g (a &&& b) n) = (if bt (G_cd g) n = true then sureN g a n &&& lts (G_D g n) else sureN g a n) &&& b
    rw [sureN_and g a b n]
    by_cases q : bt (G_cd g) n = true
    · rw [if_pos q, if_pos q]
      apply b_ext
      intro i hi
      simp only [b_and]
      cases bt (sureN g a n) i <;> cases bt b i <;> cases bt (lts (G_D g n)) i <;> rfl
    · rw [if_neg q, if_neg q]
def aSure (g : GS) : Int32 := sureN g 67108863 (G_n g) &&& (G_gs g ^^^ (-1))
theorem sure5 (h : RS z g) (ok : okG g) : f_X5_sureLetters z = some (if G_st g = 1 then aSure g else -3) := by
  have hn := ok.1
  unfold f_X5_sureLetters
  rw [runs2 h ok, ob]
  by_cases q : G_st g = 1
  · rw [if_pos q, if_neg (by decide), if_pos q]
    have e : f_X2_lettersOfAll z = some (sureN g 67108863 (G_n g)) := by
      unfold f_X2_lettersOfAll
      refine racc (fun w x => if bt (G_cd g) w = true then x &&& lts (G_D g w) else x) (G_n g) (by omega) _ ?_ ?_
      · intro j hj re
        show _ = re (if bt (G_cd g) j = true then _ &&& lts (G_D g j) else _) _
        generalize acc _ _ j = x
        unfold f_X2_lettersOfAll_L5
        rw [h.1, i_lt (by omega) (by omega), if_pos hj, isCand2 h ok hj, ob]
        by_cases y : bt (G_cd g) j = true
        · rw [if_pos y, if_neg (by decide), wordAt2 h ok hj, ob, lettersOf4 (okw_d (ok_w ok hj)), ob, lt_, lt_, x_a1, if_pos y]
        · rw [if_neg y, if_pos rfl, lt_, x_a1, if_neg y]
      · intro re
        unfold f_X2_lettersOfAll_L5
        rw [h.1, i_lt (by omega) (by omega), if_neg (by omega)]
        rfl
    rw [e, ob, h.2.2.2.2.2.1]
    rfl
  · rw [if_neg q, if_pos rfl, if_neg q]
/-! what stands against asking of a letter -/
def aBar (g : GS) (p : Int32) : Int32 := if f_X5_isLetter p = some 0 then -2 else if G_st g = 1 then (if bt (G_gs g) (p.toNatClampNeg - 97) = true then -3 else 0) else -3
theorem bar5 (h : RS z g) (ok : okG g) (p : Int32) : f_X5_faultOfAsking z p = some (aBar g p) := by
  unfold f_X5_faultOfAsking aBar
  rcases letter_or p with e | ⟨c, hc, rfl, e⟩
  · rw [e, ob, if_pos rfl, if_pos rfl]
  · rw [e, ob, if_neg (by decide), if_neg (by decide), runs2 h ok, ob]
    by_cases q : G_st g = 1
    · rw [if_pos q, if_neg (by decide), wasGuessed2 h hc, ob, if_pos q, x_cl (by omega), show 97 + c - 97 = c by omega]
      by_cases y : bt (G_gs g) c = true
      · rw [if_pos y, if_neg (by decide), if_pos y]
      · rw [if_neg y, if_pos rfl, if_neg y]
    · rw [if_neg q, if_pos rfl, if_neg q]
theorem bar_0 (ok : okG g) {p : Int32} (h : aBar g p = 0) : ∃ c, c < 26 ∧ p = nI (97 + c) ∧ bt (G_gs g) c = false ∧ G_st g = 1 ∧ okR g := by
  unfold aBar at h
  rcases letter_or p with e | ⟨c, hc, rfl, e⟩
  · rw [if_pos e] at h; exact absurd h (by decide)
  · rw [if_neg (by rw [e]; decide)] at h
    by_cases q : G_st g = 1
    · rw [if_pos q, x_cl (by omega), show 97 + c - 97 = c by omega] at h
      by_cases y : bt (G_gs g) c = true
      · rw [if_pos y] at h; exact absurd h (by decide)
      · exact ⟨c, hc, rfl, by cases x : bt (G_gs g) c; rfl; exact absurd x y, q, ok.2.2.2.2.2.2.2.2.2.2.2.2 q⟩
    · rw [if_neg q] at h; exact absurd h (by decide)
theorem bestG5 (h : RS z g) (ok : okG g) (F : Fm) : ∃ F', f_X5_bestGuess z F = some (if G_st g = 1 then gBest g else -3, F') := by
  unfold f_X5_bestGuess
  rw [runs2 h ok, ob]
  by_cases q : G_st g = 1
  · rw [if_pos q, if_neg (by decide), if_pos q]
    obtain ⟨F', e⟩ := best0 h ok (ok.2.2.2.2.2.2.2.2.2.2.2.2 q).2.1 F
    rw [e, ob]
    exact ⟨F', rfl⟩
  · rw [if_neg q, if_pos rfl, if_neg q]
    exact ⟨F, rfl⟩
end MORE
