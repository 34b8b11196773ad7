/-! ===== stage B: copies; misses ahead ===== -/
theorem cpy_k {α : Type} (f g : Nat → α) {n k : Nat} (h : k < n) : va_cpy f g 0 0 n k = f k := by
  unfold va_cpy
  rw [if_pos ⟨Nat.zero_le _, by omega⟩]
  congr 1
  omega
theorem copy2 {zO : St} {g : GS} (h : RS zO g) (ok : okG g) (zS : St) : ∃ z', f_X2_copyFrom zS zO = some z' ∧ RS z' g := by
  have hn := ok.1
  have hg := ok_gc ok
  refine ⟨_, rfl, h.1, h.2.1, h.2.2.1, h.2.2.2.1, h.2.2.2.2.1, h.2.2.2.2.2.1, h.2.2.2.2.2.2.1, h.2.2.2.2.2.2.2.1, fun k hk => ?_, fun k hk => ?_, h.2.2.2.2.2.2.2.2.2.2.1, fun w hw => ?_⟩
  · exact (cpy_k _ _ hk).trans (h.2.2.2.2.2.2.2.2.1 k hk)
  · exact (cpy_k _ _ (show k < 26 by omega)).trans (h.2.2.2.2.2.2.2.2.2.1 k hk)
  · exact (cpy_k _ _ (show w < 30 by omega)).trans (h.2.2.2.2.2.2.2.2.2.2.2 w hw)
/-! misses ahead -/
def gStep (g : GS) : GS := gGuess g ((gBest g).toNatClampNeg - 97)
def gA (g : GS) : Nat → GS
  | 0 => g
  | k + 1 => gStep (gA g k)
theorem letter_left {g : GS} (ok : okG g) (rn : okR g) : ∃ c, c < 26 ∧ bt (G_gs g) c = false := by
  obtain ⟨i, hi⟩ := rn.2.1
  obtain ⟨k, hk, hp⟩ := rn.2.2.1
  have l8 := ok.2.2.2.1
  have ow := ok_w ok (ok_cd ok hi)
  have hd := ow.2.2 k (by omega)
  have h0 : G_D g i k ≠ 0 := hd.2.mpr (by rw [rn.1 i hi]; exact hk)
  exact ⟨G_D g i k - 1, by omega, rn.2.2.2.2.1 i k hi hk hp⟩
theorem step_p {g : GS} (ok : okG g) (rn : okR g) : ∃ c, c < 26 ∧ bt (G_gs g) c = false ∧ gBest g = nI (97 + c) ∧ gStep g = gGuess g c := by
  obtain ⟨c, h1, h2, h3⟩ := gBest_p (letter_left ok rn)
  refine ⟨c, h1, h2, h3, ?_⟩
  unfold gStep
  rw [h3, x_cl (by omega), show 97 + c - 97 = c by omega]
def gLast (g : GS) (K : Nat) : Prop := K ≤ 26 ∧ G_st (gA g K) ≠ 1 ∧ ∀ j, j < K → G_st (gA g j) = 1
theorem gA_ok {g : GS} (ok : okG g) (rn : okR g) : ∀ k, (∀ j, j < k → G_st (gA g j) = 1) → okG (gA g k) ∧ (∃ i, bt (G_cd (gA g k)) i = true) ∧ G_gc (gA g k) = G_gc g + k
  | 0, _ => ⟨ok, rn.2.1, rfl⟩
  | k + 1, h => by
    obtain ⟨o, c, e⟩ := gA_ok ok rn k (fun j hj => h j (by omega))
    have r := o.2.2.2.2.2.2.2.2.2.2.2.2 (h k (by omega))
    obtain ⟨b, b1, b2, b3, b4⟩ := step_p o r
    have ga := guess_all (gA g k) b
    show okG (gStep (gA g k)) ∧ (∃ i, bt (G_cd (gStep (gA g k))) i = true) ∧ G_gc (gStep (gA g k)) = G_gc g + (k + 1)
    rw [b4]
    refine ⟨guess_ok o r b1 b2, ?_, by rw [ga.1, e]; omega⟩
    rw [ga.2.1]
    exact gE_ne o c b
theorem gLast_ex {g : GS} (ok : okG g) (rn : okR g) : ∃ K, gLast g K := by
  have : ∃ i, i < 27 ∧ G_st (gA g i) ≠ 1 := by
    refine Classical.byContradiction (fun q => ?_)
    have all : ∀ j, j < 27 → G_st (gA g j) = 1 := fun j hj => Classical.byContradiction (fun x => q ⟨j, hj, x⟩)
    obtain ⟨o, c, e⟩ := gA_ok ok rn 26 (fun j hj => all j (by omega))
    have r := o.2.2.2.2.2.2.2.2.2.2.2.2 (all 26 (by omega))
    obtain ⟨b, b1, b2⟩ := letter_left o r
    have := gc_lt o b1 b2
    omega
  obtain ⟨K, h1, h2, h3⟩ := fb_first this
  exact ⟨K, by omega, h2, fun j hj => Classical.byContradiction (fun x => h3 j hj x)⟩
section AHEAD
variable {zN zD : St} {g : GS}
theorem nm6 {c : Nat} (hc : c < 26) : ¬ nI (97 + c) = -6 := by
  intro h
  have := neg_ne (x := -6) (by decide) (a := 97 + c) (by omega)
  exact this h.symm
theorem ahead2 (h : RS zN g) (ok : okG g) (rn : okR g) (h1 : G_st g = 1) {K : Nat} (hK : gLast g K) (zD : St) (F : Fm) : ∃ zD' F', f_X5_missesAhead zN zD F = some (G_tot (gA g K) 5 - G_tot g 5, zD', F') := by
  obtain ⟨z1, e1, r1⟩ := copy2 h ok zD
  unfold f_X5_missesAhead
  rw [runs2 h ok, ob, if_pos h1, if_neg (by decide), e1, ob]
  have J73 : ∀ z' F', RS z' (gA g K) → f_X5_missesAhead_J73 zN z' F' = some (G_tot (gA g K) 5 - G_tot g 5, z', F') := by
    intro z' F' r
    unfold f_X5_missesAhead_J73 f_X2_totalOf
    rw [show (5 : Int32) = nI 5 from rfl, show (7 : Int32) = nI 7 from rfl, i_n (by omega), i_n (by omega), i_lt (by omega) (by omega), i_lt (by omega) (by omega), if_pos (by omega), if_pos (by omega), getA_n (by omega) (by omega), getA_n (by omega) (by omega), ob, ob, r.2.2.2.2.2.2.2.2.1 5 (by omega), h.2.2.2.2.2.2.2.2.1 5 (by omega)]
  refine run3 (fun j a z' (_ : Fm) => a = nI j ∧ RS z' (gA g j)) (fun r => ∃ zD' F', r = some (G_tot (gA g K) 5 - G_tot g 5, zD', F')) K ?_ ?_ FU _ _ _ (FU_gt (by have := hK.1; omega)) ⟨rfl, r1⟩
  · rintro j a z' F' hj ⟨rfl, r⟩
    have k26 := hK.1
    obtain ⟨o, c, e⟩ := gA_ok ok rn j (fun i hi => hK.2.2 i (by omega))
    have run := hK.2.2 j hj
    have rj := o.2.2.2.2.2.2.2.2.2.2.2.2 run
    obtain ⟨b, b1, b2, b3, b4⟩ := step_p o rj
    obtain ⟨F2, e2⟩ := best0 r o c F'
    obtain ⟨F3, z3, e3, r3⟩ := play0 r o rj b1 b2 F2
    refine ⟨nI (j + 1), z3, F3, ⟨rfl, ?_⟩, fun re => ?_⟩
    · show RS z3 (gStep (gA g j))
      rw [b4]; exact r3
    · unfold f_X5_missesAhead_L26
      rw [show (26 : Int32) = nI 26 from rfl, i_lt (by omega) (by omega), if_pos (by omega), runs2 r o, ob, if_pos run, if_neg (by decide), e2, ob]
      show (if gBest (gA g j) = -6 then lett (nI j + 1) fun v1_12 => re v1_12 z' F2 else Option.bind (f_X5_play F2 z' (gBest (gA g j))) fun r_13 => lett (nI j + 1) fun v1_14 => re v1_14 r_13.2.2 r_13.2.1) = _
      rw [b3, if_neg (nm6 b1), e3, ob, lt_, x_a1]
  · rintro a z' F' ⟨rfl, r⟩ re
    have k26 := hK.1
    obtain ⟨o, c, e⟩ := gA_ok ok rn K hK.2.2
    unfold f_X5_missesAhead_L26
    rw [show (26 : Int32) = nI 26 from rfl, i_lt (by omega) (by omega)]
    by_cases q : K < 26
    · rw [if_pos q, runs2 r o, ob, if_neg hK.2.1, if_pos rfl, J73 z' F' r]
      exact ⟨_, _, rfl⟩
    · rw [if_neg q, J73 z' F' r]
      exact ⟨_, _, rfl⟩
end AHEAD
