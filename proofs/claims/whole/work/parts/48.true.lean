/-! ===== stage B: the law answers true ===== -/
section TRUE_
variable {T : Tx} {z D : St} {V : Sv} {F : Fm} {M : Md} {xs : Nat → Int32} {L j : Nat}
theorem hav56 {g : GS} (r1 : RS z g) (r2 : RM (M_s M) g) (ok : okG g) (p : Int32) : ∃ a, f_X5_having z p = some a ∧ f_X6_having M p = some a := by
  rcases letter_or p with e | ⟨c, hc, rfl, e⟩
  · unfold f_X5_having f_X6_having
    rw [isLetter6, e, ob, ob, if_pos rfl, if_pos rfl]
    exact ⟨_, rfl, rfl⟩
  · exact ⟨_, having5 r1 ok hc, having6 r2 ok hc⟩
theorem top_lt (hL : L ≤ 2048) (hj : j ≤ 2048) : ((Int32.ofNat L) - (4 : Int32) < nI (4 * j)) = (L < 4 * j + 4) := by
  have e : (Int32.ofNat L) - (4 : Int32) = nI L - nI 4 := rfl
  rw [e, fa_lt, fb_subI (by rw [nI_toInt (by omega), nI_toInt (by omega)]; omega) (by rw [nI_toInt (by omega), nI_toInt (by omega)]; omega), nI_toInt (by omega), nI_toInt (by omega), nI_toInt (by omega)]
  exact propext (by omega)
theorem step_true (hL : L ≤ 2048) (hj : 4 * j + 4 ≤ L) (h : Rel T z V M) (re : Int32 → Tx → St → Sv → St → Fm → Md → Option Int32) (hre : ∀ T z V D F M, Rel T z V M → re (nI (4 * (j + 1))) T z V D F M = some 1) : f_L_law_step xs L re (nI (4 * j)) T z V D F M = some 1 := by
  obtain ⟨hT, hX⟩ := h
  have hR : Rel T z V M := ⟨hT, hX⟩
  obtain ⟨g, c, gs, hG⟩ := hX
  have hX : RX z V M := ⟨g, c, gs, hG⟩
  obtain ⟨r1, r2, ok, _⟩ := hG
  have g0 : ∀ (k : Int32 → Option Int32), getA xs L (nI (4 * j)) k = k (xs (4 * j)) := fun k => getA_n (by omega) (by omega)
  have g1 : ∀ (k : Int32 → Option Int32), getA xs L (nI (4 * j) + 1) k = k (xs (4 * j + 1)) := fun k => by rw [x_a1]; exact getA_n (by omega) (by omega)
  have g2 : ∀ (k : Int32 → Option Int32), getA xs L (nI (4 * j) + 2) k = k (xs (4 * j + 2)) := fun k => by rw [show nI (4 * j) + 2 = nI (4 * j + 2) from nI_add _ 2]; exact getA_n (by omega) (by omega)
  have g3 : ∀ (k : Int32 → Option Int32), getA xs L (nI (4 * j) + 3) k = k (xs (4 * j + 3)) := fun k => by rw [show nI (4 * j) + 3 = nI (4 * j + 3) from nI_add _ 3]; exact getA_n (by omega) (by omega)
  have v4 : nI (4 * j) + 4 = nI (4 * (j + 1)) := by rw [show nI (4 * j) + 4 = nI (4 * j + 4) from nI_add _ 4, show 4 * j + 4 = 4 * (j + 1) by omega]
  unfold f_L_law_step
  rw [if_neg (show ¬ ((Int32.ofNat L) - (4 : Int32) < nI (4 * j)) by rw [top_lt hL (by omega)]; omega), g0]
  simp only [lt_, v4]
  generalize xs (4 * j) &&& 31 = X
  by_cases c0 : X = 0
  · obtain ⟨a, T', M', e1, e2, h1, h2⟩ := type56 hT (xs (4 * j + 1))
    rw [if_pos c0, g1, e1, ob, g1, e2, ob, if_pos rfl]
    exact hre _ _ _ _ _ _ (⟨h1, h2 _ _ hX⟩)
  rw [if_neg c0]
  by_cases c1 : X = 1
  · obtain ⟨a, T', M', e1, e2, h1, h2⟩ := clear56 hT
    rw [if_pos c1, e1, ob, e2, ob, if_pos rfl]
    exact hre _ _ _ _ _ _ (⟨h1, h2 _ _ hX⟩)
  rw [if_neg c1]
  by_cases c2 : X = 2
  · obtain ⟨a, e1, e2⟩ := syn56 hT
    rw [if_pos c2, e1, ob, e2, ob, if_pos rfl]
    exact hre _ _ _ _ _ _ (hR)
  rw [if_neg c2]
  by_cases c3 : X = 3
  · obtain ⟨a, T', z', V', D', M', e1, e2, h1, h2⟩ := addW56 hX hT D
    rw [if_pos c3, e1, ob, e2, ob, if_pos rfl]
    exact hre _ _ _ _ _ _ (⟨h2, h1⟩)
  rw [if_neg c3]
  by_cases c4 : X = 4
  · obtain ⟨a, z', V', M', e1, e2, h1, k⟩ := rem56 hX (xs (4 * j + 1))
    rw [if_pos c4, g1, e1, ob, g1, e2, ob, if_pos rfl]
    exact hre _ _ _ _ _ _ (⟨TX_k hT k, h1⟩)
  rw [if_neg c4]
  by_cases c5 : X = 5
  · have e1 := words5 r1
    have e2 := words6 r2
    rw [if_pos c5, e1, ob, e2, ob, if_pos rfl]
    exact hre _ _ _ _ _ _ (hR)
  rw [if_neg c5]
  by_cases c6 : X = 6
  · have e1 := letterOf5 r1 ok (xs (4 * j + 1)) (xs (4 * j + 2))
    have e2 := letterOf6 r2 ok (xs (4 * j + 1)) (xs (4 * j + 2))
    rw [if_pos c6, g1, g2, e1, ob, g1, g2, e2, ob, if_pos rfl]
    exact hre _ _ _ _ _ _ (hR)
  rw [if_neg c6]
  by_cases c7 : X = 7
  · obtain ⟨a, z', V', M', e1, e2, h1, k⟩ := pol56 hX (xs (4 * j + 1))
    rw [if_pos c7, g1, e1, ob, g1, e2, ob, if_pos rfl]
    exact hre _ _ _ _ _ _ (⟨TX_k hT k, h1⟩)
  rw [if_neg c7]
  by_cases c8 : X = 8
  · obtain ⟨a, z', V', M', e1, e2, h1, k⟩ := start56 hX (xs (4 * j + 1)) (xs (4 * j + 2))
    rw [if_pos c8, g1, g2, e1, ob, g1, g2, e2, ob, if_pos rfl]
    exact hre _ _ _ _ _ _ (⟨TX_k hT k, h1⟩)
  rw [if_neg c8]
  by_cases c9 : X = 9
  · obtain ⟨a, z', V', F', M', e1, e2, h1, k⟩ := guess56 hX F (xs (4 * j + 1))
    rw [if_pos c9, g1, e1, ob, g1, e2, ob, if_pos rfl]
    exact hre _ _ _ _ _ _ (⟨TX_k hT k, h1⟩)
  rw [if_neg c9]
  by_cases c10 : X = 10
  · obtain ⟨a, T', z', V', M', e1, e2, h1, h2⟩ := gword56 hX hT
    rw [if_pos c10, e1, ob, e2, ob, if_pos rfl]
    exact hre _ _ _ _ _ _ (⟨h2, h1⟩)
  rw [if_neg c10]
  by_cases c11 : X = 11
  · obtain ⟨a, z', V', M', e1, e2, h1, k⟩ := give56 hX
    rw [if_pos c11, e1, ob, e2, ob, if_pos rfl]
    exact hre _ _ _ _ _ _ (⟨TX_k hT k, h1⟩)
  rw [if_neg c11]
  by_cases c12 : X = 12
  · have e1 := status5 r1
    have e2 := status6 r2
    rw [if_pos c12, e1, ob, e2, ob, if_pos rfl]
    exact hre _ _ _ _ _ _ (hR)
  rw [if_neg c12]
  by_cases c13 : X = 13
  · have e1 := lives5 r1
    have e2 := lives6 r2
    rw [if_pos c13, e1, ob, e2, ob, if_pos rfl]
    exact hre _ _ _ _ _ _ (hR)
  rw [if_neg c13]
  by_cases c14 : X = 14
  · have e1 := shown5 r1 ok (xs (4 * j + 1))
    have e2 := shown6 r2 ok (xs (4 * j + 1))
    rw [if_pos c14, g1, e1, ob, g1, e2, ob, if_pos rfl]
    exact hre _ _ _ _ _ _ (hR)
  rw [if_neg c14]
  by_cases c15 : X = 15
  · have e1 := cds5 r1 ok
    have e2 := cds6 r2
    rw [if_pos c15, e1, ob, e2, ob, if_pos rfl]
    exact hre _ _ _ _ _ _ (hR)
  rw [if_neg c15]
  by_cases c16 : X = 16
  · have e1 := cand5 r1 (xs (4 * j + 1))
    have e2 := cand6 r2 ok (xs (4 * j + 1))
    rw [if_pos c16, g1, e1, ob, g1, e2, ob, if_pos rfl]
    exact hre _ _ _ _ _ _ (hR)
  rw [if_neg c16]
  by_cases c17 : X = 17
  · have e1 := guesses5 r1
    have e2 := guesses6 r2
    rw [if_pos c17, e1, ob, e2, ob, if_pos rfl]
    exact hre _ _ _ _ _ _ (hR)
  rw [if_neg c17]
  by_cases c18 : X = 18
  · have e1 := guessAt5 r1 ok (xs (4 * j + 1))
    have e2 := guessAt6 r2 ok (xs (4 * j + 1))
    rw [if_pos c18, g1, e1, ob, g1, e2, ob, if_pos rfl]
    exact hre _ _ _ _ _ _ (hR)
  rw [if_neg c18]
  by_cases c19 : X = 19
  · obtain ⟨a, F', M', e1, e2, k⟩ := fams56 r1 r2 ok F (xs (4 * j + 1))
    rw [if_pos c19, g1, e1, ob, g1, e2, ob, if_pos rfl]
    exact hre _ _ _ _ _ _ (Rel_m hR k)
  rw [if_neg c19]
  by_cases c20 : X = 20
  · obtain ⟨a, F', M', e1, e2, k⟩ := fam56 r1 r2 ok F (xs (4 * j + 1)) (xs (4 * j + 2)) (xs (4 * j + 3))
    rw [if_pos c20, g1, g2, g3, e1, ob, g1, g2, g3, e2, ob, if_pos rfl]
    exact hre _ _ _ _ _ _ (Rel_m hR k)
  rw [if_neg c20]
  by_cases c21 : X = 21
  · obtain ⟨a, F', M', e1, e2, k⟩ := spread56 r1 r2 ok F (xs (4 * j + 1))
    rw [if_pos c21, g1, e1, ob, g1, e2, ob, if_pos rfl]
    exact hre _ _ _ _ _ _ (Rel_m hR k)
  rw [if_neg c21]
  by_cases c22 : X = 22
  · obtain ⟨a, e1, e2⟩ := hav56 r1 r2 ok (xs (4 * j + 1))
    rw [if_pos c22, g1, e1, ob, g1, e2, ob, if_pos rfl]
    exact hre _ _ _ _ _ _ (hR)
  rw [if_neg c22]
  by_cases c23 : X = 23
  · have e1 := sure5 r1 ok
    have e2 := sure6 r2 ok
    rw [if_pos c23, e1, ob, e2, ob, if_pos rfl]
    exact hre _ _ _ _ _ _ (hR)
  rw [if_neg c23]
  by_cases c24 : X = 24
  · obtain ⟨F', e1⟩ := bestG5 r1 ok F
    obtain ⟨M', e2, k⟩ := bestG6 r2 ok
    rw [if_pos c24, e1, ob, e2, ob, if_pos rfl]
    exact hre _ _ _ _ _ _ (Rel_m hR k)
  rw [if_neg c24]
  by_cases c25 : X = 25
  · obtain ⟨a, D', F', M', e1, e2, h1, k⟩ := miss56 hX D F
    rw [if_pos c25, e1, ob, e2, ob, if_pos rfl]
    exact hre _ _ _ _ _ _ (⟨TX_k hT k, h1⟩)
  rw [if_neg c25]
  by_cases c26 : X = 26
  · have e1 := total5 r1 (xs (4 * j + 1))
    have e2 := total6 r2 (xs (4 * j + 1))
    rw [if_pos c26, g1, e1, ob, g1, e2, ob, if_pos rfl]
    exact hre _ _ _ _ _ _ (hR)
  rw [if_neg c26]
  by_cases c27 : X = 27
  · obtain ⟨a, z', V', M', e1, e2, h1, k⟩ := undo56 hX
    rw [if_pos c27, e1, ob, e2, ob, if_pos rfl]
    exact hre _ _ _ _ _ _ (⟨TX_k hT k, h1⟩)
  rw [if_neg c27]
  by_cases c28 : X = 28
  · obtain ⟨F', e1⟩ := digest5 r1 ok F
    obtain ⟨M', e2, k⟩ := digest6 r2 ok
    rw [if_pos c28, e1, ob, e2, ob, if_pos rfl]
    exact hre _ _ _ _ _ _ (Rel_m hR k)
  rw [if_neg c28]
  exact hre _ _ _ _ _ _ hR
theorem loop_true (hL : L ≤ 2048) : ∀ N j T z V D F M, 0 < N → L < 4 * j + 4 * N → 4 * j ≤ L + 4 → Rel T z V M → loop7 (f_L_law_step xs L) N (nI (4 * j)) T z V D F M = some 1
  | 0, _, _, _, _, _, _, _, h, _, _, _ => absurd h (Nat.lt_irrefl _)
  | N + 1, j, T, z, V, D, F, M, _, h2, h3, hR => by
    show f_L_law_step xs L (loop7 (f_L_law_step xs L) N) (nI (4 * j)) T z V D F M = some 1
    by_cases q : L < 4 * j + 4
    · generalize loop7 (f_L_law_step xs L) N = re
      unfold f_L_law_step
      rw [if_pos (show (Int32.ofNat L) - (4 : Int32) < nI (4 * j) by rw [top_lt hL (by omega)]; exact q)]
    · have IH := fun T z V D F M => loop_true hL N (j + 1) T z V D F M (by omega) (by omega) (by omega)
      generalize loop7 (f_L_law_step xs L) N = re at *
      exact step_true hL (by omega) hR re IH
theorem law_true (xs : Nat → Int32) (L : Nat) (hL : L ≤ 2048) : f_L_law xs L = some 1 := loop_true hL FU 0 ini_T ini_S ini_V ini_S ini_F ini_M (by show 0 < 4096; omega) (by show L < 4 * 0 + 4 * 4096; omega) (by omega) Rel_0
end TRUE_
