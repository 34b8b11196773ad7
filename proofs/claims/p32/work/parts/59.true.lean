/-! ===== the law answers true ===== -/
theorem and_top (x : Int32) : ∃ C, C < 2147483648 ∧ x &&& (2147483647 : Int32) = nI C := pos_of (by rw [b_and, show bt 2147483647 31 = false by decide, Bool.and_false])
theorem cellA (xs : Nat → Int32) {L j : Nat} (hL : L ≤ 260) (hj : j < 48) : ∃ C, C < 2147483648 ∧ f_L_cell xs L (nI j) = some (nI C) := by
  unfold f_L_cell
  rw [show Int32.ofNat L = nI L from rfl, i_lt (by omega) (by omega)]
  by_cases q : j < L
  · obtain ⟨C, hC, e⟩ := and_top (xs j)
    rw [if_pos q, getA_n q (by omega), e]
    exact ⟨C, hC, rfl⟩
  · obtain ⟨C, hC, e⟩ := and_top (((49333 : Int32) * (nI j + (7 : Int32))) + (29 : Int32))
    rw [if_neg q, e]
    exact ⟨C, hC, rfl⟩
section TRUE_
variable {T T2 : Tx} {z z2 D D2 : St} {V V2 : Sv} {F F2 : Fm} {A : AS} {K : Nat}
theorem fin_true {g : GS} {t : Nat} {ch : Nat → Nat} (r : RS z g) (rq : RS z2 g) (ok : okG g) (tx : TXr T t ch) : f_L_law_fin 1 T z V D F T2 z2 V2 D2 F2 = some 1 := by
  have t80 := tx.2.1
  obtain ⟨T1, c1, c2⟩ := clear5 tx
  obtain ⟨T3, c3, c4⟩ := type5 c2 (j := 97) (by omega) (by omega)
  obtain ⟨T4, c5, c6⟩ := clear5 c4
  have c3 : f_X5_type T1 (97 : Int32) = some (1, T3) := c3
  have c5 : f_X5_clearText T3 = some (1, T4) := c5
  obtain ⟨F5, d5⟩ := digest5 r ok F
  obtain ⟨F6, d6⟩ := digest5 rq ok F2
  unfold f_L_law_fin
  rw [if_neg (show ¬ (1 : Int32) = 0 by decide), c1, ob]
  dsimp only
  rw [i_n (by omega), c3, ob]
  dsimp only
  rw [if_pos rfl, d5, ob, d6, ob]
  dsimp only
  rw [if_pos rfl, c5, ob]
  dsimp only
  rw [if_pos rfl]
theorem end_true (h : OKA K A) (r : RC T z V A) (rq : RC T2 z2 V2 A) : f_L_law_end 1 T z V D F T2 z2 V2 D2 F2 = some 1 := by
  obtain ⟨g, c, gs, t, ch⟩ := A
  have ok : okG g := h.1.1
  have c6 : c ≤ 6 := h.2.1
  have p2 := ok.2.1
  have r0 : RS z g := r.1
  have q0 : RS z2 g := rq.1
  have v0 : RV V c gs := r.2.1
  have ok1 : okG (U_pol g 2) := (okX_pol h.1 (Nat.le_refl 2)).1
  obtain ⟨z3, V3, e1, r1, v1⟩ := pol5 r0 ok c6 v0 (j := 2) (Nat.le_refl 2)
  have e1 : f_X5_setPolicy z V (2 : Int32) = some (nI (G_pol g), z3, V3) := e1
  obtain ⟨F3, d1⟩ := digest5 r1 ok1 F
  obtain ⟨z4, V4, e2, r2, v2⟩ := pol5 r1 ok1 (cP_le c6) v1 (j := G_pol g) p2
  have e2 : f_X5_setPolicy z3 V3 (nI (G_pol g)) = some (2, z4, V4) := e2
  have r2 : RS z4 g := r2
  obtain ⟨F4, d2⟩ := digest5 r2 ok F3
  obtain ⟨F5, d3⟩ := digest5 q0 ok F2
  obtain ⟨d, hd, hd6⟩ := cP_pos (cP c)
  have hd6 := hd6 (cP_le c6)
  obtain ⟨b, hb⟩ : ∃ b, d = b + 1 := by
    obtain ⟨x, hx, _⟩ := cP_pos c
    rw [hx] at hd
    unfold cP at hd
    by_cases q : x + 1 = 6
    · rw [if_pos q] at hd; exact ⟨4, by omega⟩
    · rw [if_neg q] at hd; exact ⟨x, by omega⟩
  subst hb
  rw [hd] at v2
  obtain ⟨z5, V5, e3, r3, v3⟩ := undo5 (z := z4) hd6 (show okG (gsP (U_pol g 2) (gsP g gs) 0) from ok1) v2
  have r3 : RS z5 (U_pol g 2) := r3
  obtain ⟨F6, d4⟩ := digest5 r3 ok1 F4
  obtain ⟨z6, V6, e4, r4, v4⟩ := undo5 (z := z5) (show b < 6 by omega) (show okG (gsP (U_pol g 2) (gsP g gs) (0 + 1)) from ok) v3
  have r4 : RS z6 g := r4
  obtain ⟨F7, d5⟩ := digest5 r4 ok F6
  obtain ⟨F8, d6⟩ := digest5 q0 ok F5
  unfold f_L_law_end
  rw [if_neg (show ¬ (1 : Int32) = 0 by decide), e1, ob]
  dsimp only
  rw [d1, ob]
  dsimp only
  rw [i_n (by omega), e2, ob]
  dsimp only
  rw [if_pos rfl, d2, ob, d3, ob]
  dsimp only
  rw [if_pos rfl, e3, ob]
  dsimp only
  rw [i_n (by omega), d4, ob]
  dsimp only
  rw [if_pos rfl, e4, ob]
  dsimp only
  rw [i_n (by omega), d5, ob, d6, ob]
  dsimp only
  rw [if_pos rfl]
  exact fin_true r4 q0 ok r.2.2
theorem step_true {xs : Nat → Int32} {L j : Nat} (hL : L ≤ 260) (hj : j < 48) (h : OKA j A) (re : Int32 → Int32 → Tx → St → Sv → St → Fm → Tx → St → Sv → St → Fm → Option Int32) (hre : ∀ A' T z V D F T2 z2 V2 D2 F2, OKA (j + 1) A' → RC T z V A' → RC T2 z2 V2 A' → re 1 (nI (j + 1)) T z V D F T2 z2 V2 D2 F2 = some 1) (r : RC T z V A) (rq : RC T2 z2 V2 A) : f_L_law_step xs L re 1 (nI j) T z V D F T2 z2 V2 D2 F2 = some 1 := by
  obtain ⟨C, hC, e0⟩ := cellA xs hL hj
  obtain ⟨a, A', hA, f⟩ := actsA hC h
  obtain ⟨T3, z3, V3, D3, F3, e1, r1⟩ := f T z V D F r
  have e1 : f_L_acts T z V D F (nI C) = some (a, T3, z3, V3, D3, F3) := e1
  have g1 : RS z3 A'.1 := r1.1
  have ok1 : okG A'.1 := hA.1.1
  unfold f_L_law_step
  rw [show (48 : Int32) = nI 48 from rfl, i_lt (by omega) (by omega), if_pos hj, if_neg (show ¬ (1 : Int32) = 0 by decide), e0, ob, e1, ob]
  dsimp only
  rw [show (2 : Int32) = nI 2 from rfl, remI_n (by omega) (by omega) (by omega), i_p (by omega)]
  by_cases p : 0 < j % 2
  · obtain ⟨T4, z4, V4, D4, F4, e2, r2⟩ := f T2 z2 V2 D2 F2 rq
    have e2 : f_L_acts T2 z2 V2 D2 F2 (nI C) = some (a, T4, z4, V4, D4, F4) := e2
    have g2 : RS z4 A'.1 := r2.1
    obtain ⟨D5, F5, e3⟩ := hangsA g2 hA.1 (by omega) D4 F4
    obtain ⟨F6, e4⟩ := digest5 g1 ok1 F3
    obtain ⟨F7, e5⟩ := digest5 g2 ok1 F5
    rw [if_pos p, e2, ob]
    dsimp only
    rw [if_pos rfl, remI_n (by omega) (by omega) (by omega), i_z (by omega), if_neg (by omega), e3, ob]
    dsimp only
    rw [if_neg (show ¬ (1 : Int32) = 0 by decide), e4, ob, e5, ob]
    dsimp only
    rw [if_pos rfl, lt_, x_a1]
    exact hre A' _ _ _ _ _ _ _ _ _ _ hA r1 r2
  · have gq : RS z2 A.1 := rq.1
    have er := refA gq rq.2.2 h.1 (y := C % 100000) (by omega) V2 F2
    obtain ⟨T4, z4, V4, D4, F4, e2, r2⟩ := f T2 z2 V2 D2 F2 rq
    have e2 : f_L_acts T2 z2 V2 D2 F2 (nI C) = some (a, T4, z4, V4, D4, F4) := e2
    have g2 : RS z4 A'.1 := r2.1
    obtain ⟨D5, F5, e3⟩ := hangsA g1 hA.1 (by omega) D3 F3
    obtain ⟨F6, e4⟩ := digest5 g1 ok1 F5
    obtain ⟨F7, e5⟩ := digest5 g2 ok1 F4
    rw [if_neg p, show (100000 : Int32) = nI 100000 from rfl, remI_n hC (by omega) (by omega), er, ob]
    dsimp only
    rw [if_neg (show ¬ (1 : Int32) = 0 by decide), e2, ob]
    dsimp only
    rw [if_pos rfl, remI_n (by omega) (by omega) (by omega), i_z (by omega), if_pos (by omega), e3, ob]
    dsimp only
    rw [if_neg (show ¬ (1 : Int32) = 0 by decide), e4, ob, e5, ob]
    dsimp only
    rw [if_pos rfl, lt_, x_a1]
    exact hre A' _ _ _ _ _ _ _ _ _ _ hA r1 r2
theorem loop_true {xs : Nat → Int32} {L : Nat} (hL : L ≤ 260) : ∀ d j N A T z V D F T2 z2 V2 D2 F2, j + d = 48 → d < N → OKA j A → RC T z V A → RC T2 z2 V2 A → loop12 (f_L_law_step xs L) N 1 (nI j) T z V D F T2 z2 V2 D2 F2 = some 1
  | 0, j, N, A, T, z, V, D, F, T2, z2, V2, D2, F2, hj, hN, h, r, rq => by
    obtain ⟨m, rfl⟩ : ∃ m, N = m + 1 := ⟨N - 1, by omega⟩
    show f_L_law_step xs L (loop12 (f_L_law_step xs L) m) 1 (nI j) T z V D F T2 z2 V2 D2 F2 = some 1
    generalize loop12 (f_L_law_step xs L) m = re
    unfold f_L_law_step
    rw [show (48 : Int32) = nI 48 from rfl, i_lt (by omega) (by omega), if_neg (by omega)]
    exact end_true h r rq
  | d + 1, j, N, A, T, z, V, D, F, T2, z2, V2, D2, F2, hj, hN, h, r, rq => by
    obtain ⟨m, rfl⟩ : ∃ m, N = m + 1 := ⟨N - 1, by omega⟩
    have IH := fun A' T z V D F T2 z2 V2 D2 F2 => loop_true (xs := xs) hL d (j + 1) m A' T z V D F T2 z2 V2 D2 F2 (by omega) (by omega)
    show f_L_law_step xs L (loop12 (f_L_law_step xs L) m) 1 (nI j) T z V D F T2 z2 V2 D2 F2 = some 1
    generalize loop12 (f_L_law_step xs L) m = re at *
    exact step_true hL (by omega) h re IH r rq
/-- the object as it is made -/
def g0 : GS := (0, 0, 0, 0, 0, 0, 0, 0, fun _ => 0, fun _ => 0, fun _ => 0, fun _ => 0, fun _ _ => 0)
def A0 : AS := (g0, 0, fun _ => g0, 0, fun _ => 0)
theorem okX_0 : okX 0 g0 := by
  refine ⟨⟨Nat.zero_le _, Nat.zero_le _, Nat.zero_le _, Nat.zero_le _, Nat.zero_le _, ?_, fun i _ => b_0 i, fun i h => ?_, fun w hw => absurd hw (Nat.not_lt_zero _), fun v w _ hw => absurd hw (Nat.not_lt_zero _), fun k _ => by show (0 : Nat) < 27; omega, fun k _ _ => rfl, fun h => absurd h (by show ¬ (0 : Nat) = 1; omega)⟩, fun _ => ⟨rfl, rfl, rfl, rfl⟩, fun x => absurd rfl x, fun x => absurd x (by show ¬ (0 : Nat) = 2; omega), OD_0 rfl rfl, fun _ => 0, fun k _ => rfl, ⟨Nat.le_refl _, Nat.le_refl _, Nat.le_refl _, Nat.le_refl _, Nat.le_refl _, Nat.le_refl _, Nat.le_refl _⟩, Nat.le_refl _, Nat.le_refl _, Nat.le_refl _, Nat.zero_le _⟩
  · show 0 = fb_ct (bt 0) 26
    exact (fb_ct_zero.mpr (fun k _ => b_0 k)).symm
  · have h : bt (0 : Int32) i = true := h
    rw [b_0] at h; cases h
theorem OKA_0 : OKA 0 A0 := ⟨okX_0, Nat.zero_le _, fun j hj => absurd hj (Nat.not_lt_zero _), Nat.zero_le _⟩
theorem RC_0 : RC ini_T ini_S ini_V A0 := by
  refine ⟨⟨rfl, rfl, rfl, rfl, rfl, rfl, rfl, rfl, fun k hk => rfl, fun k hk => absurd hk (Nat.not_lt_zero _), enc0, fun w hw => absurd hw (Nat.not_lt_zero _)⟩, ⟨rfl, 0, rfl, by omega, Nat.zero_le _, Nat.zero_le _, fun j hj => absurd hj (Nat.not_lt_zero _)⟩, ⟨rfl, Nat.zero_le _, trivial, fun k hk => absurd hk (Nat.not_lt_zero _)⟩⟩
theorem law_true (xs : Nat → Int32) (L : Nat) (hL : L ≤ 260) : f_L_law xs L = some 1 := by
  have r : RS ini_S g0 := RC_0.1
  have v : RV ini_V 0 (fun _ => g0) := RC_0.2.1
  have tx : TXr ini_T 0 (fun _ => 0) := RC_0.2.2
  have ok : okG g0 := okX_0.1
  have e1 : f_X5_undo ini_S ini_V = some (-3, ini_S, ini_V) := undo5_no v
  have e2 : f_X5_status ini_S = some 0 := status5 r
  have n6 : errN (fun _ => 0) 0 0 0 0 ≠ -6 := by decide
  have e3 : f_X5_addWords ini_T ini_S ini_V ini_S = some (-5, ini_T, ini_S, ini_V, ini_S) := addW5_bad tx n6
  have e4 : f_X5_guessWord ini_T ini_S ini_V = some (-5, ini_T, ini_S, ini_V) := gword5_bad tx n6
  have e5 : f_X5_syntaxError ini_T = some 0 := syn5 tx
  obtain ⟨T1, e6, tx1⟩ := clear5 tx
  have e6 : f_X5_clearText ini_T = some (0, T1) := e6
  obtain ⟨D1, F1, e7⟩ := hangsA r okX_0 (by omega) ini_S ini_F
  unfold f_L_law f_L_law_pre
  rw [e1, ob]
  dsimp only
  rw [if_pos rfl, e2, ob, if_pos rfl, e3, ob]
  dsimp only
  rw [if_pos rfl, e4, ob]
  dsimp only
  rw [if_pos rfl, e5, ob, if_pos rfl, e6, ob]
  dsimp only
  rw [if_pos rfl, e7, ob]
  dsimp only
  rw [if_neg (show ¬ (1 : Int32) = 0 by decide)]
  exact loop_true hL 48 0 FU A0 T1 ini_S ini_V D1 F1 ini_T ini_S ini_V ini_S ini_F rfl (by show 48 < 4096; omega) OKA_0 ⟨RC_0.1, RC_0.2.1, tx1⟩ RC_0
end TRUE_
