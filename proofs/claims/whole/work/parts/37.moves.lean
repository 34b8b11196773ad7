/-! ===== stage B: calls that change the game ===== -/
def KT (M M' : Md) : Prop := M_text M' = M_text M ∧ M_typed M' = M_typed M
def RG (z : St) (V : Sv) (M : Md) (g : GS) (c : Nat) (gs : Nat → GS) : Prop := RS z g ∧ RM (M_s M) g ∧ okG g ∧ RV V c gs ∧ RB (M_before M) c gs ∧ M_saved M = nI c ∧ c ≤ 6 ∧ ∀ j, j < c → okG (gs j)
def RX (z : St) (V : Sv) (M : Md) : Prop := ∃ g c gs, RG z V M g c gs
abbrev gEnd (g : GS) : GS := (G_n g, G_pol g, 0, 0, 0, 0, 0, 0, G_tot g, G_od g, fun _ => 0, G_Z g, G_D g)
theorem enc0 : (0 : Int64) = lN (encN (fun _ => 0)) := by
  have : encN (fun _ => 0) = 0 := rfl
  rw [this]; rfl
theorem end_ok {g : GS} (ok : okG g) : okG (gEnd g) := by
  obtain ⟨o1, o2, o3, o4, o5, o6, o7, o8, o9, o10, o11, o12, o13⟩ := ok
  refine ⟨o1, o2, Nat.zero_le _, Nat.zero_le _, Nat.zero_le _, ?_, fun i _ => b_0 i, fun i h => ?_, o9, o10, fun k _ => by show (0 : Nat) < 27; omega, fun k _ _ => rfl, fun h => absurd h (by show ¬ (0 : Nat) = 1; omega)⟩
  · show 0 = fb_ct (bt 0) 26
    exact (fb_ct_zero.mpr (fun k _ => b_0 k)).symm
  · have h : bt (0 : Int32) i = true := h
    rw [b_0] at h; cases h
section END_
variable {z : St} {M : Md} {g : GS}
theorem end2 (h : RS z g) : ∃ z', f_X2_endWithoutGame z = some z' ∧ RS z' (gEnd g) := by
  refine ⟨_, rfl, h.1, h.2.1, rfl, rfl, rfl, rfl, rfl, rfl, h.2.2.2.2.2.2.2.2.1, fun k hk => absurd hk (Nat.not_lt_zero _), ?_, h.2.2.2.2.2.2.2.2.2.2.2⟩
  exact enc0
theorem noGame6 (h : RM (M_s M) g) : ∃ s', f_X6_noGame M = some (M_s_set M s') ∧ RM s' (gEnd g) ∧ ∀ k, 49 ≤ k → s' k = M_s M k := by
  have key1 : ∃ x, f_X6_noGame M = f_X6_noGame_J21 (M_s_set M x) ∧ ∀ k, x k = if 2 ≤ k ∧ k < 8 then 0 else M_s M k := by
    unfold f_X6_noGame
    refine run2 (fun j a (M' : Md) => a = nI (2 + j) ∧ ∃ x, M' = M_s_set M x ∧ ∀ k, x k = if 2 ≤ k ∧ k < 2 + j then 0 else M_s M k) (fun r => ∃ x, r = f_X6_noGame_J21 (M_s_set M x) ∧ ∀ k, x k = if 2 ≤ k ∧ k < 8 then 0 else M_s M k) 6 ?_ ?_ FU _ _ (FU_gt (by omega)) ⟨rfl, M_s M, rfl, fun k => by rw [if_neg (by omega)]⟩
    · rintro j a M' hj ⟨rfl, x, rfl, hx⟩
      refine ⟨nI (2 + j + 1), M_s_set M (upd x (2 + j) 0), ⟨rfl, _, rfl, fun k => ?_⟩, fun re => ?_⟩
      · by_cases q : k = 2 + j
        · rw [q, upd_e, if_pos (by omega)]
        · rw [upd_n q, hx k]
          by_cases w : 2 ≤ k ∧ k < 2 + j
          · rw [if_pos w, if_pos (by omega)]
          · rw [if_neg w, if_neg (by omega)]
      · unfold f_X6_noGame_L2
        rw [if_pos (show nI (2 + j) < (8 : Int32) by rw [show (8 : Int32) = nI 8 from rfl, x_lt (by omega) (by omega)]; omega), chkA_n (by omega) (by omega), lt_, lt_, Ms_s, Ms_ss, x_cl (by omega), x_a1]
    · rintro a M' ⟨rfl, x, rfl, hx⟩ re
      unfold f_X6_noGame_L2
      rw [if_neg (show ¬ nI (2 + 6) < (8 : Int32) by decide)]
      exact ⟨x, rfl, hx⟩
  obtain ⟨x, e, hx⟩ := key1
  have key2 : ∃ y, f_X6_noGame_J21 (M_s_set M x) = some (M_s_set M y) ∧ ∀ k, y k = if 15 ≤ k ∧ k < 49 then 0 else x k := by
    unfold f_X6_noGame_J21
    refine run2 (fun j a (M' : Md) => a = nI (15 + j) ∧ ∃ y, M' = M_s_set M y ∧ ∀ k, y k = if 15 ≤ k ∧ k < 15 + j then 0 else x k) (fun r => ∃ y, r = some (M_s_set M y) ∧ ∀ k, y k = if 15 ≤ k ∧ k < 49 then 0 else x k) 34 ?_ ?_ FU _ _ (FU_gt (by omega)) ⟨rfl, x, rfl, fun k => by rw [if_neg (by omega)]⟩
    · rintro j a M' hj ⟨rfl, y, rfl, hy⟩
      refine ⟨nI (15 + j + 1), M_s_set M (upd y (15 + j) 0), ⟨rfl, _, rfl, fun k => ?_⟩, fun re => ?_⟩
      · by_cases q : k = 15 + j
        · rw [q, upd_e, if_pos (by omega)]
        · rw [upd_n q, hy k]
          by_cases w : 15 ≤ k ∧ k < 15 + j
          · rw [if_pos w, if_pos (by omega)]
          · rw [if_neg w, if_neg (by omega)]
      · unfold f_X6_noGame_L24
        rw [if_pos (show nI (15 + j) < (49 : Int32) by rw [show (49 : Int32) = nI 49 from rfl, x_lt (by omega) (by omega)]; omega), chkA_n (by omega) (by omega), lt_, lt_, Ms_s, Ms_ss, x_cl (by omega), x_a1]
    · rintro a M' ⟨rfl, y, rfl, hy⟩ re
      unfold f_X6_noGame_L24
      rw [if_neg (show ¬ nI (15 + 34) < (49 : Int32) by decide)]
      exact ⟨y, rfl, hy⟩
  obtain ⟨y, e2, hy⟩ := key2
  have z0 : ∀ k, (2 ≤ k ∧ k < 8) → y k = 0 := fun k hk => by rw [hy, if_neg (by omega), hx, if_pos hk]
  have z1 : ∀ k, (15 ≤ k ∧ k < 49) → y k = 0 := fun k hk => by rw [hy, if_pos hk]
  have sm : ∀ k, ¬ (2 ≤ k ∧ k < 8) → ¬ (15 ≤ k ∧ k < 49) → y k = M_s M k := fun k a b => by rw [hy, if_neg b, hx, if_neg a]
  refine ⟨y, by rw [e, e2], ?_, fun k hk => sm k (by omega) (by omega)⟩
  obtain ⟨h0, h1, h2, h3, h4, h5, h6, h7, h8, h9, h10, h11, h12⟩ := h
  exact ⟨(sm _ (by omega) (by omega)).trans h0, (sm _ (by omega) (by omega)).trans h1, z0 _ (by omega), z0 _ (by omega), z0 _ (by omega), z0 _ (by omega), z0 _ (by omega), z0 _ (by omega), fun k hk => (sm _ (by omega) (by omega)).trans (h8 k hk), fun k hk => absurd hk (Nat.not_lt_zero _), fun k hk => z1 _ (by omega), fun w hw => (sm _ (by omega) (by omega)).trans (h11 w hw), fun w k hw hk => (sm _ (by omega) (by omega)).trans (h12 w k hw hk)⟩
end END_
section MOVE
variable {z : St} {V : Sv} {M : Md}
/-- both sides keep what is -/
theorem keep {g : GS} {c : Nat} {gs : Nat → GS} (h : RG z V M g c gs) : ∃ V' M1 c' gs', f_X1_push V z = some V' ∧ f_X6_saves M = some M1 ∧ M_s M1 = M_s M ∧ KT M M1 ∧ M_aside M1 = M_aside M ∧ ∀ z' s' g', RS z' g' → RM s' g' → okG g' → RG z' V' (M_s_set M1 s') g' c' gs' := by
  obtain ⟨r1, r2, ok, rv, rb, ms, c6, oks⟩ := h
  obtain ⟨V', e1, v1⟩ := push2 r1 ok c6 rv
  obtain ⟨B, e2, b1⟩ := saves6 r2 ok c6 ms rb oks
  have hcP : cP c ≤ 6 := by unfold cP; by_cases q : c = 6 <;> simp [q]; omega
  refine ⟨V', _, cP c, gsP g gs, e1, e2, rfl, ⟨rfl, rfl⟩, rfl, fun z' s' g' a b d => ⟨a, b, d, v1, b1, rfl, hcP, fun j hj => ?_⟩⟩
  unfold gsP
  by_cases q : j = 0
  · rw [if_pos q]; exact ok
  · rw [if_neg q]
    refine oks _ ?_
    unfold cP at hj
    by_cases w : c = 6
    · rw [if_pos w] at hj; omega
    · rw [if_neg w] at hj; omega
theorem RG_same {M' : Md} {g : GS} {c : Nat} {gs : Nat → GS} (h : RG z V M g c gs) (k : KM M M') : RG z V M' g c gs := by
  obtain ⟨r1, r2, ok, rv, rb, ms, c6, oks⟩ := h
  exact ⟨r1, by rw [k.1]; exact r2, ok, rv, by rw [k.2.2.1]; exact rb, by rw [k.2.2.2.1]; exact ms, c6, oks⟩
theorem KT_m {M M' : Md} (k : KM M M') : KT M M' := ⟨k.2.2.2.2.1, k.2.2.2.2.2⟩
theorem pol56 (h : RX z V M) (p : Int32) : ∃ a z' V' M', f_X5_setPolicy z V p = some (a, z', V') ∧ f_X6_setPolicy M p = some (a, M') ∧ RX z' V' M' ∧ KT M M' := by
  obtain ⟨g, c, gs, h⟩ := h
  have hr := h
  obtain ⟨V', M1, c', gs', e1, e2, k1, k2, k3, fin⟩ := keep h
  obtain ⟨r1, r2, ok, _⟩ := h
  unfold f_X5_setPolicy f_X6_setPolicy
  rcases neg_or p with hp | ⟨j, hj, rfl⟩
  · have a1 : f_X6_in p 0 2 = some 0 := in_neg hp (lo := 0) (by omega) 2
    rw [if_pos hp, a1, ob, if_pos rfl]
    exact ⟨_, _, _, _, rfl, rfl, ⟨g, c, gs, hr⟩, rfl, rfl⟩
  · have a1 : f_X6_in (nI j) 0 2 = some (if 0 ≤ j ∧ j ≤ 2 then 1 else 0) := in_n hj (lo := 0) (hi := 2) (by omega) (by omega)
    have b1 : ∀ {α : Type} (t f : α), (if 2 < nI j then t else f) = if 2 < j then t else f := fun t f => i_lt (a := 2) (by omega) hj
    rw [if_neg (nI_pos hj), a1, ob, b1]
    by_cases q : 2 < j
    · rw [if_pos q, if_neg (show ¬ (0 ≤ j ∧ j ≤ 2) by omega), if_pos rfl]
      exact ⟨_, _, _, _, rfl, rfl, ⟨g, c, gs, hr⟩, rfl, rfl⟩
    · rw [if_neg q, if_pos (show 0 ≤ j ∧ j ≤ 2 by omega), if_neg (show ¬ (1 : Int32) = 0 by decide), lt_, e1, ob, lt_, e2, ob, m1, k1_, lt_, k1, r2.2.1, r1.2.1, cl1]
      refine ⟨_, _, _, _, rfl, rfl, ⟨_, _, _, fin _ _ _ (RS_pol r1 j) (RM_pol r2 j) ?_⟩, k2⟩
      obtain ⟨o1, o2, o3, o4, o5, o6, o7, o8, o9, o10, o11, o12, o13⟩ := ok
      exact ⟨o1, (by show j ≤ 2; omega), o3, o4, o5, o6, o7, o8, o9, o10, o11, o12, o13⟩
theorem give56 (h : RX z V M) : ∃ a z' V' M', f_X5_giveUp z V = some (a, z', V') ∧ f_X6_giveUp M = some (a, M') ∧ RX z' V' M' ∧ KT M M' := by
  obtain ⟨g, c, gs, h⟩ := h
  have hr := h
  obtain ⟨V', M1, c', gs', e1, e2, k1, k2, k3, fin⟩ := keep h
  obtain ⟨r1, r2, ok, _⟩ := h
  unfold f_X5_giveUp f_X6_giveUp
  rw [runs2 r1 ok, runs6 r2 ok, ob, ob]
  by_cases q : G_st g = 1
  · have rn := ok.2.2.2.2.2.2.2.2.2.2.2.2 q
    have r2' : RM (M_s M1) g := by rw [k1]; exact r2
    obtain ⟨z2, f1, f2⟩ := lose2 r1
    obtain ⟨s2, f3, f4⟩ := ends3 r2'
    have e7 : s2 7 = G_cd g := f4.2.2.2.2.2.2.2.1
    have c30 : ∃ i, i < 30 ∧ bt (G_cd g) i = true := by
      obtain ⟨i, hi⟩ := rn.2.1
      exact ⟨i, by have := ok_cd ok hi; have := ok.1; omega, hi⟩
    rw [if_pos q, if_neg (by decide), if_neg (by decide), e1, ob, f1, ob, show S_candidates z2 = G_cd g from f2.2.2.2.2.2.2.2.1, member5, ob, e2, ob, f3, ob, m7, Ms_s, e7, lowest6 c30, ob]
    refine ⟨_, _, _, _, rfl, rfl, ⟨_, _, _, fin _ _ _ f2 f4 ?_⟩, k2⟩
    obtain ⟨o1, o2, o3, o4, o5, o6, o7, o8, o9, o10, o11, o12, o13⟩ := ok
    exact ⟨o1, o2, (by show (3 : Nat) ≤ 3; omega), o4, o5, o6, o7, o8, o9, o10, o11, o12, fun x => absurd x (by show ¬ (3 : Nat) = 1; omega)⟩
  · rw [if_neg q, if_pos rfl, if_pos rfl]
    exact ⟨_, _, _, _, rfl, rfl, ⟨g, c, gs, hr⟩, rfl, rfl⟩
theorem guess56 (h : RX z V M) (F : Fm) (p : Int32) : ∃ a z' V' F' M', f_X5_guess z V F p = some (a, z', V', F') ∧ f_X6_guess M p = some (a, M') ∧ RX z' V' M' ∧ KT M M' := by
  obtain ⟨g, c, gs, h⟩ := h
  have hr := h
  obtain ⟨V', M1, c', gs', e1, e2, k1, k2, k3, fin⟩ := keep h
  obtain ⟨r1, r2, ok, _⟩ := h
  unfold f_X5_guess f_X6_guess
  rw [isLetter6]
  rcases letter_or p with e | ⟨b, hb, rfl, e⟩
  · rw [e, ob, ob, if_pos rfl, if_pos rfl]
    exact ⟨_, _, _, _, _, rfl, rfl, ⟨g, c, gs, hr⟩, rfl, rfl⟩
  · rw [e, ob, ob, if_neg (by decide), if_neg (by decide), runs2 r1 ok, runs6 r2 ok, ob, ob]
    by_cases q : G_st g = 1
    · rw [if_pos q, if_neg (by decide), if_neg (by decide), wasGuessed2 r1 hb, isGuessed6 r2 hb, ob, ob]
      by_cases y : bt (G_gs g) b = true
      · rw [if_pos y, if_neg (by decide), if_neg (by decide)]
        exact ⟨_, _, _, _, _, rfl, rfl, ⟨g, c, gs, hr⟩, rfl, rfl⟩
      · have y0 : bt (G_gs g) b = false := by cases x : bt (G_gs g) b; rfl; exact absurd x y
        have rn := ok.2.2.2.2.2.2.2.2.2.2.2.2 q
        have r2' : RM (M_s M1) g := by rw [k1]; exact r2
        obtain ⟨F', z2, f1, f2⟩ := play0 r1 ok rn hb y0 F
        obtain ⟨M2, f3, f4, f5⟩ := guess6 r2' ok rn hb y0
        rw [if_neg y, if_pos rfl, if_pos rfl, e1, ob, f1, ob, e2, ob, f3, ob]
        refine ⟨_, _, _, _, _, rfl, rfl, ⟨gGuess g b, c', gs', ?_⟩, f4.2.2.2.1.trans k2.1, f4.2.2.2.2.trans k2.2⟩
        obtain ⟨x1, x2, x3, x4, x5, x6, x7, x8⟩ := fin _ _ _ f2 f5 (guess_ok ok rn hb y0)
        exact ⟨x1, x2, x3, x4, (by rw [f4.2.1]; exact x5), (by rw [f4.2.2.1]; exact x6), x7, x8⟩
    · rw [if_neg q, if_pos rfl, if_pos rfl]
      exact ⟨_, _, _, _, _, rfl, rfl, ⟨g, c, gs, hr⟩, rfl, rfl⟩
theorem undo56 (h : RX z V M) : ∃ a z' V' M', f_X5_undo z V = some (a, z', V') ∧ f_X6_undo M = some (a, M') ∧ RX z' V' M' ∧ KT M M' := by
  obtain ⟨g, c, gs, h⟩ := h
  have hr := h
  obtain ⟨r1, r2, ok, rv, rb, ms, c6, oks⟩ := h
  unfold f_X5_undo
  rcases Nat.eq_zero_or_pos c with rfl | hc
  · rw [pop2_0 rv, ob, if_pos rfl]
    unfold f_X6_undo
    rw [if_pos (by rw [ms]; rfl)]
    exact ⟨_, _, _, _, rfl, rfl, ⟨g, 0, gs, hr⟩, rfl, rfl⟩
  · obtain ⟨d, rfl⟩ : ∃ d, c = d + 1 := ⟨c - 1, by omega⟩
    obtain ⟨V', z2, f1, f2, f3, f4⟩ := pop2 (z := z) (by omega) (oks 0 (by omega)) rv
    obtain ⟨x, g1, g2, g3⟩ := undo6 (by omega) ms rb (oks 0 (by omega))
    rw [f1, ob, if_neg (show ¬ (1 : Int32) = 0 by decide), g1]
    refine ⟨nI d, z2, V', M_s_set (M_saved_set M (nI d)) x, by show some (V'.2.2, z2, V') = _; rw [f2], rfl, ⟨gs 0, d, fun j => gs (j + 1), f3, g2, oks 0 (by omega), f4, g3, rfl, by omega, fun j hj => oks (j + 1) (by omega)⟩, rfl, rfl⟩
/-! a game begun -/
def wl (g : GS) (l : Nat) : Int32 := mkB (fun w => decide (G_Z g w = l)) (G_n g)
theorem wl2 {g : GS} (h : RS z g) (ok : okG g) {l : Nat} (hl : l < 2147483648) : f_X2_wordsOfLength z (nI l) = some (wl g l) := by
  have hn := ok.1
  unfold f_X2_wordsOfLength
  refine raccm (fun i x => if decide (G_Z g i = l) = true then x ||| bit i else x) (G_n g) (by omega) 0 ?_ ?_
  · intro w x hw re
    have ow := ok_w ok hw
    have := ow.2.1
    unfold f_X2_wordsOfLength_L4
    rw [h.1, i_lt (by omega) (by omega), if_pos hw, wordAt2 h ok hw, ob, lengthOf4 (okw_d ow), ob, szN_w ow, i_eq (by omega) hl, lt_, lt_, lt_, x_a1]
    by_cases q : G_Z g w = l
    · rw [if_pos q, if_pos (decide_eq_true q)]
    · rw [if_neg q, if_neg (by simp [q])]
  · intro re
    unfold f_X2_wordsOfLength_L4
    rw [h.1, i_lt (by omega) (by omega), if_neg (by omega)]
    rfl
theorem wl6 {g : GS} (h : RM (M_s M) g) (n30 : G_n g ≤ 30) (zs : ∀ w, w < G_n g → G_Z g w ≤ 8) {l : Nat} (hl : l < 2147483648) : f_X6_ofLength M (nI l) = some (wl g l) := by
  unfold f_X6_ofLength
  refine raccm (fun i x => if decide (G_Z g i = l) = true then x ||| bit i else x) (G_n g) (by omega) 0 ?_ ?_
  · intro w x hw re
    have := zs w hw
    unfold f_X6_ofLength_L4
    rw [m0, h.1, i_lt (by omega) (by omega), if_pos hw, a49, getA_n (by omega) (by omega), h.2.2.2.2.2.2.2.2.2.2.2.1 w hw, i_eq (by omega) hl, lt_, lt_, lt_, lt_, x_a1, orz]
    by_cases q : G_Z g w = l
    · rw [if_pos q, if_pos (decide_eq_true q)]
    · rw [if_neg q, if_neg (by simp [q])]
  · intro re
    unfold f_X6_ofLength_L4
    rw [m0, h.1, i_lt (by omega) (by omega), if_neg (by omega)]
    rfl
theorem wl_bt {g : GS} (ok : okG g) {l i : Nat} : bt (wl g l) i = true ↔ i < G_n g ∧ G_Z g i = l := by
  have hn := ok.1
  rcases Nat.lt_or_ge i 32 with q | q
  · unfold wl
    rw [bt_mkB _ q _ (by omega), Bool.and_eq_true, decide_eq_true_eq, decide_eq_true_eq]
  · rw [b_big q]
    exact ⟨fun h => absurd h (by decide), fun h => absurd h.1 (by omega)⟩
abbrev gStart (g : GS) (l v : Nat) : GS := gCount (U_cd (U_lv (U_len (U_st (gEnd g) 1) l) v) (wl g l)) 0
theorem start_ok {g : GS} (ok : okG g) {l v : Nat} (hl : 2 ≤ l ∧ l ≤ 8) (hv : 1 ≤ v ∧ v ≤ 20) (hw : wl g l ≠ 0) : okG (gStart g l v) := by
  obtain ⟨o1, o2, o3, o4, o5, o6, o7, o8, o9, o10, o11, o12, o13⟩ := end_ok ok
  refine ⟨o1, o2, (by show (1 : Nat) ≤ 3; omega), hl.2, hv.2, o6, o7, fun i hi => ((wl_bt ok).mp hi).1, o9, o10, o11, fun k _ _ => rfl, fun _ => ?_⟩
  refine ⟨fun i hi => ((wl_bt ok).mp hi).2, ?_, ⟨0, by show 0 < l; omega, rfl⟩, fun k hk hp => absurd rfl hp, fun i k _ _ _ => b_0 _, hv.1⟩
  refine Classical.byContradiction (fun x => hw (b_ext (fun i hi => ?_)))
  rw [b_0]
  cases e : bt (wl g l) i
  · rfl
  · exact absurd ⟨i, e⟩ x
theorem start56 (h : RX z V M) (p q : Int32) : ∃ a z' V' M', f_X5_start z V p q = some (a, z', V') ∧ f_X6_start M p q = some (a, M') ∧ RX z' V' M' ∧ KT M M' := by
  obtain ⟨g, c, gs, h⟩ := h
  have hr := h
  obtain ⟨V', M1, c', gs', e1, e2, k1, k2, k3, fin⟩ := keep h
  obtain ⟨r1, r2, ok, _⟩ := h
  unfold f_X5_start f_X6_start
  have i2 : (2 : Int32) = nI 2 := rfl
  have i8 : (8 : Int32) = nI 8 := rfl
  have i1 : (1 : Int32) = nI 1 := rfl
  have i20 : (20 : Int32) = nI 20 := rfl
  have bad : ∃ a z' V' M', some ((-2 : Int32), z, V) = some (a, z', V') ∧ some ((-2 : Int32), M) = some (a, M') ∧ RX z' V' M' ∧ KT M M' := ⟨_, _, _, _, rfl, rfl, ⟨g, c, gs, hr⟩, rfl, rfl⟩
  rcases neg_or p with hp | ⟨l, hl, rfl⟩
  · have a1 : f_X6_in p 2 8 = some 0 := in_neg hp (lo := 2) (by omega) 8
    rw [if_pos (show p < 2 from neg_lt hp (a := 2) (by omega)), a1, ob, if_pos rfl]
    exact bad
  · have a1 : f_X6_in (nI l) 2 8 = some (if 2 ≤ l ∧ l ≤ 8 then 1 else 0) := in_n hl (lo := 2) (hi := 8) (by omega) (by omega)
    have b1 : ∀ {α : Type} (t f : α), (if nI l < 2 then t else f) = if l < 2 then t else f := fun t f => i_lt (b := 2) hl (by omega)
    have b2 : ∀ {α : Type} (t f : α), (if 8 < nI l then t else f) = if 8 < l then t else f := fun t f => i_lt (a := 8) (by omega) hl
    rw [a1, ob, b1, b2]
    by_cases c1 : l < 2
    · rw [if_pos c1, if_neg (show ¬ (2 ≤ l ∧ l ≤ 8) by omega), if_pos rfl]; exact bad
    · rw [if_neg c1]
      by_cases c2 : 8 < l
      · rw [if_pos c2, if_neg (show ¬ (2 ≤ l ∧ l ≤ 8) by omega), if_pos rfl]; exact bad
      · rw [if_neg c2, if_pos (show 2 ≤ l ∧ l ≤ 8 by omega), if_neg (show ¬ (1 : Int32) = 0 by decide)]
        rcases neg_or q with hq | ⟨v, hv, rfl⟩
        · have a2 : f_X6_in q 1 20 = some 0 := in_neg hq (lo := 1) (by omega) 20
          rw [if_pos (show q < 1 from neg_lt hq (a := 1) (by omega)), a2, ob, if_pos rfl]
          exact bad
        · have a2 : f_X6_in (nI v) 1 20 = some (if 1 ≤ v ∧ v ≤ 20 then 1 else 0) := in_n hv (lo := 1) (hi := 20) (by omega) (by omega)
          have b3 : ∀ {α : Type} (t f : α), (if nI v < 1 then t else f) = if v < 1 then t else f := fun t f => i_lt (b := 1) hv (by omega)
          have b4 : ∀ {α : Type} (t f : α), (if 20 < nI v then t else f) = if 20 < v then t else f := fun t f => i_lt (a := 20) (by omega) hv
          rw [a2, ob, b3, b4]
          by_cases c3 : v < 1
          · rw [if_pos c3, if_neg (show ¬ (1 ≤ v ∧ v ≤ 20) by omega), if_pos rfl]; exact bad
          · rw [if_neg c3]
            by_cases c4 : 20 < v
            · rw [if_pos c4, if_neg (show ¬ (1 ≤ v ∧ v ≤ 20) by omega), if_pos rfl]; exact bad
            · rw [if_neg c4, if_pos (show 1 ≤ v ∧ v ≤ 20 by omega), if_neg (show ¬ (1 : Int32) = 0 by decide)]
              have zs : ∀ w, w < G_n g → G_Z g w ≤ 8 := fun w hw => (ok_w ok hw).2.1
              rw [wl2 r1 ok hl, wl6 r2 ok.1 zs hl, ob, ob]
              by_cases c5 : wl g l = 0
              · rw [if_pos c5, if_pos c5]
                exact ⟨_, _, _, _, rfl, rfl, ⟨g, c, gs, hr⟩, rfl, rfl⟩
              · rw [if_neg c5, if_neg c5, e1, ob, e2, ob]
                have b31 : bt (wl g l) 31 = false := by
                  cases e : bt (wl g l) 31
                  · rfl
                  · have := ((wl_bt ok).mp e).1; have := ok.1; omega
                obtain ⟨z1, f1, f2⟩ := end2 r1
                obtain ⟨z2, f3, f4⟩ := count2' (RS_cd (RS_lv (RS_len (RS_st f2 1) l) v) (wl g l)) (k := 0) (by omega)
                have f5 : f_X2_begin z (nI l) (nI v) (wl g l) = some z2 := by
                  unfold f_X2_begin
                  rw [f1, ob, lt_, lt_, lt_, lt_]
                  show Option.bind (f_X2_count (S_candidates_set (S_lives_set (S_length_set (S_status_set z1 (nI 1)) (nI l)) (nI v)) (wl g l)) (nI 0)) _ = _
                  rw [f3, ob]
                have r2' : RM (M_s M1) g := by rw [k1]; exact r2
                obtain ⟨s1, g1, g2, _⟩ := noGame6 r2'
                have g3 := RM_lv (RM_len (RM_st g2 1) l) v
                have g4 := RM_cd g3 (wl g l)
                have g5 := RM_tot g4 0 (by omega) (G_tot g 0 + 1)
                have q8 := g4.2.2.2.2.2.2.2.2.1 0 (by omega)
                rw [f5, ob, bitCount5, ob, g1, ob, k2_, lt_, cl2, Ms_s, Ms_ss, k3_, lt_, cl3, Ms_s, Ms_ss, k4_, lt_, cl4, Ms_s, Ms_ss]
                show ∃ a z' V'_1 M', _ ∧ Option.bind (f_X6_ofLength (M_s_set M1 (upd (upd (upd s1 2 (nI 1)) 3 (nI l)) 4 (nI v))) (nI l)) _ = _ ∧ _
                rw [wl6 (M := M_s_set M1 (upd (upd (upd s1 2 (nI 1)) 3 (nI l)) 4 (nI v))) (g := U_lv (U_len (U_st (gEnd g) 1) l) v) g3 ok.1 zs hl, ob, k7_, lt_, cl7, Ms_s, Ms_ss, m8, k8_, lt_, cl8, Ms_s, Ms_ss, m7, Ms_s]
                have q7 : upd (upd (upd (upd (upd s1 2 1) 3 (nI l)) 4 (nI v)) 7 (wl g l)) 8 (G_tot g 0 + 1) 7 = wl g l := g5.2.2.2.2.2.2.2.1
                have q8' : upd (upd (upd (upd s1 2 1) 3 (nI l)) 4 (nI v)) 7 (wl g l) 8 = G_tot g 0 := q8
                rw [show wl (U_lv (U_len (U_st (gEnd g) 1) l) v) l = wl g l from rfl, q8', q7, bits6, ob, bc_top b31]
                exact ⟨_, _, _, _, rfl, rfl, ⟨_, _, _, fin _ _ _ f4 g5 (start_ok ok (by omega) (by omega) c5)⟩, k2⟩
end MOVE
