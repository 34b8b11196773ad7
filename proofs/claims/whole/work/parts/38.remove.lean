/-! ===== stage B: a word taken out ===== -/
theorem vL_e (f : Nat → Int64) (k : Nat) (x : Int64) : vp_updL f k x k = x := if_pos rfl
theorem vL_n {f : Nat → Int64} {k j : Nat} {x : Int64} (h : j ≠ k) : vp_updL f k x j = f j := if_neg h
theorem sl_l (z : St) (L : Nat → Int64) : S_list (S_list_set z L) = L := rfl
theorem sl_ll (z : St) (L K : Nat → Int64) : S_list_set (S_list_set z L) K = S_list_set z K := rfl
theorem sl_n (z : St) (L : Nat → Int64) : S_wordCount (S_list_set z L) = S_wordCount z := rfl
theorem sl_id (z : St) : S_list_set z (S_list z) = z := rfl
abbrev gRem (g : GS) (p : Nat) : GS := (G_n g - 1, G_pol g, G_st g, G_len g, G_lv g, G_gc g, G_gs g, G_cd g, G_tot g, G_od g, G_pt g, fun w => if w < p then G_Z g w else G_Z g (w + 1), fun w => if w < p then G_D g w else G_D g (w + 1))
section REM
variable {z : St} {V : Sv} {M : Md} {g : GS} {p : Nat}
theorem rem2 (h : RS z g) (ok : okG g) (hp : p < G_n g) : ∃ z', f_X2_remove z (nI p) = some z' ∧ RS z' (gRem g p) := by
  have hn := ok.1
  have key : ∃ L, f_X2_remove z (nI p) = some (S_wordCount_set (S_list_set z L) (nI (G_n g - 1))) ∧ ∀ k, L k = if p ≤ k ∧ k < 29 then S_list z (k + 1) else S_list z k := by
    unfold f_X2_remove
    rw [hasWord2 h ok (by omega), ob, if_pos hp, if_neg (by decide)]
    refine run2 (fun j a (zz : St) => a = nI (p + j) ∧ ∃ L, zz = S_list_set z L ∧ ∀ k, L k = if p ≤ k ∧ k < p + j then S_list z (k + 1) else S_list z k) (fun r => ∃ L, r = some (S_wordCount_set (S_list_set z L) (nI (G_n g - 1))) ∧ ∀ k, L k = if p ≤ k ∧ k < 29 then S_list z (k + 1) else S_list z k) (29 - p) ?_ ?_ FU _ _ (FU_gt (by omega)) ⟨rfl, S_list z, (sl_id z).symm, fun k => by rw [if_neg (by omega)]⟩
    · rintro j a zz hj ⟨rfl, L, rfl, hL⟩
      refine ⟨nI (p + j + 1), S_list_set z (vp_updL L (p + j) (L (p + j + 1))), ⟨rfl, _, rfl, fun k => ?_⟩, fun re => ?_⟩
      · by_cases q : k = p + j
        · rw [q, vL_e, hL, if_neg (by omega), if_pos (by omega)]
        · rw [vL_n q, hL]
          by_cases w : p ≤ k ∧ k < p + j
          · rw [if_pos w, if_pos (by omega)]
          · rw [if_neg w, if_neg (by omega)]
      · unfold f_X2_remove_L11
        rw [if_pos (show nI (p + j) < (29 : Int32) by rw [show (29 : Int32) = nI 29 from rfl, x_lt (by omega) (by omega)]; omega), x_a1, getA_n (by omega) (by omega), chkA_n (by omega) (by omega), lt_, lt_, sl_l, sl_ll, x_cl (by omega)]
    · rintro a zz ⟨rfl, L, rfl, hL⟩ re
      unfold f_X2_remove_L11
      have e29 : p + (29 - p) = 29 := by omega
      rw [e29] at hL ⊢
      rw [if_neg (show ¬ nI 29 < (29 : Int32) by decide), lt_, sl_n, h.1, show nI (G_n g) - 1 = nI (G_n g - 1) by rw [show (1 : Int32) = nI 1 from rfl, pk_sub (by omega)]]
      exact ⟨L, rfl, hL⟩
  obtain ⟨L, e, hL⟩ := key
  refine ⟨_, e, rfl, h.2.1, h.2.2.1, h.2.2.2.1, h.2.2.2.2.1, h.2.2.2.2.2.1, h.2.2.2.2.2.2.1, h.2.2.2.2.2.2.2.1, h.2.2.2.2.2.2.2.2.1, h.2.2.2.2.2.2.2.2.2.1, h.2.2.2.2.2.2.2.2.2.2.1, fun w hw => ?_⟩
  have hw : w < G_n g - 1 := hw
  show L w = lN (encN (if w < p then G_D g w else G_D g (w + 1)))
  rw [hL]
  by_cases q : w < p
  · rw [if_neg (by omega), if_pos q, h.2.2.2.2.2.2.2.2.2.2.2 w (by omega)]
  · rw [if_pos (by omega), if_neg q, h.2.2.2.2.2.2.2.2.2.2.2 (w + 1) (by omega)]
theorem rem_ok (ok : okG g) (hp : p < G_n g) : okG (gRem (gEnd g) p) := by
  obtain ⟨o1, o2, o3, o4, o5, o6, o7, o8, o9, o10, o11, o12, o13⟩ := end_ok ok
  refine ⟨(by show G_n g - 1 ≤ 30; have := ok.1; omega), o2, o3, o4, o5, o6, o7, fun i hi => absurd hi (by show ¬ bt (0 : Int32) i = true; rw [b_0]; decide), fun w hw => ?_, fun v w hvw hw => ?_, o11, o12, fun x => absurd x (by show ¬ (0 : Nat) = 1; omega)⟩
  · have hw : w < G_n g - 1 := hw
    show okw (if w < p then G_D g w else G_D g (w + 1)) (if w < p then G_Z g w else G_Z g (w + 1))
    by_cases q : w < p
    · rw [if_pos q, if_pos q]; exact ok_w ok (by omega)
    · rw [if_neg q, if_neg q]; exact ok_w ok (by omega)
  · have hw : w < G_n g - 1 := hw
    show encN (if v < p then G_D g v else G_D g (v + 1)) < encN (if w < p then G_D g w else G_D g (w + 1))
    have so := ok.2.2.2.2.2.2.2.2.2.1
    by_cases q : v < p
    · rw [if_pos q]
      by_cases y : w < p
      · rw [if_pos y]; exact so v w hvw (by omega)
      · rw [if_neg y]; exact so v (w + 1) (by omega) (by omega)
    · rw [if_neg q, if_neg (by omega)]; exact so (v + 1) (w + 1) (by omega) (by omega)
theorem rem6 {y : Nat → Int32} (h : RM y g) (n30 : G_n g ≤ 30) (hg : G_gc g ≤ 26) (hp : p < G_n g) : ∃ x, loop2 (f_X6_removeWord_L48) FU (nI p) (M_s_set M (upd y 0 (nI (G_n g - 1)))) = some (nI (G_n g - 1), M_s_set M x) ∧ RM x (gRem g p) := by
  have key : ∃ x, loop2 (f_X6_removeWord_L48) FU (nI p) (M_s_set M (upd y 0 (nI (G_n g - 1)))) = some (nI (G_n g - 1), M_s_set M x) ∧ (∀ k, k < 49 → x k = upd y 0 (nI (G_n g - 1)) k) ∧ (∀ w, w < 30 → x (49 + w) = if p ≤ w ∧ w < G_n g - 1 then y (49 + (w + 1)) else y (49 + w)) ∧ ∀ w k, w < 30 → k < 8 → x (79 + 8 * w + k) = if p ≤ w ∧ w < G_n g - 1 then y (79 + 8 * (w + 1) + k) else y (79 + 8 * w + k) := by
    refine run2 (fun j a (M' : Md) => a = nI (p + j) ∧ ∃ x, M' = M_s_set M x ∧ (∀ k, k < 49 → x k = upd y 0 (nI (G_n g - 1)) k) ∧ (∀ w, w < 30 → x (49 + w) = if p ≤ w ∧ w < p + j then y (49 + (w + 1)) else y (49 + w)) ∧ ∀ w k, w < 30 → k < 8 → x (79 + 8 * w + k) = if p ≤ w ∧ w < p + j then y (79 + 8 * (w + 1) + k) else y (79 + 8 * w + k)) (fun r => ∃ x, r = some (nI (G_n g - 1), M_s_set M x) ∧ (∀ k, k < 49 → x k = upd y 0 (nI (G_n g - 1)) k) ∧ (∀ w, w < 30 → x (49 + w) = if p ≤ w ∧ w < G_n g - 1 then y (49 + (w + 1)) else y (49 + w)) ∧ ∀ w k, w < 30 → k < 8 → x (79 + 8 * w + k) = if p ≤ w ∧ w < G_n g - 1 then y (79 + 8 * (w + 1) + k) else y (79 + 8 * w + k)) (G_n g - 1 - p) ?_ ?_ FU _ _ (FU_gt (by omega)) ⟨rfl, upd y 0 (nI (G_n g - 1)), rfl, fun k _ => rfl, fun w _ => ?_, fun w k _ _ => ?_⟩
    · rintro j a M' hj ⟨rfl, x, rfl, xA, xB, xC⟩
      have hv : p + j < G_n g - 1 := by omega
      have x0 : x 0 = nI (G_n g - 1) := by rw [xA 0 (by omega), upd_e]
      obtain ⟨v, hv2⟩ : ∃ v, v = p + j := ⟨_, rfl⟩
      have inner : ∃ x', (∀ q, x' q = if q = 49 + v then x (49 + v + 1) else if 79 + 8 * v ≤ q ∧ q < 79 + 8 * v + 8 then x (q + 8) else x q) ∧ ∀ re, loop2 (f_X6_removeWord_L80 (nI v) re) FU 0 (M_s_set M (upd x (49 + v) (x (49 + v + 1)))) = re (nI (v + 1)) (M_s_set M x') := by
        refine ⟨fun q => if q = 49 + v then x (49 + v + 1) else if 79 + 8 * v ≤ q ∧ q < 79 + 8 * v + 8 then x (q + 8) else x q, fun q => rfl, fun re => ?_⟩
        refine run2 (fun i b (M' : Md) => b = nI i ∧ ∃ x', M' = M_s_set M x' ∧ ∀ q, x' q = if q = 49 + v then x (49 + v + 1) else if 79 + 8 * v ≤ q ∧ q < 79 + 8 * v + i then x (q + 8) else x q) (fun r => r = re (nI (v + 1)) (M_s_set M (fun q => if q = 49 + v then x (49 + v + 1) else if 79 + 8 * v ≤ q ∧ q < 79 + 8 * v + 8 then x (q + 8) else x q))) 8 ?_ ?_ FU _ _ (FU_gt (by omega)) ⟨rfl, _, rfl, fun q => ?_⟩
        · rintro i b M' hi ⟨rfl, x', rfl, hx'⟩
          refine ⟨nI (i + 1), M_s_set M (upd x' (79 + 8 * v + i) (x' (79 + 8 * (v + 1) + i))), ⟨rfl, _, rfl, fun q => ?_⟩, fun re2 => ?_⟩
          · by_cases u : q = 79 + 8 * v + i
            · rw [u, upd_e, hx', if_neg (by omega), if_neg (by omega), if_neg (by omega), if_pos (by omega), show 79 + 8 * (v + 1) + i = 79 + 8 * v + i + 8 by omega]
            · rw [upd_n u, hx']
              by_cases t : q = 49 + v
              · rw [if_pos t, if_pos t]
              · rw [if_neg t, if_neg t]
                by_cases s : 79 + 8 * v ≤ q ∧ q < 79 + 8 * v + i
                · rw [if_pos s, if_pos (by omega)]
                · rw [if_neg s, if_neg (by omega)]
          · unfold f_X6_removeWord_L80 f_X6_letter
            rw [if_pos (show nI i < (8 : Int32) by rw [show (8 : Int32) = nI 8 from rfl, x_lt (by omega) (by omega)]; exact hi), x_a1, a79, getA_n (by omega) (by omega), ob, a79, chkA_n (by omega) (by omega), lt_, lt_, Ms_s, Ms_ss, x_cl (by omega), x_a1]
        · rintro b M' ⟨rfl, x', rfl, hx'⟩ re2
          unfold f_X6_removeWord_L80
          rw [if_neg (show ¬ nI 8 < (8 : Int32) by decide), lt_, x_a1]
          rw [show x' = _ from funext hx']
        · by_cases u : q = 49 + v
          · rw [u, upd_e, if_pos rfl]
          · rw [upd_n u, if_neg u, if_neg (by omega)]
      obtain ⟨x', hx', ei⟩ := inner
      refine ⟨nI (p + j + 1), M_s_set M x', ⟨rfl, x', rfl, fun k hk => ?_, fun w hw => ?_, fun w k hw hk => ?_⟩, fun re => ?_⟩
      · rw [hx', if_neg (by omega), if_neg (by omega)]; exact xA k hk
      · rw [hx']
        by_cases u : w = v
        · rw [if_pos (by omega), if_pos (by omega), show 49 + v + 1 = 49 + (v + 1) by omega, xB (v + 1) (by omega), if_neg (by omega), u]
        · rw [if_neg (by omega), if_neg (by omega), xB w hw]
          by_cases t : p ≤ w ∧ w < p + j
          · rw [if_pos t, if_pos (by omega)]
          · rw [if_neg t, if_neg (by omega)]
      · rw [hx', if_neg (by omega)]
        by_cases u : w = v
        · rw [if_pos (by omega), if_pos (by omega), show 79 + 8 * w + k + 8 = 79 + 8 * (w + 1) + k by omega, xC (w + 1) k (by omega) hk, if_neg (by omega)]
        · rw [if_neg (by omega), xC w k hw hk]
          by_cases t : p ≤ w ∧ w < p + j
          · rw [if_pos t, if_pos (by omega)]
          · rw [if_neg t, if_neg (by omega)]
      · unfold f_X6_removeWord_L48
        rw [← hv2, m0, Ms_s, x0, i_lt (by omega) (by omega), if_pos (by omega), a49, x_a1, getA_n (by omega) (by omega), chkA_n (by omega) (by omega), lt_, Ms_ss, x_cl (by omega)]
        exact ei re
    · rintro a M' ⟨rfl, x, rfl, xA, xB, xC⟩ re
      have x0 : x 0 = nI (G_n g - 1) := by rw [xA 0 (by omega), upd_e]
      unfold f_X6_removeWord_L48
      rw [m0, Ms_s, x0, i_lt (by omega) (by omega), if_neg (by omega), m0, x0]
      refine ⟨x, rfl, xA, fun w hw => ?_, fun w k hw hk => ?_⟩
      · rw [xB w hw, show p + (G_n g - 1 - p) = G_n g - 1 by omega]
      · rw [xC w k hw hk, show p + (G_n g - 1 - p) = G_n g - 1 by omega]
    · rw [upd_n (by omega), if_neg (by omega)]
    · rw [upd_n (by omega), if_neg (by omega)]
  obtain ⟨x, e, xA, xB, xC⟩ := key
  refine ⟨x, e, ?_⟩
  obtain ⟨h0, h1, h2, h3, h4, h5, h6, h7, h8, h9, h10, h11, h12⟩ := h
  have sm : ∀ k, 0 < k → k < 49 → x k = y k := fun k a b => by rw [xA k b, upd_n (by omega)]
  refine ⟨by rw [xA 0 (by omega), upd_e], (sm _ (by omega) (by omega)).trans h1, (sm _ (by omega) (by omega)).trans h2, (sm _ (by omega) (by omega)).trans h3, (sm _ (by omega) (by omega)).trans h4, (sm _ (by omega) (by omega)).trans h5, (sm _ (by omega) (by omega)).trans h6, (sm _ (by omega) (by omega)).trans h7, fun k hk => (sm _ (by omega) (by omega)).trans (h8 k hk), fun k hk => (sm _ (by omega) (by have : k < G_gc g := hk; omega)).trans (h9 k hk), fun k hk => (sm _ (by omega) (by omega)).trans (h10 k hk), fun w hw => ?_, fun w k hw hk => ?_⟩
  · have hw : w < G_n g - 1 := hw
    show x (49 + w) = nI (if w < p then G_Z g w else G_Z g (w + 1))
    rw [xB w (by omega)]
    by_cases q : w < p
    · rw [if_neg (by omega), if_pos q]; exact h11 w (by omega)
    · rw [if_pos (by omega), if_neg q]; exact h11 (w + 1) (by omega)
  · have hw : w < G_n g - 1 := hw
    show x (79 + 8 * w + k) = ltr ((if w < p then G_D g w else G_D g (w + 1)) k)
    rw [xC w k (by omega) hk]
    by_cases q : w < p
    · rw [if_neg (by omega), if_pos q]; exact h12 w k (by omega) hk
    · rw [if_pos (by omega), if_neg q]; exact h12 (w + 1) k (by omega) hk
theorem rem56 (h : RX z V M) (p : Int32) : ∃ a z' V' M', f_X5_removeWord z V p = some (a, z', V') ∧ f_X6_removeWord M p = some (a, M') ∧ RX z' V' M' ∧ KT M M' := by
  obtain ⟨g, c, gs, h⟩ := h
  have hr := h
  obtain ⟨V', M1, c', gs', e1, e2, k1, k2, k3, fin⟩ := keep h
  obtain ⟨r1, r2, ok, _⟩ := h
  have hn := ok.1
  unfold f_X5_removeWord f_X6_removeWord
  rw [m0, r2.1, in_top p (by omega), ob]
  by_cases y : 0 ≤ p ∧ p < nI (G_n g)
  · obtain ⟨w, hw, rfl⟩ := (neg_or p).resolve_left (fun x => neg_c x _ y)
    have y2 : w < G_n g := by have := y.2; rw [x_lt hw (by omega)] at this; exact this
    rw [hasWord2 r1 ok hw, ob, if_pos y2, if_pos y, if_neg (by decide), if_neg (by decide), runs2 r1 ok, runs6 r2 ok, ob, ob]
    by_cases q : G_st g = 1
    · rw [if_pos q, if_neg (by decide), if_neg (by decide)]
      exact ⟨_, _, _, _, rfl, rfl, ⟨g, c, gs, hr⟩, rfl, rfl⟩
    · rw [if_neg q, if_pos rfl, if_pos rfl]
      have r2' : RM (M_s M1) g := by rw [k1]; exact r2
      obtain ⟨z1, f1, f2⟩ := rem2 r1 ok y2
      obtain ⟨z2, f3, f4⟩ := end2 f2
      obtain ⟨s1, g1, g2, _⟩ := noGame6 r2'
      obtain ⟨x, g3, g4⟩ := rem6 (M := M1) g2 hn (Nat.zero_le _) y2
      have s10 : s1 0 = nI (G_n g) := g2.1
      rw [e1, ob, f1, ob, f3, ob, show S_wordCount z2 = nI (G_n g - 1) from f4.1, e2, ob, g1, ob, m0, Ms_s, s10, k0_, lt_, cl0, Ms_ss, show nI (G_n g) - 1 = nI (G_n g - 1) by rw [show (1 : Int32) = nI 1 from rfl, pk_sub (by omega)]]
      refine ⟨_, _, _, _, rfl, g3, ⟨_, _, _, fin _ _ _ f4 g4 (rem_ok ok y2)⟩, k2⟩
  · have e : f_X2_hasWord z p = some 0 := by
      rcases neg_or p with u | ⟨w, hw, rfl⟩
      · exact hasWord2_neg u
      · rw [hasWord2 r1 ok hw, if_neg (fun t => y ⟨pos_n w hw, by rw [x_lt hw (by omega)]; exact t⟩)]
    rw [e, ob, if_pos rfl, if_neg y, if_pos rfl]
    exact ⟨_, _, _, _, rfl, rfl, ⟨g, c, gs, hr⟩, rfl, rfl⟩
end REM
