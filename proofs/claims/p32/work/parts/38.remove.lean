/-! ===== stage B: a word taken out ===== -/
theorem vL_e (f : Nat → Int64) (k : Nat) (x : Int64) : vp_updL f k x k = x := if_pos rfl
theorem vL_n {f : Nat → Int64} {k j : Nat} {x : Int64} (h : j ≠ k) : vp_updL f k x j = f j := if_neg h
theorem sl_l (z : St) (L : Nat → Int64) : S_list (S_list_set z L) = L := rfl
theorem sl_ll (z : St) (L K : Nat → Int64) : S_list_set (S_list_set z L) K = S_list_set z K := rfl
theorem sl_n (z : St) (L : Nat → Int64) : S_wordCount (S_list_set z L) = S_wordCount z := rfl
theorem sl_id (z : St) : S_list_set z (S_list z) = z := rfl
abbrev gRem (g : GS) (p : Nat) : GS := (G_n g - 1, G_pol g, G_st g, G_len g, G_lv g, G_gc g, G_gs g, G_cd g, G_tot g, G_od g, G_pt g, fun w => if w < p then G_Z g w else G_Z g (w + 1), fun w => if w < p then G_D g w else G_D g (w + 1))
section REM
variable {z : St} {V : Sv} {g : GS} {p : Nat}
theorem rem2 (h : RS z g) (ok : okG g) (hp : p < G_n g) : ∃ z', f_X2_remove z (nI p) = some z' ∧ RS z' (gRem g p) := by
  have hn := ok.1
  have key : ∃ L, f_X2_remove z (nI p) = some (S_wordCount_set (S_list_set z L) (nI (G_n g - 1))) ∧ ∀ k, L k = if p ≤ k ∧ k < 29 then S_list z (k + 1) else S_list z k := by
    unfold f_X2_remove
    rw [hasWord2 h ok (by omega), ob, if_pos hp, if_neg (by decide)]
    refine run2 (fun j a (zz : St) => a = nI (p + j) ∧ ∃ L, zz = S_list_set z L ∧ ∀ k, L k = if p ≤ k ∧ k < p + j then S_list z (k + 1) else S_list z k) (fun r => ∃ L, r = some (S_wordCount_set (S_list_set z L) (nI (G_n g - 1))) ∧ ∀ k, L k = if p ≤ k ∧ k < 29 then S_list z (k + 1) else S_list z k) (29 - p) ?_ ?_ FU _ _ (FU_gt (by omega)) ⟨rfl, S_list z, (sl_id z).symm, fun k => by rw [if_neg (by omega)]⟩
    · rintro j a zz hj ⟨rfl, L, rfl, hL⟩
      refine ⟨nI (p + j + 1), S_list_set z (vp_updL L (p + j) (L (p + j + 1))), ⟨rfl, _, rfl, fun k => ?_⟩, fun re => ?_⟩
      · by_cases q : k = p + j
        · rw [q, vL_e, hL, if_neg (by omega), if_pos (by omega)]
        · rw [vL_n q, hL]
          by_cases w : p ≤ k ∧ k < p + j
          · rw [if_pos w, if_pos (by omega)]
          · rw [if_neg w, if_neg (by omega)]
      · unfold f_X2_remove_L11
        rw [if_pos (show nI (p + j) < (29 : Int32) by rw [show (29 : Int32) = nI 29 from rfl, x_lt (by omega) (by omega)]; omega), x_a1, getA_n (by omega) (by omega), chkA_n (by omega) (by omega), lt_, lt_, sl_l, sl_ll, x_cl (by omega)]
    · rintro a zz ⟨rfl, L, rfl, hL⟩ re
      unfold f_X2_remove_L11
      have e29 : p + (29 - p) = 29 := by omega
      rw [e29] at hL ⊢
      rw [if_neg (show ¬ nI 29 < (29 : Int32) by decide), lt_, sl_n, h.1, show nI (G_n g) - 1 = nI (G_n g - 1) by rw [show (1 : Int32) = nI 1 from rfl, pk_sub (by omega)]]
      exact ⟨L, rfl, hL⟩
  obtain ⟨L, e, hL⟩ := key
  refine ⟨_, e, rfl, h.2.1, h.2.2.1, h.2.2.2.1, h.2.2.2.2.1, h.2.2.2.2.2.1, h.2.2.2.2.2.2.1, h.2.2.2.2.2.2.2.1, h.2.2.2.2.2.2.2.2.1, h.2.2.2.2.2.2.2.2.2.1, h.2.2.2.2.2.2.2.2.2.2.1, fun w hw => ?_⟩
  have hw : w < G_n g - 1 := hw
  show L w = lN (encN (if w < p then G_D g w else G_D g (w + 1)))
  rw [hL]
  by_cases q : w < p
  · rw [if_neg (by omega), if_pos q, h.2.2.2.2.2.2.2.2.2.2.2 w (by omega)]
  · rw [if_pos (by omega), if_neg q, h.2.2.2.2.2.2.2.2.2.2.2 (w + 1) (by omega)]
theorem rem_ok (ok : okG g) (hp : p < G_n g) : okG (gRem (gEnd g) p) := by
  obtain ⟨o1, o2, o3, o4, o5, o6, o7, o8, o9, o10, o11, o12, o13⟩ := end_ok ok
  refine ⟨(by show G_n g - 1 ≤ 30; have := ok.1; omega), o2, o3, o4, o5, o6, o7, fun i hi => absurd hi (by show ¬ bt (0 : Int32) i = true; rw [b_0]; decide), fun w hw => ?_, fun v w hvw hw => ?_, o11, o12, fun x => absurd x (by show ¬ (0 : Nat) = 1; omega)⟩
  · have hw : w < G_n g - 1 := hw
    show okw (if w < p then G_D g w else G_D g (w + 1)) (if w < p then G_Z g w else G_Z g (w + 1))
    by_cases q : w < p
    · rw [if_pos q, if_pos q]; exact ok_w ok (by omega)
    · rw [if_neg q, if_neg q]; exact ok_w ok (by omega)
  · have hw : w < G_n g - 1 := hw
    show encN (if v < p then G_D g v else G_D g (v + 1)) < encN (if w < p then G_D g w else G_D g (w + 1))
    have so := ok.2.2.2.2.2.2.2.2.2.1
    by_cases q : v < p
    · rw [if_pos q]
      by_cases y : w < p
      · rw [if_pos y]; exact so v w hvw (by omega)
      · rw [if_neg y]; exact so v (w + 1) (by omega) (by omega)
    · rw [if_neg q, if_neg (by omega)]; exact so (v + 1) (w + 1) (by omega) (by omega)
end REM
