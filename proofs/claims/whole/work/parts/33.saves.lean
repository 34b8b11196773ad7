/-! ===== stage B: what undo takes back ===== -/
def RB (B : Nat → Int32) (c : Nat) (gs : Nat → GS) : Prop := ∀ j, j < c → RM (fun k => B (319 * (c - 1 - j) + k)) (gs j)
def RV (V : Sv) (c : Nat) (gs : Nat → GS) : Prop := V.2.2 = nI c ∧ ∃ nx, V.2.1 = nI nx ∧ nx < 6 ∧ nx ≤ V.1.length ∧ V.1.length ≤ 6 ∧ ∀ j, j < c → ∃ σ, V.1[(nx + 5 - j) % 6]? = some σ ∧ RS σ (gs j)
def gsP (g : GS) (gs : Nat → GS) (j : Nat) : GS := if j = 0 then g else gs (j - 1)
def cP (c : Nat) : Nat := if c = 6 then 6 else c + 1
theorem Mb_b (z : Md) (v : Nat → Int32) : M_before (M_before_set z v) = v := rfl
theorem Mb_bb (z : Md) (a b : Nat → Int32) : M_before_set (M_before_set z a) b = M_before_set z b := rfl
theorem Mb_s (z : Md) (v : Nat → Int32) : M_s (M_before_set z v) = M_s z := rfl
theorem Mb_v (z : Md) (v : Nat → Int32) : M_saved (M_before_set z v) = M_saved z := rfl
theorem Mb_id (z : Md) : M_before_set z (M_before z) = z := rfl
theorem Mv_b (z : Md) (v : Int32) : M_before (M_saved_set z v) = M_before z := rfl
theorem Mv_s (z : Md) (v : Int32) : M_s (M_saved_set z v) = M_s z := rfl
theorem Mv_v (z : Md) (v : Int32) : M_saved (M_saved_set z v) = v := rfl
theorem m319 (a k : Nat) : ((319 : Int32) * nI a) + nI k = nI (319 * a + k) := by
  rw [show (319 : Int32) * nI a = nI (319 * a) from nI_mulN 319 a, nI_add]
section SAVE
variable {z : St} {M : Md} {g : GS} {gs : Nat → GS} {c : Nat}
theorem push2 (h : RS z g) (ok : okG g) {V : Sv} (hc : c ≤ 6) (hV : RV V c gs) : ∃ V', f_X1_push V z = some V' ∧ RV V' (cP c) (gsP g gs) := by
  obtain ⟨v1, nx, v2, v3, v4, v5, v6⟩ := hV
  obtain ⟨rs, a, b⟩ := V
  simp only at v1 v2 v4 v5 v6
  subst v1 v2
  have key : ∃ rs', f_X1_push_copy rs nx z = some rs' ∧ rs'.length ≤ 6 ∧ nx + 1 ≤ rs'.length ∧ (∃ σ, rs'[nx]? = some σ ∧ RS σ g) ∧ ∀ i, i ≠ nx → i < rs.length → rs'[i]? = rs[i]? := by
    unfold f_X1_push_copy
    by_cases q : nx < rs.length
    · obtain ⟨z2, e2, r2⟩ := copy2 h ok (rs[nx])
      have e : rs[nx]? = some rs[nx] := List.getElem?_eq_getElem q
      rw [e]
      simp only
      rw [e2, ob]
      refine ⟨_, rfl, by rw [List.length_set]; exact v5, by rw [List.length_set]; omega, ⟨z2, ?_, r2⟩, fun i hi hl => ?_⟩
      · rw [List.getElem?_set_self q]
      · rw [List.getElem?_set_ne (fun x => hi x.symm)]
    · have e : rs[nx]? = none := List.getElem?_eq_none (by omega)
      obtain ⟨z2, e2, r2⟩ := copy2 h ok ini_S
      rw [e]
      simp only
      rw [if_pos (show nx = rs.length by omega), e2, ob]
      refine ⟨_, rfl, by rw [List.length_append]; simp; omega, by rw [List.length_append]; simp; omega, ⟨z2, ?_, r2⟩, fun i hi hl => ?_⟩
      · rw [show nx = rs.length by omega]; simp
      · rw [List.getElem?_append_left hl]
  obtain ⟨rs', e1, l1, l2, ⟨σ, s1, s2⟩, s3⟩ := key
  have old : ∀ j, j < c → j < 5 → ∃ σ, rs'[(nx + 5 - j) % 6]? = some σ ∧ RS σ (gs j) := by
    intro j hj h5
    obtain ⟨τ, t1, t2⟩ := v6 j hj
    refine ⟨τ, ?_, t2⟩
    have hlt : (nx + 5 - j) % 6 < rs.length := by
      rcases Nat.lt_or_ge ((nx + 5 - j) % 6) rs.length with q | q
      · exact q
      · rw [List.getElem?_eq_none q] at t1; cases t1
    rw [s3 _ (by omega) hlt]
    exact t1
  have mn : (if (6 : Int32) < nI c + 1 then (6 : Int32) else nI c + 1) = nI (cP c) := by
    rw [x_a1, show (6 : Int32) = nI 6 from rfl, i_lt (by omega) (by omega)]
    unfold cP
    by_cases q : c = 6
    · rw [if_pos (by omega), if_pos q]
    · rw [if_neg (by omega), if_neg q]
  have cl : ∀ j, j < cP c → j = 0 ∨ (j - 1 < c ∧ j - 1 < 5 ∧ j ≠ 0) := by
    intro j hj
    unfold cP at hj
    by_cases q : c = 6
    · rw [if_pos q] at hj; omega
    · rw [if_neg q] at hj; omega
  unfold f_X1_push f_X1_push_J17
  show ∃ V', (if nI nx < 0 then _ else if nI nx < 6 then chkA 6 (nI nx) (Option.bind (f_X1_push_copy rs (nI nx).toNatClampNeg z) fun rs => f_X1_push_J54 (rs, nI nx, nI c)) else _) = some V' ∧ _
  rw [i_n (by omega), show (6 : Int32) = nI 6 from rfl, i_lt (by omega) (by omega), if_pos v3, chkA_n v3 (by omega), x_cl (by omega), e1, ob]
  unfold f_X1_push_J54
  show ∃ V', (if nI nx = 5 then lett (rs', (0 : Int32), nI c) fun zV_6 => lett (if (6 : Int32) < (zV_6.2.2) + (1 : Int32) then (6 : Int32) else (zV_6.2.2) + (1 : Int32)) fun mn_7 => some (V_count_set zV_6 mn_7) else lett (rs', nI nx + 1, nI c) fun zV_3 => lett (if (6 : Int32) < (zV_3.2.2) + (1 : Int32) then (6 : Int32) else (zV_3.2.2) + (1 : Int32)) fun mn_4 => some (V_count_set zV_3 mn_4)) = some V' ∧ _
  rw [lt_, lt_, lt_, lt_]
  show ∃ V', (if nI nx = 5 then some (rs', (0 : Int32), if (6 : Int32) < nI c + 1 then (6 : Int32) else nI c + 1) else some (rs', nI nx + 1, if (6 : Int32) < nI c + 1 then (6 : Int32) else nI c + 1)) = some V' ∧ _
  rw [mn, x_a1, show (5 : Int32) = nI 5 from rfl, i_eq (by omega) (by omega)]
  by_cases q : nx = 5
  · rw [if_pos q]
    refine ⟨_, rfl, rfl, 0, rfl, by omega, Nat.zero_le _, l1, fun j hj => ?_⟩
    rcases cl j hj with rfl | ⟨c1, c2, c3⟩
    · exact ⟨σ, by show rs'[(0 + 5 - 0) % 6]? = _; rw [show (0 + 5 - 0) % 6 = nx by omega]; exact s1, s2⟩
    · obtain ⟨τ, t1, t2⟩ := old (j - 1) c1 c2
      refine ⟨τ, ?_, by unfold gsP; rw [if_neg c3]; exact t2⟩
      show rs'[(0 + 5 - j) % 6]? = _
      rw [show (0 + 5 - j) % 6 = (nx + 5 - (j - 1)) % 6 by omega]
      exact t1
  · rw [if_neg q]
    refine ⟨_, rfl, rfl, nx + 1, rfl, by omega, l2, l1, fun j hj => ?_⟩
    rcases cl j hj with rfl | ⟨c1, c2, c3⟩
    · exact ⟨σ, by show rs'[(nx + 1 + 5 - 0) % 6]? = _; rw [show (nx + 1 + 5 - 0) % 6 = nx by omega]; exact s1, s2⟩
    · obtain ⟨τ, t1, t2⟩ := old (j - 1) c1 c2
      refine ⟨τ, ?_, by unfold gsP; rw [if_neg c3]; exact t2⟩
      show rs'[(nx + 1 + 5 - j) % 6]? = _
      rw [show (nx + 1 + 5 - j) % 6 = (nx + 5 - (j - 1)) % 6 by omega]
      exact t1
theorem pop2_0 {V : Sv} (hV : RV V 0 gs) : f_X1_popInto V z = some (0, V, z) := by
  obtain ⟨v1, nx, v2, v3, v4, v5, v6⟩ := hV
  unfold f_X1_popInto f_X1_popInto_J17
  rw [v1, v2, i_z (by omega), if_pos (show nI 0 = 0 from rfl), if_pos (show nI 0 = 0 from rfl), ite_self]
theorem pop2 {V : Sv} (hc : c < 6) (ok : okG (gs 0)) (hV : RV V (c + 1) gs) : ∃ V' z', f_X1_popInto V z = some (1, V', z') ∧ V'.2.2 = nI c ∧ RS z' (gs 0) ∧ RV V' c (fun j => gs (j + 1)) := by
  obtain ⟨v1, nx, v2, v3, v4, v5, v6⟩ := hV
  obtain ⟨rs, a, b⟩ := V
  simp only at v1 v2 v4 v5 v6
  subst v1 v2
  obtain ⟨τ, t1, t2⟩ := v6 0 (by omega)
  obtain ⟨z2, e2, r2⟩ := copy2 t2 ok z
  have key : f_X1_popInto (rs, nI nx, nI (c + 1)) z = some (1, (rs, nI ((nx + 5) % 6), nI c), z2) := by
    have hlt : (nx + 5 - 0) % 6 < rs.length := by
      rcases Nat.lt_or_ge ((nx + 5 - 0) % 6) rs.length with q | q
      · exact q
      · rw [List.getElem?_eq_none q] at t1; cases t1
    have J : f_X1_popInto_J17 (rs, nI nx, nI (c + 1)) z (nI ((nx + 5) % 6)) = some (1, (rs, nI ((nx + 5) % 6), nI c), z2) := by
      unfold f_X1_popInto_J17 f_X1_popInto_J37
      show (if nI (c + 1) = 0 then _ else if nI ((nx + 5) % 6) < 0 then _ else if nI ((nx + 5) % 6) < 6 then chkA 6 (nI ((nx + 5) % 6)) (match rs[(nI ((nx + 5) % 6)).toNatClampNeg]? with | some z1 => Option.bind (f_X2_copyFrom z z1) fun z2 => f_X1_popInto_J55 (nI ((nx + 5) % 6)) (rs, nI nx, nI (c + 1)) z2 | none => some (0, (rs, nI nx, nI (c + 1)), z)) else _) = _
      rw [i_z (by omega), if_neg (by omega), i_n (by omega), show (6 : Int32) = nI 6 from rfl, i_lt (by omega) (by omega), if_pos (by omega), chkA_n (by omega) (by omega), x_cl (by omega), show rs[(nx + 5) % 6]? = some τ from t1]
      simp only
      rw [e2, ob]
      unfold f_X1_popInto_J55
      rw [lt_, lt_]
      show some ((1 : Int32), (rs, nI ((nx + 5) % 6), nI (c + 1) - 1), z2) = _
      rw [x_s1]
    unfold f_X1_popInto
    show (if nI nx = 0 then f_X1_popInto_J17 (rs, nI nx, nI (c + 1)) z 5 else f_X1_popInto_J17 (rs, nI nx, nI (c + 1)) z (nI nx - 1)) = _
    rw [i_z (by omega)]
    by_cases q : nx = 0
    · rw [if_pos q]
      subst q
      exact J
    · rw [if_neg q, show nI nx - 1 = nI ((nx + 5) % 6) by
        rw [show (1 : Int32) = nI 1 from rfl, pk_sub (by omega), show nx - 1 = (nx + 5) % 6 by omega]]
      exact J
  refine ⟨(rs, nI ((nx + 5) % 6), nI c), z2, key, rfl, r2, rfl, (nx + 5) % 6, rfl, by omega, ?_, v5, fun j hj => ?_⟩
  · show (nx + 5) % 6 ≤ rs.length
    rcases Nat.lt_or_ge ((nx + 5 - 0) % 6) rs.length with q | q
    · have : (nx + 5 - 0) % 6 = (nx + 5) % 6 := rfl
      omega
    · rw [List.getElem?_eq_none q] at t1; cases t1
  · obtain ⟨σ, s1, s2⟩ := v6 (j + 1) (by omega)
    refine ⟨σ, ?_, s2⟩
    show rs[((nx + 5) % 6 + 5 - j) % 6]? = _
    rw [show ((nx + 5) % 6 + 5 - j) % 6 = (nx + 5 - (j + 1)) % 6 by omega]
    exact s1
theorem saves6a (M1 : Md) (hc : c < 6) (hs : M_saved M1 = nI c) : ∃ B, f_X6_saves_J50 M1 = some (M_saved_set (M_before_set M1 B) (nI (c + 1))) ∧ (∀ k, k < 319 → B (319 * c + k) = M_s M1 k) ∧ ∀ k, k < 319 * c → B k = M_before M1 k := by
  unfold f_X6_saves_J50
  refine run2 (fun j a (M' : Md) => a = nI j ∧ ∃ B, M' = M_before_set M1 B ∧ (∀ k, k < j → B (319 * c + k) = M_s M1 k) ∧ ∀ k, k < 319 * c → B k = M_before M1 k) (fun r => ∃ B, r = some (M_saved_set (M_before_set M1 B) (nI (c + 1))) ∧ (∀ k, k < 319 → B (319 * c + k) = M_s M1 k) ∧ ∀ k, k < 319 * c → B k = M_before M1 k) 319 ?_ ?_ FU _ _ (FU_gt (by omega)) ⟨rfl, M_before M1, (Mb_id M1).symm, fun k hk => absurd hk (Nat.not_lt_zero _), fun k hk => rfl⟩
  · rintro j a M' hj ⟨rfl, B, rfl, hB, hB2⟩
    refine ⟨nI (j + 1), M_before_set M1 (upd B (319 * c + j) (M_s M1 j)), ⟨rfl, _, rfl, fun k hk => ?_, fun k hk => ?_⟩, fun re => ?_⟩
    · by_cases q : k = j
      · rw [q, upd_e]
      · rw [upd_n (by omega)]; exact hB k (by omega)
    · rw [upd_n (by omega)]; exact hB2 k hk
    · unfold f_X6_saves_L52
      rw [show (if nI j < 319 then (getA (M_s (M_before_set M1 B)) 319 (nI j) fun e_5 => chkA 1914 (((319 : Int32) * (M_saved (M_before_set M1 B))) + nI j) (lett (M_before_set (M_before_set M1 B) (upd (M_before (M_before_set M1 B)) ((((319 : Int32) * (M_saved (M_before_set M1 B))) + nI j)).toNatClampNeg e_5)) fun zM_6 => lett (nI j + (1 : Int32)) fun v1_7 => re v1_7 zM_6)) else lett (M_saved_set (M_before_set M1 B) ((M_saved (M_before_set M1 B)) + (1 : Int32))) fun zM_4 => some zM_4) = (if nI j < nI 319 then (getA (M_s (M_before_set M1 B)) 319 (nI j) fun e_5 => chkA 1914 (((319 : Int32) * (M_saved (M_before_set M1 B))) + nI j) (lett (M_before_set (M_before_set M1 B) (upd (M_before (M_before_set M1 B)) ((((319 : Int32) * (M_saved (M_before_set M1 B))) + nI j)).toNatClampNeg e_5)) fun zM_6 => lett (nI j + (1 : Int32)) fun v1_7 => re v1_7 zM_6)) else lett (M_saved_set (M_before_set M1 B) ((M_saved (M_before_set M1 B)) + (1 : Int32))) fun zM_4 => some zM_4) from rfl, i_lt (by omega) (by omega), if_pos hj, getA_n (by omega) (by omega), Mb_v, hs, m319, chkA_n (by omega) (by omega), lt_, lt_, Mb_s, Mb_b, Mb_bb, x_cl (by omega), x_a1]
  · rintro a M' ⟨rfl, B, rfl, hB, hB2⟩ re
    unfold f_X6_saves_L52
    rw [if_neg (show ¬ nI 319 < (319 : Int32) by decide), lt_, Mb_v, hs, x_a1]
    exact ⟨B, rfl, hB, hB2⟩
theorem saves6 (h : RM (M_s M) g) (ok : okG g) (hc : c ≤ 6) (hs : M_saved M = nI c) (hB : RB (M_before M) c gs) (oks : ∀ j, j < c → okG (gs j)) : ∃ B, f_X6_saves M = some (M_saved_set (M_before_set M B) (nI (cP c))) ∧ RB B (cP c) (gsP g gs) := by
  unfold f_X6_saves
  by_cases q : c = 6
  · subst q
    rw [if_pos (by rw [hs]; rfl)]
    have key : ∃ B, loop2 (f_X6_saves_L11) FU 0 M = f_X6_saves_J50 (M_saved_set (M_before_set M B) (nI 5)) ∧ ∀ k, k < 1595 → B k = M_before M (319 + k) := by
      refine run2 (fun j a (M' : Md) => a = nI j ∧ ∃ B, M' = M_before_set M B ∧ (∀ k, k < j → B k = M_before M (319 + k)) ∧ ∀ k, j ≤ k → B k = M_before M k) (fun r => ∃ B, r = f_X6_saves_J50 (M_saved_set (M_before_set M B) (nI 5)) ∧ ∀ k, k < 1595 → B k = M_before M (319 + k)) 1595 ?_ ?_ FU _ _ (FU_gt (by omega)) ⟨rfl, M_before M, (Mb_id M).symm, fun k hk => absurd hk (Nat.not_lt_zero _), fun k _ => rfl⟩
      · rintro j a M' hj ⟨rfl, B, rfl, hB1, hB2⟩
        refine ⟨nI (j + 1), M_before_set M (upd B j (M_before M (319 + j))), ⟨rfl, _, rfl, fun k hk => ?_, fun k hk => ?_⟩, fun re => ?_⟩
        · by_cases q : k = j
          · rw [q, upd_e]
          · rw [upd_n q]; exact hB1 k (by omega)
        · rw [upd_n (by omega)]; exact hB2 k (by omega)
        · unfold f_X6_saves_L11
          rw [show (1595 : Int32) = nI 1595 from rfl, i_lt (by omega) (by omega), if_pos hj, show (319 : Int32) + nI j = nI (319 + j) from nI_add 319 j, getA_n (by omega) (by omega), chkA_n (by omega) (by omega), lt_, lt_, Mb_b, Mb_bb, x_cl (by omega), x_a1, hB2 (319 + j) (by omega)]
      · rintro a M' ⟨rfl, B, rfl, hB1, hB2⟩ re
        unfold f_X6_saves_L11
        rw [show (1595 : Int32) = nI 1595 from rfl, i_lt (by omega) (by omega), if_neg (by omega), lt_, Mb_v, hs, x_s1]
        exact ⟨B, rfl, hB1⟩
    obtain ⟨B1, e1, hB1⟩ := key
    obtain ⟨B, e2, b1, b2⟩ := saves6a (c := 5) (M_saved_set (M_before_set M B1) (nI 5)) (by omega) rfl
    rw [e1, e2]
    refine ⟨B, rfl, fun j hj => ?_⟩
    have hj : j < 6 := hj
    show RM (fun k => B (319 * (6 - 1 - j) + k)) (gsP g gs j)
    unfold gsP
    by_cases y : j = 0
    · subst y
      rw [if_pos rfl]
      exact RM_low h ok (fun k hk => b1 k hk)
    · rw [if_neg y]
      refine RM_low (hB (j - 1) (by omega)) (oks (j - 1) (by omega)) (fun k hk => ?_)
      show B (319 * (6 - 1 - j) + k) = M_before M (319 * (6 - 1 - (j - 1)) + k)
      rw [b2 _ (by omega)]
      show B1 _ = _
      rw [hB1 _ (by omega)]
      refine congrArg (M_before M) ?_
      omega
  · rw [if_neg (by rw [hs, show (6 : Int32) = nI 6 from rfl, x_eq (by omega) (by omega)]; exact q)]
    obtain ⟨B, e2, b1, b2⟩ := saves6a (c := c) M (by omega) hs
    rw [e2]
    unfold cP
    rw [if_neg q]
    refine ⟨B, rfl, fun j hj => ?_⟩
    show RM (fun k => B (319 * (c + 1 - 1 - j) + k)) (gsP g gs j)
    unfold gsP
    by_cases y : j = 0
    · subst y
      rw [if_pos rfl]
      exact RM_low h ok (fun k hk => b1 k hk)
    · rw [if_neg y]
      refine RM_low (hB (j - 1) (by omega)) (oks (j - 1) (by omega)) (fun k hk => ?_)
      show B (319 * (c + 1 - 1 - j) + k) = M_before M (319 * (c - 1 - (j - 1)) + k)
      rw [b2 _ (by
        have : c + 1 - 1 - j + 1 ≤ c := by omega
        have := Nat.mul_le_mul_left 319 this
        omega), show c + 1 - 1 - j = c - 1 - (j - 1) by omega]
theorem undo6 (hc : c < 6) (hs : M_saved M = nI (c + 1)) (hB : RB (M_before M) (c + 1) gs) (ok : okG (gs 0)) : ∃ x, f_X6_undo M = some (nI c, M_s_set (M_saved_set M (nI c)) x) ∧ RM x (gs 0) ∧ RB (M_before M) c (fun j => gs (j + 1)) := by
  unfold f_X6_undo
  rw [if_neg (by rw [hs, x_z (by omega)]; omega), lt_, hs, x_s1]
  have key : ∃ x, loop2 (f_X6_undo_L22) FU 0 (M_saved_set M (nI c)) = some (nI c, M_s_set (M_saved_set M (nI c)) x) ∧ ∀ k, k < 319 → x k = M_before M (319 * c + k) := by
    refine run2 (fun j a (M' : Md) => a = nI j ∧ ∃ x, M' = M_s_set (M_saved_set M (nI c)) x ∧ ∀ k, k < j → x k = M_before M (319 * c + k)) (fun r => ∃ x, r = some (nI c, M_s_set (M_saved_set M (nI c)) x) ∧ ∀ k, k < 319 → x k = M_before M (319 * c + k)) 319 ?_ ?_ FU _ _ (FU_gt (by omega)) ⟨rfl, M_s M, rfl, fun k hk => absurd hk (Nat.not_lt_zero _)⟩
    · rintro j a M' hj ⟨rfl, x, rfl, hx⟩
      refine ⟨nI (j + 1), M_s_set (M_saved_set M (nI c)) (upd x j (M_before M (319 * c + j))), ⟨rfl, _, rfl, fun k hk => ?_⟩, fun re => ?_⟩
      · by_cases q : k = j
        · rw [q, upd_e]
        · rw [upd_n q]; exact hx k (by omega)
      · unfold f_X6_undo_L22
        rw [if_pos (show nI j < (319 : Int32) by rw [show (319 : Int32) = nI 319 from rfl, x_lt (by omega) (by omega)]; exact hj), show M_saved (M_s_set (M_saved_set M (nI c)) x) = nI c from rfl, m319, getA_n (by omega) (by omega), chkA_n (by omega) (by omega), lt_, lt_, Ms_s, Ms_ss, x_cl (by omega), x_a1]
        rfl
    · rintro a M' ⟨rfl, x, rfl, hx⟩ re
      unfold f_X6_undo_L22
      rw [if_neg (show ¬ nI 319 < (319 : Int32) by decide)]
      exact ⟨x, rfl, hx⟩
  obtain ⟨x, e, hx⟩ := key
  refine ⟨x, e, RM_low (hB 0 (by omega)) ok (fun k hk => hx k hk), fun j hj => ?_⟩
  have := hB (j + 1) (by omega)
  rw [show c + 1 - 1 - (j + 1) = c - 1 - j by omega] at this
  exact this
end SAVE
