/-! ===== stage B: what undo takes back ===== -/
def RV (V : Sv) (c : Nat) (gs : Nat → GS) : Prop := V.2.2 = nI c ∧ ∃ nx, V.2.1 = nI nx ∧ nx < 6 ∧ nx ≤ V.1.length ∧ V.1.length ≤ 6 ∧ ∀ j, j < c → ∃ σ, V.1[(nx + 5 - j) % 6]? = some σ ∧ RS σ (gs j)
def gsP (g : GS) (gs : Nat → GS) (j : Nat) : GS := if j = 0 then g else gs (j - 1)
def cP (c : Nat) : Nat := if c = 6 then 6 else c + 1
theorem m319 (a k : Nat) : ((319 : Int32) * nI a) + nI k = nI (319 * a + k) := by
  rw [show (319 : Int32) * nI a = nI (319 * a) from nI_mulN 319 a, nI_add]
section SAVE
variable {z : St} {g : GS} {gs : Nat → GS} {c : Nat}
theorem push2 (h : RS z g) (ok : okG g) {V : Sv} (hc : c ≤ 6) (hV : RV V c gs) : ∃ V', f_X1_push V z = some V' ∧ RV V' (cP c) (gsP g gs) := by
  obtain ⟨v1, nx, v2, v3, v4, v5, v6⟩ := hV
  obtain ⟨rs, a, b⟩ := V
  simp only at v1 v2 v4 v5 v6
  subst v1 v2
  have key : ∃ rs', f_X1_push_copy rs nx z = some rs' ∧ rs'.length ≤ 6 ∧ nx + 1 ≤ rs'.length ∧ (∃ σ, rs'[nx]? = some σ ∧ RS σ g) ∧ ∀ i, i ≠ nx → i < rs.length → rs'[i]? = rs[i]? := by
    unfold f_X1_push_copy
    by_cases q : nx < rs.length
    · obtain ⟨z2, e2, r2⟩ := copy2 h ok (rs[nx])
      have e : rs[nx]? = some rs[nx] := List.getElem?_eq_getElem q
      rw [e]
      simp only
      rw [e2, ob]
      refine ⟨_, rfl, by rw [List.length_set]; exact v5, by rw [List.length_set]; omega, ⟨z2, ?_, r2⟩, fun i hi hl => ?_⟩
      · rw [List.getElem?_set_self q]
      · rw [List.getElem?_set_ne (fun x => hi x.symm)]
    · have e : rs[nx]? = none := List.getElem?_eq_none (by omega)
      obtain ⟨z2, e2, r2⟩ := copy2 h ok ini_S
      rw [e]
      simp only
      rw [if_pos (show nx = rs.length by omega), e2, ob]
      refine ⟨_, rfl, by rw [List.length_append]; simp; omega, by rw [List.length_append]; simp; omega, ⟨z2, ?_, r2⟩, fun i hi hl => ?_⟩
      · rw [show nx = rs.length by omega]; simp
      · rw [List.getElem?_append_left hl]
  obtain ⟨rs', e1, l1, l2, ⟨σ, s1, s2⟩, s3⟩ := key
  have old : ∀ j, j < c → j < 5 → ∃ σ, rs'[(nx + 5 - j) % 6]? = some σ ∧ RS σ (gs j) := by
    intro j hj h5
    obtain ⟨τ, t1, t2⟩ := v6 j hj
    refine ⟨τ, ?_, t2⟩
    have hlt : (nx + 5 - j) % 6 < rs.length := by
      rcases Nat.lt_or_ge ((nx + 5 - j) % 6) rs.length with q | q
      · exact q
      · rw [List.getElem?_eq_none q] at t1; cases t1
    rw [s3 _ (by omega) hlt]
    exact t1
  have mn : (if (6 : Int32) < nI c + 1 then (6 : Int32) else nI c + 1) = nI (cP c) := by
    rw [x_a1, show (6 : Int32) = nI 6 from rfl, i_lt (by omega) (by omega)]
    unfold cP
    by_cases q : c = 6
    · rw [if_pos (by omega), if_pos q]
    · rw [if_neg (by omega), if_neg q]
  have cl : ∀ j, j < cP c → j = 0 ∨ (j - 1 < c ∧ j - 1 < 5 ∧ j ≠ 0) := by
    intro j hj
    unfold cP at hj
    by_cases q : c = 6
    · rw [if_pos q] at hj; omega
    · rw [if_neg q] at hj; omega
  unfold f_X1_push f_X1_push_J17
  show ∃ V', (if nI nx < 0 then _ else if nI nx < 6 then chkA 6 (nI nx) (Option.bind (f_X1_push_copy rs (nI nx).toNatClampNeg z) fun rs => f_X1_push_J54 (rs, nI nx, nI c)) else _) = some V' ∧ _
  rw [i_n (by omega), show (6 : Int32) = nI 6 from rfl, i_lt (by omega) (by omega), if_pos v3, chkA_n v3 (by omega), x_cl (by omega), e1, ob]
  unfold f_X1_push_J54
  show ∃ V', (if nI nx = 5 then lett (rs', (0 : Int32), nI c) fun zV_6 => lett (if (6 : Int32) < (zV_6.2.2) + (1 : Int32) then (6 : Int32) else (zV_6.2.2) + (1 : Int32)) fun mn_7 => some (V_count_set zV_6 mn_7) else lett (rs', nI nx + 1, nI c) fun zV_3 => lett (if (6 : Int32) < (zV_3.2.2) + (1 : Int32) then (6 : Int32) else (zV_3.2.2) + (1 : Int32)) fun mn_4 => some (V_count_set zV_3 mn_4)) = some V' ∧ _
  rw [lt_, lt_, lt_, lt_]
  show ∃ V', (if nI nx = 5 then some (rs', (0 : Int32), if (6 : Int32) < nI c + 1 then (6 : Int32) else nI c + 1) else some (rs', nI nx + 1, if (6 : Int32) < nI c + 1 then (6 : Int32) else nI c + 1)) = some V' ∧ _
  rw [mn, x_a1, show (5 : Int32) = nI 5 from rfl, i_eq (by omega) (by omega)]
  by_cases q : nx = 5
  · rw [if_pos q]
    refine ⟨_, rfl, rfl, 0, rfl, by omega, Nat.zero_le _, l1, fun j hj => ?_⟩
    rcases cl j hj with rfl | ⟨c1, c2, c3⟩
    · exact ⟨σ, by show rs'[(0 + 5 - 0) % 6]? = _; rw [show (0 + 5 - 0) % 6 = nx by omega]; exact s1, s2⟩
    · obtain ⟨τ, t1, t2⟩ := old (j - 1) c1 c2
      refine ⟨τ, ?_, by unfold gsP; rw [if_neg c3]; exact t2⟩
      show rs'[(0 + 5 - j) % 6]? = _
      rw [show (0 + 5 - j) % 6 = (nx + 5 - (j - 1)) % 6 by omega]
      exact t1
  · rw [if_neg q]
    refine ⟨_, rfl, rfl, nx + 1, rfl, by omega, l2, l1, fun j hj => ?_⟩
    rcases cl j hj with rfl | ⟨c1, c2, c3⟩
    · exact ⟨σ, by show rs'[(nx + 1 + 5 - 0) % 6]? = _; rw [show (nx + 1 + 5 - 0) % 6 = nx by omega]; exact s1, s2⟩
    · obtain ⟨τ, t1, t2⟩ := old (j - 1) c1 c2
      refine ⟨τ, ?_, by unfold gsP; rw [if_neg c3]; exact t2⟩
      show rs'[(nx + 1 + 5 - j) % 6]? = _
      rw [show (nx + 1 + 5 - j) % 6 = (nx + 5 - (j - 1)) % 6 by omega]
      exact t1
theorem pop2_0 {V : Sv} (hV : RV V 0 gs) : f_X1_popInto V z = some (0, V, z) := by
  obtain ⟨v1, nx, v2, v3, v4, v5, v6⟩ := hV
  unfold f_X1_popInto f_X1_popInto_J17
  rw [v1, v2, i_z (by omega), if_pos (show nI 0 = 0 from rfl), if_pos (show nI 0 = 0 from rfl), ite_self]
theorem pop2 {V : Sv} (hc : c < 6) (ok : okG (gs 0)) (hV : RV V (c + 1) gs) : ∃ V' z', f_X1_popInto V z = some (1, V', z') ∧ V'.2.2 = nI c ∧ RS z' (gs 0) ∧ RV V' c (fun j => gs (j + 1)) := by
  obtain ⟨v1, nx, v2, v3, v4, v5, v6⟩ := hV
  obtain ⟨rs, a, b⟩ := V
  simp only at v1 v2 v4 v5 v6
  subst v1 v2
  obtain ⟨τ, t1, t2⟩ := v6 0 (by omega)
  obtain ⟨z2, e2, r2⟩ := copy2 t2 ok z
  have key : f_X1_popInto (rs, nI nx, nI (c + 1)) z = some (1, (rs, nI ((nx + 5) % 6), nI c), z2) := by
    have hlt : (nx + 5 - 0) % 6 < rs.length := by
      rcases Nat.lt_or_ge ((nx + 5 - 0) % 6) rs.length with q | q
      · exact q
      · rw [List.getElem?_eq_none q] at t1; cases t1
    have J : f_X1_popInto_J17 (rs, nI nx, nI (c + 1)) z (nI ((nx + 5) % 6)) = some (1, (rs, nI ((nx + 5) % 6), nI c), z2) := by
      unfold f_X1_popInto_J17 f_X1_popInto_J37
      show (if nI (c + 1) = 0 then _ else if nI ((nx + 5) % 6) < 0 then _ else if nI ((nx + 5) % 6) < 6 then chkA 6 (nI ((nx + 5) % 6)) (match rs[(nI ((nx + 5) % 6)).toNatClampNeg]? with | some z1 => Option.bind (f_X2_copyFrom z z1) fun z2 => f_X1_popInto_J55 (nI ((nx + 5) % 6)) (rs, nI nx, nI (c + 1)) z2 | none => some (0, (rs, nI nx, nI (c + 1)), z)) else _) = _
      rw [i_z (by omega), if_neg (by omega), i_n (by omega), show (6 : Int32) = nI 6 from rfl, i_lt (by omega) (by omega), if_pos (by omega), chkA_n (by omega) (by omega), x_cl (by omega), show rs[(nx + 5) % 6]? = some τ from t1]
      simp only
      rw [e2, ob]
      unfold f_X1_popInto_J55
      rw [lt_, lt_]
      show some ((1 : Int32), (rs, nI ((nx + 5) % 6), nI (c + 1) - 1), z2) = _
      rw [x_s1]
    unfold f_X1_popInto
    show (if nI nx = 0 then f_X1_popInto_J17 (rs, nI nx, nI (c + 1)) z 5 else f_X1_popInto_J17 (rs, nI nx, nI (c + 1)) z (nI nx - 1)) = _
    rw [i_z (by omega)]
    by_cases q : nx = 0
    · rw [if_pos q]
      subst q
      exact J
    · rw [if_neg q, show nI nx - 1 = nI ((nx + 5) % 6) by
        rw [show (1 : Int32) = nI 1 from rfl, pk_sub (by omega), show nx - 1 = (nx + 5) % 6 by omega]]
      exact J
  refine ⟨(rs, nI ((nx + 5) % 6), nI c), z2, key, rfl, r2, rfl, (nx + 5) % 6, rfl, by omega, ?_, v5, fun j hj => ?_⟩
  · show (nx + 5) % 6 ≤ rs.length
    rcases Nat.lt_or_ge ((nx + 5 - 0) % 6) rs.length with q | q
    · have : (nx + 5 - 0) % 6 = (nx + 5) % 6 := rfl
      omega
    · rw [List.getElem?_eq_none q] at t1; cases t1
  · obtain ⟨σ, s1, s2⟩ := v6 (j + 1) (by omega)
    refine ⟨σ, ?_, s2⟩
    show rs[((nx + 5) % 6 + 5 - j) % 6]? = _
    rw [show ((nx + 5) % 6 + 5 - j) % 6 = (nx + 5 - (j + 1)) % 6 by omega]
    exact s1
end SAVE
