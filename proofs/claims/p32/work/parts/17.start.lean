/-! ===== the law from its entry ===== -/
theorem nwF_in : ∀ q ∈ nwF, Cond.fieldLinkNest q.1 q.2.1 q.2.2.1 q.2.2.2.1 q.2.2.2.2.1 q.2.2.2.2.2 ∈ lw_tbl := (List.forall_mem_cons.mpr ⟨List.mem_of_getElem? (i := 42) (by decide +kernel), (List.forall_mem_cons.mpr ⟨List.mem_of_getElem? (i := 61) (by decide +kernel), (List.forall_mem_cons.mpr ⟨List.mem_of_getElem? (i := 63) (by decide +kernel), (List.forall_mem_cons.mpr ⟨List.mem_of_getElem? (i := 64) (by decide +kernel), (List.forall_mem_cons.mpr ⟨List.mem_of_getElem? (i := 66) (by decide +kernel), (List.forall_mem_cons.mpr ⟨List.mem_of_getElem? (i := 68) (by decide +kernel), (List.forall_mem_cons.mpr ⟨List.mem_of_getElem? (i := 70) (by decide +kernel), (List.forall_mem_cons.mpr ⟨List.mem_of_getElem? (i := 72) (by decide +kernel), (List.forall_mem_cons.mpr ⟨List.mem_of_getElem? (i := 74) (by decide +kernel), (List.forall_mem_cons.mpr ⟨List.mem_of_getElem? (i := 75) (by decide +kernel), (List.forall_mem_cons.mpr ⟨List.mem_of_getElem? (i := 77) (by decide +kernel), (List.forall_mem_cons.mpr ⟨List.mem_of_getElem? (i := 79) (by decide +kernel), (List.forall_mem_cons.mpr ⟨List.mem_of_getElem? (i := 81) (by decide +kernel), (List.forall_mem_cons.mpr ⟨List.mem_of_getElem? (i := 119) (by decide +kernel), (List.forall_mem_cons.mpr ⟨List.mem_of_getElem? (i := 137) (by decide +kernel), (fun _ h => absurd h List.not_mem_nil)⟩)⟩)⟩)⟩)⟩)⟩)⟩)⟩)⟩)⟩)⟩)⟩)⟩)⟩)⟩)
theorem nwM_in : ∀ q ∈ nwM, Cond.methodLinkNest q.1 q.2.1 q.2.2.1 q.2.2.2 ∈ lw_tbl := (List.forall_mem_cons.mpr ⟨List.mem_of_getElem? (i := 35) (by decide +kernel), (List.forall_mem_cons.mpr ⟨List.mem_of_getElem? (i := 54) (by decide +kernel), (List.forall_mem_cons.mpr ⟨List.mem_of_getElem? (i := 110) (by decide +kernel), (List.forall_mem_cons.mpr ⟨List.mem_of_getElem? (i := 129) (by decide +kernel), (List.forall_mem_cons.mpr ⟨List.mem_of_getElem? (i := 194) (by decide +kernel), (List.forall_mem_cons.mpr ⟨List.mem_of_getElem? (i := 227) (by decide +kernel), (List.forall_mem_cons.mpr ⟨List.mem_of_getElem? (i := 259) (by decide +kernel), (List.forall_mem_cons.mpr ⟨List.mem_of_getElem? (i := 395) (by decide +kernel), (List.forall_mem_cons.mpr ⟨List.mem_of_getElem? (i := 411) (by decide +kernel), (List.forall_mem_cons.mpr ⟨List.mem_of_getElem? (i := 416) (by decide +kernel), (fun _ h => absurd h List.not_mem_nil)⟩)⟩)⟩)⟩)⟩)⟩)⟩)⟩)⟩)⟩)
theorem arr_in : Cond.arrayOver (.object RX2) ∈ lw_tbl := List.mem_of_getElem? (i := 115) (by decide +kernel)
theorem arr_in_char : Cond.arrayClass .char ∈ lw_tbl := List.mem_of_getElem? (i := 50) (by decide +kernel)
theorem arr_in_int : Cond.arrayClass .int ∈ lw_tbl := List.mem_of_getElem? (i := 107) (by decide +kernel)
theorem arr_in_long : Cond.arrayClass .long ∈ lw_tbl := List.mem_of_getElem? (i := 51) (by decide +kernel)
theorem inst_in_0 : Cond.instantiable RX0 5 ∈ lw_tbl := List.mem_of_getElem? (i := 128) (by decide +kernel)
theorem inst_in_1 : Cond.instantiable RX1 3 ∈ lw_tbl := List.mem_of_getElem? (i := 109) (by decide +kernel)
theorem inst_in_2 : Cond.instantiable RX2 12 ∈ lw_tbl := List.mem_of_getElem? (i := 53) (by decide +kernel)
theorem inst_in_3 : Cond.instantiable RX3 3 ∈ lw_tbl := List.mem_of_getElem? (i := 34) (by decide +kernel)
theorem inst_in_5 : Cond.instantiable RX5 5 ∈ lw_tbl := List.mem_of_getElem? (i := 26) (by decide +kernel)
theorem tyArr {s : State} {args : Array Value} {ty : FieldType} (hty : ty = .char ∨ ty = .int ∨ ty = .long) (h : (Cond.arrayClass ty).before args s = true) : ∃ cA : ClassId, ArrOfT s cA ty ∧ va_RA s cA ty := by
  obtain ⟨cA, kA, comp, h1, h2, h3⟩ := Cond.arrayClass_spec h
  refine ⟨cA, fun n z => ⟨(fun k h => by cases h), kA, h2, comp, h3⟩, ?_⟩
  rcases hty with rfl | rfl | rfl <;> exact h1
theorem tyObj {s : State} {args : Array Value} (h : (Cond.arrayOver (.object RX2)).before args s = true) : ∃ cA : ClassId, ArrOfT s cA (.object RX2) ∧ va_RA s cA (.object RX2) := by
  obtain ⟨comp, c, k, h1, h2, h3, h4, h5⟩ := Cond.arrayOver_spec h
  exact ⟨c, fun n z => ⟨(fun k h => by cases h), k, h3, comp, h4⟩, k, comp, h3, h4, h1, h5⟩
theorem k_L_law_0 : Cond.classLink RL 20 RX5 ∈ wsL_law := List.mem_of_getElem? (i := 0) rfl
theorem k_L_law_1 : Cond.instantiable RX5 5 ∈ wsL_law := List.mem_of_getElem? (i := 1) rfl
theorem k_L_law_2 : Cond.initialized RX5 ∈ wsL_law := List.mem_of_getElem? (i := 2) rfl
theorem k_L_law_4 : Cond.methodLink RL 119 yX5_init ∈ wsL_law := List.mem_of_getElem? (i := 4) rfl
theorem k_L_law_5 : Cond.instanceMethod yX5_init ∈ wsL_law := List.mem_of_getElem? (i := 5) rfl
set_option maxHeartbeats 8000000 in
set_option maxRecDepth 100000 in
theorem whole_start0 (ht : ∀ (xs : Nat → Int32) (L : Nat), L ≤ 260 → f_L_law xs L = some 1) {p : Program} {e : Env} {s : State} {m : MethodId} {below : List Frame} {meth : Method} {c : Code} (l : Launch) (hflags : l.flags = flags0) {b L : Nat} {xs : Nat → Int32} (hL : L ≤ 260) (C0 : lw_At p s m meth c b L xs) : W p l e room_1 s m #[Value.ref b] below meth c s.heap [] 0 0 (lw_Z below #[Value.ref b] s) (entryFrame m ([Value.ref b] : List Value).toArray 7) := by
  obtain ⟨hx, hb, hr, hml, hown, hts, hX, hbl, hlocks, hgv⟩ := id C0
  have hbA : ¬ (fun q : Nat => s.heap.size ≤ q) b := Nat.not_le.mpr hbl
  obtain ⟨c0, iS0, hKn0⟩ := u_known (C := RX0) (T := TX0) (N := 5) (n := 5) hts inX0 (hts _ inst_in_0)
  obtain ⟨c1, iS1, hKn1⟩ := u_known (C := RX1) (T := TX1) (N := 3) (n := 3) hts inX1 (hts _ inst_in_1)
  obtain ⟨c2, iS2, hKn2⟩ := u_known (C := RX2) (T := TX2) (N := 12) (n := 12) hts inX2 (hts _ inst_in_2)
  obtain ⟨c3, iS3, hKn3⟩ := u_known (C := RX3) (T := TX3) (N := 3) (n := 3) hts inX3 (hts _ inst_in_3)
  obtain ⟨c4, iS4, hKn4⟩ := u_known (C := RX5) (T := TX5) (N := 5) (n := 5) hts inX5 (hts _ inst_in_5)
  obtain ⟨cC, hC1, hC2⟩ := tyArr (Or.inl rfl) (hts _ arr_in_char)
  obtain ⟨cI, hI1, hI2⟩ := tyArr (Or.inr (Or.inl rfl)) (hts _ arr_in_int)
  obtain ⟨cJ, hJ1, hJ2⟩ := tyArr (Or.inr (Or.inr rfl)) (hts _ arr_in_long)
  obtain ⟨cO, hO1, hO2⟩ := tyObj (hts _ arr_in)
  obtain ⟨g, hK⟩ : ∃ g : Gv, va_K g.1 vwCl (tyG g) s := by
    refine ⟨((fun k => if k = 0 then c0 else if k = 1 then c1 else if k = 2 then c2 else if k = 3 then c3 else c4, fun k => if k = 0 then iS0 else if k = 1 then iS1 else if k = 2 then iS2 else if k = 3 then iS3 else iS4), (cC, cI, cJ, cO)), ?_, ?_⟩
    · intro k q hq
      match k, hq with
      | 0, hq => cases hq; exact hKn0
      | 1, hq => cases hq; exact hKn1
      | 2, hq => cases hq; exact hKn2
      | 3, hq => cases hq; exact hKn3
      | 4, hq => cases hq; exact hKn4
      | k + 5, hq => simp [vwCl] at hq
    · intro k q hq
      match k, hq with
      | 0, hq => cases hq; exact ⟨hC1, hC2⟩
      | 1, hq => cases hq; exact ⟨hI1, hI2⟩
      | 2, hq => cases hq; exact ⟨hJ1, hJ2⟩
      | 3, hq => cases hq; exact ⟨hO1, hO2⟩
      | k + 4, hq => simp [tyG] at hq
  have hNW : NW s := ⟨fun q hq => va_Nw.of rfl (hts _ (nwF_in q hq)), fun q hq => va_Nw.of rfl (hts _ (nwM_in q hq)), va_AO.of (hts _ arr_in)⟩
  have C : Cx p s m #[Value.ref b] c g 7 (fun q : Nat => s.heap.size ≤ q) cL_law wsL_law RL := ⟨⟨hx, hb, hml, hown, fun w h => hts w (wsL_law_in w h)⟩, hK, fun _ h => h, hNW⟩
  have hret : ∀ (X pl : va_W) (lv : List (Nat × Value)) (k n pc : Nat), decode cL_law pc = .ok (.ireturn, 1) → k ≤ 600000 → n ≤ 7302250 → V p l e rm_L_law s m #[Value.ref b] below meth c g 7 (fun q : Nat => s.heap.size ≤ q) k n (lw_Z below #[Value.ref b] s) X pl lv pc [.int 1] := by
    intro X pl lv k n pc hdg hk hn H locs ls hP hD hS hl
    refine va_forget (fun q hq => hS.2.2 q hq) ?_
    refine W.widen hk hn ?_
    exact lw_ret hx hb hr hlocks hdg
  have h := ht xs L hL
  unfold f_L_law at h
  have key : V p l e rm_L_law s m #[Value.ref b] below meth c g 7 (fun q : Nat => s.heap.size ≤ q) 0 0 (lw_Z below #[Value.ref b] s) [] [] [(0, .ref b)] 0 [] := by
    refine v_new (pc' := 3) C (T := TX5) (ci := 4) [.null, .null, .null, .null, .null] inlX5 tyX5 tyX5_ok k_L_law_0 k_L_law_1 k_L_law_2 rfl (fun j hj => match j, hj with | 0, _ => rfl | 1, _ => rfl | 2, _ => rfl | 3, _ => rfl | 4, _ => rfl | j + 5, hj => absurd hj (by omega)) (Nat.le_of_ble_eq_true rfl) (Nat.le_of_ble_eq_true rfl) dL_law_0 rfl (fun q1 => ?_)
    refine v_dup (pc' := 4) C dL_law_3 rfl rfl ?_
    refine v_callv (pc' := 7) C (x := some ()) (kx := fun _ => some ()) (o := ()) rfl [] (fun _ (uu : A3 × RA × A2 × RA × RA) => wQ q1 uu.1 uu.2.1 uu.2.2.1 uu.2.2.2.1 uu.2.2.2.2 ++ wT g uu.1 ini_T ++ wS g uu.2.1 ini_S ++ wV g uu.2.2.1 [] ini_V ++ wS g uu.2.2.2.1 ini_S ++ wF g uu.2.2.2.2 ini_F) (fun r hr => run_I C (c_X5_init l g q1) gL_law_X5_init rfl nd_X5_init k_L_law_2 k_L_law_4 k_L_law_5 rfl ⟨Nat.le_of_ble_eq_true rfl, Nat.le_of_ble_eq_true rfl⟩ ⟨Nat.le_of_ble_eq_true rfl, Nat.le_of_ble_eq_true rfl⟩ (Nat.le_of_ble_eq_true rfl) dL_law_4 rfl) [0] [] [0, 1, 2, 3, 4, 5, 6, 7, 8, 9, 10, 11, 12, 13, 14, 15, 16, 17] rfl rfl rfl rfl (by decide) rfl (fun _ _ => rfl) (k' := 18) (n' := 369) rfl rfl rfl (fun _ u5 _ _ => ?_)
    refine v_astore_n (pc' := 8) C [1, 0] (lv' := [(0, .ref b), (1, .ref q1)]) dL_law_7 (Nat.le_of_ble_eq_true rfl) rfl rfl ?_
    refine v_new (pc' := 11) C (T := TX5) (ci := 4) [.null, .null, .null, .null, .null] inlX5 tyX5 tyX5_ok k_L_law_0 k_L_law_1 k_L_law_2 rfl (fun j hj => match j, hj with | 0, _ => rfl | 1, _ => rfl | 2, _ => rfl | 3, _ => rfl | 4, _ => rfl | j + 5, hj => absurd hj (by omega)) (Nat.le_of_ble_eq_true rfl) (Nat.le_of_ble_eq_true rfl) dL_law_8 rfl (fun q2 => ?_)
    refine v_dup (pc' := 12) C dL_law_11 rfl rfl ?_
    refine v_callv (pc' := 15) C (x := some ()) (kx := fun _ => some ()) (o := ()) rfl (wQ q1 u5.1 u5.2.1 u5.2.2.1 u5.2.2.2.1 u5.2.2.2.2 ++ wT g u5.1 ini_T ++ wS g u5.2.1 ini_S ++ wV g u5.2.2.1 [] ini_V ++ wS g u5.2.2.2.1 ini_S ++ wF g u5.2.2.2.2 ini_F) (fun _ (uu : A3 × RA × A2 × RA × RA) => wQ q1 u5.1 u5.2.1 u5.2.2.1 u5.2.2.2.1 u5.2.2.2.2 ++ wT g u5.1 ini_T ++ wS g u5.2.1 ini_S ++ wV g u5.2.2.1 [] ini_V ++ wS g u5.2.2.2.1 ini_S ++ wF g u5.2.2.2.2 ini_F ++ wQ q2 uu.1 uu.2.1 uu.2.2.1 uu.2.2.2.1 uu.2.2.2.2 ++ wT g uu.1 ini_T ++ wS g uu.2.1 ini_S ++ wV g uu.2.2.1 [] ini_V ++ wS g uu.2.2.2.1 ini_S ++ wF g uu.2.2.2.2 ini_F) (fun r hr => run_I C (c_X5_init l g q2) gL_law_X5_init rfl nd_X5_init k_L_law_2 k_L_law_4 k_L_law_5 rfl ⟨Nat.le_of_ble_eq_true rfl, Nat.le_of_ble_eq_true rfl⟩ ⟨Nat.le_of_ble_eq_true rfl, Nat.le_of_ble_eq_true rfl⟩ (Nat.le_of_ble_eq_true rfl) dL_law_12 rfl) [18] [0, 1, 2, 3, 4, 5, 6, 7, 8, 9, 10, 11, 12, 13, 14, 15, 16, 17] [0, 1, 2, 3, 4, 5, 6, 7, 8, 9, 10, 11, 12, 13, 14, 15, 16, 17, 18, 19, 20, 21, 22, 23, 24, 25, 26, 27, 28, 29, 30, 31, 32, 33, 34, 35] rfl rfl rfl rfl (by decide) rfl (fun _ _ => rfl) (k' := 36) (n' := 738) rfl rfl rfl (fun _ u6 _ _ => ?_)
    refine v_astore_n (pc' := 16) C [1, 2, 0] (lv' := [(0, .ref b), (1, .ref q1), (2, .ref q2)]) dL_law_15 (Nat.le_of_ble_eq_true rfl) rfl rfl ?_
    exact law_pre C hX hbl hbA hret q1 u5.1 u5.2.1 u5.2.2.1 u5.2.2.2.1 u5.2.2.2.2 q2 u6.1 u6.2.1 u6.2.2.1 u6.2.2.2.1 u6.2.2.2.2 ini_T ini_S ini_V ini_S ini_F ini_T ini_S ini_V ini_S ini_F h [] [] rfl rfl
  rw [lg_entry_eq]
  exact key s.heap [] _ (fun k q h => by simp at h) ⟨fun i j p q h => by simp at h, fun k q h => by simp at h⟩ va_S.rf (lv_entry ([.ref b]) (n := 7) (Nat.le_of_ble_eq_true rfl))
