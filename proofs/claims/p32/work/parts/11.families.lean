def f_X3_append (zT : Tx) (p1 : Int32) : Option (Int32 × Tx) :=
  if (T_length zT) < 0 then some ((0 : Int32), zT)
  else if (T_length zT) < (80 : Int32) then chkA 80 (T_length zT) (lett (T_signs_set zT (upd (T_signs zT) ((T_length zT)).toNatClampNeg (vp_nar .char p1))) fun zT_1 =>
  lett (T_length_set zT_1 ((T_length zT_1) + (1 : Int32))) fun zT_2 =>
  some ((1 : Int32), zT_2))
  else some ((0 : Int32), zT)
abbrev rm_X3_append : Room := { frames := 0, cells := 0, slots := 0, locals := 0 }
theorem in_X3_append_3 : ∀ w ∈ wsX30, w ∈ wsX3_append := fun _ h => List.mem_cons_of_mem _ (List.mem_append_right _ h)
theorem k_X3_append_1 : Cond.fieldLink RX3 19 "DodgingHangman$Text" "length" "I" ∈ wsX3_append := List.mem_of_getElem? (i := 1) rfl
theorem k_X3_append_2 : Cond.fieldLink RX3 9 "DodgingHangman$Text" "signs" "[C" ∈ wsX3_append := List.mem_of_getElem? (i := 2) rfl
theorem nd_X3_append : yX3_append.cls ≠ "java/lang/invoke/MethodHandle" ∧ yX3_append.cls ≠ "java/lang/invoke/VarHandle" ∧ (parseMethodDescriptor yX3_append.desc).map (fun d => d.parameters.length) = some 1 := by decide +kernel
set_option maxHeartbeats 4000000 in
set_option maxRecDepth 100000 in
theorem c_X3_append (l : Launch) (g : Gv) (aT : A3) (zT : Tx) (p1 : Int32) (o : Int32 × Tx) (h : f_X3_append zT p1 = some o) : Ct l g yX3_append wsX3_append rm_X3_append [.ref aT.1, .int p1] (wT g aT zT) (Qi g o.1 (fun _ : Unit => wT g aT o.2) (fun _ => True)) := by
  refine enter (ret := (some .boolean)) (X := wT g aT zT) (pl := []) pn_X3 rfl (Nat.le_of_ble_eq_true rfl) ((List.append_nil _).symm) ?_
  intro p e s m args below meth c A Q C Cr hin hQ
  unfold f_X3_append at h
  refine v_aload_n (pc' := 1) C 0 dX3_append_0 rfl rfl ?_
  refine g_T_length (pc' := 4) C 0 in_X3_append_3 rfl k_X3_append_1 rfl dX3_append_1 rfl ?_
  refine v_if_lt C 16 7 h dX3_append_4 (by decide) rfl (fun _ h => ?_) (fun _ h => ?_)
  · refine v_iconst (pc' := 17) C (0) dX3_append_16 ic_0 rfl ?_
    exact v_zret (rf := fun (o9 : Int32 × Tx) => o9.1) (Wf := fun (o9 : Int32 × Tx) (u9 : Unit) => wT g aT o9.2) (ok := fun (o9 : Int32 × Tx) (u9 : Unit) => True) C Cr h hQ () trivial rfl rfl (Or.inl rfl) dX3_append_17
  · refine v_aload_n (pc' := 8) C 0 dX3_append_7 rfl rfl ?_
    refine g_T_length (pc' := 11) C 0 in_X3_append_3 rfl k_X3_append_1 rfl dX3_append_8 rfl ?_
    refine v_bipush (pc' := 13) C (80) dX3_append_11 bc_80 rfl ?_
    refine v_icmp_lt C 18 16 h dX3_append_13 (by decide) rfl (fun _ h => ?_) (fun _ h => ?_)
    · refine v_aload_n (pc' := 19) C 0 dX3_append_18 rfl rfl ?_
      refine g_T_signs (pc' := 22) C 0 in_X3_append_3 rfl k_X3_append_2 rfl dX3_append_19 rfl ?_
      refine v_aload_n (pc' := 23) C 0 dX3_append_22 rfl rfl ?_
      refine g_T_length (pc' := 26) C 0 in_X3_append_3 rfl k_X3_append_1 rfl dX3_append_23 rfl ?_
      refine v_iload_n (pc' := 27) C 1 dX3_append_26 rfl rfl ?_
      refine v_cast (pc' := 28) C h 1 (fun z9 => wT g aT z9) rfl rfl dX3_append_27 rfl (fun zT_1 h => ?_)
      refine v_aload_n (pc' := 29) C 0 dX3_append_28 rfl rfl ?_
      refine v_dup (pc' := 30) C dX3_append_29 rfl rfl ?_
      refine g_T_length (pc' := 33) C 0 in_X3_append_3 rfl k_X3_append_1 rfl dX3_append_30 rfl ?_
      refine v_iconst (pc' := 34) C (1) dX3_append_33 ic_1 rfl ?_
      refine v_iadd (pc' := 35) C dX3_append_34 rfl ?_
      refine p_T_length (pc' := 38) C h 0 (fun z9 => wT g aT z9) in_X3_append_3 rfl k_X3_append_1 rfl dX3_append_35 (Nat.le_of_ble_eq_true rfl) rfl (fun zT_2 h => ?_)
      refine v_iconst (pc' := 39) C (1) dX3_append_38 ic_1 rfl ?_
      exact v_zret (rf := fun (o9 : Int32 × Tx) => o9.1) (Wf := fun (o9 : Int32 × Tx) (u9 : Unit) => wT g aT o9.2) (ok := fun (o9 : Int32 × Tx) (u9 : Unit) => True) C Cr h hQ () trivial rfl rfl (Or.inr rfl) dX3_append_39
    · refine v_iconst (pc' := 17) C (0) dX3_append_16 ic_0 rfl ?_
      exact v_zret (rf := fun (o9 : Int32 × Tx) => o9.1) (Wf := fun (o9 : Int32 × Tx) (u9 : Unit) => wT g aT o9.2) (ok := fun (o9 : Int32 × Tx) (u9 : Unit) => True) C Cr h hQ () trivial rfl rfl (Or.inl rfl) dX3_append_17
def f_X3_empty (zT : Tx)  : Option (Tx) :=
  lett (T_length_set zT (0 : Int32)) fun zT_1 =>
  some zT_1
abbrev rm_X3_empty : Room := { frames := 0, cells := 0, slots := 0, locals := 0 }
theorem in_X3_empty_3 : ∀ w ∈ wsX30, w ∈ wsX3_empty := fun _ h => List.mem_cons_of_mem _ (List.mem_append_right _ h)
theorem k_X3_empty_1 : Cond.fieldLink RX3 19 "DodgingHangman$Text" "length" "I" ∈ wsX3_empty := List.mem_of_getElem? (i := 1) rfl
theorem nd_X3_empty : yX3_empty.cls ≠ "java/lang/invoke/MethodHandle" ∧ yX3_empty.cls ≠ "java/lang/invoke/VarHandle" ∧ (parseMethodDescriptor yX3_empty.desc).map (fun d => d.parameters.length) = some 0 := by decide +kernel
set_option maxHeartbeats 4000000 in
set_option maxRecDepth 100000 in
theorem c_X3_empty (l : Launch) (g : Gv) (aT : A3) (zT : Tx)  (o : Tx) (h : f_X3_empty zT  = some o) : Ct l g yX3_empty wsX3_empty rm_X3_empty [.ref aT.1] (wT g aT zT) (Qv g (fun _ : Unit => wT g aT o) (fun _ => True)) := by
  refine enter (ret := none) (X := wT g aT zT) (pl := []) pn_X3 rfl (Nat.le_of_ble_eq_true rfl) ((List.append_nil _).symm) ?_
  intro p e s m args below meth c A Q C Cr hin hQ
  unfold f_X3_empty at h
  refine v_aload_n (pc' := 1) C 0 dX3_empty_0 rfl rfl ?_
  refine v_iconst (pc' := 2) C (0) dX3_empty_1 ic_0 rfl ?_
  refine p_T_length (pc' := 5) C h 0 (fun z9 => wT g aT z9) in_X3_empty_3 rfl k_X3_empty_1 rfl dX3_empty_2 (Nat.le_of_ble_eq_true rfl) rfl (fun zT_1 h => ?_)
  exact v_vret (Wf := fun (o9 : Tx) (u9 : Unit) => wT g aT o9) (ok := fun (o9 : Tx) (u9 : Unit) => True) C Cr h hQ () trivial rfl dX3_empty_5
def f_X3_signAt (zT : Tx) (p1 : Int32) : Option (Int32) :=
  if p1 < 0 then some (0 : Int32)
  else if p1 < (80 : Int32) then getA (T_signs zT) 80 p1 fun e_1 =>
  some e_1
  else some (0 : Int32)
abbrev rm_X3_signAt : Room := { frames := 0, cells := 0, slots := 0, locals := 0 }
theorem in_X3_signAt_3 : ∀ w ∈ wsX30, w ∈ wsX3_signAt := fun _ h => List.mem_cons_of_mem _ (List.mem_append_right _ h)
theorem k_X3_signAt_1 : Cond.fieldLink RX3 9 "DodgingHangman$Text" "signs" "[C" ∈ wsX3_signAt := List.mem_of_getElem? (i := 1) rfl
theorem nd_X3_signAt : yX3_signAt.cls ≠ "java/lang/invoke/MethodHandle" ∧ yX3_signAt.cls ≠ "java/lang/invoke/VarHandle" ∧ (parseMethodDescriptor yX3_signAt.desc).map (fun d => d.parameters.length) = some 1 := by decide +kernel
set_option maxHeartbeats 4000000 in
set_option maxRecDepth 100000 in
theorem c_X3_signAt (l : Launch) (g : Gv) (aT : A3) (zT : Tx) (p1 : Int32) (o : Int32) (h : f_X3_signAt zT p1 = some o) : Ct l g yX3_signAt wsX3_signAt rm_X3_signAt [.ref aT.1, .int p1] (wT g aT zT) (Qi g o (fun _ : Unit => wT g aT zT) (fun _ => True)) := by
  refine enter (ret := (some .int)) (X := wT g aT zT) (pl := []) pn_X3 rfl (Nat.le_of_ble_eq_true rfl) ((List.append_nil _).symm) ?_
  intro p e s m args below meth c A Q C Cr hin hQ
  unfold f_X3_signAt at h
  refine v_iload_n (pc' := 1) C 1 dX3_signAt_0 rfl rfl ?_
  refine v_if_lt C 19 4 h dX3_signAt_1 (by decide) rfl (fun _ h => ?_) (fun _ h => ?_)
  · refine v_iconst (pc' := 20) C (0) dX3_signAt_19 ic_0 rfl ?_
    exact v_iret (rf := fun (o9 : Int32) => o9) (Wf := fun (o9 : Int32) (u9 : Unit) => wT g aT zT) (ok := fun (o9 : Int32) (u9 : Unit) => True) C Cr h hQ () trivial rfl rfl dX3_signAt_20
  · refine v_iload_n (pc' := 5) C 1 dX3_signAt_4 rfl rfl ?_
    refine v_bipush (pc' := 7) C (80) dX3_signAt_5 bc_80 rfl ?_
    refine v_icmp_ge C 19 10 h dX3_signAt_7 (by decide) rfl (fun _ h => ?_) (fun _ h => ?_)
    · refine v_iconst (pc' := 20) C (0) dX3_signAt_19 ic_0 rfl ?_
      exact v_iret (rf := fun (o9 : Int32) => o9) (Wf := fun (o9 : Int32) (u9 : Unit) => wT g aT zT) (ok := fun (o9 : Int32) (u9 : Unit) => True) C Cr h hQ () trivial rfl rfl dX3_signAt_20
    · refine v_aload_n (pc' := 11) C 0 dX3_signAt_10 rfl rfl ?_
      refine g_T_signs (pc' := 14) C 0 in_X3_signAt_3 rfl k_X3_signAt_1 rfl dX3_signAt_11 rfl ?_
      refine v_iload_n (pc' := 15) C 1 dX3_signAt_14 rfl rfl ?_
      refine v_cald (pc' := 16) C h 1 rfl dX3_signAt_15 rfl (fun e_1 h => ?_)
      refine v_goto C (pc' := 20) dX3_signAt_16 (by decide) ?_
      exact v_iret (rf := fun (o9 : Int32) => o9) (Wf := fun (o9 : Int32) (u9 : Unit) => wT g aT zT) (ok := fun (o9 : Int32) (u9 : Unit) => True) C Cr h hQ () trivial rfl rfl dX3_signAt_20
def f_X3_firstError_J61 (zT : Tx) (v1_3 : Int32) : Option (Int32) :=
  if v1_3 < (2 : Int32) then some (T_length zT)
  else some (-6 : Int32)
def f_X3_firstError_J34 (re4 : Int32 → Int32 → Option (Int32)) (v1_5 : Int32) (v2_6 : Int32) (v3_7 : Int32) : Option (Int32) :=
  Option.bind (f_X5_isLetter v3_7) fun r_8 =>
  if r_8 = 0 then some v2_6
  else if v1_5 < (8 : Int32) then lett (v1_5 + (1 : Int32)) fun v1_9 =>
  lett (v2_6 + (1 : Int32)) fun v2_10 =>
  re4 v1_9 v2_10
  else some v2_6
def f_X3_firstError_L4 (zT : Tx) (re4 : Int32 → Int32 → Option (Int32)) (v1_1 : Int32) (v2_2 : Int32) : Option (Int32) :=
  if v2_2 < (T_length zT) then Option.bind (f_X3_signAt zT v2_2) fun r_4 =>
  if r_4 = (44 : Int32) then if v1_1 < (2 : Int32) then f_X3_firstError_J34 re4 v1_1 v2_2 r_4
  else lett (v2_2 + (1 : Int32)) fun v2_11 =>
  re4 (0 : Int32) v2_11
  else f_X3_firstError_J34 re4 v1_1 v2_2 r_4
  else f_X3_firstError_J61 zT v1_1
def f_X3_firstError (zT : Tx)  : Option (Int32) :=
  loop2 (f_X3_firstError_L4 zT) FU (0 : Int32) (0 : Int32)
abbrev rm_X3_firstError : Room := { frames := 1, cells := 0, slots := 0, locals := 21 }
theorem in_X3_firstError_3 : ∀ w ∈ wsX30, w ∈ wsX3_firstError := fun _ h => List.mem_cons_of_mem _ (List.mem_append_right _ h)
theorem k_X3_firstError_1 : Cond.fieldLink RX3 19 "DodgingHangman$Text" "length" "I" ∈ wsX3_firstError := List.mem_of_getElem? (i := 1) rfl
theorem k_X3_firstError_9 : Cond.initialized RX5 ∈ wsX3_firstError := List.mem_of_getElem? (i := 9) rfl
theorem k_X3_firstError_8 : Cond.static yX5_isLetter ∈ wsX3_firstError := List.mem_of_getElem? (i := 8) rfl
theorem nd_X3_firstError : yX3_firstError.cls ≠ "java/lang/invoke/MethodHandle" ∧ yX3_firstError.cls ≠ "java/lang/invoke/VarHandle" ∧ (parseMethodDescriptor yX3_firstError.desc).map (fun d => d.parameters.length) = some 0 := by decide +kernel
set_option maxHeartbeats 4000000 in
set_option maxRecDepth 100000 in
theorem c_X3_firstError (l : Launch) (g : Gv) (aT : A3) (zT : Tx)  (o : Int32) (h : f_X3_firstError zT  = some o) : Ct l g yX3_firstError wsX3_firstError rm_X3_firstError [.ref aT.1] (wT g aT zT) (Qi g o (fun _ : Unit => wT g aT zT) (fun _ => True)) := by
  refine enter (ret := (some .int)) (X := wT g aT zT) (pl := []) pn_X3 rfl (Nat.le_of_ble_eq_true rfl) ((List.append_nil _).symm) ?_
  intro p e s m args below meth c A Q C Cr hin hQ
  unfold f_X3_firstError at h
  have J61 : ∀ (v1_3 : Int32), f_X3_firstError_J61 zT v1_3 = some o → V p l e rm_X3_firstError s m args below meth c g 4 A 0 0 Q (wT g aT zT) [] [(0, .ref aT.1), (1, .int v1_3)] 61 [] := by
    intro v1_3 h
    unfold f_X3_firstError_J61 at h
    refine v_iload_n (pc' := 62) C 1 dX3_firstError_61 rfl rfl ?_
    refine v_iconst (pc' := 63) C (2) dX3_firstError_62 ic_2 rfl ?_
    refine v_icmp_ge C 73 66 h dX3_firstError_63 (by decide) rfl (fun _ h => ?_) (fun _ h => ?_)
    · refine v_bipush (pc' := 75) C (-6) dX3_firstError_73 bc_m6 rfl ?_
      exact v_iret (rf := fun (o9 : Int32) => o9) (Wf := fun (o9 : Int32) (u9 : Unit) => wT g aT zT) (ok := fun (o9 : Int32) (u9 : Unit) => True) C Cr h hQ () trivial rfl rfl dX3_firstError_75
    · refine v_aload_n (pc' := 67) C 0 dX3_firstError_66 rfl rfl ?_
      refine g_T_length (pc' := 70) C 0 in_X3_firstError_3 rfl k_X3_firstError_1 rfl dX3_firstError_67 rfl ?_
      refine v_goto C (pc' := 75) dX3_firstError_70 (by decide) ?_
      exact v_iret (rf := fun (o9 : Int32) => o9) (Wf := fun (o9 : Int32) (u9 : Unit) => wT g aT zT) (ok := fun (o9 : Int32) (u9 : Unit) => True) C Cr h hQ () trivial rfl rfl dX3_firstError_75
  refine v_iconst (pc' := 1) C (0) dX3_firstError_0 ic_0 rfl ?_
  refine v_istore_n (pc' := 2) C [1, 0] (lv' := [(0, .ref aT.1), (1, .int (0 : Int32))]) dX3_firstError_1 (Nat.le_of_ble_eq_true rfl) rfl rfl ?_
  refine v_iconst (pc' := 3) C (0) dX3_firstError_2 ic_0 rfl ?_
  refine v_istore_n (pc' := 4) C [1, 2, 0] (lv' := [(0, .ref aT.1), (1, .int (0 : Int32)), (2, .int (0 : Int32))]) dX3_firstError_3 (Nat.le_of_ble_eq_true rfl) rfl rfl ?_
  refine v_loop2 (fun (v1_1 : Int32) (v2_2 : Int32) => V p l e rm_X3_firstError s m args below meth c g 4 A 0 0 Q (wT g aT zT) [] [(0, .ref aT.1), (1, .int v1_1), (2, .int v2_2)] 4 []) (fun re4 ih4 v1_1 v2_2 h => ?_) (0 : Int32) (0 : Int32) h
  unfold f_X3_firstError_L4 at h
  have J34 : ∀ (v1_5 : Int32) (v2_6 : Int32) (v3_7 : Int32), f_X3_firstError_J34 re4 v1_5 v2_6 v3_7 = some o → V p l e rm_X3_firstError s m args below meth c g 4 A 0 0 Q (wT g aT zT) [] [(0, .ref aT.1), (1, .int v1_5), (2, .int v2_6), (3, .int v3_7)] 34 [] := by
    intro v1_5 v2_6 v3_7 h
    unfold f_X3_firstError_J34 at h
    refine v_iload_n (pc' := 35) C 3 dX3_firstError_34 rfl rfl ?_
    refine v_purei (pc' := 38) C h (rf := fun r9 => r9) (fun r hr => run_SN C (c_X5_isLetter l g _ r hr) gX3_firstError_X5_isLetter_n27 rfl nd_X5_isLetter (List.mem_of_getElem? (i := 4) rfl) k_X3_firstError_9 k_X3_firstError_8 ⟨Nat.le_of_ble_eq_true rfl, Nat.le_of_ble_eq_true rfl⟩ ⟨Nat.le_of_ble_eq_true rfl, Nat.le_of_ble_eq_true rfl⟩ (Nat.le_of_ble_eq_true rfl) dX3_firstError_35 rfl) rfl (fun r_8 h => ?_)
    refine v_if_eq C 53 41 h dX3_firstError_38 (by decide) rfl (fun _ h => ?_) (fun _ h => ?_)
    · refine v_iload_n (pc' := 54) C 2 dX3_firstError_53 rfl rfl ?_
      exact v_iret (rf := fun (o9 : Int32) => o9) (Wf := fun (o9 : Int32) (u9 : Unit) => wT g aT zT) (ok := fun (o9 : Int32) (u9 : Unit) => True) C Cr h hQ () trivial rfl rfl dX3_firstError_54
    · refine v_iload_n (pc' := 42) C 1 dX3_firstError_41 rfl rfl ?_
      refine v_bipush (pc' := 44) C (8) dX3_firstError_42 bc_8 rfl ?_
      refine v_icmp_ge C 53 47 h dX3_firstError_44 (by decide) rfl (fun _ h => ?_) (fun _ h => ?_)
      · refine v_iload_n (pc' := 54) C 2 dX3_firstError_53 rfl rfl ?_
        exact v_iret (rf := fun (o9 : Int32) => o9) (Wf := fun (o9 : Int32) (u9 : Unit) => wT g aT zT) (ok := fun (o9 : Int32) (u9 : Unit) => True) C Cr h hQ () trivial rfl rfl dX3_firstError_54
      · refine v_iinc (pc' := 50) C 1 [1, 0, 2, 3] (1) dX3_firstError_47 rfl ic_1 (Nat.le_of_ble_eq_true rfl) h (lw := fun v9 => [(0, .ref aT.1), (1, .int v9), (2, .int v2_6), (3, .int v3_7)]) (fun _ => rfl) rfl (fun v1_9 h => ?_)
        refine v_goto C (pc' := 55) dX3_firstError_50 (by decide) ?_
        refine v_iinc (pc' := 58) C 2 [1, 2, 0, 3] (1) dX3_firstError_55 rfl ic_1 (Nat.le_of_ble_eq_true rfl) h (lw := fun v9 => [(0, .ref aT.1), (1, .int v1_9), (2, .int v9), (3, .int v3_7)]) (fun _ => rfl) rfl (fun v2_10 h => ?_)
        refine v_goto C (pc' := 4) dX3_firstError_58 (by decide) ?_
        refine v_lv [0, 1, 2] (lv' := [(0, .ref aT.1), (1, .int v1_9), (2, .int v2_10)]) rfl ?_
        exact ih4 v1_9 v2_10 h
  refine v_iload_n (pc' := 5) C 2 dX3_firstError_4 rfl rfl ?_
  refine v_aload_n (pc' := 6) C 0 dX3_firstError_5 rfl rfl ?_
  refine g_T_length (pc' := 9) C 0 in_X3_firstError_3 rfl k_X3_firstError_1 rfl dX3_firstError_6 rfl ?_
  refine v_icmp_ge C 61 12 h dX3_firstError_9 (by decide) rfl (fun _ h => ?_) (fun _ h => ?_)
  · refine v_lv [0, 1] (lv' := [(0, .ref aT.1), (1, .int v1_1)]) rfl ?_
    exact J61 v1_1 h
  · refine v_aload_n (pc' := 13) C 0 dX3_firstError_12 rfl rfl ?_
    refine v_iload_n (pc' := 14) C 2 dX3_firstError_13 rfl rfl ?_
    refine v_calli (pc' := 17) C h (rf := fun r9 => r9) ([]) (fun r9 (u9 : Unit) => wT g aT zT) (fun r hr => run_V C (c_X3_signAt l g aT _ _ r hr) gX3_firstError_X3_signAt rfl nd_X3_signAt rfl rfl rfl rfl ⟨Nat.le_of_ble_eq_true rfl, Nat.le_of_ble_eq_true rfl⟩ ⟨Nat.le_of_ble_eq_true rfl, Nat.le_of_ble_eq_true rfl⟩ (Nat.le_of_ble_eq_true rfl) dX3_firstError_14 rfl) [0, 1, 2] [] [0, 1, 2] rfl rfl rfl rfl (by decide) rfl (fun _ _ => rfl) (k' := 0) (n' := 0) rfl rfl rfl (fun r_4 _ _ h => ?_)
    refine v_istore_n (pc' := 18) C [1, 2, 3, 0] (lv' := [(0, .ref aT.1), (1, .int v1_1), (2, .int v2_2), (3, .int r_4)]) dX3_firstError_17 (Nat.le_of_ble_eq_true rfl) rfl rfl ?_
    refine v_iload_n (pc' := 19) C 3 dX3_firstError_18 rfl rfl ?_
    refine v_bipush (pc' := 21) C (44) dX3_firstError_19 bc_44 rfl ?_
    refine v_icmp_ne C 34 24 h dX3_firstError_21 (by decide) rfl (fun _ h => ?_) (fun _ h => ?_)
    · exact J34 v1_1 v2_2 r_4 h
    · refine v_iload_n (pc' := 25) C 1 dX3_firstError_24 rfl rfl ?_
      refine v_iconst (pc' := 26) C (2) dX3_firstError_25 ic_2 rfl ?_
      refine v_icmp_lt C 34 29 h dX3_firstError_26 (by decide) rfl (fun _ h => ?_) (fun _ h => ?_)
      · exact J34 v1_1 v2_2 r_4 h
      · refine v_iconst (pc' := 30) C (0) dX3_firstError_29 ic_0 rfl ?_
        refine v_istore_n (pc' := 31) C [1, 0, 2, 3] (lv' := [(0, .ref aT.1), (1, .int (0 : Int32)), (2, .int v2_2), (3, .int r_4)]) dX3_firstError_30 (Nat.le_of_ble_eq_true rfl) rfl rfl ?_
        refine v_goto C (pc' := 55) dX3_firstError_31 (by decide) ?_
        refine v_iinc (pc' := 58) C 2 [1, 2, 0, 3] (1) dX3_firstError_55 rfl ic_1 (Nat.le_of_ble_eq_true rfl) h (lw := fun v9 => [(0, .ref aT.1), (1, .int (0 : Int32)), (2, .int v9), (3, .int r_4)]) (fun _ => rfl) rfl (fun v2_11 h => ?_)
        refine v_goto C (pc' := 4) dX3_firstError_58 (by decide) ?_
        refine v_lv [0, 1, 2] (lv' := [(0, .ref aT.1), (1, .int (0 : Int32)), (2, .int v2_11)]) rfl ?_
        exact ih4 (0 : Int32) v2_11 h
def f_X3_keepRead (zT : Tx) (p1 : Int32) (p2 : Int64) : Option (Int32 × Tx) :=
  if p1 < 0 then some (p1, zT)
  else if p1 < (27 : Int32) then chkA 27 p1 (lett (T_wordsRead_set zT (vp_updL (T_wordsRead zT) (p1).toNatClampNeg p2)) fun zT_1 =>
  some ((p1 + (1 : Int32)), zT_1))
  else some (p1, zT)
abbrev rm_X3_keepRead : Room := { frames := 0, cells := 0, slots := 0, locals := 0 }
theorem in_X3_keepRead_3 : ∀ w ∈ wsX30, w ∈ wsX3_keepRead := fun _ h => List.mem_cons_of_mem _ (List.mem_append_right _ h)
theorem k_X3_keepRead_1 : Cond.fieldLink RX3 15 "DodgingHangman$Text" "wordsRead" "[J" ∈ wsX3_keepRead := List.mem_of_getElem? (i := 1) rfl
theorem nd_X3_keepRead : yX3_keepRead.cls ≠ "java/lang/invoke/MethodHandle" ∧ yX3_keepRead.cls ≠ "java/lang/invoke/VarHandle" ∧ (parseMethodDescriptor yX3_keepRead.desc).map (fun d => d.parameters.length) = some 2 := by decide +kernel
set_option maxHeartbeats 4000000 in
set_option maxRecDepth 100000 in
theorem c_X3_keepRead (l : Launch) (g : Gv) (aT : A3) (zT : Tx) (p1 : Int32) (p2 : Int64) (o : Int32 × Tx) (h : f_X3_keepRead zT p1 p2 = some o) : Ct l g yX3_keepRead wsX3_keepRead rm_X3_keepRead [.ref aT.1, .int p1, .long p2] (wT g aT zT) (Qi g o.1 (fun _ : Unit => wT g aT o.2) (fun _ => True)) := by
  refine enter (ret := (some .int)) (X := wT g aT zT) (pl := []) pn_X3 rfl (Nat.le_of_ble_eq_true rfl) ((List.append_nil _).symm) ?_
  intro p e s m args below meth c A Q C Cr hin hQ
  unfold f_X3_keepRead at h
  refine v_iload_n (pc' := 1) C 1 dX3_keepRead_0 rfl rfl ?_
  refine v_if_lt C 10 4 h dX3_keepRead_1 (by decide) rfl (fun _ h => ?_) (fun _ h => ?_)
  · refine v_iload_n (pc' := 11) C 1 dX3_keepRead_10 rfl rfl ?_
    exact v_iret (rf := fun (o9 : Int32 × Tx) => o9.1) (Wf := fun (o9 : Int32 × Tx) (u9 : Unit) => wT g aT o9.2) (ok := fun (o9 : Int32 × Tx) (u9 : Unit) => True) C Cr h hQ () trivial rfl rfl dX3_keepRead_11
  · refine v_iload_n (pc' := 5) C 1 dX3_keepRead_4 rfl rfl ?_
    refine v_bipush (pc' := 7) C (27) dX3_keepRead_5 bc_27 rfl ?_
    refine v_icmp_lt C 12 10 h dX3_keepRead_7 (by decide) rfl (fun _ h => ?_) (fun _ h => ?_)
    · refine v_aload_n (pc' := 13) C 0 dX3_keepRead_12 rfl rfl ?_
      refine g_T_wordsRead (pc' := 16) C 0 in_X3_keepRead_3 rfl k_X3_keepRead_1 rfl dX3_keepRead_13 rfl ?_
      refine v_iload_n (pc' := 17) C 1 dX3_keepRead_16 rfl rfl ?_
      refine v_lload_n (pc' := 18) C 2 dX3_keepRead_17 rfl rfl ?_
      refine v_last (pc' := 19) C h 2 (fun z9 => wT g aT z9) rfl rfl dX3_keepRead_18 rfl (fun zT_1 h => ?_)
      refine v_iload_n (pc' := 20) C 1 dX3_keepRead_19 rfl rfl ?_
      refine v_iconst (pc' := 21) C (1) dX3_keepRead_20 ic_1 rfl ?_
      refine v_iadd (pc' := 22) C dX3_keepRead_21 rfl ?_
      exact v_iret (rf := fun (o9 : Int32 × Tx) => o9.1) (Wf := fun (o9 : Int32 × Tx) (u9 : Unit) => wT g aT o9.2) (ok := fun (o9 : Int32 × Tx) (u9 : Unit) => True) C Cr h hQ () trivial rfl rfl dX3_keepRead_22
    · refine v_iload_n (pc' := 11) C 1 dX3_keepRead_10 rfl rfl ?_
      exact v_iret (rf := fun (o9 : Int32 × Tx) => o9.1) (Wf := fun (o9 : Int32 × Tx) (u9 : Unit) => wT g aT o9.2) (ok := fun (o9 : Int32 × Tx) (u9 : Unit) => True) C Cr h hQ () trivial rfl rfl dX3_keepRead_11
def f_X3_readWords_L9  (re9 : Int32 → Int32 → Int64 → Int32 → Tx → Option (Int32 × Tx)) (v1_1 : Int32) (v2_2 : Int32) (v3_3 : Int64) (v5_4 : Int32) (zT_5 : Tx) : Option (Int32 × Tx) :=
  if v5_4 < (T_length zT_5) then Option.bind (f_X3_signAt zT_5 v5_4) fun r_7 =>
  if r_7 = (44 : Int32) then Option.bind (f_X3_keepRead zT_5 v1_1 v3_3) fun r_11 =>
  lett (v5_4 + (1 : Int32)) fun v5_12 =>
  re9 r_11.1 (0 : Int32) (0 : Int64) v5_12 r_11.2
  else Option.bind (f_X4_withLetter v3_3 v2_2 r_7) fun r_8 =>
  lett (v2_2 + (1 : Int32)) fun v2_9 =>
  lett (v5_4 + (1 : Int32)) fun v5_10 =>
  re9 v1_1 v2_9 r_8 v5_10 zT_5
  else Option.bind (f_X3_keepRead zT_5 v1_1 v3_3) fun r_6 =>
  some (r_6.1, r_6.2)
def f_X3_readWords (zT : Tx)  : Option (Int32 × Tx) :=
  loop5 (f_X3_readWords_L9 ) FU (0 : Int32) (0 : Int32) (0 : Int64) (0 : Int32) zT
abbrev rm_X3_readWords : Room := { frames := 2, cells := 0, slots := 0, locals := 43 }
theorem in_X3_readWords_3 : ∀ w ∈ wsX30, w ∈ wsX3_readWords := fun _ h => List.mem_cons_of_mem _ (List.mem_append_right _ h)
theorem k_X3_readWords_1 : Cond.fieldLink RX3 19 "DodgingHangman$Text" "length" "I" ∈ wsX3_readWords := List.mem_of_getElem? (i := 1) rfl
theorem nd_X3_readWords : yX3_readWords.cls ≠ "java/lang/invoke/MethodHandle" ∧ yX3_readWords.cls ≠ "java/lang/invoke/VarHandle" ∧ (parseMethodDescriptor yX3_readWords.desc).map (fun d => d.parameters.length) = some 0 := by decide +kernel
set_option maxHeartbeats 4000000 in
set_option maxRecDepth 100000 in
theorem c_X3_readWords (l : Launch) (g : Gv) (aT : A3) (zT : Tx)  (o : Int32 × Tx) (h : f_X3_readWords zT  = some o) : Ct l g yX3_readWords wsX3_readWords rm_X3_readWords [.ref aT.1] (wT g aT zT) (Qi g o.1 (fun _ : Unit => wT g aT o.2) (fun _ => True)) := by
  refine enter (ret := (some .int)) (X := wT g aT zT) (pl := []) pn_X3 rfl (Nat.le_of_ble_eq_true rfl) ((List.append_nil _).symm) ?_
  intro p e s m args below meth c A Q C Cr hin hQ
  unfold f_X3_readWords at h
  refine v_iconst (pc' := 1) C (0) dX3_readWords_0 ic_0 rfl ?_
  refine v_istore_n (pc' := 2) C [1, 0] (lv' := [(0, .ref aT.1), (1, .int (0 : Int32))]) dX3_readWords_1 (Nat.le_of_ble_eq_true rfl) rfl rfl ?_
  refine v_iconst (pc' := 3) C (0) dX3_readWords_2 ic_0 rfl ?_
  refine v_istore_n (pc' := 4) C [1, 2, 0] (lv' := [(0, .ref aT.1), (1, .int (0 : Int32)), (2, .int (0 : Int32))]) dX3_readWords_3 (Nat.le_of_ble_eq_true rfl) rfl rfl ?_
  refine v_lconst (pc' := 5) C (0) dX3_readWords_4 lc_0 rfl ?_
  refine v_lstore_n (pc' := 6) C [1, 2, 3, 0] (lv' := [(0, .ref aT.1), (1, .int (0 : Int32)), (2, .int (0 : Int32)), (3, .long (0 : Int64))]) dX3_readWords_5 (Nat.le_of_ble_eq_true rfl) rfl rfl ?_
  refine v_iconst (pc' := 7) C (0) dX3_readWords_6 ic_0 rfl ?_
  refine v_istore (pc' := 9) C [1, 2, 3, 4, 0] (lv' := [(0, .ref aT.1), (1, .int (0 : Int32)), (2, .int (0 : Int32)), (3, .long (0 : Int64)), (5, .int (0 : Int32))]) dX3_readWords_7 (Nat.le_of_ble_eq_true rfl) rfl rfl ?_
  refine v_loop5 (fun (v1_1 : Int32) (v2_2 : Int32) (v3_3 : Int64) (v5_4 : Int32) (zT_5 : Tx) => V p l e rm_X3_readWords s m args below meth c g 7 A 0 0 Q (wT g aT zT_5) [] [(0, .ref aT.1), (1, .int v1_1), (2, .int v2_2), (3, .long v3_3), (5, .int v5_4)] 9 []) (fun re9 ih9 v1_1 v2_2 v3_3 v5_4 zT_5 h => ?_) (0 : Int32) (0 : Int32) (0 : Int64) (0 : Int32) zT h
  unfold f_X3_readWords_L9 at h
  refine v_iload (pc' := 11) C 4 dX3_readWords_9 rfl rfl ?_
  refine v_aload_n (pc' := 12) C 0 dX3_readWords_11 rfl rfl ?_
  refine g_T_length (pc' := 15) C 0 in_X3_readWords_3 rfl k_X3_readWords_1 rfl dX3_readWords_12 rfl ?_
  refine v_icmp_ge C 64 18 h dX3_readWords_15 (by decide) rfl (fun _ h => ?_) (fun _ h => ?_)
  · refine v_aload_n (pc' := 65) C 0 dX3_readWords_64 rfl rfl ?_
    refine v_iload_n (pc' := 66) C 1 dX3_readWords_65 rfl rfl ?_
    refine v_lload_n (pc' := 67) C 3 dX3_readWords_66 rfl rfl ?_
    refine v_calli (pc' := 70) C h (rf := fun r9 => r9.1) ([]) (fun r9 (u9 : Unit) => wT g aT r9.2) (fun r hr => run_V C (c_X3_keepRead l g aT _ _ _ r hr) gX3_readWords_X3_keepRead rfl nd_X3_keepRead rfl rfl rfl rfl ⟨Nat.le_of_ble_eq_true rfl, Nat.le_of_ble_eq_true rfl⟩ ⟨Nat.le_of_ble_eq_true rfl, Nat.le_of_ble_eq_true rfl⟩ (Nat.le_of_ble_eq_true rfl) dX3_readWords_67 rfl) [0, 1, 2] [] [0, 1, 2] rfl rfl rfl rfl (by decide) rfl (fun _ _ => rfl) (k' := 0) (n' := 0) rfl rfl rfl (fun r_6 _ _ h => ?_)
    exact v_iret (rf := fun (o9 : Int32 × Tx) => o9.1) (Wf := fun (o9 : Int32 × Tx) (u9 : Unit) => wT g aT o9.2) (ok := fun (o9 : Int32 × Tx) (u9 : Unit) => True) C Cr h hQ () trivial rfl rfl dX3_readWords_70
  · refine v_aload_n (pc' := 19) C 0 dX3_readWords_18 rfl rfl ?_
    refine v_iload (pc' := 21) C 4 dX3_readWords_19 rfl rfl ?_
    refine v_calli (pc' := 24) C h (rf := fun r9 => r9) ([]) (fun r9 (u9 : Unit) => wT g aT zT_5) (fun r hr => run_V C (c_X3_signAt l g aT _ _ r hr) gX3_readWords_X3_signAt rfl nd_X3_signAt rfl rfl rfl rfl ⟨Nat.le_of_ble_eq_true rfl, Nat.le_of_ble_eq_true rfl⟩ ⟨Nat.le_of_ble_eq_true rfl, Nat.le_of_ble_eq_true rfl⟩ (Nat.le_of_ble_eq_true rfl) dX3_readWords_21 rfl) [0, 1, 2] [] [0, 1, 2] rfl rfl rfl rfl (by decide) rfl (fun _ _ => rfl) (k' := 0) (n' := 0) rfl rfl rfl (fun r_7 _ _ h => ?_)
    refine v_istore (pc' := 26) C [1, 2, 3, 4, 5, 0] (lv' := [(0, .ref aT.1), (1, .int v1_1), (2, .int v2_2), (3, .long v3_3), (5, .int v5_4), (6, .int r_7)]) dX3_readWords_24 (Nat.le_of_ble_eq_true rfl) rfl rfl ?_
    refine v_iload (pc' := 28) C 5 dX3_readWords_26 rfl rfl ?_
    refine v_bipush (pc' := 30) C (44) dX3_readWords_28 bc_44 rfl ?_
    refine v_icmp_ne C 47 33 h dX3_readWords_30 (by decide) rfl (fun _ h => ?_) (fun _ h => ?_)
    · refine v_lload_n (pc' := 48) C 3 dX3_readWords_47 rfl rfl ?_
      refine v_iload_n (pc' := 49) C 2 dX3_readWords_48 rfl rfl ?_
      refine v_iload (pc' := 51) C 5 dX3_readWords_49 rfl rfl ?_
      refine v_purel (pc' := 54) C h (rf := fun r9 => r9) (fun r hr => run_S C (c_X4_withLetter l g _ _ _ r hr) gX3_readWords_X4_withLetter rfl nd_X4_withLetter ⟨Nat.le_of_ble_eq_true rfl, Nat.le_of_ble_eq_true rfl⟩ ⟨Nat.le_of_ble_eq_true rfl, Nat.le_of_ble_eq_true rfl⟩ (Nat.le_of_ble_eq_true rfl) dX3_readWords_51 rfl) rfl (fun r_8 h => ?_)
      refine v_lstore_n (pc' := 55) C [1, 2, 3, 0, 4, 5] (lv' := [(0, .ref aT.1), (1, .int v1_1), (2, .int v2_2), (3, .long r_8), (5, .int v5_4), (6, .int r_7)]) dX3_readWords_54 (Nat.le_of_ble_eq_true rfl) rfl rfl ?_
      refine v_iinc (pc' := 58) C 2 [1, 2, 0, 3, 4, 5] (1) dX3_readWords_55 rfl ic_1 (Nat.le_of_ble_eq_true rfl) h (lw := fun v9 => [(0, .ref aT.1), (1, .int v1_1), (2, .int v9), (3, .long r_8), (5, .int v5_4), (6, .int r_7)]) (fun _ => rfl) rfl (fun v2_9 h => ?_)
      refine v_iinc (pc' := 61) C 4 [1, 2, 3, 4, 0, 5] (1) dX3_readWords_58 rfl ic_1 (Nat.le_of_ble_eq_true rfl) h (lw := fun v9 => [(0, .ref aT.1), (1, .int v1_1), (2, .int v2_9), (3, .long r_8), (5, .int v9), (6, .int r_7)]) (fun _ => rfl) rfl (fun v5_10 h => ?_)
      refine v_goto C (pc' := 9) dX3_readWords_61 (by decide) ?_
      refine v_lv [0, 1, 2, 3, 4] (lv' := [(0, .ref aT.1), (1, .int v1_1), (2, .int v2_9), (3, .long r_8), (5, .int v5_10)]) rfl ?_
      exact ih9 v1_1 v2_9 r_8 v5_10 zT_5 h
    · refine v_aload_n (pc' := 34) C 0 dX3_readWords_33 rfl rfl ?_
      refine v_iload_n (pc' := 35) C 1 dX3_readWords_34 rfl rfl ?_
      refine v_lload_n (pc' := 36) C 3 dX3_readWords_35 rfl rfl ?_
      refine v_calli (pc' := 39) C h (rf := fun r9 => r9.1) ([]) (fun r9 (u9 : Unit) => wT g aT r9.2) (fun r hr => run_V C (c_X3_keepRead l g aT _ _ _ r hr) gX3_readWords_X3_keepRead rfl nd_X3_keepRead rfl rfl rfl rfl ⟨Nat.le_of_ble_eq_true rfl, Nat.le_of_ble_eq_true rfl⟩ ⟨Nat.le_of_ble_eq_true rfl, Nat.le_of_ble_eq_true rfl⟩ (Nat.le_of_ble_eq_true rfl) dX3_readWords_36 rfl) [0, 1, 2] [] [0, 1, 2] rfl rfl rfl rfl (by decide) rfl (fun _ _ => rfl) (k' := 0) (n' := 0) rfl rfl rfl (fun r_11 _ _ h => ?_)
      refine v_istore_n (pc' := 40) C [1, 0, 2, 3, 4, 5] (lv' := [(0, .ref aT.1), (1, .int r_11.1), (2, .int v2_2), (3, .long v3_3), (5, .int v5_4), (6, .int r_7)]) dX3_readWords_39 (Nat.le_of_ble_eq_true rfl) rfl rfl ?_
      refine v_iconst (pc' := 41) C (0) dX3_readWords_40 ic_0 rfl ?_
      refine v_istore_n (pc' := 42) C [1, 2, 0, 3, 4, 5] (lv' := [(0, .ref aT.1), (1, .int r_11.1), (2, .int (0 : Int32)), (3, .long v3_3), (5, .int v5_4), (6, .int r_7)]) dX3_readWords_41 (Nat.le_of_ble_eq_true rfl) rfl rfl ?_
      refine v_lconst (pc' := 43) C (0) dX3_readWords_42 lc_0 rfl ?_
      refine v_lstore_n (pc' := 44) C [1, 2, 3, 0, 4, 5] (lv' := [(0, .ref aT.1), (1, .int r_11.1), (2, .int (0 : Int32)), (3, .long (0 : Int64)), (5, .int v5_4), (6, .int r_7)]) dX3_readWords_43 (Nat.le_of_ble_eq_true rfl) rfl rfl ?_
      refine v_goto C (pc' := 58) dX3_readWords_44 (by decide) ?_
      refine v_iinc (pc' := 61) C 4 [1, 2, 3, 4, 0, 5] (1) dX3_readWords_58 rfl ic_1 (Nat.le_of_ble_eq_true rfl) h (lw := fun v9 => [(0, .ref aT.1), (1, .int r_11.1), (2, .int (0 : Int32)), (3, .long (0 : Int64)), (5, .int v9), (6, .int r_7)]) (fun _ => rfl) rfl (fun v5_12 h => ?_)
      refine v_goto C (pc' := 9) dX3_readWords_61 (by decide) ?_
      refine v_lv [0, 1, 2, 3, 4] (lv' := [(0, .ref aT.1), (1, .int r_11.1), (2, .int (0 : Int32)), (3, .long (0 : Int64)), (5, .int v5_12)]) rfl ?_
      exact ih9 r_11.1 (0 : Int32) (0 : Int64) v5_12 r_11.2 h
def f_X3_wordRead (zT : Tx) (p1 : Int32) : Option (Int64) :=
  if p1 < 0 then some (0 : Int64)
  else if p1 < (27 : Int32) then getA (T_wordsRead zT) 27 p1 fun e_1 =>
  some e_1
  else some (0 : Int64)
abbrev rm_X3_wordRead : Room := { frames := 0, cells := 0, slots := 0, locals := 0 }
theorem in_X3_wordRead_3 : ∀ w ∈ wsX30, w ∈ wsX3_wordRead := fun _ h => List.mem_cons_of_mem _ (List.mem_append_right _ h)
theorem k_X3_wordRead_1 : Cond.fieldLink RX3 15 "DodgingHangman$Text" "wordsRead" "[J" ∈ wsX3_wordRead := List.mem_of_getElem? (i := 1) rfl
theorem nd_X3_wordRead : yX3_wordRead.cls ≠ "java/lang/invoke/MethodHandle" ∧ yX3_wordRead.cls ≠ "java/lang/invoke/VarHandle" ∧ (parseMethodDescriptor yX3_wordRead.desc).map (fun d => d.parameters.length) = some 1 := by decide +kernel
set_option maxHeartbeats 4000000 in
set_option maxRecDepth 100000 in
theorem c_X3_wordRead (l : Launch) (g : Gv) (aT : A3) (zT : Tx) (p1 : Int32) (o : Int64) (h : f_X3_wordRead zT p1 = some o) : Ct l g yX3_wordRead wsX3_wordRead rm_X3_wordRead [.ref aT.1, .int p1] (wT g aT zT) (Ql g o (fun _ : Unit => wT g aT zT) (fun _ => True)) := by
  refine enter (ret := (some .long)) (X := wT g aT zT) (pl := []) pn_X3 rfl (Nat.le_of_ble_eq_true rfl) ((List.append_nil _).symm) ?_
  intro p e s m args below meth c A Q C Cr hin hQ
  unfold f_X3_wordRead at h
  refine v_iload_n (pc' := 1) C 1 dX3_wordRead_0 rfl rfl ?_
  refine v_if_lt C 19 4 h dX3_wordRead_1 (by decide) rfl (fun _ h => ?_) (fun _ h => ?_)
  · refine v_lconst (pc' := 20) C (0) dX3_wordRead_19 lc_0 rfl ?_
    exact v_lret (rf := fun (o9 : Int64) => o9) (Wf := fun (o9 : Int64) (u9 : Unit) => wT g aT zT) (ok := fun (o9 : Int64) (u9 : Unit) => True) C Cr h hQ () trivial rfl rfl dX3_wordRead_20
  · refine v_iload_n (pc' := 5) C 1 dX3_wordRead_4 rfl rfl ?_
    refine v_bipush (pc' := 7) C (27) dX3_wordRead_5 bc_27 rfl ?_
    refine v_icmp_ge C 19 10 h dX3_wordRead_7 (by decide) rfl (fun _ h => ?_) (fun _ h => ?_)
    · refine v_lconst (pc' := 20) C (0) dX3_wordRead_19 lc_0 rfl ?_
      exact v_lret (rf := fun (o9 : Int64) => o9) (Wf := fun (o9 : Int64) (u9 : Unit) => wT g aT zT) (ok := fun (o9 : Int64) (u9 : Unit) => True) C Cr h hQ () trivial rfl rfl dX3_wordRead_20
    · refine v_aload_n (pc' := 11) C 0 dX3_wordRead_10 rfl rfl ?_
      refine g_T_wordsRead (pc' := 14) C 0 in_X3_wordRead_3 rfl k_X3_wordRead_1 rfl dX3_wordRead_11 rfl ?_
      refine v_iload_n (pc' := 15) C 1 dX3_wordRead_14 rfl rfl ?_
      refine v_lald (pc' := 16) C h 2 rfl dX3_wordRead_15 rfl (fun e_1 h => ?_)
      refine v_goto C (pc' := 20) dX3_wordRead_16 (by decide) ?_
      exact v_lret (rf := fun (o9 : Int64) => o9) (Wf := fun (o9 : Int64) (u9 : Unit) => wT g aT zT) (ok := fun (o9 : Int64) (u9 : Unit) => True) C Cr h hQ () trivial rfl rfl dX3_wordRead_20
def f_X0_has (zF : Fm) (p1 : Int32) : Option (Int32) :=
  if p1 < 0 then some (0 : Int32)
  else if p1 < (F_count zF) then if p1 < (30 : Int32) then some (1 : Int32)
  else some (0 : Int32)
  else some (0 : Int32)
abbrev rm_X0_has : Room := { frames := 0, cells := 0, slots := 0, locals := 0 }
theorem in_X0_has_0 : ∀ w ∈ wsX00, w ∈ wsX0_has := fun _ h => List.mem_cons_of_mem _ (List.mem_append_right _ h)
theorem k_X0_has_1 : Cond.fieldLink RX0 21 "DodgingHangman$Families" "count" "I" ∈ wsX0_has := List.mem_of_getElem? (i := 1) rfl
theorem nd_X0_has : yX0_has.cls ≠ "java/lang/invoke/MethodHandle" ∧ yX0_has.cls ≠ "java/lang/invoke/VarHandle" ∧ (parseMethodDescriptor yX0_has.desc).map (fun d => d.parameters.length) = some 1 := by decide +kernel
set_option maxHeartbeats 4000000 in
set_option maxRecDepth 100000 in
theorem c_X0_has (l : Launch) (g : Gv) (aF : RA) (zF : Fm) (p1 : Int32) (o : Int32) (h : f_X0_has zF p1 = some o) : Ct l g yX0_has wsX0_has rm_X0_has [.ref aF.1, .int p1] (wF g aF zF) (Qi g o (fun _ : Unit => wF g aF zF) (fun _ => True)) := by
  refine enter (ret := (some .boolean)) (X := wF g aF zF) (pl := []) pn_X0 rfl (Nat.le_of_ble_eq_true rfl) ((List.append_nil _).symm) ?_
  intro p e s m args below meth c A Q C Cr hin hQ
  unfold f_X0_has at h
  refine v_iload_n (pc' := 1) C 1 dX0_has_0 rfl rfl ?_
  refine v_if_lt C 22 4 h dX0_has_1 (by decide) rfl (fun _ h => ?_) (fun _ h => ?_)
  · refine v_iconst (pc' := 23) C (0) dX0_has_22 ic_0 rfl ?_
    exact v_zret (rf := fun (o9 : Int32) => o9) (Wf := fun (o9 : Int32) (u9 : Unit) => wF g aF zF) (ok := fun (o9 : Int32) (u9 : Unit) => True) C Cr h hQ () trivial rfl rfl (Or.inl rfl) dX0_has_23
  · refine v_iload_n (pc' := 5) C 1 dX0_has_4 rfl rfl ?_
    refine v_aload_n (pc' := 6) C 0 dX0_has_5 rfl rfl ?_
    refine g_F_count (pc' := 9) C 0 in_X0_has_0 rfl k_X0_has_1 rfl dX0_has_6 rfl ?_
    refine v_icmp_ge C 22 12 h dX0_has_9 (by decide) rfl (fun _ h => ?_) (fun _ h => ?_)
    · refine v_iconst (pc' := 23) C (0) dX0_has_22 ic_0 rfl ?_
      exact v_zret (rf := fun (o9 : Int32) => o9) (Wf := fun (o9 : Int32) (u9 : Unit) => wF g aF zF) (ok := fun (o9 : Int32) (u9 : Unit) => True) C Cr h hQ () trivial rfl rfl (Or.inl rfl) dX0_has_23
    · refine v_iload_n (pc' := 13) C 1 dX0_has_12 rfl rfl ?_
      refine v_bipush (pc' := 15) C (30) dX0_has_13 bc_30 rfl ?_
      refine v_icmp_ge C 22 18 h dX0_has_15 (by decide) rfl (fun _ h => ?_) (fun _ h => ?_)
      · refine v_iconst (pc' := 23) C (0) dX0_has_22 ic_0 rfl ?_
        exact v_zret (rf := fun (o9 : Int32) => o9) (Wf := fun (o9 : Int32) (u9 : Unit) => wF g aF zF) (ok := fun (o9 : Int32) (u9 : Unit) => True) C Cr h hQ () trivial rfl rfl (Or.inl rfl) dX0_has_23
      · refine v_iconst (pc' := 19) C (1) dX0_has_18 ic_1 rfl ?_
        refine v_goto C (pc' := 23) dX0_has_19 (by decide) ?_
        exact v_zret (rf := fun (o9 : Int32) => o9) (Wf := fun (o9 : Int32) (u9 : Unit) => wF g aF zF) (ok := fun (o9 : Int32) (u9 : Unit) => True) C Cr h hQ () trivial rfl rfl (Or.inr rfl) dX0_has_23
def f_X0_maskOf (zF : Fm) (p1 : Int32) : Option (Int32) :=
  Option.bind (f_X0_has zF p1) fun r_1 =>
  if r_1 = 0 then some (0 : Int32)
  else getA (F_masks zF) 30 p1 fun e_2 =>
  some e_2
abbrev rm_X0_maskOf : Room := { frames := 1, cells := 0, slots := 0, locals := 21 }
theorem in_X0_maskOf_0 : ∀ w ∈ wsX00, w ∈ wsX0_maskOf := fun _ h => List.mem_cons_of_mem _ (List.mem_append_right _ h)
theorem k_X0_maskOf_1 : Cond.fieldLink RX0 9 "DodgingHangman$Families" "masks" "[I" ∈ wsX0_maskOf := List.mem_of_getElem? (i := 1) rfl
theorem nd_X0_maskOf : yX0_maskOf.cls ≠ "java/lang/invoke/MethodHandle" ∧ yX0_maskOf.cls ≠ "java/lang/invoke/VarHandle" ∧ (parseMethodDescriptor yX0_maskOf.desc).map (fun d => d.parameters.length) = some 1 := by decide +kernel
set_option maxHeartbeats 4000000 in
set_option maxRecDepth 100000 in
theorem c_X0_maskOf (l : Launch) (g : Gv) (aF : RA) (zF : Fm) (p1 : Int32) (o : Int32) (h : f_X0_maskOf zF p1 = some o) : Ct l g yX0_maskOf wsX0_maskOf rm_X0_maskOf [.ref aF.1, .int p1] (wF g aF zF) (Qi g o (fun _ : Unit => wF g aF zF) (fun _ => True)) := by
  refine enter (ret := (some .int)) (X := wF g aF zF) (pl := []) pn_X0 rfl (Nat.le_of_ble_eq_true rfl) ((List.append_nil _).symm) ?_
  intro p e s m args below meth c A Q C Cr hin hQ
  unfold f_X0_maskOf at h
  refine v_aload_n (pc' := 1) C 0 dX0_maskOf_0 rfl rfl ?_
  refine v_iload_n (pc' := 2) C 1 dX0_maskOf_1 rfl rfl ?_
  refine v_calli (pc' := 5) C h (rf := fun r9 => r9) ([]) (fun r9 (u9 : Unit) => wF g aF zF) (fun r hr => run_V C (c_X0_has l g aF _ _ r hr) gX0_maskOf_X0_has rfl nd_X0_has rfl rfl rfl rfl ⟨Nat.le_of_ble_eq_true rfl, Nat.le_of_ble_eq_true rfl⟩ ⟨Nat.le_of_ble_eq_true rfl, Nat.le_of_ble_eq_true rfl⟩ (Nat.le_of_ble_eq_true rfl) dX0_maskOf_2 rfl) [0, 1, 2, 3] [] [0, 1, 2, 3] rfl rfl rfl rfl (by decide) rfl (fun _ _ => rfl) (k' := 0) (n' := 0) rfl rfl rfl (fun r_1 _ _ h => ?_)
  refine v_if_eq C 17 8 h dX0_maskOf_5 (by decide) rfl (fun _ h => ?_) (fun _ h => ?_)
  · refine v_iconst (pc' := 18) C (0) dX0_maskOf_17 ic_0 rfl ?_
    exact v_iret (rf := fun (o9 : Int32) => o9) (Wf := fun (o9 : Int32) (u9 : Unit) => wF g aF zF) (ok := fun (o9 : Int32) (u9 : Unit) => True) C Cr h hQ () trivial rfl rfl dX0_maskOf_18
  · refine v_aload_n (pc' := 9) C 0 dX0_maskOf_8 rfl rfl ?_
    refine g_F_masks (pc' := 12) C 0 in_X0_maskOf_0 rfl k_X0_maskOf_1 rfl dX0_maskOf_9 rfl ?_
    refine v_iload_n (pc' := 13) C 1 dX0_maskOf_12 rfl rfl ?_
    refine v_iald (pc' := 14) C h 1 rfl dX0_maskOf_13 rfl (fun e_2 h => ?_)
    refine v_goto C (pc' := 18) dX0_maskOf_14 (by decide) ?_
    exact v_iret (rf := fun (o9 : Int32) => o9) (Wf := fun (o9 : Int32) (u9 : Unit) => wF g aF zF) (ok := fun (o9 : Int32) (u9 : Unit) => True) C Cr h hQ () trivial rfl rfl dX0_maskOf_18
def f_X0_put_J84 (p1 : Int32) (p3 : Int32) (v4_4 : Int32) (zF_5 : Fm) : Option (Fm) :=
  getA (F_members zF_5) 30 v4_4 fun e_6 =>
  chkA 30 v4_4 (lett (F_members_set zF_5 (upd (F_members zF_5) (v4_4).toNatClampNeg (e_6 ||| ((1 : Int32) <<< (p1 &&& 31))))) fun zF_7 =>
  getA (F_freshLetters zF_7) 30 v4_4 fun e_8 =>
  chkA 30 v4_4 (lett (F_freshLetters_set zF_7 (upd (F_freshLetters zF_7) (v4_4).toNatClampNeg (e_8 ||| p3))) fun zF_9 =>
  some zF_9))
def f_X0_put_J28 (p2 : Int32) (p1 : Int32) (p3 : Int32) (v4_2 : Int32) (zF_3 : Fm) : Option (Fm) :=
  if v4_2 < 0 then some zF_3
  else if v4_2 < (30 : Int32) then if v4_2 = (F_count zF_3) then chkA 30 v4_2 (lett (F_masks_set zF_3 (upd (F_masks zF_3) (v4_2).toNatClampNeg p2)) fun zF_10 =>
  chkA 30 v4_2 (lett (F_members_set zF_10 (upd (F_members zF_10) (v4_2).toNatClampNeg (0 : Int32))) fun zF_11 =>
  chkA 30 v4_2 (lett (F_freshLetters_set zF_11 (upd (F_freshLetters zF_11) (v4_2).toNatClampNeg (0 : Int32))) fun zF_12 =>
  lett (F_count_set zF_12 ((F_count zF_12) + (1 : Int32))) fun zF_13 =>
  f_X0_put_J84 p1 p3 v4_2 zF_13)))
  else f_X0_put_J84 p1 p3 v4_2 zF_3
  else some zF_3
def f_X0_put_L3 (zF : Fm) (p2 : Int32) (p1 : Int32) (p3 : Int32) (re3 : Int32 → Option (Fm)) (v4_1 : Int32) : Option (Fm) :=
  if v4_1 < (F_count zF) then Option.bind (f_X0_maskOf zF v4_1) fun r_14 =>
  if r_14 = p2 then f_X0_put_J28 p2 p1 p3 v4_1 zF
  else lett (v4_1 + (1 : Int32)) fun v4_15 =>
  re3 v4_15
  else f_X0_put_J28 p2 p1 p3 v4_1 zF
def f_X0_put (zF : Fm) (p1 : Int32) (p2 : Int32) (p3 : Int32) : Option (Fm) :=
  loop1 (f_X0_put_L3 zF p2 p1 p3) FU (0 : Int32)
abbrev rm_X0_put : Room := { frames := 2, cells := 0, slots := 0, locals := 42 }
theorem in_X0_put_0 : ∀ w ∈ wsX00, w ∈ wsX0_put := fun _ h => List.mem_cons_of_mem _ (List.mem_append_right _ h)
theorem k_X0_put_1 : Cond.fieldLink RX0 21 "DodgingHangman$Families" "count" "I" ∈ wsX0_put := List.mem_of_getElem? (i := 1) rfl
theorem k_X0_put_3 : Cond.fieldLink RX0 15 "DodgingHangman$Families" "members" "[I" ∈ wsX0_put := List.mem_of_getElem? (i := 3) rfl
theorem k_X0_put_4 : Cond.fieldLink RX0 18 "DodgingHangman$Families" "freshLetters" "[I" ∈ wsX0_put := List.mem_of_getElem? (i := 4) rfl
theorem k_X0_put_2 : Cond.fieldLink RX0 9 "DodgingHangman$Families" "masks" "[I" ∈ wsX0_put := List.mem_of_getElem? (i := 2) rfl
theorem nd_X0_put : yX0_put.cls ≠ "java/lang/invoke/MethodHandle" ∧ yX0_put.cls ≠ "java/lang/invoke/VarHandle" ∧ (parseMethodDescriptor yX0_put.desc).map (fun d => d.parameters.length) = some 3 := by decide +kernel
set_option maxHeartbeats 4000000 in
set_option maxRecDepth 100000 in
theorem c_X0_put (l : Launch) (g : Gv) (aF : RA) (zF : Fm) (p1 : Int32) (p2 : Int32) (p3 : Int32) (o : Fm) (h : f_X0_put zF p1 p2 p3 = some o) : Ct l g yX0_put wsX0_put rm_X0_put [.ref aF.1, .int p1, .int p2, .int p3] (wF g aF zF) (Qv g (fun _ : Unit => wF g aF o) (fun _ => True)) := by
  refine enter (ret := none) (X := wF g aF zF) (pl := []) pn_X0 rfl (Nat.le_of_ble_eq_true rfl) ((List.append_nil _).symm) ?_
  intro p e s m args below meth c A Q C Cr hin hQ
  unfold f_X0_put at h
  have J84 : ∀ (v4_4 : Int32) (zF_5 : Fm), f_X0_put_J84 p1 p3 v4_4 zF_5 = some o → V p l e rm_X0_put s m args below meth c g 5 A 0 0 Q (wF g aF zF_5) [] [(0, .ref aF.1), (1, .int p1), (3, .int p3), (4, .int v4_4)] 84 [] := by
    intro v4_4 zF_5 h
    unfold f_X0_put_J84 at h
    refine v_aload_n (pc' := 85) C 0 dX0_put_84 rfl rfl ?_
    refine g_F_members (pc' := 88) C 0 in_X0_put_0 rfl k_X0_put_3 rfl dX0_put_85 rfl ?_
    refine v_iload (pc' := 90) C 3 dX0_put_88 rfl rfl ?_
    refine v_dup2 (pc' := 91) C dX0_put_90 rfl rfl rfl ?_
    refine v_iald (pc' := 92) C h 2 rfl dX0_put_91 rfl (fun e_6 h => ?_)
    refine v_iconst (pc' := 93) C (1) dX0_put_92 ic_1 rfl ?_
    refine v_iload_n (pc' := 94) C 1 dX0_put_93 rfl rfl ?_
    refine v_ishl (pc' := 95) C dX0_put_94 rfl ?_
    refine v_ior (pc' := 96) C dX0_put_95 rfl ?_
    refine v_iast (pc' := 97) C h 2 (fun z9 => wF g aF z9) rfl rfl dX0_put_96 rfl (fun zF_7 h => ?_)
    refine v_aload_n (pc' := 98) C 0 dX0_put_97 rfl rfl ?_
    refine g_F_freshLetters (pc' := 101) C 0 in_X0_put_0 rfl k_X0_put_4 rfl dX0_put_98 rfl ?_
    refine v_iload (pc' := 103) C 3 dX0_put_101 rfl rfl ?_
    refine v_dup2 (pc' := 104) C dX0_put_103 rfl rfl rfl ?_
    refine v_iald (pc' := 105) C h 3 rfl dX0_put_104 rfl (fun e_8 h => ?_)
    refine v_iload_n (pc' := 106) C 2 dX0_put_105 rfl rfl ?_
    refine v_ior (pc' := 107) C dX0_put_106 rfl ?_
    refine v_iast (pc' := 108) C h 3 (fun z9 => wF g aF z9) rfl rfl dX0_put_107 rfl (fun zF_9 h => ?_)
    exact v_vret (Wf := fun (o9 : Fm) (u9 : Unit) => wF g aF o9) (ok := fun (o9 : Fm) (u9 : Unit) => True) C Cr h hQ () trivial rfl dX0_put_108
  have J28 : ∀ (v4_2 : Int32) (zF_3 : Fm), f_X0_put_J28 p2 p1 p3 v4_2 zF_3 = some o → V p l e rm_X0_put s m args below meth c g 5 A 0 0 Q (wF g aF zF_3) [] [(0, .ref aF.1), (1, .int p1), (2, .int p2), (3, .int p3), (4, .int v4_2)] 28 [] := by
    intro v4_2 zF_3 h
    unfold f_X0_put_J28 at h
    refine v_iload (pc' := 30) C 4 dX0_put_28 rfl rfl ?_
    refine v_if_lt C 40 33 h dX0_put_30 (by decide) rfl (fun _ h => ?_) (fun _ h => ?_)
    · exact v_vret (Wf := fun (o9 : Fm) (u9 : Unit) => wF g aF o9) (ok := fun (o9 : Fm) (u9 : Unit) => True) C Cr h hQ () trivial rfl dX0_put_40
    · refine v_iload (pc' := 35) C 4 dX0_put_33 rfl rfl ?_
      refine v_bipush (pc' := 37) C (30) dX0_put_35 bc_30 rfl ?_
      refine v_icmp_lt C 41 40 h dX0_put_37 (by decide) rfl (fun _ h => ?_) (fun _ h => ?_)
      · refine v_iload (pc' := 43) C 4 dX0_put_41 rfl rfl ?_
        refine v_aload_n (pc' := 44) C 0 dX0_put_43 rfl rfl ?_
        refine g_F_count (pc' := 47) C 0 in_X0_put_0 rfl k_X0_put_1 rfl dX0_put_44 rfl ?_
        refine v_icmp_ne C 84 50 h dX0_put_47 (by decide) rfl (fun _ h => ?_) (fun _ h => ?_)
        · refine v_lv [0, 1, 3, 4] (lv' := [(0, .ref aF.1), (1, .int p1), (3, .int p3), (4, .int v4_2)]) rfl ?_
          exact J84 v4_2 zF_3 h
        · refine v_aload_n (pc' := 51) C 0 dX0_put_50 rfl rfl ?_
          refine g_F_masks (pc' := 54) C 0 in_X0_put_0 rfl k_X0_put_2 rfl dX0_put_51 rfl ?_
          refine v_iload (pc' := 56) C 4 dX0_put_54 rfl rfl ?_
          refine v_iload_n (pc' := 57) C 2 dX0_put_56 rfl rfl ?_
          refine v_iast (pc' := 58) C h 1 (fun z9 => wF g aF z9) rfl rfl dX0_put_57 rfl (fun zF_10 h => ?_)
          refine v_aload_n (pc' := 59) C 0 dX0_put_58 rfl rfl ?_
          refine g_F_members (pc' := 62) C 0 in_X0_put_0 rfl k_X0_put_3 rfl dX0_put_59 rfl ?_
          refine v_iload (pc' := 64) C 4 dX0_put_62 rfl rfl ?_
          refine v_iconst (pc' := 65) C (0) dX0_put_64 ic_0 rfl ?_
          refine v_iast (pc' := 66) C h 2 (fun z9 => wF g aF z9) rfl rfl dX0_put_65 rfl (fun zF_11 h => ?_)
          refine v_aload_n (pc' := 67) C 0 dX0_put_66 rfl rfl ?_
          refine g_F_freshLetters (pc' := 70) C 0 in_X0_put_0 rfl k_X0_put_4 rfl dX0_put_67 rfl ?_
          refine v_iload (pc' := 72) C 4 dX0_put_70 rfl rfl ?_
          refine v_iconst (pc' := 73) C (0) dX0_put_72 ic_0 rfl ?_
          refine v_iast (pc' := 74) C h 3 (fun z9 => wF g aF z9) rfl rfl dX0_put_73 rfl (fun zF_12 h => ?_)
          refine v_aload_n (pc' := 75) C 0 dX0_put_74 rfl rfl ?_
          refine v_dup (pc' := 76) C dX0_put_75 rfl rfl ?_
          refine g_F_count (pc' := 79) C 0 in_X0_put_0 rfl k_X0_put_1 rfl dX0_put_76 rfl ?_
          refine v_iconst (pc' := 80) C (1) dX0_put_79 ic_1 rfl ?_
          refine v_iadd (pc' := 81) C dX0_put_80 rfl ?_
          refine p_F_count (pc' := 84) C h 0 (fun z9 => wF g aF z9) in_X0_put_0 rfl k_X0_put_1 rfl dX0_put_81 (Nat.le_of_ble_eq_true rfl) rfl (fun zF_13 h => ?_)
          refine v_lv [0, 1, 3, 4] (lv' := [(0, .ref aF.1), (1, .int p1), (3, .int p3), (4, .int v4_2)]) rfl ?_
          exact J84 v4_2 zF_13 h
      · exact v_vret (Wf := fun (o9 : Fm) (u9 : Unit) => wF g aF o9) (ok := fun (o9 : Fm) (u9 : Unit) => True) C Cr h hQ () trivial rfl dX0_put_40
  refine v_iconst (pc' := 1) C (0) dX0_put_0 ic_0 rfl ?_
  refine v_istore (pc' := 3) C [1, 2, 3, 4, 0] (lv' := [(0, .ref aF.1), (1, .int p1), (2, .int p2), (3, .int p3), (4, .int (0 : Int32))]) dX0_put_1 (Nat.le_of_ble_eq_true rfl) rfl rfl ?_
  refine v_loop1 (fun (v4_1 : Int32) => V p l e rm_X0_put s m args below meth c g 5 A 0 0 Q (wF g aF zF) [] [(0, .ref aF.1), (1, .int p1), (2, .int p2), (3, .int p3), (4, .int v4_1)] 3 []) (fun re3 ih3 v4_1 h => ?_) (0 : Int32) h
  unfold f_X0_put_L3 at h
  refine v_iload (pc' := 5) C 4 dX0_put_3 rfl rfl ?_
  refine v_aload_n (pc' := 6) C 0 dX0_put_5 rfl rfl ?_
  refine g_F_count (pc' := 9) C 0 in_X0_put_0 rfl k_X0_put_1 rfl dX0_put_6 rfl ?_
  refine v_icmp_ge C 28 12 h dX0_put_9 (by decide) rfl (fun _ h => ?_) (fun _ h => ?_)
  · exact J28 v4_1 zF h
  · refine v_aload_n (pc' := 13) C 0 dX0_put_12 rfl rfl ?_
    refine v_iload (pc' := 15) C 4 dX0_put_13 rfl rfl ?_
    refine v_calli (pc' := 18) C h (rf := fun r9 => r9) ([]) (fun r9 (u9 : Unit) => wF g aF zF) (fun r hr => run_V C (c_X0_maskOf l g aF _ _ r hr) gX0_put_X0_maskOf rfl nd_X0_maskOf rfl rfl rfl rfl ⟨Nat.le_of_ble_eq_true rfl, Nat.le_of_ble_eq_true rfl⟩ ⟨Nat.le_of_ble_eq_true rfl, Nat.le_of_ble_eq_true rfl⟩ (Nat.le_of_ble_eq_true rfl) dX0_put_15 rfl) [0, 1, 2, 3] [] [0, 1, 2, 3] rfl rfl rfl rfl (by decide) rfl (fun _ _ => rfl) (k' := 0) (n' := 0) rfl rfl rfl (fun r_14 _ _ h => ?_)
    refine v_iload_n (pc' := 19) C 2 dX0_put_18 rfl rfl ?_
    refine v_icmp_eq C 28 22 h dX0_put_19 (by decide) rfl (fun _ h => ?_) (fun _ h => ?_)
    · exact J28 v4_1 zF h
    · refine v_iinc (pc' := 25) C 4 [1, 2, 3, 4, 0] (1) dX0_put_22 rfl ic_1 (Nat.le_of_ble_eq_true rfl) h (lw := fun v9 => [(0, .ref aF.1), (1, .int p1), (2, .int p2), (3, .int p3), (4, .int v9)]) (fun _ => rfl) rfl (fun v4_15 h => ?_)
      refine v_goto C (pc' := 3) dX0_put_25 (by decide) ?_
      exact ih3 v4_15 h
def f_X0_make_L26 (zS : St) (p2 : Int32) (v3_4 : Int32) (re26 : Int32 → Fm → Option (Fm)) (v4_5 : Int32) (zF_6 : Fm) : Option (Fm) :=
  if v4_5 < (S_wordCount zS) then Option.bind (f_X2_isCandidate zS v4_5) fun r_7 =>
  if r_7 = 0 then lett (v4_5 + (1 : Int32)) fun v4_8 =>
  re26 v4_8 zF_6
  else Option.bind (f_X2_wordAt zS v4_5) fun r_9 =>
  Option.bind (f_X4_maskOf r_9 p2) fun r_10 =>
  Option.bind (f_X4_lettersOf r_9) fun r_11 =>
  Option.bind (f_X0_put zF_6 v4_5 r_10 (r_11 &&& (v3_4 ^^^ (-1 : Int32)))) fun r_12 =>
  lett (v4_5 + (1 : Int32)) fun v4_13 =>
  re26 v4_13 r_12
  else some zF_6
def f_X0_make (zF : Fm) (zS : St) (p2 : Int32) : Option (Fm) :=
  lett (F_count_set zF (0 : Int32)) fun zF_1 =>
  lett (F_policy_set zF_1 (S_policy zS)) fun zF_2 =>
  Option.bind (f_X5_bitOf p2) fun r_3 =>
  lett ((S_guessed zS) ||| r_3) fun v3_4 =>
  loop2 (f_X0_make_L26 zS p2 v3_4) FU (0 : Int32) zF_2
abbrev rm_X0_make : Room := { frames := 3, cells := 0, slots := 0, locals := 67 }
theorem in_X0_make_0 : ∀ w ∈ wsX00, w ∈ wsX0_make := fun _ h => List.mem_cons_of_mem _ (List.mem_append_left _ (List.mem_append_right _ h))
theorem in_X0_make_2 : ∀ w ∈ wsX20, w ∈ wsX0_make := fun _ h => List.mem_cons_of_mem _ (List.mem_append_right _ h)
theorem k_X0_make_1 : Cond.fieldLink RX0 21 "DodgingHangman$Families" "count" "I" ∈ wsX0_make := List.mem_of_getElem? (i := 1) rfl
theorem k_X0_make_2 : Cond.fieldLink RX0 30 "DodgingHangman$Families" "policy" "I" ∈ wsX0_make := List.mem_of_getElem? (i := 2) rfl
theorem k_X0_make_4 : Cond.initialized RX5 ∈ wsX0_make := List.mem_of_getElem? (i := 4) rfl
theorem k_X0_make_3 : Cond.static yX5_bitOf ∈ wsX0_make := List.mem_of_getElem? (i := 3) rfl
theorem nd_X0_make : yX0_make.cls ≠ "java/lang/invoke/MethodHandle" ∧ yX0_make.cls ≠ "java/lang/invoke/VarHandle" ∧ (parseMethodDescriptor yX0_make.desc).map (fun d => d.parameters.length) = some 2 := by decide +kernel
set_option maxHeartbeats 4000000 in
set_option maxRecDepth 100000 in
theorem c_X0_make (l : Launch) (g : Gv) (aF : RA) (aS : RA) (zF : Fm) (zS : St) (p2 : Int32) (o : Fm) (h : f_X0_make zF zS p2 = some o) : Ct l g yX0_make wsX0_make rm_X0_make [.ref aF.1, .ref aS.1, .int p2] (wF g aF zF ++ wS g aS zS) (Qv g (fun _ : Unit => wF g aF o ++ wS g aS zS) (fun _ => True)) := by
  refine enter (ret := none) (X := wF g aF zF ++ wS g aS zS) (pl := []) pn_X0 rfl (Nat.le_of_ble_eq_true rfl) ((List.append_nil _).symm) ?_
  intro p e s m args below meth c A Q C Cr hin hQ
  unfold f_X0_make at h
  refine v_aload_n (pc' := 1) C 0 dX0_make_0 rfl rfl ?_
  refine v_iconst (pc' := 2) C (0) dX0_make_1 ic_0 rfl ?_
  refine p_F_count (pc' := 5) C h 0 (fun z9 => wF g aF z9 ++ wS g aS zS) in_X0_make_0 rfl k_X0_make_1 rfl dX0_make_2 (Nat.le_of_ble_eq_true rfl) rfl (fun zF_1 h => ?_)
  refine v_aload_n (pc' := 6) C 0 dX0_make_5 rfl rfl ?_
  refine v_aload_n (pc' := 7) C 1 dX0_make_6 rfl rfl ?_
  refine gN_S_policy (pc' := 10) C 4 in_X0_make_2 rfl (List.mem_of_getElem? (i := 3) rfl) rfl dX0_make_7 rfl ?_
  refine p_F_policy (pc' := 13) C h 0 (fun z9 => wF g aF z9 ++ wS g aS zS) in_X0_make_0 rfl k_X0_make_2 rfl dX0_make_10 (Nat.le_of_ble_eq_true rfl) rfl (fun zF_2 h => ?_)
  refine v_aload_n (pc' := 14) C 1 dX0_make_13 rfl rfl ?_
  refine gN_S_guessed (pc' := 17) C 4 in_X0_make_2 rfl (List.mem_of_getElem? (i := 9) rfl) rfl dX0_make_14 rfl ?_
  refine v_iload_n (pc' := 18) C 2 dX0_make_17 rfl rfl ?_
  refine v_purei (pc' := 21) C h (rf := fun r9 => r9) (fun r hr => run_SN C (c_X5_bitOf l g _ r hr) gX0_make_X5_bitOf_n34 rfl nd_X5_bitOf (List.mem_of_getElem? (i := 9) rfl) k_X0_make_4 k_X0_make_3 ⟨Nat.le_of_ble_eq_true rfl, Nat.le_of_ble_eq_true rfl⟩ ⟨Nat.le_of_ble_eq_true rfl, Nat.le_of_ble_eq_true rfl⟩ (Nat.le_of_ble_eq_true rfl) dX0_make_18 rfl) rfl (fun r_3 h => ?_)
  refine v_ior (pc' := 22) C dX0_make_21 rfl ?_
  refine v_leti h (fun v3_4 h => ?_)
  refine v_istore_n (pc' := 23) C [1, 2, 3, 0] (lv' := [(0, .ref aF.1), (1, .ref aS.1), (2, .int p2), (3, .int v3_4)]) dX0_make_22 (Nat.le_of_ble_eq_true rfl) rfl rfl ?_
  refine v_iconst (pc' := 24) C (0) dX0_make_23 ic_0 rfl ?_
  refine v_istore (pc' := 26) C [1, 2, 3, 4, 0] (lv' := [(0, .ref aF.1), (1, .ref aS.1), (2, .int p2), (3, .int v3_4), (4, .int (0 : Int32))]) dX0_make_24 (Nat.le_of_ble_eq_true rfl) rfl rfl ?_
  refine v_loop2 (fun (v4_5 : Int32) (zF_6 : Fm) => V p l e rm_X0_make s m args below meth c g 7 A 0 0 Q (wF g aF zF_6 ++ wS g aS zS) [] [(0, .ref aF.1), (1, .ref aS.1), (2, .int p2), (3, .int v3_4), (4, .int v4_5)] 26 []) (fun re26 ih26 v4_5 zF_6 h => ?_) (0 : Int32) zF_2 h
  unfold f_X0_make_L26 at h
  refine v_iload (pc' := 28) C 4 dX0_make_26 rfl rfl ?_
  refine v_aload_n (pc' := 29) C 1 dX0_make_28 rfl rfl ?_
  refine gN_S_wordCount (pc' := 32) C 4 in_X0_make_2 rfl (List.mem_of_getElem? (i := 1) rfl) rfl dX0_make_29 rfl ?_
  refine v_icmp_ge C 79 35 h dX0_make_32 (by decide) rfl (fun _ h => ?_) (fun _ h => ?_)
  · exact v_vret (Wf := fun (o9 : Fm) (u9 : Unit) => wF g aF o9 ++ wS g aS zS) (ok := fun (o9 : Fm) (u9 : Unit) => True) C Cr h hQ () trivial rfl dX0_make_79
  · refine v_aload_n (pc' := 36) C 1 dX0_make_35 rfl rfl ?_
    refine v_iload (pc' := 38) C 4 dX0_make_36 rfl rfl ?_
    refine v_calli (pc' := 41) C h (rf := fun r9 => r9) (wF g aF zF_6) (fun r9 (u9 : Unit) => wF g aF zF_6 ++ wS g aS zS) (fun r hr => run_V C (c_X2_isCandidate l g aS _ _ r hr) gX0_make_X2_isCandidate rfl nd_X2_isCandidate rfl rfl rfl rfl ⟨Nat.le_of_ble_eq_true rfl, Nat.le_of_ble_eq_true rfl⟩ ⟨Nat.le_of_ble_eq_true rfl, Nat.le_of_ble_eq_true rfl⟩ (Nat.le_of_ble_eq_true rfl) dX0_make_38 rfl) [4, 5, 6, 7] [0, 1, 2, 3] [0, 1, 2, 3, 4, 5, 6, 7] rfl rfl rfl rfl (by decide) rfl (fun _ _ => rfl) (k' := 0) (n' := 0) rfl rfl rfl (fun r_7 _ _ h => ?_)
    refine v_if_eq C 73 44 h dX0_make_41 (by decide) rfl (fun _ h => ?_) (fun _ h => ?_)
    · refine v_iinc (pc' := 76) C 4 [1, 2, 3, 4, 0] (1) dX0_make_73 rfl ic_1 (Nat.le_of_ble_eq_true rfl) h (lw := fun v9 => [(0, .ref aF.1), (1, .ref aS.1), (2, .int p2), (3, .int v3_4), (4, .int v9)]) (fun _ => rfl) rfl (fun v4_8 h => ?_)
      refine v_goto C (pc' := 26) dX0_make_76 (by decide) ?_
      exact ih26 v4_8 zF_6 h
    · refine v_aload_n (pc' := 45) C 1 dX0_make_44 rfl rfl ?_
      refine v_iload (pc' := 47) C 4 dX0_make_45 rfl rfl ?_
      refine v_calll (pc' := 50) C h (rf := fun r9 => r9) (wF g aF zF_6) (fun r9 (u9 : Unit) => wF g aF zF_6 ++ wS g aS zS) (fun r hr => run_V C (c_X2_wordAt l g aS _ _ r hr) gX0_make_X2_wordAt rfl nd_X2_wordAt rfl rfl rfl rfl ⟨Nat.le_of_ble_eq_true rfl, Nat.le_of_ble_eq_true rfl⟩ ⟨Nat.le_of_ble_eq_true rfl, Nat.le_of_ble_eq_true rfl⟩ (Nat.le_of_ble_eq_true rfl) dX0_make_47 rfl) [4, 5, 6, 7] [0, 1, 2, 3] [0, 1, 2, 3, 4, 5, 6, 7] rfl rfl rfl rfl (by decide) rfl (fun _ _ => rfl) (k' := 0) (n' := 0) rfl rfl rfl (fun r_9 _ _ h => ?_)
      refine v_lstore (pc' := 52) C [1, 2, 3, 4, 5, 0] (lv' := [(0, .ref aF.1), (1, .ref aS.1), (2, .int p2), (3, .int v3_4), (4, .int v4_5), (5, .long r_9)]) dX0_make_50 (Nat.le_of_ble_eq_true rfl) rfl rfl ?_
      refine v_aload_n (pc' := 53) C 0 dX0_make_52 rfl rfl ?_
      refine v_iload (pc' := 55) C 4 dX0_make_53 rfl rfl ?_
      refine v_lload (pc' := 57) C 5 dX0_make_55 rfl rfl ?_
      refine v_iload_n (pc' := 58) C 2 dX0_make_57 rfl rfl ?_
      refine v_purei (pc' := 61) C h (rf := fun r9 => r9) (fun r hr => run_S C (c_X4_maskOf l g _ _ r hr) gX0_make_X4_maskOf rfl nd_X4_maskOf ⟨Nat.le_of_ble_eq_true rfl, Nat.le_of_ble_eq_true rfl⟩ ⟨Nat.le_of_ble_eq_true rfl, Nat.le_of_ble_eq_true rfl⟩ (Nat.le_of_ble_eq_true rfl) dX0_make_58 rfl) rfl (fun r_10 h => ?_)
      refine v_lload (pc' := 63) C 5 dX0_make_61 rfl rfl ?_
      refine v_purei (pc' := 66) C h (rf := fun r9 => r9) (fun r hr => run_S C (c_X4_lettersOf l g _ r hr) gX0_make_X4_lettersOf rfl nd_X4_lettersOf ⟨Nat.le_of_ble_eq_true rfl, Nat.le_of_ble_eq_true rfl⟩ ⟨Nat.le_of_ble_eq_true rfl, Nat.le_of_ble_eq_true rfl⟩ (Nat.le_of_ble_eq_true rfl) dX0_make_63 rfl) rfl (fun r_11 h => ?_)
      refine v_iload_n (pc' := 67) C 3 dX0_make_66 rfl rfl ?_
      refine v_iconst (pc' := 68) C (-1) dX0_make_67 ic_m1 rfl ?_
      refine v_ixor (pc' := 69) C dX0_make_68 rfl ?_
      refine v_iand (pc' := 70) C dX0_make_69 rfl ?_
      refine v_callv (pc' := 73) C h (wS g aS zS) (fun r9 (u9 : Unit) => wF g aF r9 ++ wS g aS zS) (fun r hr => run_V C (c_X0_put l g aF _ _ _ _ r hr) gX0_make_X0_put rfl nd_X0_put rfl rfl rfl rfl ⟨Nat.le_of_ble_eq_true rfl, Nat.le_of_ble_eq_true rfl⟩ ⟨Nat.le_of_ble_eq_true rfl, Nat.le_of_ble_eq_true rfl⟩ (Nat.le_of_ble_eq_true rfl) dX0_make_70 rfl) [0, 1, 2, 3] [4, 5, 6, 7] [4, 5, 6, 7, 0, 1, 2, 3] rfl rfl rfl rfl (by decide) rfl (fun _ _ => rfl) (k' := 0) (n' := 0) rfl rfl rfl (fun r_12 _ _ h => ?_)
      refine v_iinc (pc' := 76) C 4 [1, 2, 3, 4, 0, 5] (1) dX0_make_73 rfl ic_1 (Nat.le_of_ble_eq_true rfl) h (lw := fun v9 => [(0, .ref aF.1), (1, .ref aS.1), (2, .int p2), (3, .int v3_4), (4, .int v9), (5, .long r_9)]) (fun _ => rfl) rfl (fun v4_13 h => ?_)
      refine v_goto C (pc' := 26) dX0_make_76 (by decide) ?_
      refine v_lv [0, 1, 2, 3, 4] (lv' := [(0, .ref aF.1), (1, .ref aS.1), (2, .int p2), (3, .int v3_4), (4, .int v4_13)]) rfl ?_
      exact ih26 v4_13 r_12 h
def f_X0_freshnessOf (zF : Fm) (p1 : Int32) : Option (Int32) :=
  Option.bind (f_X0_has zF p1) fun r_1 =>
  if r_1 = 0 then some (0 : Int32)
  else getA (F_freshLetters zF) 30 p1 fun e_2 =>
  Option.bind (f_J6_bitCount_0f7a4 e_2) fun r_3 =>
  some r_3
abbrev rm_X0_freshnessOf : Room := { frames := 1, cells := 0, slots := 0, locals := 21 }
theorem in_X0_freshnessOf_0 : ∀ w ∈ wsX00, w ∈ wsX0_freshnessOf := fun _ h => List.mem_cons_of_mem _ (List.mem_append_right _ h)
theorem k_X0_freshnessOf_1 : Cond.fieldLink RX0 18 "DodgingHangman$Families" "freshLetters" "[I" ∈ wsX0_freshnessOf := List.mem_of_getElem? (i := 1) rfl
theorem nd_X0_freshnessOf : yX0_freshnessOf.cls ≠ "java/lang/invoke/MethodHandle" ∧ yX0_freshnessOf.cls ≠ "java/lang/invoke/VarHandle" ∧ (parseMethodDescriptor yX0_freshnessOf.desc).map (fun d => d.parameters.length) = some 1 := by decide +kernel
set_option maxHeartbeats 4000000 in
set_option maxRecDepth 100000 in
theorem c_X0_freshnessOf (l : Launch) (g : Gv) (aF : RA) (zF : Fm) (p1 : Int32) (o : Int32) (h : f_X0_freshnessOf zF p1 = some o) : Ct l g yX0_freshnessOf wsX0_freshnessOf rm_X0_freshnessOf [.ref aF.1, .int p1] (wF g aF zF) (Qi g o (fun _ : Unit => wF g aF zF) (fun _ => True)) := by
  refine enter (ret := (some .int)) (X := wF g aF zF) (pl := []) pn_X0 rfl (Nat.le_of_ble_eq_true rfl) ((List.append_nil _).symm) ?_
  intro p e s m args below meth c A Q C Cr hin hQ
  unfold f_X0_freshnessOf at h
  refine v_aload_n (pc' := 1) C 0 dX0_freshnessOf_0 rfl rfl ?_
  refine v_iload_n (pc' := 2) C 1 dX0_freshnessOf_1 rfl rfl ?_
  refine v_calli (pc' := 5) C h (rf := fun r9 => r9) ([]) (fun r9 (u9 : Unit) => wF g aF zF) (fun r hr => run_V C (c_X0_has l g aF _ _ r hr) gX0_freshnessOf_X0_has rfl nd_X0_has rfl rfl rfl rfl ⟨Nat.le_of_ble_eq_true rfl, Nat.le_of_ble_eq_true rfl⟩ ⟨Nat.le_of_ble_eq_true rfl, Nat.le_of_ble_eq_true rfl⟩ (Nat.le_of_ble_eq_true rfl) dX0_freshnessOf_2 rfl) [0, 1, 2, 3] [] [0, 1, 2, 3] rfl rfl rfl rfl (by decide) rfl (fun _ _ => rfl) (k' := 0) (n' := 0) rfl rfl rfl (fun r_1 _ _ h => ?_)
  refine v_if_eq C 20 8 h dX0_freshnessOf_5 (by decide) rfl (fun _ h => ?_) (fun _ h => ?_)
  · refine v_iconst (pc' := 21) C (0) dX0_freshnessOf_20 ic_0 rfl ?_
    exact v_iret (rf := fun (o9 : Int32) => o9) (Wf := fun (o9 : Int32) (u9 : Unit) => wF g aF zF) (ok := fun (o9 : Int32) (u9 : Unit) => True) C Cr h hQ () trivial rfl rfl dX0_freshnessOf_21
  · refine v_aload_n (pc' := 9) C 0 dX0_freshnessOf_8 rfl rfl ?_
    refine g_F_freshLetters (pc' := 12) C 0 in_X0_freshnessOf_0 rfl k_X0_freshnessOf_1 rfl dX0_freshnessOf_9 rfl ?_
    refine v_iload_n (pc' := 13) C 1 dX0_freshnessOf_12 rfl rfl ?_
    refine v_iald (pc' := 14) C h 3 rfl dX0_freshnessOf_13 rfl (fun e_2 h => ?_)
    refine v_purei (pc' := 17) C h (rf := fun r9 => r9) (fun r hr => run_S C (c_J6_bitCount_0f7a4 l g _ r hr) gX0_freshnessOf_J6_bitCount_0f7a4 rfl nd_J6_bitCount_0f7a4 ⟨Nat.le_of_ble_eq_true rfl, Nat.le_of_ble_eq_true rfl⟩ ⟨Nat.le_of_ble_eq_true rfl, Nat.le_of_ble_eq_true rfl⟩ (Nat.le_of_ble_eq_true rfl) dX0_freshnessOf_14 rfl) rfl (fun r_3 h => ?_)
    refine v_goto C (pc' := 21) dX0_freshnessOf_17 (by decide) ?_
    exact v_iret (rf := fun (o9 : Int32) => o9) (Wf := fun (o9 : Int32) (u9 : Unit) => wF g aF zF) (ok := fun (o9 : Int32) (u9 : Unit) => True) C Cr h hQ () trivial rfl rfl dX0_freshnessOf_21
def f_X0_sizeOf (zF : Fm) (p1 : Int32) : Option (Int32) :=
  Option.bind (f_X0_has zF p1) fun r_1 =>
  if r_1 = 0 then some (0 : Int32)
  else getA (F_members zF) 30 p1 fun e_2 =>
  Option.bind (f_J6_bitCount_0f7a4 e_2) fun r_3 =>
  some r_3
abbrev rm_X0_sizeOf : Room := { frames := 1, cells := 0, slots := 0, locals := 21 }
theorem in_X0_sizeOf_0 : ∀ w ∈ wsX00, w ∈ wsX0_sizeOf := fun _ h => List.mem_cons_of_mem _ (List.mem_append_right _ h)
theorem k_X0_sizeOf_1 : Cond.fieldLink RX0 15 "DodgingHangman$Families" "members" "[I" ∈ wsX0_sizeOf := List.mem_of_getElem? (i := 1) rfl
theorem nd_X0_sizeOf : yX0_sizeOf.cls ≠ "java/lang/invoke/MethodHandle" ∧ yX0_sizeOf.cls ≠ "java/lang/invoke/VarHandle" ∧ (parseMethodDescriptor yX0_sizeOf.desc).map (fun d => d.parameters.length) = some 1 := by decide +kernel
set_option maxHeartbeats 4000000 in
set_option maxRecDepth 100000 in
theorem c_X0_sizeOf (l : Launch) (g : Gv) (aF : RA) (zF : Fm) (p1 : Int32) (o : Int32) (h : f_X0_sizeOf zF p1 = some o) : Ct l g yX0_sizeOf wsX0_sizeOf rm_X0_sizeOf [.ref aF.1, .int p1] (wF g aF zF) (Qi g o (fun _ : Unit => wF g aF zF) (fun _ => True)) := by
  refine enter (ret := (some .int)) (X := wF g aF zF) (pl := []) pn_X0 rfl (Nat.le_of_ble_eq_true rfl) ((List.append_nil _).symm) ?_
  intro p e s m args below meth c A Q C Cr hin hQ
  unfold f_X0_sizeOf at h
  refine v_aload_n (pc' := 1) C 0 dX0_sizeOf_0 rfl rfl ?_
  refine v_iload_n (pc' := 2) C 1 dX0_sizeOf_1 rfl rfl ?_
  refine v_calli (pc' := 5) C h (rf := fun r9 => r9) ([]) (fun r9 (u9 : Unit) => wF g aF zF) (fun r hr => run_V C (c_X0_has l g aF _ _ r hr) gX0_sizeOf_X0_has rfl nd_X0_has rfl rfl rfl rfl ⟨Nat.le_of_ble_eq_true rfl, Nat.le_of_ble_eq_true rfl⟩ ⟨Nat.le_of_ble_eq_true rfl, Nat.le_of_ble_eq_true rfl⟩ (Nat.le_of_ble_eq_true rfl) dX0_sizeOf_2 rfl) [0, 1, 2, 3] [] [0, 1, 2, 3] rfl rfl rfl rfl (by decide) rfl (fun _ _ => rfl) (k' := 0) (n' := 0) rfl rfl rfl (fun r_1 _ _ h => ?_)
  refine v_if_eq C 20 8 h dX0_sizeOf_5 (by decide) rfl (fun _ h => ?_) (fun _ h => ?_)
  · refine v_iconst (pc' := 21) C (0) dX0_sizeOf_20 ic_0 rfl ?_
    exact v_iret (rf := fun (o9 : Int32) => o9) (Wf := fun (o9 : Int32) (u9 : Unit) => wF g aF zF) (ok := fun (o9 : Int32) (u9 : Unit) => True) C Cr h hQ () trivial rfl rfl dX0_sizeOf_21
  · refine v_aload_n (pc' := 9) C 0 dX0_sizeOf_8 rfl rfl ?_
    refine g_F_members (pc' := 12) C 0 in_X0_sizeOf_0 rfl k_X0_sizeOf_1 rfl dX0_sizeOf_9 rfl ?_
    refine v_iload_n (pc' := 13) C 1 dX0_sizeOf_12 rfl rfl ?_
    refine v_iald (pc' := 14) C h 2 rfl dX0_sizeOf_13 rfl (fun e_2 h => ?_)
    refine v_purei (pc' := 17) C h (rf := fun r9 => r9) (fun r hr => run_S C (c_J6_bitCount_0f7a4 l g _ r hr) gX0_sizeOf_J6_bitCount_0f7a4 rfl nd_J6_bitCount_0f7a4 ⟨Nat.le_of_ble_eq_true rfl, Nat.le_of_ble_eq_true rfl⟩ ⟨Nat.le_of_ble_eq_true rfl, Nat.le_of_ble_eq_true rfl⟩ (Nat.le_of_ble_eq_true rfl) dX0_sizeOf_14 rfl) rfl (fun r_3 h => ?_)
    refine v_goto C (pc' := 21) dX0_sizeOf_17 (by decide) ?_
    exact v_iret (rf := fun (o9 : Int32) => o9) (Wf := fun (o9 : Int32) (u9 : Unit) => wF g aF zF) (ok := fun (o9 : Int32) (u9 : Unit) => True) C Cr h hQ () trivial rfl rfl dX0_sizeOf_21
def f_X0_isBetter_J91 (zF : Fm) (p1 : Int32) (p2 : Int32)  : Option (Int32) :=
  Option.bind (f_X0_sizeOf zF p1) fun r_1 =>
  Option.bind (f_X0_sizeOf zF p2) fun r_2 =>
  if r_1 = r_2 then Option.bind (f_X0_maskOf zF p1) fun r_3 =>
  Option.bind (f_J6_bitCount_0f7a4 r_3) fun r_4 =>
  Option.bind (f_X0_maskOf zF p2) fun r_5 =>
  Option.bind (f_J6_bitCount_0f7a4 r_5) fun r_6 =>
  if r_4 = r_6 then Option.bind (f_X0_maskOf zF p1) fun r_7 =>
  Option.bind (f_X0_maskOf zF p2) fun r_8 =>
  if r_7 < r_8 then some (1 : Int32)
  else some (0 : Int32)
  else if r_4 < r_6 then some (1 : Int32)
  else some (0 : Int32)
  else Option.bind (f_X0_sizeOf zF p1) fun r_9 =>
  Option.bind (f_X0_sizeOf zF p2) fun r_10 =>
  if r_10 < r_9 then some (1 : Int32)
  else some (0 : Int32)
def f_X0_isBetter_J51 (zF : Fm) (p1 : Int32) (p2 : Int32)  : Option (Int32) :=
  if (F_policy zF) = (2 : Int32) then Option.bind (f_X0_freshnessOf zF p1) fun r_11 =>
  Option.bind (f_X0_freshnessOf zF p2) fun r_12 =>
  if r_11 = r_12 then f_X0_isBetter_J91 zF p1 p2 
  else Option.bind (f_X0_freshnessOf zF p1) fun r_13 =>
  Option.bind (f_X0_freshnessOf zF p2) fun r_14 =>
  if r_14 < r_13 then some (1 : Int32)
  else some (0 : Int32)
  else f_X0_isBetter_J91 zF p1 p2 
def f_X0_isBetter_J21 (zF : Fm) (p2 : Int32) (p1 : Int32) (s0_16 : Int32) : Option (Int32) :=
  Option.bind (f_X0_maskOf zF p2) fun r_17 =>
  if r_17 = 0 then if s0_16 = (1 : Int32) then f_X0_isBetter_J51 zF p1 p2 
  else Option.bind (f_X0_maskOf zF p1) fun r_19 =>
  if r_19 = 0 then some (1 : Int32)
  else some (0 : Int32)
  else if s0_16 = (0 : Int32) then f_X0_isBetter_J51 zF p1 p2 
  else Option.bind (f_X0_maskOf zF p1) fun r_18 =>
  if r_18 = 0 then some (1 : Int32)
  else some (0 : Int32)
def f_X0_isBetter (zF : Fm) (p1 : Int32) (p2 : Int32) : Option (Int32) :=
  if (F_policy zF) = (1 : Int32) then Option.bind (f_X0_maskOf zF p1) fun r_15 =>
  if r_15 = 0 then f_X0_isBetter_J21 zF p2 p1 (1 : Int32)
  else f_X0_isBetter_J21 zF p2 p1 (0 : Int32)
  else f_X0_isBetter_J51 zF p1 p2 
abbrev rm_X0_isBetter : Room := { frames := 2, cells := 0, slots := 0, locals := 42 }
theorem in_X0_isBetter_0 : ∀ w ∈ wsX00, w ∈ wsX0_isBetter := fun _ h => List.mem_cons_of_mem _ (List.mem_append_right _ h)
theorem k_X0_isBetter_1 : Cond.fieldLink RX0 30 "DodgingHangman$Families" "policy" "I" ∈ wsX0_isBetter := List.mem_of_getElem? (i := 1) rfl
theorem nd_X0_isBetter : yX0_isBetter.cls ≠ "java/lang/invoke/MethodHandle" ∧ yX0_isBetter.cls ≠ "java/lang/invoke/VarHandle" ∧ (parseMethodDescriptor yX0_isBetter.desc).map (fun d => d.parameters.length) = some 2 := by decide +kernel
set_option maxHeartbeats 4000000 in
set_option maxRecDepth 100000 in
theorem c_X0_isBetter (l : Launch) (g : Gv) (aF : RA) (zF : Fm) (p1 : Int32) (p2 : Int32) (o : Int32) (h : f_X0_isBetter zF p1 p2 = some o) : Ct l g yX0_isBetter wsX0_isBetter rm_X0_isBetter [.ref aF.1, .int p1, .int p2] (wF g aF zF) (Qi g o (fun _ : Unit => wF g aF zF) (fun _ => True)) := by
  refine enter (ret := (some .boolean)) (X := wF g aF zF) (pl := []) pn_X0 rfl (Nat.le_of_ble_eq_true rfl) ((List.append_nil _).symm) ?_
  intro p e s m args below meth c A Q C Cr hin hQ
  unfold f_X0_isBetter at h
  have J91 : f_X0_isBetter_J91 zF p1 p2 = some o → V p l e rm_X0_isBetter s m args below meth c g 5 A 0 0 Q (wF g aF zF) [] [(0, .ref aF.1), (1, .int p1), (2, .int p2)] 91 [] := by
    intro  h
    unfold f_X0_isBetter_J91 at h
    refine v_aload_n (pc' := 92) C 0 dX0_isBetter_91 rfl rfl ?_
    refine v_iload_n (pc' := 93) C 1 dX0_isBetter_92 rfl rfl ?_
    refine v_calli (pc' := 96) C h (rf := fun r9 => r9) ([]) (fun r9 (u9 : Unit) => wF g aF zF) (fun r hr => run_V C (c_X0_sizeOf l g aF _ _ r hr) gX0_isBetter_X0_sizeOf rfl nd_X0_sizeOf rfl rfl rfl rfl ⟨Nat.le_of_ble_eq_true rfl, Nat.le_of_ble_eq_true rfl⟩ ⟨Nat.le_of_ble_eq_true rfl, Nat.le_of_ble_eq_true rfl⟩ (Nat.le_of_ble_eq_true rfl) dX0_isBetter_93 rfl) [0, 1, 2, 3] [] [0, 1, 2, 3] rfl rfl rfl rfl (by decide) rfl (fun _ _ => rfl) (k' := 0) (n' := 0) rfl rfl rfl (fun r_1 _ _ h => ?_)
    refine v_aload_n (pc' := 97) C 0 dX0_isBetter_96 rfl rfl ?_
    refine v_iload_n (pc' := 98) C 2 dX0_isBetter_97 rfl rfl ?_
    refine v_calli (pc' := 101) C h (rf := fun r9 => r9) ([]) (fun r9 (u9 : Unit) => wF g aF zF) (fun r hr => run_V C (c_X0_sizeOf l g aF _ _ r hr) gX0_isBetter_X0_sizeOf rfl nd_X0_sizeOf rfl rfl rfl rfl ⟨Nat.le_of_ble_eq_true rfl, Nat.le_of_ble_eq_true rfl⟩ ⟨Nat.le_of_ble_eq_true rfl, Nat.le_of_ble_eq_true rfl⟩ (Nat.le_of_ble_eq_true rfl) dX0_isBetter_98 rfl) [0, 1, 2, 3] [] [0, 1, 2, 3] rfl rfl rfl rfl (by decide) rfl (fun _ _ => rfl) (k' := 0) (n' := 0) rfl rfl rfl (fun r_2 _ _ h => ?_)
    refine v_icmp_eq C 123 104 h dX0_isBetter_101 (by decide) rfl (fun _ h => ?_) (fun _ h => ?_)
    · refine v_aload_n (pc' := 124) C 0 dX0_isBetter_123 rfl rfl ?_
      refine v_iload_n (pc' := 125) C 1 dX0_isBetter_124 rfl rfl ?_
      refine v_calli (pc' := 128) C h (rf := fun r9 => r9) ([]) (fun r9 (u9 : Unit) => wF g aF zF) (fun r hr => run_V C (c_X0_maskOf l g aF _ _ r hr) gX0_isBetter_X0_maskOf rfl nd_X0_maskOf rfl rfl rfl rfl ⟨Nat.le_of_ble_eq_true rfl, Nat.le_of_ble_eq_true rfl⟩ ⟨Nat.le_of_ble_eq_true rfl, Nat.le_of_ble_eq_true rfl⟩ (Nat.le_of_ble_eq_true rfl) dX0_isBetter_125 rfl) [0, 1, 2, 3] [] [0, 1, 2, 3] rfl rfl rfl rfl (by decide) rfl (fun _ _ => rfl) (k' := 0) (n' := 0) rfl rfl rfl (fun r_3 _ _ h => ?_)
      refine v_purei (pc' := 131) C h (rf := fun r9 => r9) (fun r hr => run_S C (c_J6_bitCount_0f7a4 l g _ r hr) gX0_isBetter_J6_bitCount_0f7a4 rfl nd_J6_bitCount_0f7a4 ⟨Nat.le_of_ble_eq_true rfl, Nat.le_of_ble_eq_true rfl⟩ ⟨Nat.le_of_ble_eq_true rfl, Nat.le_of_ble_eq_true rfl⟩ (Nat.le_of_ble_eq_true rfl) dX0_isBetter_128 rfl) rfl (fun r_4 h => ?_)
      refine v_istore_n (pc' := 132) C [1, 2, 3, 0] (lv' := [(0, .ref aF.1), (1, .int p1), (2, .int p2), (3, .int r_4)]) dX0_isBetter_131 (Nat.le_of_ble_eq_true rfl) rfl rfl ?_
      refine v_aload_n (pc' := 133) C 0 dX0_isBetter_132 rfl rfl ?_
      refine v_iload_n (pc' := 134) C 2 dX0_isBetter_133 rfl rfl ?_
      refine v_calli (pc' := 137) C h (rf := fun r9 => r9) ([]) (fun r9 (u9 : Unit) => wF g aF zF) (fun r hr => run_V C (c_X0_maskOf l g aF _ _ r hr) gX0_isBetter_X0_maskOf rfl nd_X0_maskOf rfl rfl rfl rfl ⟨Nat.le_of_ble_eq_true rfl, Nat.le_of_ble_eq_true rfl⟩ ⟨Nat.le_of_ble_eq_true rfl, Nat.le_of_ble_eq_true rfl⟩ (Nat.le_of_ble_eq_true rfl) dX0_isBetter_134 rfl) [0, 1, 2, 3] [] [0, 1, 2, 3] rfl rfl rfl rfl (by decide) rfl (fun _ _ => rfl) (k' := 0) (n' := 0) rfl rfl rfl (fun r_5 _ _ h => ?_)
      refine v_purei (pc' := 140) C h (rf := fun r9 => r9) (fun r hr => run_S C (c_J6_bitCount_0f7a4 l g _ r hr) gX0_isBetter_J6_bitCount_0f7a4 rfl nd_J6_bitCount_0f7a4 ⟨Nat.le_of_ble_eq_true rfl, Nat.le_of_ble_eq_true rfl⟩ ⟨Nat.le_of_ble_eq_true rfl, Nat.le_of_ble_eq_true rfl⟩ (Nat.le_of_ble_eq_true rfl) dX0_isBetter_137 rfl) rfl (fun r_6 h => ?_)
      refine v_istore (pc' := 142) C [1, 2, 3, 4, 0] (lv' := [(0, .ref aF.1), (1, .int p1), (2, .int p2), (3, .int r_4), (4, .int r_6)]) dX0_isBetter_140 (Nat.le_of_ble_eq_true rfl) rfl rfl ?_
      refine v_iload_n (pc' := 143) C 3 dX0_isBetter_142 rfl rfl ?_
      refine v_iload (pc' := 145) C 4 dX0_isBetter_143 rfl rfl ?_
      refine v_icmp_eq C 162 148 h dX0_isBetter_145 (by decide) rfl (fun _ h => ?_) (fun _ h => ?_)
      · refine v_aload_n (pc' := 163) C 0 dX0_isBetter_162 rfl rfl ?_
        refine v_iload_n (pc' := 164) C 1 dX0_isBetter_163 rfl rfl ?_
        refine v_calli (pc' := 167) C h (rf := fun r9 => r9) ([]) (fun r9 (u9 : Unit) => wF g aF zF) (fun r hr => run_V C (c_X0_maskOf l g aF _ _ r hr) gX0_isBetter_X0_maskOf rfl nd_X0_maskOf rfl rfl rfl rfl ⟨Nat.le_of_ble_eq_true rfl, Nat.le_of_ble_eq_true rfl⟩ ⟨Nat.le_of_ble_eq_true rfl, Nat.le_of_ble_eq_true rfl⟩ (Nat.le_of_ble_eq_true rfl) dX0_isBetter_164 rfl) [0, 1, 2, 3] [] [0, 1, 2, 3] rfl rfl rfl rfl (by decide) rfl (fun _ _ => rfl) (k' := 0) (n' := 0) rfl rfl rfl (fun r_7 _ _ h => ?_)
        refine v_aload_n (pc' := 168) C 0 dX0_isBetter_167 rfl rfl ?_
        refine v_iload_n (pc' := 169) C 2 dX0_isBetter_168 rfl rfl ?_
        refine v_calli (pc' := 172) C h (rf := fun r9 => r9) ([]) (fun r9 (u9 : Unit) => wF g aF zF) (fun r hr => run_V C (c_X0_maskOf l g aF _ _ r hr) gX0_isBetter_X0_maskOf rfl nd_X0_maskOf rfl rfl rfl rfl ⟨Nat.le_of_ble_eq_true rfl, Nat.le_of_ble_eq_true rfl⟩ ⟨Nat.le_of_ble_eq_true rfl, Nat.le_of_ble_eq_true rfl⟩ (Nat.le_of_ble_eq_true rfl) dX0_isBetter_169 rfl) [0, 1, 2, 3] [] [0, 1, 2, 3] rfl rfl rfl rfl (by decide) rfl (fun _ _ => rfl) (k' := 0) (n' := 0) rfl rfl rfl (fun r_8 _ _ h => ?_)
        refine v_icmp_ge C 179 175 h dX0_isBetter_172 (by decide) rfl (fun _ h => ?_) (fun _ h => ?_)
        · refine v_iconst (pc' := 180) C (0) dX0_isBetter_179 ic_0 rfl ?_
          exact v_zret (rf := fun (o9 : Int32) => o9) (Wf := fun (o9 : Int32) (u9 : Unit) => wF g aF zF) (ok := fun (o9 : Int32) (u9 : Unit) => True) C Cr h hQ () trivial rfl rfl (Or.inl rfl) dX0_isBetter_180
        · refine v_iconst (pc' := 176) C (1) dX0_isBetter_175 ic_1 rfl ?_
          refine v_goto C (pc' := 180) dX0_isBetter_176 (by decide) ?_
          exact v_zret (rf := fun (o9 : Int32) => o9) (Wf := fun (o9 : Int32) (u9 : Unit) => wF g aF zF) (ok := fun (o9 : Int32) (u9 : Unit) => True) C Cr h hQ () trivial rfl rfl (Or.inr rfl) dX0_isBetter_180
      · refine v_iload_n (pc' := 149) C 3 dX0_isBetter_148 rfl rfl ?_
        refine v_iload (pc' := 151) C 4 dX0_isBetter_149 rfl rfl ?_
        refine v_icmp_ge C 158 154 h dX0_isBetter_151 (by decide) rfl (fun _ h => ?_) (fun _ h => ?_)
        · refine v_iconst (pc' := 159) C (0) dX0_isBetter_158 ic_0 rfl ?_
          refine v_goto C (pc' := 180) dX0_isBetter_159 (by decide) ?_
          exact v_zret (rf := fun (o9 : Int32) => o9) (Wf := fun (o9 : Int32) (u9 : Unit) => wF g aF zF) (ok := fun (o9 : Int32) (u9 : Unit) => True) C Cr h hQ () trivial rfl rfl (Or.inl rfl) dX0_isBetter_180
        · refine v_iconst (pc' := 155) C (1) dX0_isBetter_154 ic_1 rfl ?_
          refine v_goto C (pc' := 180) dX0_isBetter_155 (by decide) ?_
          exact v_zret (rf := fun (o9 : Int32) => o9) (Wf := fun (o9 : Int32) (u9 : Unit) => wF g aF zF) (ok := fun (o9 : Int32) (u9 : Unit) => True) C Cr h hQ () trivial rfl rfl (Or.inr rfl) dX0_isBetter_180
    · refine v_aload_n (pc' := 105) C 0 dX0_isBetter_104 rfl rfl ?_
      refine v_iload_n (pc' := 106) C 1 dX0_isBetter_105 rfl rfl ?_
      refine v_calli (pc' := 109) C h (rf := fun r9 => r9) ([]) (fun r9 (u9 : Unit) => wF g aF zF) (fun r hr => run_V C (c_X0_sizeOf l g aF _ _ r hr) gX0_isBetter_X0_sizeOf rfl nd_X0_sizeOf rfl rfl rfl rfl ⟨Nat.le_of_ble_eq_true rfl, Nat.le_of_ble_eq_true rfl⟩ ⟨Nat.le_of_ble_eq_true rfl, Nat.le_of_ble_eq_true rfl⟩ (Nat.le_of_ble_eq_true rfl) dX0_isBetter_106 rfl) [0, 1, 2, 3] [] [0, 1, 2, 3] rfl rfl rfl rfl (by decide) rfl (fun _ _ => rfl) (k' := 0) (n' := 0) rfl rfl rfl (fun r_9 _ _ h => ?_)
      refine v_aload_n (pc' := 110) C 0 dX0_isBetter_109 rfl rfl ?_
      refine v_iload_n (pc' := 111) C 2 dX0_isBetter_110 rfl rfl ?_
      refine v_calli (pc' := 114) C h (rf := fun r9 => r9) ([]) (fun r9 (u9 : Unit) => wF g aF zF) (fun r hr => run_V C (c_X0_sizeOf l g aF _ _ r hr) gX0_isBetter_X0_sizeOf rfl nd_X0_sizeOf rfl rfl rfl rfl ⟨Nat.le_of_ble_eq_true rfl, Nat.le_of_ble_eq_true rfl⟩ ⟨Nat.le_of_ble_eq_true rfl, Nat.le_of_ble_eq_true rfl⟩ (Nat.le_of_ble_eq_true rfl) dX0_isBetter_111 rfl) [0, 1, 2, 3] [] [0, 1, 2, 3] rfl rfl rfl rfl (by decide) rfl (fun _ _ => rfl) (k' := 0) (n' := 0) rfl rfl rfl (fun r_10 _ _ h => ?_)
      refine v_icmp_le C 121 117 h dX0_isBetter_114 (by decide) rfl (fun _ h => ?_) (fun _ h => ?_)
      · refine v_iconst (pc' := 122) C (0) dX0_isBetter_121 ic_0 rfl ?_
        exact v_zret (rf := fun (o9 : Int32) => o9) (Wf := fun (o9 : Int32) (u9 : Unit) => wF g aF zF) (ok := fun (o9 : Int32) (u9 : Unit) => True) C Cr h hQ () trivial rfl rfl (Or.inl rfl) dX0_isBetter_122
      · refine v_iconst (pc' := 118) C (1) dX0_isBetter_117 ic_1 rfl ?_
        refine v_goto C (pc' := 122) dX0_isBetter_118 (by decide) ?_
        exact v_zret (rf := fun (o9 : Int32) => o9) (Wf := fun (o9 : Int32) (u9 : Unit) => wF g aF zF) (ok := fun (o9 : Int32) (u9 : Unit) => True) C Cr h hQ () trivial rfl rfl (Or.inr rfl) dX0_isBetter_122
  have J51 : f_X0_isBetter_J51 zF p1 p2 = some o → V p l e rm_X0_isBetter s m args below meth c g 5 A 0 0 Q (wF g aF zF) [] [(0, .ref aF.1), (1, .int p1), (2, .int p2)] 51 [] := by
    intro  h
    unfold f_X0_isBetter_J51 at h
    refine v_aload_n (pc' := 52) C 0 dX0_isBetter_51 rfl rfl ?_
    refine g_F_policy (pc' := 55) C 0 in_X0_isBetter_0 rfl k_X0_isBetter_1 rfl dX0_isBetter_52 rfl ?_
    refine v_iconst (pc' := 56) C (2) dX0_isBetter_55 ic_2 rfl ?_
    refine v_icmp_ne C 91 59 h dX0_isBetter_56 (by decide) rfl (fun _ h => ?_) (fun _ h => ?_)
    · exact J91  h
    · refine v_aload_n (pc' := 60) C 0 dX0_isBetter_59 rfl rfl ?_
      refine v_iload_n (pc' := 61) C 1 dX0_isBetter_60 rfl rfl ?_
      refine v_calli (pc' := 64) C h (rf := fun r9 => r9) ([]) (fun r9 (u9 : Unit) => wF g aF zF) (fun r hr => run_V C (c_X0_freshnessOf l g aF _ _ r hr) gX0_isBetter_X0_freshnessOf rfl nd_X0_freshnessOf rfl rfl rfl rfl ⟨Nat.le_of_ble_eq_true rfl, Nat.le_of_ble_eq_true rfl⟩ ⟨Nat.le_of_ble_eq_true rfl, Nat.le_of_ble_eq_true rfl⟩ (Nat.le_of_ble_eq_true rfl) dX0_isBetter_61 rfl) [0, 1, 2, 3] [] [0, 1, 2, 3] rfl rfl rfl rfl (by decide) rfl (fun _ _ => rfl) (k' := 0) (n' := 0) rfl rfl rfl (fun r_11 _ _ h => ?_)
      refine v_aload_n (pc' := 65) C 0 dX0_isBetter_64 rfl rfl ?_
      refine v_iload_n (pc' := 66) C 2 dX0_isBetter_65 rfl rfl ?_
      refine v_calli (pc' := 69) C h (rf := fun r9 => r9) ([]) (fun r9 (u9 : Unit) => wF g aF zF) (fun r hr => run_V C (c_X0_freshnessOf l g aF _ _ r hr) gX0_isBetter_X0_freshnessOf rfl nd_X0_freshnessOf rfl rfl rfl rfl ⟨Nat.le_of_ble_eq_true rfl, Nat.le_of_ble_eq_true rfl⟩ ⟨Nat.le_of_ble_eq_true rfl, Nat.le_of_ble_eq_true rfl⟩ (Nat.le_of_ble_eq_true rfl) dX0_isBetter_66 rfl) [0, 1, 2, 3] [] [0, 1, 2, 3] rfl rfl rfl rfl (by decide) rfl (fun _ _ => rfl) (k' := 0) (n' := 0) rfl rfl rfl (fun r_12 _ _ h => ?_)
      refine v_icmp_eq C 91 72 h dX0_isBetter_69 (by decide) rfl (fun _ h => ?_) (fun _ h => ?_)
      · exact J91  h
      · refine v_aload_n (pc' := 73) C 0 dX0_isBetter_72 rfl rfl ?_
        refine v_iload_n (pc' := 74) C 1 dX0_isBetter_73 rfl rfl ?_
        refine v_calli (pc' := 77) C h (rf := fun r9 => r9) ([]) (fun r9 (u9 : Unit) => wF g aF zF) (fun r hr => run_V C (c_X0_freshnessOf l g aF _ _ r hr) gX0_isBetter_X0_freshnessOf rfl nd_X0_freshnessOf rfl rfl rfl rfl ⟨Nat.le_of_ble_eq_true rfl, Nat.le_of_ble_eq_true rfl⟩ ⟨Nat.le_of_ble_eq_true rfl, Nat.le_of_ble_eq_true rfl⟩ (Nat.le_of_ble_eq_true rfl) dX0_isBetter_74 rfl) [0, 1, 2, 3] [] [0, 1, 2, 3] rfl rfl rfl rfl (by decide) rfl (fun _ _ => rfl) (k' := 0) (n' := 0) rfl rfl rfl (fun r_13 _ _ h => ?_)
        refine v_aload_n (pc' := 78) C 0 dX0_isBetter_77 rfl rfl ?_
        refine v_iload_n (pc' := 79) C 2 dX0_isBetter_78 rfl rfl ?_
        refine v_calli (pc' := 82) C h (rf := fun r9 => r9) ([]) (fun r9 (u9 : Unit) => wF g aF zF) (fun r hr => run_V C (c_X0_freshnessOf l g aF _ _ r hr) gX0_isBetter_X0_freshnessOf rfl nd_X0_freshnessOf rfl rfl rfl rfl ⟨Nat.le_of_ble_eq_true rfl, Nat.le_of_ble_eq_true rfl⟩ ⟨Nat.le_of_ble_eq_true rfl, Nat.le_of_ble_eq_true rfl⟩ (Nat.le_of_ble_eq_true rfl) dX0_isBetter_79 rfl) [0, 1, 2, 3] [] [0, 1, 2, 3] rfl rfl rfl rfl (by decide) rfl (fun _ _ => rfl) (k' := 0) (n' := 0) rfl rfl rfl (fun r_14 _ _ h => ?_)
        refine v_icmp_le C 89 85 h dX0_isBetter_82 (by decide) rfl (fun _ h => ?_) (fun _ h => ?_)
        · refine v_iconst (pc' := 90) C (0) dX0_isBetter_89 ic_0 rfl ?_
          exact v_zret (rf := fun (o9 : Int32) => o9) (Wf := fun (o9 : Int32) (u9 : Unit) => wF g aF zF) (ok := fun (o9 : Int32) (u9 : Unit) => True) C Cr h hQ () trivial rfl rfl (Or.inl rfl) dX0_isBetter_90
        · refine v_iconst (pc' := 86) C (1) dX0_isBetter_85 ic_1 rfl ?_
          refine v_goto C (pc' := 90) dX0_isBetter_86 (by decide) ?_
          exact v_zret (rf := fun (o9 : Int32) => o9) (Wf := fun (o9 : Int32) (u9 : Unit) => wF g aF zF) (ok := fun (o9 : Int32) (u9 : Unit) => True) C Cr h hQ () trivial rfl rfl (Or.inr rfl) dX0_isBetter_90
  have J21 : ∀ (s0_16 : Int32), f_X0_isBetter_J21 zF p2 p1 s0_16 = some o → V p l e rm_X0_isBetter s m args below meth c g 5 A 0 0 Q (wF g aF zF) [] [(0, .ref aF.1), (1, .int p1), (2, .int p2)] 21 [.int s0_16] := by
    intro s0_16 h
    unfold f_X0_isBetter_J21 at h
    refine v_aload_n (pc' := 22) C 0 dX0_isBetter_21 rfl rfl ?_
    refine v_iload_n (pc' := 23) C 2 dX0_isBetter_22 rfl rfl ?_
    refine v_calli (pc' := 26) C h (rf := fun r9 => r9) ([]) (fun r9 (u9 : Unit) => wF g aF zF) (fun r hr => run_V C (c_X0_maskOf l g aF _ _ r hr) gX0_isBetter_X0_maskOf rfl nd_X0_maskOf rfl rfl rfl rfl ⟨Nat.le_of_ble_eq_true rfl, Nat.le_of_ble_eq_true rfl⟩ ⟨Nat.le_of_ble_eq_true rfl, Nat.le_of_ble_eq_true rfl⟩ (Nat.le_of_ble_eq_true rfl) dX0_isBetter_23 rfl) [0, 1, 2, 3] [] [0, 1, 2, 3] rfl rfl rfl rfl (by decide) rfl (fun _ _ => rfl) (k' := 0) (n' := 0) rfl rfl rfl (fun r_17 _ _ h => ?_)
    refine v_if_ne C 33 29 h dX0_isBetter_26 (by decide) rfl (fun _ h => ?_) (fun _ h => ?_)
    · refine v_iconst (pc' := 34) C (0) dX0_isBetter_33 ic_0 rfl ?_
      refine v_icmp_eq C 51 37 h dX0_isBetter_34 (by decide) rfl (fun _ h => ?_) (fun _ h => ?_)
      · exact J51  h
      · refine v_aload_n (pc' := 38) C 0 dX0_isBetter_37 rfl rfl ?_
        refine v_iload_n (pc' := 39) C 1 dX0_isBetter_38 rfl rfl ?_
        refine v_calli (pc' := 42) C h (rf := fun r9 => r9) ([]) (fun r9 (u9 : Unit) => wF g aF zF) (fun r hr => run_V C (c_X0_maskOf l g aF _ _ r hr) gX0_isBetter_X0_maskOf rfl nd_X0_maskOf rfl rfl rfl rfl ⟨Nat.le_of_ble_eq_true rfl, Nat.le_of_ble_eq_true rfl⟩ ⟨Nat.le_of_ble_eq_true rfl, Nat.le_of_ble_eq_true rfl⟩ (Nat.le_of_ble_eq_true rfl) dX0_isBetter_39 rfl) [0, 1, 2, 3] [] [0, 1, 2, 3] rfl rfl rfl rfl (by decide) rfl (fun _ _ => rfl) (k' := 0) (n' := 0) rfl rfl rfl (fun r_18 _ _ h => ?_)
        refine v_if_ne C 49 45 h dX0_isBetter_42 (by decide) rfl (fun _ h => ?_) (fun _ h => ?_)
        · refine v_iconst (pc' := 50) C (0) dX0_isBetter_49 ic_0 rfl ?_
          exact v_zret (rf := fun (o9 : Int32) => o9) (Wf := fun (o9 : Int32) (u9 : Unit) => wF g aF zF) (ok := fun (o9 : Int32) (u9 : Unit) => True) C Cr h hQ () trivial rfl rfl (Or.inl rfl) dX0_isBetter_50
        · refine v_iconst (pc' := 46) C (1) dX0_isBetter_45 ic_1 rfl ?_
          refine v_goto C (pc' := 50) dX0_isBetter_46 (by decide) ?_
          exact v_zret (rf := fun (o9 : Int32) => o9) (Wf := fun (o9 : Int32) (u9 : Unit) => wF g aF zF) (ok := fun (o9 : Int32) (u9 : Unit) => True) C Cr h hQ () trivial rfl rfl (Or.inr rfl) dX0_isBetter_50
    · refine v_iconst (pc' := 30) C (1) dX0_isBetter_29 ic_1 rfl ?_
      refine v_goto C (pc' := 34) dX0_isBetter_30 (by decide) ?_
      refine v_icmp_eq C 51 37 h dX0_isBetter_34 (by decide) rfl (fun _ h => ?_) (fun _ h => ?_)
      · exact J51  h
      · refine v_aload_n (pc' := 38) C 0 dX0_isBetter_37 rfl rfl ?_
        refine v_iload_n (pc' := 39) C 1 dX0_isBetter_38 rfl rfl ?_
        refine v_calli (pc' := 42) C h (rf := fun r9 => r9) ([]) (fun r9 (u9 : Unit) => wF g aF zF) (fun r hr => run_V C (c_X0_maskOf l g aF _ _ r hr) gX0_isBetter_X0_maskOf rfl nd_X0_maskOf rfl rfl rfl rfl ⟨Nat.le_of_ble_eq_true rfl, Nat.le_of_ble_eq_true rfl⟩ ⟨Nat.le_of_ble_eq_true rfl, Nat.le_of_ble_eq_true rfl⟩ (Nat.le_of_ble_eq_true rfl) dX0_isBetter_39 rfl) [0, 1, 2, 3] [] [0, 1, 2, 3] rfl rfl rfl rfl (by decide) rfl (fun _ _ => rfl) (k' := 0) (n' := 0) rfl rfl rfl (fun r_19 _ _ h => ?_)
        refine v_if_ne C 49 45 h dX0_isBetter_42 (by decide) rfl (fun _ h => ?_) (fun _ h => ?_)
        · refine v_iconst (pc' := 50) C (0) dX0_isBetter_49 ic_0 rfl ?_
          exact v_zret (rf := fun (o9 : Int32) => o9) (Wf := fun (o9 : Int32) (u9 : Unit) => wF g aF zF) (ok := fun (o9 : Int32) (u9 : Unit) => True) C Cr h hQ () trivial rfl rfl (Or.inl rfl) dX0_isBetter_50
        · refine v_iconst (pc' := 46) C (1) dX0_isBetter_45 ic_1 rfl ?_
          refine v_goto C (pc' := 50) dX0_isBetter_46 (by decide) ?_
          exact v_zret (rf := fun (o9 : Int32) => o9) (Wf := fun (o9 : Int32) (u9 : Unit) => wF g aF zF) (ok := fun (o9 : Int32) (u9 : Unit) => True) C Cr h hQ () trivial rfl rfl (Or.inr rfl) dX0_isBetter_50
  refine v_aload_n (pc' := 1) C 0 dX0_isBetter_0 rfl rfl ?_
  refine g_F_policy (pc' := 4) C 0 in_X0_isBetter_0 rfl k_X0_isBetter_1 rfl dX0_isBetter_1 rfl ?_
  refine v_iconst (pc' := 5) C (1) dX0_isBetter_4 ic_1 rfl ?_
  refine v_icmp_ne C 51 8 h dX0_isBetter_5 (by decide) rfl (fun _ h => ?_) (fun _ h => ?_)
  · exact J51  h
  · refine v_aload_n (pc' := 9) C 0 dX0_isBetter_8 rfl rfl ?_
    refine v_iload_n (pc' := 10) C 1 dX0_isBetter_9 rfl rfl ?_
    refine v_calli (pc' := 13) C h (rf := fun r9 => r9) ([]) (fun r9 (u9 : Unit) => wF g aF zF) (fun r hr => run_V C (c_X0_maskOf l g aF _ _ r hr) gX0_isBetter_X0_maskOf rfl nd_X0_maskOf rfl rfl rfl rfl ⟨Nat.le_of_ble_eq_true rfl, Nat.le_of_ble_eq_true rfl⟩ ⟨Nat.le_of_ble_eq_true rfl, Nat.le_of_ble_eq_true rfl⟩ (Nat.le_of_ble_eq_true rfl) dX0_isBetter_10 rfl) [0, 1, 2, 3] [] [0, 1, 2, 3] rfl rfl rfl rfl (by decide) rfl (fun _ _ => rfl) (k' := 0) (n' := 0) rfl rfl rfl (fun r_15 _ _ h => ?_)
    refine v_if_ne C 20 16 h dX0_isBetter_13 (by decide) rfl (fun _ h => ?_) (fun _ h => ?_)
    · refine v_iconst (pc' := 21) C (0) dX0_isBetter_20 ic_0 rfl ?_
      exact J21 (0 : Int32) h
    · refine v_iconst (pc' := 17) C (1) dX0_isBetter_16 ic_1 rfl ?_
      refine v_goto C (pc' := 21) dX0_isBetter_17 (by decide) ?_
      exact J21 (1 : Int32) h
def f_X0_best_L15 (zF : Fm) (re15 : Int32 → Int32 → Option (Int32)) (v1_2 : Int32) (v2_3 : Int32) : Option (Int32) :=
  if v2_3 < (F_count zF) then Option.bind (f_X0_isBetter zF v2_3 v1_2) fun r_4 =>
  if r_4 = 0 then lett (v2_3 + (1 : Int32)) fun v2_5 =>
  re15 v1_2 v2_5
  else lett (v2_3 + (1 : Int32)) fun v2_6 =>
  re15 v2_3 v2_6
  else some v1_2
def f_X0_best_J12 (zF : Fm) (s0_1 : Int32) : Option (Int32) :=
  loop2 (f_X0_best_L15 zF) FU s0_1 (1 : Int32)
def f_X0_best (zF : Fm)  : Option (Int32) :=
  if 0 < (F_count zF) then f_X0_best_J12 zF (0 : Int32)
  else f_X0_best_J12 zF (-1 : Int32)
abbrev rm_X0_best : Room := { frames := 3, cells := 0, slots := 0, locals := 66 }
theorem in_X0_best_0 : ∀ w ∈ wsX00, w ∈ wsX0_best := fun _ h => List.mem_cons_of_mem _ (List.mem_append_right _ h)
theorem k_X0_best_1 : Cond.fieldLink RX0 21 "DodgingHangman$Families" "count" "I" ∈ wsX0_best := List.mem_of_getElem? (i := 1) rfl
theorem nd_X0_best : yX0_best.cls ≠ "java/lang/invoke/MethodHandle" ∧ yX0_best.cls ≠ "java/lang/invoke/VarHandle" ∧ (parseMethodDescriptor yX0_best.desc).map (fun d => d.parameters.length) = some 0 := by decide +kernel
set_option maxHeartbeats 4000000 in
set_option maxRecDepth 100000 in
theorem c_X0_best (l : Launch) (g : Gv) (aF : RA) (zF : Fm)  (o : Int32) (h : f_X0_best zF  = some o) : Ct l g yX0_best wsX0_best rm_X0_best [.ref aF.1] (wF g aF zF) (Qi g o (fun _ : Unit => wF g aF zF) (fun _ => True)) := by
  refine enter (ret := (some .int)) (X := wF g aF zF) (pl := []) pn_X0 rfl (Nat.le_of_ble_eq_true rfl) ((List.append_nil _).symm) ?_
  intro p e s m args below meth c A Q C Cr hin hQ
  unfold f_X0_best at h
  have J12 : ∀ (s0_1 : Int32), f_X0_best_J12 zF s0_1 = some o → V p l e rm_X0_best s m args below meth c g 3 A 0 0 Q (wF g aF zF) [] [(0, .ref aF.1)] 12 [.int s0_1] := by
    intro s0_1 h
    unfold f_X0_best_J12 at h
    refine v_istore_n (pc' := 13) C [1, 0] (lv' := [(0, .ref aF.1), (1, .int s0_1)]) dX0_best_12 (Nat.le_of_ble_eq_true rfl) rfl rfl ?_
    refine v_iconst (pc' := 14) C (1) dX0_best_13 ic_1 rfl ?_
    refine v_istore_n (pc' := 15) C [1, 2, 0] (lv' := [(0, .ref aF.1), (1, .int s0_1), (2, .int (1 : Int32))]) dX0_best_14 (Nat.le_of_ble_eq_true rfl) rfl rfl ?_
    refine v_loop2 (fun (v1_2 : Int32) (v2_3 : Int32) => V p l e rm_X0_best s m args below meth c g 3 A 0 0 Q (wF g aF zF) [] [(0, .ref aF.1), (1, .int v1_2), (2, .int v2_3)] 15 []) (fun re15 ih15 v1_2 v2_3 h => ?_) s0_1 (1 : Int32) h
    unfold f_X0_best_L15 at h
    refine v_iload_n (pc' := 16) C 2 dX0_best_15 rfl rfl ?_
    refine v_aload_n (pc' := 17) C 0 dX0_best_16 rfl rfl ?_
    refine g_F_count (pc' := 20) C 0 in_X0_best_0 rfl k_X0_best_1 rfl dX0_best_17 rfl ?_
    refine v_icmp_ge C 40 23 h dX0_best_20 (by decide) rfl (fun _ h => ?_) (fun _ h => ?_)
    · refine v_iload_n (pc' := 41) C 1 dX0_best_40 rfl rfl ?_
      exact v_iret (rf := fun (o9 : Int32) => o9) (Wf := fun (o9 : Int32) (u9 : Unit) => wF g aF zF) (ok := fun (o9 : Int32) (u9 : Unit) => True) C Cr h hQ () trivial rfl rfl dX0_best_41
    · refine v_aload_n (pc' := 24) C 0 dX0_best_23 rfl rfl ?_
      refine v_iload_n (pc' := 25) C 2 dX0_best_24 rfl rfl ?_
      refine v_iload_n (pc' := 26) C 1 dX0_best_25 rfl rfl ?_
      refine v_calli (pc' := 29) C h (rf := fun r9 => r9) ([]) (fun r9 (u9 : Unit) => wF g aF zF) (fun r hr => run_V C (c_X0_isBetter l g aF _ _ _ r hr) gX0_best_X0_isBetter rfl nd_X0_isBetter rfl rfl rfl rfl ⟨Nat.le_of_ble_eq_true rfl, Nat.le_of_ble_eq_true rfl⟩ ⟨Nat.le_of_ble_eq_true rfl, Nat.le_of_ble_eq_true rfl⟩ (Nat.le_of_ble_eq_true rfl) dX0_best_26 rfl) [0, 1, 2, 3] [] [0, 1, 2, 3] rfl rfl rfl rfl (by decide) rfl (fun _ _ => rfl) (k' := 0) (n' := 0) rfl rfl rfl (fun r_4 _ _ h => ?_)
      refine v_if_eq C 34 32 h dX0_best_29 (by decide) rfl (fun _ h => ?_) (fun _ h => ?_)
      · refine v_iinc (pc' := 37) C 2 [1, 2, 0] (1) dX0_best_34 rfl ic_1 (Nat.le_of_ble_eq_true rfl) h (lw := fun v9 => [(0, .ref aF.1), (1, .int v1_2), (2, .int v9)]) (fun _ => rfl) rfl (fun v2_5 h => ?_)
        refine v_goto C (pc' := 15) dX0_best_37 (by decide) ?_
        exact ih15 v1_2 v2_5 h
      · refine v_iload_n (pc' := 33) C 2 dX0_best_32 rfl rfl ?_
        refine v_istore_n (pc' := 34) C [1, 0, 2] (lv' := [(0, .ref aF.1), (1, .int v2_3), (2, .int v2_3)]) dX0_best_33 (Nat.le_of_ble_eq_true rfl) rfl rfl ?_
        refine v_iinc (pc' := 37) C 2 [1, 2, 0] (1) dX0_best_34 rfl ic_1 (Nat.le_of_ble_eq_true rfl) h (lw := fun v9 => [(0, .ref aF.1), (1, .int v2_3), (2, .int v9)]) (fun _ => rfl) rfl (fun v2_6 h => ?_)
        refine v_goto C (pc' := 15) dX0_best_37 (by decide) ?_
        exact ih15 v2_3 v2_6 h
  refine v_aload_n (pc' := 1) C 0 dX0_best_0 rfl rfl ?_
  refine g_F_count (pc' := 4) C 0 in_X0_best_0 rfl k_X0_best_1 rfl dX0_best_1 rfl ?_
  refine v_if_le C 11 7 h dX0_best_4 (by decide) rfl (fun _ h => ?_) (fun _ h => ?_)
  · refine v_iconst (pc' := 12) C (-1) dX0_best_11 ic_m1 rfl ?_
    exact J12 (-1 : Int32) h
  · refine v_iconst (pc' := 8) C (0) dX0_best_7 ic_0 rfl ?_
    refine v_goto C (pc' := 12) dX0_best_8 (by decide) ?_
    exact J12 (0 : Int32) h
def f_X0_membersOf (zF : Fm) (p1 : Int32) : Option (Int32) :=
  Option.bind (f_X0_has zF p1) fun r_1 =>
  if r_1 = 0 then some (0 : Int32)
  else getA (F_members zF) 30 p1 fun e_2 =>
  some e_2
abbrev rm_X0_membersOf : Room := { frames := 1, cells := 0, slots := 0, locals := 21 }
theorem in_X0_membersOf_0 : ∀ w ∈ wsX00, w ∈ wsX0_membersOf := fun _ h => List.mem_cons_of_mem _ (List.mem_append_right _ h)
theorem k_X0_membersOf_1 : Cond.fieldLink RX0 15 "DodgingHangman$Families" "members" "[I" ∈ wsX0_membersOf := List.mem_of_getElem? (i := 1) rfl
theorem nd_X0_membersOf : yX0_membersOf.cls ≠ "java/lang/invoke/MethodHandle" ∧ yX0_membersOf.cls ≠ "java/lang/invoke/VarHandle" ∧ (parseMethodDescriptor yX0_membersOf.desc).map (fun d => d.parameters.length) = some 1 := by decide +kernel
set_option maxHeartbeats 4000000 in
set_option maxRecDepth 100000 in
theorem c_X0_membersOf (l : Launch) (g : Gv) (aF : RA) (zF : Fm) (p1 : Int32) (o : Int32) (h : f_X0_membersOf zF p1 = some o) : Ct l g yX0_membersOf wsX0_membersOf rm_X0_membersOf [.ref aF.1, .int p1] (wF g aF zF) (Qi g o (fun _ : Unit => wF g aF zF) (fun _ => True)) := by
  refine enter (ret := (some .int)) (X := wF g aF zF) (pl := []) pn_X0 rfl (Nat.le_of_ble_eq_true rfl) ((List.append_nil _).symm) ?_
  intro p e s m args below meth c A Q C Cr hin hQ
  unfold f_X0_membersOf at h
  refine v_aload_n (pc' := 1) C 0 dX0_membersOf_0 rfl rfl ?_
  refine v_iload_n (pc' := 2) C 1 dX0_membersOf_1 rfl rfl ?_
  refine v_calli (pc' := 5) C h (rf := fun r9 => r9) ([]) (fun r9 (u9 : Unit) => wF g aF zF) (fun r hr => run_V C (c_X0_has l g aF _ _ r hr) gX0_membersOf_X0_has rfl nd_X0_has rfl rfl rfl rfl ⟨Nat.le_of_ble_eq_true rfl, Nat.le_of_ble_eq_true rfl⟩ ⟨Nat.le_of_ble_eq_true rfl, Nat.le_of_ble_eq_true rfl⟩ (Nat.le_of_ble_eq_true rfl) dX0_membersOf_2 rfl) [0, 1, 2, 3] [] [0, 1, 2, 3] rfl rfl rfl rfl (by decide) rfl (fun _ _ => rfl) (k' := 0) (n' := 0) rfl rfl rfl (fun r_1 _ _ h => ?_)
  refine v_if_eq C 17 8 h dX0_membersOf_5 (by decide) rfl (fun _ h => ?_) (fun _ h => ?_)
  · refine v_iconst (pc' := 18) C (0) dX0_membersOf_17 ic_0 rfl ?_
    exact v_iret (rf := fun (o9 : Int32) => o9) (Wf := fun (o9 : Int32) (u9 : Unit) => wF g aF zF) (ok := fun (o9 : Int32) (u9 : Unit) => True) C Cr h hQ () trivial rfl rfl dX0_membersOf_18
  · refine v_aload_n (pc' := 9) C 0 dX0_membersOf_8 rfl rfl ?_
    refine g_F_members (pc' := 12) C 0 in_X0_membersOf_0 rfl k_X0_membersOf_1 rfl dX0_membersOf_9 rfl ?_
    refine v_iload_n (pc' := 13) C 1 dX0_membersOf_12 rfl rfl ?_
    refine v_iald (pc' := 14) C h 2 rfl dX0_membersOf_13 rfl (fun e_2 h => ?_)
    refine v_goto C (pc' := 18) dX0_membersOf_14 (by decide) ?_
    exact v_iret (rf := fun (o9 : Int32) => o9) (Wf := fun (o9 : Int32) (u9 : Unit) => wF g aF zF) (ok := fun (o9 : Int32) (u9 : Unit) => True) C Cr h hQ () trivial rfl rfl dX0_membersOf_18
def f_X0_betterThan_L4 (zF : Fm) (p1 : Int32) (re4 : Int32 → Int32 → Option (Int32)) (v2_1 : Int32) (v3_2 : Int32) : Option (Int32) :=
  if v3_2 < (F_count zF) then Option.bind (f_X0_isBetter zF v3_2 p1) fun r_3 =>
  if r_3 = 0 then lett (v3_2 + (1 : Int32)) fun v3_4 =>
  re4 v2_1 v3_4
  else lett (v2_1 + (1 : Int32)) fun v2_5 =>
  lett (v3_2 + (1 : Int32)) fun v3_6 =>
  re4 v2_5 v3_6
  else some v2_1
def f_X0_betterThan (zF : Fm) (p1 : Int32) : Option (Int32) :=
  loop2 (f_X0_betterThan_L4 zF p1) FU (0 : Int32) (0 : Int32)
abbrev rm_X0_betterThan : Room := { frames := 3, cells := 0, slots := 0, locals := 66 }
theorem in_X0_betterThan_0 : ∀ w ∈ wsX00, w ∈ wsX0_betterThan := fun _ h => List.mem_cons_of_mem _ (List.mem_append_right _ h)
theorem k_X0_betterThan_1 : Cond.fieldLink RX0 21 "DodgingHangman$Families" "count" "I" ∈ wsX0_betterThan := List.mem_of_getElem? (i := 1) rfl
theorem nd_X0_betterThan : yX0_betterThan.cls ≠ "java/lang/invoke/MethodHandle" ∧ yX0_betterThan.cls ≠ "java/lang/invoke/VarHandle" ∧ (parseMethodDescriptor yX0_betterThan.desc).map (fun d => d.parameters.length) = some 1 := by decide +kernel
set_option maxHeartbeats 4000000 in
set_option maxRecDepth 100000 in
theorem c_X0_betterThan (l : Launch) (g : Gv) (aF : RA) (zF : Fm) (p1 : Int32) (o : Int32) (h : f_X0_betterThan zF p1 = some o) : Ct l g yX0_betterThan wsX0_betterThan rm_X0_betterThan [.ref aF.1, .int p1] (wF g aF zF) (Qi g o (fun _ : Unit => wF g aF zF) (fun _ => True)) := by
  refine enter (ret := (some .int)) (X := wF g aF zF) (pl := []) pn_X0 rfl (Nat.le_of_ble_eq_true rfl) ((List.append_nil _).symm) ?_
  intro p e s m args below meth c A Q C Cr hin hQ
  unfold f_X0_betterThan at h
  refine v_iconst (pc' := 1) C (0) dX0_betterThan_0 ic_0 rfl ?_
  refine v_istore_n (pc' := 2) C [1, 2, 0] (lv' := [(0, .ref aF.1), (1, .int p1), (2, .int (0 : Int32))]) dX0_betterThan_1 (Nat.le_of_ble_eq_true rfl) rfl rfl ?_
  refine v_iconst (pc' := 3) C (0) dX0_betterThan_2 ic_0 rfl ?_
  refine v_istore_n (pc' := 4) C [1, 2, 3, 0] (lv' := [(0, .ref aF.1), (1, .int p1), (2, .int (0 : Int32)), (3, .int (0 : Int32))]) dX0_betterThan_3 (Nat.le_of_ble_eq_true rfl) rfl rfl ?_
  refine v_loop2 (fun (v2_1 : Int32) (v3_2 : Int32) => V p l e rm_X0_betterThan s m args below meth c g 4 A 0 0 Q (wF g aF zF) [] [(0, .ref aF.1), (1, .int p1), (2, .int v2_1), (3, .int v3_2)] 4 []) (fun re4 ih4 v2_1 v3_2 h => ?_) (0 : Int32) (0 : Int32) h
  unfold f_X0_betterThan_L4 at h
  refine v_iload_n (pc' := 5) C 3 dX0_betterThan_4 rfl rfl ?_
  refine v_aload_n (pc' := 6) C 0 dX0_betterThan_5 rfl rfl ?_
  refine g_F_count (pc' := 9) C 0 in_X0_betterThan_0 rfl k_X0_betterThan_1 rfl dX0_betterThan_6 rfl ?_
  refine v_icmp_ge C 30 12 h dX0_betterThan_9 (by decide) rfl (fun _ h => ?_) (fun _ h => ?_)
  · refine v_iload_n (pc' := 31) C 2 dX0_betterThan_30 rfl rfl ?_
    exact v_iret (rf := fun (o9 : Int32) => o9) (Wf := fun (o9 : Int32) (u9 : Unit) => wF g aF zF) (ok := fun (o9 : Int32) (u9 : Unit) => True) C Cr h hQ () trivial rfl rfl dX0_betterThan_31
  · refine v_aload_n (pc' := 13) C 0 dX0_betterThan_12 rfl rfl ?_
    refine v_iload_n (pc' := 14) C 3 dX0_betterThan_13 rfl rfl ?_
    refine v_iload_n (pc' := 15) C 1 dX0_betterThan_14 rfl rfl ?_
    refine v_calli (pc' := 18) C h (rf := fun r9 => r9) ([]) (fun r9 (u9 : Unit) => wF g aF zF) (fun r hr => run_V C (c_X0_isBetter l g aF _ _ _ r hr) gX0_betterThan_X0_isBetter rfl nd_X0_isBetter rfl rfl rfl rfl ⟨Nat.le_of_ble_eq_true rfl, Nat.le_of_ble_eq_true rfl⟩ ⟨Nat.le_of_ble_eq_true rfl, Nat.le_of_ble_eq_true rfl⟩ (Nat.le_of_ble_eq_true rfl) dX0_betterThan_15 rfl) [0, 1, 2, 3] [] [0, 1, 2, 3] rfl rfl rfl rfl (by decide) rfl (fun _ _ => rfl) (k' := 0) (n' := 0) rfl rfl rfl (fun r_3 _ _ h => ?_)
    refine v_if_eq C 24 21 h dX0_betterThan_18 (by decide) rfl (fun _ h => ?_) (fun _ h => ?_)
    · refine v_iinc (pc' := 27) C 3 [1, 2, 3, 0] (1) dX0_betterThan_24 rfl ic_1 (Nat.le_of_ble_eq_true rfl) h (lw := fun v9 => [(0, .ref aF.1), (1, .int p1), (2, .int v2_1), (3, .int v9)]) (fun _ => rfl) rfl (fun v3_4 h => ?_)
      refine v_goto C (pc' := 4) dX0_betterThan_27 (by decide) ?_
      exact ih4 v2_1 v3_4 h
    · refine v_iinc (pc' := 24) C 2 [1, 2, 0, 3] (1) dX0_betterThan_21 rfl ic_1 (Nat.le_of_ble_eq_true rfl) h (lw := fun v9 => [(0, .ref aF.1), (1, .int p1), (2, .int v9), (3, .int v3_2)]) (fun _ => rfl) rfl (fun v2_5 h => ?_)
      refine v_iinc (pc' := 27) C 3 [1, 2, 3, 0] (1) dX0_betterThan_24 rfl ic_1 (Nat.le_of_ble_eq_true rfl) h (lw := fun v9 => [(0, .ref aF.1), (1, .int p1), (2, .int v2_5), (3, .int v9)]) (fun _ => rfl) rfl (fun v3_6 h => ?_)
      refine v_goto C (pc' := 4) dX0_betterThan_27 (by decide) ?_
      exact ih4 v2_5 v3_6 h
def f_X0_ranked_L2 (zF : Fm) (p1 : Int32) (re2 : Int32 → Option (Int32)) (v2_1 : Int32) : Option (Int32) :=
  if v2_1 < (F_count zF) then Option.bind (f_X0_betterThan zF v2_1) fun r_2 =>
  if r_2 = p1 then some v2_1
  else lett (v2_1 + (1 : Int32)) fun v2_3 =>
  re2 v2_3
  else some (-1 : Int32)
def f_X0_ranked (zF : Fm) (p1 : Int32) : Option (Int32) :=
  loop1 (f_X0_ranked_L2 zF p1) FU (0 : Int32)
abbrev rm_X0_ranked : Room := { frames := 4, cells := 0, slots := 0, locals := 89 }
theorem in_X0_ranked_0 : ∀ w ∈ wsX00, w ∈ wsX0_ranked := fun _ h => List.mem_cons_of_mem _ (List.mem_append_right _ h)
theorem k_X0_ranked_1 : Cond.fieldLink RX0 21 "DodgingHangman$Families" "count" "I" ∈ wsX0_ranked := List.mem_of_getElem? (i := 1) rfl
theorem nd_X0_ranked : yX0_ranked.cls ≠ "java/lang/invoke/MethodHandle" ∧ yX0_ranked.cls ≠ "java/lang/invoke/VarHandle" ∧ (parseMethodDescriptor yX0_ranked.desc).map (fun d => d.parameters.length) = some 1 := by decide +kernel
set_option maxHeartbeats 4000000 in
set_option maxRecDepth 100000 in
theorem c_X0_ranked (l : Launch) (g : Gv) (aF : RA) (zF : Fm) (p1 : Int32) (o : Int32) (h : f_X0_ranked zF p1 = some o) : Ct l g yX0_ranked wsX0_ranked rm_X0_ranked [.ref aF.1, .int p1] (wF g aF zF) (Qi g o (fun _ : Unit => wF g aF zF) (fun _ => True)) := by
  refine enter (ret := (some .int)) (X := wF g aF zF) (pl := []) pn_X0 rfl (Nat.le_of_ble_eq_true rfl) ((List.append_nil _).symm) ?_
  intro p e s m args below meth c A Q C Cr hin hQ
  unfold f_X0_ranked at h
  refine v_iconst (pc' := 1) C (0) dX0_ranked_0 ic_0 rfl ?_
  refine v_istore_n (pc' := 2) C [1, 2, 0] (lv' := [(0, .ref aF.1), (1, .int p1), (2, .int (0 : Int32))]) dX0_ranked_1 (Nat.le_of_ble_eq_true rfl) rfl rfl ?_
  refine v_loop1 (fun (v2_1 : Int32) => V p l e rm_X0_ranked s m args below meth c g 3 A 0 0 Q (wF g aF zF) [] [(0, .ref aF.1), (1, .int p1), (2, .int v2_1)] 2 []) (fun re2 ih2 v2_1 h => ?_) (0 : Int32) h
  unfold f_X0_ranked_L2 at h
  refine v_iload_n (pc' := 3) C 2 dX0_ranked_2 rfl rfl ?_
  refine v_aload_n (pc' := 4) C 0 dX0_ranked_3 rfl rfl ?_
  refine g_F_count (pc' := 7) C 0 in_X0_ranked_0 rfl k_X0_ranked_1 rfl dX0_ranked_4 rfl ?_
  refine v_icmp_ge C 27 10 h dX0_ranked_7 (by decide) rfl (fun _ h => ?_) (fun _ h => ?_)
  · refine v_iconst (pc' := 28) C (-1) dX0_ranked_27 ic_m1 rfl ?_
    exact v_iret (rf := fun (o9 : Int32) => o9) (Wf := fun (o9 : Int32) (u9 : Unit) => wF g aF zF) (ok := fun (o9 : Int32) (u9 : Unit) => True) C Cr h hQ () trivial rfl rfl dX0_ranked_28
  · refine v_aload_n (pc' := 11) C 0 dX0_ranked_10 rfl rfl ?_
    refine v_iload_n (pc' := 12) C 2 dX0_ranked_11 rfl rfl ?_
    refine v_calli (pc' := 15) C h (rf := fun r9 => r9) ([]) (fun r9 (u9 : Unit) => wF g aF zF) (fun r hr => run_V C (c_X0_betterThan l g aF _ _ r hr) gX0_ranked_X0_betterThan rfl nd_X0_betterThan rfl rfl rfl rfl ⟨Nat.le_of_ble_eq_true rfl, Nat.le_of_ble_eq_true rfl⟩ ⟨Nat.le_of_ble_eq_true rfl, Nat.le_of_ble_eq_true rfl⟩ (Nat.le_of_ble_eq_true rfl) dX0_ranked_12 rfl) [0, 1, 2, 3] [] [0, 1, 2, 3] rfl rfl rfl rfl (by decide) rfl (fun _ _ => rfl) (k' := 0) (n' := 0) rfl rfl rfl (fun r_2 _ _ h => ?_)
    refine v_iload_n (pc' := 16) C 1 dX0_ranked_15 rfl rfl ?_
    refine v_icmp_ne C 21 19 h dX0_ranked_16 (by decide) rfl (fun _ h => ?_) (fun _ h => ?_)
    · refine v_iinc (pc' := 24) C 2 [1, 2, 0] (1) dX0_ranked_21 rfl ic_1 (Nat.le_of_ble_eq_true rfl) h (lw := fun v9 => [(0, .ref aF.1), (1, .int p1), (2, .int v9)]) (fun _ => rfl) rfl (fun v2_3 h => ?_)
      refine v_goto C (pc' := 2) dX0_ranked_24 (by decide) ?_
      exact ih2 v2_3 h
    · refine v_iload_n (pc' := 20) C 2 dX0_ranked_19 rfl rfl ?_
      exact v_iret (rf := fun (o9 : Int32) => o9) (Wf := fun (o9 : Int32) (u9 : Unit) => wF g aF zF) (ok := fun (o9 : Int32) (u9 : Unit) => True) C Cr h hQ () trivial rfl rfl dX0_ranked_20
def f_X0_squares_L4 (zF : Fm) (re4 : Int32 → Int32 → Option (Int32)) (v1_1 : Int32) (v2_2 : Int32) : Option (Int32) :=
  if v2_2 < (F_count zF) then Option.bind (f_X0_sizeOf zF v2_2) fun r_3 =>
  Option.bind (f_X0_sizeOf zF v2_2) fun r_4 =>
  lett (v1_1 + (r_3 * r_4)) fun v1_5 =>
  lett (v2_2 + (1 : Int32)) fun v2_6 =>
  re4 v1_5 v2_6
  else some v1_1
def f_X0_squares (zF : Fm)  : Option (Int32) :=
  loop2 (f_X0_squares_L4 zF) FU (0 : Int32) (0 : Int32)
abbrev rm_X0_squares : Room := { frames := 2, cells := 0, slots := 0, locals := 42 }
theorem in_X0_squares_0 : ∀ w ∈ wsX00, w ∈ wsX0_squares := fun _ h => List.mem_cons_of_mem _ (List.mem_append_right _ h)
theorem k_X0_squares_1 : Cond.fieldLink RX0 21 "DodgingHangman$Families" "count" "I" ∈ wsX0_squares := List.mem_of_getElem? (i := 1) rfl
theorem nd_X0_squares : yX0_squares.cls ≠ "java/lang/invoke/MethodHandle" ∧ yX0_squares.cls ≠ "java/lang/invoke/VarHandle" ∧ (parseMethodDescriptor yX0_squares.desc).map (fun d => d.parameters.length) = some 0 := by decide +kernel
set_option maxHeartbeats 4000000 in
set_option maxRecDepth 100000 in
theorem c_X0_squares (l : Launch) (g : Gv) (aF : RA) (zF : Fm)  (o : Int32) (h : f_X0_squares zF  = some o) : Ct l g yX0_squares wsX0_squares rm_X0_squares [.ref aF.1] (wF g aF zF) (Qi g o (fun _ : Unit => wF g aF zF) (fun _ => True)) := by
  refine enter (ret := (some .int)) (X := wF g aF zF) (pl := []) pn_X0 rfl (Nat.le_of_ble_eq_true rfl) ((List.append_nil _).symm) ?_
  intro p e s m args below meth c A Q C Cr hin hQ
  unfold f_X0_squares at h
  refine v_iconst (pc' := 1) C (0) dX0_squares_0 ic_0 rfl ?_
  refine v_istore_n (pc' := 2) C [1, 0] (lv' := [(0, .ref aF.1), (1, .int (0 : Int32))]) dX0_squares_1 (Nat.le_of_ble_eq_true rfl) rfl rfl ?_
  refine v_iconst (pc' := 3) C (0) dX0_squares_2 ic_0 rfl ?_
  refine v_istore_n (pc' := 4) C [1, 2, 0] (lv' := [(0, .ref aF.1), (1, .int (0 : Int32)), (2, .int (0 : Int32))]) dX0_squares_3 (Nat.le_of_ble_eq_true rfl) rfl rfl ?_
  refine v_loop2 (fun (v1_1 : Int32) (v2_2 : Int32) => V p l e rm_X0_squares s m args below meth c g 3 A 0 0 Q (wF g aF zF) [] [(0, .ref aF.1), (1, .int v1_1), (2, .int v2_2)] 4 []) (fun re4 ih4 v1_1 v2_2 h => ?_) (0 : Int32) (0 : Int32) h
  unfold f_X0_squares_L4 at h
  refine v_iload_n (pc' := 5) C 2 dX0_squares_4 rfl rfl ?_
  refine v_aload_n (pc' := 6) C 0 dX0_squares_5 rfl rfl ?_
  refine g_F_count (pc' := 9) C 0 in_X0_squares_0 rfl k_X0_squares_1 rfl dX0_squares_6 rfl ?_
  refine v_icmp_ge C 32 12 h dX0_squares_9 (by decide) rfl (fun _ h => ?_) (fun _ h => ?_)
  · refine v_iload_n (pc' := 33) C 1 dX0_squares_32 rfl rfl ?_
    exact v_iret (rf := fun (o9 : Int32) => o9) (Wf := fun (o9 : Int32) (u9 : Unit) => wF g aF zF) (ok := fun (o9 : Int32) (u9 : Unit) => True) C Cr h hQ () trivial rfl rfl dX0_squares_33
  · refine v_iload_n (pc' := 13) C 1 dX0_squares_12 rfl rfl ?_
    refine v_aload_n (pc' := 14) C 0 dX0_squares_13 rfl rfl ?_
    refine v_iload_n (pc' := 15) C 2 dX0_squares_14 rfl rfl ?_
    refine v_calli (pc' := 18) C h (rf := fun r9 => r9) ([]) (fun r9 (u9 : Unit) => wF g aF zF) (fun r hr => run_V C (c_X0_sizeOf l g aF _ _ r hr) gX0_squares_X0_sizeOf rfl nd_X0_sizeOf rfl rfl rfl rfl ⟨Nat.le_of_ble_eq_true rfl, Nat.le_of_ble_eq_true rfl⟩ ⟨Nat.le_of_ble_eq_true rfl, Nat.le_of_ble_eq_true rfl⟩ (Nat.le_of_ble_eq_true rfl) dX0_squares_15 rfl) [0, 1, 2, 3] [] [0, 1, 2, 3] rfl rfl rfl rfl (by decide) rfl (fun _ _ => rfl) (k' := 0) (n' := 0) rfl rfl rfl (fun r_3 _ _ h => ?_)
    refine v_aload_n (pc' := 19) C 0 dX0_squares_18 rfl rfl ?_
    refine v_iload_n (pc' := 20) C 2 dX0_squares_19 rfl rfl ?_
    refine v_calli (pc' := 23) C h (rf := fun r9 => r9) ([]) (fun r9 (u9 : Unit) => wF g aF zF) (fun r hr => run_V C (c_X0_sizeOf l g aF _ _ r hr) gX0_squares_X0_sizeOf rfl nd_X0_sizeOf rfl rfl rfl rfl ⟨Nat.le_of_ble_eq_true rfl, Nat.le_of_ble_eq_true rfl⟩ ⟨Nat.le_of_ble_eq_true rfl, Nat.le_of_ble_eq_true rfl⟩ (Nat.le_of_ble_eq_true rfl) dX0_squares_20 rfl) [0, 1, 2, 3] [] [0, 1, 2, 3] rfl rfl rfl rfl (by decide) rfl (fun _ _ => rfl) (k' := 0) (n' := 0) rfl rfl rfl (fun r_4 _ _ h => ?_)
    refine v_imul (pc' := 24) C dX0_squares_23 rfl ?_
    refine v_iadd (pc' := 25) C dX0_squares_24 rfl ?_
    refine v_leti h (fun v1_5 h => ?_)
    refine v_istore_n (pc' := 26) C [1, 0, 2] (lv' := [(0, .ref aF.1), (1, .int v1_5), (2, .int v2_2)]) dX0_squares_25 (Nat.le_of_ble_eq_true rfl) rfl rfl ?_
    refine v_iinc (pc' := 29) C 2 [1, 2, 0] (1) dX0_squares_26 rfl ic_1 (Nat.le_of_ble_eq_true rfl) h (lw := fun v9 => [(0, .ref aF.1), (1, .int v1_5), (2, .int v9)]) (fun _ => rfl) rfl (fun v2_6 h => ?_)
    refine v_goto C (pc' := 4) dX0_squares_29 (by decide) ?_
    exact ih4 v1_5 v2_6 h
