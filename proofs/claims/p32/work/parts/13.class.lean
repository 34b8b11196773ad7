def f_X5_type (zT : Tx) (p1 : Int32) : Option (Int32 × Tx) :=
  if p1 < (33 : Int32) then some ((-2 : Int32), zT)
  else if (126 : Int32) < p1 then some ((-2 : Int32), zT)
  else Option.bind (f_X3_append zT (((p1).toUInt32 % 65536).toInt32)) fun r_1 =>
  if r_1.1 = 0 then some ((-4 : Int32), r_1.2)
  else some ((T_length r_1.2), r_1.2)
abbrev rm_X5_type : Room := { frames := 1, cells := 0, slots := 0, locals := 21 }
theorem in_X5_type_3 : ∀ w ∈ wsX30, w ∈ wsX5_type := fun _ h => List.mem_cons_of_mem _ (List.mem_append_right _ h)
theorem in_X5_type_5 : ∀ w ∈ wsX50, w ∈ wsX5_type := fun _ h => List.mem_cons_of_mem _ (List.mem_append_left _ (List.mem_append_right _ h))
theorem k_X5_type_1 : Cond.fieldLink RX5 10 "DodgingHangman" "text" "LDodgingHangman$Text;" ∈ wsX5_type := List.mem_of_getElem? (i := 1) rfl
theorem nd_X5_type : yX5_type.cls ≠ "java/lang/invoke/MethodHandle" ∧ yX5_type.cls ≠ "java/lang/invoke/VarHandle" ∧ (parseMethodDescriptor yX5_type.desc).map (fun d => d.parameters.length) = some 1 := by decide +kernel
set_option maxHeartbeats 4000000 in
set_option maxRecDepth 100000 in
theorem c_X5_type (l : Launch) (g : Gv) (aQ : Nat) (aT : A3) (aN : RA) (aV : A2) (aD aF : RA) (zT : Tx) (p1 : Int32) (o : Int32 × Tx) (h : f_X5_type zT p1 = some o) : Ct l g yX5_type wsX5_type rm_X5_type [.ref aQ, .int p1] (wQ aQ aT aN aV aD aF ++ wT g aT zT) (Qi g o.1 (fun _ : Unit => wQ aQ aT aN aV aD aF ++ wT g aT o.2) (fun _ => True)) := by
  refine enter (ret := (some .int)) (X := wQ aQ aT aN aV aD aF ++ wT g aT zT) (pl := []) pn_X5 rfl (Nat.le_of_ble_eq_true rfl) ((List.append_nil _).symm) ?_
  intro p e s m args below meth c A Q C Cr hin hQ
  unfold f_X5_type at h
  refine v_iload_n (pc' := 1) C 1 dX5_type_0 rfl rfl ?_
  refine v_bipush (pc' := 3) C (33) dX5_type_1 bc_33 rfl ?_
  refine v_icmp_lt C 12 6 h dX5_type_3 (by decide) rfl (fun _ h => ?_) (fun _ h => ?_)
  · refine v_bipush (pc' := 14) C (-2) dX5_type_12 bc_m2 rfl ?_
    exact v_iret (rf := fun (o9 : Int32 × Tx) => o9.1) (Wf := fun (o9 : Int32 × Tx) (u9 : Unit) => wQ aQ aT aN aV aD aF ++ wT g aT o9.2) (ok := fun (o9 : Int32 × Tx) (u9 : Unit) => True) C Cr h hQ () trivial rfl rfl dX5_type_14
  · refine v_iload_n (pc' := 7) C 1 dX5_type_6 rfl rfl ?_
    refine v_bipush (pc' := 9) C (126) dX5_type_7 bc_126 rfl ?_
    refine v_icmp_le C 15 12 h dX5_type_9 (by decide) rfl (fun _ h => ?_) (fun _ h => ?_)
    · refine v_aload_n (pc' := 16) C 0 dX5_type_15 rfl rfl ?_
      refine g_Q_text (pc' := 19) C 0 in_X5_type_5 rfl k_X5_type_1 rfl dX5_type_16 rfl ?_
      refine v_iload_n (pc' := 20) C 1 dX5_type_19 rfl rfl ?_
      refine v_i2c (pc' := 21) C dX5_type_20 rfl ?_
      refine v_calli (pc' := 24) C h (rf := fun r9 => r9.1) (wQ aQ aT aN aV aD aF) (fun r9 (u9 : Unit) => wQ aQ aT aN aV aD aF ++ wT g aT r9.2) (fun r hr => run_V C (c_X3_append l g aT _ _ r hr) gX5_type_X3_append rfl nd_X3_append rfl rfl rfl rfl ⟨Nat.le_of_ble_eq_true rfl, Nat.le_of_ble_eq_true rfl⟩ ⟨Nat.le_of_ble_eq_true rfl, Nat.le_of_ble_eq_true rfl⟩ (Nat.le_of_ble_eq_true rfl) dX5_type_21 rfl) [1, 2, 3] [0] [0, 1, 2, 3] rfl rfl rfl rfl (by decide) rfl (fun _ _ => rfl) (k' := 0) (n' := 0) rfl rfl rfl (fun r_1 _ _ h => ?_)
      refine v_if_eq C 37 27 h dX5_type_24 (by decide) rfl (fun _ h => ?_) (fun _ h => ?_)
      · refine v_bipush (pc' := 39) C (-4) dX5_type_37 bc_m4 rfl ?_
        exact v_iret (rf := fun (o9 : Int32 × Tx) => o9.1) (Wf := fun (o9 : Int32 × Tx) (u9 : Unit) => wQ aQ aT aN aV aD aF ++ wT g aT o9.2) (ok := fun (o9 : Int32 × Tx) (u9 : Unit) => True) C Cr h hQ () trivial rfl rfl dX5_type_39
      · refine v_aload_n (pc' := 28) C 0 dX5_type_27 rfl rfl ?_
        refine g_Q_text (pc' := 31) C 0 in_X5_type_5 rfl k_X5_type_1 rfl dX5_type_28 rfl ?_
        refine gN_T_length (pc' := 34) C 1 in_X5_type_3 rfl (List.mem_of_getElem? (i := 0) rfl) rfl dX5_type_31 rfl ?_
        refine v_goto C (pc' := 39) dX5_type_34 (by decide) ?_
        exact v_iret (rf := fun (o9 : Int32 × Tx) => o9.1) (Wf := fun (o9 : Int32 × Tx) (u9 : Unit) => wQ aQ aT aN aV aD aF ++ wT g aT o9.2) (ok := fun (o9 : Int32 × Tx) (u9 : Unit) => True) C Cr h hQ () trivial rfl rfl dX5_type_39
    · refine v_bipush (pc' := 14) C (-2) dX5_type_12 bc_m2 rfl ?_
      exact v_iret (rf := fun (o9 : Int32 × Tx) => o9.1) (Wf := fun (o9 : Int32 × Tx) (u9 : Unit) => wQ aQ aT aN aV aD aF ++ wT g aT o9.2) (ok := fun (o9 : Int32 × Tx) (u9 : Unit) => True) C Cr h hQ () trivial rfl rfl dX5_type_14
def f_X5_clearText (zT : Tx)  : Option (Int32 × Tx) :=
  lett (T_length zT) fun v1_1 =>
  Option.bind (f_X3_empty zT) fun r_2 =>
  some (v1_1, r_2)
abbrev rm_X5_clearText : Room := { frames := 1, cells := 0, slots := 0, locals := 20 }
theorem in_X5_clearText_3 : ∀ w ∈ wsX30, w ∈ wsX5_clearText := fun _ h => List.mem_cons_of_mem _ (List.mem_append_right _ h)
theorem in_X5_clearText_5 : ∀ w ∈ wsX50, w ∈ wsX5_clearText := fun _ h => List.mem_cons_of_mem _ (List.mem_append_left _ (List.mem_append_right _ h))
theorem k_X5_clearText_1 : Cond.fieldLink RX5 10 "DodgingHangman" "text" "LDodgingHangman$Text;" ∈ wsX5_clearText := List.mem_of_getElem? (i := 1) rfl
theorem nd_X5_clearText : yX5_clearText.cls ≠ "java/lang/invoke/MethodHandle" ∧ yX5_clearText.cls ≠ "java/lang/invoke/VarHandle" ∧ (parseMethodDescriptor yX5_clearText.desc).map (fun d => d.parameters.length) = some 0 := by decide +kernel
set_option maxHeartbeats 4000000 in
set_option maxRecDepth 100000 in
theorem c_X5_clearText (l : Launch) (g : Gv) (aQ : Nat) (aT : A3) (aN : RA) (aV : A2) (aD aF : RA) (zT : Tx)  (o : Int32 × Tx) (h : f_X5_clearText zT  = some o) : Ct l g yX5_clearText wsX5_clearText rm_X5_clearText [.ref aQ] (wQ aQ aT aN aV aD aF ++ wT g aT zT) (Qi g o.1 (fun _ : Unit => wQ aQ aT aN aV aD aF ++ wT g aT o.2) (fun _ => True)) := by
  refine enter (ret := (some .int)) (X := wQ aQ aT aN aV aD aF ++ wT g aT zT) (pl := []) pn_X5 rfl (Nat.le_of_ble_eq_true rfl) ((List.append_nil _).symm) ?_
  intro p e s m args below meth c A Q C Cr hin hQ
  unfold f_X5_clearText at h
  refine v_aload_n (pc' := 1) C 0 dX5_clearText_0 rfl rfl ?_
  refine g_Q_text (pc' := 4) C 0 in_X5_clearText_5 rfl k_X5_clearText_1 rfl dX5_clearText_1 rfl ?_
  refine gN_T_length (pc' := 7) C 1 in_X5_clearText_3 rfl (List.mem_of_getElem? (i := 0) rfl) rfl dX5_clearText_4 rfl ?_
  refine v_leti h (fun v1_1 h => ?_)
  refine v_istore_n (pc' := 8) C [1, 0] (lv' := [(0, .ref aQ), (1, .int v1_1)]) dX5_clearText_7 (Nat.le_of_ble_eq_true rfl) rfl rfl ?_
  refine v_aload_n (pc' := 9) C 0 dX5_clearText_8 rfl rfl ?_
  refine g_Q_text (pc' := 12) C 0 in_X5_clearText_5 rfl k_X5_clearText_1 rfl dX5_clearText_9 rfl ?_
  refine v_callv (pc' := 15) C h (wQ aQ aT aN aV aD aF) (fun r9 (u9 : Unit) => wQ aQ aT aN aV aD aF ++ wT g aT r9) (fun r hr => run_V C (c_X3_empty l g aT _ r hr) gX5_clearText_X3_empty rfl nd_X3_empty rfl rfl rfl rfl ⟨Nat.le_of_ble_eq_true rfl, Nat.le_of_ble_eq_true rfl⟩ ⟨Nat.le_of_ble_eq_true rfl, Nat.le_of_ble_eq_true rfl⟩ (Nat.le_of_ble_eq_true rfl) dX5_clearText_12 rfl) [1, 2, 3] [0] [0, 1, 2, 3] rfl rfl rfl rfl (by decide) rfl (fun _ _ => rfl) (k' := 0) (n' := 0) rfl rfl rfl (fun r_2 _ _ h => ?_)
  refine v_iload_n (pc' := 16) C 1 dX5_clearText_15 rfl rfl ?_
  exact v_iret (rf := fun (o9 : Int32 × Tx) => o9.1) (Wf := fun (o9 : Int32 × Tx) (u9 : Unit) => wQ aQ aT aN aV aD aF ++ wT g aT o9.2) (ok := fun (o9 : Int32 × Tx) (u9 : Unit) => True) C Cr h hQ () trivial rfl rfl dX5_clearText_16
def f_X5_syntaxError (zT : Tx)  : Option (Int32) :=
  Option.bind (f_X3_firstError zT) fun r_1 =>
  some r_1
abbrev rm_X5_syntaxError : Room := { frames := 2, cells := 0, slots := 0, locals := 44 }
theorem in_X5_syntaxError_5 : ∀ w ∈ wsX50, w ∈ wsX5_syntaxError := fun _ h => List.mem_cons_of_mem _ (List.mem_append_left _ (List.mem_append_right _ h))
theorem k_X5_syntaxError_1 : Cond.fieldLink RX5 10 "DodgingHangman" "text" "LDodgingHangman$Text;" ∈ wsX5_syntaxError := List.mem_of_getElem? (i := 1) rfl
theorem nd_X5_syntaxError : yX5_syntaxError.cls ≠ "java/lang/invoke/MethodHandle" ∧ yX5_syntaxError.cls ≠ "java/lang/invoke/VarHandle" ∧ (parseMethodDescriptor yX5_syntaxError.desc).map (fun d => d.parameters.length) = some 0 := by decide +kernel
set_option maxHeartbeats 4000000 in
set_option maxRecDepth 100000 in
theorem c_X5_syntaxError (l : Launch) (g : Gv) (aQ : Nat) (aT : A3) (aN : RA) (aV : A2) (aD aF : RA) (zT : Tx)  (o : Int32) (h : f_X5_syntaxError zT  = some o) : Ct l g yX5_syntaxError wsX5_syntaxError rm_X5_syntaxError [.ref aQ] (wQ aQ aT aN aV aD aF ++ wT g aT zT) (Qi g o (fun _ : Unit => wQ aQ aT aN aV aD aF ++ wT g aT zT) (fun _ => True)) := by
  refine enter (ret := (some .int)) (X := wQ aQ aT aN aV aD aF ++ wT g aT zT) (pl := []) pn_X5 rfl (Nat.le_of_ble_eq_true rfl) ((List.append_nil _).symm) ?_
  intro p e s m args below meth c A Q C Cr hin hQ
  unfold f_X5_syntaxError at h
  refine v_aload_n (pc' := 1) C 0 dX5_syntaxError_0 rfl rfl ?_
  refine g_Q_text (pc' := 4) C 0 in_X5_syntaxError_5 rfl k_X5_syntaxError_1 rfl dX5_syntaxError_1 rfl ?_
  refine v_calli (pc' := 7) C h (rf := fun r9 => r9) (wQ aQ aT aN aV aD aF) (fun r9 (u9 : Unit) => wQ aQ aT aN aV aD aF ++ wT g aT zT) (fun r hr => run_V C (c_X3_firstError l g aT _ r hr) gX5_syntaxError_X3_firstError rfl nd_X3_firstError rfl rfl rfl rfl ⟨Nat.le_of_ble_eq_true rfl, Nat.le_of_ble_eq_true rfl⟩ ⟨Nat.le_of_ble_eq_true rfl, Nat.le_of_ble_eq_true rfl⟩ (Nat.le_of_ble_eq_true rfl) dX5_syntaxError_4 rfl) [1, 2, 3] [0] [0, 1, 2, 3] rfl rfl rfl rfl (by decide) rfl (fun _ _ => rfl) (k' := 0) (n' := 0) rfl rfl rfl (fun r_1 _ _ h => ?_)
  exact v_iret (rf := fun (o9 : Int32) => o9) (Wf := fun (o9 : Int32) (u9 : Unit) => wQ aQ aT aN aV aD aF ++ wT g aT zT) (ok := fun (o9 : Int32) (u9 : Unit) => True) C Cr h hQ () trivial rfl rfl dX5_syntaxError_7
def f_X5_addTextTo_L10 (r_1 : (Int32 × Tx)) (re10 : Int32 → St → Option (Int32 × Tx × St)) (v3_2 : Int32) (zS_3 : St) : Option (Int32 × Tx × St) :=
  if v3_2 < r_1.1 then Option.bind (f_X3_wordRead r_1.2 v3_2) fun r_4 =>
  Option.bind (f_X2_isInList zS_3 r_4) fun r_5 =>
  if r_5 = 0 then Option.bind (f_X2_insert zS_3 r_4) fun r_7 =>
  if r_7.1 = 0 then some ((0 : Int32), r_1.2, r_7.2)
  else lett (v3_2 + (1 : Int32)) fun v3_8 =>
  re10 v3_8 r_7.2
  else lett (v3_2 + (1 : Int32)) fun v3_6 =>
  re10 v3_6 zS_3
  else some ((1 : Int32), r_1.2, zS_3)
def f_X5_addTextTo (zT : Tx) (zS : St)  : Option (Int32 × Tx × St) :=
  Option.bind (f_X3_readWords zT) fun r_1 =>
  loop2 (f_X5_addTextTo_L10 r_1) FU (0 : Int32) zS
abbrev rm_X5_addTextTo : Room := { frames := 4, cells := 0, slots := 0, locals := 87 }
theorem in_X5_addTextTo_5 : ∀ w ∈ wsX50, w ∈ wsX5_addTextTo := fun _ h => List.mem_cons_of_mem _ (List.mem_append_left _ (List.mem_append_left _ (List.mem_append_right _ h)))
theorem k_X5_addTextTo_1 : Cond.fieldLink RX5 10 "DodgingHangman" "text" "LDodgingHangman$Text;" ∈ wsX5_addTextTo := List.mem_of_getElem? (i := 1) rfl
theorem nd_X5_addTextTo : yX5_addTextTo.cls ≠ "java/lang/invoke/MethodHandle" ∧ yX5_addTextTo.cls ≠ "java/lang/invoke/VarHandle" ∧ (parseMethodDescriptor yX5_addTextTo.desc).map (fun d => d.parameters.length) = some 1 := by decide +kernel
set_option maxHeartbeats 4000000 in
set_option maxRecDepth 100000 in
theorem c_X5_addTextTo (l : Launch) (g : Gv) (aQ : Nat) (aT : A3) (aN : RA) (aV : A2) (aD aF : RA) (aS : RA) (zT : Tx) (zS : St)  (o : Int32 × Tx × St) (h : f_X5_addTextTo zT zS  = some o) : Ct l g yX5_addTextTo wsX5_addTextTo rm_X5_addTextTo [.ref aQ, .ref aS.1] (wQ aQ aT aN aV aD aF ++ wT g aT zT ++ wS g aS zS) (Qi g o.1 (fun _ : Unit => wQ aQ aT aN aV aD aF ++ wT g aT o.2.1 ++ wS g aS o.2.2) (fun _ => True)) := by
  refine enter (ret := (some .boolean)) (X := wQ aQ aT aN aV aD aF ++ wT g aT zT ++ wS g aS zS) (pl := []) pn_X5 rfl (Nat.le_of_ble_eq_true rfl) ((List.append_nil _).symm) ?_
  intro p e s m args below meth c A Q C Cr hin hQ
  unfold f_X5_addTextTo at h
  refine v_aload_n (pc' := 1) C 0 dX5_addTextTo_0 rfl rfl ?_
  refine g_Q_text (pc' := 4) C 0 in_X5_addTextTo_5 rfl k_X5_addTextTo_1 rfl dX5_addTextTo_1 rfl ?_
  refine v_calli (pc' := 7) C h (rf := fun r9 => r9.1) (wQ aQ aT aN aV aD aF ++ wS g aS zS) (fun r9 (u9 : Unit) => wQ aQ aT aN aV aD aF ++ wT g aT r9.2 ++ wS g aS zS) (fun r hr => run_V C (c_X3_readWords l g aT _ r hr) gX5_addTextTo_X3_readWords rfl nd_X3_readWords rfl rfl rfl rfl ⟨Nat.le_of_ble_eq_true rfl, Nat.le_of_ble_eq_true rfl⟩ ⟨Nat.le_of_ble_eq_true rfl, Nat.le_of_ble_eq_true rfl⟩ (Nat.le_of_ble_eq_true rfl) dX5_addTextTo_4 rfl) [1, 2, 3] [0, 4, 5, 6, 7] [0, 5, 6, 7, 1, 2, 3, 4] rfl rfl rfl rfl (by decide) rfl (fun _ _ => rfl) (k' := 0) (n' := 0) rfl rfl rfl (fun r_1 _ _ h => ?_)
  refine v_istore_n (pc' := 8) C [1, 2, 0] (lv' := [(0, .ref aQ), (1, .ref aS.1), (2, .int r_1.1)]) dX5_addTextTo_7 (Nat.le_of_ble_eq_true rfl) rfl rfl ?_
  refine v_iconst (pc' := 9) C (0) dX5_addTextTo_8 ic_0 rfl ?_
  refine v_istore_n (pc' := 10) C [1, 2, 3, 0] (lv' := [(0, .ref aQ), (1, .ref aS.1), (2, .int r_1.1), (3, .int (0 : Int32))]) dX5_addTextTo_9 (Nat.le_of_ble_eq_true rfl) rfl rfl ?_
  refine v_loop2 (fun (v3_2 : Int32) (zS_3 : St) => V p l e rm_X5_addTextTo s m args below meth c g 6 A 0 0 Q (wQ aQ aT aN aV aD aF ++ wT g aT r_1.2 ++ wS g aS zS_3) [] [(0, .ref aQ), (1, .ref aS.1), (2, .int r_1.1), (3, .int v3_2)] 10 []) (fun re10 ih10 v3_2 zS_3 h => ?_) (0 : Int32) zS h
  unfold f_X5_addTextTo_L10 at h
  refine v_iload_n (pc' := 11) C 3 dX5_addTextTo_10 rfl rfl ?_
  refine v_iload_n (pc' := 12) C 2 dX5_addTextTo_11 rfl rfl ?_
  refine v_icmp_ge C 51 15 h dX5_addTextTo_12 (by decide) rfl (fun _ h => ?_) (fun _ h => ?_)
  · refine v_iconst (pc' := 52) C (1) dX5_addTextTo_51 ic_1 rfl ?_
    exact v_zret (rf := fun (o9 : Int32 × Tx × St) => o9.1) (Wf := fun (o9 : Int32 × Tx × St) (u9 : Unit) => wQ aQ aT aN aV aD aF ++ wT g aT o9.2.1 ++ wS g aS o9.2.2) (ok := fun (o9 : Int32 × Tx × St) (u9 : Unit) => True) C Cr h hQ () trivial rfl rfl (Or.inr rfl) dX5_addTextTo_52
  · refine v_aload_n (pc' := 16) C 0 dX5_addTextTo_15 rfl rfl ?_
    refine g_Q_text (pc' := 19) C 0 in_X5_addTextTo_5 rfl k_X5_addTextTo_1 rfl dX5_addTextTo_16 rfl ?_
    refine v_iload_n (pc' := 20) C 3 dX5_addTextTo_19 rfl rfl ?_
    refine v_calll (pc' := 23) C h (rf := fun r9 => r9) (wQ aQ aT aN aV aD aF ++ wS g aS zS_3) (fun r9 (u9 : Unit) => wQ aQ aT aN aV aD aF ++ wT g aT r_1.2 ++ wS g aS zS_3) (fun r hr => run_V C (c_X3_wordRead l g aT _ _ r hr) gX5_addTextTo_X3_wordRead rfl nd_X3_wordRead rfl rfl rfl rfl ⟨Nat.le_of_ble_eq_true rfl, Nat.le_of_ble_eq_true rfl⟩ ⟨Nat.le_of_ble_eq_true rfl, Nat.le_of_ble_eq_true rfl⟩ (Nat.le_of_ble_eq_true rfl) dX5_addTextTo_20 rfl) [1, 2, 3] [0, 4, 5, 6, 7] [0, 5, 6, 7, 1, 2, 3, 4] rfl rfl rfl rfl (by decide) rfl (fun _ _ => rfl) (k' := 0) (n' := 0) rfl rfl rfl (fun r_4 _ _ h => ?_)
    refine v_lstore (pc' := 25) C [1, 2, 3, 4, 0] (lv' := [(0, .ref aQ), (1, .ref aS.1), (2, .int r_1.1), (3, .int v3_2), (4, .long r_4)]) dX5_addTextTo_23 (Nat.le_of_ble_eq_true rfl) rfl rfl ?_
    refine v_aload_n (pc' := 26) C 1 dX5_addTextTo_25 rfl rfl ?_
    refine v_lload (pc' := 28) C 4 dX5_addTextTo_26 rfl rfl ?_
    refine v_calli (pc' := 31) C h (rf := fun r9 => r9) (wQ aQ aT aN aV aD aF ++ wT g aT r_1.2) (fun r9 (u9 : Unit) => wQ aQ aT aN aV aD aF ++ wT g aT r_1.2 ++ wS g aS zS_3) (fun r hr => run_V C (c_X2_isInList l g aS _ _ r hr) gX5_addTextTo_X2_isInList rfl nd_X2_isInList rfl rfl rfl rfl ⟨Nat.le_of_ble_eq_true rfl, Nat.le_of_ble_eq_true rfl⟩ ⟨Nat.le_of_ble_eq_true rfl, Nat.le_of_ble_eq_true rfl⟩ (Nat.le_of_ble_eq_true rfl) dX5_addTextTo_28 rfl) [4, 5, 6, 7] [0, 1, 2, 3] [0, 1, 2, 3, 4, 5, 6, 7] rfl rfl rfl rfl (by decide) rfl (fun _ _ => rfl) (k' := 0) (n' := 0) rfl rfl rfl (fun r_5 _ _ h => ?_)
    refine v_if_ne C 45 34 h dX5_addTextTo_31 (by decide) rfl (fun _ h => ?_) (fun _ h => ?_)
    · refine v_iinc (pc' := 48) C 3 [1, 2, 3, 0, 4] (1) dX5_addTextTo_45 rfl ic_1 (Nat.le_of_ble_eq_true rfl) h (lw := fun v9 => [(0, .ref aQ), (1, .ref aS.1), (2, .int r_1.1), (3, .int v9), (4, .long r_4)]) (fun _ => rfl) rfl (fun v3_6 h => ?_)
      refine v_goto C (pc' := 10) dX5_addTextTo_48 (by decide) ?_
      refine v_lv [0, 1, 2, 3] (lv' := [(0, .ref aQ), (1, .ref aS.1), (2, .int r_1.1), (3, .int v3_6)]) rfl ?_
      exact ih10 v3_6 zS_3 h
    · refine v_aload_n (pc' := 35) C 1 dX5_addTextTo_34 rfl rfl ?_
      refine v_lload (pc' := 37) C 4 dX5_addTextTo_35 rfl rfl ?_
      refine v_calli (pc' := 40) C h (rf := fun r9 => r9.1) (wQ aQ aT aN aV aD aF ++ wT g aT r_1.2) (fun r9 (u9 : Unit) => wQ aQ aT aN aV aD aF ++ wT g aT r_1.2 ++ wS g aS r9.2) (fun r hr => run_V C (c_X2_insert l g aS _ _ r hr) gX5_addTextTo_X2_insert rfl nd_X2_insert rfl rfl rfl rfl ⟨Nat.le_of_ble_eq_true rfl, Nat.le_of_ble_eq_true rfl⟩ ⟨Nat.le_of_ble_eq_true rfl, Nat.le_of_ble_eq_true rfl⟩ (Nat.le_of_ble_eq_true rfl) dX5_addTextTo_37 rfl) [4, 5, 6, 7] [0, 1, 2, 3] [0, 1, 2, 3, 4, 5, 6, 7] rfl rfl rfl rfl (by decide) rfl (fun _ _ => rfl) (k' := 0) (n' := 0) rfl rfl rfl (fun r_7 _ _ h => ?_)
      refine v_if_ne C 45 43 h dX5_addTextTo_40 (by decide) rfl (fun _ h => ?_) (fun _ h => ?_)
      · refine v_iinc (pc' := 48) C 3 [1, 2, 3, 0, 4] (1) dX5_addTextTo_45 rfl ic_1 (Nat.le_of_ble_eq_true rfl) h (lw := fun v9 => [(0, .ref aQ), (1, .ref aS.1), (2, .int r_1.1), (3, .int v9), (4, .long r_4)]) (fun _ => rfl) rfl (fun v3_8 h => ?_)
        refine v_goto C (pc' := 10) dX5_addTextTo_48 (by decide) ?_
        refine v_lv [0, 1, 2, 3] (lv' := [(0, .ref aQ), (1, .ref aS.1), (2, .int r_1.1), (3, .int v3_8)]) rfl ?_
        exact ih10 v3_8 r_7.2 h
      · refine v_iconst (pc' := 44) C (0) dX5_addTextTo_43 ic_0 rfl ?_
        exact v_zret (rf := fun (o9 : Int32 × Tx × St) => o9.1) (Wf := fun (o9 : Int32 × Tx × St) (u9 : Unit) => wQ aQ aT aN aV aD aF ++ wT g aT o9.2.1 ++ wS g aS o9.2.2) (ok := fun (o9 : Int32 × Tx × St) (u9 : Unit) => True) C Cr h hQ () trivial rfl rfl (Or.inl rfl) dX5_addTextTo_44
def f_X5_addWords (zT : Tx) (zN : St) (zV : Sv) (zD : St)  : Option (Int32 × Tx × St × Sv × St) :=
  Option.bind (f_X3_firstError zT) fun r_1 =>
  if r_1 = (-6 : Int32) then Option.bind (f_X2_isRunning zN) fun r_2 =>
  if r_2 = 0 then Option.bind (f_X2_copyFrom zD zN) fun r_3 =>
  Option.bind (f_X5_addTextTo zT r_3) fun r_4 =>
  if r_4.1 = 0 then some ((-4 : Int32), r_4.2.1, zN, zV, r_4.2.2)
  else lett ((S_wordCount r_4.2.2) - (S_wordCount zN)) fun v1_5 =>
  Option.bind (f_X1_push zV zN) fun r_6 =>
  Option.bind (f_X2_endWithoutGame r_4.2.2) fun r_8 =>
  Option.bind (f_X2_copyFrom zN r_8) fun r_9 =>
  Option.bind (f_X3_empty r_4.2.1) fun r_10 =>
  some (v1_5, r_10, r_9, r_6, r_8)
  else some ((-3 : Int32), zT, zN, zV, zD)
  else some ((-5 : Int32), zT, zN, zV, zD)
abbrev rm_X5_addWords : Room := { frames := 5, cells := 4, slots := 75, locals := 112 }
theorem in_X5_addWords_2 : ∀ w ∈ wsX20, w ∈ wsX5_addWords := fun _ h => List.mem_cons_of_mem _ (List.mem_append_left _ (List.mem_append_left _ (List.mem_append_right _ h)))
theorem in_X5_addWords_5 : ∀ w ∈ wsX50, w ∈ wsX5_addWords := fun _ h => List.mem_cons_of_mem _ (List.mem_append_left _ (List.mem_append_left _ (List.mem_append_left _ (List.mem_append_right _ h))))
theorem k_X5_addWords_1 : Cond.fieldLink RX5 10 "DodgingHangman" "text" "LDodgingHangman$Text;" ∈ wsX5_addWords := List.mem_of_getElem? (i := 1) rfl
theorem k_X5_addWords_2 : Cond.fieldLink RX5 19 "DodgingHangman" "now" "LDodgingHangman$State;" ∈ wsX5_addWords := List.mem_of_getElem? (i := 2) rfl
theorem k_X5_addWords_3 : Cond.fieldLink RX5 30 "DodgingHangman" "draft" "LDodgingHangman$State;" ∈ wsX5_addWords := List.mem_of_getElem? (i := 3) rfl
theorem k_X5_addWords_4 : Cond.fieldLink RX5 26 "DodgingHangman" "saved" "LDodgingHangman$SavedStates;" ∈ wsX5_addWords := List.mem_of_getElem? (i := 4) rfl
theorem nd_X5_addWords : yX5_addWords.cls ≠ "java/lang/invoke/MethodHandle" ∧ yX5_addWords.cls ≠ "java/lang/invoke/VarHandle" ∧ (parseMethodDescriptor yX5_addWords.desc).map (fun d => d.parameters.length) = some 0 := by decide +kernel
set_option maxHeartbeats 4000000 in
set_option maxRecDepth 100000 in
theorem c_X5_addWords (l : Launch) (g : Gv) (aQ : Nat) (aT : A3) (aN : RA) (aV : A2) (aD aF : RA) (ra : List RA) (zT : Tx) (zN : St) (zV : Sv) (zD : St)  (o : Int32 × Tx × St × Sv × St) (h : f_X5_addWords zT zN zV zD  = some o) (hra : ra.length = (zV.1).length) : Ct l g yX5_addWords wsX5_addWords rm_X5_addWords [.ref aQ] ((wQ aQ aT aN aV aD aF ++ wT g aT zT ++ wS g aN zN ++ wV g aV ra zV ++ wS g aD zD) ++ wRing g ra zV.1) (Qi g o.1 (fun u : List RA => (wQ aQ aT aN aV aD aF ++ wT g aT o.2.1 ++ wS g aN o.2.2.1 ++ wV g aV u o.2.2.2.1 ++ wS g aD o.2.2.2.2) ++ wRing g u o.2.2.2.1.1) (fun u => u.length = (o.2.2.2.1.1).length)) := by
  refine enter (ret := (some .int)) (X := wQ aQ aT aN aV aD aF ++ wT g aT zT ++ wS g aN zN ++ wV g aV ra zV ++ wS g aD zD) (pl := (wRing g ra zV.1)) pn_X5 rfl (Nat.le_of_ble_eq_true rfl) (rfl) ?_
  intro p e s m args below meth c A Q C Cr hin hQ
  unfold f_X5_addWords at h
  refine v_aload_n (pc' := 1) C 0 dX5_addWords_0 rfl rfl ?_
  refine g_Q_text (pc' := 4) C 0 in_X5_addWords_5 rfl k_X5_addWords_1 rfl dX5_addWords_1 rfl ?_
  refine v_calli (pc' := 7) C h (rf := fun r9 => r9) (wQ aQ aT aN aV aD aF ++ wS g aN zN ++ wV g aV ra zV ++ wS g aD zD) (fun r9 (u9 : Unit) => wQ aQ aT aN aV aD aF ++ wT g aT zT ++ wS g aN zN ++ wV g aV ra zV ++ wS g aD zD) (fun r hr => run_V C (c_X3_firstError l g aT _ r hr) gX5_addWords_X3_firstError rfl nd_X3_firstError rfl rfl rfl rfl ⟨Nat.le_of_ble_eq_true rfl, Nat.le_of_ble_eq_true rfl⟩ ⟨Nat.le_of_ble_eq_true rfl, Nat.le_of_ble_eq_true rfl⟩ (Nat.le_of_ble_eq_true rfl) dX5_addWords_4 rfl) [1, 2, 3] [0, 4, 5, 6, 7, 8, 9, 10, 11, 12, 13] [0, 11, 12, 13, 1, 2, 3, 4, 5, 6, 7, 8, 9, 10] rfl rfl rfl rfl (by decide) rfl (fun _ _ => rfl) (k' := 0) (n' := 0) rfl rfl rfl (fun r_1 _ _ h => ?_)
  refine v_bipush (pc' := 9) C (-6) dX5_addWords_7 bc_m6 rfl ?_
  refine v_icmp_eq C 15 12 h dX5_addWords_9 (by decide) rfl (fun _ h => ?_) (fun _ h => ?_)
  · refine v_aload_n (pc' := 16) C 0 dX5_addWords_15 rfl rfl ?_
    refine g_Q_now (pc' := 19) C 0 in_X5_addWords_5 rfl k_X5_addWords_2 rfl dX5_addWords_16 rfl ?_
    refine v_calli (pc' := 22) C h (rf := fun r9 => r9) (wQ aQ aT aN aV aD aF ++ wT g aT zT ++ wV g aV ra zV ++ wS g aD zD) (fun r9 (u9 : Unit) => wQ aQ aT aN aV aD aF ++ wT g aT zT ++ wS g aN zN ++ wV g aV ra zV ++ wS g aD zD) (fun r hr => run_V C (c_X2_isRunning l g aN _ r hr) gX5_addWords_X2_isRunning rfl nd_X2_isRunning rfl rfl rfl rfl ⟨Nat.le_of_ble_eq_true rfl, Nat.le_of_ble_eq_true rfl⟩ ⟨Nat.le_of_ble_eq_true rfl, Nat.le_of_ble_eq_true rfl⟩ (Nat.le_of_ble_eq_true rfl) dX5_addWords_19 rfl) [4, 5, 6, 7] [0, 1, 2, 3, 8, 9, 10, 11, 12, 13] [0, 1, 2, 3, 10, 11, 12, 13, 4, 5, 6, 7, 8, 9] rfl rfl rfl rfl (by decide) rfl (fun _ _ => rfl) (k' := 0) (n' := 0) rfl rfl rfl (fun r_2 _ _ h => ?_)
    refine v_if_eq C 28 25 h dX5_addWords_22 (by decide) rfl (fun _ h => ?_) (fun _ h => ?_)
    · refine v_aload_n (pc' := 29) C 0 dX5_addWords_28 rfl rfl ?_
      refine g_Q_draft (pc' := 32) C 0 in_X5_addWords_5 rfl k_X5_addWords_3 rfl dX5_addWords_29 rfl ?_
      refine v_aload_n (pc' := 33) C 0 dX5_addWords_32 rfl rfl ?_
      refine g_Q_now (pc' := 36) C 0 in_X5_addWords_5 rfl k_X5_addWords_2 rfl dX5_addWords_33 rfl ?_
      refine v_callv (pc' := 39) C h (wQ aQ aT aN aV aD aF ++ wT g aT zT ++ wV g aV ra zV) (fun r9 (u9 : Unit) => wQ aQ aT aN aV aD aF ++ wT g aT zT ++ wS g aN zN ++ wV g aV ra zV ++ wS g aD r9) (fun r hr => run_V C (c_X2_copyFrom l g aD aN _ _ r hr) gX5_addWords_X2_copyFrom rfl nd_X2_copyFrom rfl rfl rfl rfl ⟨Nat.le_of_ble_eq_true rfl, Nat.le_of_ble_eq_true rfl⟩ ⟨Nat.le_of_ble_eq_true rfl, Nat.le_of_ble_eq_true rfl⟩ (Nat.le_of_ble_eq_true rfl) dX5_addWords_36 rfl) [10, 11, 12, 13, 4, 5, 6, 7] [0, 1, 2, 3, 8, 9] [0, 1, 2, 3, 10, 11, 12, 13, 4, 5, 6, 7, 8, 9] rfl rfl rfl rfl (by decide) rfl (fun _ _ => rfl) (k' := 0) (n' := 0) rfl rfl rfl (fun r_3 _ _ h => ?_)
      refine v_aload_n (pc' := 40) C 0 dX5_addWords_39 rfl rfl ?_
      refine v_aload_n (pc' := 41) C 0 dX5_addWords_40 rfl rfl ?_
      refine g_Q_draft (pc' := 44) C 0 in_X5_addWords_5 rfl k_X5_addWords_3 rfl dX5_addWords_41 rfl ?_
      refine v_calli (pc' := 47) C h (rf := fun r9 => r9.1) (wS g aN zN ++ wV g aV ra zV) (fun r9 (u9 : Unit) => wQ aQ aT aN aV aD aF ++ wT g aT r9.2.1 ++ wS g aN zN ++ wV g aV ra zV ++ wS g aD r9.2.2) (fun r hr => run_V C (c_X5_addTextTo l g aQ aT aN aV aD aF aD _ _ r hr) gX5_addWords_X5_addTextTo rfl nd_X5_addTextTo rfl rfl rfl rfl ⟨Nat.le_of_ble_eq_true rfl, Nat.le_of_ble_eq_true rfl⟩ ⟨Nat.le_of_ble_eq_true rfl, Nat.le_of_ble_eq_true rfl⟩ (Nat.le_of_ble_eq_true rfl) dX5_addWords_44 rfl) [0, 1, 2, 3, 10, 11, 12, 13] [4, 5, 6, 7, 8, 9] [6, 7, 8, 9, 0, 1, 2, 3, 4, 5, 10, 11, 12, 13] rfl rfl rfl rfl (by decide) rfl (fun _ _ => rfl) (k' := 0) (n' := 0) rfl rfl rfl (fun r_4 _ _ h => ?_)
      refine v_if_ne C 53 50 h dX5_addWords_47 (by decide) rfl (fun _ h => ?_) (fun _ h => ?_)
      · refine v_aload_n (pc' := 54) C 0 dX5_addWords_53 rfl rfl ?_
        refine g_Q_draft (pc' := 57) C 0 in_X5_addWords_5 rfl k_X5_addWords_3 rfl dX5_addWords_54 rfl ?_
        refine gN_S_wordCount (pc' := 60) C 10 in_X5_addWords_2 rfl (List.mem_of_getElem? (i := 2) rfl) rfl dX5_addWords_57 rfl ?_
        refine v_aload_n (pc' := 61) C 0 dX5_addWords_60 rfl rfl ?_
        refine g_Q_now (pc' := 64) C 0 in_X5_addWords_5 rfl k_X5_addWords_2 rfl dX5_addWords_61 rfl ?_
        refine gN_S_wordCount (pc' := 67) C 4 in_X5_addWords_2 rfl (List.mem_of_getElem? (i := 2) rfl) rfl dX5_addWords_64 rfl ?_
        refine v_isub (pc' := 68) C dX5_addWords_67 rfl ?_
        refine v_leti h (fun v1_5 h => ?_)
        refine v_istore_n (pc' := 69) C [1, 0] (lv' := [(0, .ref aQ), (1, .int v1_5)]) dX5_addWords_68 (Nat.le_of_ble_eq_true rfl) rfl rfl ?_
        refine v_aload_n (pc' := 70) C 0 dX5_addWords_69 rfl rfl ?_
        refine g_Q_saved (pc' := 73) C 0 in_X5_addWords_5 rfl k_X5_addWords_4 rfl dX5_addWords_70 rfl ?_
        refine v_aload_n (pc' := 74) C 0 dX5_addWords_73 rfl rfl ?_
        refine g_Q_now (pc' := 77) C 0 in_X5_addWords_5 rfl k_X5_addWords_2 rfl dX5_addWords_74 rfl ?_
        refine v_callPv (pc' := 80) C h (wQ aQ aT aN aV aD aF ++ wT g aT r_4.2.1 ++ wS g aD r_4.2.2) (fun r9 u9 => wQ aQ aT aN aV aD aF ++ wT g aT r_4.2.1 ++ wS g aN zN ++ wV g aV u9 r9 ++ wS g aD r_4.2.2) (fun r hr => run_V C (c_X1_push l g aV aN _ _ _ r hr hra) gX5_addWords_X1_push rfl nd_X1_push rfl rfl rfl rfl ⟨Nat.le_of_ble_eq_true rfl, Nat.le_of_ble_eq_true rfl⟩ ⟨Nat.le_of_ble_eq_true rfl, Nat.le_of_ble_eq_true rfl⟩ (Nat.le_of_ble_eq_true rfl) dX5_addWords_77 rfl) [8, 9, 4, 5, 6, 7] [0, 1, 2, 3, 10, 11, 12, 13] [0, 1, 2, 3, 10, 11, 12, 13, 8, 9, 4, 5, 6, 7] rfl rfl rfl rfl (by decide) rfl (fun _ _ => rfl) (k' := 4) (n' := 75) rfl rfl rfl (fun r_6 ra_7 hra h => ?_)
        refine v_aload_n (pc' := 81) C 0 dX5_addWords_80 rfl rfl ?_
        refine g_Q_draft (pc' := 84) C 0 in_X5_addWords_5 rfl k_X5_addWords_3 rfl dX5_addWords_81 rfl ?_
        refine v_callv (pc' := 87) C h (wQ aQ aT aN aV aD aF ++ wT g aT r_4.2.1 ++ wS g aN zN ++ wV g aV ra_7 r_6) (fun r9 (u9 : Unit) => wQ aQ aT aN aV aD aF ++ wT g aT r_4.2.1 ++ wS g aN zN ++ wV g aV ra_7 r_6 ++ wS g aD r9) (fun r hr => run_V C (c_X2_endWithoutGame l g aD _ r hr) gX5_addWords_X2_endWithoutGame rfl nd_X2_endWithoutGame rfl rfl rfl rfl ⟨Nat.le_of_ble_eq_true rfl, Nat.le_of_ble_eq_true rfl⟩ ⟨Nat.le_of_ble_eq_true rfl, Nat.le_of_ble_eq_true rfl⟩ (Nat.le_of_ble_eq_true rfl) dX5_addWords_84 rfl) [10, 11, 12, 13] [0, 1, 2, 3, 4, 5, 6, 7, 8, 9] [0, 1, 2, 3, 4, 5, 6, 7, 8, 9, 10, 11, 12, 13] rfl rfl rfl rfl (by decide) rfl (fun _ _ => rfl) (k' := 4) (n' := 75) rfl rfl rfl (fun r_8 _ _ h => ?_)
        refine v_aload_n (pc' := 88) C 0 dX5_addWords_87 rfl rfl ?_
        refine g_Q_now (pc' := 91) C 0 in_X5_addWords_5 rfl k_X5_addWords_2 rfl dX5_addWords_88 rfl ?_
        refine v_aload_n (pc' := 92) C 0 dX5_addWords_91 rfl rfl ?_
        refine g_Q_draft (pc' := 95) C 0 in_X5_addWords_5 rfl k_X5_addWords_3 rfl dX5_addWords_92 rfl ?_
        refine v_callv (pc' := 98) C h (wQ aQ aT aN aV aD aF ++ wT g aT r_4.2.1 ++ wV g aV ra_7 r_6) (fun r9 (u9 : Unit) => wQ aQ aT aN aV aD aF ++ wT g aT r_4.2.1 ++ wS g aN r9 ++ wV g aV ra_7 r_6 ++ wS g aD r_8) (fun r hr => run_V C (c_X2_copyFrom l g aN aD _ _ r hr) gX5_addWords_X2_copyFrom rfl nd_X2_copyFrom rfl rfl rfl rfl ⟨Nat.le_of_ble_eq_true rfl, Nat.le_of_ble_eq_true rfl⟩ ⟨Nat.le_of_ble_eq_true rfl, Nat.le_of_ble_eq_true rfl⟩ (Nat.le_of_ble_eq_true rfl) dX5_addWords_95 rfl) [4, 5, 6, 7, 10, 11, 12, 13] [0, 1, 2, 3, 8, 9] [0, 1, 2, 3, 6, 7, 8, 9, 4, 5, 10, 11, 12, 13] rfl rfl rfl rfl (by decide) rfl (fun _ _ => rfl) (k' := 4) (n' := 75) rfl rfl rfl (fun r_9 _ _ h => ?_)
        refine v_aload_n (pc' := 99) C 0 dX5_addWords_98 rfl rfl ?_
        refine g_Q_text (pc' := 102) C 0 in_X5_addWords_5 rfl k_X5_addWords_1 rfl dX5_addWords_99 rfl ?_
        refine v_callv (pc' := 105) C h (wQ aQ aT aN aV aD aF ++ wS g aN r_9 ++ wV g aV ra_7 r_6 ++ wS g aD r_8) (fun r9 (u9 : Unit) => wQ aQ aT aN aV aD aF ++ wT g aT r9 ++ wS g aN r_9 ++ wV g aV ra_7 r_6 ++ wS g aD r_8) (fun r hr => run_V C (c_X3_empty l g aT _ r hr) gX5_addWords_X3_empty rfl nd_X3_empty rfl rfl rfl rfl ⟨Nat.le_of_ble_eq_true rfl, Nat.le_of_ble_eq_true rfl⟩ ⟨Nat.le_of_ble_eq_true rfl, Nat.le_of_ble_eq_true rfl⟩ (Nat.le_of_ble_eq_true rfl) dX5_addWords_102 rfl) [1, 2, 3] [0, 4, 5, 6, 7, 8, 9, 10, 11, 12, 13] [0, 11, 12, 13, 1, 2, 3, 4, 5, 6, 7, 8, 9, 10] rfl rfl rfl rfl (by decide) rfl (fun _ _ => rfl) (k' := 4) (n' := 75) rfl rfl rfl (fun r_10 _ _ h => ?_)
        refine v_iload_n (pc' := 106) C 1 dX5_addWords_105 rfl rfl ?_
        exact v_iret (rf := fun (o9 : Int32 × Tx × St × Sv × St) => o9.1) (Wf := fun (o9 : Int32 × Tx × St × Sv × St) (u9 : List RA) => (wQ aQ aT aN aV aD aF ++ wT g aT o9.2.1 ++ wS g aN o9.2.2.1 ++ wV g aV u9 o9.2.2.2.1 ++ wS g aD o9.2.2.2.2) ++ wRing g u9 o9.2.2.2.1.1) (ok := fun (o9 : Int32 × Tx × St × Sv × St) (u9 : List RA) => u9.length = (o9.2.2.2.1.1).length) C Cr h hQ ra_7 hra rfl rfl dX5_addWords_106
      · refine v_bipush (pc' := 52) C (-4) dX5_addWords_50 bc_m4 rfl ?_
        refine v_widen (k' := 4) (n' := 75) (Nat.le_of_ble_eq_true rfl) (Nat.le_of_ble_eq_true rfl) ?_
        exact v_iret (rf := fun (o9 : Int32 × Tx × St × Sv × St) => o9.1) (Wf := fun (o9 : Int32 × Tx × St × Sv × St) (u9 : List RA) => (wQ aQ aT aN aV aD aF ++ wT g aT o9.2.1 ++ wS g aN o9.2.2.1 ++ wV g aV u9 o9.2.2.2.1 ++ wS g aD o9.2.2.2.2) ++ wRing g u9 o9.2.2.2.1.1) (ok := fun (o9 : Int32 × Tx × St × Sv × St) (u9 : List RA) => u9.length = (o9.2.2.2.1.1).length) C Cr h hQ ra hra rfl rfl dX5_addWords_52
    · refine v_bipush (pc' := 27) C (-3) dX5_addWords_25 bc_m3 rfl ?_
      refine v_widen (k' := 4) (n' := 75) (Nat.le_of_ble_eq_true rfl) (Nat.le_of_ble_eq_true rfl) ?_
      exact v_iret (rf := fun (o9 : Int32 × Tx × St × Sv × St) => o9.1) (Wf := fun (o9 : Int32 × Tx × St × Sv × St) (u9 : List RA) => (wQ aQ aT aN aV aD aF ++ wT g aT o9.2.1 ++ wS g aN o9.2.2.1 ++ wV g aV u9 o9.2.2.2.1 ++ wS g aD o9.2.2.2.2) ++ wRing g u9 o9.2.2.2.1.1) (ok := fun (o9 : Int32 × Tx × St × Sv × St) (u9 : List RA) => u9.length = (o9.2.2.2.1.1).length) C Cr h hQ ra hra rfl rfl dX5_addWords_27
  · refine v_bipush (pc' := 14) C (-5) dX5_addWords_12 bc_m5 rfl ?_
    refine v_widen (k' := 4) (n' := 75) (Nat.le_of_ble_eq_true rfl) (Nat.le_of_ble_eq_true rfl) ?_
    exact v_iret (rf := fun (o9 : Int32 × Tx × St × Sv × St) => o9.1) (Wf := fun (o9 : Int32 × Tx × St × Sv × St) (u9 : List RA) => (wQ aQ aT aN aV aD aF ++ wT g aT o9.2.1 ++ wS g aN o9.2.2.1 ++ wV g aV u9 o9.2.2.2.1 ++ wS g aD o9.2.2.2.2) ++ wRing g u9 o9.2.2.2.1.1) (ok := fun (o9 : Int32 × Tx × St × Sv × St) (u9 : List RA) => u9.length = (o9.2.2.2.1.1).length) C Cr h hQ ra hra rfl rfl dX5_addWords_14
def f_X5_removeWord (zN : St) (zV : Sv) (p1 : Int32) : Option (Int32 × St × Sv) :=
  Option.bind (f_X2_hasWord zN p1) fun r_1 =>
  if r_1 = 0 then some ((-1 : Int32), zN, zV)
  else Option.bind (f_X2_isRunning zN) fun r_2 =>
  if r_2 = 0 then Option.bind (f_X1_push zV zN) fun r_3 =>
  Option.bind (f_X2_remove zN p1) fun r_5 =>
  Option.bind (f_X2_endWithoutGame r_5) fun r_6 =>
  some ((S_wordCount r_6), r_6, r_3)
  else some ((-3 : Int32), zN, zV)
abbrev rm_X5_removeWord : Room := { frames := 3, cells := 4, slots := 75, locals := 69 }
theorem in_X5_removeWord_2 : ∀ w ∈ wsX20, w ∈ wsX5_removeWord := fun _ h => List.mem_cons_of_mem _ (List.mem_append_left _ (List.mem_append_right _ h))
theorem in_X5_removeWord_5 : ∀ w ∈ wsX50, w ∈ wsX5_removeWord := fun _ h => List.mem_cons_of_mem _ (List.mem_append_left _ (List.mem_append_left _ (List.mem_append_right _ h)))
theorem k_X5_removeWord_1 : Cond.fieldLink RX5 19 "DodgingHangman" "now" "LDodgingHangman$State;" ∈ wsX5_removeWord := List.mem_of_getElem? (i := 1) rfl
theorem k_X5_removeWord_2 : Cond.fieldLink RX5 26 "DodgingHangman" "saved" "LDodgingHangman$SavedStates;" ∈ wsX5_removeWord := List.mem_of_getElem? (i := 2) rfl
theorem nd_X5_removeWord : yX5_removeWord.cls ≠ "java/lang/invoke/MethodHandle" ∧ yX5_removeWord.cls ≠ "java/lang/invoke/VarHandle" ∧ (parseMethodDescriptor yX5_removeWord.desc).map (fun d => d.parameters.length) = some 1 := by decide +kernel
set_option maxHeartbeats 4000000 in
set_option maxRecDepth 100000 in
theorem c_X5_removeWord (l : Launch) (g : Gv) (aQ : Nat) (aT : A3) (aN : RA) (aV : A2) (aD aF : RA) (ra : List RA) (zN : St) (zV : Sv) (p1 : Int32) (o : Int32 × St × Sv) (h : f_X5_removeWord zN zV p1 = some o) (hra : ra.length = (zV.1).length) : Ct l g yX5_removeWord wsX5_removeWord rm_X5_removeWord [.ref aQ, .int p1] ((wQ aQ aT aN aV aD aF ++ wS g aN zN ++ wV g aV ra zV) ++ wRing g ra zV.1) (Qi g o.1 (fun u : List RA => (wQ aQ aT aN aV aD aF ++ wS g aN o.2.1 ++ wV g aV u o.2.2) ++ wRing g u o.2.2.1) (fun u => u.length = (o.2.2.1).length)) := by
  refine enter (ret := (some .int)) (X := wQ aQ aT aN aV aD aF ++ wS g aN zN ++ wV g aV ra zV) (pl := (wRing g ra zV.1)) pn_X5 rfl (Nat.le_of_ble_eq_true rfl) (rfl) ?_
  intro p e s m args below meth c A Q C Cr hin hQ
  unfold f_X5_removeWord at h
  refine v_aload_n (pc' := 1) C 0 dX5_removeWord_0 rfl rfl ?_
  refine g_Q_now (pc' := 4) C 0 in_X5_removeWord_5 rfl k_X5_removeWord_1 rfl dX5_removeWord_1 rfl ?_
  refine v_iload_n (pc' := 5) C 1 dX5_removeWord_4 rfl rfl ?_
  refine v_calli (pc' := 8) C h (rf := fun r9 => r9) (wQ aQ aT aN aV aD aF ++ wV g aV ra zV) (fun r9 (u9 : Unit) => wQ aQ aT aN aV aD aF ++ wS g aN zN ++ wV g aV ra zV) (fun r hr => run_V C (c_X2_hasWord l g aN _ _ r hr) gX5_removeWord_X2_hasWord rfl nd_X2_hasWord rfl rfl rfl rfl ⟨Nat.le_of_ble_eq_true rfl, Nat.le_of_ble_eq_true rfl⟩ ⟨Nat.le_of_ble_eq_true rfl, Nat.le_of_ble_eq_true rfl⟩ (Nat.le_of_ble_eq_true rfl) dX5_removeWord_5 rfl) [1, 2, 3, 4] [0, 5, 6] [0, 3, 4, 5, 6, 1, 2] rfl rfl rfl rfl (by decide) rfl (fun _ _ => rfl) (k' := 0) (n' := 0) rfl rfl rfl (fun r_1 _ _ h => ?_)
  refine v_if_ne C 13 11 h dX5_removeWord_8 (by decide) rfl (fun _ h => ?_) (fun _ h => ?_)
  · refine v_aload_n (pc' := 14) C 0 dX5_removeWord_13 rfl rfl ?_
    refine g_Q_now (pc' := 17) C 0 in_X5_removeWord_5 rfl k_X5_removeWord_1 rfl dX5_removeWord_14 rfl ?_
    refine v_calli (pc' := 20) C h (rf := fun r9 => r9) (wQ aQ aT aN aV aD aF ++ wV g aV ra zV) (fun r9 (u9 : Unit) => wQ aQ aT aN aV aD aF ++ wS g aN zN ++ wV g aV ra zV) (fun r hr => run_V C (c_X2_isRunning l g aN _ r hr) gX5_removeWord_X2_isRunning rfl nd_X2_isRunning rfl rfl rfl rfl ⟨Nat.le_of_ble_eq_true rfl, Nat.le_of_ble_eq_true rfl⟩ ⟨Nat.le_of_ble_eq_true rfl, Nat.le_of_ble_eq_true rfl⟩ (Nat.le_of_ble_eq_true rfl) dX5_removeWord_17 rfl) [1, 2, 3, 4] [0, 5, 6] [0, 3, 4, 5, 6, 1, 2] rfl rfl rfl rfl (by decide) rfl (fun _ _ => rfl) (k' := 0) (n' := 0) rfl rfl rfl (fun r_2 _ _ h => ?_)
    refine v_if_eq C 26 23 h dX5_removeWord_20 (by decide) rfl (fun _ h => ?_) (fun _ h => ?_)
    · refine v_aload_n (pc' := 27) C 0 dX5_removeWord_26 rfl rfl ?_
      refine g_Q_saved (pc' := 30) C 0 in_X5_removeWord_5 rfl k_X5_removeWord_2 rfl dX5_removeWord_27 rfl ?_
      refine v_aload_n (pc' := 31) C 0 dX5_removeWord_30 rfl rfl ?_
      refine g_Q_now (pc' := 34) C 0 in_X5_removeWord_5 rfl k_X5_removeWord_1 rfl dX5_removeWord_31 rfl ?_
      refine v_callPv (pc' := 37) C h (wQ aQ aT aN aV aD aF) (fun r9 u9 => wQ aQ aT aN aV aD aF ++ wS g aN zN ++ wV g aV u9 r9) (fun r hr => run_V C (c_X1_push l g aV aN _ _ _ r hr hra) gX5_removeWord_X1_push rfl nd_X1_push rfl rfl rfl rfl ⟨Nat.le_of_ble_eq_true rfl, Nat.le_of_ble_eq_true rfl⟩ ⟨Nat.le_of_ble_eq_true rfl, Nat.le_of_ble_eq_true rfl⟩ (Nat.le_of_ble_eq_true rfl) dX5_removeWord_34 rfl) [5, 6, 1, 2, 3, 4] [0] [0, 3, 4, 5, 6, 1, 2] rfl rfl rfl rfl (by decide) rfl (fun _ _ => rfl) (k' := 4) (n' := 75) rfl rfl rfl (fun r_3 ra_4 hra h => ?_)
      refine v_aload_n (pc' := 38) C 0 dX5_removeWord_37 rfl rfl ?_
      refine g_Q_now (pc' := 41) C 0 in_X5_removeWord_5 rfl k_X5_removeWord_1 rfl dX5_removeWord_38 rfl ?_
      refine v_iload_n (pc' := 42) C 1 dX5_removeWord_41 rfl rfl ?_
      refine v_callv (pc' := 45) C h (wQ aQ aT aN aV aD aF ++ wV g aV ra_4 r_3) (fun r9 (u9 : Unit) => wQ aQ aT aN aV aD aF ++ wS g aN r9 ++ wV g aV ra_4 r_3) (fun r hr => run_V C (c_X2_remove l g aN _ _ r hr) gX5_removeWord_X2_remove rfl nd_X2_remove rfl rfl rfl rfl ⟨Nat.le_of_ble_eq_true rfl, Nat.le_of_ble_eq_true rfl⟩ ⟨Nat.le_of_ble_eq_true rfl, Nat.le_of_ble_eq_true rfl⟩ (Nat.le_of_ble_eq_true rfl) dX5_removeWord_42 rfl) [1, 2, 3, 4] [0, 5, 6] [0, 3, 4, 5, 6, 1, 2] rfl rfl rfl rfl (by decide) rfl (fun _ _ => rfl) (k' := 4) (n' := 75) rfl rfl rfl (fun r_5 _ _ h => ?_)
      refine v_aload_n (pc' := 46) C 0 dX5_removeWord_45 rfl rfl ?_
      refine g_Q_now (pc' := 49) C 0 in_X5_removeWord_5 rfl k_X5_removeWord_1 rfl dX5_removeWord_46 rfl ?_
      refine v_callv (pc' := 52) C h (wQ aQ aT aN aV aD aF ++ wV g aV ra_4 r_3) (fun r9 (u9 : Unit) => wQ aQ aT aN aV aD aF ++ wS g aN r9 ++ wV g aV ra_4 r_3) (fun r hr => run_V C (c_X2_endWithoutGame l g aN _ r hr) gX5_removeWord_X2_endWithoutGame rfl nd_X2_endWithoutGame rfl rfl rfl rfl ⟨Nat.le_of_ble_eq_true rfl, Nat.le_of_ble_eq_true rfl⟩ ⟨Nat.le_of_ble_eq_true rfl, Nat.le_of_ble_eq_true rfl⟩ (Nat.le_of_ble_eq_true rfl) dX5_removeWord_49 rfl) [1, 2, 3, 4] [0, 5, 6] [0, 3, 4, 5, 6, 1, 2] rfl rfl rfl rfl (by decide) rfl (fun _ _ => rfl) (k' := 4) (n' := 75) rfl rfl rfl (fun r_6 _ _ h => ?_)
      refine v_aload_n (pc' := 53) C 0 dX5_removeWord_52 rfl rfl ?_
      refine g_Q_now (pc' := 56) C 0 in_X5_removeWord_5 rfl k_X5_removeWord_1 rfl dX5_removeWord_53 rfl ?_
      refine gN_S_wordCount (pc' := 59) C 1 in_X5_removeWord_2 rfl (List.mem_of_getElem? (i := 2) rfl) rfl dX5_removeWord_56 rfl ?_
      exact v_iret (rf := fun (o9 : Int32 × St × Sv) => o9.1) (Wf := fun (o9 : Int32 × St × Sv) (u9 : List RA) => (wQ aQ aT aN aV aD aF ++ wS g aN o9.2.1 ++ wV g aV u9 o9.2.2) ++ wRing g u9 o9.2.2.1) (ok := fun (o9 : Int32 × St × Sv) (u9 : List RA) => u9.length = (o9.2.2.1).length) C Cr h hQ ra_4 hra rfl rfl dX5_removeWord_59
    · refine v_bipush (pc' := 25) C (-3) dX5_removeWord_23 bc_m3 rfl ?_
      refine v_widen (k' := 4) (n' := 75) (Nat.le_of_ble_eq_true rfl) (Nat.le_of_ble_eq_true rfl) ?_
      exact v_iret (rf := fun (o9 : Int32 × St × Sv) => o9.1) (Wf := fun (o9 : Int32 × St × Sv) (u9 : List RA) => (wQ aQ aT aN aV aD aF ++ wS g aN o9.2.1 ++ wV g aV u9 o9.2.2) ++ wRing g u9 o9.2.2.1) (ok := fun (o9 : Int32 × St × Sv) (u9 : List RA) => u9.length = (o9.2.2.1).length) C Cr h hQ ra hra rfl rfl dX5_removeWord_25
  · refine v_iconst (pc' := 12) C (-1) dX5_removeWord_11 ic_m1 rfl ?_
    refine v_widen (k' := 4) (n' := 75) (Nat.le_of_ble_eq_true rfl) (Nat.le_of_ble_eq_true rfl) ?_
    exact v_iret (rf := fun (o9 : Int32 × St × Sv) => o9.1) (Wf := fun (o9 : Int32 × St × Sv) (u9 : List RA) => (wQ aQ aT aN aV aD aF ++ wS g aN o9.2.1 ++ wV g aV u9 o9.2.2) ++ wRing g u9 o9.2.2.1) (ok := fun (o9 : Int32 × St × Sv) (u9 : List RA) => u9.length = (o9.2.2.1).length) C Cr h hQ ra hra rfl rfl dX5_removeWord_12
def f_X5_words (zN : St)  : Option (Int32) :=
  some (S_wordCount zN)
abbrev rm_X5_words : Room := { frames := 0, cells := 0, slots := 0, locals := 0 }
theorem in_X5_words_2 : ∀ w ∈ wsX20, w ∈ wsX5_words := fun _ h => List.mem_cons_of_mem _ (List.mem_append_right _ h)
theorem in_X5_words_5 : ∀ w ∈ wsX50, w ∈ wsX5_words := fun _ h => List.mem_cons_of_mem _ (List.mem_append_left _ (List.mem_append_right _ h))
theorem k_X5_words_1 : Cond.fieldLink RX5 19 "DodgingHangman" "now" "LDodgingHangman$State;" ∈ wsX5_words := List.mem_of_getElem? (i := 1) rfl
theorem nd_X5_words : yX5_words.cls ≠ "java/lang/invoke/MethodHandle" ∧ yX5_words.cls ≠ "java/lang/invoke/VarHandle" ∧ (parseMethodDescriptor yX5_words.desc).map (fun d => d.parameters.length) = some 0 := by decide +kernel
set_option maxHeartbeats 4000000 in
set_option maxRecDepth 100000 in
theorem c_X5_words (l : Launch) (g : Gv) (aQ : Nat) (aT : A3) (aN : RA) (aV : A2) (aD aF : RA) (zN : St)  (o : Int32) (h : f_X5_words zN  = some o) : Ct l g yX5_words wsX5_words rm_X5_words [.ref aQ] (wQ aQ aT aN aV aD aF ++ wS g aN zN) (Qi g o (fun _ : Unit => wQ aQ aT aN aV aD aF ++ wS g aN zN) (fun _ => True)) := by
  refine enter (ret := (some .int)) (X := wQ aQ aT aN aV aD aF ++ wS g aN zN) (pl := []) pn_X5 rfl (Nat.le_of_ble_eq_true rfl) ((List.append_nil _).symm) ?_
  intro p e s m args below meth c A Q C Cr hin hQ
  unfold f_X5_words at h
  refine v_aload_n (pc' := 1) C 0 dX5_words_0 rfl rfl ?_
  refine g_Q_now (pc' := 4) C 0 in_X5_words_5 rfl k_X5_words_1 rfl dX5_words_1 rfl ?_
  refine gN_S_wordCount (pc' := 7) C 1 in_X5_words_2 rfl (List.mem_of_getElem? (i := 2) rfl) rfl dX5_words_4 rfl ?_
  exact v_iret (rf := fun (o9 : Int32) => o9) (Wf := fun (o9 : Int32) (u9 : Unit) => wQ aQ aT aN aV aD aF ++ wS g aN zN) (ok := fun (o9 : Int32) (u9 : Unit) => True) C Cr h hQ () trivial rfl rfl dX5_words_7
def f_X5_letterOf (zN : St) (p1 : Int32) (p2 : Int32) : Option (Int32) :=
  Option.bind (f_X2_wordAt zN p1) fun r_1 =>
  Option.bind (f_X4_letterAt r_1 p2) fun r_2 =>
  if r_2 = 0 then some (-1 : Int32)
  else some r_2
abbrev rm_X5_letterOf : Room := { frames := 2, cells := 0, slots := 0, locals := 43 }
theorem in_X5_letterOf_5 : ∀ w ∈ wsX50, w ∈ wsX5_letterOf := fun _ h => List.mem_cons_of_mem _ (List.mem_append_left _ (List.mem_append_right _ h))
theorem k_X5_letterOf_1 : Cond.fieldLink RX5 19 "DodgingHangman" "now" "LDodgingHangman$State;" ∈ wsX5_letterOf := List.mem_of_getElem? (i := 1) rfl
theorem nd_X5_letterOf : yX5_letterOf.cls ≠ "java/lang/invoke/MethodHandle" ∧ yX5_letterOf.cls ≠ "java/lang/invoke/VarHandle" ∧ (parseMethodDescriptor yX5_letterOf.desc).map (fun d => d.parameters.length) = some 2 := by decide +kernel
set_option maxHeartbeats 4000000 in
set_option maxRecDepth 100000 in
theorem c_X5_letterOf (l : Launch) (g : Gv) (aQ : Nat) (aT : A3) (aN : RA) (aV : A2) (aD aF : RA) (zN : St) (p1 : Int32) (p2 : Int32) (o : Int32) (h : f_X5_letterOf zN p1 p2 = some o) : Ct l g yX5_letterOf wsX5_letterOf rm_X5_letterOf [.ref aQ, .int p1, .int p2] (wQ aQ aT aN aV aD aF ++ wS g aN zN) (Qi g o (fun _ : Unit => wQ aQ aT aN aV aD aF ++ wS g aN zN) (fun _ => True)) := by
  refine enter (ret := (some .int)) (X := wQ aQ aT aN aV aD aF ++ wS g aN zN) (pl := []) pn_X5 rfl (Nat.le_of_ble_eq_true rfl) ((List.append_nil _).symm) ?_
  intro p e s m args below meth c A Q C Cr hin hQ
  unfold f_X5_letterOf at h
  refine v_aload_n (pc' := 1) C 0 dX5_letterOf_0 rfl rfl ?_
  refine g_Q_now (pc' := 4) C 0 in_X5_letterOf_5 rfl k_X5_letterOf_1 rfl dX5_letterOf_1 rfl ?_
  refine v_iload_n (pc' := 5) C 1 dX5_letterOf_4 rfl rfl ?_
  refine v_calll (pc' := 8) C h (rf := fun r9 => r9) (wQ aQ aT aN aV aD aF) (fun r9 (u9 : Unit) => wQ aQ aT aN aV aD aF ++ wS g aN zN) (fun r hr => run_V C (c_X2_wordAt l g aN _ _ r hr) gX5_letterOf_X2_wordAt rfl nd_X2_wordAt rfl rfl rfl rfl ⟨Nat.le_of_ble_eq_true rfl, Nat.le_of_ble_eq_true rfl⟩ ⟨Nat.le_of_ble_eq_true rfl, Nat.le_of_ble_eq_true rfl⟩ (Nat.le_of_ble_eq_true rfl) dX5_letterOf_5 rfl) [1, 2, 3, 4] [0] [0, 1, 2, 3, 4] rfl rfl rfl rfl (by decide) rfl (fun _ _ => rfl) (k' := 0) (n' := 0) rfl rfl rfl (fun r_1 _ _ h => ?_)
  refine v_iload_n (pc' := 9) C 2 dX5_letterOf_8 rfl rfl ?_
  refine v_purei (pc' := 12) C h (rf := fun r9 => r9) (fun r hr => run_S C (c_X4_letterAt l g _ _ r hr) gX5_letterOf_X4_letterAt rfl nd_X4_letterAt ⟨Nat.le_of_ble_eq_true rfl, Nat.le_of_ble_eq_true rfl⟩ ⟨Nat.le_of_ble_eq_true rfl, Nat.le_of_ble_eq_true rfl⟩ (Nat.le_of_ble_eq_true rfl) dX5_letterOf_9 rfl) rfl (fun r_2 h => ?_)
  refine v_istore_n (pc' := 13) C [1, 2, 3, 0] (lv' := [(0, .ref aQ), (1, .int p1), (2, .int p2), (3, .int r_2)]) dX5_letterOf_12 (Nat.le_of_ble_eq_true rfl) rfl rfl ?_
  refine v_iload_n (pc' := 14) C 3 dX5_letterOf_13 rfl rfl ?_
  refine v_if_ne C 21 17 h dX5_letterOf_14 (by decide) rfl (fun _ h => ?_) (fun _ h => ?_)
  · refine v_iload_n (pc' := 22) C 3 dX5_letterOf_21 rfl rfl ?_
    exact v_iret (rf := fun (o9 : Int32) => o9) (Wf := fun (o9 : Int32) (u9 : Unit) => wQ aQ aT aN aV aD aF ++ wS g aN zN) (ok := fun (o9 : Int32) (u9 : Unit) => True) C Cr h hQ () trivial rfl rfl dX5_letterOf_22
  · refine v_iconst (pc' := 18) C (-1) dX5_letterOf_17 ic_m1 rfl ?_
    refine v_goto C (pc' := 22) dX5_letterOf_18 (by decide) ?_
    exact v_iret (rf := fun (o9 : Int32) => o9) (Wf := fun (o9 : Int32) (u9 : Unit) => wQ aQ aT aN aV aD aF ++ wS g aN zN) (ok := fun (o9 : Int32) (u9 : Unit) => True) C Cr h hQ () trivial rfl rfl dX5_letterOf_22
def f_X5_setPolicy (zN : St) (zV : Sv) (p1 : Int32) : Option (Int32 × St × Sv) :=
  if p1 < 0 then some ((-2 : Int32), zN, zV)
  else if (2 : Int32) < p1 then some ((-2 : Int32), zN, zV)
  else lett (S_policy zN) fun v2_1 =>
  Option.bind (f_X1_push zV zN) fun r_2 =>
  lett (S_policy_set zN p1) fun zN_4 =>
  some (v2_1, zN_4, r_2)
abbrev rm_X5_setPolicy : Room := { frames := 3, cells := 4, slots := 75, locals := 69 }
theorem in_X5_setPolicy_2 : ∀ w ∈ wsX20, w ∈ wsX5_setPolicy := fun _ h => List.mem_cons_of_mem _ (List.mem_append_left _ (List.mem_append_right _ h))
theorem in_X5_setPolicy_5 : ∀ w ∈ wsX50, w ∈ wsX5_setPolicy := fun _ h => List.mem_cons_of_mem _ (List.mem_append_left _ (List.mem_append_left _ (List.mem_append_right _ h)))
theorem k_X5_setPolicy_1 : Cond.fieldLink RX5 19 "DodgingHangman" "now" "LDodgingHangman$State;" ∈ wsX5_setPolicy := List.mem_of_getElem? (i := 1) rfl
theorem k_X5_setPolicy_2 : Cond.fieldLink RX5 26 "DodgingHangman" "saved" "LDodgingHangman$SavedStates;" ∈ wsX5_setPolicy := List.mem_of_getElem? (i := 2) rfl
theorem nd_X5_setPolicy : yX5_setPolicy.cls ≠ "java/lang/invoke/MethodHandle" ∧ yX5_setPolicy.cls ≠ "java/lang/invoke/VarHandle" ∧ (parseMethodDescriptor yX5_setPolicy.desc).map (fun d => d.parameters.length) = some 1 := by decide +kernel
set_option maxHeartbeats 4000000 in
set_option maxRecDepth 100000 in
theorem c_X5_setPolicy (l : Launch) (g : Gv) (aQ : Nat) (aT : A3) (aN : RA) (aV : A2) (aD aF : RA) (ra : List RA) (zN : St) (zV : Sv) (p1 : Int32) (o : Int32 × St × Sv) (h : f_X5_setPolicy zN zV p1 = some o) (hra : ra.length = (zV.1).length) : Ct l g yX5_setPolicy wsX5_setPolicy rm_X5_setPolicy [.ref aQ, .int p1] ((wQ aQ aT aN aV aD aF ++ wS g aN zN ++ wV g aV ra zV) ++ wRing g ra zV.1) (Qi g o.1 (fun u : List RA => (wQ aQ aT aN aV aD aF ++ wS g aN o.2.1 ++ wV g aV u o.2.2) ++ wRing g u o.2.2.1) (fun u => u.length = (o.2.2.1).length)) := by
  refine enter (ret := (some .int)) (X := wQ aQ aT aN aV aD aF ++ wS g aN zN ++ wV g aV ra zV) (pl := (wRing g ra zV.1)) pn_X5 rfl (Nat.le_of_ble_eq_true rfl) (rfl) ?_
  intro p e s m args below meth c A Q C Cr hin hQ
  unfold f_X5_setPolicy at h
  refine v_iload_n (pc' := 1) C 1 dX5_setPolicy_0 rfl rfl ?_
  refine v_if_lt C 9 4 h dX5_setPolicy_1 (by decide) rfl (fun _ h => ?_) (fun _ h => ?_)
  · refine v_bipush (pc' := 11) C (-2) dX5_setPolicy_9 bc_m2 rfl ?_
    refine v_widen (k' := 4) (n' := 75) (Nat.le_of_ble_eq_true rfl) (Nat.le_of_ble_eq_true rfl) ?_
    exact v_iret (rf := fun (o9 : Int32 × St × Sv) => o9.1) (Wf := fun (o9 : Int32 × St × Sv) (u9 : List RA) => (wQ aQ aT aN aV aD aF ++ wS g aN o9.2.1 ++ wV g aV u9 o9.2.2) ++ wRing g u9 o9.2.2.1) (ok := fun (o9 : Int32 × St × Sv) (u9 : List RA) => u9.length = (o9.2.2.1).length) C Cr h hQ ra hra rfl rfl dX5_setPolicy_11
  · refine v_iload_n (pc' := 5) C 1 dX5_setPolicy_4 rfl rfl ?_
    refine v_iconst (pc' := 6) C (2) dX5_setPolicy_5 ic_2 rfl ?_
    refine v_icmp_le C 12 9 h dX5_setPolicy_6 (by decide) rfl (fun _ h => ?_) (fun _ h => ?_)
    · refine v_aload_n (pc' := 13) C 0 dX5_setPolicy_12 rfl rfl ?_
      refine g_Q_now (pc' := 16) C 0 in_X5_setPolicy_5 rfl k_X5_setPolicy_1 rfl dX5_setPolicy_13 rfl ?_
      refine gN_S_policy (pc' := 19) C 1 in_X5_setPolicy_2 rfl (List.mem_of_getElem? (i := 4) rfl) rfl dX5_setPolicy_16 rfl ?_
      refine v_leti h (fun v2_1 h => ?_)
      refine v_istore_n (pc' := 20) C [1, 2, 0] (lv' := [(0, .ref aQ), (1, .int p1), (2, .int v2_1)]) dX5_setPolicy_19 (Nat.le_of_ble_eq_true rfl) rfl rfl ?_
      refine v_aload_n (pc' := 21) C 0 dX5_setPolicy_20 rfl rfl ?_
      refine g_Q_saved (pc' := 24) C 0 in_X5_setPolicy_5 rfl k_X5_setPolicy_2 rfl dX5_setPolicy_21 rfl ?_
      refine v_aload_n (pc' := 25) C 0 dX5_setPolicy_24 rfl rfl ?_
      refine g_Q_now (pc' := 28) C 0 in_X5_setPolicy_5 rfl k_X5_setPolicy_1 rfl dX5_setPolicy_25 rfl ?_
      refine v_callPv (pc' := 31) C h (wQ aQ aT aN aV aD aF) (fun r9 u9 => wQ aQ aT aN aV aD aF ++ wS g aN zN ++ wV g aV u9 r9) (fun r hr => run_V C (c_X1_push l g aV aN _ _ _ r hr hra) gX5_setPolicy_X1_push rfl nd_X1_push rfl rfl rfl rfl ⟨Nat.le_of_ble_eq_true rfl, Nat.le_of_ble_eq_true rfl⟩ ⟨Nat.le_of_ble_eq_true rfl, Nat.le_of_ble_eq_true rfl⟩ (Nat.le_of_ble_eq_true rfl) dX5_setPolicy_28 rfl) [5, 6, 1, 2, 3, 4] [0] [0, 3, 4, 5, 6, 1, 2] rfl rfl rfl rfl (by decide) rfl (fun _ _ => rfl) (k' := 4) (n' := 75) rfl rfl rfl (fun r_2 ra_3 hra h => ?_)
      refine v_aload_n (pc' := 32) C 0 dX5_setPolicy_31 rfl rfl ?_
      refine g_Q_now (pc' := 35) C 0 in_X5_setPolicy_5 rfl k_X5_setPolicy_1 rfl dX5_setPolicy_32 rfl ?_
      refine v_iload_n (pc' := 36) C 1 dX5_setPolicy_35 rfl rfl ?_
      refine pN_S_policy (pc' := 39) C h 1 (fun z9 => wQ aQ aT aN aV aD aF ++ wS g aN z9 ++ wV g aV ra_3 r_2) in_X5_setPolicy_2 rfl (List.mem_of_getElem? (i := 4) rfl) rfl dX5_setPolicy_36 (Nat.le_of_ble_eq_true rfl) rfl (fun zN_4 h => ?_)
      refine v_iload_n (pc' := 40) C 2 dX5_setPolicy_39 rfl rfl ?_
      exact v_iret (rf := fun (o9 : Int32 × St × Sv) => o9.1) (Wf := fun (o9 : Int32 × St × Sv) (u9 : List RA) => (wQ aQ aT aN aV aD aF ++ wS g aN o9.2.1 ++ wV g aV u9 o9.2.2) ++ wRing g u9 o9.2.2.1) (ok := fun (o9 : Int32 × St × Sv) (u9 : List RA) => u9.length = (o9.2.2.1).length) C Cr h hQ ra_3 hra rfl rfl dX5_setPolicy_40
    · refine v_bipush (pc' := 11) C (-2) dX5_setPolicy_9 bc_m2 rfl ?_
      refine v_widen (k' := 4) (n' := 75) (Nat.le_of_ble_eq_true rfl) (Nat.le_of_ble_eq_true rfl) ?_
      exact v_iret (rf := fun (o9 : Int32 × St × Sv) => o9.1) (Wf := fun (o9 : Int32 × St × Sv) (u9 : List RA) => (wQ aQ aT aN aV aD aF ++ wS g aN o9.2.1 ++ wV g aV u9 o9.2.2) ++ wRing g u9 o9.2.2.1) (ok := fun (o9 : Int32 × St × Sv) (u9 : List RA) => u9.length = (o9.2.2.1).length) C Cr h hQ ra hra rfl rfl dX5_setPolicy_11
def f_X5_start (zN : St) (zV : Sv) (p1 : Int32) (p2 : Int32) : Option (Int32 × St × Sv) :=
  if p1 < (2 : Int32) then some ((-2 : Int32), zN, zV)
  else if (8 : Int32) < p1 then some ((-2 : Int32), zN, zV)
  else if p2 < (1 : Int32) then some ((-2 : Int32), zN, zV)
  else if (20 : Int32) < p2 then some ((-2 : Int32), zN, zV)
  else Option.bind (f_X2_wordsOfLength zN p1) fun r_1 =>
  if r_1 = 0 then some ((-3 : Int32), zN, zV)
  else Option.bind (f_X1_push zV zN) fun r_2 =>
  Option.bind (f_X2_begin zN p1 p2 r_1) fun r_4 =>
  Option.bind (f_J6_bitCount_0f7a4 r_1) fun r_5 =>
  some (r_5, r_4, r_2)
abbrev rm_X5_start : Room := { frames := 4, cells := 4, slots := 75, locals := 89 }
theorem in_X5_start_5 : ∀ w ∈ wsX50, w ∈ wsX5_start := fun _ h => List.mem_cons_of_mem _ (List.mem_append_left _ (List.mem_append_left _ (List.mem_append_right _ h)))
theorem k_X5_start_1 : Cond.fieldLink RX5 19 "DodgingHangman" "now" "LDodgingHangman$State;" ∈ wsX5_start := List.mem_of_getElem? (i := 1) rfl
theorem k_X5_start_2 : Cond.fieldLink RX5 26 "DodgingHangman" "saved" "LDodgingHangman$SavedStates;" ∈ wsX5_start := List.mem_of_getElem? (i := 2) rfl
theorem nd_X5_start : yX5_start.cls ≠ "java/lang/invoke/MethodHandle" ∧ yX5_start.cls ≠ "java/lang/invoke/VarHandle" ∧ (parseMethodDescriptor yX5_start.desc).map (fun d => d.parameters.length) = some 2 := by decide +kernel
set_option maxHeartbeats 4000000 in
set_option maxRecDepth 100000 in
theorem c_X5_start (l : Launch) (g : Gv) (aQ : Nat) (aT : A3) (aN : RA) (aV : A2) (aD aF : RA) (ra : List RA) (zN : St) (zV : Sv) (p1 : Int32) (p2 : Int32) (o : Int32 × St × Sv) (h : f_X5_start zN zV p1 p2 = some o) (hra : ra.length = (zV.1).length) : Ct l g yX5_start wsX5_start rm_X5_start [.ref aQ, .int p1, .int p2] ((wQ aQ aT aN aV aD aF ++ wS g aN zN ++ wV g aV ra zV) ++ wRing g ra zV.1) (Qi g o.1 (fun u : List RA => (wQ aQ aT aN aV aD aF ++ wS g aN o.2.1 ++ wV g aV u o.2.2) ++ wRing g u o.2.2.1) (fun u => u.length = (o.2.2.1).length)) := by
  refine enter (ret := (some .int)) (X := wQ aQ aT aN aV aD aF ++ wS g aN zN ++ wV g aV ra zV) (pl := (wRing g ra zV.1)) pn_X5 rfl (Nat.le_of_ble_eq_true rfl) (rfl) ?_
  intro p e s m args below meth c A Q C Cr hin hQ
  unfold f_X5_start at h
  refine v_iload_n (pc' := 1) C 1 dX5_start_0 rfl rfl ?_
  refine v_iconst (pc' := 2) C (2) dX5_start_1 ic_2 rfl ?_
  refine v_icmp_lt C 22 5 h dX5_start_2 (by decide) rfl (fun _ h => ?_) (fun _ h => ?_)
  · refine v_bipush (pc' := 24) C (-2) dX5_start_22 bc_m2 rfl ?_
    refine v_widen (k' := 4) (n' := 75) (Nat.le_of_ble_eq_true rfl) (Nat.le_of_ble_eq_true rfl) ?_
    exact v_iret (rf := fun (o9 : Int32 × St × Sv) => o9.1) (Wf := fun (o9 : Int32 × St × Sv) (u9 : List RA) => (wQ aQ aT aN aV aD aF ++ wS g aN o9.2.1 ++ wV g aV u9 o9.2.2) ++ wRing g u9 o9.2.2.1) (ok := fun (o9 : Int32 × St × Sv) (u9 : List RA) => u9.length = (o9.2.2.1).length) C Cr h hQ ra hra rfl rfl dX5_start_24
  · refine v_iload_n (pc' := 6) C 1 dX5_start_5 rfl rfl ?_
    refine v_bipush (pc' := 8) C (8) dX5_start_6 bc_8 rfl ?_
    refine v_icmp_gt C 22 11 h dX5_start_8 (by decide) rfl (fun _ h => ?_) (fun _ h => ?_)
    · refine v_bipush (pc' := 24) C (-2) dX5_start_22 bc_m2 rfl ?_
      refine v_widen (k' := 4) (n' := 75) (Nat.le_of_ble_eq_true rfl) (Nat.le_of_ble_eq_true rfl) ?_
      exact v_iret (rf := fun (o9 : Int32 × St × Sv) => o9.1) (Wf := fun (o9 : Int32 × St × Sv) (u9 : List RA) => (wQ aQ aT aN aV aD aF ++ wS g aN o9.2.1 ++ wV g aV u9 o9.2.2) ++ wRing g u9 o9.2.2.1) (ok := fun (o9 : Int32 × St × Sv) (u9 : List RA) => u9.length = (o9.2.2.1).length) C Cr h hQ ra hra rfl rfl dX5_start_24
    · refine v_iload_n (pc' := 12) C 2 dX5_start_11 rfl rfl ?_
      refine v_iconst (pc' := 13) C (1) dX5_start_12 ic_1 rfl ?_
      refine v_icmp_lt C 22 16 h dX5_start_13 (by decide) rfl (fun _ h => ?_) (fun _ h => ?_)
      · refine v_bipush (pc' := 24) C (-2) dX5_start_22 bc_m2 rfl ?_
        refine v_widen (k' := 4) (n' := 75) (Nat.le_of_ble_eq_true rfl) (Nat.le_of_ble_eq_true rfl) ?_
        exact v_iret (rf := fun (o9 : Int32 × St × Sv) => o9.1) (Wf := fun (o9 : Int32 × St × Sv) (u9 : List RA) => (wQ aQ aT aN aV aD aF ++ wS g aN o9.2.1 ++ wV g aV u9 o9.2.2) ++ wRing g u9 o9.2.2.1) (ok := fun (o9 : Int32 × St × Sv) (u9 : List RA) => u9.length = (o9.2.2.1).length) C Cr h hQ ra hra rfl rfl dX5_start_24
      · refine v_iload_n (pc' := 17) C 2 dX5_start_16 rfl rfl ?_
        refine v_bipush (pc' := 19) C (20) dX5_start_17 bc_20 rfl ?_
        refine v_icmp_le C 25 22 h dX5_start_19 (by decide) rfl (fun _ h => ?_) (fun _ h => ?_)
        · refine v_aload_n (pc' := 26) C 0 dX5_start_25 rfl rfl ?_
          refine g_Q_now (pc' := 29) C 0 in_X5_start_5 rfl k_X5_start_1 rfl dX5_start_26 rfl ?_
          refine v_iload_n (pc' := 30) C 1 dX5_start_29 rfl rfl ?_
          refine v_calli (pc' := 33) C h (rf := fun r9 => r9) (wQ aQ aT aN aV aD aF ++ wV g aV ra zV) (fun r9 (u9 : Unit) => wQ aQ aT aN aV aD aF ++ wS g aN zN ++ wV g aV ra zV) (fun r hr => run_V C (c_X2_wordsOfLength l g aN _ _ r hr) gX5_start_X2_wordsOfLength rfl nd_X2_wordsOfLength rfl rfl rfl rfl ⟨Nat.le_of_ble_eq_true rfl, Nat.le_of_ble_eq_true rfl⟩ ⟨Nat.le_of_ble_eq_true rfl, Nat.le_of_ble_eq_true rfl⟩ (Nat.le_of_ble_eq_true rfl) dX5_start_30 rfl) [1, 2, 3, 4] [0, 5, 6] [0, 3, 4, 5, 6, 1, 2] rfl rfl rfl rfl (by decide) rfl (fun _ _ => rfl) (k' := 0) (n' := 0) rfl rfl rfl (fun r_1 _ _ h => ?_)
          refine v_istore_n (pc' := 34) C [1, 2, 3, 0] (lv' := [(0, .ref aQ), (1, .int p1), (2, .int p2), (3, .int r_1)]) dX5_start_33 (Nat.le_of_ble_eq_true rfl) rfl rfl ?_
          refine v_iload_n (pc' := 35) C 3 dX5_start_34 rfl rfl ?_
          refine v_if_ne C 41 38 h dX5_start_35 (by decide) rfl (fun _ h => ?_) (fun _ h => ?_)
          · refine v_aload_n (pc' := 42) C 0 dX5_start_41 rfl rfl ?_
            refine g_Q_saved (pc' := 45) C 0 in_X5_start_5 rfl k_X5_start_2 rfl dX5_start_42 rfl ?_
            refine v_aload_n (pc' := 46) C 0 dX5_start_45 rfl rfl ?_
            refine g_Q_now (pc' := 49) C 0 in_X5_start_5 rfl k_X5_start_1 rfl dX5_start_46 rfl ?_
            refine v_callPv (pc' := 52) C h (wQ aQ aT aN aV aD aF) (fun r9 u9 => wQ aQ aT aN aV aD aF ++ wS g aN zN ++ wV g aV u9 r9) (fun r hr => run_V C (c_X1_push l g aV aN _ _ _ r hr hra) gX5_start_X1_push rfl nd_X1_push rfl rfl rfl rfl ⟨Nat.le_of_ble_eq_true rfl, Nat.le_of_ble_eq_true rfl⟩ ⟨Nat.le_of_ble_eq_true rfl, Nat.le_of_ble_eq_true rfl⟩ (Nat.le_of_ble_eq_true rfl) dX5_start_49 rfl) [5, 6, 1, 2, 3, 4] [0] [0, 3, 4, 5, 6, 1, 2] rfl rfl rfl rfl (by decide) rfl (fun _ _ => rfl) (k' := 4) (n' := 75) rfl rfl rfl (fun r_2 ra_3 hra h => ?_)
            refine v_aload_n (pc' := 53) C 0 dX5_start_52 rfl rfl ?_
            refine g_Q_now (pc' := 56) C 0 in_X5_start_5 rfl k_X5_start_1 rfl dX5_start_53 rfl ?_
            refine v_iload_n (pc' := 57) C 1 dX5_start_56 rfl rfl ?_
            refine v_iload_n (pc' := 58) C 2 dX5_start_57 rfl rfl ?_
            refine v_iload_n (pc' := 59) C 3 dX5_start_58 rfl rfl ?_
            refine v_callv (pc' := 62) C h (wQ aQ aT aN aV aD aF ++ wV g aV ra_3 r_2) (fun r9 (u9 : Unit) => wQ aQ aT aN aV aD aF ++ wS g aN r9 ++ wV g aV ra_3 r_2) (fun r hr => run_V C (c_X2_begin l g aN _ _ _ _ r hr) gX5_start_X2_begin rfl nd_X2_begin rfl rfl rfl rfl ⟨Nat.le_of_ble_eq_true rfl, Nat.le_of_ble_eq_true rfl⟩ ⟨Nat.le_of_ble_eq_true rfl, Nat.le_of_ble_eq_true rfl⟩ (Nat.le_of_ble_eq_true rfl) dX5_start_59 rfl) [1, 2, 3, 4] [0, 5, 6] [0, 3, 4, 5, 6, 1, 2] rfl rfl rfl rfl (by decide) rfl (fun _ _ => rfl) (k' := 4) (n' := 75) rfl rfl rfl (fun r_4 _ _ h => ?_)
            refine v_iload_n (pc' := 63) C 3 dX5_start_62 rfl rfl ?_
            refine v_purei (pc' := 66) C h (rf := fun r9 => r9) (fun r hr => run_S C (c_J6_bitCount_0f7a4 l g _ r hr) gX5_start_J6_bitCount_0f7a4 rfl nd_J6_bitCount_0f7a4 ⟨Nat.le_of_ble_eq_true rfl, Nat.le_of_ble_eq_true rfl⟩ ⟨Nat.le_of_ble_eq_true rfl, Nat.le_of_ble_eq_true rfl⟩ (Nat.le_of_ble_eq_true rfl) dX5_start_63 rfl) rfl (fun r_5 h => ?_)
            exact v_iret (rf := fun (o9 : Int32 × St × Sv) => o9.1) (Wf := fun (o9 : Int32 × St × Sv) (u9 : List RA) => (wQ aQ aT aN aV aD aF ++ wS g aN o9.2.1 ++ wV g aV u9 o9.2.2) ++ wRing g u9 o9.2.2.1) (ok := fun (o9 : Int32 × St × Sv) (u9 : List RA) => u9.length = (o9.2.2.1).length) C Cr h hQ ra_3 hra rfl rfl dX5_start_66
          · refine v_bipush (pc' := 40) C (-3) dX5_start_38 bc_m3 rfl ?_
            refine v_widen (k' := 4) (n' := 75) (Nat.le_of_ble_eq_true rfl) (Nat.le_of_ble_eq_true rfl) ?_
            exact v_iret (rf := fun (o9 : Int32 × St × Sv) => o9.1) (Wf := fun (o9 : Int32 × St × Sv) (u9 : List RA) => (wQ aQ aT aN aV aD aF ++ wS g aN o9.2.1 ++ wV g aV u9 o9.2.2) ++ wRing g u9 o9.2.2.1) (ok := fun (o9 : Int32 × St × Sv) (u9 : List RA) => u9.length = (o9.2.2.1).length) C Cr h hQ ra hra rfl rfl dX5_start_40
        · refine v_bipush (pc' := 24) C (-2) dX5_start_22 bc_m2 rfl ?_
          refine v_widen (k' := 4) (n' := 75) (Nat.le_of_ble_eq_true rfl) (Nat.le_of_ble_eq_true rfl) ?_
          exact v_iret (rf := fun (o9 : Int32 × St × Sv) => o9.1) (Wf := fun (o9 : Int32 × St × Sv) (u9 : List RA) => (wQ aQ aT aN aV aD aF ++ wS g aN o9.2.1 ++ wV g aV u9 o9.2.2) ++ wRing g u9 o9.2.2.1) (ok := fun (o9 : Int32 × St × Sv) (u9 : List RA) => u9.length = (o9.2.2.1).length) C Cr h hQ ra hra rfl rfl dX5_start_24
def f_X5_play (zF : Fm) (zS : St) (p2 : Int32) : Option (Int32 × Fm × St) :=
  Option.bind (f_X0_make zF zS p2) fun r_1 =>
  Option.bind (f_X0_best r_1) fun r_2 =>
  Option.bind (f_X0_maskOf r_1 r_2) fun r_3 =>
  Option.bind (f_X0_membersOf r_1 r_2) fun r_4 =>
  Option.bind (f_X2_takeLetter zS p2 r_3 r_4) fun r_5 =>
  Option.bind (f_J6_bitCount_0f7a4 r_3) fun r_6 =>
  some (r_6, r_1, r_5)
abbrev rm_X5_play : Room := { frames := 4, cells := 0, slots := 0, locals := 93 }
theorem in_X5_play_5 : ∀ w ∈ wsX50, w ∈ wsX5_play := fun _ h => List.mem_cons_of_mem _ (List.mem_append_left _ (List.mem_append_left _ (List.mem_append_right _ h)))
theorem k_X5_play_1 : Cond.fieldLink RX5 36 "DodgingHangman" "split" "LDodgingHangman$Families;" ∈ wsX5_play := List.mem_of_getElem? (i := 1) rfl
theorem nd_X5_play : yX5_play.cls ≠ "java/lang/invoke/MethodHandle" ∧ yX5_play.cls ≠ "java/lang/invoke/VarHandle" ∧ (parseMethodDescriptor yX5_play.desc).map (fun d => d.parameters.length) = some 2 := by decide +kernel
set_option maxHeartbeats 4000000 in
set_option maxRecDepth 100000 in
theorem c_X5_play (l : Launch) (g : Gv) (aQ : Nat) (aT : A3) (aN : RA) (aV : A2) (aD aF : RA) (aS : RA) (zF : Fm) (zS : St) (p2 : Int32) (o : Int32 × Fm × St) (h : f_X5_play zF zS p2 = some o) : Ct l g yX5_play wsX5_play rm_X5_play [.ref aQ, .ref aS.1, .int p2] (wQ aQ aT aN aV aD aF ++ wF g aF zF ++ wS g aS zS) (Qi g o.1 (fun _ : Unit => wQ aQ aT aN aV aD aF ++ wF g aF o.2.1 ++ wS g aS o.2.2) (fun _ => True)) := by
  refine enter (ret := (some .int)) (X := wQ aQ aT aN aV aD aF ++ wF g aF zF ++ wS g aS zS) (pl := []) pn_X5 rfl (Nat.le_of_ble_eq_true rfl) ((List.append_nil _).symm) ?_
  intro p e s m args below meth c A Q C Cr hin hQ
  unfold f_X5_play at h
  refine v_aload_n (pc' := 1) C 0 dX5_play_0 rfl rfl ?_
  refine g_Q_split (pc' := 4) C 0 in_X5_play_5 rfl k_X5_play_1 rfl dX5_play_1 rfl ?_
  refine v_aload_n (pc' := 5) C 1 dX5_play_4 rfl rfl ?_
  refine v_iload_n (pc' := 6) C 2 dX5_play_5 rfl rfl ?_
  refine v_callv (pc' := 9) C h (wQ aQ aT aN aV aD aF) (fun r9 (u9 : Unit) => wQ aQ aT aN aV aD aF ++ wF g aF r9 ++ wS g aS zS) (fun r hr => run_V C (c_X0_make l g aF aS _ _ _ r hr) gX5_play_X0_make rfl nd_X0_make rfl rfl rfl rfl ⟨Nat.le_of_ble_eq_true rfl, Nat.le_of_ble_eq_true rfl⟩ ⟨Nat.le_of_ble_eq_true rfl, Nat.le_of_ble_eq_true rfl⟩ (Nat.le_of_ble_eq_true rfl) dX5_play_6 rfl) [1, 2, 3, 4, 5, 6, 7, 8] [0] [0, 1, 2, 3, 4, 5, 6, 7, 8] rfl rfl rfl rfl (by decide) rfl (fun _ _ => rfl) (k' := 0) (n' := 0) rfl rfl rfl (fun r_1 _ _ h => ?_)
  refine v_aload_n (pc' := 10) C 0 dX5_play_9 rfl rfl ?_
  refine g_Q_split (pc' := 13) C 0 in_X5_play_5 rfl k_X5_play_1 rfl dX5_play_10 rfl ?_
  refine v_calli (pc' := 16) C h (rf := fun r9 => r9) (wQ aQ aT aN aV aD aF ++ wS g aS zS) (fun r9 (u9 : Unit) => wQ aQ aT aN aV aD aF ++ wF g aF r_1 ++ wS g aS zS) (fun r hr => run_V C (c_X0_best l g aF _ r hr) gX5_play_X0_best rfl nd_X0_best rfl rfl rfl rfl ⟨Nat.le_of_ble_eq_true rfl, Nat.le_of_ble_eq_true rfl⟩ ⟨Nat.le_of_ble_eq_true rfl, Nat.le_of_ble_eq_true rfl⟩ (Nat.le_of_ble_eq_true rfl) dX5_play_13 rfl) [1, 2, 3, 4] [0, 5, 6, 7, 8] [0, 5, 6, 7, 8, 1, 2, 3, 4] rfl rfl rfl rfl (by decide) rfl (fun _ _ => rfl) (k' := 0) (n' := 0) rfl rfl rfl (fun r_2 _ _ h => ?_)
  refine v_istore_n (pc' := 17) C [1, 2, 3, 0] (lv' := [(0, .ref aQ), (1, .ref aS.1), (2, .int p2), (3, .int r_2)]) dX5_play_16 (Nat.le_of_ble_eq_true rfl) rfl rfl ?_
  refine v_aload_n (pc' := 18) C 0 dX5_play_17 rfl rfl ?_
  refine g_Q_split (pc' := 21) C 0 in_X5_play_5 rfl k_X5_play_1 rfl dX5_play_18 rfl ?_
  refine v_iload_n (pc' := 22) C 3 dX5_play_21 rfl rfl ?_
  refine v_calli (pc' := 25) C h (rf := fun r9 => r9) (wQ aQ aT aN aV aD aF ++ wS g aS zS) (fun r9 (u9 : Unit) => wQ aQ aT aN aV aD aF ++ wF g aF r_1 ++ wS g aS zS) (fun r hr => run_V C (c_X0_maskOf l g aF _ _ r hr) gX5_play_X0_maskOf rfl nd_X0_maskOf rfl rfl rfl rfl ⟨Nat.le_of_ble_eq_true rfl, Nat.le_of_ble_eq_true rfl⟩ ⟨Nat.le_of_ble_eq_true rfl, Nat.le_of_ble_eq_true rfl⟩ (Nat.le_of_ble_eq_true rfl) dX5_play_22 rfl) [1, 2, 3, 4] [0, 5, 6, 7, 8] [0, 5, 6, 7, 8, 1, 2, 3, 4] rfl rfl rfl rfl (by decide) rfl (fun _ _ => rfl) (k' := 0) (n' := 0) rfl rfl rfl (fun r_3 _ _ h => ?_)
  refine v_istore (pc' := 27) C [1, 2, 3, 4, 0] (lv' := [(0, .ref aQ), (1, .ref aS.1), (2, .int p2), (3, .int r_2), (4, .int r_3)]) dX5_play_25 (Nat.le_of_ble_eq_true rfl) rfl rfl ?_
  refine v_aload_n (pc' := 28) C 1 dX5_play_27 rfl rfl ?_
  refine v_iload_n (pc' := 29) C 2 dX5_play_28 rfl rfl ?_
  refine v_iload (pc' := 31) C 4 dX5_play_29 rfl rfl ?_
  refine v_aload_n (pc' := 32) C 0 dX5_play_31 rfl rfl ?_
  refine g_Q_split (pc' := 35) C 0 in_X5_play_5 rfl k_X5_play_1 rfl dX5_play_32 rfl ?_
  refine v_iload_n (pc' := 36) C 3 dX5_play_35 rfl rfl ?_
  refine v_calli (pc' := 39) C h (rf := fun r9 => r9) (wQ aQ aT aN aV aD aF ++ wS g aS zS) (fun r9 (u9 : Unit) => wQ aQ aT aN aV aD aF ++ wF g aF r_1 ++ wS g aS zS) (fun r hr => run_V C (c_X0_membersOf l g aF _ _ r hr) gX5_play_X0_membersOf rfl nd_X0_membersOf rfl rfl rfl rfl ⟨Nat.le_of_ble_eq_true rfl, Nat.le_of_ble_eq_true rfl⟩ ⟨Nat.le_of_ble_eq_true rfl, Nat.le_of_ble_eq_true rfl⟩ (Nat.le_of_ble_eq_true rfl) dX5_play_36 rfl) [1, 2, 3, 4] [0, 5, 6, 7, 8] [0, 5, 6, 7, 8, 1, 2, 3, 4] rfl rfl rfl rfl (by decide) rfl (fun _ _ => rfl) (k' := 0) (n' := 0) rfl rfl rfl (fun r_4 _ _ h => ?_)
  refine v_callv (pc' := 42) C h (wQ aQ aT aN aV aD aF ++ wF g aF r_1) (fun r9 (u9 : Unit) => wQ aQ aT aN aV aD aF ++ wF g aF r_1 ++ wS g aS r9) (fun r hr => run_V C (c_X2_takeLetter l g aS _ _ _ _ r hr) gX5_play_X2_takeLetter rfl nd_X2_takeLetter rfl rfl rfl rfl ⟨Nat.le_of_ble_eq_true rfl, Nat.le_of_ble_eq_true rfl⟩ ⟨Nat.le_of_ble_eq_true rfl, Nat.le_of_ble_eq_true rfl⟩ (Nat.le_of_ble_eq_true rfl) dX5_play_39 rfl) [5, 6, 7, 8] [0, 1, 2, 3, 4] [0, 1, 2, 3, 4, 5, 6, 7, 8] rfl rfl rfl rfl (by decide) rfl (fun _ _ => rfl) (k' := 0) (n' := 0) rfl rfl rfl (fun r_5 _ _ h => ?_)
  refine v_iload (pc' := 44) C 4 dX5_play_42 rfl rfl ?_
  refine v_purei (pc' := 47) C h (rf := fun r9 => r9) (fun r hr => run_S C (c_J6_bitCount_0f7a4 l g _ r hr) gX5_play_J6_bitCount_0f7a4 rfl nd_J6_bitCount_0f7a4 ⟨Nat.le_of_ble_eq_true rfl, Nat.le_of_ble_eq_true rfl⟩ ⟨Nat.le_of_ble_eq_true rfl, Nat.le_of_ble_eq_true rfl⟩ (Nat.le_of_ble_eq_true rfl) dX5_play_44 rfl) rfl (fun r_6 h => ?_)
  exact v_iret (rf := fun (o9 : Int32 × Fm × St) => o9.1) (Wf := fun (o9 : Int32 × Fm × St) (u9 : Unit) => wQ aQ aT aN aV aD aF ++ wF g aF o9.2.1 ++ wS g aS o9.2.2) (ok := fun (o9 : Int32 × Fm × St) (u9 : Unit) => True) C Cr h hQ () trivial rfl rfl dX5_play_47
def f_X5_guess (zN : St) (zV : Sv) (zF : Fm) (p1 : Int32) : Option (Int32 × St × Sv × Fm) :=
  Option.bind (f_X5_isLetter p1) fun r_1 =>
  if r_1 = 0 then some ((-2 : Int32), zN, zV, zF)
  else Option.bind (f_X2_isRunning zN) fun r_2 =>
  if r_2 = 0 then some ((-3 : Int32), zN, zV, zF)
  else Option.bind (f_X2_wasGuessed zN p1) fun r_3 =>
  if r_3 = 0 then Option.bind (f_X1_push zV zN) fun r_4 =>
  Option.bind (f_X5_play zF zN p1) fun r_6 =>
  some (r_6.1, r_6.2.2, r_4, r_6.2.1)
  else some ((-6 : Int32), zN, zV, zF)
abbrev rm_X5_guess : Room := { frames := 5, cells := 4, slots := 75, locals := 117 }
theorem in_X5_guess_5 : ∀ w ∈ wsX50, w ∈ wsX5_guess := fun _ h => List.mem_cons_of_mem _ (List.mem_append_left _ (List.mem_append_left _ (List.mem_append_left _ (List.mem_append_right _ h))))
theorem k_X5_guess_1 : Cond.fieldLink RX5 19 "DodgingHangman" "now" "LDodgingHangman$State;" ∈ wsX5_guess := List.mem_of_getElem? (i := 1) rfl
theorem k_X5_guess_2 : Cond.fieldLink RX5 26 "DodgingHangman" "saved" "LDodgingHangman$SavedStates;" ∈ wsX5_guess := List.mem_of_getElem? (i := 2) rfl
theorem nd_X5_guess : yX5_guess.cls ≠ "java/lang/invoke/MethodHandle" ∧ yX5_guess.cls ≠ "java/lang/invoke/VarHandle" ∧ (parseMethodDescriptor yX5_guess.desc).map (fun d => d.parameters.length) = some 1 := by decide +kernel
set_option maxHeartbeats 4000000 in
set_option maxRecDepth 100000 in
theorem c_X5_guess (l : Launch) (g : Gv) (aQ : Nat) (aT : A3) (aN : RA) (aV : A2) (aD aF : RA) (ra : List RA) (zN : St) (zV : Sv) (zF : Fm) (p1 : Int32) (o : Int32 × St × Sv × Fm) (h : f_X5_guess zN zV zF p1 = some o) (hra : ra.length = (zV.1).length) : Ct l g yX5_guess wsX5_guess rm_X5_guess [.ref aQ, .int p1] ((wQ aQ aT aN aV aD aF ++ wS g aN zN ++ wV g aV ra zV ++ wF g aF zF) ++ wRing g ra zV.1) (Qi g o.1 (fun u : List RA => (wQ aQ aT aN aV aD aF ++ wS g aN o.2.1 ++ wV g aV u o.2.2.1 ++ wF g aF o.2.2.2) ++ wRing g u o.2.2.1.1) (fun u => u.length = (o.2.2.1.1).length)) := by
  refine enter (ret := (some .int)) (X := wQ aQ aT aN aV aD aF ++ wS g aN zN ++ wV g aV ra zV ++ wF g aF zF) (pl := (wRing g ra zV.1)) pn_X5 rfl (Nat.le_of_ble_eq_true rfl) (rfl) ?_
  intro p e s m args below meth c A Q C Cr hin hQ
  unfold f_X5_guess at h
  refine v_iload_n (pc' := 1) C 1 dX5_guess_0 rfl rfl ?_
  refine v_purei (pc' := 4) C h (rf := fun r9 => r9) (fun r hr => run_S C (c_X5_isLetter l g _ r hr) gX5_guess_X5_isLetter rfl nd_X5_isLetter ⟨Nat.le_of_ble_eq_true rfl, Nat.le_of_ble_eq_true rfl⟩ ⟨Nat.le_of_ble_eq_true rfl, Nat.le_of_ble_eq_true rfl⟩ (Nat.le_of_ble_eq_true rfl) dX5_guess_1 rfl) rfl (fun r_1 h => ?_)
  refine v_if_ne C 10 7 h dX5_guess_4 (by decide) rfl (fun _ h => ?_) (fun _ h => ?_)
  · refine v_aload_n (pc' := 11) C 0 dX5_guess_10 rfl rfl ?_
    refine g_Q_now (pc' := 14) C 0 in_X5_guess_5 rfl k_X5_guess_1 rfl dX5_guess_11 rfl ?_
    refine v_calli (pc' := 17) C h (rf := fun r9 => r9) (wQ aQ aT aN aV aD aF ++ wV g aV ra zV ++ wF g aF zF) (fun r9 (u9 : Unit) => wQ aQ aT aN aV aD aF ++ wS g aN zN ++ wV g aV ra zV ++ wF g aF zF) (fun r hr => run_V C (c_X2_isRunning l g aN _ r hr) gX5_guess_X2_isRunning rfl nd_X2_isRunning rfl rfl rfl rfl ⟨Nat.le_of_ble_eq_true rfl, Nat.le_of_ble_eq_true rfl⟩ ⟨Nat.le_of_ble_eq_true rfl, Nat.le_of_ble_eq_true rfl⟩ (Nat.le_of_ble_eq_true rfl) dX5_guess_14 rfl) [1, 2, 3, 4] [0, 5, 6, 7, 8, 9, 10] [0, 7, 8, 9, 10, 1, 2, 3, 4, 5, 6] rfl rfl rfl rfl (by decide) rfl (fun _ _ => rfl) (k' := 0) (n' := 0) rfl rfl rfl (fun r_2 _ _ h => ?_)
    refine v_if_ne C 23 20 h dX5_guess_17 (by decide) rfl (fun _ h => ?_) (fun _ h => ?_)
    · refine v_aload_n (pc' := 24) C 0 dX5_guess_23 rfl rfl ?_
      refine g_Q_now (pc' := 27) C 0 in_X5_guess_5 rfl k_X5_guess_1 rfl dX5_guess_24 rfl ?_
      refine v_iload_n (pc' := 28) C 1 dX5_guess_27 rfl rfl ?_
      refine v_calli (pc' := 31) C h (rf := fun r9 => r9) (wQ aQ aT aN aV aD aF ++ wV g aV ra zV ++ wF g aF zF) (fun r9 (u9 : Unit) => wQ aQ aT aN aV aD aF ++ wS g aN zN ++ wV g aV ra zV ++ wF g aF zF) (fun r hr => run_V C (c_X2_wasGuessed l g aN _ _ r hr) gX5_guess_X2_wasGuessed rfl nd_X2_wasGuessed rfl rfl rfl rfl ⟨Nat.le_of_ble_eq_true rfl, Nat.le_of_ble_eq_true rfl⟩ ⟨Nat.le_of_ble_eq_true rfl, Nat.le_of_ble_eq_true rfl⟩ (Nat.le_of_ble_eq_true rfl) dX5_guess_28 rfl) [1, 2, 3, 4] [0, 5, 6, 7, 8, 9, 10] [0, 7, 8, 9, 10, 1, 2, 3, 4, 5, 6] rfl rfl rfl rfl (by decide) rfl (fun _ _ => rfl) (k' := 0) (n' := 0) rfl rfl rfl (fun r_3 _ _ h => ?_)
      refine v_if_eq C 37 34 h dX5_guess_31 (by decide) rfl (fun _ h => ?_) (fun _ h => ?_)
      · refine v_aload_n (pc' := 38) C 0 dX5_guess_37 rfl rfl ?_
        refine g_Q_saved (pc' := 41) C 0 in_X5_guess_5 rfl k_X5_guess_2 rfl dX5_guess_38 rfl ?_
        refine v_aload_n (pc' := 42) C 0 dX5_guess_41 rfl rfl ?_
        refine g_Q_now (pc' := 45) C 0 in_X5_guess_5 rfl k_X5_guess_1 rfl dX5_guess_42 rfl ?_
        refine v_callPv (pc' := 48) C h (wQ aQ aT aN aV aD aF ++ wF g aF zF) (fun r9 u9 => wQ aQ aT aN aV aD aF ++ wS g aN zN ++ wV g aV u9 r9 ++ wF g aF zF) (fun r hr => run_V C (c_X1_push l g aV aN _ _ _ r hr hra) gX5_guess_X1_push rfl nd_X1_push rfl rfl rfl rfl ⟨Nat.le_of_ble_eq_true rfl, Nat.le_of_ble_eq_true rfl⟩ ⟨Nat.le_of_ble_eq_true rfl, Nat.le_of_ble_eq_true rfl⟩ (Nat.le_of_ble_eq_true rfl) dX5_guess_45 rfl) [5, 6, 1, 2, 3, 4] [0, 7, 8, 9, 10] [0, 7, 8, 9, 10, 5, 6, 1, 2, 3, 4] rfl rfl rfl rfl (by decide) rfl (fun _ _ => rfl) (k' := 4) (n' := 75) rfl rfl rfl (fun r_4 ra_5 hra h => ?_)
        refine v_aload_n (pc' := 49) C 0 dX5_guess_48 rfl rfl ?_
        refine v_aload_n (pc' := 50) C 0 dX5_guess_49 rfl rfl ?_
        refine g_Q_now (pc' := 53) C 0 in_X5_guess_5 rfl k_X5_guess_1 rfl dX5_guess_50 rfl ?_
        refine v_iload_n (pc' := 54) C 1 dX5_guess_53 rfl rfl ?_
        refine v_calli (pc' := 57) C h (rf := fun r9 => r9.1) (wV g aV ra_5 r_4) (fun r9 (u9 : Unit) => wQ aQ aT aN aV aD aF ++ wS g aN r9.2.2 ++ wV g aV ra_5 r_4 ++ wF g aF r9.2.1) (fun r hr => run_V C (c_X5_play l g aQ aT aN aV aD aF aN _ _ _ r hr) gX5_guess_X5_play rfl nd_X5_play rfl rfl rfl rfl ⟨Nat.le_of_ble_eq_true rfl, Nat.le_of_ble_eq_true rfl⟩ ⟨Nat.le_of_ble_eq_true rfl, Nat.le_of_ble_eq_true rfl⟩ (Nat.le_of_ble_eq_true rfl) dX5_guess_54 rfl) [0, 7, 8, 9, 10, 1, 2, 3, 4] [5, 6] [2, 7, 8, 9, 10, 0, 1, 3, 4, 5, 6] rfl rfl rfl rfl (by decide) rfl (fun _ _ => rfl) (k' := 4) (n' := 75) rfl rfl rfl (fun r_6 _ _ h => ?_)
        exact v_iret (rf := fun (o9 : Int32 × St × Sv × Fm) => o9.1) (Wf := fun (o9 : Int32 × St × Sv × Fm) (u9 : List RA) => (wQ aQ aT aN aV aD aF ++ wS g aN o9.2.1 ++ wV g aV u9 o9.2.2.1 ++ wF g aF o9.2.2.2) ++ wRing g u9 o9.2.2.1.1) (ok := fun (o9 : Int32 × St × Sv × Fm) (u9 : List RA) => u9.length = (o9.2.2.1.1).length) C Cr h hQ ra_5 hra rfl rfl dX5_guess_57
      · refine v_bipush (pc' := 36) C (-6) dX5_guess_34 bc_m6 rfl ?_
        refine v_widen (k' := 4) (n' := 75) (Nat.le_of_ble_eq_true rfl) (Nat.le_of_ble_eq_true rfl) ?_
        exact v_iret (rf := fun (o9 : Int32 × St × Sv × Fm) => o9.1) (Wf := fun (o9 : Int32 × St × Sv × Fm) (u9 : List RA) => (wQ aQ aT aN aV aD aF ++ wS g aN o9.2.1 ++ wV g aV u9 o9.2.2.1 ++ wF g aF o9.2.2.2) ++ wRing g u9 o9.2.2.1.1) (ok := fun (o9 : Int32 × St × Sv × Fm) (u9 : List RA) => u9.length = (o9.2.2.1.1).length) C Cr h hQ ra hra rfl rfl dX5_guess_36
    · refine v_bipush (pc' := 22) C (-3) dX5_guess_20 bc_m3 rfl ?_
      refine v_widen (k' := 4) (n' := 75) (Nat.le_of_ble_eq_true rfl) (Nat.le_of_ble_eq_true rfl) ?_
      exact v_iret (rf := fun (o9 : Int32 × St × Sv × Fm) => o9.1) (Wf := fun (o9 : Int32 × St × Sv × Fm) (u9 : List RA) => (wQ aQ aT aN aV aD aF ++ wS g aN o9.2.1 ++ wV g aV u9 o9.2.2.1 ++ wF g aF o9.2.2.2) ++ wRing g u9 o9.2.2.1.1) (ok := fun (o9 : Int32 × St × Sv × Fm) (u9 : List RA) => u9.length = (o9.2.2.1.1).length) C Cr h hQ ra hra rfl rfl dX5_guess_22
  · refine v_bipush (pc' := 9) C (-2) dX5_guess_7 bc_m2 rfl ?_
    refine v_widen (k' := 4) (n' := 75) (Nat.le_of_ble_eq_true rfl) (Nat.le_of_ble_eq_true rfl) ?_
    exact v_iret (rf := fun (o9 : Int32 × St × Sv × Fm) => o9.1) (Wf := fun (o9 : Int32 × St × Sv × Fm) (u9 : List RA) => (wQ aQ aT aN aV aD aF ++ wS g aN o9.2.1 ++ wV g aV u9 o9.2.2.1 ++ wF g aF o9.2.2.2) ++ wRing g u9 o9.2.2.1.1) (ok := fun (o9 : Int32 × St × Sv × Fm) (u9 : List RA) => u9.length = (o9.2.2.1.1).length) C Cr h hQ ra hra rfl rfl dX5_guess_9
def f_X5_guessWord (zT : Tx) (zN : St) (zV : Sv)  : Option (Int32 × Tx × St × Sv) :=
  Option.bind (f_X3_firstError zT) fun r_1 =>
  if r_1 = (-6 : Int32) then Option.bind (f_X3_readWords zT) fun r_2 =>
  if r_2.1 = (1 : Int32) then Option.bind (f_X3_wordRead r_2.2 (0 : Int32)) fun r_3 =>
  Option.bind (f_X2_isRunning zN) fun r_4 =>
  if r_4 = 0 then some ((-3 : Int32), r_2.2, zN, zV)
  else Option.bind (f_X4_lengthOf r_3) fun r_5 =>
  if r_5 = (S_length zN) then Option.bind (f_X1_push zV zN) fun r_6 =>
  Option.bind (f_X2_takeWord zN r_3) fun r_8 =>
  Option.bind (f_X3_empty r_2.2) fun r_9 =>
  if (S_status r_8) = (2 : Int32) then some ((1 : Int32), r_9, r_8, r_6)
  else some ((0 : Int32), r_9, r_8, r_6)
  else some ((-3 : Int32), r_2.2, zN, zV)
  else some ((-5 : Int32), r_2.2, zN, zV)
  else some ((-5 : Int32), zT, zN, zV)
abbrev rm_X5_guessWord : Room := { frames := 4, cells := 4, slots := 75, locals := 89 }
theorem in_X5_guessWord_2 : ∀ w ∈ wsX20, w ∈ wsX5_guessWord := fun _ h => List.mem_cons_of_mem _ (List.mem_append_left _ (List.mem_append_left _ (List.mem_append_right _ h)))
theorem in_X5_guessWord_5 : ∀ w ∈ wsX50, w ∈ wsX5_guessWord := fun _ h => List.mem_cons_of_mem _ (List.mem_append_left _ (List.mem_append_left _ (List.mem_append_left _ (List.mem_append_right _ h))))
theorem k_X5_guessWord_1 : Cond.fieldLink RX5 10 "DodgingHangman" "text" "LDodgingHangman$Text;" ∈ wsX5_guessWord := List.mem_of_getElem? (i := 1) rfl
theorem k_X5_guessWord_2 : Cond.fieldLink RX5 19 "DodgingHangman" "now" "LDodgingHangman$State;" ∈ wsX5_guessWord := List.mem_of_getElem? (i := 2) rfl
theorem k_X5_guessWord_3 : Cond.fieldLink RX5 26 "DodgingHangman" "saved" "LDodgingHangman$SavedStates;" ∈ wsX5_guessWord := List.mem_of_getElem? (i := 3) rfl
theorem nd_X5_guessWord : yX5_guessWord.cls ≠ "java/lang/invoke/MethodHandle" ∧ yX5_guessWord.cls ≠ "java/lang/invoke/VarHandle" ∧ (parseMethodDescriptor yX5_guessWord.desc).map (fun d => d.parameters.length) = some 0 := by decide +kernel
set_option maxHeartbeats 4000000 in
set_option maxRecDepth 100000 in
theorem c_X5_guessWord (l : Launch) (g : Gv) (aQ : Nat) (aT : A3) (aN : RA) (aV : A2) (aD aF : RA) (ra : List RA) (zT : Tx) (zN : St) (zV : Sv)  (o : Int32 × Tx × St × Sv) (h : f_X5_guessWord zT zN zV  = some o) (hra : ra.length = (zV.1).length) : Ct l g yX5_guessWord wsX5_guessWord rm_X5_guessWord [.ref aQ] ((wQ aQ aT aN aV aD aF ++ wT g aT zT ++ wS g aN zN ++ wV g aV ra zV) ++ wRing g ra zV.1) (Qi g o.1 (fun u : List RA => (wQ aQ aT aN aV aD aF ++ wT g aT o.2.1 ++ wS g aN o.2.2.1 ++ wV g aV u o.2.2.2) ++ wRing g u o.2.2.2.1) (fun u => u.length = (o.2.2.2.1).length)) := by
  refine enter (ret := (some .int)) (X := wQ aQ aT aN aV aD aF ++ wT g aT zT ++ wS g aN zN ++ wV g aV ra zV) (pl := (wRing g ra zV.1)) pn_X5 rfl (Nat.le_of_ble_eq_true rfl) (rfl) ?_
  intro p e s m args below meth c A Q C Cr hin hQ
  unfold f_X5_guessWord at h
  refine v_aload_n (pc' := 1) C 0 dX5_guessWord_0 rfl rfl ?_
  refine g_Q_text (pc' := 4) C 0 in_X5_guessWord_5 rfl k_X5_guessWord_1 rfl dX5_guessWord_1 rfl ?_
  refine v_calli (pc' := 7) C h (rf := fun r9 => r9) (wQ aQ aT aN aV aD aF ++ wS g aN zN ++ wV g aV ra zV) (fun r9 (u9 : Unit) => wQ aQ aT aN aV aD aF ++ wT g aT zT ++ wS g aN zN ++ wV g aV ra zV) (fun r hr => run_V C (c_X3_firstError l g aT _ r hr) gX5_guessWord_X3_firstError rfl nd_X3_firstError rfl rfl rfl rfl ⟨Nat.le_of_ble_eq_true rfl, Nat.le_of_ble_eq_true rfl⟩ ⟨Nat.le_of_ble_eq_true rfl, Nat.le_of_ble_eq_true rfl⟩ (Nat.le_of_ble_eq_true rfl) dX5_guessWord_4 rfl) [1, 2, 3] [0, 4, 5, 6, 7, 8, 9] [0, 7, 8, 9, 1, 2, 3, 4, 5, 6] rfl rfl rfl rfl (by decide) rfl (fun _ _ => rfl) (k' := 0) (n' := 0) rfl rfl rfl (fun r_1 _ _ h => ?_)
  refine v_bipush (pc' := 9) C (-6) dX5_guessWord_7 bc_m6 rfl ?_
  refine v_icmp_ne C 23 12 h dX5_guessWord_9 (by decide) rfl (fun _ h => ?_) (fun _ h => ?_)
  · refine v_bipush (pc' := 25) C (-5) dX5_guessWord_23 bc_m5 rfl ?_
    refine v_widen (k' := 4) (n' := 75) (Nat.le_of_ble_eq_true rfl) (Nat.le_of_ble_eq_true rfl) ?_
    exact v_iret (rf := fun (o9 : Int32 × Tx × St × Sv) => o9.1) (Wf := fun (o9 : Int32 × Tx × St × Sv) (u9 : List RA) => (wQ aQ aT aN aV aD aF ++ wT g aT o9.2.1 ++ wS g aN o9.2.2.1 ++ wV g aV u9 o9.2.2.2) ++ wRing g u9 o9.2.2.2.1) (ok := fun (o9 : Int32 × Tx × St × Sv) (u9 : List RA) => u9.length = (o9.2.2.2.1).length) C Cr h hQ ra hra rfl rfl dX5_guessWord_25
  · refine v_aload_n (pc' := 13) C 0 dX5_guessWord_12 rfl rfl ?_
    refine g_Q_text (pc' := 16) C 0 in_X5_guessWord_5 rfl k_X5_guessWord_1 rfl dX5_guessWord_13 rfl ?_
    refine v_calli (pc' := 19) C h (rf := fun r9 => r9.1) (wQ aQ aT aN aV aD aF ++ wS g aN zN ++ wV g aV ra zV) (fun r9 (u9 : Unit) => wQ aQ aT aN aV aD aF ++ wT g aT r9.2 ++ wS g aN zN ++ wV g aV ra zV) (fun r hr => run_V C (c_X3_readWords l g aT _ r hr) gX5_guessWord_X3_readWords rfl nd_X3_readWords rfl rfl rfl rfl ⟨Nat.le_of_ble_eq_true rfl, Nat.le_of_ble_eq_true rfl⟩ ⟨Nat.le_of_ble_eq_true rfl, Nat.le_of_ble_eq_true rfl⟩ (Nat.le_of_ble_eq_true rfl) dX5_guessWord_16 rfl) [1, 2, 3] [0, 4, 5, 6, 7, 8, 9] [0, 7, 8, 9, 1, 2, 3, 4, 5, 6] rfl rfl rfl rfl (by decide) rfl (fun _ _ => rfl) (k' := 0) (n' := 0) rfl rfl rfl (fun r_2 _ _ h => ?_)
    refine v_iconst (pc' := 20) C (1) dX5_guessWord_19 ic_1 rfl ?_
    refine v_icmp_eq C 26 23 h dX5_guessWord_20 (by decide) rfl (fun _ h => ?_) (fun _ h => ?_)
    · refine v_aload_n (pc' := 27) C 0 dX5_guessWord_26 rfl rfl ?_
      refine g_Q_text (pc' := 30) C 0 in_X5_guessWord_5 rfl k_X5_guessWord_1 rfl dX5_guessWord_27 rfl ?_
      refine v_iconst (pc' := 31) C (0) dX5_guessWord_30 ic_0 rfl ?_
      refine v_calll (pc' := 34) C h (rf := fun r9 => r9) (wQ aQ aT aN aV aD aF ++ wS g aN zN ++ wV g aV ra zV) (fun r9 (u9 : Unit) => wQ aQ aT aN aV aD aF ++ wT g aT r_2.2 ++ wS g aN zN ++ wV g aV ra zV) (fun r hr => run_V C (c_X3_wordRead l g aT _ _ r hr) gX5_guessWord_X3_wordRead rfl nd_X3_wordRead rfl rfl rfl rfl ⟨Nat.le_of_ble_eq_true rfl, Nat.le_of_ble_eq_true rfl⟩ ⟨Nat.le_of_ble_eq_true rfl, Nat.le_of_ble_eq_true rfl⟩ (Nat.le_of_ble_eq_true rfl) dX5_guessWord_31 rfl) [1, 2, 3] [0, 4, 5, 6, 7, 8, 9] [0, 7, 8, 9, 1, 2, 3, 4, 5, 6] rfl rfl rfl rfl (by decide) rfl (fun _ _ => rfl) (k' := 0) (n' := 0) rfl rfl rfl (fun r_3 _ _ h => ?_)
      refine v_lstore_n (pc' := 35) C [1, 0] (lv' := [(0, .ref aQ), (1, .long r_3)]) dX5_guessWord_34 (Nat.le_of_ble_eq_true rfl) rfl rfl ?_
      refine v_aload_n (pc' := 36) C 0 dX5_guessWord_35 rfl rfl ?_
      refine g_Q_now (pc' := 39) C 0 in_X5_guessWord_5 rfl k_X5_guessWord_2 rfl dX5_guessWord_36 rfl ?_
      refine v_calli (pc' := 42) C h (rf := fun r9 => r9) (wQ aQ aT aN aV aD aF ++ wT g aT r_2.2 ++ wV g aV ra zV) (fun r9 (u9 : Unit) => wQ aQ aT aN aV aD aF ++ wT g aT r_2.2 ++ wS g aN zN ++ wV g aV ra zV) (fun r hr => run_V C (c_X2_isRunning l g aN _ r hr) gX5_guessWord_X2_isRunning rfl nd_X2_isRunning rfl rfl rfl rfl ⟨Nat.le_of_ble_eq_true rfl, Nat.le_of_ble_eq_true rfl⟩ ⟨Nat.le_of_ble_eq_true rfl, Nat.le_of_ble_eq_true rfl⟩ (Nat.le_of_ble_eq_true rfl) dX5_guessWord_39 rfl) [4, 5, 6, 7] [0, 1, 2, 3, 8, 9] [0, 1, 2, 3, 6, 7, 8, 9, 4, 5] rfl rfl rfl rfl (by decide) rfl (fun _ _ => rfl) (k' := 0) (n' := 0) rfl rfl rfl (fun r_4 _ _ h => ?_)
      refine v_if_eq C 59 45 h dX5_guessWord_42 (by decide) rfl (fun _ h => ?_) (fun _ h => ?_)
      · refine v_bipush (pc' := 61) C (-3) dX5_guessWord_59 bc_m3 rfl ?_
        refine v_widen (k' := 4) (n' := 75) (Nat.le_of_ble_eq_true rfl) (Nat.le_of_ble_eq_true rfl) ?_
        exact v_iret (rf := fun (o9 : Int32 × Tx × St × Sv) => o9.1) (Wf := fun (o9 : Int32 × Tx × St × Sv) (u9 : List RA) => (wQ aQ aT aN aV aD aF ++ wT g aT o9.2.1 ++ wS g aN o9.2.2.1 ++ wV g aV u9 o9.2.2.2) ++ wRing g u9 o9.2.2.2.1) (ok := fun (o9 : Int32 × Tx × St × Sv) (u9 : List RA) => u9.length = (o9.2.2.2.1).length) C Cr h hQ ra hra rfl rfl dX5_guessWord_61
      · refine v_lload_n (pc' := 46) C 1 dX5_guessWord_45 rfl rfl ?_
        refine v_purei (pc' := 49) C h (rf := fun r9 => r9) (fun r hr => run_S C (c_X4_lengthOf l g _ r hr) gX5_guessWord_X4_lengthOf rfl nd_X4_lengthOf ⟨Nat.le_of_ble_eq_true rfl, Nat.le_of_ble_eq_true rfl⟩ ⟨Nat.le_of_ble_eq_true rfl, Nat.le_of_ble_eq_true rfl⟩ (Nat.le_of_ble_eq_true rfl) dX5_guessWord_46 rfl) rfl (fun r_5 h => ?_)
        refine v_aload_n (pc' := 50) C 0 dX5_guessWord_49 rfl rfl ?_
        refine g_Q_now (pc' := 53) C 0 in_X5_guessWord_5 rfl k_X5_guessWord_2 rfl dX5_guessWord_50 rfl ?_
        refine gN_S_length (pc' := 56) C 4 in_X5_guessWord_2 rfl (List.mem_of_getElem? (i := 6) rfl) rfl dX5_guessWord_53 rfl ?_
        refine v_icmp_eq C 62 59 h dX5_guessWord_56 (by decide) rfl (fun _ h => ?_) (fun _ h => ?_)
        · refine v_aload_n (pc' := 63) C 0 dX5_guessWord_62 rfl rfl ?_
          refine g_Q_saved (pc' := 66) C 0 in_X5_guessWord_5 rfl k_X5_guessWord_3 rfl dX5_guessWord_63 rfl ?_
          refine v_aload_n (pc' := 67) C 0 dX5_guessWord_66 rfl rfl ?_
          refine g_Q_now (pc' := 70) C 0 in_X5_guessWord_5 rfl k_X5_guessWord_2 rfl dX5_guessWord_67 rfl ?_
          refine v_callPv (pc' := 73) C h (wQ aQ aT aN aV aD aF ++ wT g aT r_2.2) (fun r9 u9 => wQ aQ aT aN aV aD aF ++ wT g aT r_2.2 ++ wS g aN zN ++ wV g aV u9 r9) (fun r hr => run_V C (c_X1_push l g aV aN _ _ _ r hr hra) gX5_guessWord_X1_push rfl nd_X1_push rfl rfl rfl rfl ⟨Nat.le_of_ble_eq_true rfl, Nat.le_of_ble_eq_true rfl⟩ ⟨Nat.le_of_ble_eq_true rfl, Nat.le_of_ble_eq_true rfl⟩ (Nat.le_of_ble_eq_true rfl) dX5_guessWord_70 rfl) [8, 9, 4, 5, 6, 7] [0, 1, 2, 3] [0, 1, 2, 3, 6, 7, 8, 9, 4, 5] rfl rfl rfl rfl (by decide) rfl (fun _ _ => rfl) (k' := 4) (n' := 75) rfl rfl rfl (fun r_6 ra_7 hra h => ?_)
          refine v_aload_n (pc' := 74) C 0 dX5_guessWord_73 rfl rfl ?_
          refine g_Q_now (pc' := 77) C 0 in_X5_guessWord_5 rfl k_X5_guessWord_2 rfl dX5_guessWord_74 rfl ?_
          refine v_lload_n (pc' := 78) C 1 dX5_guessWord_77 rfl rfl ?_
          refine v_callv (pc' := 81) C h (wQ aQ aT aN aV aD aF ++ wT g aT r_2.2 ++ wV g aV ra_7 r_6) (fun r9 (u9 : Unit) => wQ aQ aT aN aV aD aF ++ wT g aT r_2.2 ++ wS g aN r9 ++ wV g aV ra_7 r_6) (fun r hr => run_V C (c_X2_takeWord l g aN _ _ r hr) gX5_guessWord_X2_takeWord rfl nd_X2_takeWord rfl rfl rfl rfl ⟨Nat.le_of_ble_eq_true rfl, Nat.le_of_ble_eq_true rfl⟩ ⟨Nat.le_of_ble_eq_true rfl, Nat.le_of_ble_eq_true rfl⟩ (Nat.le_of_ble_eq_true rfl) dX5_guessWord_78 rfl) [4, 5, 6, 7] [0, 1, 2, 3, 8, 9] [0, 1, 2, 3, 6, 7, 8, 9, 4, 5] rfl rfl rfl rfl (by decide) rfl (fun _ _ => rfl) (k' := 4) (n' := 75) rfl rfl rfl (fun r_8 _ _ h => ?_)
          refine v_aload_n (pc' := 82) C 0 dX5_guessWord_81 rfl rfl ?_
          refine g_Q_text (pc' := 85) C 0 in_X5_guessWord_5 rfl k_X5_guessWord_1 rfl dX5_guessWord_82 rfl ?_
          refine v_callv (pc' := 88) C h (wQ aQ aT aN aV aD aF ++ wS g aN r_8 ++ wV g aV ra_7 r_6) (fun r9 (u9 : Unit) => wQ aQ aT aN aV aD aF ++ wT g aT r9 ++ wS g aN r_8 ++ wV g aV ra_7 r_6) (fun r hr => run_V C (c_X3_empty l g aT _ r hr) gX5_guessWord_X3_empty rfl nd_X3_empty rfl rfl rfl rfl ⟨Nat.le_of_ble_eq_true rfl, Nat.le_of_ble_eq_true rfl⟩ ⟨Nat.le_of_ble_eq_true rfl, Nat.le_of_ble_eq_true rfl⟩ (Nat.le_of_ble_eq_true rfl) dX5_guessWord_85 rfl) [1, 2, 3] [0, 4, 5, 6, 7, 8, 9] [0, 7, 8, 9, 1, 2, 3, 4, 5, 6] rfl rfl rfl rfl (by decide) rfl (fun _ _ => rfl) (k' := 4) (n' := 75) rfl rfl rfl (fun r_9 _ _ h => ?_)
          refine v_aload_n (pc' := 89) C 0 dX5_guessWord_88 rfl rfl ?_
          refine g_Q_now (pc' := 92) C 0 in_X5_guessWord_5 rfl k_X5_guessWord_2 rfl dX5_guessWord_89 rfl ?_
          refine gN_S_status (pc' := 95) C 4 in_X5_guessWord_2 rfl (List.mem_of_getElem? (i := 5) rfl) rfl dX5_guessWord_92 rfl ?_
          refine v_iconst (pc' := 96) C (2) dX5_guessWord_95 ic_2 rfl ?_
          refine v_icmp_ne C 103 99 h dX5_guessWord_96 (by decide) rfl (fun _ h => ?_) (fun _ h => ?_)
          · refine v_iconst (pc' := 104) C (0) dX5_guessWord_103 ic_0 rfl ?_
            exact v_iret (rf := fun (o9 : Int32 × Tx × St × Sv) => o9.1) (Wf := fun (o9 : Int32 × Tx × St × Sv) (u9 : List RA) => (wQ aQ aT aN aV aD aF ++ wT g aT o9.2.1 ++ wS g aN o9.2.2.1 ++ wV g aV u9 o9.2.2.2) ++ wRing g u9 o9.2.2.2.1) (ok := fun (o9 : Int32 × Tx × St × Sv) (u9 : List RA) => u9.length = (o9.2.2.2.1).length) C Cr h hQ ra_7 hra rfl rfl dX5_guessWord_104
          · refine v_iconst (pc' := 100) C (1) dX5_guessWord_99 ic_1 rfl ?_
            refine v_goto C (pc' := 104) dX5_guessWord_100 (by decide) ?_
            exact v_iret (rf := fun (o9 : Int32 × Tx × St × Sv) => o9.1) (Wf := fun (o9 : Int32 × Tx × St × Sv) (u9 : List RA) => (wQ aQ aT aN aV aD aF ++ wT g aT o9.2.1 ++ wS g aN o9.2.2.1 ++ wV g aV u9 o9.2.2.2) ++ wRing g u9 o9.2.2.2.1) (ok := fun (o9 : Int32 × Tx × St × Sv) (u9 : List RA) => u9.length = (o9.2.2.2.1).length) C Cr h hQ ra_7 hra rfl rfl dX5_guessWord_104
        · refine v_bipush (pc' := 61) C (-3) dX5_guessWord_59 bc_m3 rfl ?_
          refine v_widen (k' := 4) (n' := 75) (Nat.le_of_ble_eq_true rfl) (Nat.le_of_ble_eq_true rfl) ?_
          exact v_iret (rf := fun (o9 : Int32 × Tx × St × Sv) => o9.1) (Wf := fun (o9 : Int32 × Tx × St × Sv) (u9 : List RA) => (wQ aQ aT aN aV aD aF ++ wT g aT o9.2.1 ++ wS g aN o9.2.2.1 ++ wV g aV u9 o9.2.2.2) ++ wRing g u9 o9.2.2.2.1) (ok := fun (o9 : Int32 × Tx × St × Sv) (u9 : List RA) => u9.length = (o9.2.2.2.1).length) C Cr h hQ ra hra rfl rfl dX5_guessWord_61
    · refine v_bipush (pc' := 25) C (-5) dX5_guessWord_23 bc_m5 rfl ?_
      refine v_widen (k' := 4) (n' := 75) (Nat.le_of_ble_eq_true rfl) (Nat.le_of_ble_eq_true rfl) ?_
      exact v_iret (rf := fun (o9 : Int32 × Tx × St × Sv) => o9.1) (Wf := fun (o9 : Int32 × Tx × St × Sv) (u9 : List RA) => (wQ aQ aT aN aV aD aF ++ wT g aT o9.2.1 ++ wS g aN o9.2.2.1 ++ wV g aV u9 o9.2.2.2) ++ wRing g u9 o9.2.2.2.1) (ok := fun (o9 : Int32 × Tx × St × Sv) (u9 : List RA) => u9.length = (o9.2.2.2.1).length) C Cr h hQ ra hra rfl rfl dX5_guessWord_25
def f_X5_giveUp (zN : St) (zV : Sv)  : Option (Int32 × St × Sv) :=
  Option.bind (f_X2_isRunning zN) fun r_1 =>
  if r_1 = 0 then some ((-3 : Int32), zN, zV)
  else Option.bind (f_X1_push zV zN) fun r_2 =>
  Option.bind (f_X2_lose zN) fun r_4 =>
  Option.bind (f_X5_memberAt (S_candidates r_4) (0 : Int32)) fun r_5 =>
  some (r_5, r_4, r_2)
abbrev rm_X5_giveUp : Room := { frames := 3, cells := 4, slots := 75, locals := 69 }
theorem in_X5_giveUp_2 : ∀ w ∈ wsX20, w ∈ wsX5_giveUp := fun _ h => List.mem_cons_of_mem _ (List.mem_append_left _ (List.mem_append_right _ h))
theorem in_X5_giveUp_5 : ∀ w ∈ wsX50, w ∈ wsX5_giveUp := fun _ h => List.mem_cons_of_mem _ (List.mem_append_left _ (List.mem_append_left _ (List.mem_append_right _ h)))
theorem k_X5_giveUp_1 : Cond.fieldLink RX5 19 "DodgingHangman" "now" "LDodgingHangman$State;" ∈ wsX5_giveUp := List.mem_of_getElem? (i := 1) rfl
theorem k_X5_giveUp_2 : Cond.fieldLink RX5 26 "DodgingHangman" "saved" "LDodgingHangman$SavedStates;" ∈ wsX5_giveUp := List.mem_of_getElem? (i := 2) rfl
theorem nd_X5_giveUp : yX5_giveUp.cls ≠ "java/lang/invoke/MethodHandle" ∧ yX5_giveUp.cls ≠ "java/lang/invoke/VarHandle" ∧ (parseMethodDescriptor yX5_giveUp.desc).map (fun d => d.parameters.length) = some 0 := by decide +kernel
set_option maxHeartbeats 4000000 in
set_option maxRecDepth 100000 in
theorem c_X5_giveUp (l : Launch) (g : Gv) (aQ : Nat) (aT : A3) (aN : RA) (aV : A2) (aD aF : RA) (ra : List RA) (zN : St) (zV : Sv)  (o : Int32 × St × Sv) (h : f_X5_giveUp zN zV  = some o) (hra : ra.length = (zV.1).length) : Ct l g yX5_giveUp wsX5_giveUp rm_X5_giveUp [.ref aQ] ((wQ aQ aT aN aV aD aF ++ wS g aN zN ++ wV g aV ra zV) ++ wRing g ra zV.1) (Qi g o.1 (fun u : List RA => (wQ aQ aT aN aV aD aF ++ wS g aN o.2.1 ++ wV g aV u o.2.2) ++ wRing g u o.2.2.1) (fun u => u.length = (o.2.2.1).length)) := by
  refine enter (ret := (some .int)) (X := wQ aQ aT aN aV aD aF ++ wS g aN zN ++ wV g aV ra zV) (pl := (wRing g ra zV.1)) pn_X5 rfl (Nat.le_of_ble_eq_true rfl) (rfl) ?_
  intro p e s m args below meth c A Q C Cr hin hQ
  unfold f_X5_giveUp at h
  refine v_aload_n (pc' := 1) C 0 dX5_giveUp_0 rfl rfl ?_
  refine g_Q_now (pc' := 4) C 0 in_X5_giveUp_5 rfl k_X5_giveUp_1 rfl dX5_giveUp_1 rfl ?_
  refine v_calli (pc' := 7) C h (rf := fun r9 => r9) (wQ aQ aT aN aV aD aF ++ wV g aV ra zV) (fun r9 (u9 : Unit) => wQ aQ aT aN aV aD aF ++ wS g aN zN ++ wV g aV ra zV) (fun r hr => run_V C (c_X2_isRunning l g aN _ r hr) gX5_giveUp_X2_isRunning rfl nd_X2_isRunning rfl rfl rfl rfl ⟨Nat.le_of_ble_eq_true rfl, Nat.le_of_ble_eq_true rfl⟩ ⟨Nat.le_of_ble_eq_true rfl, Nat.le_of_ble_eq_true rfl⟩ (Nat.le_of_ble_eq_true rfl) dX5_giveUp_4 rfl) [1, 2, 3, 4] [0, 5, 6] [0, 3, 4, 5, 6, 1, 2] rfl rfl rfl rfl (by decide) rfl (fun _ _ => rfl) (k' := 0) (n' := 0) rfl rfl rfl (fun r_1 _ _ h => ?_)
  refine v_if_ne C 13 10 h dX5_giveUp_7 (by decide) rfl (fun _ h => ?_) (fun _ h => ?_)
  · refine v_aload_n (pc' := 14) C 0 dX5_giveUp_13 rfl rfl ?_
    refine g_Q_saved (pc' := 17) C 0 in_X5_giveUp_5 rfl k_X5_giveUp_2 rfl dX5_giveUp_14 rfl ?_
    refine v_aload_n (pc' := 18) C 0 dX5_giveUp_17 rfl rfl ?_
    refine g_Q_now (pc' := 21) C 0 in_X5_giveUp_5 rfl k_X5_giveUp_1 rfl dX5_giveUp_18 rfl ?_
    refine v_callPv (pc' := 24) C h (wQ aQ aT aN aV aD aF) (fun r9 u9 => wQ aQ aT aN aV aD aF ++ wS g aN zN ++ wV g aV u9 r9) (fun r hr => run_V C (c_X1_push l g aV aN _ _ _ r hr hra) gX5_giveUp_X1_push rfl nd_X1_push rfl rfl rfl rfl ⟨Nat.le_of_ble_eq_true rfl, Nat.le_of_ble_eq_true rfl⟩ ⟨Nat.le_of_ble_eq_true rfl, Nat.le_of_ble_eq_true rfl⟩ (Nat.le_of_ble_eq_true rfl) dX5_giveUp_21 rfl) [5, 6, 1, 2, 3, 4] [0] [0, 3, 4, 5, 6, 1, 2] rfl rfl rfl rfl (by decide) rfl (fun _ _ => rfl) (k' := 4) (n' := 75) rfl rfl rfl (fun r_2 ra_3 hra h => ?_)
    refine v_aload_n (pc' := 25) C 0 dX5_giveUp_24 rfl rfl ?_
    refine g_Q_now (pc' := 28) C 0 in_X5_giveUp_5 rfl k_X5_giveUp_1 rfl dX5_giveUp_25 rfl ?_
    refine v_callv (pc' := 31) C h (wQ aQ aT aN aV aD aF ++ wV g aV ra_3 r_2) (fun r9 (u9 : Unit) => wQ aQ aT aN aV aD aF ++ wS g aN r9 ++ wV g aV ra_3 r_2) (fun r hr => run_V C (c_X2_lose l g aN _ r hr) gX5_giveUp_X2_lose rfl nd_X2_lose rfl rfl rfl rfl ⟨Nat.le_of_ble_eq_true rfl, Nat.le_of_ble_eq_true rfl⟩ ⟨Nat.le_of_ble_eq_true rfl, Nat.le_of_ble_eq_true rfl⟩ (Nat.le_of_ble_eq_true rfl) dX5_giveUp_28 rfl) [1, 2, 3, 4] [0, 5, 6] [0, 3, 4, 5, 6, 1, 2] rfl rfl rfl rfl (by decide) rfl (fun _ _ => rfl) (k' := 4) (n' := 75) rfl rfl rfl (fun r_4 _ _ h => ?_)
    refine v_aload_n (pc' := 32) C 0 dX5_giveUp_31 rfl rfl ?_
    refine g_Q_now (pc' := 35) C 0 in_X5_giveUp_5 rfl k_X5_giveUp_1 rfl dX5_giveUp_32 rfl ?_
    refine gN_S_candidates (pc' := 38) C 1 in_X5_giveUp_2 rfl (List.mem_of_getElem? (i := 8) rfl) rfl dX5_giveUp_35 rfl ?_
    refine v_iconst (pc' := 39) C (0) dX5_giveUp_38 ic_0 rfl ?_
    refine v_purei (pc' := 42) C h (rf := fun r9 => r9) (fun r hr => run_S C (c_X5_memberAt l g _ _ r hr) gX5_giveUp_X5_memberAt rfl nd_X5_memberAt ⟨Nat.le_of_ble_eq_true rfl, Nat.le_of_ble_eq_true rfl⟩ ⟨Nat.le_of_ble_eq_true rfl, Nat.le_of_ble_eq_true rfl⟩ (Nat.le_of_ble_eq_true rfl) dX5_giveUp_39 rfl) rfl (fun r_5 h => ?_)
    exact v_iret (rf := fun (o9 : Int32 × St × Sv) => o9.1) (Wf := fun (o9 : Int32 × St × Sv) (u9 : List RA) => (wQ aQ aT aN aV aD aF ++ wS g aN o9.2.1 ++ wV g aV u9 o9.2.2) ++ wRing g u9 o9.2.2.1) (ok := fun (o9 : Int32 × St × Sv) (u9 : List RA) => u9.length = (o9.2.2.1).length) C Cr h hQ ra_3 hra rfl rfl dX5_giveUp_42
  · refine v_bipush (pc' := 12) C (-3) dX5_giveUp_10 bc_m3 rfl ?_
    refine v_widen (k' := 4) (n' := 75) (Nat.le_of_ble_eq_true rfl) (Nat.le_of_ble_eq_true rfl) ?_
    exact v_iret (rf := fun (o9 : Int32 × St × Sv) => o9.1) (Wf := fun (o9 : Int32 × St × Sv) (u9 : List RA) => (wQ aQ aT aN aV aD aF ++ wS g aN o9.2.1 ++ wV g aV u9 o9.2.2) ++ wRing g u9 o9.2.2.1) (ok := fun (o9 : Int32 × St × Sv) (u9 : List RA) => u9.length = (o9.2.2.1).length) C Cr h hQ ra hra rfl rfl dX5_giveUp_12
def f_X5_status (zN : St)  : Option (Int32) :=
  some (S_status zN)
abbrev rm_X5_status : Room := { frames := 0, cells := 0, slots := 0, locals := 0 }
theorem in_X5_status_2 : ∀ w ∈ wsX20, w ∈ wsX5_status := fun _ h => List.mem_cons_of_mem _ (List.mem_append_right _ h)
theorem in_X5_status_5 : ∀ w ∈ wsX50, w ∈ wsX5_status := fun _ h => List.mem_cons_of_mem _ (List.mem_append_left _ (List.mem_append_right _ h))
theorem k_X5_status_1 : Cond.fieldLink RX5 19 "DodgingHangman" "now" "LDodgingHangman$State;" ∈ wsX5_status := List.mem_of_getElem? (i := 1) rfl
theorem nd_X5_status : yX5_status.cls ≠ "java/lang/invoke/MethodHandle" ∧ yX5_status.cls ≠ "java/lang/invoke/VarHandle" ∧ (parseMethodDescriptor yX5_status.desc).map (fun d => d.parameters.length) = some 0 := by decide +kernel
set_option maxHeartbeats 4000000 in
set_option maxRecDepth 100000 in
theorem c_X5_status (l : Launch) (g : Gv) (aQ : Nat) (aT : A3) (aN : RA) (aV : A2) (aD aF : RA) (zN : St)  (o : Int32) (h : f_X5_status zN  = some o) : Ct l g yX5_status wsX5_status rm_X5_status [.ref aQ] (wQ aQ aT aN aV aD aF ++ wS g aN zN) (Qi g o (fun _ : Unit => wQ aQ aT aN aV aD aF ++ wS g aN zN) (fun _ => True)) := by
  refine enter (ret := (some .int)) (X := wQ aQ aT aN aV aD aF ++ wS g aN zN) (pl := []) pn_X5 rfl (Nat.le_of_ble_eq_true rfl) ((List.append_nil _).symm) ?_
  intro p e s m args below meth c A Q C Cr hin hQ
  unfold f_X5_status at h
  refine v_aload_n (pc' := 1) C 0 dX5_status_0 rfl rfl ?_
  refine g_Q_now (pc' := 4) C 0 in_X5_status_5 rfl k_X5_status_1 rfl dX5_status_1 rfl ?_
  refine gN_S_status (pc' := 7) C 1 in_X5_status_2 rfl (List.mem_of_getElem? (i := 5) rfl) rfl dX5_status_4 rfl ?_
  exact v_iret (rf := fun (o9 : Int32) => o9) (Wf := fun (o9 : Int32) (u9 : Unit) => wQ aQ aT aN aV aD aF ++ wS g aN zN) (ok := fun (o9 : Int32) (u9 : Unit) => True) C Cr h hQ () trivial rfl rfl dX5_status_7
def f_X5_lives (zN : St)  : Option (Int32) :=
  some (S_lives zN)
abbrev rm_X5_lives : Room := { frames := 0, cells := 0, slots := 0, locals := 0 }
theorem in_X5_lives_2 : ∀ w ∈ wsX20, w ∈ wsX5_lives := fun _ h => List.mem_cons_of_mem _ (List.mem_append_right _ h)
theorem in_X5_lives_5 : ∀ w ∈ wsX50, w ∈ wsX5_lives := fun _ h => List.mem_cons_of_mem _ (List.mem_append_left _ (List.mem_append_right _ h))
theorem k_X5_lives_1 : Cond.fieldLink RX5 19 "DodgingHangman" "now" "LDodgingHangman$State;" ∈ wsX5_lives := List.mem_of_getElem? (i := 1) rfl
theorem nd_X5_lives : yX5_lives.cls ≠ "java/lang/invoke/MethodHandle" ∧ yX5_lives.cls ≠ "java/lang/invoke/VarHandle" ∧ (parseMethodDescriptor yX5_lives.desc).map (fun d => d.parameters.length) = some 0 := by decide +kernel
set_option maxHeartbeats 4000000 in
set_option maxRecDepth 100000 in
theorem c_X5_lives (l : Launch) (g : Gv) (aQ : Nat) (aT : A3) (aN : RA) (aV : A2) (aD aF : RA) (zN : St)  (o : Int32) (h : f_X5_lives zN  = some o) : Ct l g yX5_lives wsX5_lives rm_X5_lives [.ref aQ] (wQ aQ aT aN aV aD aF ++ wS g aN zN) (Qi g o (fun _ : Unit => wQ aQ aT aN aV aD aF ++ wS g aN zN) (fun _ => True)) := by
  refine enter (ret := (some .int)) (X := wQ aQ aT aN aV aD aF ++ wS g aN zN) (pl := []) pn_X5 rfl (Nat.le_of_ble_eq_true rfl) ((List.append_nil _).symm) ?_
  intro p e s m args below meth c A Q C Cr hin hQ
  unfold f_X5_lives at h
  refine v_aload_n (pc' := 1) C 0 dX5_lives_0 rfl rfl ?_
  refine g_Q_now (pc' := 4) C 0 in_X5_lives_5 rfl k_X5_lives_1 rfl dX5_lives_1 rfl ?_
  refine gN_S_lives (pc' := 7) C 1 in_X5_lives_2 rfl (List.mem_of_getElem? (i := 7) rfl) rfl dX5_lives_4 rfl ?_
  exact v_iret (rf := fun (o9 : Int32) => o9) (Wf := fun (o9 : Int32) (u9 : Unit) => wQ aQ aT aN aV aD aF ++ wS g aN zN) (ok := fun (o9 : Int32) (u9 : Unit) => True) C Cr h hQ () trivial rfl rfl dX5_lives_7
def f_X5_shown (zN : St) (p1 : Int32) : Option (Int32) :=
  if p1 < 0 then some (-1 : Int32)
  else if p1 < (S_length zN) then Option.bind (f_X4_letterAt (S_pattern zN) p1) fun r_1 =>
  if r_1 = 0 then some (-6 : Int32)
  else some r_1
  else some (-1 : Int32)
abbrev rm_X5_shown : Room := { frames := 2, cells := 0, slots := 0, locals := 43 }
theorem in_X5_shown_2 : ∀ w ∈ wsX20, w ∈ wsX5_shown := fun _ h => List.mem_cons_of_mem _ (List.mem_append_right _ h)
theorem in_X5_shown_5 : ∀ w ∈ wsX50, w ∈ wsX5_shown := fun _ h => List.mem_cons_of_mem _ (List.mem_append_left _ (List.mem_append_right _ h))
theorem k_X5_shown_1 : Cond.fieldLink RX5 19 "DodgingHangman" "now" "LDodgingHangman$State;" ∈ wsX5_shown := List.mem_of_getElem? (i := 1) rfl
theorem nd_X5_shown : yX5_shown.cls ≠ "java/lang/invoke/MethodHandle" ∧ yX5_shown.cls ≠ "java/lang/invoke/VarHandle" ∧ (parseMethodDescriptor yX5_shown.desc).map (fun d => d.parameters.length) = some 1 := by decide +kernel
set_option maxHeartbeats 4000000 in
set_option maxRecDepth 100000 in
theorem c_X5_shown (l : Launch) (g : Gv) (aQ : Nat) (aT : A3) (aN : RA) (aV : A2) (aD aF : RA) (zN : St) (p1 : Int32) (o : Int32) (h : f_X5_shown zN p1 = some o) : Ct l g yX5_shown wsX5_shown rm_X5_shown [.ref aQ, .int p1] (wQ aQ aT aN aV aD aF ++ wS g aN zN) (Qi g o (fun _ : Unit => wQ aQ aT aN aV aD aF ++ wS g aN zN) (fun _ => True)) := by
  refine enter (ret := (some .int)) (X := wQ aQ aT aN aV aD aF ++ wS g aN zN) (pl := []) pn_X5 rfl (Nat.le_of_ble_eq_true rfl) ((List.append_nil _).symm) ?_
  intro p e s m args below meth c A Q C Cr hin hQ
  unfold f_X5_shown at h
  refine v_iload_n (pc' := 1) C 1 dX5_shown_0 rfl rfl ?_
  refine v_if_lt C 15 4 h dX5_shown_1 (by decide) rfl (fun _ h => ?_) (fun _ h => ?_)
  · refine v_iconst (pc' := 16) C (-1) dX5_shown_15 ic_m1 rfl ?_
    exact v_iret (rf := fun (o9 : Int32) => o9) (Wf := fun (o9 : Int32) (u9 : Unit) => wQ aQ aT aN aV aD aF ++ wS g aN zN) (ok := fun (o9 : Int32) (u9 : Unit) => True) C Cr h hQ () trivial rfl rfl dX5_shown_16
  · refine v_iload_n (pc' := 5) C 1 dX5_shown_4 rfl rfl ?_
    refine v_aload_n (pc' := 6) C 0 dX5_shown_5 rfl rfl ?_
    refine g_Q_now (pc' := 9) C 0 in_X5_shown_5 rfl k_X5_shown_1 rfl dX5_shown_6 rfl ?_
    refine gN_S_length (pc' := 12) C 1 in_X5_shown_2 rfl (List.mem_of_getElem? (i := 6) rfl) rfl dX5_shown_9 rfl ?_
    refine v_icmp_lt C 17 15 h dX5_shown_12 (by decide) rfl (fun _ h => ?_) (fun _ h => ?_)
    · refine v_aload_n (pc' := 18) C 0 dX5_shown_17 rfl rfl ?_
      refine g_Q_now (pc' := 21) C 0 in_X5_shown_5 rfl k_X5_shown_1 rfl dX5_shown_18 rfl ?_
      refine gN_S_pattern (pc' := 24) C 1 in_X5_shown_2 rfl (List.mem_of_getElem? (i := 12) rfl) rfl dX5_shown_21 rfl ?_
      refine v_iload_n (pc' := 25) C 1 dX5_shown_24 rfl rfl ?_
      refine v_purei (pc' := 28) C h (rf := fun r9 => r9) (fun r hr => run_S C (c_X4_letterAt l g _ _ r hr) gX5_shown_X4_letterAt rfl nd_X4_letterAt ⟨Nat.le_of_ble_eq_true rfl, Nat.le_of_ble_eq_true rfl⟩ ⟨Nat.le_of_ble_eq_true rfl, Nat.le_of_ble_eq_true rfl⟩ (Nat.le_of_ble_eq_true rfl) dX5_shown_25 rfl) rfl (fun r_1 h => ?_)
      refine v_istore_n (pc' := 29) C [1, 2, 0] (lv' := [(0, .ref aQ), (1, .int p1), (2, .int r_1)]) dX5_shown_28 (Nat.le_of_ble_eq_true rfl) rfl rfl ?_
      refine v_iload_n (pc' := 30) C 2 dX5_shown_29 rfl rfl ?_
      refine v_if_ne C 38 33 h dX5_shown_30 (by decide) rfl (fun _ h => ?_) (fun _ h => ?_)
      · refine v_iload_n (pc' := 39) C 2 dX5_shown_38 rfl rfl ?_
        exact v_iret (rf := fun (o9 : Int32) => o9) (Wf := fun (o9 : Int32) (u9 : Unit) => wQ aQ aT aN aV aD aF ++ wS g aN zN) (ok := fun (o9 : Int32) (u9 : Unit) => True) C Cr h hQ () trivial rfl rfl dX5_shown_39
      · refine v_bipush (pc' := 35) C (-6) dX5_shown_33 bc_m6 rfl ?_
        refine v_goto C (pc' := 39) dX5_shown_35 (by decide) ?_
        exact v_iret (rf := fun (o9 : Int32) => o9) (Wf := fun (o9 : Int32) (u9 : Unit) => wQ aQ aT aN aV aD aF ++ wS g aN zN) (ok := fun (o9 : Int32) (u9 : Unit) => True) C Cr h hQ () trivial rfl rfl dX5_shown_39
    · refine v_iconst (pc' := 16) C (-1) dX5_shown_15 ic_m1 rfl ?_
      exact v_iret (rf := fun (o9 : Int32) => o9) (Wf := fun (o9 : Int32) (u9 : Unit) => wQ aQ aT aN aV aD aF ++ wS g aN zN) (ok := fun (o9 : Int32) (u9 : Unit) => True) C Cr h hQ () trivial rfl rfl dX5_shown_16
def f_X5_candidates (zN : St)  : Option (Int32) :=
  Option.bind (f_J6_bitCount_0f7a4 (S_candidates zN)) fun r_1 =>
  some r_1
abbrev rm_X5_candidates : Room := { frames := 1, cells := 0, slots := 0, locals := 20 }
theorem in_X5_candidates_2 : ∀ w ∈ wsX20, w ∈ wsX5_candidates := fun _ h => List.mem_cons_of_mem _ (List.mem_append_right _ h)
theorem in_X5_candidates_5 : ∀ w ∈ wsX50, w ∈ wsX5_candidates := fun _ h => List.mem_cons_of_mem _ (List.mem_append_left _ (List.mem_append_right _ h))
theorem k_X5_candidates_1 : Cond.fieldLink RX5 19 "DodgingHangman" "now" "LDodgingHangman$State;" ∈ wsX5_candidates := List.mem_of_getElem? (i := 1) rfl
theorem nd_X5_candidates : yX5_candidates.cls ≠ "java/lang/invoke/MethodHandle" ∧ yX5_candidates.cls ≠ "java/lang/invoke/VarHandle" ∧ (parseMethodDescriptor yX5_candidates.desc).map (fun d => d.parameters.length) = some 0 := by decide +kernel
set_option maxHeartbeats 4000000 in
set_option maxRecDepth 100000 in
theorem c_X5_candidates (l : Launch) (g : Gv) (aQ : Nat) (aT : A3) (aN : RA) (aV : A2) (aD aF : RA) (zN : St)  (o : Int32) (h : f_X5_candidates zN  = some o) : Ct l g yX5_candidates wsX5_candidates rm_X5_candidates [.ref aQ] (wQ aQ aT aN aV aD aF ++ wS g aN zN) (Qi g o (fun _ : Unit => wQ aQ aT aN aV aD aF ++ wS g aN zN) (fun _ => True)) := by
  refine enter (ret := (some .int)) (X := wQ aQ aT aN aV aD aF ++ wS g aN zN) (pl := []) pn_X5 rfl (Nat.le_of_ble_eq_true rfl) ((List.append_nil _).symm) ?_
  intro p e s m args below meth c A Q C Cr hin hQ
  unfold f_X5_candidates at h
  refine v_aload_n (pc' := 1) C 0 dX5_candidates_0 rfl rfl ?_
  refine g_Q_now (pc' := 4) C 0 in_X5_candidates_5 rfl k_X5_candidates_1 rfl dX5_candidates_1 rfl ?_
  refine gN_S_candidates (pc' := 7) C 1 in_X5_candidates_2 rfl (List.mem_of_getElem? (i := 8) rfl) rfl dX5_candidates_4 rfl ?_
  refine v_purei (pc' := 10) C h (rf := fun r9 => r9) (fun r hr => run_S C (c_J6_bitCount_0f7a4 l g _ r hr) gX5_candidates_J6_bitCount_0f7a4 rfl nd_J6_bitCount_0f7a4 ⟨Nat.le_of_ble_eq_true rfl, Nat.le_of_ble_eq_true rfl⟩ ⟨Nat.le_of_ble_eq_true rfl, Nat.le_of_ble_eq_true rfl⟩ (Nat.le_of_ble_eq_true rfl) dX5_candidates_7 rfl) rfl (fun r_1 h => ?_)
  exact v_iret (rf := fun (o9 : Int32) => o9) (Wf := fun (o9 : Int32) (u9 : Unit) => wQ aQ aT aN aV aD aF ++ wS g aN zN) (ok := fun (o9 : Int32) (u9 : Unit) => True) C Cr h hQ () trivial rfl rfl dX5_candidates_10
def f_X5_candidate (zN : St) (p1 : Int32) : Option (Int32) :=
  Option.bind (f_X5_memberAt (S_candidates zN) p1) fun r_1 =>
  some r_1
abbrev rm_X5_candidate : Room := { frames := 1, cells := 0, slots := 0, locals := 23 }
theorem in_X5_candidate_2 : ∀ w ∈ wsX20, w ∈ wsX5_candidate := fun _ h => List.mem_cons_of_mem _ (List.mem_append_right _ h)
theorem in_X5_candidate_5 : ∀ w ∈ wsX50, w ∈ wsX5_candidate := fun _ h => List.mem_cons_of_mem _ (List.mem_append_left _ (List.mem_append_right _ h))
theorem k_X5_candidate_1 : Cond.fieldLink RX5 19 "DodgingHangman" "now" "LDodgingHangman$State;" ∈ wsX5_candidate := List.mem_of_getElem? (i := 1) rfl
theorem nd_X5_candidate : yX5_candidate.cls ≠ "java/lang/invoke/MethodHandle" ∧ yX5_candidate.cls ≠ "java/lang/invoke/VarHandle" ∧ (parseMethodDescriptor yX5_candidate.desc).map (fun d => d.parameters.length) = some 1 := by decide +kernel
set_option maxHeartbeats 4000000 in
set_option maxRecDepth 100000 in
theorem c_X5_candidate (l : Launch) (g : Gv) (aQ : Nat) (aT : A3) (aN : RA) (aV : A2) (aD aF : RA) (zN : St) (p1 : Int32) (o : Int32) (h : f_X5_candidate zN p1 = some o) : Ct l g yX5_candidate wsX5_candidate rm_X5_candidate [.ref aQ, .int p1] (wQ aQ aT aN aV aD aF ++ wS g aN zN) (Qi g o (fun _ : Unit => wQ aQ aT aN aV aD aF ++ wS g aN zN) (fun _ => True)) := by
  refine enter (ret := (some .int)) (X := wQ aQ aT aN aV aD aF ++ wS g aN zN) (pl := []) pn_X5 rfl (Nat.le_of_ble_eq_true rfl) ((List.append_nil _).symm) ?_
  intro p e s m args below meth c A Q C Cr hin hQ
  unfold f_X5_candidate at h
  refine v_aload_n (pc' := 1) C 0 dX5_candidate_0 rfl rfl ?_
  refine g_Q_now (pc' := 4) C 0 in_X5_candidate_5 rfl k_X5_candidate_1 rfl dX5_candidate_1 rfl ?_
  refine gN_S_candidates (pc' := 7) C 1 in_X5_candidate_2 rfl (List.mem_of_getElem? (i := 8) rfl) rfl dX5_candidate_4 rfl ?_
  refine v_iload_n (pc' := 8) C 1 dX5_candidate_7 rfl rfl ?_
  refine v_purei (pc' := 11) C h (rf := fun r9 => r9) (fun r hr => run_S C (c_X5_memberAt l g _ _ r hr) gX5_candidate_X5_memberAt rfl nd_X5_memberAt ⟨Nat.le_of_ble_eq_true rfl, Nat.le_of_ble_eq_true rfl⟩ ⟨Nat.le_of_ble_eq_true rfl, Nat.le_of_ble_eq_true rfl⟩ (Nat.le_of_ble_eq_true rfl) dX5_candidate_8 rfl) rfl (fun r_1 h => ?_)
  exact v_iret (rf := fun (o9 : Int32) => o9) (Wf := fun (o9 : Int32) (u9 : Unit) => wQ aQ aT aN aV aD aF ++ wS g aN zN) (ok := fun (o9 : Int32) (u9 : Unit) => True) C Cr h hQ () trivial rfl rfl dX5_candidate_11
def f_X5_guesses (zN : St)  : Option (Int32) :=
  some (S_guessCount zN)
abbrev rm_X5_guesses : Room := { frames := 0, cells := 0, slots := 0, locals := 0 }
theorem in_X5_guesses_2 : ∀ w ∈ wsX20, w ∈ wsX5_guesses := fun _ h => List.mem_cons_of_mem _ (List.mem_append_right _ h)
theorem in_X5_guesses_5 : ∀ w ∈ wsX50, w ∈ wsX5_guesses := fun _ h => List.mem_cons_of_mem _ (List.mem_append_left _ (List.mem_append_right _ h))
theorem k_X5_guesses_1 : Cond.fieldLink RX5 19 "DodgingHangman" "now" "LDodgingHangman$State;" ∈ wsX5_guesses := List.mem_of_getElem? (i := 1) rfl
theorem nd_X5_guesses : yX5_guesses.cls ≠ "java/lang/invoke/MethodHandle" ∧ yX5_guesses.cls ≠ "java/lang/invoke/VarHandle" ∧ (parseMethodDescriptor yX5_guesses.desc).map (fun d => d.parameters.length) = some 0 := by decide +kernel
set_option maxHeartbeats 4000000 in
set_option maxRecDepth 100000 in
theorem c_X5_guesses (l : Launch) (g : Gv) (aQ : Nat) (aT : A3) (aN : RA) (aV : A2) (aD aF : RA) (zN : St)  (o : Int32) (h : f_X5_guesses zN  = some o) : Ct l g yX5_guesses wsX5_guesses rm_X5_guesses [.ref aQ] (wQ aQ aT aN aV aD aF ++ wS g aN zN) (Qi g o (fun _ : Unit => wQ aQ aT aN aV aD aF ++ wS g aN zN) (fun _ => True)) := by
  refine enter (ret := (some .int)) (X := wQ aQ aT aN aV aD aF ++ wS g aN zN) (pl := []) pn_X5 rfl (Nat.le_of_ble_eq_true rfl) ((List.append_nil _).symm) ?_
  intro p e s m args below meth c A Q C Cr hin hQ
  unfold f_X5_guesses at h
  refine v_aload_n (pc' := 1) C 0 dX5_guesses_0 rfl rfl ?_
  refine g_Q_now (pc' := 4) C 0 in_X5_guesses_5 rfl k_X5_guesses_1 rfl dX5_guesses_1 rfl ?_
  refine gN_S_guessCount (pc' := 7) C 1 in_X5_guesses_2 rfl (List.mem_of_getElem? (i := 11) rfl) rfl dX5_guesses_4 rfl ?_
  exact v_iret (rf := fun (o9 : Int32) => o9) (Wf := fun (o9 : Int32) (u9 : Unit) => wQ aQ aT aN aV aD aF ++ wS g aN zN) (ok := fun (o9 : Int32) (u9 : Unit) => True) C Cr h hQ () trivial rfl rfl dX5_guesses_7
def f_X5_guessAt (zN : St) (p1 : Int32) : Option (Int32) :=
  Option.bind (f_X2_guessedAt zN p1) fun r_1 =>
  some r_1
abbrev rm_X5_guessAt : Room := { frames := 1, cells := 0, slots := 0, locals := 21 }
theorem in_X5_guessAt_5 : ∀ w ∈ wsX50, w ∈ wsX5_guessAt := fun _ h => List.mem_cons_of_mem _ (List.mem_append_left _ (List.mem_append_right _ h))
theorem k_X5_guessAt_1 : Cond.fieldLink RX5 19 "DodgingHangman" "now" "LDodgingHangman$State;" ∈ wsX5_guessAt := List.mem_of_getElem? (i := 1) rfl
theorem nd_X5_guessAt : yX5_guessAt.cls ≠ "java/lang/invoke/MethodHandle" ∧ yX5_guessAt.cls ≠ "java/lang/invoke/VarHandle" ∧ (parseMethodDescriptor yX5_guessAt.desc).map (fun d => d.parameters.length) = some 1 := by decide +kernel
set_option maxHeartbeats 4000000 in
set_option maxRecDepth 100000 in
theorem c_X5_guessAt (l : Launch) (g : Gv) (aQ : Nat) (aT : A3) (aN : RA) (aV : A2) (aD aF : RA) (zN : St) (p1 : Int32) (o : Int32) (h : f_X5_guessAt zN p1 = some o) : Ct l g yX5_guessAt wsX5_guessAt rm_X5_guessAt [.ref aQ, .int p1] (wQ aQ aT aN aV aD aF ++ wS g aN zN) (Qi g o (fun _ : Unit => wQ aQ aT aN aV aD aF ++ wS g aN zN) (fun _ => True)) := by
  refine enter (ret := (some .int)) (X := wQ aQ aT aN aV aD aF ++ wS g aN zN) (pl := []) pn_X5 rfl (Nat.le_of_ble_eq_true rfl) ((List.append_nil _).symm) ?_
  intro p e s m args below meth c A Q C Cr hin hQ
  unfold f_X5_guessAt at h
  refine v_aload_n (pc' := 1) C 0 dX5_guessAt_0 rfl rfl ?_
  refine g_Q_now (pc' := 4) C 0 in_X5_guessAt_5 rfl k_X5_guessAt_1 rfl dX5_guessAt_1 rfl ?_
  refine v_iload_n (pc' := 5) C 1 dX5_guessAt_4 rfl rfl ?_
  refine v_calli (pc' := 8) C h (rf := fun r9 => r9) (wQ aQ aT aN aV aD aF) (fun r9 (u9 : Unit) => wQ aQ aT aN aV aD aF ++ wS g aN zN) (fun r hr => run_V C (c_X2_guessedAt l g aN _ _ r hr) gX5_guessAt_X2_guessedAt rfl nd_X2_guessedAt rfl rfl rfl rfl ⟨Nat.le_of_ble_eq_true rfl, Nat.le_of_ble_eq_true rfl⟩ ⟨Nat.le_of_ble_eq_true rfl, Nat.le_of_ble_eq_true rfl⟩ (Nat.le_of_ble_eq_true rfl) dX5_guessAt_5 rfl) [1, 2, 3, 4] [0] [0, 1, 2, 3, 4] rfl rfl rfl rfl (by decide) rfl (fun _ _ => rfl) (k' := 0) (n' := 0) rfl rfl rfl (fun r_1 _ _ h => ?_)
  exact v_iret (rf := fun (o9 : Int32) => o9) (Wf := fun (o9 : Int32) (u9 : Unit) => wQ aQ aT aN aV aD aF ++ wS g aN zN) (ok := fun (o9 : Int32) (u9 : Unit) => True) C Cr h hQ () trivial rfl rfl dX5_guessAt_8
def f_X5_faultOfAsking (zN : St) (p1 : Int32) : Option (Int32) :=
  Option.bind (f_X5_isLetter p1) fun r_1 =>
  if r_1 = 0 then some (-2 : Int32)
  else Option.bind (f_X2_isRunning zN) fun r_2 =>
  if r_2 = 0 then some (-3 : Int32)
  else Option.bind (f_X2_wasGuessed zN p1) fun r_3 =>
  if r_3 = 0 then some (0 : Int32)
  else some (-3 : Int32)
abbrev rm_X5_faultOfAsking : Room := { frames := 3, cells := 0, slots := 0, locals := 61 }
theorem in_X5_faultOfAsking_5 : ∀ w ∈ wsX50, w ∈ wsX5_faultOfAsking := fun _ h => List.mem_cons_of_mem _ (List.mem_append_left _ (List.mem_append_right _ h))
theorem k_X5_faultOfAsking_1 : Cond.fieldLink RX5 19 "DodgingHangman" "now" "LDodgingHangman$State;" ∈ wsX5_faultOfAsking := List.mem_of_getElem? (i := 1) rfl
theorem nd_X5_faultOfAsking : yX5_faultOfAsking.cls ≠ "java/lang/invoke/MethodHandle" ∧ yX5_faultOfAsking.cls ≠ "java/lang/invoke/VarHandle" ∧ (parseMethodDescriptor yX5_faultOfAsking.desc).map (fun d => d.parameters.length) = some 1 := by decide +kernel
set_option maxHeartbeats 4000000 in
set_option maxRecDepth 100000 in
theorem c_X5_faultOfAsking (l : Launch) (g : Gv) (aQ : Nat) (aT : A3) (aN : RA) (aV : A2) (aD aF : RA) (zN : St) (p1 : Int32) (o : Int32) (h : f_X5_faultOfAsking zN p1 = some o) : Ct l g yX5_faultOfAsking wsX5_faultOfAsking rm_X5_faultOfAsking [.ref aQ, .int p1] (wQ aQ aT aN aV aD aF ++ wS g aN zN) (Qi g o (fun _ : Unit => wQ aQ aT aN aV aD aF ++ wS g aN zN) (fun _ => True)) := by
  refine enter (ret := (some .int)) (X := wQ aQ aT aN aV aD aF ++ wS g aN zN) (pl := []) pn_X5 rfl (Nat.le_of_ble_eq_true rfl) ((List.append_nil _).symm) ?_
  intro p e s m args below meth c A Q C Cr hin hQ
  unfold f_X5_faultOfAsking at h
  refine v_iload_n (pc' := 1) C 1 dX5_faultOfAsking_0 rfl rfl ?_
  refine v_purei (pc' := 4) C h (rf := fun r9 => r9) (fun r hr => run_S C (c_X5_isLetter l g _ r hr) gX5_faultOfAsking_X5_isLetter rfl nd_X5_isLetter ⟨Nat.le_of_ble_eq_true rfl, Nat.le_of_ble_eq_true rfl⟩ ⟨Nat.le_of_ble_eq_true rfl, Nat.le_of_ble_eq_true rfl⟩ (Nat.le_of_ble_eq_true rfl) dX5_faultOfAsking_1 rfl) rfl (fun r_1 h => ?_)
  refine v_if_ne C 10 7 h dX5_faultOfAsking_4 (by decide) rfl (fun _ h => ?_) (fun _ h => ?_)
  · refine v_aload_n (pc' := 11) C 0 dX5_faultOfAsking_10 rfl rfl ?_
    refine g_Q_now (pc' := 14) C 0 in_X5_faultOfAsking_5 rfl k_X5_faultOfAsking_1 rfl dX5_faultOfAsking_11 rfl ?_
    refine v_calli (pc' := 17) C h (rf := fun r9 => r9) (wQ aQ aT aN aV aD aF) (fun r9 (u9 : Unit) => wQ aQ aT aN aV aD aF ++ wS g aN zN) (fun r hr => run_V C (c_X2_isRunning l g aN _ r hr) gX5_faultOfAsking_X2_isRunning rfl nd_X2_isRunning rfl rfl rfl rfl ⟨Nat.le_of_ble_eq_true rfl, Nat.le_of_ble_eq_true rfl⟩ ⟨Nat.le_of_ble_eq_true rfl, Nat.le_of_ble_eq_true rfl⟩ (Nat.le_of_ble_eq_true rfl) dX5_faultOfAsking_14 rfl) [1, 2, 3, 4] [0] [0, 1, 2, 3, 4] rfl rfl rfl rfl (by decide) rfl (fun _ _ => rfl) (k' := 0) (n' := 0) rfl rfl rfl (fun r_2 _ _ h => ?_)
    refine v_if_eq C 35 20 h dX5_faultOfAsking_17 (by decide) rfl (fun _ h => ?_) (fun _ h => ?_)
    · refine v_bipush (pc' := 37) C (-3) dX5_faultOfAsking_35 bc_m3 rfl ?_
      exact v_iret (rf := fun (o9 : Int32) => o9) (Wf := fun (o9 : Int32) (u9 : Unit) => wQ aQ aT aN aV aD aF ++ wS g aN zN) (ok := fun (o9 : Int32) (u9 : Unit) => True) C Cr h hQ () trivial rfl rfl dX5_faultOfAsking_37
    · refine v_aload_n (pc' := 21) C 0 dX5_faultOfAsking_20 rfl rfl ?_
      refine g_Q_now (pc' := 24) C 0 in_X5_faultOfAsking_5 rfl k_X5_faultOfAsking_1 rfl dX5_faultOfAsking_21 rfl ?_
      refine v_iload_n (pc' := 25) C 1 dX5_faultOfAsking_24 rfl rfl ?_
      refine v_calli (pc' := 28) C h (rf := fun r9 => r9) (wQ aQ aT aN aV aD aF) (fun r9 (u9 : Unit) => wQ aQ aT aN aV aD aF ++ wS g aN zN) (fun r hr => run_V C (c_X2_wasGuessed l g aN _ _ r hr) gX5_faultOfAsking_X2_wasGuessed rfl nd_X2_wasGuessed rfl rfl rfl rfl ⟨Nat.le_of_ble_eq_true rfl, Nat.le_of_ble_eq_true rfl⟩ ⟨Nat.le_of_ble_eq_true rfl, Nat.le_of_ble_eq_true rfl⟩ (Nat.le_of_ble_eq_true rfl) dX5_faultOfAsking_25 rfl) [1, 2, 3, 4] [0] [0, 1, 2, 3, 4] rfl rfl rfl rfl (by decide) rfl (fun _ _ => rfl) (k' := 0) (n' := 0) rfl rfl rfl (fun r_3 _ _ h => ?_)
      refine v_if_ne C 35 31 h dX5_faultOfAsking_28 (by decide) rfl (fun _ h => ?_) (fun _ h => ?_)
      · refine v_bipush (pc' := 37) C (-3) dX5_faultOfAsking_35 bc_m3 rfl ?_
        exact v_iret (rf := fun (o9 : Int32) => o9) (Wf := fun (o9 : Int32) (u9 : Unit) => wQ aQ aT aN aV aD aF ++ wS g aN zN) (ok := fun (o9 : Int32) (u9 : Unit) => True) C Cr h hQ () trivial rfl rfl dX5_faultOfAsking_37
      · refine v_iconst (pc' := 32) C (0) dX5_faultOfAsking_31 ic_0 rfl ?_
        refine v_goto C (pc' := 37) dX5_faultOfAsking_32 (by decide) ?_
        exact v_iret (rf := fun (o9 : Int32) => o9) (Wf := fun (o9 : Int32) (u9 : Unit) => wQ aQ aT aN aV aD aF ++ wS g aN zN) (ok := fun (o9 : Int32) (u9 : Unit) => True) C Cr h hQ () trivial rfl rfl dX5_faultOfAsking_37
  · refine v_bipush (pc' := 9) C (-2) dX5_faultOfAsking_7 bc_m2 rfl ?_
    exact v_iret (rf := fun (o9 : Int32) => o9) (Wf := fun (o9 : Int32) (u9 : Unit) => wQ aQ aT aN aV aD aF ++ wS g aN zN) (ok := fun (o9 : Int32) (u9 : Unit) => True) C Cr h hQ () trivial rfl rfl dX5_faultOfAsking_9
def f_X5_families (zN : St) (zF : Fm) (p1 : Int32) : Option (Int32 × Fm) :=
  Option.bind (f_X5_faultOfAsking zN p1) fun r_1 =>
  if r_1 = 0 then Option.bind (f_X0_make zF zN p1) fun r_2 =>
  some ((F_count r_2), r_2)
  else some (r_1, zF)
abbrev rm_X5_families : Room := { frames := 4, cells := 0, slots := 0, locals := 93 }
theorem in_X5_families_0 : ∀ w ∈ wsX00, w ∈ wsX5_families := fun _ h => List.mem_cons_of_mem _ (List.mem_append_left _ (List.mem_append_right _ h))
theorem in_X5_families_5 : ∀ w ∈ wsX50, w ∈ wsX5_families := fun _ h => List.mem_cons_of_mem _ (List.mem_append_left _ (List.mem_append_left _ (List.mem_append_right _ h)))
theorem k_X5_families_1 : Cond.fieldLink RX5 36 "DodgingHangman" "split" "LDodgingHangman$Families;" ∈ wsX5_families := List.mem_of_getElem? (i := 1) rfl
theorem k_X5_families_2 : Cond.fieldLink RX5 19 "DodgingHangman" "now" "LDodgingHangman$State;" ∈ wsX5_families := List.mem_of_getElem? (i := 2) rfl
theorem nd_X5_families : yX5_families.cls ≠ "java/lang/invoke/MethodHandle" ∧ yX5_families.cls ≠ "java/lang/invoke/VarHandle" ∧ (parseMethodDescriptor yX5_families.desc).map (fun d => d.parameters.length) = some 1 := by decide +kernel
set_option maxHeartbeats 4000000 in
set_option maxRecDepth 100000 in
theorem c_X5_families (l : Launch) (g : Gv) (aQ : Nat) (aT : A3) (aN : RA) (aV : A2) (aD aF : RA) (zN : St) (zF : Fm) (p1 : Int32) (o : Int32 × Fm) (h : f_X5_families zN zF p1 = some o) : Ct l g yX5_families wsX5_families rm_X5_families [.ref aQ, .int p1] (wQ aQ aT aN aV aD aF ++ wS g aN zN ++ wF g aF zF) (Qi g o.1 (fun _ : Unit => wQ aQ aT aN aV aD aF ++ wS g aN zN ++ wF g aF o.2) (fun _ => True)) := by
  refine enter (ret := (some .int)) (X := wQ aQ aT aN aV aD aF ++ wS g aN zN ++ wF g aF zF) (pl := []) pn_X5 rfl (Nat.le_of_ble_eq_true rfl) ((List.append_nil _).symm) ?_
  intro p e s m args below meth c A Q C Cr hin hQ
  unfold f_X5_families at h
  refine v_aload_n (pc' := 1) C 0 dX5_families_0 rfl rfl ?_
  refine v_iload_n (pc' := 2) C 1 dX5_families_1 rfl rfl ?_
  refine v_calli (pc' := 5) C h (rf := fun r9 => r9) (wF g aF zF) (fun r9 (u9 : Unit) => wQ aQ aT aN aV aD aF ++ wS g aN zN ++ wF g aF zF) (fun r hr => run_V C (c_X5_faultOfAsking l g aQ aT aN aV aD aF _ _ r hr) gX5_families_X5_faultOfAsking rfl nd_X5_faultOfAsking rfl rfl rfl rfl ⟨Nat.le_of_ble_eq_true rfl, Nat.le_of_ble_eq_true rfl⟩ ⟨Nat.le_of_ble_eq_true rfl, Nat.le_of_ble_eq_true rfl⟩ (Nat.le_of_ble_eq_true rfl) dX5_families_2 rfl) [0, 1, 2, 3, 4] [5, 6, 7, 8] [4, 5, 6, 7, 8, 0, 1, 2, 3] rfl rfl rfl rfl (by decide) rfl (fun _ _ => rfl) (k' := 0) (n' := 0) rfl rfl rfl (fun r_1 _ _ h => ?_)
  refine v_istore_n (pc' := 6) C [1, 2, 0] (lv' := [(0, .ref aQ), (1, .int p1), (2, .int r_1)]) dX5_families_5 (Nat.le_of_ble_eq_true rfl) rfl rfl ?_
  refine v_iload_n (pc' := 7) C 2 dX5_families_6 rfl rfl ?_
  refine v_if_eq C 12 10 h dX5_families_7 (by decide) rfl (fun _ h => ?_) (fun _ h => ?_)
  · refine v_aload_n (pc' := 13) C 0 dX5_families_12 rfl rfl ?_
    refine g_Q_split (pc' := 16) C 0 in_X5_families_5 rfl k_X5_families_1 rfl dX5_families_13 rfl ?_
    refine v_aload_n (pc' := 17) C 0 dX5_families_16 rfl rfl ?_
    refine g_Q_now (pc' := 20) C 0 in_X5_families_5 rfl k_X5_families_2 rfl dX5_families_17 rfl ?_
    refine v_iload_n (pc' := 21) C 1 dX5_families_20 rfl rfl ?_
    refine v_callv (pc' := 24) C h (wQ aQ aT aN aV aD aF) (fun r9 (u9 : Unit) => wQ aQ aT aN aV aD aF ++ wS g aN zN ++ wF g aF r9) (fun r hr => run_V C (c_X0_make l g aF aN _ _ _ r hr) gX5_families_X0_make rfl nd_X0_make rfl rfl rfl rfl ⟨Nat.le_of_ble_eq_true rfl, Nat.le_of_ble_eq_true rfl⟩ ⟨Nat.le_of_ble_eq_true rfl, Nat.le_of_ble_eq_true rfl⟩ (Nat.le_of_ble_eq_true rfl) dX5_families_21 rfl) [5, 6, 7, 8, 1, 2, 3, 4] [0] [0, 5, 6, 7, 8, 1, 2, 3, 4] rfl rfl rfl rfl (by decide) rfl (fun _ _ => rfl) (k' := 0) (n' := 0) rfl rfl rfl (fun r_2 _ _ h => ?_)
    refine v_aload_n (pc' := 25) C 0 dX5_families_24 rfl rfl ?_
    refine g_Q_split (pc' := 28) C 0 in_X5_families_5 rfl k_X5_families_1 rfl dX5_families_25 rfl ?_
    refine gN_F_count (pc' := 31) C 5 in_X5_families_0 rfl (List.mem_of_getElem? (i := 14) rfl) rfl dX5_families_28 rfl ?_
    exact v_iret (rf := fun (o9 : Int32 × Fm) => o9.1) (Wf := fun (o9 : Int32 × Fm) (u9 : Unit) => wQ aQ aT aN aV aD aF ++ wS g aN zN ++ wF g aF o9.2) (ok := fun (o9 : Int32 × Fm) (u9 : Unit) => True) C Cr h hQ () trivial rfl rfl dX5_families_31
  · refine v_iload_n (pc' := 11) C 2 dX5_families_10 rfl rfl ?_
    exact v_iret (rf := fun (o9 : Int32 × Fm) => o9.1) (Wf := fun (o9 : Int32 × Fm) (u9 : Unit) => wQ aQ aT aN aV aD aF ++ wS g aN zN ++ wF g aF o9.2) (ok := fun (o9 : Int32 × Fm) (u9 : Unit) => True) C Cr h hQ () trivial rfl rfl dX5_families_11
def f_X5_family (zN : St) (zF : Fm) (p1 : Int32) (p2 : Int32) (p3 : Int32) : Option (Int32 × Fm) :=
  Option.bind (f_X5_faultOfAsking zN p1) fun r_1 =>
  if r_1 = 0 then Option.bind (f_X0_make zF zN p1) fun r_2 =>
  Option.bind (f_X0_ranked r_2 p2) fun r_3 =>
  Option.bind (f_X0_has r_2 r_3) fun r_4 =>
  if r_4 = 0 then some ((-1 : Int32), r_2)
  else if p3 = (0 : Int32) then Option.bind (f_X0_sizeOf r_2 r_3) fun r_5 =>
  some (r_5, r_2)
  else if p3 = (1 : Int32) then Option.bind (f_X0_maskOf r_2 r_3) fun r_6 =>
  some (r_6, r_2)
  else if p3 = (2 : Int32) then Option.bind (f_X0_membersOf r_2 r_3) fun r_7 =>
  Option.bind (f_X5_memberAt r_7 (0 : Int32)) fun r_8 =>
  some (r_8, r_2)
  else if p3 = (3 : Int32) then Option.bind (f_X0_freshnessOf r_2 r_3) fun r_9 =>
  some (r_9, r_2)
  else some ((-2 : Int32), r_2)
  else some (r_1, zF)
abbrev rm_X5_family : Room := { frames := 5, cells := 0, slots := 0, locals := 111 }
theorem in_X5_family_5 : ∀ w ∈ wsX50, w ∈ wsX5_family := fun _ h => List.mem_cons_of_mem _ (List.mem_append_left _ (List.mem_append_left _ (List.mem_append_right _ h)))
theorem k_X5_family_1 : Cond.fieldLink RX5 36 "DodgingHangman" "split" "LDodgingHangman$Families;" ∈ wsX5_family := List.mem_of_getElem? (i := 1) rfl
theorem k_X5_family_2 : Cond.fieldLink RX5 19 "DodgingHangman" "now" "LDodgingHangman$State;" ∈ wsX5_family := List.mem_of_getElem? (i := 2) rfl
theorem nd_X5_family : yX5_family.cls ≠ "java/lang/invoke/MethodHandle" ∧ yX5_family.cls ≠ "java/lang/invoke/VarHandle" ∧ (parseMethodDescriptor yX5_family.desc).map (fun d => d.parameters.length) = some 3 := by decide +kernel
set_option maxHeartbeats 4000000 in
set_option maxRecDepth 100000 in
theorem c_X5_family (l : Launch) (g : Gv) (aQ : Nat) (aT : A3) (aN : RA) (aV : A2) (aD aF : RA) (zN : St) (zF : Fm) (p1 : Int32) (p2 : Int32) (p3 : Int32) (o : Int32 × Fm) (h : f_X5_family zN zF p1 p2 p3 = some o) : Ct l g yX5_family wsX5_family rm_X5_family [.ref aQ, .int p1, .int p2, .int p3] (wQ aQ aT aN aV aD aF ++ wS g aN zN ++ wF g aF zF) (Qi g o.1 (fun _ : Unit => wQ aQ aT aN aV aD aF ++ wS g aN zN ++ wF g aF o.2) (fun _ => True)) := by
  refine enter (ret := (some .int)) (X := wQ aQ aT aN aV aD aF ++ wS g aN zN ++ wF g aF zF) (pl := []) pn_X5 rfl (Nat.le_of_ble_eq_true rfl) ((List.append_nil _).symm) ?_
  intro p e s m args below meth c A Q C Cr hin hQ
  unfold f_X5_family at h
  refine v_aload_n (pc' := 1) C 0 dX5_family_0 rfl rfl ?_
  refine v_iload_n (pc' := 2) C 1 dX5_family_1 rfl rfl ?_
  refine v_calli (pc' := 5) C h (rf := fun r9 => r9) (wF g aF zF) (fun r9 (u9 : Unit) => wQ aQ aT aN aV aD aF ++ wS g aN zN ++ wF g aF zF) (fun r hr => run_V C (c_X5_faultOfAsking l g aQ aT aN aV aD aF _ _ r hr) gX5_family_X5_faultOfAsking rfl nd_X5_faultOfAsking rfl rfl rfl rfl ⟨Nat.le_of_ble_eq_true rfl, Nat.le_of_ble_eq_true rfl⟩ ⟨Nat.le_of_ble_eq_true rfl, Nat.le_of_ble_eq_true rfl⟩ (Nat.le_of_ble_eq_true rfl) dX5_family_2 rfl) [0, 1, 2, 3, 4] [5, 6, 7, 8] [4, 5, 6, 7, 8, 0, 1, 2, 3] rfl rfl rfl rfl (by decide) rfl (fun _ _ => rfl) (k' := 0) (n' := 0) rfl rfl rfl (fun r_1 _ _ h => ?_)
  refine v_istore (pc' := 7) C [1, 2, 3, 4, 0] (lv' := [(0, .ref aQ), (1, .int p1), (2, .int p2), (3, .int p3), (4, .int r_1)]) dX5_family_5 (Nat.le_of_ble_eq_true rfl) rfl rfl ?_
  refine v_iload (pc' := 9) C 4 dX5_family_7 rfl rfl ?_
  refine v_if_eq C 15 12 h dX5_family_9 (by decide) rfl (fun _ h => ?_) (fun _ h => ?_)
  · refine v_aload_n (pc' := 16) C 0 dX5_family_15 rfl rfl ?_
    refine g_Q_split (pc' := 19) C 0 in_X5_family_5 rfl k_X5_family_1 rfl dX5_family_16 rfl ?_
    refine v_aload_n (pc' := 20) C 0 dX5_family_19 rfl rfl ?_
    refine g_Q_now (pc' := 23) C 0 in_X5_family_5 rfl k_X5_family_2 rfl dX5_family_20 rfl ?_
    refine v_iload_n (pc' := 24) C 1 dX5_family_23 rfl rfl ?_
    refine v_callv (pc' := 27) C h (wQ aQ aT aN aV aD aF) (fun r9 (u9 : Unit) => wQ aQ aT aN aV aD aF ++ wS g aN zN ++ wF g aF r9) (fun r hr => run_V C (c_X0_make l g aF aN _ _ _ r hr) gX5_family_X0_make rfl nd_X0_make rfl rfl rfl rfl ⟨Nat.le_of_ble_eq_true rfl, Nat.le_of_ble_eq_true rfl⟩ ⟨Nat.le_of_ble_eq_true rfl, Nat.le_of_ble_eq_true rfl⟩ (Nat.le_of_ble_eq_true rfl) dX5_family_24 rfl) [5, 6, 7, 8, 1, 2, 3, 4] [0] [0, 5, 6, 7, 8, 1, 2, 3, 4] rfl rfl rfl rfl (by decide) rfl (fun _ _ => rfl) (k' := 0) (n' := 0) rfl rfl rfl (fun r_2 _ _ h => ?_)
    refine v_aload_n (pc' := 28) C 0 dX5_family_27 rfl rfl ?_
    refine g_Q_split (pc' := 31) C 0 in_X5_family_5 rfl k_X5_family_1 rfl dX5_family_28 rfl ?_
    refine v_iload_n (pc' := 32) C 2 dX5_family_31 rfl rfl ?_
    refine v_calli (pc' := 35) C h (rf := fun r9 => r9) (wQ aQ aT aN aV aD aF ++ wS g aN zN) (fun r9 (u9 : Unit) => wQ aQ aT aN aV aD aF ++ wS g aN zN ++ wF g aF r_2) (fun r hr => run_V C (c_X0_ranked l g aF _ _ r hr) gX5_family_X0_ranked rfl nd_X0_ranked rfl rfl rfl rfl ⟨Nat.le_of_ble_eq_true rfl, Nat.le_of_ble_eq_true rfl⟩ ⟨Nat.le_of_ble_eq_true rfl, Nat.le_of_ble_eq_true rfl⟩ (Nat.le_of_ble_eq_true rfl) dX5_family_32 rfl) [5, 6, 7, 8] [0, 1, 2, 3, 4] [0, 1, 2, 3, 4, 5, 6, 7, 8] rfl rfl rfl rfl (by decide) rfl (fun _ _ => rfl) (k' := 0) (n' := 0) rfl rfl rfl (fun r_3 _ _ h => ?_)
    refine v_istore (pc' := 37) C [1, 2, 3, 4, 5, 0] (lv' := [(0, .ref aQ), (1, .int p1), (2, .int p2), (3, .int p3), (4, .int r_1), (5, .int r_3)]) dX5_family_35 (Nat.le_of_ble_eq_true rfl) rfl rfl ?_
    refine v_aload_n (pc' := 38) C 0 dX5_family_37 rfl rfl ?_
    refine g_Q_split (pc' := 41) C 0 in_X5_family_5 rfl k_X5_family_1 rfl dX5_family_38 rfl ?_
    refine v_iload (pc' := 43) C 5 dX5_family_41 rfl rfl ?_
    refine v_calli (pc' := 46) C h (rf := fun r9 => r9) (wQ aQ aT aN aV aD aF ++ wS g aN zN) (fun r9 (u9 : Unit) => wQ aQ aT aN aV aD aF ++ wS g aN zN ++ wF g aF r_2) (fun r hr => run_V C (c_X0_has l g aF _ _ r hr) gX5_family_X0_has rfl nd_X0_has rfl rfl rfl rfl ⟨Nat.le_of_ble_eq_true rfl, Nat.le_of_ble_eq_true rfl⟩ ⟨Nat.le_of_ble_eq_true rfl, Nat.le_of_ble_eq_true rfl⟩ (Nat.le_of_ble_eq_true rfl) dX5_family_43 rfl) [5, 6, 7, 8] [0, 1, 2, 3, 4] [0, 1, 2, 3, 4, 5, 6, 7, 8] rfl rfl rfl rfl (by decide) rfl (fun _ _ => rfl) (k' := 0) (n' := 0) rfl rfl rfl (fun r_4 _ _ h => ?_)
    refine v_if_ne C 51 49 h dX5_family_46 (by decide) rfl (fun _ h => ?_) (fun _ h => ?_)
    · refine v_iload_n (pc' := 52) C 3 dX5_family_51 rfl rfl ?_
      refine v_case C (0) 84 h dX5_family_52 (by decide) (by decide) rfl (by decide) (fun h => ?_) (fun hc0 h => ?_)
      · refine v_aload_n (pc' := 85) C 0 dX5_family_84 rfl rfl ?_
        refine g_Q_split (pc' := 88) C 0 in_X5_family_5 rfl k_X5_family_1 rfl dX5_family_85 rfl ?_
        refine v_iload (pc' := 90) C 5 dX5_family_88 rfl rfl ?_
        refine v_calli (pc' := 93) C h (rf := fun r9 => r9) (wQ aQ aT aN aV aD aF ++ wS g aN zN) (fun r9 (u9 : Unit) => wQ aQ aT aN aV aD aF ++ wS g aN zN ++ wF g aF r_2) (fun r hr => run_V C (c_X0_sizeOf l g aF _ _ r hr) gX5_family_X0_sizeOf rfl nd_X0_sizeOf rfl rfl rfl rfl ⟨Nat.le_of_ble_eq_true rfl, Nat.le_of_ble_eq_true rfl⟩ ⟨Nat.le_of_ble_eq_true rfl, Nat.le_of_ble_eq_true rfl⟩ (Nat.le_of_ble_eq_true rfl) dX5_family_90 rfl) [5, 6, 7, 8] [0, 1, 2, 3, 4] [0, 1, 2, 3, 4, 5, 6, 7, 8] rfl rfl rfl rfl (by decide) rfl (fun _ _ => rfl) (k' := 0) (n' := 0) rfl rfl rfl (fun r_5 _ _ h => ?_)
        exact v_iret (rf := fun (o9 : Int32 × Fm) => o9.1) (Wf := fun (o9 : Int32 × Fm) (u9 : Unit) => wQ aQ aT aN aV aD aF ++ wS g aN zN ++ wF g aF o9.2) (ok := fun (o9 : Int32 × Fm) (u9 : Unit) => True) C Cr h hQ () trivial rfl rfl dX5_family_93
      refine v_case C (1) 94 h dX5_family_52 (by decide) (by decide) rfl (by decide) (fun h => ?_) (fun hc1 h => ?_)
      · refine v_aload_n (pc' := 95) C 0 dX5_family_94 rfl rfl ?_
        refine g_Q_split (pc' := 98) C 0 in_X5_family_5 rfl k_X5_family_1 rfl dX5_family_95 rfl ?_
        refine v_iload (pc' := 100) C 5 dX5_family_98 rfl rfl ?_
        refine v_calli (pc' := 103) C h (rf := fun r9 => r9) (wQ aQ aT aN aV aD aF ++ wS g aN zN) (fun r9 (u9 : Unit) => wQ aQ aT aN aV aD aF ++ wS g aN zN ++ wF g aF r_2) (fun r hr => run_V C (c_X0_maskOf l g aF _ _ r hr) gX5_family_X0_maskOf rfl nd_X0_maskOf rfl rfl rfl rfl ⟨Nat.le_of_ble_eq_true rfl, Nat.le_of_ble_eq_true rfl⟩ ⟨Nat.le_of_ble_eq_true rfl, Nat.le_of_ble_eq_true rfl⟩ (Nat.le_of_ble_eq_true rfl) dX5_family_100 rfl) [5, 6, 7, 8] [0, 1, 2, 3, 4] [0, 1, 2, 3, 4, 5, 6, 7, 8] rfl rfl rfl rfl (by decide) rfl (fun _ _ => rfl) (k' := 0) (n' := 0) rfl rfl rfl (fun r_6 _ _ h => ?_)
        exact v_iret (rf := fun (o9 : Int32 × Fm) => o9.1) (Wf := fun (o9 : Int32 × Fm) (u9 : Unit) => wQ aQ aT aN aV aD aF ++ wS g aN zN ++ wF g aF o9.2) (ok := fun (o9 : Int32 × Fm) (u9 : Unit) => True) C Cr h hQ () trivial rfl rfl dX5_family_103
      refine v_case C (2) 104 h dX5_family_52 (by decide) (by decide) rfl (by decide) (fun h => ?_) (fun hc2 h => ?_)
      · refine v_aload_n (pc' := 105) C 0 dX5_family_104 rfl rfl ?_
        refine g_Q_split (pc' := 108) C 0 in_X5_family_5 rfl k_X5_family_1 rfl dX5_family_105 rfl ?_
        refine v_iload (pc' := 110) C 5 dX5_family_108 rfl rfl ?_
        refine v_calli (pc' := 113) C h (rf := fun r9 => r9) (wQ aQ aT aN aV aD aF ++ wS g aN zN) (fun r9 (u9 : Unit) => wQ aQ aT aN aV aD aF ++ wS g aN zN ++ wF g aF r_2) (fun r hr => run_V C (c_X0_membersOf l g aF _ _ r hr) gX5_family_X0_membersOf rfl nd_X0_membersOf rfl rfl rfl rfl ⟨Nat.le_of_ble_eq_true rfl, Nat.le_of_ble_eq_true rfl⟩ ⟨Nat.le_of_ble_eq_true rfl, Nat.le_of_ble_eq_true rfl⟩ (Nat.le_of_ble_eq_true rfl) dX5_family_110 rfl) [5, 6, 7, 8] [0, 1, 2, 3, 4] [0, 1, 2, 3, 4, 5, 6, 7, 8] rfl rfl rfl rfl (by decide) rfl (fun _ _ => rfl) (k' := 0) (n' := 0) rfl rfl rfl (fun r_7 _ _ h => ?_)
        refine v_iconst (pc' := 114) C (0) dX5_family_113 ic_0 rfl ?_
        refine v_purei (pc' := 117) C h (rf := fun r9 => r9) (fun r hr => run_S C (c_X5_memberAt l g _ _ r hr) gX5_family_X5_memberAt rfl nd_X5_memberAt ⟨Nat.le_of_ble_eq_true rfl, Nat.le_of_ble_eq_true rfl⟩ ⟨Nat.le_of_ble_eq_true rfl, Nat.le_of_ble_eq_true rfl⟩ (Nat.le_of_ble_eq_true rfl) dX5_family_114 rfl) rfl (fun r_8 h => ?_)
        exact v_iret (rf := fun (o9 : Int32 × Fm) => o9.1) (Wf := fun (o9 : Int32 × Fm) (u9 : Unit) => wQ aQ aT aN aV aD aF ++ wS g aN zN ++ wF g aF o9.2) (ok := fun (o9 : Int32 × Fm) (u9 : Unit) => True) C Cr h hQ () trivial rfl rfl dX5_family_117
      refine v_case C (3) 118 h dX5_family_52 (by decide) (by decide) rfl (by decide) (fun h => ?_) (fun hc3 h => ?_)
      · refine v_aload_n (pc' := 119) C 0 dX5_family_118 rfl rfl ?_
        refine g_Q_split (pc' := 122) C 0 in_X5_family_5 rfl k_X5_family_1 rfl dX5_family_119 rfl ?_
        refine v_iload (pc' := 124) C 5 dX5_family_122 rfl rfl ?_
        refine v_calli (pc' := 127) C h (rf := fun r9 => r9) (wQ aQ aT aN aV aD aF ++ wS g aN zN) (fun r9 (u9 : Unit) => wQ aQ aT aN aV aD aF ++ wS g aN zN ++ wF g aF r_2) (fun r hr => run_V C (c_X0_freshnessOf l g aF _ _ r hr) gX5_family_X0_freshnessOf rfl nd_X0_freshnessOf rfl rfl rfl rfl ⟨Nat.le_of_ble_eq_true rfl, Nat.le_of_ble_eq_true rfl⟩ ⟨Nat.le_of_ble_eq_true rfl, Nat.le_of_ble_eq_true rfl⟩ (Nat.le_of_ble_eq_true rfl) dX5_family_124 rfl) [5, 6, 7, 8] [0, 1, 2, 3, 4] [0, 1, 2, 3, 4, 5, 6, 7, 8] rfl rfl rfl rfl (by decide) rfl (fun _ _ => rfl) (k' := 0) (n' := 0) rfl rfl rfl (fun r_9 _ _ h => ?_)
        exact v_iret (rf := fun (o9 : Int32 × Fm) => o9.1) (Wf := fun (o9 : Int32 × Fm) (u9 : Unit) => wQ aQ aT aN aV aD aF ++ wS g aN zN ++ wF g aF o9.2) (ok := fun (o9 : Int32 × Fm) (u9 : Unit) => True) C Cr h hQ () trivial rfl rfl dX5_family_127
      refine v_dflt C 128 dX5_family_52 (sw_out p3 0 4 (by decide) (by intro i hi; match i, hi with | 0, _ => exact hc0 | 1, _ => exact hc1 | 2, _ => exact hc2 | 3, _ => exact hc3 | i + 4, hi => exact absurd hi (by omega))) (by decide) ?_
      refine v_bipush (pc' := 130) C (-2) dX5_family_128 bc_m2 rfl ?_
      exact v_iret (rf := fun (o9 : Int32 × Fm) => o9.1) (Wf := fun (o9 : Int32 × Fm) (u9 : Unit) => wQ aQ aT aN aV aD aF ++ wS g aN zN ++ wF g aF o9.2) (ok := fun (o9 : Int32 × Fm) (u9 : Unit) => True) C Cr h hQ () trivial rfl rfl dX5_family_130
    · refine v_iconst (pc' := 50) C (-1) dX5_family_49 ic_m1 rfl ?_
      exact v_iret (rf := fun (o9 : Int32 × Fm) => o9.1) (Wf := fun (o9 : Int32 × Fm) (u9 : Unit) => wQ aQ aT aN aV aD aF ++ wS g aN zN ++ wF g aF o9.2) (ok := fun (o9 : Int32 × Fm) (u9 : Unit) => True) C Cr h hQ () trivial rfl rfl dX5_family_50
  · refine v_iload (pc' := 14) C 4 dX5_family_12 rfl rfl ?_
    exact v_iret (rf := fun (o9 : Int32 × Fm) => o9.1) (Wf := fun (o9 : Int32 × Fm) (u9 : Unit) => wQ aQ aT aN aV aD aF ++ wS g aN zN ++ wF g aF o9.2) (ok := fun (o9 : Int32 × Fm) (u9 : Unit) => True) C Cr h hQ () trivial rfl rfl dX5_family_14
def f_X5_spread (zN : St) (zF : Fm) (p1 : Int32) : Option (Int32 × Fm) :=
  Option.bind (f_X5_faultOfAsking zN p1) fun r_1 =>
  if r_1 = 0 then Option.bind (f_X0_make zF zN p1) fun r_2 =>
  Option.bind (f_X5_candidates zN) fun r_3 =>
  if r_3 = 0 then some ((0 : Int32), r_2)
  else Option.bind (f_X0_squares r_2) fun r_4 =>
  divI ((1000 : Int32) * r_4) r_3 fun q_5 =>
  some (q_5, r_2)
  else some (r_1, zF)
abbrev rm_X5_spread : Room := { frames := 4, cells := 0, slots := 0, locals := 93 }
theorem in_X5_spread_5 : ∀ w ∈ wsX50, w ∈ wsX5_spread := fun _ h => List.mem_cons_of_mem _ (List.mem_append_left _ (List.mem_append_left _ (List.mem_append_right _ h)))
theorem k_X5_spread_1 : Cond.fieldLink RX5 36 "DodgingHangman" "split" "LDodgingHangman$Families;" ∈ wsX5_spread := List.mem_of_getElem? (i := 1) rfl
theorem k_X5_spread_2 : Cond.fieldLink RX5 19 "DodgingHangman" "now" "LDodgingHangman$State;" ∈ wsX5_spread := List.mem_of_getElem? (i := 2) rfl
theorem nd_X5_spread : yX5_spread.cls ≠ "java/lang/invoke/MethodHandle" ∧ yX5_spread.cls ≠ "java/lang/invoke/VarHandle" ∧ (parseMethodDescriptor yX5_spread.desc).map (fun d => d.parameters.length) = some 1 := by decide +kernel
set_option maxHeartbeats 4000000 in
set_option maxRecDepth 100000 in
theorem c_X5_spread (l : Launch) (g : Gv) (aQ : Nat) (aT : A3) (aN : RA) (aV : A2) (aD aF : RA) (zN : St) (zF : Fm) (p1 : Int32) (o : Int32 × Fm) (h : f_X5_spread zN zF p1 = some o) : Ct l g yX5_spread wsX5_spread rm_X5_spread [.ref aQ, .int p1] (wQ aQ aT aN aV aD aF ++ wS g aN zN ++ wF g aF zF) (Qi g o.1 (fun _ : Unit => wQ aQ aT aN aV aD aF ++ wS g aN zN ++ wF g aF o.2) (fun _ => True)) := by
  refine enter (ret := (some .int)) (X := wQ aQ aT aN aV aD aF ++ wS g aN zN ++ wF g aF zF) (pl := []) pn_X5 rfl (Nat.le_of_ble_eq_true rfl) ((List.append_nil _).symm) ?_
  intro p e s m args below meth c A Q C Cr hin hQ
  unfold f_X5_spread at h
  refine v_aload_n (pc' := 1) C 0 dX5_spread_0 rfl rfl ?_
  refine v_iload_n (pc' := 2) C 1 dX5_spread_1 rfl rfl ?_
  refine v_calli (pc' := 5) C h (rf := fun r9 => r9) (wF g aF zF) (fun r9 (u9 : Unit) => wQ aQ aT aN aV aD aF ++ wS g aN zN ++ wF g aF zF) (fun r hr => run_V C (c_X5_faultOfAsking l g aQ aT aN aV aD aF _ _ r hr) gX5_spread_X5_faultOfAsking rfl nd_X5_faultOfAsking rfl rfl rfl rfl ⟨Nat.le_of_ble_eq_true rfl, Nat.le_of_ble_eq_true rfl⟩ ⟨Nat.le_of_ble_eq_true rfl, Nat.le_of_ble_eq_true rfl⟩ (Nat.le_of_ble_eq_true rfl) dX5_spread_2 rfl) [0, 1, 2, 3, 4] [5, 6, 7, 8] [4, 5, 6, 7, 8, 0, 1, 2, 3] rfl rfl rfl rfl (by decide) rfl (fun _ _ => rfl) (k' := 0) (n' := 0) rfl rfl rfl (fun r_1 _ _ h => ?_)
  refine v_istore_n (pc' := 6) C [1, 2, 0] (lv' := [(0, .ref aQ), (1, .int p1), (2, .int r_1)]) dX5_spread_5 (Nat.le_of_ble_eq_true rfl) rfl rfl ?_
  refine v_iload_n (pc' := 7) C 2 dX5_spread_6 rfl rfl ?_
  refine v_if_eq C 12 10 h dX5_spread_7 (by decide) rfl (fun _ h => ?_) (fun _ h => ?_)
  · refine v_aload_n (pc' := 13) C 0 dX5_spread_12 rfl rfl ?_
    refine g_Q_split (pc' := 16) C 0 in_X5_spread_5 rfl k_X5_spread_1 rfl dX5_spread_13 rfl ?_
    refine v_aload_n (pc' := 17) C 0 dX5_spread_16 rfl rfl ?_
    refine g_Q_now (pc' := 20) C 0 in_X5_spread_5 rfl k_X5_spread_2 rfl dX5_spread_17 rfl ?_
    refine v_iload_n (pc' := 21) C 1 dX5_spread_20 rfl rfl ?_
    refine v_callv (pc' := 24) C h (wQ aQ aT aN aV aD aF) (fun r9 (u9 : Unit) => wQ aQ aT aN aV aD aF ++ wS g aN zN ++ wF g aF r9) (fun r hr => run_V C (c_X0_make l g aF aN _ _ _ r hr) gX5_spread_X0_make rfl nd_X0_make rfl rfl rfl rfl ⟨Nat.le_of_ble_eq_true rfl, Nat.le_of_ble_eq_true rfl⟩ ⟨Nat.le_of_ble_eq_true rfl, Nat.le_of_ble_eq_true rfl⟩ (Nat.le_of_ble_eq_true rfl) dX5_spread_21 rfl) [5, 6, 7, 8, 1, 2, 3, 4] [0] [0, 5, 6, 7, 8, 1, 2, 3, 4] rfl rfl rfl rfl (by decide) rfl (fun _ _ => rfl) (k' := 0) (n' := 0) rfl rfl rfl (fun r_2 _ _ h => ?_)
    refine v_aload_n (pc' := 25) C 0 dX5_spread_24 rfl rfl ?_
    refine v_calli (pc' := 28) C h (rf := fun r9 => r9) (wF g aF r_2) (fun r9 (u9 : Unit) => wQ aQ aT aN aV aD aF ++ wS g aN zN ++ wF g aF r_2) (fun r hr => run_V C (c_X5_candidates l g aQ aT aN aV aD aF _ r hr) gX5_spread_X5_candidates rfl nd_X5_candidates rfl rfl rfl rfl ⟨Nat.le_of_ble_eq_true rfl, Nat.le_of_ble_eq_true rfl⟩ ⟨Nat.le_of_ble_eq_true rfl, Nat.le_of_ble_eq_true rfl⟩ (Nat.le_of_ble_eq_true rfl) dX5_spread_25 rfl) [0, 1, 2, 3, 4] [5, 6, 7, 8] [4, 5, 6, 7, 8, 0, 1, 2, 3] rfl rfl rfl rfl (by decide) rfl (fun _ _ => rfl) (k' := 0) (n' := 0) rfl rfl rfl (fun r_3 _ _ h => ?_)
    refine v_istore_n (pc' := 29) C [1, 2, 3, 0] (lv' := [(0, .ref aQ), (1, .int p1), (2, .int r_1), (3, .int r_3)]) dX5_spread_28 (Nat.le_of_ble_eq_true rfl) rfl rfl ?_
    refine v_iload_n (pc' := 30) C 3 dX5_spread_29 rfl rfl ?_
    refine v_if_ne C 37 33 h dX5_spread_30 (by decide) rfl (fun _ h => ?_) (fun _ h => ?_)
    · refine v_sipush (pc' := 40) C (1000) dX5_spread_37 sc_1000 rfl ?_
      refine v_aload_n (pc' := 41) C 0 dX5_spread_40 rfl rfl ?_
      refine g_Q_split (pc' := 44) C 0 in_X5_spread_5 rfl k_X5_spread_1 rfl dX5_spread_41 rfl ?_
      refine v_calli (pc' := 47) C h (rf := fun r9 => r9) (wQ aQ aT aN aV aD aF ++ wS g aN zN) (fun r9 (u9 : Unit) => wQ aQ aT aN aV aD aF ++ wS g aN zN ++ wF g aF r_2) (fun r hr => run_V C (c_X0_squares l g aF _ r hr) gX5_spread_X0_squares rfl nd_X0_squares rfl rfl rfl rfl ⟨Nat.le_of_ble_eq_true rfl, Nat.le_of_ble_eq_true rfl⟩ ⟨Nat.le_of_ble_eq_true rfl, Nat.le_of_ble_eq_true rfl⟩ (Nat.le_of_ble_eq_true rfl) dX5_spread_44 rfl) [5, 6, 7, 8] [0, 1, 2, 3, 4] [0, 1, 2, 3, 4, 5, 6, 7, 8] rfl rfl rfl rfl (by decide) rfl (fun _ _ => rfl) (k' := 0) (n' := 0) rfl rfl rfl (fun r_4 _ _ h => ?_)
      refine v_imul (pc' := 48) C dX5_spread_47 rfl ?_
      refine v_iload_n (pc' := 49) C 3 dX5_spread_48 rfl rfl ?_
      refine v_idiv (pc' := 50) C h dX5_spread_49 rfl (fun q_5 h => ?_)
      exact v_iret (rf := fun (o9 : Int32 × Fm) => o9.1) (Wf := fun (o9 : Int32 × Fm) (u9 : Unit) => wQ aQ aT aN aV aD aF ++ wS g aN zN ++ wF g aF o9.2) (ok := fun (o9 : Int32 × Fm) (u9 : Unit) => True) C Cr h hQ () trivial rfl rfl dX5_spread_50
    · refine v_iconst (pc' := 34) C (0) dX5_spread_33 ic_0 rfl ?_
      refine v_goto C (pc' := 50) dX5_spread_34 (by decide) ?_
      exact v_iret (rf := fun (o9 : Int32 × Fm) => o9.1) (Wf := fun (o9 : Int32 × Fm) (u9 : Unit) => wQ aQ aT aN aV aD aF ++ wS g aN zN ++ wF g aF o9.2) (ok := fun (o9 : Int32 × Fm) (u9 : Unit) => True) C Cr h hQ () trivial rfl rfl dX5_spread_50
  · refine v_iload_n (pc' := 11) C 2 dX5_spread_10 rfl rfl ?_
    exact v_iret (rf := fun (o9 : Int32 × Fm) => o9.1) (Wf := fun (o9 : Int32 × Fm) (u9 : Unit) => wQ aQ aT aN aV aD aF ++ wS g aN zN ++ wF g aF o9.2) (ok := fun (o9 : Int32 × Fm) (u9 : Unit) => True) C Cr h hQ () trivial rfl rfl dX5_spread_11
def f_X5_having (zN : St) (p1 : Int32) : Option (Int32) :=
  Option.bind (f_X5_isLetter p1) fun r_1 =>
  if r_1 = 0 then some (-2 : Int32)
  else if (S_status zN) = 0 then some (-3 : Int32)
  else Option.bind (f_X2_candidatesWith zN p1) fun r_2 =>
  some r_2
abbrev rm_X5_having : Room := { frames := 4, cells := 0, slots := 0, locals := 90 }
theorem in_X5_having_2 : ∀ w ∈ wsX20, w ∈ wsX5_having := fun _ h => List.mem_cons_of_mem _ (List.mem_append_right _ h)
theorem in_X5_having_5 : ∀ w ∈ wsX50, w ∈ wsX5_having := fun _ h => List.mem_cons_of_mem _ (List.mem_append_left _ (List.mem_append_right _ h))
theorem k_X5_having_1 : Cond.fieldLink RX5 19 "DodgingHangman" "now" "LDodgingHangman$State;" ∈ wsX5_having := List.mem_of_getElem? (i := 1) rfl
theorem nd_X5_having : yX5_having.cls ≠ "java/lang/invoke/MethodHandle" ∧ yX5_having.cls ≠ "java/lang/invoke/VarHandle" ∧ (parseMethodDescriptor yX5_having.desc).map (fun d => d.parameters.length) = some 1 := by decide +kernel
set_option maxHeartbeats 4000000 in
set_option maxRecDepth 100000 in
theorem c_X5_having (l : Launch) (g : Gv) (aQ : Nat) (aT : A3) (aN : RA) (aV : A2) (aD aF : RA) (zN : St) (p1 : Int32) (o : Int32) (h : f_X5_having zN p1 = some o) : Ct l g yX5_having wsX5_having rm_X5_having [.ref aQ, .int p1] (wQ aQ aT aN aV aD aF ++ wS g aN zN) (Qi g o (fun _ : Unit => wQ aQ aT aN aV aD aF ++ wS g aN zN) (fun _ => True)) := by
  refine enter (ret := (some .int)) (X := wQ aQ aT aN aV aD aF ++ wS g aN zN) (pl := []) pn_X5 rfl (Nat.le_of_ble_eq_true rfl) ((List.append_nil _).symm) ?_
  intro p e s m args below meth c A Q C Cr hin hQ
  unfold f_X5_having at h
  refine v_iload_n (pc' := 1) C 1 dX5_having_0 rfl rfl ?_
  refine v_purei (pc' := 4) C h (rf := fun r9 => r9) (fun r hr => run_S C (c_X5_isLetter l g _ r hr) gX5_having_X5_isLetter rfl nd_X5_isLetter ⟨Nat.le_of_ble_eq_true rfl, Nat.le_of_ble_eq_true rfl⟩ ⟨Nat.le_of_ble_eq_true rfl, Nat.le_of_ble_eq_true rfl⟩ (Nat.le_of_ble_eq_true rfl) dX5_having_1 rfl) rfl (fun r_1 h => ?_)
  refine v_if_ne C 10 7 h dX5_having_4 (by decide) rfl (fun _ h => ?_) (fun _ h => ?_)
  · refine v_aload_n (pc' := 11) C 0 dX5_having_10 rfl rfl ?_
    refine g_Q_now (pc' := 14) C 0 in_X5_having_5 rfl k_X5_having_1 rfl dX5_having_11 rfl ?_
    refine gN_S_status (pc' := 17) C 1 in_X5_having_2 rfl (List.mem_of_getElem? (i := 5) rfl) rfl dX5_having_14 rfl ?_
    refine v_if_ne C 23 20 h dX5_having_17 (by decide) rfl (fun _ h => ?_) (fun _ h => ?_)
    · refine v_aload_n (pc' := 24) C 0 dX5_having_23 rfl rfl ?_
      refine g_Q_now (pc' := 27) C 0 in_X5_having_5 rfl k_X5_having_1 rfl dX5_having_24 rfl ?_
      refine v_iload_n (pc' := 28) C 1 dX5_having_27 rfl rfl ?_
      refine v_calli (pc' := 31) C h (rf := fun r9 => r9) (wQ aQ aT aN aV aD aF) (fun r9 (u9 : Unit) => wQ aQ aT aN aV aD aF ++ wS g aN zN) (fun r hr => run_V C (c_X2_candidatesWith l g aN _ _ r hr) gX5_having_X2_candidatesWith rfl nd_X2_candidatesWith rfl rfl rfl rfl ⟨Nat.le_of_ble_eq_true rfl, Nat.le_of_ble_eq_true rfl⟩ ⟨Nat.le_of_ble_eq_true rfl, Nat.le_of_ble_eq_true rfl⟩ (Nat.le_of_ble_eq_true rfl) dX5_having_28 rfl) [1, 2, 3, 4] [0] [0, 1, 2, 3, 4] rfl rfl rfl rfl (by decide) rfl (fun _ _ => rfl) (k' := 0) (n' := 0) rfl rfl rfl (fun r_2 _ _ h => ?_)
      exact v_iret (rf := fun (o9 : Int32) => o9) (Wf := fun (o9 : Int32) (u9 : Unit) => wQ aQ aT aN aV aD aF ++ wS g aN zN) (ok := fun (o9 : Int32) (u9 : Unit) => True) C Cr h hQ () trivial rfl rfl dX5_having_31
    · refine v_bipush (pc' := 22) C (-3) dX5_having_20 bc_m3 rfl ?_
      exact v_iret (rf := fun (o9 : Int32) => o9) (Wf := fun (o9 : Int32) (u9 : Unit) => wQ aQ aT aN aV aD aF ++ wS g aN zN) (ok := fun (o9 : Int32) (u9 : Unit) => True) C Cr h hQ () trivial rfl rfl dX5_having_22
  · refine v_bipush (pc' := 9) C (-2) dX5_having_7 bc_m2 rfl ?_
    exact v_iret (rf := fun (o9 : Int32) => o9) (Wf := fun (o9 : Int32) (u9 : Unit) => wQ aQ aT aN aV aD aF ++ wS g aN zN) (ok := fun (o9 : Int32) (u9 : Unit) => True) C Cr h hQ () trivial rfl rfl dX5_having_9
def f_X5_sureLetters (zN : St)  : Option (Int32) :=
  Option.bind (f_X2_isRunning zN) fun r_1 =>
  if r_1 = 0 then some (-3 : Int32)
  else Option.bind (f_X2_lettersOfAll zN) fun r_2 =>
  some (r_2 &&& ((S_guessed zN) ^^^ (-1 : Int32)))
abbrev rm_X5_sureLetters : Room := { frames := 4, cells := 0, slots := 0, locals := 88 }
theorem in_X5_sureLetters_2 : ∀ w ∈ wsX20, w ∈ wsX5_sureLetters := fun _ h => List.mem_cons_of_mem _ (List.mem_append_right _ h)
theorem in_X5_sureLetters_5 : ∀ w ∈ wsX50, w ∈ wsX5_sureLetters := fun _ h => List.mem_cons_of_mem _ (List.mem_append_left _ (List.mem_append_right _ h))
theorem k_X5_sureLetters_1 : Cond.fieldLink RX5 19 "DodgingHangman" "now" "LDodgingHangman$State;" ∈ wsX5_sureLetters := List.mem_of_getElem? (i := 1) rfl
theorem nd_X5_sureLetters : yX5_sureLetters.cls ≠ "java/lang/invoke/MethodHandle" ∧ yX5_sureLetters.cls ≠ "java/lang/invoke/VarHandle" ∧ (parseMethodDescriptor yX5_sureLetters.desc).map (fun d => d.parameters.length) = some 0 := by decide +kernel
set_option maxHeartbeats 4000000 in
set_option maxRecDepth 100000 in
theorem c_X5_sureLetters (l : Launch) (g : Gv) (aQ : Nat) (aT : A3) (aN : RA) (aV : A2) (aD aF : RA) (zN : St)  (o : Int32) (h : f_X5_sureLetters zN  = some o) : Ct l g yX5_sureLetters wsX5_sureLetters rm_X5_sureLetters [.ref aQ] (wQ aQ aT aN aV aD aF ++ wS g aN zN) (Qi g o (fun _ : Unit => wQ aQ aT aN aV aD aF ++ wS g aN zN) (fun _ => True)) := by
  refine enter (ret := (some .int)) (X := wQ aQ aT aN aV aD aF ++ wS g aN zN) (pl := []) pn_X5 rfl (Nat.le_of_ble_eq_true rfl) ((List.append_nil _).symm) ?_
  intro p e s m args below meth c A Q C Cr hin hQ
  unfold f_X5_sureLetters at h
  refine v_aload_n (pc' := 1) C 0 dX5_sureLetters_0 rfl rfl ?_
  refine g_Q_now (pc' := 4) C 0 in_X5_sureLetters_5 rfl k_X5_sureLetters_1 rfl dX5_sureLetters_1 rfl ?_
  refine v_calli (pc' := 7) C h (rf := fun r9 => r9) (wQ aQ aT aN aV aD aF) (fun r9 (u9 : Unit) => wQ aQ aT aN aV aD aF ++ wS g aN zN) (fun r hr => run_V C (c_X2_isRunning l g aN _ r hr) gX5_sureLetters_X2_isRunning rfl nd_X2_isRunning rfl rfl rfl rfl ⟨Nat.le_of_ble_eq_true rfl, Nat.le_of_ble_eq_true rfl⟩ ⟨Nat.le_of_ble_eq_true rfl, Nat.le_of_ble_eq_true rfl⟩ (Nat.le_of_ble_eq_true rfl) dX5_sureLetters_4 rfl) [1, 2, 3, 4] [0] [0, 1, 2, 3, 4] rfl rfl rfl rfl (by decide) rfl (fun _ _ => rfl) (k' := 0) (n' := 0) rfl rfl rfl (fun r_1 _ _ h => ?_)
  refine v_if_eq C 30 10 h dX5_sureLetters_7 (by decide) rfl (fun _ h => ?_) (fun _ h => ?_)
  · refine v_bipush (pc' := 32) C (-3) dX5_sureLetters_30 bc_m3 rfl ?_
    exact v_iret (rf := fun (o9 : Int32) => o9) (Wf := fun (o9 : Int32) (u9 : Unit) => wQ aQ aT aN aV aD aF ++ wS g aN zN) (ok := fun (o9 : Int32) (u9 : Unit) => True) C Cr h hQ () trivial rfl rfl dX5_sureLetters_32
  · refine v_aload_n (pc' := 11) C 0 dX5_sureLetters_10 rfl rfl ?_
    refine g_Q_now (pc' := 14) C 0 in_X5_sureLetters_5 rfl k_X5_sureLetters_1 rfl dX5_sureLetters_11 rfl ?_
    refine v_calli (pc' := 17) C h (rf := fun r9 => r9) (wQ aQ aT aN aV aD aF) (fun r9 (u9 : Unit) => wQ aQ aT aN aV aD aF ++ wS g aN zN) (fun r hr => run_V C (c_X2_lettersOfAll l g aN _ r hr) gX5_sureLetters_X2_lettersOfAll rfl nd_X2_lettersOfAll rfl rfl rfl rfl ⟨Nat.le_of_ble_eq_true rfl, Nat.le_of_ble_eq_true rfl⟩ ⟨Nat.le_of_ble_eq_true rfl, Nat.le_of_ble_eq_true rfl⟩ (Nat.le_of_ble_eq_true rfl) dX5_sureLetters_14 rfl) [1, 2, 3, 4] [0] [0, 1, 2, 3, 4] rfl rfl rfl rfl (by decide) rfl (fun _ _ => rfl) (k' := 0) (n' := 0) rfl rfl rfl (fun r_2 _ _ h => ?_)
    refine v_aload_n (pc' := 18) C 0 dX5_sureLetters_17 rfl rfl ?_
    refine g_Q_now (pc' := 21) C 0 in_X5_sureLetters_5 rfl k_X5_sureLetters_1 rfl dX5_sureLetters_18 rfl ?_
    refine gN_S_guessed (pc' := 24) C 1 in_X5_sureLetters_2 rfl (List.mem_of_getElem? (i := 10) rfl) rfl dX5_sureLetters_21 rfl ?_
    refine v_iconst (pc' := 25) C (-1) dX5_sureLetters_24 ic_m1 rfl ?_
    refine v_ixor (pc' := 26) C dX5_sureLetters_25 rfl ?_
    refine v_iand (pc' := 27) C dX5_sureLetters_26 rfl ?_
    refine v_goto C (pc' := 32) dX5_sureLetters_27 (by decide) ?_
    exact v_iret (rf := fun (o9 : Int32) => o9) (Wf := fun (o9 : Int32) (u9 : Unit) => wQ aQ aT aN aV aD aF ++ wS g aN zN) (ok := fun (o9 : Int32) (u9 : Unit) => True) C Cr h hQ () trivial rfl rfl dX5_sureLetters_32
def f_X5_bestLetter_J97 (re12 : Int32 → Int32 → Int32 → Int32 → Fm → Option (Int32 × Fm)) (v5_13 : Int32) (v7_14 : Int32) (v8_15 : Int32) (zF_16 : Fm) : Option (Int32 × Fm) :=
  lett (v5_13 + (1 : Int32)) fun v5_17 =>
  re12 v5_13 v7_14 v8_15 v5_17 zF_16
def f_X5_bestLetter_L12 (zS : St) (re12 : Int32 → Int32 → Int32 → Int32 → Fm → Option (Int32 × Fm)) (v2_1 : Int32) (v3_2 : Int32) (v4_3 : Int32) (v5_4 : Int32) (zF_5 : Fm) : Option (Int32 × Fm) :=
  if v5_4 < (123 : Int32) then Option.bind (f_X2_wasGuessed zS v5_4) fun r_6 =>
  if r_6 = 0 then Option.bind (f_X0_make zF_5 zS v5_4) fun r_8 =>
  Option.bind (f_X0_best r_8) fun r_9 =>
  Option.bind (f_X0_sizeOf r_8 r_9) fun r_10 =>
  Option.bind (f_X0_maskOf r_8 r_9) fun r_11 =>
  Option.bind (f_J6_bitCount_0f7a4 r_11) fun r_12 =>
  if v2_1 = (-6 : Int32) then f_X5_bestLetter_J97 re12 v5_4 r_10 r_12 r_8
  else if r_10 < v3_2 then f_X5_bestLetter_J97 re12 v5_4 r_10 r_12 r_8
  else if r_10 = v3_2 then if v4_3 < r_12 then f_X5_bestLetter_J97 re12 v5_4 r_10 r_12 r_8
  else lett (v5_4 + (1 : Int32)) fun v5_19 =>
  re12 v2_1 v3_2 v4_3 v5_19 r_8
  else lett (v5_4 + (1 : Int32)) fun v5_18 =>
  re12 v2_1 v3_2 v4_3 v5_18 r_8
  else lett (v5_4 + (1 : Int32)) fun v5_7 =>
  re12 v2_1 v3_2 v4_3 v5_7 zF_5
  else some (v2_1, zF_5)
def f_X5_bestLetter (zF : Fm) (zS : St)  : Option (Int32 × Fm) :=
  loop5 (f_X5_bestLetter_L12 zS) FU (-6 : Int32) (0 : Int32) (0 : Int32) (97 : Int32) zF
abbrev rm_X5_bestLetter : Room := { frames := 4, cells := 0, slots := 0, locals := 93 }
theorem in_X5_bestLetter_5 : ∀ w ∈ wsX50, w ∈ wsX5_bestLetter := fun _ h => List.mem_cons_of_mem _ (List.mem_append_left _ (List.mem_append_left _ (List.mem_append_right _ h)))
theorem k_X5_bestLetter_1 : Cond.fieldLink RX5 36 "DodgingHangman" "split" "LDodgingHangman$Families;" ∈ wsX5_bestLetter := List.mem_of_getElem? (i := 1) rfl
theorem nd_X5_bestLetter : yX5_bestLetter.cls ≠ "java/lang/invoke/MethodHandle" ∧ yX5_bestLetter.cls ≠ "java/lang/invoke/VarHandle" ∧ (parseMethodDescriptor yX5_bestLetter.desc).map (fun d => d.parameters.length) = some 1 := by decide +kernel
set_option maxHeartbeats 4000000 in
set_option maxRecDepth 100000 in
theorem c_X5_bestLetter (l : Launch) (g : Gv) (aQ : Nat) (aT : A3) (aN : RA) (aV : A2) (aD aF : RA) (aS : RA) (zF : Fm) (zS : St)  (o : Int32 × Fm) (h : f_X5_bestLetter zF zS  = some o) : Ct l g yX5_bestLetter wsX5_bestLetter rm_X5_bestLetter [.ref aQ, .ref aS.1] (wQ aQ aT aN aV aD aF ++ wF g aF zF ++ wS g aS zS) (Qi g o.1 (fun _ : Unit => wQ aQ aT aN aV aD aF ++ wF g aF o.2 ++ wS g aS zS) (fun _ => True)) := by
  refine enter (ret := (some .int)) (X := wQ aQ aT aN aV aD aF ++ wF g aF zF ++ wS g aS zS) (pl := []) pn_X5 rfl (Nat.le_of_ble_eq_true rfl) ((List.append_nil _).symm) ?_
  intro p e s m args below meth c A Q C Cr hin hQ
  unfold f_X5_bestLetter at h
  refine v_bipush (pc' := 2) C (-6) dX5_bestLetter_0 bc_m6 rfl ?_
  refine v_istore_n (pc' := 3) C [1, 2, 0] (lv' := [(0, .ref aQ), (1, .ref aS.1), (2, .int (-6 : Int32))]) dX5_bestLetter_2 (Nat.le_of_ble_eq_true rfl) rfl rfl ?_
  refine v_iconst (pc' := 4) C (0) dX5_bestLetter_3 ic_0 rfl ?_
  refine v_istore_n (pc' := 5) C [1, 2, 3, 0] (lv' := [(0, .ref aQ), (1, .ref aS.1), (2, .int (-6 : Int32)), (3, .int (0 : Int32))]) dX5_bestLetter_4 (Nat.le_of_ble_eq_true rfl) rfl rfl ?_
  refine v_iconst (pc' := 6) C (0) dX5_bestLetter_5 ic_0 rfl ?_
  refine v_istore (pc' := 8) C [1, 2, 3, 4, 0] (lv' := [(0, .ref aQ), (1, .ref aS.1), (2, .int (-6 : Int32)), (3, .int (0 : Int32)), (4, .int (0 : Int32))]) dX5_bestLetter_6 (Nat.le_of_ble_eq_true rfl) rfl rfl ?_
  refine v_bipush (pc' := 10) C (97) dX5_bestLetter_8 bc_97 rfl ?_
  refine v_istore (pc' := 12) C [1, 2, 3, 4, 5, 0] (lv' := [(0, .ref aQ), (1, .ref aS.1), (2, .int (-6 : Int32)), (3, .int (0 : Int32)), (4, .int (0 : Int32)), (5, .int (97 : Int32))]) dX5_bestLetter_10 (Nat.le_of_ble_eq_true rfl) rfl rfl ?_
  refine v_loop5 (fun (v2_1 : Int32) (v3_2 : Int32) (v4_3 : Int32) (v5_4 : Int32) (zF_5 : Fm) => V p l e rm_X5_bestLetter s m args below meth c g 9 A 0 0 Q (wQ aQ aT aN aV aD aF ++ wF g aF zF_5 ++ wS g aS zS) [] [(0, .ref aQ), (1, .ref aS.1), (2, .int v2_1), (3, .int v3_2), (4, .int v4_3), (5, .int v5_4)] 12 []) (fun re12 ih12 v2_1 v3_2 v4_3 v5_4 zF_5 h => ?_) (-6 : Int32) (0 : Int32) (0 : Int32) (97 : Int32) zF h
  unfold f_X5_bestLetter_L12 at h
  have J97 : ∀ (v5_13 : Int32) (v7_14 : Int32) (v8_15 : Int32) (zF_16 : Fm), f_X5_bestLetter_J97 re12 v5_13 v7_14 v8_15 zF_16 = some o → V p l e rm_X5_bestLetter s m args below meth c g 9 A 0 0 Q (wQ aQ aT aN aV aD aF ++ wF g aF zF_16 ++ wS g aS zS) [] [(0, .ref aQ), (1, .ref aS.1), (5, .int v5_13), (7, .int v7_14), (8, .int v8_15)] 97 [] := by
    intro v5_13 v7_14 v8_15 zF_16 h
    unfold f_X5_bestLetter_J97 at h
    refine v_iload (pc' := 99) C 2 dX5_bestLetter_97 rfl rfl ?_
    refine v_istore_n (pc' := 100) C [1, 2, 0, 3, 4, 5] (lv' := [(0, .ref aQ), (1, .ref aS.1), (2, .int v5_13), (5, .int v5_13), (7, .int v7_14), (8, .int v8_15)]) dX5_bestLetter_99 (Nat.le_of_ble_eq_true rfl) rfl rfl ?_
    refine v_iload (pc' := 102) C 4 dX5_bestLetter_100 rfl rfl ?_
    refine v_istore_n (pc' := 103) C [1, 2, 3, 0, 4, 5, 6] (lv' := [(0, .ref aQ), (1, .ref aS.1), (2, .int v5_13), (3, .int v7_14), (5, .int v5_13), (7, .int v7_14), (8, .int v8_15)]) dX5_bestLetter_102 (Nat.le_of_ble_eq_true rfl) rfl rfl ?_
    refine v_iload (pc' := 105) C 6 dX5_bestLetter_103 rfl rfl ?_
    refine v_istore (pc' := 107) C [1, 2, 3, 4, 0, 5, 6, 7] (lv' := [(0, .ref aQ), (1, .ref aS.1), (2, .int v5_13), (3, .int v7_14), (4, .int v8_15), (5, .int v5_13), (7, .int v7_14), (8, .int v8_15)]) dX5_bestLetter_105 (Nat.le_of_ble_eq_true rfl) rfl rfl ?_
    refine v_iinc (pc' := 110) C 5 [1, 2, 3, 4, 5, 0, 6, 7] (1) dX5_bestLetter_107 rfl ic_1 (Nat.le_of_ble_eq_true rfl) h (lw := fun v9 => [(0, .ref aQ), (1, .ref aS.1), (2, .int v5_13), (3, .int v7_14), (4, .int v8_15), (5, .int v9), (7, .int v7_14), (8, .int v8_15)]) (fun _ => rfl) rfl (fun v5_17 h => ?_)
    refine v_goto C (pc' := 12) dX5_bestLetter_110 (by decide) ?_
    refine v_lv [0, 1, 2, 3, 4, 5] (lv' := [(0, .ref aQ), (1, .ref aS.1), (2, .int v5_13), (3, .int v7_14), (4, .int v8_15), (5, .int v5_17)]) rfl ?_
    exact ih12 v5_13 v7_14 v8_15 v5_17 zF_16 h
  refine v_iload (pc' := 14) C 5 dX5_bestLetter_12 rfl rfl ?_
  refine v_bipush (pc' := 16) C (123) dX5_bestLetter_14 bc_123 rfl ?_
  refine v_icmp_ge C 113 19 h dX5_bestLetter_16 (by decide) rfl (fun _ h => ?_) (fun _ h => ?_)
  · refine v_iload_n (pc' := 114) C 2 dX5_bestLetter_113 rfl rfl ?_
    exact v_iret (rf := fun (o9 : Int32 × Fm) => o9.1) (Wf := fun (o9 : Int32 × Fm) (u9 : Unit) => wQ aQ aT aN aV aD aF ++ wF g aF o9.2 ++ wS g aS zS) (ok := fun (o9 : Int32 × Fm) (u9 : Unit) => True) C Cr h hQ () trivial rfl rfl dX5_bestLetter_114
  · refine v_aload_n (pc' := 20) C 1 dX5_bestLetter_19 rfl rfl ?_
    refine v_iload (pc' := 22) C 5 dX5_bestLetter_20 rfl rfl ?_
    refine v_calli (pc' := 25) C h (rf := fun r9 => r9) (wQ aQ aT aN aV aD aF ++ wF g aF zF_5) (fun r9 (u9 : Unit) => wQ aQ aT aN aV aD aF ++ wF g aF zF_5 ++ wS g aS zS) (fun r hr => run_V C (c_X2_wasGuessed l g aS _ _ r hr) gX5_bestLetter_X2_wasGuessed rfl nd_X2_wasGuessed rfl rfl rfl rfl ⟨Nat.le_of_ble_eq_true rfl, Nat.le_of_ble_eq_true rfl⟩ ⟨Nat.le_of_ble_eq_true rfl, Nat.le_of_ble_eq_true rfl⟩ (Nat.le_of_ble_eq_true rfl) dX5_bestLetter_22 rfl) [5, 6, 7, 8] [0, 1, 2, 3, 4] [0, 1, 2, 3, 4, 5, 6, 7, 8] rfl rfl rfl rfl (by decide) rfl (fun _ _ => rfl) (k' := 0) (n' := 0) rfl rfl rfl (fun r_6 _ _ h => ?_)
    refine v_if_ne C 107 28 h dX5_bestLetter_25 (by decide) rfl (fun _ h => ?_) (fun _ h => ?_)
    · refine v_iinc (pc' := 110) C 5 [1, 2, 3, 4, 5, 0] (1) dX5_bestLetter_107 rfl ic_1 (Nat.le_of_ble_eq_true rfl) h (lw := fun v9 => [(0, .ref aQ), (1, .ref aS.1), (2, .int v2_1), (3, .int v3_2), (4, .int v4_3), (5, .int v9)]) (fun _ => rfl) rfl (fun v5_7 h => ?_)
      refine v_goto C (pc' := 12) dX5_bestLetter_110 (by decide) ?_
      exact ih12 v2_1 v3_2 v4_3 v5_7 zF_5 h
    · refine v_aload_n (pc' := 29) C 0 dX5_bestLetter_28 rfl rfl ?_
      refine g_Q_split (pc' := 32) C 0 in_X5_bestLetter_5 rfl k_X5_bestLetter_1 rfl dX5_bestLetter_29 rfl ?_
      refine v_aload_n (pc' := 33) C 1 dX5_bestLetter_32 rfl rfl ?_
      refine v_iload (pc' := 35) C 5 dX5_bestLetter_33 rfl rfl ?_
      refine v_callv (pc' := 38) C h (wQ aQ aT aN aV aD aF) (fun r9 (u9 : Unit) => wQ aQ aT aN aV aD aF ++ wF g aF r9 ++ wS g aS zS) (fun r hr => run_V C (c_X0_make l g aF aS _ _ _ r hr) gX5_bestLetter_X0_make rfl nd_X0_make rfl rfl rfl rfl ⟨Nat.le_of_ble_eq_true rfl, Nat.le_of_ble_eq_true rfl⟩ ⟨Nat.le_of_ble_eq_true rfl, Nat.le_of_ble_eq_true rfl⟩ (Nat.le_of_ble_eq_true rfl) dX5_bestLetter_35 rfl) [1, 2, 3, 4, 5, 6, 7, 8] [0] [0, 1, 2, 3, 4, 5, 6, 7, 8] rfl rfl rfl rfl (by decide) rfl (fun _ _ => rfl) (k' := 0) (n' := 0) rfl rfl rfl (fun r_8 _ _ h => ?_)
      refine v_aload_n (pc' := 39) C 0 dX5_bestLetter_38 rfl rfl ?_
      refine g_Q_split (pc' := 42) C 0 in_X5_bestLetter_5 rfl k_X5_bestLetter_1 rfl dX5_bestLetter_39 rfl ?_
      refine v_calli (pc' := 45) C h (rf := fun r9 => r9) (wQ aQ aT aN aV aD aF ++ wS g aS zS) (fun r9 (u9 : Unit) => wQ aQ aT aN aV aD aF ++ wF g aF r_8 ++ wS g aS zS) (fun r hr => run_V C (c_X0_best l g aF _ r hr) gX5_bestLetter_X0_best rfl nd_X0_best rfl rfl rfl rfl ⟨Nat.le_of_ble_eq_true rfl, Nat.le_of_ble_eq_true rfl⟩ ⟨Nat.le_of_ble_eq_true rfl, Nat.le_of_ble_eq_true rfl⟩ (Nat.le_of_ble_eq_true rfl) dX5_bestLetter_42 rfl) [1, 2, 3, 4] [0, 5, 6, 7, 8] [0, 5, 6, 7, 8, 1, 2, 3, 4] rfl rfl rfl rfl (by decide) rfl (fun _ _ => rfl) (k' := 0) (n' := 0) rfl rfl rfl (fun r_9 _ _ h => ?_)
      refine v_istore (pc' := 47) C [1, 2, 3, 4, 5, 6, 0] (lv' := [(0, .ref aQ), (1, .ref aS.1), (2, .int v2_1), (3, .int v3_2), (4, .int v4_3), (5, .int v5_4), (6, .int r_9)]) dX5_bestLetter_45 (Nat.le_of_ble_eq_true rfl) rfl rfl ?_
      refine v_aload_n (pc' := 48) C 0 dX5_bestLetter_47 rfl rfl ?_
      refine g_Q_split (pc' := 51) C 0 in_X5_bestLetter_5 rfl k_X5_bestLetter_1 rfl dX5_bestLetter_48 rfl ?_
      refine v_iload (pc' := 53) C 6 dX5_bestLetter_51 rfl rfl ?_
      refine v_calli (pc' := 56) C h (rf := fun r9 => r9) (wQ aQ aT aN aV aD aF ++ wS g aS zS) (fun r9 (u9 : Unit) => wQ aQ aT aN aV aD aF ++ wF g aF r_8 ++ wS g aS zS) (fun r hr => run_V C (c_X0_sizeOf l g aF _ _ r hr) gX5_bestLetter_X0_sizeOf rfl nd_X0_sizeOf rfl rfl rfl rfl ⟨Nat.le_of_ble_eq_true rfl, Nat.le_of_ble_eq_true rfl⟩ ⟨Nat.le_of_ble_eq_true rfl, Nat.le_of_ble_eq_true rfl⟩ (Nat.le_of_ble_eq_true rfl) dX5_bestLetter_53 rfl) [1, 2, 3, 4] [0, 5, 6, 7, 8] [0, 5, 6, 7, 8, 1, 2, 3, 4] rfl rfl rfl rfl (by decide) rfl (fun _ _ => rfl) (k' := 0) (n' := 0) rfl rfl rfl (fun r_10 _ _ h => ?_)
      refine v_istore (pc' := 58) C [1, 2, 3, 4, 5, 6, 7, 0] (lv' := [(0, .ref aQ), (1, .ref aS.1), (2, .int v2_1), (3, .int v3_2), (4, .int v4_3), (5, .int v5_4), (6, .int r_9), (7, .int r_10)]) dX5_bestLetter_56 (Nat.le_of_ble_eq_true rfl) rfl rfl ?_
      refine v_aload_n (pc' := 59) C 0 dX5_bestLetter_58 rfl rfl ?_
      refine g_Q_split (pc' := 62) C 0 in_X5_bestLetter_5 rfl k_X5_bestLetter_1 rfl dX5_bestLetter_59 rfl ?_
      refine v_iload (pc' := 64) C 6 dX5_bestLetter_62 rfl rfl ?_
      refine v_calli (pc' := 67) C h (rf := fun r9 => r9) (wQ aQ aT aN aV aD aF ++ wS g aS zS) (fun r9 (u9 : Unit) => wQ aQ aT aN aV aD aF ++ wF g aF r_8 ++ wS g aS zS) (fun r hr => run_V C (c_X0_maskOf l g aF _ _ r hr) gX5_bestLetter_X0_maskOf rfl nd_X0_maskOf rfl rfl rfl rfl ⟨Nat.le_of_ble_eq_true rfl, Nat.le_of_ble_eq_true rfl⟩ ⟨Nat.le_of_ble_eq_true rfl, Nat.le_of_ble_eq_true rfl⟩ (Nat.le_of_ble_eq_true rfl) dX5_bestLetter_64 rfl) [1, 2, 3, 4] [0, 5, 6, 7, 8] [0, 5, 6, 7, 8, 1, 2, 3, 4] rfl rfl rfl rfl (by decide) rfl (fun _ _ => rfl) (k' := 0) (n' := 0) rfl rfl rfl (fun r_11 _ _ h => ?_)
      refine v_purei (pc' := 70) C h (rf := fun r9 => r9) (fun r hr => run_S C (c_J6_bitCount_0f7a4 l g _ r hr) gX5_bestLetter_J6_bitCount_0f7a4 rfl nd_J6_bitCount_0f7a4 ⟨Nat.le_of_ble_eq_true rfl, Nat.le_of_ble_eq_true rfl⟩ ⟨Nat.le_of_ble_eq_true rfl, Nat.le_of_ble_eq_true rfl⟩ (Nat.le_of_ble_eq_true rfl) dX5_bestLetter_67 rfl) rfl (fun r_12 h => ?_)
      refine v_istore (pc' := 72) C [1, 2, 3, 4, 5, 6, 7, 8, 0] (lv' := [(0, .ref aQ), (1, .ref aS.1), (2, .int v2_1), (3, .int v3_2), (4, .int v4_3), (5, .int v5_4), (6, .int r_9), (7, .int r_10), (8, .int r_12)]) dX5_bestLetter_70 (Nat.le_of_ble_eq_true rfl) rfl rfl ?_
      refine v_iload_n (pc' := 73) C 2 dX5_bestLetter_72 rfl rfl ?_
      refine v_bipush (pc' := 75) C (-6) dX5_bestLetter_73 bc_m6 rfl ?_
      refine v_icmp_eq C 97 78 h dX5_bestLetter_75 (by decide) rfl (fun _ h => ?_) (fun _ h => ?_)
      · refine v_lv [0, 1, 5, 7, 8] (lv' := [(0, .ref aQ), (1, .ref aS.1), (5, .int v5_4), (7, .int r_10), (8, .int r_12)]) rfl ?_
        exact J97 v5_4 r_10 r_12 r_8 h
      · refine v_iload (pc' := 80) C 7 dX5_bestLetter_78 rfl rfl ?_
        refine v_iload_n (pc' := 81) C 3 dX5_bestLetter_80 rfl rfl ?_
        refine v_icmp_lt C 97 84 h dX5_bestLetter_81 (by decide) rfl (fun _ h => ?_) (fun _ h => ?_)
        · refine v_lv [0, 1, 5, 7, 8] (lv' := [(0, .ref aQ), (1, .ref aS.1), (5, .int v5_4), (7, .int r_10), (8, .int r_12)]) rfl ?_
          exact J97 v5_4 r_10 r_12 r_8 h
        · refine v_iload (pc' := 86) C 7 dX5_bestLetter_84 rfl rfl ?_
          refine v_iload_n (pc' := 87) C 3 dX5_bestLetter_86 rfl rfl ?_
          refine v_icmp_ne C 107 90 h dX5_bestLetter_87 (by decide) rfl (fun _ h => ?_) (fun _ h => ?_)
          · refine v_iinc (pc' := 110) C 5 [1, 2, 3, 4, 5, 0, 6, 7, 8] (1) dX5_bestLetter_107 rfl ic_1 (Nat.le_of_ble_eq_true rfl) h (lw := fun v9 => [(0, .ref aQ), (1, .ref aS.1), (2, .int v2_1), (3, .int v3_2), (4, .int v4_3), (5, .int v9), (6, .int r_9), (7, .int r_10), (8, .int r_12)]) (fun _ => rfl) rfl (fun v5_18 h => ?_)
            refine v_goto C (pc' := 12) dX5_bestLetter_110 (by decide) ?_
            refine v_lv [0, 1, 2, 3, 4, 5] (lv' := [(0, .ref aQ), (1, .ref aS.1), (2, .int v2_1), (3, .int v3_2), (4, .int v4_3), (5, .int v5_18)]) rfl ?_
            exact ih12 v2_1 v3_2 v4_3 v5_18 r_8 h
          · refine v_iload (pc' := 92) C 8 dX5_bestLetter_90 rfl rfl ?_
            refine v_iload (pc' := 94) C 4 dX5_bestLetter_92 rfl rfl ?_
            refine v_icmp_le C 107 97 h dX5_bestLetter_94 (by decide) rfl (fun _ h => ?_) (fun _ h => ?_)
            · refine v_iinc (pc' := 110) C 5 [1, 2, 3, 4, 5, 0, 6, 7, 8] (1) dX5_bestLetter_107 rfl ic_1 (Nat.le_of_ble_eq_true rfl) h (lw := fun v9 => [(0, .ref aQ), (1, .ref aS.1), (2, .int v2_1), (3, .int v3_2), (4, .int v4_3), (5, .int v9), (6, .int r_9), (7, .int r_10), (8, .int r_12)]) (fun _ => rfl) rfl (fun v5_19 h => ?_)
              refine v_goto C (pc' := 12) dX5_bestLetter_110 (by decide) ?_
              refine v_lv [0, 1, 2, 3, 4, 5] (lv' := [(0, .ref aQ), (1, .ref aS.1), (2, .int v2_1), (3, .int v3_2), (4, .int v4_3), (5, .int v5_19)]) rfl ?_
              exact ih12 v2_1 v3_2 v4_3 v5_19 r_8 h
            · refine v_lv [0, 1, 5, 7, 8] (lv' := [(0, .ref aQ), (1, .ref aS.1), (5, .int v5_4), (7, .int r_10), (8, .int r_12)]) rfl ?_
              exact J97 v5_4 r_10 r_12 r_8 h
def f_X5_bestGuess (zN : St) (zF : Fm)  : Option (Int32 × Fm) :=
  Option.bind (f_X2_isRunning zN) fun r_1 =>
  if r_1 = 0 then some ((-3 : Int32), zF)
  else Option.bind (f_X5_bestLetter zF zN) fun r_2 =>
  some (r_2.1, r_2.2)
abbrev rm_X5_bestGuess : Room := { frames := 5, cells := 0, slots := 0, locals := 121 }
theorem in_X5_bestGuess_5 : ∀ w ∈ wsX50, w ∈ wsX5_bestGuess := fun _ h => List.mem_cons_of_mem _ (List.mem_append_left _ (List.mem_append_left _ (List.mem_append_right _ h)))
theorem k_X5_bestGuess_1 : Cond.fieldLink RX5 19 "DodgingHangman" "now" "LDodgingHangman$State;" ∈ wsX5_bestGuess := List.mem_of_getElem? (i := 1) rfl
theorem nd_X5_bestGuess : yX5_bestGuess.cls ≠ "java/lang/invoke/MethodHandle" ∧ yX5_bestGuess.cls ≠ "java/lang/invoke/VarHandle" ∧ (parseMethodDescriptor yX5_bestGuess.desc).map (fun d => d.parameters.length) = some 0 := by decide +kernel
set_option maxHeartbeats 4000000 in
set_option maxRecDepth 100000 in
theorem c_X5_bestGuess (l : Launch) (g : Gv) (aQ : Nat) (aT : A3) (aN : RA) (aV : A2) (aD aF : RA) (zN : St) (zF : Fm)  (o : Int32 × Fm) (h : f_X5_bestGuess zN zF  = some o) : Ct l g yX5_bestGuess wsX5_bestGuess rm_X5_bestGuess [.ref aQ] (wQ aQ aT aN aV aD aF ++ wS g aN zN ++ wF g aF zF) (Qi g o.1 (fun _ : Unit => wQ aQ aT aN aV aD aF ++ wS g aN zN ++ wF g aF o.2) (fun _ => True)) := by
  refine enter (ret := (some .int)) (X := wQ aQ aT aN aV aD aF ++ wS g aN zN ++ wF g aF zF) (pl := []) pn_X5 rfl (Nat.le_of_ble_eq_true rfl) ((List.append_nil _).symm) ?_
  intro p e s m args below meth c A Q C Cr hin hQ
  unfold f_X5_bestGuess at h
  refine v_aload_n (pc' := 1) C 0 dX5_bestGuess_0 rfl rfl ?_
  refine g_Q_now (pc' := 4) C 0 in_X5_bestGuess_5 rfl k_X5_bestGuess_1 rfl dX5_bestGuess_1 rfl ?_
  refine v_calli (pc' := 7) C h (rf := fun r9 => r9) (wQ aQ aT aN aV aD aF ++ wF g aF zF) (fun r9 (u9 : Unit) => wQ aQ aT aN aV aD aF ++ wS g aN zN ++ wF g aF zF) (fun r hr => run_V C (c_X2_isRunning l g aN _ r hr) gX5_bestGuess_X2_isRunning rfl nd_X2_isRunning rfl rfl rfl rfl ⟨Nat.le_of_ble_eq_true rfl, Nat.le_of_ble_eq_true rfl⟩ ⟨Nat.le_of_ble_eq_true rfl, Nat.le_of_ble_eq_true rfl⟩ (Nat.le_of_ble_eq_true rfl) dX5_bestGuess_4 rfl) [1, 2, 3, 4] [0, 5, 6, 7, 8] [0, 5, 6, 7, 8, 1, 2, 3, 4] rfl rfl rfl rfl (by decide) rfl (fun _ _ => rfl) (k' := 0) (n' := 0) rfl rfl rfl (fun r_1 _ _ h => ?_)
  refine v_if_eq C 21 10 h dX5_bestGuess_7 (by decide) rfl (fun _ h => ?_) (fun _ h => ?_)
  · refine v_bipush (pc' := 23) C (-3) dX5_bestGuess_21 bc_m3 rfl ?_
    exact v_iret (rf := fun (o9 : Int32 × Fm) => o9.1) (Wf := fun (o9 : Int32 × Fm) (u9 : Unit) => wQ aQ aT aN aV aD aF ++ wS g aN zN ++ wF g aF o9.2) (ok := fun (o9 : Int32 × Fm) (u9 : Unit) => True) C Cr h hQ () trivial rfl rfl dX5_bestGuess_23
  · refine v_aload_n (pc' := 11) C 0 dX5_bestGuess_10 rfl rfl ?_
    refine v_aload_n (pc' := 12) C 0 dX5_bestGuess_11 rfl rfl ?_
    refine g_Q_now (pc' := 15) C 0 in_X5_bestGuess_5 rfl k_X5_bestGuess_1 rfl dX5_bestGuess_12 rfl ?_
    refine v_calli (pc' := 18) C h (rf := fun r9 => r9.1) ([]) (fun r9 (u9 : Unit) => wQ aQ aT aN aV aD aF ++ wS g aN zN ++ wF g aF r9.2) (fun r hr => run_V C (c_X5_bestLetter l g aQ aT aN aV aD aF aN _ _ r hr) gX5_bestGuess_X5_bestLetter rfl nd_X5_bestLetter rfl rfl rfl rfl ⟨Nat.le_of_ble_eq_true rfl, Nat.le_of_ble_eq_true rfl⟩ ⟨Nat.le_of_ble_eq_true rfl, Nat.le_of_ble_eq_true rfl⟩ (Nat.le_of_ble_eq_true rfl) dX5_bestGuess_15 rfl) [0, 5, 6, 7, 8, 1, 2, 3, 4] [] [0, 5, 6, 7, 8, 1, 2, 3, 4] rfl rfl rfl rfl (by decide) rfl (fun _ _ => rfl) (k' := 0) (n' := 0) rfl rfl rfl (fun r_2 _ _ h => ?_)
    refine v_goto C (pc' := 23) dX5_bestGuess_18 (by decide) ?_
    exact v_iret (rf := fun (o9 : Int32 × Fm) => o9.1) (Wf := fun (o9 : Int32 × Fm) (u9 : Unit) => wQ aQ aT aN aV aD aF ++ wS g aN zN ++ wF g aF o9.2) (ok := fun (o9 : Int32 × Fm) (u9 : Unit) => True) C Cr h hQ () trivial rfl rfl dX5_bestGuess_23
def f_X5_missesAhead_J73 (zN : St) (zD_6 : St) (zF_7 : Fm) : Option (Int32 × St × Fm) :=
  Option.bind (f_X2_totalOf zD_6 (5 : Int32)) fun r_8 =>
  Option.bind (f_X2_totalOf zN (5 : Int32)) fun r_9 =>
  some ((r_8 - r_9), zD_6, zF_7)
def f_X5_missesAhead_L26 (zN : St) (re26 : Int32 → St → Fm → Option (Int32 × St × Fm)) (v1_3 : Int32) (zD_4 : St) (zF_5 : Fm) : Option (Int32 × St × Fm) :=
  if v1_3 < (26 : Int32) then Option.bind (f_X2_isRunning zD_4) fun r_10 =>
  if r_10 = 0 then f_X5_missesAhead_J73 zN zD_4 zF_5
  else Option.bind (f_X5_bestLetter zF_5 zD_4) fun r_11 =>
  if r_11.1 = (-6 : Int32) then lett (v1_3 + (1 : Int32)) fun v1_12 =>
  re26 v1_12 zD_4 r_11.2
  else Option.bind (f_X5_play r_11.2 zD_4 r_11.1) fun r_13 =>
  lett (v1_3 + (1 : Int32)) fun v1_14 =>
  re26 v1_14 r_13.2.2 r_13.2.1
  else f_X5_missesAhead_J73 zN zD_4 zF_5
def f_X5_missesAhead (zN : St) (zD : St) (zF : Fm)  : Option (Int32 × St × Fm) :=
  Option.bind (f_X2_isRunning zN) fun r_1 =>
  if r_1 = 0 then some ((-3 : Int32), zD, zF)
  else Option.bind (f_X2_copyFrom zD zN) fun r_2 =>
  loop3 (f_X5_missesAhead_L26 zN) FU (0 : Int32) r_2 zF
abbrev rm_X5_missesAhead : Room := { frames := 5, cells := 0, slots := 0, locals := 121 }
theorem in_X5_missesAhead_5 : ∀ w ∈ wsX50, w ∈ wsX5_missesAhead := fun _ h => List.mem_cons_of_mem _ (List.mem_append_left _ (List.mem_append_left _ (List.mem_append_right _ h)))
theorem k_X5_missesAhead_1 : Cond.fieldLink RX5 19 "DodgingHangman" "now" "LDodgingHangman$State;" ∈ wsX5_missesAhead := List.mem_of_getElem? (i := 1) rfl
theorem k_X5_missesAhead_2 : Cond.fieldLink RX5 30 "DodgingHangman" "draft" "LDodgingHangman$State;" ∈ wsX5_missesAhead := List.mem_of_getElem? (i := 2) rfl
theorem nd_X5_missesAhead : yX5_missesAhead.cls ≠ "java/lang/invoke/MethodHandle" ∧ yX5_missesAhead.cls ≠ "java/lang/invoke/VarHandle" ∧ (parseMethodDescriptor yX5_missesAhead.desc).map (fun d => d.parameters.length) = some 0 := by decide +kernel
set_option maxHeartbeats 4000000 in
set_option maxRecDepth 100000 in
theorem c_X5_missesAhead (l : Launch) (g : Gv) (aQ : Nat) (aT : A3) (aN : RA) (aV : A2) (aD aF : RA) (zN : St) (zD : St) (zF : Fm)  (o : Int32 × St × Fm) (h : f_X5_missesAhead zN zD zF  = some o) : Ct l g yX5_missesAhead wsX5_missesAhead rm_X5_missesAhead [.ref aQ] (wQ aQ aT aN aV aD aF ++ wS g aN zN ++ wS g aD zD ++ wF g aF zF) (Qi g o.1 (fun _ : Unit => wQ aQ aT aN aV aD aF ++ wS g aN zN ++ wS g aD o.2.1 ++ wF g aF o.2.2) (fun _ => True)) := by
  refine enter (ret := (some .int)) (X := wQ aQ aT aN aV aD aF ++ wS g aN zN ++ wS g aD zD ++ wF g aF zF) (pl := []) pn_X5 rfl (Nat.le_of_ble_eq_true rfl) ((List.append_nil _).symm) ?_
  intro p e s m args below meth c A Q C Cr hin hQ
  unfold f_X5_missesAhead at h
  have J73 : ∀ (zD_6 : St) (zF_7 : Fm), f_X5_missesAhead_J73 zN zD_6 zF_7 = some o → V p l e rm_X5_missesAhead s m args below meth c g 3 A 0 0 Q (wQ aQ aT aN aV aD aF ++ wS g aN zN ++ wS g aD zD_6 ++ wF g aF zF_7) [] [(0, .ref aQ)] 73 [] := by
    intro zD_6 zF_7 h
    unfold f_X5_missesAhead_J73 at h
    refine v_aload_n (pc' := 74) C 0 dX5_missesAhead_73 rfl rfl ?_
    refine g_Q_draft (pc' := 77) C 0 in_X5_missesAhead_5 rfl k_X5_missesAhead_2 rfl dX5_missesAhead_74 rfl ?_
    refine v_iconst (pc' := 78) C (5) dX5_missesAhead_77 ic_5 rfl ?_
    refine v_calli (pc' := 81) C h (rf := fun r9 => r9) (wQ aQ aT aN aV aD aF ++ wS g aN zN ++ wF g aF zF_7) (fun r9 (u9 : Unit) => wQ aQ aT aN aV aD aF ++ wS g aN zN ++ wS g aD zD_6 ++ wF g aF zF_7) (fun r hr => run_V C (c_X2_totalOf l g aD _ _ r hr) gX5_missesAhead_X2_totalOf rfl nd_X2_totalOf rfl rfl rfl rfl ⟨Nat.le_of_ble_eq_true rfl, Nat.le_of_ble_eq_true rfl⟩ ⟨Nat.le_of_ble_eq_true rfl, Nat.le_of_ble_eq_true rfl⟩ (Nat.le_of_ble_eq_true rfl) dX5_missesAhead_78 rfl) [5, 6, 7, 8] [0, 1, 2, 3, 4, 9, 10, 11, 12] [0, 1, 2, 3, 4, 9, 10, 11, 12, 5, 6, 7, 8] rfl rfl rfl rfl (by decide) rfl (fun _ _ => rfl) (k' := 0) (n' := 0) rfl rfl rfl (fun r_8 _ _ h => ?_)
    refine v_aload_n (pc' := 82) C 0 dX5_missesAhead_81 rfl rfl ?_
    refine g_Q_now (pc' := 85) C 0 in_X5_missesAhead_5 rfl k_X5_missesAhead_1 rfl dX5_missesAhead_82 rfl ?_
    refine v_iconst (pc' := 86) C (5) dX5_missesAhead_85 ic_5 rfl ?_
    refine v_calli (pc' := 89) C h (rf := fun r9 => r9) (wQ aQ aT aN aV aD aF ++ wS g aD zD_6 ++ wF g aF zF_7) (fun r9 (u9 : Unit) => wQ aQ aT aN aV aD aF ++ wS g aN zN ++ wS g aD zD_6 ++ wF g aF zF_7) (fun r hr => run_V C (c_X2_totalOf l g aN _ _ r hr) gX5_missesAhead_X2_totalOf rfl nd_X2_totalOf rfl rfl rfl rfl ⟨Nat.le_of_ble_eq_true rfl, Nat.le_of_ble_eq_true rfl⟩ ⟨Nat.le_of_ble_eq_true rfl, Nat.le_of_ble_eq_true rfl⟩ (Nat.le_of_ble_eq_true rfl) dX5_missesAhead_86 rfl) [1, 2, 3, 4] [0, 5, 6, 7, 8, 9, 10, 11, 12] [0, 9, 10, 11, 12, 1, 2, 3, 4, 5, 6, 7, 8] rfl rfl rfl rfl (by decide) rfl (fun _ _ => rfl) (k' := 0) (n' := 0) rfl rfl rfl (fun r_9 _ _ h => ?_)
    refine v_isub (pc' := 90) C dX5_missesAhead_89 rfl ?_
    exact v_iret (rf := fun (o9 : Int32 × St × Fm) => o9.1) (Wf := fun (o9 : Int32 × St × Fm) (u9 : Unit) => wQ aQ aT aN aV aD aF ++ wS g aN zN ++ wS g aD o9.2.1 ++ wF g aF o9.2.2) (ok := fun (o9 : Int32 × St × Fm) (u9 : Unit) => True) C Cr h hQ () trivial rfl rfl dX5_missesAhead_90
  refine v_aload_n (pc' := 1) C 0 dX5_missesAhead_0 rfl rfl ?_
  refine g_Q_now (pc' := 4) C 0 in_X5_missesAhead_5 rfl k_X5_missesAhead_1 rfl dX5_missesAhead_1 rfl ?_
  refine v_calli (pc' := 7) C h (rf := fun r9 => r9) (wQ aQ aT aN aV aD aF ++ wS g aD zD ++ wF g aF zF) (fun r9 (u9 : Unit) => wQ aQ aT aN aV aD aF ++ wS g aN zN ++ wS g aD zD ++ wF g aF zF) (fun r hr => run_V C (c_X2_isRunning l g aN _ r hr) gX5_missesAhead_X2_isRunning rfl nd_X2_isRunning rfl rfl rfl rfl ⟨Nat.le_of_ble_eq_true rfl, Nat.le_of_ble_eq_true rfl⟩ ⟨Nat.le_of_ble_eq_true rfl, Nat.le_of_ble_eq_true rfl⟩ (Nat.le_of_ble_eq_true rfl) dX5_missesAhead_4 rfl) [1, 2, 3, 4] [0, 5, 6, 7, 8, 9, 10, 11, 12] [0, 9, 10, 11, 12, 1, 2, 3, 4, 5, 6, 7, 8] rfl rfl rfl rfl (by decide) rfl (fun _ _ => rfl) (k' := 0) (n' := 0) rfl rfl rfl (fun r_1 _ _ h => ?_)
  refine v_if_ne C 13 10 h dX5_missesAhead_7 (by decide) rfl (fun _ h => ?_) (fun _ h => ?_)
  · refine v_aload_n (pc' := 14) C 0 dX5_missesAhead_13 rfl rfl ?_
    refine g_Q_draft (pc' := 17) C 0 in_X5_missesAhead_5 rfl k_X5_missesAhead_2 rfl dX5_missesAhead_14 rfl ?_
    refine v_aload_n (pc' := 18) C 0 dX5_missesAhead_17 rfl rfl ?_
    refine g_Q_now (pc' := 21) C 0 in_X5_missesAhead_5 rfl k_X5_missesAhead_1 rfl dX5_missesAhead_18 rfl ?_
    refine v_callv (pc' := 24) C h (wQ aQ aT aN aV aD aF ++ wF g aF zF) (fun r9 (u9 : Unit) => wQ aQ aT aN aV aD aF ++ wS g aN zN ++ wS g aD r9 ++ wF g aF zF) (fun r hr => run_V C (c_X2_copyFrom l g aD aN _ _ r hr) gX5_missesAhead_X2_copyFrom rfl nd_X2_copyFrom rfl rfl rfl rfl ⟨Nat.le_of_ble_eq_true rfl, Nat.le_of_ble_eq_true rfl⟩ ⟨Nat.le_of_ble_eq_true rfl, Nat.le_of_ble_eq_true rfl⟩ (Nat.le_of_ble_eq_true rfl) dX5_missesAhead_21 rfl) [5, 6, 7, 8, 1, 2, 3, 4] [0, 9, 10, 11, 12] [0, 9, 10, 11, 12, 5, 6, 7, 8, 1, 2, 3, 4] rfl rfl rfl rfl (by decide) rfl (fun _ _ => rfl) (k' := 0) (n' := 0) rfl rfl rfl (fun r_2 _ _ h => ?_)
    refine v_iconst (pc' := 25) C (0) dX5_missesAhead_24 ic_0 rfl ?_
    refine v_istore_n (pc' := 26) C [1, 0] (lv' := [(0, .ref aQ), (1, .int (0 : Int32))]) dX5_missesAhead_25 (Nat.le_of_ble_eq_true rfl) rfl rfl ?_
    refine v_loop3 (fun (v1_3 : Int32) (zD_4 : St) (zF_5 : Fm) => V p l e rm_X5_missesAhead s m args below meth c g 3 A 0 0 Q (wQ aQ aT aN aV aD aF ++ wS g aN zN ++ wS g aD zD_4 ++ wF g aF zF_5) [] [(0, .ref aQ), (1, .int v1_3)] 26 []) (fun re26 ih26 v1_3 zD_4 zF_5 h => ?_) (0 : Int32) r_2 zF h
    unfold f_X5_missesAhead_L26 at h
    refine v_iload_n (pc' := 27) C 1 dX5_missesAhead_26 rfl rfl ?_
    refine v_bipush (pc' := 29) C (26) dX5_missesAhead_27 bc_26 rfl ?_
    refine v_icmp_ge C 73 32 h dX5_missesAhead_29 (by decide) rfl (fun _ h => ?_) (fun _ h => ?_)
    · refine v_lv [0] (lv' := [(0, .ref aQ)]) rfl ?_
      exact J73 zD_4 zF_5 h
    · refine v_aload_n (pc' := 33) C 0 dX5_missesAhead_32 rfl rfl ?_
      refine g_Q_draft (pc' := 36) C 0 in_X5_missesAhead_5 rfl k_X5_missesAhead_2 rfl dX5_missesAhead_33 rfl ?_
      refine v_calli (pc' := 39) C h (rf := fun r9 => r9) (wQ aQ aT aN aV aD aF ++ wS g aN zN ++ wF g aF zF_5) (fun r9 (u9 : Unit) => wQ aQ aT aN aV aD aF ++ wS g aN zN ++ wS g aD zD_4 ++ wF g aF zF_5) (fun r hr => run_V C (c_X2_isRunning l g aD _ r hr) gX5_missesAhead_X2_isRunning rfl nd_X2_isRunning rfl rfl rfl rfl ⟨Nat.le_of_ble_eq_true rfl, Nat.le_of_ble_eq_true rfl⟩ ⟨Nat.le_of_ble_eq_true rfl, Nat.le_of_ble_eq_true rfl⟩ (Nat.le_of_ble_eq_true rfl) dX5_missesAhead_36 rfl) [5, 6, 7, 8] [0, 1, 2, 3, 4, 9, 10, 11, 12] [0, 1, 2, 3, 4, 9, 10, 11, 12, 5, 6, 7, 8] rfl rfl rfl rfl (by decide) rfl (fun _ _ => rfl) (k' := 0) (n' := 0) rfl rfl rfl (fun r_10 _ _ h => ?_)
      refine v_if_eq C 73 42 h dX5_missesAhead_39 (by decide) rfl (fun _ h => ?_) (fun _ h => ?_)
      · refine v_lv [0] (lv' := [(0, .ref aQ)]) rfl ?_
        exact J73 zD_4 zF_5 h
      · refine v_aload_n (pc' := 43) C 0 dX5_missesAhead_42 rfl rfl ?_
        refine v_aload_n (pc' := 44) C 0 dX5_missesAhead_43 rfl rfl ?_
        refine g_Q_draft (pc' := 47) C 0 in_X5_missesAhead_5 rfl k_X5_missesAhead_2 rfl dX5_missesAhead_44 rfl ?_
        refine v_calli (pc' := 50) C h (rf := fun r9 => r9.1) (wS g aN zN) (fun r9 (u9 : Unit) => wQ aQ aT aN aV aD aF ++ wS g aN zN ++ wS g aD zD_4 ++ wF g aF r9.2) (fun r hr => run_V C (c_X5_bestLetter l g aQ aT aN aV aD aF aD _ _ r hr) gX5_missesAhead_X5_bestLetter rfl nd_X5_bestLetter rfl rfl rfl rfl ⟨Nat.le_of_ble_eq_true rfl, Nat.le_of_ble_eq_true rfl⟩ ⟨Nat.le_of_ble_eq_true rfl, Nat.le_of_ble_eq_true rfl⟩ (Nat.le_of_ble_eq_true rfl) dX5_missesAhead_47 rfl) [0, 9, 10, 11, 12, 5, 6, 7, 8] [1, 2, 3, 4] [4, 0, 1, 2, 3, 9, 10, 11, 12, 5, 6, 7, 8] rfl rfl rfl rfl (by decide) rfl (fun _ _ => rfl) (k' := 0) (n' := 0) rfl rfl rfl (fun r_11 _ _ h => ?_)
        refine v_istore_n (pc' := 51) C [1, 2, 0] (lv' := [(0, .ref aQ), (1, .int v1_3), (2, .int r_11.1)]) dX5_missesAhead_50 (Nat.le_of_ble_eq_true rfl) rfl rfl ?_
        refine v_iload_n (pc' := 52) C 2 dX5_missesAhead_51 rfl rfl ?_
        refine v_bipush (pc' := 54) C (-6) dX5_missesAhead_52 bc_m6 rfl ?_
        refine v_icmp_eq C 67 57 h dX5_missesAhead_54 (by decide) rfl (fun _ h => ?_) (fun _ h => ?_)
        · refine v_iinc (pc' := 70) C 1 [1, 0, 2] (1) dX5_missesAhead_67 rfl ic_1 (Nat.le_of_ble_eq_true rfl) h (lw := fun v9 => [(0, .ref aQ), (1, .int v9), (2, .int r_11.1)]) (fun _ => rfl) rfl (fun v1_12 h => ?_)
          refine v_goto C (pc' := 26) dX5_missesAhead_70 (by decide) ?_
          refine v_lv [0, 1] (lv' := [(0, .ref aQ), (1, .int v1_12)]) rfl ?_
          exact ih26 v1_12 zD_4 r_11.2 h
        · refine v_aload_n (pc' := 58) C 0 dX5_missesAhead_57 rfl rfl ?_
          refine v_aload_n (pc' := 59) C 0 dX5_missesAhead_58 rfl rfl ?_
          refine g_Q_draft (pc' := 62) C 0 in_X5_missesAhead_5 rfl k_X5_missesAhead_2 rfl dX5_missesAhead_59 rfl ?_
          refine v_iload_n (pc' := 63) C 2 dX5_missesAhead_62 rfl rfl ?_
          refine v_calli (pc' := 66) C h (rf := fun r9 => r9.1) (wS g aN zN) (fun r9 (u9 : Unit) => wQ aQ aT aN aV aD aF ++ wS g aN zN ++ wS g aD r9.2.2 ++ wF g aF r9.2.1) (fun r hr => run_V C (c_X5_play l g aQ aT aN aV aD aF aD _ _ _ r hr) gX5_missesAhead_X5_play rfl nd_X5_play rfl rfl rfl rfl ⟨Nat.le_of_ble_eq_true rfl, Nat.le_of_ble_eq_true rfl⟩ ⟨Nat.le_of_ble_eq_true rfl, Nat.le_of_ble_eq_true rfl⟩ (Nat.le_of_ble_eq_true rfl) dX5_missesAhead_63 rfl) [0, 9, 10, 11, 12, 5, 6, 7, 8] [1, 2, 3, 4] [4, 0, 1, 2, 3, 9, 10, 11, 12, 5, 6, 7, 8] rfl rfl rfl rfl (by decide) rfl (fun _ _ => rfl) (k' := 0) (n' := 0) rfl rfl rfl (fun r_13 _ _ h => ?_)
          refine v_pop (pc' := 67) C dX5_missesAhead_66 rfl rfl ?_
          refine v_iinc (pc' := 70) C 1 [1, 0, 2] (1) dX5_missesAhead_67 rfl ic_1 (Nat.le_of_ble_eq_true rfl) h (lw := fun v9 => [(0, .ref aQ), (1, .int v9), (2, .int r_11.1)]) (fun _ => rfl) rfl (fun v1_14 h => ?_)
          refine v_goto C (pc' := 26) dX5_missesAhead_70 (by decide) ?_
          refine v_lv [0, 1] (lv' := [(0, .ref aQ), (1, .int v1_14)]) rfl ?_
          exact ih26 v1_14 r_13.2.2 r_13.2.1 h
  · refine v_bipush (pc' := 12) C (-3) dX5_missesAhead_10 bc_m3 rfl ?_
    exact v_iret (rf := fun (o9 : Int32 × St × Fm) => o9.1) (Wf := fun (o9 : Int32 × St × Fm) (u9 : Unit) => wQ aQ aT aN aV aD aF ++ wS g aN zN ++ wS g aD o9.2.1 ++ wF g aF o9.2.2) (ok := fun (o9 : Int32 × St × Fm) (u9 : Unit) => True) C Cr h hQ () trivial rfl rfl dX5_missesAhead_12
def f_X5_total (zN : St) (p1 : Int32) : Option (Int32) :=
  if p1 < 0 then some (-2 : Int32)
  else if p1 < (7 : Int32) then Option.bind (f_X2_totalOf zN p1) fun r_1 =>
  some r_1
  else some (-2 : Int32)
abbrev rm_X5_total : Room := { frames := 1, cells := 0, slots := 0, locals := 21 }
theorem in_X5_total_5 : ∀ w ∈ wsX50, w ∈ wsX5_total := fun _ h => List.mem_cons_of_mem _ (List.mem_append_left _ (List.mem_append_right _ h))
theorem k_X5_total_1 : Cond.fieldLink RX5 19 "DodgingHangman" "now" "LDodgingHangman$State;" ∈ wsX5_total := List.mem_of_getElem? (i := 1) rfl
theorem nd_X5_total : yX5_total.cls ≠ "java/lang/invoke/MethodHandle" ∧ yX5_total.cls ≠ "java/lang/invoke/VarHandle" ∧ (parseMethodDescriptor yX5_total.desc).map (fun d => d.parameters.length) = some 1 := by decide +kernel
set_option maxHeartbeats 4000000 in
set_option maxRecDepth 100000 in
theorem c_X5_total (l : Launch) (g : Gv) (aQ : Nat) (aT : A3) (aN : RA) (aV : A2) (aD aF : RA) (zN : St) (p1 : Int32) (o : Int32) (h : f_X5_total zN p1 = some o) : Ct l g yX5_total wsX5_total rm_X5_total [.ref aQ, .int p1] (wQ aQ aT aN aV aD aF ++ wS g aN zN) (Qi g o (fun _ : Unit => wQ aQ aT aN aV aD aF ++ wS g aN zN) (fun _ => True)) := by
  refine enter (ret := (some .int)) (X := wQ aQ aT aN aV aD aF ++ wS g aN zN) (pl := []) pn_X5 rfl (Nat.le_of_ble_eq_true rfl) ((List.append_nil _).symm) ?_
  intro p e s m args below meth c A Q C Cr hin hQ
  unfold f_X5_total at h
  refine v_iload_n (pc' := 1) C 1 dX5_total_0 rfl rfl ?_
  refine v_if_lt C 10 4 h dX5_total_1 (by decide) rfl (fun _ h => ?_) (fun _ h => ?_)
  · refine v_bipush (pc' := 12) C (-2) dX5_total_10 bc_m2 rfl ?_
    refine v_goto C (pc' := 23) dX5_total_12 (by decide) ?_
    exact v_iret (rf := fun (o9 : Int32) => o9) (Wf := fun (o9 : Int32) (u9 : Unit) => wQ aQ aT aN aV aD aF ++ wS g aN zN) (ok := fun (o9 : Int32) (u9 : Unit) => True) C Cr h hQ () trivial rfl rfl dX5_total_23
  · refine v_iload_n (pc' := 5) C 1 dX5_total_4 rfl rfl ?_
    refine v_bipush (pc' := 7) C (7) dX5_total_5 bc_7 rfl ?_
    refine v_icmp_lt C 15 10 h dX5_total_7 (by decide) rfl (fun _ h => ?_) (fun _ h => ?_)
    · refine v_aload_n (pc' := 16) C 0 dX5_total_15 rfl rfl ?_
      refine g_Q_now (pc' := 19) C 0 in_X5_total_5 rfl k_X5_total_1 rfl dX5_total_16 rfl ?_
      refine v_iload_n (pc' := 20) C 1 dX5_total_19 rfl rfl ?_
      refine v_calli (pc' := 23) C h (rf := fun r9 => r9) (wQ aQ aT aN aV aD aF) (fun r9 (u9 : Unit) => wQ aQ aT aN aV aD aF ++ wS g aN zN) (fun r hr => run_V C (c_X2_totalOf l g aN _ _ r hr) gX5_total_X2_totalOf rfl nd_X2_totalOf rfl rfl rfl rfl ⟨Nat.le_of_ble_eq_true rfl, Nat.le_of_ble_eq_true rfl⟩ ⟨Nat.le_of_ble_eq_true rfl, Nat.le_of_ble_eq_true rfl⟩ (Nat.le_of_ble_eq_true rfl) dX5_total_20 rfl) [1, 2, 3, 4] [0] [0, 1, 2, 3, 4] rfl rfl rfl rfl (by decide) rfl (fun _ _ => rfl) (k' := 0) (n' := 0) rfl rfl rfl (fun r_1 _ _ h => ?_)
      exact v_iret (rf := fun (o9 : Int32) => o9) (Wf := fun (o9 : Int32) (u9 : Unit) => wQ aQ aT aN aV aD aF ++ wS g aN zN) (ok := fun (o9 : Int32) (u9 : Unit) => True) C Cr h hQ () trivial rfl rfl dX5_total_23
    · refine v_bipush (pc' := 12) C (-2) dX5_total_10 bc_m2 rfl ?_
      refine v_goto C (pc' := 23) dX5_total_12 (by decide) ?_
      exact v_iret (rf := fun (o9 : Int32) => o9) (Wf := fun (o9 : Int32) (u9 : Unit) => wQ aQ aT aN aV aD aF ++ wS g aN zN) (ok := fun (o9 : Int32) (u9 : Unit) => True) C Cr h hQ () trivial rfl rfl dX5_total_23
def f_X5_undo (zN : St) (zV : Sv)  : Option (Int32 × St × Sv) :=
  Option.bind (f_X1_popInto zV zN) fun r_1 =>
  if r_1.1 = 0 then some ((-3 : Int32), r_1.2.2, r_1.2.1)
  else some ((r_1.2.1.2.2), r_1.2.2, r_1.2.1)
abbrev rm_X5_undo : Room := { frames := 3, cells := 0, slots := 0, locals := 70 }
theorem in_X5_undo_1 : ∀ w ∈ wsX10, w ∈ wsX5_undo := fun _ h => List.mem_cons_of_mem _ (List.mem_append_left _ (List.mem_append_right _ h))
theorem in_X5_undo_5 : ∀ w ∈ wsX50, w ∈ wsX5_undo := fun _ h => List.mem_cons_of_mem _ (List.mem_append_left _ (List.mem_append_left _ (List.mem_append_right _ h)))
theorem k_X5_undo_1 : Cond.fieldLink RX5 26 "DodgingHangman" "saved" "LDodgingHangman$SavedStates;" ∈ wsX5_undo := List.mem_of_getElem? (i := 1) rfl
theorem k_X5_undo_2 : Cond.fieldLink RX5 19 "DodgingHangman" "now" "LDodgingHangman$State;" ∈ wsX5_undo := List.mem_of_getElem? (i := 2) rfl
theorem nd_X5_undo : yX5_undo.cls ≠ "java/lang/invoke/MethodHandle" ∧ yX5_undo.cls ≠ "java/lang/invoke/VarHandle" ∧ (parseMethodDescriptor yX5_undo.desc).map (fun d => d.parameters.length) = some 0 := by decide +kernel
set_option maxHeartbeats 4000000 in
set_option maxRecDepth 100000 in
theorem c_X5_undo (l : Launch) (g : Gv) (aQ : Nat) (aT : A3) (aN : RA) (aV : A2) (aD aF : RA) (ra : List RA) (zN : St) (zV : Sv)  (o : Int32 × St × Sv) (h : f_X5_undo zN zV  = some o) (hra : ra.length = (zV.1).length) : Ct l g yX5_undo wsX5_undo rm_X5_undo [.ref aQ] ((wQ aQ aT aN aV aD aF ++ wS g aN zN ++ wV g aV ra zV) ++ wRing g ra zV.1) (Qi g o.1 (fun u : List RA => (wQ aQ aT aN aV aD aF ++ wS g aN o.2.1 ++ wV g aV u o.2.2) ++ wRing g u o.2.2.1) (fun u => u.length = (o.2.2.1).length)) := by
  refine enter (ret := (some .int)) (X := wQ aQ aT aN aV aD aF ++ wS g aN zN ++ wV g aV ra zV) (pl := (wRing g ra zV.1)) pn_X5 rfl (Nat.le_of_ble_eq_true rfl) (rfl) ?_
  intro p e s m args below meth c A Q C Cr hin hQ
  unfold f_X5_undo at h
  refine v_aload_n (pc' := 1) C 0 dX5_undo_0 rfl rfl ?_
  refine g_Q_saved (pc' := 4) C 0 in_X5_undo_5 rfl k_X5_undo_1 rfl dX5_undo_1 rfl ?_
  refine v_aload_n (pc' := 5) C 0 dX5_undo_4 rfl rfl ?_
  refine g_Q_now (pc' := 8) C 0 in_X5_undo_5 rfl k_X5_undo_2 rfl dX5_undo_5 rfl ?_
  refine v_callPi (pc' := 11) C h (rf := fun r9 => r9.1) (wQ aQ aT aN aV aD aF) (fun r9 u9 => wQ aQ aT aN aV aD aF ++ wS g aN r9.2.2 ++ wV g aV u9 r9.2.1) (fun r hr => run_V C (c_X1_popInto l g aV aN _ _ _ r hr hra) gX5_undo_X1_popInto rfl nd_X1_popInto rfl rfl rfl rfl ⟨Nat.le_of_ble_eq_true rfl, Nat.le_of_ble_eq_true rfl⟩ ⟨Nat.le_of_ble_eq_true rfl, Nat.le_of_ble_eq_true rfl⟩ (Nat.le_of_ble_eq_true rfl) dX5_undo_8 rfl) [5, 6, 1, 2, 3, 4] [0] [0, 3, 4, 5, 6, 1, 2] rfl rfl rfl rfl (by decide) rfl (fun _ _ => rfl) (k' := 0) (n' := 0) rfl rfl rfl (fun r_1 ra_2 hra h => ?_)
  refine v_if_eq C 24 14 h dX5_undo_11 (by decide) rfl (fun _ h => ?_) (fun _ h => ?_)
  · refine v_bipush (pc' := 26) C (-3) dX5_undo_24 bc_m3 rfl ?_
    exact v_iret (rf := fun (o9 : Int32 × St × Sv) => o9.1) (Wf := fun (o9 : Int32 × St × Sv) (u9 : List RA) => (wQ aQ aT aN aV aD aF ++ wS g aN o9.2.1 ++ wV g aV u9 o9.2.2) ++ wRing g u9 o9.2.2.1) (ok := fun (o9 : Int32 × St × Sv) (u9 : List RA) => u9.length = (o9.2.2.1).length) C Cr h hQ ra_2 hra rfl rfl dX5_undo_26
  · refine v_aload_n (pc' := 15) C 0 dX5_undo_14 rfl rfl ?_
    refine g_Q_saved (pc' := 18) C 0 in_X5_undo_5 rfl k_X5_undo_1 rfl dX5_undo_15 rfl ?_
    refine gN_V_count (pc' := 21) C 5 in_X5_undo_1 rfl (List.mem_of_getElem? (i := 13) rfl) rfl dX5_undo_18 rfl ?_
    refine v_goto C (pc' := 26) dX5_undo_21 (by decide) ?_
    exact v_iret (rf := fun (o9 : Int32 × St × Sv) => o9.1) (Wf := fun (o9 : Int32 × St × Sv) (u9 : List RA) => (wQ aQ aT aN aV aD aF ++ wS g aN o9.2.1 ++ wV g aV u9 o9.2.2) ++ wRing g u9 o9.2.2.1) (ok := fun (o9 : Int32 × St × Sv) (u9 : List RA) => u9.length = (o9.2.2.1).length) C Cr h hQ ra_2 hra rfl rfl dX5_undo_26
def f_X5_hashOfList_L50 (r_6 : Int32) (zN : St) (v5_4 : Int32) (re13 : Int64 → Int32 → Option (Int64)) (re50 : Int64 → Int32 → Option (Int64)) (v3_8 : Int64) (v7_9 : Int32) : Option (Int64) :=
  if v7_9 < r_6 then Option.bind (f_X5_letterOf zN v5_4 v7_9) fun r_11 =>
  Option.bind (f_X5_mixed v3_8 ((r_11).toInt64)) fun r_12 =>
  lett (v7_9 + (1 : Int32)) fun v7_13 =>
  re50 r_12 v7_13
  else lett (v5_4 + (1 : Int32)) fun v5_10 =>
  re13 v3_8 v5_10
def f_X5_hashOfList_L13 (zN : St) (re13 : Int64 → Int32 → Option (Int64)) (v3_3 : Int64) (v5_4 : Int32) : Option (Int64) :=
  if v5_4 < (S_wordCount zN) then Option.bind (f_X2_wordAt zN v5_4) fun r_5 =>
  Option.bind (f_X4_lengthOf r_5) fun r_6 =>
  Option.bind (f_X5_mixed v3_3 ((r_6).toInt64)) fun r_7 =>
  loop2 (f_X5_hashOfList_L50 r_6 zN v5_4 re13) FU r_7 (0 : Int32)
  else some v3_3
def f_X5_hashOfList (zN : St) (p1 : Int64) : Option (Int64) :=
  Option.bind (f_X5_words zN) fun r_1 =>
  Option.bind (f_X5_mixed p1 ((r_1).toInt64)) fun r_2 =>
  loop2 (f_X5_hashOfList_L13 zN) FU r_2 (0 : Int32)
abbrev rm_X5_hashOfList : Room := { frames := 3, cells := 0, slots := 0, locals := 66 }
theorem in_X5_hashOfList_2 : ∀ w ∈ wsX20, w ∈ wsX5_hashOfList := fun _ h => List.mem_cons_of_mem _ (List.mem_append_right _ h)
theorem in_X5_hashOfList_5 : ∀ w ∈ wsX50, w ∈ wsX5_hashOfList := fun _ h => List.mem_cons_of_mem _ (List.mem_append_left _ (List.mem_append_right _ h))
theorem k_X5_hashOfList_1 : Cond.fieldLink RX5 19 "DodgingHangman" "now" "LDodgingHangman$State;" ∈ wsX5_hashOfList := List.mem_of_getElem? (i := 1) rfl
theorem nd_X5_hashOfList : yX5_hashOfList.cls ≠ "java/lang/invoke/MethodHandle" ∧ yX5_hashOfList.cls ≠ "java/lang/invoke/VarHandle" ∧ (parseMethodDescriptor yX5_hashOfList.desc).map (fun d => d.parameters.length) = some 1 := by decide +kernel
set_option maxHeartbeats 4000000 in
set_option maxRecDepth 100000 in
theorem c_X5_hashOfList (l : Launch) (g : Gv) (aQ : Nat) (aT : A3) (aN : RA) (aV : A2) (aD aF : RA) (zN : St) (p1 : Int64) (o : Int64) (h : f_X5_hashOfList zN p1 = some o) : Ct l g yX5_hashOfList wsX5_hashOfList rm_X5_hashOfList [.ref aQ, .long p1] (wQ aQ aT aN aV aD aF ++ wS g aN zN) (Ql g o (fun _ : Unit => wQ aQ aT aN aV aD aF ++ wS g aN zN) (fun _ => True)) := by
  refine enter (ret := (some .long)) (X := wQ aQ aT aN aV aD aF ++ wS g aN zN) (pl := []) pn_X5 rfl (Nat.le_of_ble_eq_true rfl) ((List.append_nil _).symm) ?_
  intro p e s m args below meth c A Q C Cr hin hQ
  unfold f_X5_hashOfList at h
  refine v_lload_n (pc' := 1) C 1 dX5_hashOfList_0 rfl rfl ?_
  refine v_aload_n (pc' := 2) C 0 dX5_hashOfList_1 rfl rfl ?_
  refine v_calli (pc' := 5) C h (rf := fun r9 => r9) ([]) (fun r9 (u9 : Unit) => wQ aQ aT aN aV aD aF ++ wS g aN zN) (fun r hr => run_V C (c_X5_words l g aQ aT aN aV aD aF _ r hr) gX5_hashOfList_X5_words rfl nd_X5_words rfl rfl rfl rfl ⟨Nat.le_of_ble_eq_true rfl, Nat.le_of_ble_eq_true rfl⟩ ⟨Nat.le_of_ble_eq_true rfl, Nat.le_of_ble_eq_true rfl⟩ (Nat.le_of_ble_eq_true rfl) dX5_hashOfList_2 rfl) [0, 1, 2, 3, 4] [] [0, 1, 2, 3, 4] rfl rfl rfl rfl (by decide) rfl (fun _ _ => rfl) (k' := 0) (n' := 0) rfl rfl rfl (fun r_1 _ _ h => ?_)
  refine v_i2l (pc' := 6) C dX5_hashOfList_5 rfl ?_
  refine v_purel (pc' := 9) C h (rf := fun r9 => r9) (fun r hr => run_S C (c_X5_mixed l g _ _ r hr) gX5_hashOfList_X5_mixed rfl nd_X5_mixed ⟨Nat.le_of_ble_eq_true rfl, Nat.le_of_ble_eq_true rfl⟩ ⟨Nat.le_of_ble_eq_true rfl, Nat.le_of_ble_eq_true rfl⟩ (Nat.le_of_ble_eq_true rfl) dX5_hashOfList_6 rfl) rfl (fun r_2 h => ?_)
  refine v_lstore_n (pc' := 10) C [1, 2, 0] (lv' := [(0, .ref aQ), (1, .long p1), (3, .long r_2)]) dX5_hashOfList_9 (Nat.le_of_ble_eq_true rfl) rfl rfl ?_
  refine v_iconst (pc' := 11) C (0) dX5_hashOfList_10 ic_0 rfl ?_
  refine v_istore (pc' := 13) C [1, 2, 3, 0] (lv' := [(0, .ref aQ), (1, .long p1), (3, .long r_2), (5, .int (0 : Int32))]) dX5_hashOfList_11 (Nat.le_of_ble_eq_true rfl) rfl rfl ?_
  refine v_lv [0, 2, 3] (lv' := [(0, .ref aQ), (3, .long r_2), (5, .int (0 : Int32))]) rfl ?_
  refine v_loop2 (fun (v3_3 : Int64) (v5_4 : Int32) => V p l e rm_X5_hashOfList s m args below meth c g 8 A 0 0 Q (wQ aQ aT aN aV aD aF ++ wS g aN zN) [] [(0, .ref aQ), (3, .long v3_3), (5, .int v5_4)] 13 []) (fun re13 ih13 v3_3 v5_4 h => ?_) r_2 (0 : Int32) h
  unfold f_X5_hashOfList_L13 at h
  refine v_iload (pc' := 15) C 2 dX5_hashOfList_13 rfl rfl ?_
  refine v_aload_n (pc' := 16) C 0 dX5_hashOfList_15 rfl rfl ?_
  refine g_Q_now (pc' := 19) C 0 in_X5_hashOfList_5 rfl k_X5_hashOfList_1 rfl dX5_hashOfList_16 rfl ?_
  refine gN_S_wordCount (pc' := 22) C 1 in_X5_hashOfList_2 rfl (List.mem_of_getElem? (i := 2) rfl) rfl dX5_hashOfList_19 rfl ?_
  refine v_icmp_ge C 83 25 h dX5_hashOfList_22 (by decide) rfl (fun _ h => ?_) (fun _ h => ?_)
  · refine v_lload_n (pc' := 84) C 1 dX5_hashOfList_83 rfl rfl ?_
    exact v_lret (rf := fun (o9 : Int64) => o9) (Wf := fun (o9 : Int64) (u9 : Unit) => wQ aQ aT aN aV aD aF ++ wS g aN zN) (ok := fun (o9 : Int64) (u9 : Unit) => True) C Cr h hQ () trivial rfl rfl dX5_hashOfList_84
  · refine v_aload_n (pc' := 26) C 0 dX5_hashOfList_25 rfl rfl ?_
    refine g_Q_now (pc' := 29) C 0 in_X5_hashOfList_5 rfl k_X5_hashOfList_1 rfl dX5_hashOfList_26 rfl ?_
    refine v_iload (pc' := 31) C 2 dX5_hashOfList_29 rfl rfl ?_
    refine v_calll (pc' := 34) C h (rf := fun r9 => r9) (wQ aQ aT aN aV aD aF) (fun r9 (u9 : Unit) => wQ aQ aT aN aV aD aF ++ wS g aN zN) (fun r hr => run_V C (c_X2_wordAt l g aN _ _ r hr) gX5_hashOfList_X2_wordAt rfl nd_X2_wordAt rfl rfl rfl rfl ⟨Nat.le_of_ble_eq_true rfl, Nat.le_of_ble_eq_true rfl⟩ ⟨Nat.le_of_ble_eq_true rfl, Nat.le_of_ble_eq_true rfl⟩ (Nat.le_of_ble_eq_true rfl) dX5_hashOfList_31 rfl) [1, 2, 3, 4] [0] [0, 1, 2, 3, 4] rfl rfl rfl rfl (by decide) rfl (fun _ _ => rfl) (k' := 0) (n' := 0) rfl rfl rfl (fun r_5 _ _ h => ?_)
    refine v_purei (pc' := 37) C h (rf := fun r9 => r9) (fun r hr => run_S C (c_X4_lengthOf l g _ r hr) gX5_hashOfList_X4_lengthOf rfl nd_X4_lengthOf ⟨Nat.le_of_ble_eq_true rfl, Nat.le_of_ble_eq_true rfl⟩ ⟨Nat.le_of_ble_eq_true rfl, Nat.le_of_ble_eq_true rfl⟩ (Nat.le_of_ble_eq_true rfl) dX5_hashOfList_34 rfl) rfl (fun r_6 h => ?_)
    refine v_istore (pc' := 39) C [1, 2, 3, 0] (lv' := [(0, .ref aQ), (3, .long v3_3), (5, .int v5_4), (6, .int r_6)]) dX5_hashOfList_37 (Nat.le_of_ble_eq_true rfl) rfl rfl ?_
    refine v_lload_n (pc' := 40) C 1 dX5_hashOfList_39 rfl rfl ?_
    refine v_iload (pc' := 42) C 3 dX5_hashOfList_40 rfl rfl ?_
    refine v_i2l (pc' := 43) C dX5_hashOfList_42 rfl ?_
    refine v_purel (pc' := 46) C h (rf := fun r9 => r9) (fun r hr => run_S C (c_X5_mixed l g _ _ r hr) gX5_hashOfList_X5_mixed rfl nd_X5_mixed ⟨Nat.le_of_ble_eq_true rfl, Nat.le_of_ble_eq_true rfl⟩ ⟨Nat.le_of_ble_eq_true rfl, Nat.le_of_ble_eq_true rfl⟩ (Nat.le_of_ble_eq_true rfl) dX5_hashOfList_43 rfl) rfl (fun r_7 h => ?_)
    refine v_lstore_n (pc' := 47) C [1, 0, 2, 3] (lv' := [(0, .ref aQ), (3, .long r_7), (5, .int v5_4), (6, .int r_6)]) dX5_hashOfList_46 (Nat.le_of_ble_eq_true rfl) rfl rfl ?_
    refine v_iconst (pc' := 48) C (0) dX5_hashOfList_47 ic_0 rfl ?_
    refine v_istore (pc' := 50) C [1, 2, 3, 4, 0] (lv' := [(0, .ref aQ), (3, .long r_7), (5, .int v5_4), (6, .int r_6), (7, .int (0 : Int32))]) dX5_hashOfList_48 (Nat.le_of_ble_eq_true rfl) rfl rfl ?_
    refine v_loop2 (fun (v3_8 : Int64) (v7_9 : Int32) => V p l e rm_X5_hashOfList s m args below meth c g 8 A 0 0 Q (wQ aQ aT aN aV aD aF ++ wS g aN zN) [] [(0, .ref aQ), (3, .long v3_8), (5, .int v5_4), (6, .int r_6), (7, .int v7_9)] 50 []) (fun re50 ih50 v3_8 v7_9 h => ?_) r_7 (0 : Int32) h
    unfold f_X5_hashOfList_L50 at h
    refine v_iload (pc' := 52) C 4 dX5_hashOfList_50 rfl rfl ?_
    refine v_iload (pc' := 54) C 3 dX5_hashOfList_52 rfl rfl ?_
    refine v_icmp_ge C 77 57 h dX5_hashOfList_54 (by decide) rfl (fun _ h => ?_) (fun _ h => ?_)
    · refine v_iinc (pc' := 80) C 2 [1, 2, 0, 3, 4] (1) dX5_hashOfList_77 rfl ic_1 (Nat.le_of_ble_eq_true rfl) h (lw := fun v9 => [(0, .ref aQ), (3, .long v3_8), (5, .int v9), (6, .int r_6), (7, .int v7_9)]) (fun _ => rfl) rfl (fun v5_10 h => ?_)
      refine v_goto C (pc' := 13) dX5_hashOfList_80 (by decide) ?_
      refine v_lv [0, 1, 2] (lv' := [(0, .ref aQ), (3, .long v3_8), (5, .int v5_10)]) rfl ?_
      exact ih13 v3_8 v5_10 h
    · refine v_lload_n (pc' := 58) C 1 dX5_hashOfList_57 rfl rfl ?_
      refine v_aload_n (pc' := 59) C 0 dX5_hashOfList_58 rfl rfl ?_
      refine v_iload (pc' := 61) C 2 dX5_hashOfList_59 rfl rfl ?_
      refine v_iload (pc' := 63) C 4 dX5_hashOfList_61 rfl rfl ?_
      refine v_calli (pc' := 66) C h (rf := fun r9 => r9) ([]) (fun r9 (u9 : Unit) => wQ aQ aT aN aV aD aF ++ wS g aN zN) (fun r hr => run_V C (c_X5_letterOf l g aQ aT aN aV aD aF _ _ _ r hr) gX5_hashOfList_X5_letterOf rfl nd_X5_letterOf rfl rfl rfl rfl ⟨Nat.le_of_ble_eq_true rfl, Nat.le_of_ble_eq_true rfl⟩ ⟨Nat.le_of_ble_eq_true rfl, Nat.le_of_ble_eq_true rfl⟩ (Nat.le_of_ble_eq_true rfl) dX5_hashOfList_63 rfl) [0, 1, 2, 3, 4] [] [0, 1, 2, 3, 4] rfl rfl rfl rfl (by decide) rfl (fun _ _ => rfl) (k' := 0) (n' := 0) rfl rfl rfl (fun r_11 _ _ h => ?_)
      refine v_i2l (pc' := 67) C dX5_hashOfList_66 rfl ?_
      refine v_purel (pc' := 70) C h (rf := fun r9 => r9) (fun r hr => run_S C (c_X5_mixed l g _ _ r hr) gX5_hashOfList_X5_mixed rfl nd_X5_mixed ⟨Nat.le_of_ble_eq_true rfl, Nat.le_of_ble_eq_true rfl⟩ ⟨Nat.le_of_ble_eq_true rfl, Nat.le_of_ble_eq_true rfl⟩ (Nat.le_of_ble_eq_true rfl) dX5_hashOfList_67 rfl) rfl (fun r_12 h => ?_)
      refine v_lstore_n (pc' := 71) C [1, 0, 2, 3, 4] (lv' := [(0, .ref aQ), (3, .long r_12), (5, .int v5_4), (6, .int r_6), (7, .int v7_9)]) dX5_hashOfList_70 (Nat.le_of_ble_eq_true rfl) rfl rfl ?_
      refine v_iinc (pc' := 74) C 4 [1, 2, 3, 4, 0] (1) dX5_hashOfList_71 rfl ic_1 (Nat.le_of_ble_eq_true rfl) h (lw := fun v9 => [(0, .ref aQ), (3, .long r_12), (5, .int v5_4), (6, .int r_6), (7, .int v9)]) (fun _ => rfl) rfl (fun v7_13 h => ?_)
      refine v_goto C (pc' := 50) dX5_hashOfList_74 (by decide) ?_
      exact ih50 r_12 v7_13 h
def f_X5_hashOfGame_L106 (zN : St) (re106 : Int64 → Int32 → Option (Int64)) (v3_15 : Int64) (v6_16 : Int32) : Option (Int64) :=
  if v6_16 < (S_guessCount zN) then Option.bind (f_X5_guessAt zN v6_16) fun r_17 =>
  Option.bind (f_X5_mixed v3_15 ((r_17).toInt64)) fun r_18 =>
  lett (v6_16 + (1 : Int32)) fun v6_19 =>
  re106 r_18 v6_19
  else some v3_15
def f_X5_hashOfGame_J93 (zN : St) (v3_12 : Int64) : Option (Int64) :=
  Option.bind (f_X5_guesses zN) fun r_13 =>
  Option.bind (f_X5_mixed v3_12 ((r_13).toInt64)) fun r_14 =>
  loop2 (f_X5_hashOfGame_L106 zN) FU r_14 (0 : Int32)
def f_X5_hashOfGame_L68 (r_8 : Int32) (zN : St) (re68 : Int64 → Int32 → Option (Int64)) (v3_10 : Int64) (v6_11 : Int32) : Option (Int64) :=
  if v6_11 < r_8 then Option.bind (f_X5_candidate zN v6_11) fun r_20 =>
  Option.bind (f_X5_mixed v3_10 ((r_20).toInt64)) fun r_21 =>
  lett (v6_11 + (1 : Int32)) fun v6_22 =>
  re68 r_21 v6_22
  else f_X5_hashOfGame_J93 zN v3_10
def f_X5_hashOfGame_J51 (zN : St) (v3_7 : Int64) : Option (Int64) :=
  Option.bind (f_X5_candidates zN) fun r_8 =>
  Option.bind (f_X5_mixed v3_7 ((r_8).toInt64)) fun r_9 =>
  loop2 (f_X5_hashOfGame_L68 r_8 zN) FU r_9 (0 : Int32)
def f_X5_hashOfGame_L21 (zN : St) (re21 : Int64 → Int32 → Option (Int64)) (v3_5 : Int64) (v5_6 : Int32) : Option (Int64) :=
  if v5_6 < (S_length zN) then Option.bind (f_X5_shown zN v5_6) fun r_23 =>
  Option.bind (f_X5_mixed v3_5 ((r_23).toInt64)) fun r_24 =>
  lett (v5_6 + (1 : Int32)) fun v5_25 =>
  re21 r_24 v5_25
  else f_X5_hashOfGame_J51 zN v3_5
def f_X5_hashOfGame (zN : St) (zF : Fm) (p1 : Int64) : Option (Int64) :=
  Option.bind (f_X5_status zN) fun r_1 =>
  Option.bind (f_X5_mixed p1 ((r_1).toInt64)) fun r_2 =>
  Option.bind (f_X5_lives zN) fun r_3 =>
  Option.bind (f_X5_mixed r_2 ((r_3).toInt64)) fun r_4 =>
  loop2 (f_X5_hashOfGame_L21 zN) FU r_4 (0 : Int32)
abbrev rm_X5_hashOfGame : Room := { frames := 3, cells := 0, slots := 0, locals := 65 }
theorem in_X5_hashOfGame_2 : ∀ w ∈ wsX20, w ∈ wsX5_hashOfGame := fun _ h => List.mem_cons_of_mem _ (List.mem_append_right _ h)
theorem in_X5_hashOfGame_5 : ∀ w ∈ wsX50, w ∈ wsX5_hashOfGame := fun _ h => List.mem_cons_of_mem _ (List.mem_append_left _ (List.mem_append_right _ h))
theorem k_X5_hashOfGame_1 : Cond.fieldLink RX5 19 "DodgingHangman" "now" "LDodgingHangman$State;" ∈ wsX5_hashOfGame := List.mem_of_getElem? (i := 1) rfl
theorem nd_X5_hashOfGame : yX5_hashOfGame.cls ≠ "java/lang/invoke/MethodHandle" ∧ yX5_hashOfGame.cls ≠ "java/lang/invoke/VarHandle" ∧ (parseMethodDescriptor yX5_hashOfGame.desc).map (fun d => d.parameters.length) = some 1 := by decide +kernel
set_option maxHeartbeats 4000000 in
set_option maxRecDepth 100000 in
theorem c_X5_hashOfGame (l : Launch) (g : Gv) (aQ : Nat) (aT : A3) (aN : RA) (aV : A2) (aD aF : RA) (zN : St) (zF : Fm) (p1 : Int64) (o : Int64) (h : f_X5_hashOfGame zN zF p1 = some o) : Ct l g yX5_hashOfGame wsX5_hashOfGame rm_X5_hashOfGame [.ref aQ, .long p1] (wQ aQ aT aN aV aD aF ++ wS g aN zN ++ wF g aF zF) (Ql g o (fun _ : Unit => wQ aQ aT aN aV aD aF ++ wS g aN zN ++ wF g aF zF) (fun _ => True)) := by
  refine enter (ret := (some .long)) (X := wQ aQ aT aN aV aD aF ++ wS g aN zN ++ wF g aF zF) (pl := []) pn_X5 rfl (Nat.le_of_ble_eq_true rfl) ((List.append_nil _).symm) ?_
  intro p e s m args below meth c A Q C Cr hin hQ
  unfold f_X5_hashOfGame at h
  have J93 : ∀ (v3_12 : Int64), f_X5_hashOfGame_J93 zN v3_12 = some o → V p l e rm_X5_hashOfGame s m args below meth c g 7 A 0 0 Q (wQ aQ aT aN aV aD aF ++ wS g aN zN ++ wF g aF zF) [] [(0, .ref aQ), (3, .long v3_12)] 93 [] := by
    intro v3_12 h
    unfold f_X5_hashOfGame_J93 at h
    refine v_lload_n (pc' := 94) C 1 dX5_hashOfGame_93 rfl rfl ?_
    refine v_aload_n (pc' := 95) C 0 dX5_hashOfGame_94 rfl rfl ?_
    refine v_calli (pc' := 98) C h (rf := fun r9 => r9) (wF g aF zF) (fun r9 (u9 : Unit) => wQ aQ aT aN aV aD aF ++ wS g aN zN ++ wF g aF zF) (fun r hr => run_V C (c_X5_guesses l g aQ aT aN aV aD aF _ r hr) gX5_hashOfGame_X5_guesses rfl nd_X5_guesses rfl rfl rfl rfl ⟨Nat.le_of_ble_eq_true rfl, Nat.le_of_ble_eq_true rfl⟩ ⟨Nat.le_of_ble_eq_true rfl, Nat.le_of_ble_eq_true rfl⟩ (Nat.le_of_ble_eq_true rfl) dX5_hashOfGame_95 rfl) [0, 1, 2, 3, 4] [5, 6, 7, 8] [4, 5, 6, 7, 8, 0, 1, 2, 3] rfl rfl rfl rfl (by decide) rfl (fun _ _ => rfl) (k' := 0) (n' := 0) rfl rfl rfl (fun r_13 _ _ h => ?_)
    refine v_i2l (pc' := 99) C dX5_hashOfGame_98 rfl ?_
    refine v_purel (pc' := 102) C h (rf := fun r9 => r9) (fun r hr => run_S C (c_X5_mixed l g _ _ r hr) gX5_hashOfGame_X5_mixed rfl nd_X5_mixed ⟨Nat.le_of_ble_eq_true rfl, Nat.le_of_ble_eq_true rfl⟩ ⟨Nat.le_of_ble_eq_true rfl, Nat.le_of_ble_eq_true rfl⟩ (Nat.le_of_ble_eq_true rfl) dX5_hashOfGame_99 rfl) rfl (fun r_14 h => ?_)
    refine v_lstore_n (pc' := 103) C [1, 0] (lv' := [(0, .ref aQ), (3, .long r_14)]) dX5_hashOfGame_102 (Nat.le_of_ble_eq_true rfl) rfl rfl ?_
    refine v_iconst (pc' := 104) C (0) dX5_hashOfGame_103 ic_0 rfl ?_
    refine v_istore (pc' := 106) C [1, 2, 0] (lv' := [(0, .ref aQ), (3, .long r_14), (6, .int (0 : Int32))]) dX5_hashOfGame_104 (Nat.le_of_ble_eq_true rfl) rfl rfl ?_
    refine v_loop2 (fun (v3_15 : Int64) (v6_16 : Int32) => V p l e rm_X5_hashOfGame s m args below meth c g 7 A 0 0 Q (wQ aQ aT aN aV aD aF ++ wS g aN zN ++ wF g aF zF) [] [(0, .ref aQ), (3, .long v3_15), (6, .int v6_16)] 106 []) (fun re106 ih106 v3_15 v6_16 h => ?_) r_14 (0 : Int32) h
    unfold f_X5_hashOfGame_L106 at h
    refine v_iload (pc' := 108) C 2 dX5_hashOfGame_106 rfl rfl ?_
    refine v_aload_n (pc' := 109) C 0 dX5_hashOfGame_108 rfl rfl ?_
    refine g_Q_now (pc' := 112) C 0 in_X5_hashOfGame_5 rfl k_X5_hashOfGame_1 rfl dX5_hashOfGame_109 rfl ?_
    refine gN_S_guessCount (pc' := 115) C 1 in_X5_hashOfGame_2 rfl (List.mem_of_getElem? (i := 11) rfl) rfl dX5_hashOfGame_112 rfl ?_
    refine v_icmp_ge C 136 118 h dX5_hashOfGame_115 (by decide) rfl (fun _ h => ?_) (fun _ h => ?_)
    · refine v_lload_n (pc' := 137) C 1 dX5_hashOfGame_136 rfl rfl ?_
      exact v_lret (rf := fun (o9 : Int64) => o9) (Wf := fun (o9 : Int64) (u9 : Unit) => wQ aQ aT aN aV aD aF ++ wS g aN zN ++ wF g aF zF) (ok := fun (o9 : Int64) (u9 : Unit) => True) C Cr h hQ () trivial rfl rfl dX5_hashOfGame_137
    · refine v_lload_n (pc' := 119) C 1 dX5_hashOfGame_118 rfl rfl ?_
      refine v_aload_n (pc' := 120) C 0 dX5_hashOfGame_119 rfl rfl ?_
      refine v_iload (pc' := 122) C 2 dX5_hashOfGame_120 rfl rfl ?_
      refine v_calli (pc' := 125) C h (rf := fun r9 => r9) (wF g aF zF) (fun r9 (u9 : Unit) => wQ aQ aT aN aV aD aF ++ wS g aN zN ++ wF g aF zF) (fun r hr => run_V C (c_X5_guessAt l g aQ aT aN aV aD aF _ _ r hr) gX5_hashOfGame_X5_guessAt rfl nd_X5_guessAt rfl rfl rfl rfl ⟨Nat.le_of_ble_eq_true rfl, Nat.le_of_ble_eq_true rfl⟩ ⟨Nat.le_of_ble_eq_true rfl, Nat.le_of_ble_eq_true rfl⟩ (Nat.le_of_ble_eq_true rfl) dX5_hashOfGame_122 rfl) [0, 1, 2, 3, 4] [5, 6, 7, 8] [4, 5, 6, 7, 8, 0, 1, 2, 3] rfl rfl rfl rfl (by decide) rfl (fun _ _ => rfl) (k' := 0) (n' := 0) rfl rfl rfl (fun r_17 _ _ h => ?_)
      refine v_i2l (pc' := 126) C dX5_hashOfGame_125 rfl ?_
      refine v_purel (pc' := 129) C h (rf := fun r9 => r9) (fun r hr => run_S C (c_X5_mixed l g _ _ r hr) gX5_hashOfGame_X5_mixed rfl nd_X5_mixed ⟨Nat.le_of_ble_eq_true rfl, Nat.le_of_ble_eq_true rfl⟩ ⟨Nat.le_of_ble_eq_true rfl, Nat.le_of_ble_eq_true rfl⟩ (Nat.le_of_ble_eq_true rfl) dX5_hashOfGame_126 rfl) rfl (fun r_18 h => ?_)
      refine v_lstore_n (pc' := 130) C [1, 0, 2] (lv' := [(0, .ref aQ), (3, .long r_18), (6, .int v6_16)]) dX5_hashOfGame_129 (Nat.le_of_ble_eq_true rfl) rfl rfl ?_
      refine v_iinc (pc' := 133) C 2 [1, 2, 0] (1) dX5_hashOfGame_130 rfl ic_1 (Nat.le_of_ble_eq_true rfl) h (lw := fun v9 => [(0, .ref aQ), (3, .long r_18), (6, .int v9)]) (fun _ => rfl) rfl (fun v6_19 h => ?_)
      refine v_goto C (pc' := 106) dX5_hashOfGame_133 (by decide) ?_
      exact ih106 r_18 v6_19 h
  have J51 : ∀ (v3_7 : Int64), f_X5_hashOfGame_J51 zN v3_7 = some o → V p l e rm_X5_hashOfGame s m args below meth c g 7 A 0 0 Q (wQ aQ aT aN aV aD aF ++ wS g aN zN ++ wF g aF zF) [] [(0, .ref aQ), (3, .long v3_7)] 51 [] := by
    intro v3_7 h
    unfold f_X5_hashOfGame_J51 at h
    refine v_aload_n (pc' := 52) C 0 dX5_hashOfGame_51 rfl rfl ?_
    refine v_calli (pc' := 55) C h (rf := fun r9 => r9) (wF g aF zF) (fun r9 (u9 : Unit) => wQ aQ aT aN aV aD aF ++ wS g aN zN ++ wF g aF zF) (fun r hr => run_V C (c_X5_candidates l g aQ aT aN aV aD aF _ r hr) gX5_hashOfGame_X5_candidates rfl nd_X5_candidates rfl rfl rfl rfl ⟨Nat.le_of_ble_eq_true rfl, Nat.le_of_ble_eq_true rfl⟩ ⟨Nat.le_of_ble_eq_true rfl, Nat.le_of_ble_eq_true rfl⟩ (Nat.le_of_ble_eq_true rfl) dX5_hashOfGame_52 rfl) [0, 1, 2, 3, 4] [5, 6, 7, 8] [4, 5, 6, 7, 8, 0, 1, 2, 3] rfl rfl rfl rfl (by decide) rfl (fun _ _ => rfl) (k' := 0) (n' := 0) rfl rfl rfl (fun r_8 _ _ h => ?_)
    refine v_istore (pc' := 57) C [1, 2, 0] (lv' := [(0, .ref aQ), (3, .long v3_7), (5, .int r_8)]) dX5_hashOfGame_55 (Nat.le_of_ble_eq_true rfl) rfl rfl ?_
    refine v_lload_n (pc' := 58) C 1 dX5_hashOfGame_57 rfl rfl ?_
    refine v_iload (pc' := 60) C 2 dX5_hashOfGame_58 rfl rfl ?_
    refine v_i2l (pc' := 61) C dX5_hashOfGame_60 rfl ?_
    refine v_purel (pc' := 64) C h (rf := fun r9 => r9) (fun r hr => run_S C (c_X5_mixed l g _ _ r hr) gX5_hashOfGame_X5_mixed rfl nd_X5_mixed ⟨Nat.le_of_ble_eq_true rfl, Nat.le_of_ble_eq_true rfl⟩ ⟨Nat.le_of_ble_eq_true rfl, Nat.le_of_ble_eq_true rfl⟩ (Nat.le_of_ble_eq_true rfl) dX5_hashOfGame_61 rfl) rfl (fun r_9 h => ?_)
    refine v_lstore_n (pc' := 65) C [1, 0, 2] (lv' := [(0, .ref aQ), (3, .long r_9), (5, .int r_8)]) dX5_hashOfGame_64 (Nat.le_of_ble_eq_true rfl) rfl rfl ?_
    refine v_iconst (pc' := 66) C (0) dX5_hashOfGame_65 ic_0 rfl ?_
    refine v_istore (pc' := 68) C [1, 2, 3, 0] (lv' := [(0, .ref aQ), (3, .long r_9), (5, .int r_8), (6, .int (0 : Int32))]) dX5_hashOfGame_66 (Nat.le_of_ble_eq_true rfl) rfl rfl ?_
    refine v_loop2 (fun (v3_10 : Int64) (v6_11 : Int32) => V p l e rm_X5_hashOfGame s m args below meth c g 7 A 0 0 Q (wQ aQ aT aN aV aD aF ++ wS g aN zN ++ wF g aF zF) [] [(0, .ref aQ), (3, .long v3_10), (5, .int r_8), (6, .int v6_11)] 68 []) (fun re68 ih68 v3_10 v6_11 h => ?_) r_9 (0 : Int32) h
    unfold f_X5_hashOfGame_L68 at h
    refine v_iload (pc' := 70) C 3 dX5_hashOfGame_68 rfl rfl ?_
    refine v_iload (pc' := 72) C 2 dX5_hashOfGame_70 rfl rfl ?_
    refine v_icmp_ge C 93 75 h dX5_hashOfGame_72 (by decide) rfl (fun _ h => ?_) (fun _ h => ?_)
    · refine v_lv [0, 1] (lv' := [(0, .ref aQ), (3, .long v3_10)]) rfl ?_
      exact J93 v3_10 h
    · refine v_lload_n (pc' := 76) C 1 dX5_hashOfGame_75 rfl rfl ?_
      refine v_aload_n (pc' := 77) C 0 dX5_hashOfGame_76 rfl rfl ?_
      refine v_iload (pc' := 79) C 3 dX5_hashOfGame_77 rfl rfl ?_
      refine v_calli (pc' := 82) C h (rf := fun r9 => r9) (wF g aF zF) (fun r9 (u9 : Unit) => wQ aQ aT aN aV aD aF ++ wS g aN zN ++ wF g aF zF) (fun r hr => run_V C (c_X5_candidate l g aQ aT aN aV aD aF _ _ r hr) gX5_hashOfGame_X5_candidate rfl nd_X5_candidate rfl rfl rfl rfl ⟨Nat.le_of_ble_eq_true rfl, Nat.le_of_ble_eq_true rfl⟩ ⟨Nat.le_of_ble_eq_true rfl, Nat.le_of_ble_eq_true rfl⟩ (Nat.le_of_ble_eq_true rfl) dX5_hashOfGame_79 rfl) [0, 1, 2, 3, 4] [5, 6, 7, 8] [4, 5, 6, 7, 8, 0, 1, 2, 3] rfl rfl rfl rfl (by decide) rfl (fun _ _ => rfl) (k' := 0) (n' := 0) rfl rfl rfl (fun r_20 _ _ h => ?_)
      refine v_i2l (pc' := 83) C dX5_hashOfGame_82 rfl ?_
      refine v_purel (pc' := 86) C h (rf := fun r9 => r9) (fun r hr => run_S C (c_X5_mixed l g _ _ r hr) gX5_hashOfGame_X5_mixed rfl nd_X5_mixed ⟨Nat.le_of_ble_eq_true rfl, Nat.le_of_ble_eq_true rfl⟩ ⟨Nat.le_of_ble_eq_true rfl, Nat.le_of_ble_eq_true rfl⟩ (Nat.le_of_ble_eq_true rfl) dX5_hashOfGame_83 rfl) rfl (fun r_21 h => ?_)
      refine v_lstore_n (pc' := 87) C [1, 0, 2, 3] (lv' := [(0, .ref aQ), (3, .long r_21), (5, .int r_8), (6, .int v6_11)]) dX5_hashOfGame_86 (Nat.le_of_ble_eq_true rfl) rfl rfl ?_
      refine v_iinc (pc' := 90) C 3 [1, 2, 3, 0] (1) dX5_hashOfGame_87 rfl ic_1 (Nat.le_of_ble_eq_true rfl) h (lw := fun v9 => [(0, .ref aQ), (3, .long r_21), (5, .int r_8), (6, .int v9)]) (fun _ => rfl) rfl (fun v6_22 h => ?_)
      refine v_goto C (pc' := 68) dX5_hashOfGame_90 (by decide) ?_
      exact ih68 r_21 v6_22 h
  refine v_lload_n (pc' := 1) C 1 dX5_hashOfGame_0 rfl rfl ?_
  refine v_aload_n (pc' := 2) C 0 dX5_hashOfGame_1 rfl rfl ?_
  refine v_calli (pc' := 5) C h (rf := fun r9 => r9) (wF g aF zF) (fun r9 (u9 : Unit) => wQ aQ aT aN aV aD aF ++ wS g aN zN ++ wF g aF zF) (fun r hr => run_V C (c_X5_status l g aQ aT aN aV aD aF _ r hr) gX5_hashOfGame_X5_status rfl nd_X5_status rfl rfl rfl rfl ⟨Nat.le_of_ble_eq_true rfl, Nat.le_of_ble_eq_true rfl⟩ ⟨Nat.le_of_ble_eq_true rfl, Nat.le_of_ble_eq_true rfl⟩ (Nat.le_of_ble_eq_true rfl) dX5_hashOfGame_2 rfl) [0, 1, 2, 3, 4] [5, 6, 7, 8] [4, 5, 6, 7, 8, 0, 1, 2, 3] rfl rfl rfl rfl (by decide) rfl (fun _ _ => rfl) (k' := 0) (n' := 0) rfl rfl rfl (fun r_1 _ _ h => ?_)
  refine v_i2l (pc' := 6) C dX5_hashOfGame_5 rfl ?_
  refine v_purel (pc' := 9) C h (rf := fun r9 => r9) (fun r hr => run_S C (c_X5_mixed l g _ _ r hr) gX5_hashOfGame_X5_mixed rfl nd_X5_mixed ⟨Nat.le_of_ble_eq_true rfl, Nat.le_of_ble_eq_true rfl⟩ ⟨Nat.le_of_ble_eq_true rfl, Nat.le_of_ble_eq_true rfl⟩ (Nat.le_of_ble_eq_true rfl) dX5_hashOfGame_6 rfl) rfl (fun r_2 h => ?_)
  refine v_aload_n (pc' := 10) C 0 dX5_hashOfGame_9 rfl rfl ?_
  refine v_calli (pc' := 13) C h (rf := fun r9 => r9) (wF g aF zF) (fun r9 (u9 : Unit) => wQ aQ aT aN aV aD aF ++ wS g aN zN ++ wF g aF zF) (fun r hr => run_V C (c_X5_lives l g aQ aT aN aV aD aF _ r hr) gX5_hashOfGame_X5_lives rfl nd_X5_lives rfl rfl rfl rfl ⟨Nat.le_of_ble_eq_true rfl, Nat.le_of_ble_eq_true rfl⟩ ⟨Nat.le_of_ble_eq_true rfl, Nat.le_of_ble_eq_true rfl⟩ (Nat.le_of_ble_eq_true rfl) dX5_hashOfGame_10 rfl) [0, 1, 2, 3, 4] [5, 6, 7, 8] [4, 5, 6, 7, 8, 0, 1, 2, 3] rfl rfl rfl rfl (by decide) rfl (fun _ _ => rfl) (k' := 0) (n' := 0) rfl rfl rfl (fun r_3 _ _ h => ?_)
  refine v_i2l (pc' := 14) C dX5_hashOfGame_13 rfl ?_
  refine v_purel (pc' := 17) C h (rf := fun r9 => r9) (fun r hr => run_S C (c_X5_mixed l g _ _ r hr) gX5_hashOfGame_X5_mixed rfl nd_X5_mixed ⟨Nat.le_of_ble_eq_true rfl, Nat.le_of_ble_eq_true rfl⟩ ⟨Nat.le_of_ble_eq_true rfl, Nat.le_of_ble_eq_true rfl⟩ (Nat.le_of_ble_eq_true rfl) dX5_hashOfGame_14 rfl) rfl (fun r_4 h => ?_)
  refine v_lstore_n (pc' := 18) C [1, 2, 0] (lv' := [(0, .ref aQ), (1, .long p1), (3, .long r_4)]) dX5_hashOfGame_17 (Nat.le_of_ble_eq_true rfl) rfl rfl ?_
  refine v_iconst (pc' := 19) C (0) dX5_hashOfGame_18 ic_0 rfl ?_
  refine v_istore (pc' := 21) C [1, 2, 3, 0] (lv' := [(0, .ref aQ), (1, .long p1), (3, .long r_4), (5, .int (0 : Int32))]) dX5_hashOfGame_19 (Nat.le_of_ble_eq_true rfl) rfl rfl ?_
  refine v_lv [0, 2, 3] (lv' := [(0, .ref aQ), (3, .long r_4), (5, .int (0 : Int32))]) rfl ?_
  refine v_loop2 (fun (v3_5 : Int64) (v5_6 : Int32) => V p l e rm_X5_hashOfGame s m args below meth c g 7 A 0 0 Q (wQ aQ aT aN aV aD aF ++ wS g aN zN ++ wF g aF zF) [] [(0, .ref aQ), (3, .long v3_5), (5, .int v5_6)] 21 []) (fun re21 ih21 v3_5 v5_6 h => ?_) r_4 (0 : Int32) h
  unfold f_X5_hashOfGame_L21 at h
  refine v_iload (pc' := 23) C 2 dX5_hashOfGame_21 rfl rfl ?_
  refine v_aload_n (pc' := 24) C 0 dX5_hashOfGame_23 rfl rfl ?_
  refine g_Q_now (pc' := 27) C 0 in_X5_hashOfGame_5 rfl k_X5_hashOfGame_1 rfl dX5_hashOfGame_24 rfl ?_
  refine gN_S_length (pc' := 30) C 1 in_X5_hashOfGame_2 rfl (List.mem_of_getElem? (i := 6) rfl) rfl dX5_hashOfGame_27 rfl ?_
  refine v_icmp_ge C 51 33 h dX5_hashOfGame_30 (by decide) rfl (fun _ h => ?_) (fun _ h => ?_)
  · refine v_lv [0, 1] (lv' := [(0, .ref aQ), (3, .long v3_5)]) rfl ?_
    exact J51 v3_5 h
  · refine v_lload_n (pc' := 34) C 1 dX5_hashOfGame_33 rfl rfl ?_
    refine v_aload_n (pc' := 35) C 0 dX5_hashOfGame_34 rfl rfl ?_
    refine v_iload (pc' := 37) C 2 dX5_hashOfGame_35 rfl rfl ?_
    refine v_calli (pc' := 40) C h (rf := fun r9 => r9) (wF g aF zF) (fun r9 (u9 : Unit) => wQ aQ aT aN aV aD aF ++ wS g aN zN ++ wF g aF zF) (fun r hr => run_V C (c_X5_shown l g aQ aT aN aV aD aF _ _ r hr) gX5_hashOfGame_X5_shown rfl nd_X5_shown rfl rfl rfl rfl ⟨Nat.le_of_ble_eq_true rfl, Nat.le_of_ble_eq_true rfl⟩ ⟨Nat.le_of_ble_eq_true rfl, Nat.le_of_ble_eq_true rfl⟩ (Nat.le_of_ble_eq_true rfl) dX5_hashOfGame_37 rfl) [0, 1, 2, 3, 4] [5, 6, 7, 8] [4, 5, 6, 7, 8, 0, 1, 2, 3] rfl rfl rfl rfl (by decide) rfl (fun _ _ => rfl) (k' := 0) (n' := 0) rfl rfl rfl (fun r_23 _ _ h => ?_)
    refine v_i2l (pc' := 41) C dX5_hashOfGame_40 rfl ?_
    refine v_purel (pc' := 44) C h (rf := fun r9 => r9) (fun r hr => run_S C (c_X5_mixed l g _ _ r hr) gX5_hashOfGame_X5_mixed rfl nd_X5_mixed ⟨Nat.le_of_ble_eq_true rfl, Nat.le_of_ble_eq_true rfl⟩ ⟨Nat.le_of_ble_eq_true rfl, Nat.le_of_ble_eq_true rfl⟩ (Nat.le_of_ble_eq_true rfl) dX5_hashOfGame_41 rfl) rfl (fun r_24 h => ?_)
    refine v_lstore_n (pc' := 45) C [1, 0, 2] (lv' := [(0, .ref aQ), (3, .long r_24), (5, .int v5_6)]) dX5_hashOfGame_44 (Nat.le_of_ble_eq_true rfl) rfl rfl ?_
    refine v_iinc (pc' := 48) C 2 [1, 2, 0] (1) dX5_hashOfGame_45 rfl ic_1 (Nat.le_of_ble_eq_true rfl) h (lw := fun v9 => [(0, .ref aQ), (3, .long r_24), (5, .int v9)]) (fun _ => rfl) rfl (fun v5_25 h => ?_)
    refine v_goto C (pc' := 21) dX5_hashOfGame_48 (by decide) ?_
    exact ih21 r_24 v5_25 h
def f_X5_digest_L42 (zN : St) (zF_5 : Fm) (re42 : Int64 → Int32 → Option (Int64 × Fm)) (v1_6 : Int64) (v3_7 : Int32) : Option (Int64 × Fm) :=
  if v3_7 < (7 : Int32) then Option.bind (f_X5_total zN v3_7) fun r_8 =>
  Option.bind (f_X5_mixed v1_6 ((r_8).toInt64)) fun r_9 =>
  lett (v3_7 + (1 : Int32)) fun v3_10 =>
  re42 r_9 v3_10
  else some (v1_6, zF_5)
def f_X5_digest_J40 (zN : St) (v1_4 : Int64) (zF_5 : Fm) : Option (Int64 × Fm) :=
  loop2 (f_X5_digest_L42 zN zF_5) FU v1_4 (0 : Int32)
def f_X5_digest (zN : St) (zF : Fm)  : Option (Int64 × Fm) :=
  Option.bind (f_X5_hashOfList zN (131 : Int64)) fun r_1 =>
  Option.bind (f_X5_hashOfGame zN zF r_1) fun r_2 =>
  Option.bind (f_X2_isRunning zN) fun r_3 =>
  if r_3 = 0 then f_X5_digest_J40 zN r_2 zF
  else Option.bind (f_X5_sureLetters zN) fun r_11 =>
  Option.bind (f_X5_mixed r_2 ((r_11).toInt64)) fun r_12 =>
  Option.bind (f_X5_bestGuess zN zF) fun r_13 =>
  Option.bind (f_X5_mixed r_12 ((r_13.1).toInt64)) fun r_14 =>
  f_X5_digest_J40 zN r_14 r_13.2
abbrev rm_X5_digest : Room := { frames := 6, cells := 0, slots := 0, locals := 141 }
theorem in_X5_digest_5 : ∀ w ∈ wsX50, w ∈ wsX5_digest := fun _ h => List.mem_cons_of_mem _ (List.mem_append_left _ (List.mem_append_left _ (List.mem_append_right _ h)))
theorem k_X5_digest_1 : Cond.constantLong RX5 214 (131) ∈ wsX5_digest := List.mem_of_getElem? (i := 1) rfl
theorem k_X5_digest_2 : Cond.fieldLink RX5 19 "DodgingHangman" "now" "LDodgingHangman$State;" ∈ wsX5_digest := List.mem_of_getElem? (i := 2) rfl
theorem nd_X5_digest : yX5_digest.cls ≠ "java/lang/invoke/MethodHandle" ∧ yX5_digest.cls ≠ "java/lang/invoke/VarHandle" ∧ (parseMethodDescriptor yX5_digest.desc).map (fun d => d.parameters.length) = some 0 := by decide +kernel
set_option maxHeartbeats 4000000 in
set_option maxRecDepth 100000 in
theorem c_X5_digest (l : Launch) (g : Gv) (aQ : Nat) (aT : A3) (aN : RA) (aV : A2) (aD aF : RA) (zN : St) (zF : Fm)  (o : Int64 × Fm) (h : f_X5_digest zN zF  = some o) : Ct l g yX5_digest wsX5_digest rm_X5_digest [.ref aQ] (wQ aQ aT aN aV aD aF ++ wS g aN zN ++ wF g aF zF) (Ql g o.1 (fun _ : Unit => wQ aQ aT aN aV aD aF ++ wS g aN zN ++ wF g aF o.2) (fun _ => True)) := by
  refine enter (ret := (some .long)) (X := wQ aQ aT aN aV aD aF ++ wS g aN zN ++ wF g aF zF) (pl := []) pn_X5 rfl (Nat.le_of_ble_eq_true rfl) ((List.append_nil _).symm) ?_
  intro p e s m args below meth c A Q C Cr hin hQ
  unfold f_X5_digest at h
  have J40 : ∀ (v1_4 : Int64) (zF_5 : Fm), f_X5_digest_J40 zN v1_4 zF_5 = some o → V p l e rm_X5_digest s m args below meth c g 4 A 0 0 Q (wQ aQ aT aN aV aD aF ++ wS g aN zN ++ wF g aF zF_5) [] [(0, .ref aQ), (1, .long v1_4)] 40 [] := by
    intro v1_4 zF_5 h
    unfold f_X5_digest_J40 at h
    refine v_iconst (pc' := 41) C (0) dX5_digest_40 ic_0 rfl ?_
    refine v_istore_n (pc' := 42) C [1, 2, 0] (lv' := [(0, .ref aQ), (1, .long v1_4), (3, .int (0 : Int32))]) dX5_digest_41 (Nat.le_of_ble_eq_true rfl) rfl rfl ?_
    refine v_loop2 (fun (v1_6 : Int64) (v3_7 : Int32) => V p l e rm_X5_digest s m args below meth c g 4 A 0 0 Q (wQ aQ aT aN aV aD aF ++ wS g aN zN ++ wF g aF zF_5) [] [(0, .ref aQ), (1, .long v1_6), (3, .int v3_7)] 42 []) (fun re42 ih42 v1_6 v3_7 h => ?_) v1_4 (0 : Int32) h
    unfold f_X5_digest_L42 at h
    refine v_iload_n (pc' := 43) C 2 dX5_digest_42 rfl rfl ?_
    refine v_bipush (pc' := 45) C (7) dX5_digest_43 bc_7 rfl ?_
    refine v_icmp_ge C 65 48 h dX5_digest_45 (by decide) rfl (fun _ h => ?_) (fun _ h => ?_)
    · refine v_lload_n (pc' := 66) C 1 dX5_digest_65 rfl rfl ?_
      exact v_lret (rf := fun (o9 : Int64 × Fm) => o9.1) (Wf := fun (o9 : Int64 × Fm) (u9 : Unit) => wQ aQ aT aN aV aD aF ++ wS g aN zN ++ wF g aF o9.2) (ok := fun (o9 : Int64 × Fm) (u9 : Unit) => True) C Cr h hQ () trivial rfl rfl dX5_digest_66
    · refine v_lload_n (pc' := 49) C 1 dX5_digest_48 rfl rfl ?_
      refine v_aload_n (pc' := 50) C 0 dX5_digest_49 rfl rfl ?_
      refine v_iload_n (pc' := 51) C 2 dX5_digest_50 rfl rfl ?_
      refine v_calli (pc' := 54) C h (rf := fun r9 => r9) (wF g aF zF_5) (fun r9 (u9 : Unit) => wQ aQ aT aN aV aD aF ++ wS g aN zN ++ wF g aF zF_5) (fun r hr => run_V C (c_X5_total l g aQ aT aN aV aD aF _ _ r hr) gX5_digest_X5_total rfl nd_X5_total rfl rfl rfl rfl ⟨Nat.le_of_ble_eq_true rfl, Nat.le_of_ble_eq_true rfl⟩ ⟨Nat.le_of_ble_eq_true rfl, Nat.le_of_ble_eq_true rfl⟩ (Nat.le_of_ble_eq_true rfl) dX5_digest_51 rfl) [0, 1, 2, 3, 4] [5, 6, 7, 8] [4, 5, 6, 7, 8, 0, 1, 2, 3] rfl rfl rfl rfl (by decide) rfl (fun _ _ => rfl) (k' := 0) (n' := 0) rfl rfl rfl (fun r_8 _ _ h => ?_)
      refine v_i2l (pc' := 55) C dX5_digest_54 rfl ?_
      refine v_purel (pc' := 58) C h (rf := fun r9 => r9) (fun r hr => run_S C (c_X5_mixed l g _ _ r hr) gX5_digest_X5_mixed rfl nd_X5_mixed ⟨Nat.le_of_ble_eq_true rfl, Nat.le_of_ble_eq_true rfl⟩ ⟨Nat.le_of_ble_eq_true rfl, Nat.le_of_ble_eq_true rfl⟩ (Nat.le_of_ble_eq_true rfl) dX5_digest_55 rfl) rfl (fun r_9 h => ?_)
      refine v_lstore_n (pc' := 59) C [1, 0, 2] (lv' := [(0, .ref aQ), (1, .long r_9), (3, .int v3_7)]) dX5_digest_58 (Nat.le_of_ble_eq_true rfl) rfl rfl ?_
      refine v_iinc (pc' := 62) C 2 [1, 2, 0] (1) dX5_digest_59 rfl ic_1 (Nat.le_of_ble_eq_true rfl) h (lw := fun v9 => [(0, .ref aQ), (1, .long r_9), (3, .int v9)]) (fun _ => rfl) rfl (fun v3_10 h => ?_)
      refine v_goto C (pc' := 42) dX5_digest_62 (by decide) ?_
      exact ih42 r_9 v3_10 h
  refine v_aload_n (pc' := 1) C 0 dX5_digest_0 rfl rfl ?_
  refine v_aload_n (pc' := 2) C 0 dX5_digest_1 rfl rfl ?_
  refine v_ldc2 (pc' := 5) C (131) dX5_digest_2 k_X5_digest_1 rfl ?_
  refine v_calll (pc' := 8) C h (rf := fun r9 => r9) (wF g aF zF) (fun r9 (u9 : Unit) => wQ aQ aT aN aV aD aF ++ wS g aN zN ++ wF g aF zF) (fun r hr => run_V C (c_X5_hashOfList l g aQ aT aN aV aD aF _ _ r hr) gX5_digest_X5_hashOfList rfl nd_X5_hashOfList rfl rfl rfl rfl ⟨Nat.le_of_ble_eq_true rfl, Nat.le_of_ble_eq_true rfl⟩ ⟨Nat.le_of_ble_eq_true rfl, Nat.le_of_ble_eq_true rfl⟩ (Nat.le_of_ble_eq_true rfl) dX5_digest_5 rfl) [0, 1, 2, 3, 4] [5, 6, 7, 8] [4, 5, 6, 7, 8, 0, 1, 2, 3] rfl rfl rfl rfl (by decide) rfl (fun _ _ => rfl) (k' := 0) (n' := 0) rfl rfl rfl (fun r_1 _ _ h => ?_)
  refine v_calll (pc' := 11) C h (rf := fun r9 => r9) ([]) (fun r9 (u9 : Unit) => wQ aQ aT aN aV aD aF ++ wS g aN zN ++ wF g aF zF) (fun r hr => run_V C (c_X5_hashOfGame l g aQ aT aN aV aD aF _ _ _ r hr) gX5_digest_X5_hashOfGame rfl nd_X5_hashOfGame rfl rfl rfl rfl ⟨Nat.le_of_ble_eq_true rfl, Nat.le_of_ble_eq_true rfl⟩ ⟨Nat.le_of_ble_eq_true rfl, Nat.le_of_ble_eq_true rfl⟩ (Nat.le_of_ble_eq_true rfl) dX5_digest_8 rfl) [0, 1, 2, 3, 4, 5, 6, 7, 8] [] [0, 1, 2, 3, 4, 5, 6, 7, 8] rfl rfl rfl rfl (by decide) rfl (fun _ _ => rfl) (k' := 0) (n' := 0) rfl rfl rfl (fun r_2 _ _ h => ?_)
  refine v_lstore_n (pc' := 12) C [1, 0] (lv' := [(0, .ref aQ), (1, .long r_2)]) dX5_digest_11 (Nat.le_of_ble_eq_true rfl) rfl rfl ?_
  refine v_aload_n (pc' := 13) C 0 dX5_digest_12 rfl rfl ?_
  refine g_Q_now (pc' := 16) C 0 in_X5_digest_5 rfl k_X5_digest_2 rfl dX5_digest_13 rfl ?_
  refine v_calli (pc' := 19) C h (rf := fun r9 => r9) (wQ aQ aT aN aV aD aF ++ wF g aF zF) (fun r9 (u9 : Unit) => wQ aQ aT aN aV aD aF ++ wS g aN zN ++ wF g aF zF) (fun r hr => run_V C (c_X2_isRunning l g aN _ r hr) gX5_digest_X2_isRunning rfl nd_X2_isRunning rfl rfl rfl rfl ⟨Nat.le_of_ble_eq_true rfl, Nat.le_of_ble_eq_true rfl⟩ ⟨Nat.le_of_ble_eq_true rfl, Nat.le_of_ble_eq_true rfl⟩ (Nat.le_of_ble_eq_true rfl) dX5_digest_16 rfl) [1, 2, 3, 4] [0, 5, 6, 7, 8] [0, 5, 6, 7, 8, 1, 2, 3, 4] rfl rfl rfl rfl (by decide) rfl (fun _ _ => rfl) (k' := 0) (n' := 0) rfl rfl rfl (fun r_3 _ _ h => ?_)
  refine v_if_eq C 40 22 h dX5_digest_19 (by decide) rfl (fun _ h => ?_) (fun _ h => ?_)
  · exact J40 r_2 zF h
  · refine v_lload_n (pc' := 23) C 1 dX5_digest_22 rfl rfl ?_
    refine v_aload_n (pc' := 24) C 0 dX5_digest_23 rfl rfl ?_
    refine v_calli (pc' := 27) C h (rf := fun r9 => r9) (wF g aF zF) (fun r9 (u9 : Unit) => wQ aQ aT aN aV aD aF ++ wS g aN zN ++ wF g aF zF) (fun r hr => run_V C (c_X5_sureLetters l g aQ aT aN aV aD aF _ r hr) gX5_digest_X5_sureLetters rfl nd_X5_sureLetters rfl rfl rfl rfl ⟨Nat.le_of_ble_eq_true rfl, Nat.le_of_ble_eq_true rfl⟩ ⟨Nat.le_of_ble_eq_true rfl, Nat.le_of_ble_eq_true rfl⟩ (Nat.le_of_ble_eq_true rfl) dX5_digest_24 rfl) [0, 1, 2, 3, 4] [5, 6, 7, 8] [4, 5, 6, 7, 8, 0, 1, 2, 3] rfl rfl rfl rfl (by decide) rfl (fun _ _ => rfl) (k' := 0) (n' := 0) rfl rfl rfl (fun r_11 _ _ h => ?_)
    refine v_i2l (pc' := 28) C dX5_digest_27 rfl ?_
    refine v_purel (pc' := 31) C h (rf := fun r9 => r9) (fun r hr => run_S C (c_X5_mixed l g _ _ r hr) gX5_digest_X5_mixed rfl nd_X5_mixed ⟨Nat.le_of_ble_eq_true rfl, Nat.le_of_ble_eq_true rfl⟩ ⟨Nat.le_of_ble_eq_true rfl, Nat.le_of_ble_eq_true rfl⟩ (Nat.le_of_ble_eq_true rfl) dX5_digest_28 rfl) rfl (fun r_12 h => ?_)
    refine v_aload_n (pc' := 32) C 0 dX5_digest_31 rfl rfl ?_
    refine v_calli (pc' := 35) C h (rf := fun r9 => r9.1) ([]) (fun r9 (u9 : Unit) => wQ aQ aT aN aV aD aF ++ wS g aN zN ++ wF g aF r9.2) (fun r hr => run_V C (c_X5_bestGuess l g aQ aT aN aV aD aF _ _ r hr) gX5_digest_X5_bestGuess rfl nd_X5_bestGuess rfl rfl rfl rfl ⟨Nat.le_of_ble_eq_true rfl, Nat.le_of_ble_eq_true rfl⟩ ⟨Nat.le_of_ble_eq_true rfl, Nat.le_of_ble_eq_true rfl⟩ (Nat.le_of_ble_eq_true rfl) dX5_digest_32 rfl) [0, 1, 2, 3, 4, 5, 6, 7, 8] [] [0, 1, 2, 3, 4, 5, 6, 7, 8] rfl rfl rfl rfl (by decide) rfl (fun _ _ => rfl) (k' := 0) (n' := 0) rfl rfl rfl (fun r_13 _ _ h => ?_)
    refine v_i2l (pc' := 36) C dX5_digest_35 rfl ?_
    refine v_purel (pc' := 39) C h (rf := fun r9 => r9) (fun r hr => run_S C (c_X5_mixed l g _ _ r hr) gX5_digest_X5_mixed rfl nd_X5_mixed ⟨Nat.le_of_ble_eq_true rfl, Nat.le_of_ble_eq_true rfl⟩ ⟨Nat.le_of_ble_eq_true rfl, Nat.le_of_ble_eq_true rfl⟩ (Nat.le_of_ble_eq_true rfl) dX5_digest_36 rfl) rfl (fun r_14 h => ?_)
    refine v_lstore_n (pc' := 40) C [1, 0] (lv' := [(0, .ref aQ), (1, .long r_14)]) dX5_digest_39 (Nat.le_of_ble_eq_true rfl) rfl rfl ?_
    exact J40 r_14 r_13.2 h
