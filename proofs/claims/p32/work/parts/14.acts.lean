def f_L_letter  (p0 : Int32) (p1 : Int32) : Option (Int32) :=
  some ((p0 >>> (((25 : Int32) - ((5 : Int32) * p1)) &&& 31)) &&& (31 : Int32))
abbrev rm_L_letter : Room := { frames := 0, cells := 0, slots := 0, locals := 0 }
theorem nd_L_letter : yL_letter.cls ≠ "java/lang/invoke/MethodHandle" ∧ yL_letter.cls ≠ "java/lang/invoke/VarHandle" ∧ (parseMethodDescriptor yL_letter.desc).map (fun d => d.parameters.length) = some 2 := by decide +kernel
set_option maxHeartbeats 4000000 in
set_option maxRecDepth 100000 in
theorem c_L_letter (l : Launch) (g : Gv)   (p0 : Int32) (p1 : Int32) (o : Int32) (h : f_L_letter  p0 p1 = some o) : Ct l g yL_letter wsL_letter rm_L_letter [.int p0, .int p1] ([]) (Qi g o (fun _ : Unit => []) (fun _ => True)) := by
  refine enter (ret := (some .int)) (X := []) (pl := []) pn_L rfl (Nat.le_of_ble_eq_true rfl) ((List.append_nil _).symm) ?_
  intro p e s m args below meth c A Q C Cr hin hQ
  unfold f_L_letter at h
  refine v_iload_n (pc' := 1) C 0 dL_letter_0 rfl rfl ?_
  refine v_bipush (pc' := 3) C (25) dL_letter_1 bc_25 rfl ?_
  refine v_iconst (pc' := 4) C (5) dL_letter_3 ic_5 rfl ?_
  refine v_iload_n (pc' := 5) C 1 dL_letter_4 rfl rfl ?_
  refine v_imul (pc' := 6) C dL_letter_5 rfl ?_
  refine v_isub (pc' := 7) C dL_letter_6 rfl ?_
  refine v_ishr (pc' := 8) C dL_letter_7 rfl ?_
  refine v_bipush (pc' := 10) C (31) dL_letter_8 bc_31 rfl ?_
  refine v_iand (pc' := 11) C dL_letter_10 rfl ?_
  exact v_iret (rf := fun (o9 : Int32) => o9) (Wf := fun (o9 : Int32) (u9 : Unit) => []) (ok := fun (o9 : Int32) (u9 : Unit) => True) C Cr h hQ () trivial rfl rfl dL_letter_11
def f_L_length_L2 (p0 : Int32) (re2 : Int32 → Option (Int32)) (v1_1 : Int32) : Option (Int32) :=
  if v1_1 < (6 : Int32) then Option.bind (f_L_letter p0 v1_1) fun r_2 =>
  if 0 < r_2 then lett (v1_1 + (1 : Int32)) fun v1_3 =>
  re2 v1_3
  else some v1_1
  else some v1_1
def f_L_length  (p0 : Int32) : Option (Int32) :=
  loop1 (f_L_length_L2 p0) FU (0 : Int32)
abbrev rm_L_length : Room := { frames := 1, cells := 0, slots := 0, locals := 21 }
theorem nd_L_length : yL_length.cls ≠ "java/lang/invoke/MethodHandle" ∧ yL_length.cls ≠ "java/lang/invoke/VarHandle" ∧ (parseMethodDescriptor yL_length.desc).map (fun d => d.parameters.length) = some 1 := by decide +kernel
set_option maxHeartbeats 4000000 in
set_option maxRecDepth 100000 in
theorem c_L_length (l : Launch) (g : Gv)   (p0 : Int32) (o : Int32) (h : f_L_length  p0 = some o) : Ct l g yL_length wsL_length rm_L_length [.int p0] ([]) (Qi g o (fun _ : Unit => []) (fun _ => True)) := by
  refine enter (ret := (some .int)) (X := []) (pl := []) pn_L rfl (Nat.le_of_ble_eq_true rfl) ((List.append_nil _).symm) ?_
  intro p e s m args below meth c A Q C Cr hin hQ
  unfold f_L_length at h
  refine v_iconst (pc' := 1) C (0) dL_length_0 ic_0 rfl ?_
  refine v_istore_n (pc' := 2) C [1, 0] (lv' := [(0, .int p0), (1, .int (0 : Int32))]) dL_length_1 (Nat.le_of_ble_eq_true rfl) rfl rfl ?_
  refine v_loop1 (fun (v1_1 : Int32) => V p l e rm_L_length s m args below meth c g 2 A 0 0 Q ([]) [] [(0, .int p0), (1, .int v1_1)] 2 []) (fun re2 ih2 v1_1 h => ?_) (0 : Int32) h
  unfold f_L_length_L2 at h
  refine v_iload_n (pc' := 3) C 1 dL_length_2 rfl rfl ?_
  refine v_bipush (pc' := 5) C (6) dL_length_3 bc_6 rfl ?_
  refine v_icmp_ge C 22 8 h dL_length_5 (by decide) rfl (fun _ h => ?_) (fun _ h => ?_)
  · refine v_iload_n (pc' := 23) C 1 dL_length_22 rfl rfl ?_
    exact v_iret (rf := fun (o9 : Int32) => o9) (Wf := fun (o9 : Int32) (u9 : Unit) => []) (ok := fun (o9 : Int32) (u9 : Unit) => True) C Cr h hQ () trivial rfl rfl dL_length_23
  · refine v_iload_n (pc' := 9) C 0 dL_length_8 rfl rfl ?_
    refine v_iload_n (pc' := 10) C 1 dL_length_9 rfl rfl ?_
    refine v_purei (pc' := 13) C h (rf := fun r9 => r9) (fun r hr => run_S C (c_L_letter l g _ _ r hr) gL_length_L_letter rfl nd_L_letter ⟨Nat.le_of_ble_eq_true rfl, Nat.le_of_ble_eq_true rfl⟩ ⟨Nat.le_of_ble_eq_true rfl, Nat.le_of_ble_eq_true rfl⟩ (Nat.le_of_ble_eq_true rfl) dL_length_10 rfl) rfl (fun r_2 h => ?_)
    refine v_if_le C 22 16 h dL_length_13 (by decide) rfl (fun _ h => ?_) (fun _ h => ?_)
    · refine v_iload_n (pc' := 23) C 1 dL_length_22 rfl rfl ?_
      exact v_iret (rf := fun (o9 : Int32) => o9) (Wf := fun (o9 : Int32) (u9 : Unit) => []) (ok := fun (o9 : Int32) (u9 : Unit) => True) C Cr h hQ () trivial rfl rfl dL_length_23
    · refine v_iinc (pc' := 19) C 1 [1, 0] (1) dL_length_16 rfl ic_1 (Nat.le_of_ble_eq_true rfl) h (lw := fun v9 => [(0, .int p0), (1, .int v9)]) (fun _ => rfl) rfl (fun v1_3 h => ?_)
      refine v_goto C (pc' := 2) dL_length_19 (by decide) ?_
      exact ih2 v1_3 h
def f_L_word_L34 (s0_2 : Int32) (p0 : Int32) (v2_5 : Int32) (re34 : Int32 → Int32 → Option (Int32)) (v3_6 : Int32) (v4_7 : Int32) : Option (Int32) :=
  if v4_7 < s0_2 then remI (p0 >>> (((3 : Int32) * v4_7) &&& 31)) v2_5 fun q_8 =>
  lett (v3_6 ||| (((1 : Int32) + q_8) <<< (((25 : Int32) - ((5 : Int32) * v4_7)) &&& 31))) fun v3_9 =>
  lett (v4_7 + (1 : Int32)) fun v4_10 =>
  re34 v3_9 v4_10
  else some v3_6
def f_L_word_J19 (p0 : Int32) (s0_2 : Int32) : Option (Int32) :=
  divI p0 (49 : Int32) fun q_3 =>
  remI q_3 (4 : Int32) fun q_4 =>
  lett ((2 : Int32) + q_4) fun v2_5 =>
  loop2 (f_L_word_L34 s0_2 p0 v2_5) FU (0 : Int32) (0 : Int32)
def f_L_word  (p0 : Int32) : Option (Int32) :=
  remI p0 (7 : Int32) fun q_1 =>
  if q_1 = 0 then divI p0 (7 : Int32) fun q_11 =>
  remI q_11 (5 : Int32) fun q_12 =>
  f_L_word_J19 p0 ((2 : Int32) + q_12)
  else f_L_word_J19 p0 (4 : Int32)
abbrev rm_L_word : Room := { frames := 0, cells := 0, slots := 0, locals := 0 }
theorem nd_L_word : yL_word.cls ≠ "java/lang/invoke/MethodHandle" ∧ yL_word.cls ≠ "java/lang/invoke/VarHandle" ∧ (parseMethodDescriptor yL_word.desc).map (fun d => d.parameters.length) = some 1 := by decide +kernel
set_option maxHeartbeats 4000000 in
set_option maxRecDepth 100000 in
theorem c_L_word (l : Launch) (g : Gv)   (p0 : Int32) (o : Int32) (h : f_L_word  p0 = some o) : Ct l g yL_word wsL_word rm_L_word [.int p0] ([]) (Qi g o (fun _ : Unit => []) (fun _ => True)) := by
  refine enter (ret := (some .int)) (X := []) (pl := []) pn_L rfl (Nat.le_of_ble_eq_true rfl) ((List.append_nil _).symm) ?_
  intro p e s m args below meth c A Q C Cr hin hQ
  unfold f_L_word at h
  have J19 : ∀ (s0_2 : Int32), f_L_word_J19 p0 s0_2 = some o → V p l e rm_L_word s m args below meth c g 5 A 0 0 Q ([]) [] [(0, .int p0)] 19 [.int s0_2] := by
    intro s0_2 h
    unfold f_L_word_J19 at h
    refine v_istore_n (pc' := 20) C [1, 0] (lv' := [(0, .int p0), (1, .int s0_2)]) dL_word_19 (Nat.le_of_ble_eq_true rfl) rfl rfl ?_
    refine v_iconst (pc' := 21) C (2) dL_word_20 ic_2 rfl ?_
    refine v_iload_n (pc' := 22) C 0 dL_word_21 rfl rfl ?_
    refine v_bipush (pc' := 24) C (49) dL_word_22 bc_49 rfl ?_
    refine v_idiv (pc' := 25) C h dL_word_24 rfl (fun q_3 h => ?_)
    refine v_iconst (pc' := 26) C (4) dL_word_25 ic_4 rfl ?_
    refine v_irem (pc' := 27) C h dL_word_26 rfl (fun q_4 h => ?_)
    refine v_iadd (pc' := 28) C dL_word_27 rfl ?_
    refine v_leti h (fun v2_5 h => ?_)
    refine v_istore_n (pc' := 29) C [1, 2, 0] (lv' := [(0, .int p0), (1, .int s0_2), (2, .int v2_5)]) dL_word_28 (Nat.le_of_ble_eq_true rfl) rfl rfl ?_
    refine v_iconst (pc' := 30) C (0) dL_word_29 ic_0 rfl ?_
    refine v_istore_n (pc' := 31) C [1, 2, 3, 0] (lv' := [(0, .int p0), (1, .int s0_2), (2, .int v2_5), (3, .int (0 : Int32))]) dL_word_30 (Nat.le_of_ble_eq_true rfl) rfl rfl ?_
    refine v_iconst (pc' := 32) C (0) dL_word_31 ic_0 rfl ?_
    refine v_istore (pc' := 34) C [1, 2, 3, 4, 0] (lv' := [(0, .int p0), (1, .int s0_2), (2, .int v2_5), (3, .int (0 : Int32)), (4, .int (0 : Int32))]) dL_word_32 (Nat.le_of_ble_eq_true rfl) rfl rfl ?_
    refine v_loop2 (fun (v3_6 : Int32) (v4_7 : Int32) => V p l e rm_L_word s m args below meth c g 5 A 0 0 Q ([]) [] [(0, .int p0), (1, .int s0_2), (2, .int v2_5), (3, .int v3_6), (4, .int v4_7)] 34 []) (fun re34 ih34 v3_6 v4_7 h => ?_) (0 : Int32) (0 : Int32) h
    unfold f_L_word_L34 at h
    refine v_iload (pc' := 36) C 4 dL_word_34 rfl rfl ?_
    refine v_iload_n (pc' := 37) C 1 dL_word_36 rfl rfl ?_
    refine v_icmp_ge C 67 40 h dL_word_37 (by decide) rfl (fun _ h => ?_) (fun _ h => ?_)
    · refine v_iload_n (pc' := 68) C 3 dL_word_67 rfl rfl ?_
      exact v_iret (rf := fun (o9 : Int32) => o9) (Wf := fun (o9 : Int32) (u9 : Unit) => []) (ok := fun (o9 : Int32) (u9 : Unit) => True) C Cr h hQ () trivial rfl rfl dL_word_68
    · refine v_iload_n (pc' := 41) C 3 dL_word_40 rfl rfl ?_
      refine v_iconst (pc' := 42) C (1) dL_word_41 ic_1 rfl ?_
      refine v_iload_n (pc' := 43) C 0 dL_word_42 rfl rfl ?_
      refine v_iconst (pc' := 44) C (3) dL_word_43 ic_3 rfl ?_
      refine v_iload (pc' := 46) C 4 dL_word_44 rfl rfl ?_
      refine v_imul (pc' := 47) C dL_word_46 rfl ?_
      refine v_ishr (pc' := 48) C dL_word_47 rfl ?_
      refine v_iload_n (pc' := 49) C 2 dL_word_48 rfl rfl ?_
      refine v_irem (pc' := 50) C h dL_word_49 rfl (fun q_8 h => ?_)
      refine v_iadd (pc' := 51) C dL_word_50 rfl ?_
      refine v_bipush (pc' := 53) C (25) dL_word_51 bc_25 rfl ?_
      refine v_iconst (pc' := 54) C (5) dL_word_53 ic_5 rfl ?_
      refine v_iload (pc' := 56) C 4 dL_word_54 rfl rfl ?_
      refine v_imul (pc' := 57) C dL_word_56 rfl ?_
      refine v_isub (pc' := 58) C dL_word_57 rfl ?_
      refine v_ishl (pc' := 59) C dL_word_58 rfl ?_
      refine v_ior (pc' := 60) C dL_word_59 rfl ?_
      refine v_leti h (fun v3_9 h => ?_)
      refine v_istore_n (pc' := 61) C [1, 2, 3, 0, 4] (lv' := [(0, .int p0), (1, .int s0_2), (2, .int v2_5), (3, .int v3_9), (4, .int v4_7)]) dL_word_60 (Nat.le_of_ble_eq_true rfl) rfl rfl ?_
      refine v_iinc (pc' := 64) C 4 [1, 2, 3, 4, 0] (1) dL_word_61 rfl ic_1 (Nat.le_of_ble_eq_true rfl) h (lw := fun v9 => [(0, .int p0), (1, .int s0_2), (2, .int v2_5), (3, .int v3_9), (4, .int v9)]) (fun _ => rfl) rfl (fun v4_10 h => ?_)
      refine v_goto C (pc' := 34) dL_word_64 (by decide) ?_
      exact ih34 v3_9 v4_10 h
  refine v_iload_n (pc' := 1) C 0 dL_word_0 rfl rfl ?_
  refine v_bipush (pc' := 3) C (7) dL_word_1 bc_7 rfl ?_
  refine v_irem (pc' := 4) C h dL_word_3 rfl (fun q_1 h => ?_)
  refine v_if_ne C 18 7 h dL_word_4 (by decide) rfl (fun _ h => ?_) (fun _ h => ?_)
  · refine v_iconst (pc' := 19) C (4) dL_word_18 ic_4 rfl ?_
    exact J19 (4 : Int32) h
  · refine v_iconst (pc' := 8) C (2) dL_word_7 ic_2 rfl ?_
    refine v_iload_n (pc' := 9) C 0 dL_word_8 rfl rfl ?_
    refine v_bipush (pc' := 11) C (7) dL_word_9 bc_7 rfl ?_
    refine v_idiv (pc' := 12) C h dL_word_11 rfl (fun q_11 h => ?_)
    refine v_iconst (pc' := 13) C (5) dL_word_12 ic_5 rfl ?_
    refine v_irem (pc' := 14) C h dL_word_13 rfl (fun q_12 h => ?_)
    refine v_iadd (pc' := 15) C dL_word_14 rfl ?_
    refine v_goto C (pc' := 19) dL_word_15 (by decide) ?_
    exact J19 ((2 : Int32) + q_12) h
def f_L_types_L4 (p1 : Int32) (re4 : Int32 → Int32 → Tx → Option (Int32 × Tx)) (v2_1 : Int32) (v3_2 : Int32) (zT_3 : Tx) : Option (Int32 × Tx) :=
  Option.bind (f_L_length p1) fun r_4 =>
  if v3_2 < r_4 then Option.bind (f_L_letter p1 v3_2) fun r_5 =>
  Option.bind (f_X5_type zT_3 ((96 : Int32) + r_5)) fun r_6 =>
  lett (v3_2 + (1 : Int32)) fun v3_7 =>
  re4 r_6.1 v3_7 r_6.2
  else some (v2_1, zT_3)
def f_L_types (zT : Tx) (p1 : Int32) : Option (Int32 × Tx) :=
  loop3 (f_L_types_L4 p1) FU (0 : Int32) (0 : Int32) zT
abbrev rm_L_types : Room := { frames := 2, cells := 0, slots := 0, locals := 42 }
theorem nd_L_types : yL_types.cls ≠ "java/lang/invoke/MethodHandle" ∧ yL_types.cls ≠ "java/lang/invoke/VarHandle" ∧ (parseMethodDescriptor yL_types.desc).map (fun d => d.parameters.length) = some 2 := by decide +kernel
set_option maxHeartbeats 4000000 in
set_option maxRecDepth 100000 in
theorem c_L_types (l : Launch) (g : Gv) (aQ : Nat) (aT : A3) (aN : RA) (aV : A2) (aD aF : RA) (zT : Tx) (p1 : Int32) (o : Int32 × Tx) (h : f_L_types zT p1 = some o) : Ct l g yL_types wsL_types rm_L_types [.ref aQ, .int p1] (wQ aQ aT aN aV aD aF ++ wT g aT zT) (Qi g o.1 (fun _ : Unit => wQ aQ aT aN aV aD aF ++ wT g aT o.2) (fun _ => True)) := by
  refine enter (ret := (some .int)) (X := wQ aQ aT aN aV aD aF ++ wT g aT zT) (pl := []) pn_L rfl (Nat.le_of_ble_eq_true rfl) ((List.append_nil _).symm) ?_
  intro p e s m args below meth c A Q C Cr hin hQ
  unfold f_L_types at h
  refine v_iconst (pc' := 1) C (0) dL_types_0 ic_0 rfl ?_
  refine v_istore_n (pc' := 2) C [1, 2, 0] (lv' := [(0, .ref aQ), (1, .int p1), (2, .int (0 : Int32))]) dL_types_1 (Nat.le_of_ble_eq_true rfl) rfl rfl ?_
  refine v_iconst (pc' := 3) C (0) dL_types_2 ic_0 rfl ?_
  refine v_istore_n (pc' := 4) C [1, 2, 3, 0] (lv' := [(0, .ref aQ), (1, .int p1), (2, .int (0 : Int32)), (3, .int (0 : Int32))]) dL_types_3 (Nat.le_of_ble_eq_true rfl) rfl rfl ?_
  refine v_loop3 (fun (v2_1 : Int32) (v3_2 : Int32) (zT_3 : Tx) => V p l e rm_L_types s m args below meth c g 4 A 0 0 Q (wQ aQ aT aN aV aD aF ++ wT g aT zT_3) [] [(0, .ref aQ), (1, .int p1), (2, .int v2_1), (3, .int v3_2)] 4 []) (fun re4 ih4 v2_1 v3_2 zT_3 h => ?_) (0 : Int32) (0 : Int32) zT h
  unfold f_L_types_L4 at h
  refine v_iload_n (pc' := 5) C 3 dL_types_4 rfl rfl ?_
  refine v_iload_n (pc' := 6) C 1 dL_types_5 rfl rfl ?_
  refine v_purei (pc' := 9) C h (rf := fun r9 => r9) (fun r hr => run_S C (c_L_length l g _ r hr) gL_types_L_length rfl nd_L_length ⟨Nat.le_of_ble_eq_true rfl, Nat.le_of_ble_eq_true rfl⟩ ⟨Nat.le_of_ble_eq_true rfl, Nat.le_of_ble_eq_true rfl⟩ (Nat.le_of_ble_eq_true rfl) dL_types_6 rfl) rfl (fun r_4 h => ?_)
  refine v_icmp_ge C 31 12 h dL_types_9 (by decide) rfl (fun _ h => ?_) (fun _ h => ?_)
  · refine v_iload_n (pc' := 32) C 2 dL_types_31 rfl rfl ?_
    exact v_iret (rf := fun (o9 : Int32 × Tx) => o9.1) (Wf := fun (o9 : Int32 × Tx) (u9 : Unit) => wQ aQ aT aN aV aD aF ++ wT g aT o9.2) (ok := fun (o9 : Int32 × Tx) (u9 : Unit) => True) C Cr h hQ () trivial rfl rfl dL_types_32
  · refine v_aload_n (pc' := 13) C 0 dL_types_12 rfl rfl ?_
    refine v_bipush (pc' := 15) C (96) dL_types_13 bc_96 rfl ?_
    refine v_iload_n (pc' := 16) C 1 dL_types_15 rfl rfl ?_
    refine v_iload_n (pc' := 17) C 3 dL_types_16 rfl rfl ?_
    refine v_purei (pc' := 20) C h (rf := fun r9 => r9) (fun r hr => run_S C (c_L_letter l g _ _ r hr) gL_types_L_letter rfl nd_L_letter ⟨Nat.le_of_ble_eq_true rfl, Nat.le_of_ble_eq_true rfl⟩ ⟨Nat.le_of_ble_eq_true rfl, Nat.le_of_ble_eq_true rfl⟩ (Nat.le_of_ble_eq_true rfl) dL_types_17 rfl) rfl (fun r_5 h => ?_)
    refine v_iadd (pc' := 21) C dL_types_20 rfl ?_
    refine v_calli (pc' := 24) C h (rf := fun r9 => r9.1) ([]) (fun r9 (u9 : Unit) => wQ aQ aT aN aV aD aF ++ wT g aT r9.2) (fun r hr => run_V C (c_X5_type l g aQ aT aN aV aD aF _ _ r hr) gL_types_X5_type rfl nd_X5_type rfl rfl rfl rfl ⟨Nat.le_of_ble_eq_true rfl, Nat.le_of_ble_eq_true rfl⟩ ⟨Nat.le_of_ble_eq_true rfl, Nat.le_of_ble_eq_true rfl⟩ (Nat.le_of_ble_eq_true rfl) dL_types_21 rfl) [0, 1, 2, 3] [] [0, 1, 2, 3] rfl rfl rfl rfl (by decide) rfl (fun _ _ => rfl) (k' := 0) (n' := 0) rfl rfl rfl (fun r_6 _ _ h => ?_)
    refine v_istore_n (pc' := 25) C [1, 2, 0, 3] (lv' := [(0, .ref aQ), (1, .int p1), (2, .int r_6.1), (3, .int v3_2)]) dL_types_24 (Nat.le_of_ble_eq_true rfl) rfl rfl ?_
    refine v_iinc (pc' := 28) C 3 [1, 2, 3, 0] (1) dL_types_25 rfl ic_1 (Nat.le_of_ble_eq_true rfl) h (lw := fun v9 => [(0, .ref aQ), (1, .int p1), (2, .int r_6.1), (3, .int v9)]) (fun _ => rfl) rfl (fun v3_7 h => ?_)
    refine v_goto C (pc' := 4) dL_types_28 (by decide) ?_
    exact ih4 r_6.1 v3_7 r_6.2 h
def f_L_acts_J68  (v2_13 : Int32) (zT_14 : Tx) (zN_15 : St) (zV_16 : Sv) (zD_17 : St) (zF_18 : Fm) : Option (Int32 × Tx × St × Sv × St × Fm) :=
  Option.bind (f_X5_clearText zT_14) fun r_20 =>
  Option.bind (f_L_word v2_13) fun r_21 =>
  Option.bind (f_L_types r_20.2 r_21) fun r_22 =>
  Option.bind (f_X5_type r_22.2 (44 : Int32)) fun r_23 =>
  divI v2_13 (3 : Int32) fun q_24 =>
  Option.bind (f_L_word (q_24 + (77 : Int32))) fun r_25 =>
  Option.bind (f_L_types r_23.2 r_25) fun r_26 =>
  if r_26.1 < (1 : Int32) then some ((-9 : Int32), r_26.2, zN_15, zV_16, zD_17, zF_18)
  else Option.bind (f_X5_addWords r_26.2 zN_15 zV_16 zD_17) fun r_27 =>
  some (r_27.1, r_27.2.1, r_27.2.2.1, r_27.2.2.2.1, r_27.2.2.2.2, zF_18)
def f_L_acts_L166 (v2_4 : Int32) (v3_5 : Int32) (zN_7 : St) (zV_8 : Sv) (zD_9 : St) (zF_10 : Fm) (re166 : Int32 → Int32 → Tx → Option (Int32 × Tx × St × Sv × St × Fm)) (v4_41 : Int32) (v5_42 : Int32) (zT_43 : Tx) : Option (Int32 × Tx × St × Sv × St × Fm) :=
  if v5_42 < (8 : Int32) then remI v2_4 v3_5 fun q_46 =>
  Option.bind (f_X5_letterOf zN_7 q_46 v5_42) fun r_47 =>
  if 0 < r_47 then remI v2_4 v3_5 fun q_50 =>
  Option.bind (f_X5_letterOf zN_7 q_50 v5_42) fun r_51 =>
  Option.bind (f_X5_type zT_43 r_51) fun r_52 =>
  lett (v5_42 + (1 : Int32)) fun v5_53 =>
  re166 r_52.1 v5_53 r_52.2
  else if v4_41 < 0 then some ((-9 : Int32), zT_43, zN_7, zV_8, zD_9, zF_10)
  else Option.bind (f_X5_guessWord zT_43 zN_7 zV_8) fun r_48 =>
  some (r_48.1, r_48.2.1, r_48.2.2.1, r_48.2.2.2, zD_9, zF_10)
  else if v4_41 < 0 then some ((-9 : Int32), zT_43, zN_7, zV_8, zD_9, zF_10)
  else Option.bind (f_X5_guessWord zT_43 zN_7 zV_8) fun r_44 =>
  some (r_44.1, r_44.2.1, r_44.2.2.1, r_44.2.2.2, zD_9, zF_10)
def f_L_acts_J221  (v2_54 : Int32) (zT_55 : Tx) (zN_56 : St) (zV_57 : Sv) (zD_58 : St) (zF_59 : Fm) : Option (Int32 × Tx × St × Sv × St × Fm) :=
  remI v2_54 (5 : Int32) fun q_61 =>
  if q_61 = 0 then divI v2_54 (5 : Int32) fun q_66 =>
  remI q_66 (5 : Int32) fun q_67 =>
  divI v2_54 (25 : Int32) fun q_68 =>
  remI q_68 (6 : Int32) fun q_69 =>
  Option.bind (f_X5_start zN_56 zV_57 ((2 : Int32) + q_67) ((1 : Int32) + q_69)) fun r_70 =>
  some (r_70.1, zT_55, r_70.2.1, r_70.2.2, zD_58, zF_59)
  else divI v2_54 (25 : Int32) fun q_62 =>
  remI q_62 (6 : Int32) fun q_63 =>
  Option.bind (f_X5_start zN_56 zV_57 (4 : Int32) ((1 : Int32) + q_63)) fun r_64 =>
  some (r_64.1, zT_55, r_64.2.1, r_64.2.2, zD_58, zF_59)
def f_L_acts_J23  (v2_4 : Int32) (v3_5 : Int32) (zT_6 : Tx) (zN_7 : St) (zV_8 : Sv) (zD_9 : St) (zF_10 : Fm) (s0_12 : Int32) : Option (Int32 × Tx × St × Sv × St × Fm) :=
  if s0_12 = (0 : Int32) then f_L_acts_J68  v2_4 zT_6 zN_7 zV_8 zD_9 zF_10
  else if s0_12 = (1 : Int32) then f_L_acts_J68  v2_4 zT_6 zN_7 zV_8 zD_9 zF_10
  else if s0_12 = (2 : Int32) then remI v2_4 v3_5 fun q_29 =>
  Option.bind (f_X5_removeWord zN_7 zV_8 q_29) fun r_30 =>
  some (r_30.1, zT_6, r_30.2.1, r_30.2.2, zD_9, zF_10)
  else if s0_12 = (3 : Int32) then remI v2_4 (3 : Int32) fun q_32 =>
  Option.bind (f_X5_setPolicy zN_7 zV_8 q_32) fun r_33 =>
  some (r_33.1, zT_6, r_33.2.1, r_33.2.2, zD_9, zF_10)
  else if s0_12 = (4 : Int32) then remI v2_4 (4 : Int32) fun q_35 =>
  if q_35 = 0 then Option.bind (f_X5_giveUp zN_7 zV_8) fun r_38 =>
  some (r_38.1, zT_6, r_38.2.1, r_38.2.2, zD_9, zF_10)
  else Option.bind (f_X5_undo zN_7 zV_8) fun r_36 =>
  some (r_36.1, zT_6, r_36.2.1, r_36.2.2, zD_9, zF_10)
  else if s0_12 = (5 : Int32) then Option.bind (f_X5_clearText zT_6) fun r_40 =>
  loop3 (f_L_acts_L166 v2_4 v3_5 zN_7 zV_8 zD_9 zF_10) FU r_40.1 (0 : Int32) r_40.2
  else if s0_12 = (6 : Int32) then f_L_acts_J221  v2_4 zT_6 zN_7 zV_8 zD_9 zF_10
  else if s0_12 = (7 : Int32) then f_L_acts_J221  v2_4 zT_6 zN_7 zV_8 zD_9 zF_10
  else remI v2_4 (6 : Int32) fun q_72 =>
  Option.bind (f_X5_guess zN_7 zV_8 zF_10 ((97 : Int32) + q_72)) fun r_73 =>
  some (r_73.1, zT_6, r_73.2.1, r_73.2.2.1, zD_9, r_73.2.2.2)
def f_L_acts (zT : Tx) (zN : St) (zV : Sv) (zD : St) (zF : Fm) (p1 : Int32) : Option (Int32 × Tx × St × Sv × St × Fm) :=
  divI p1 (16 : Int32) fun q_1 =>
  Option.bind (f_X5_words zN) fun r_2 =>
  if r_2 < (3 : Int32) then f_L_acts_J23  q_1 r_2 zT zN zV zD zF (0 : Int32)
  else remI p1 (16 : Int32) fun q_3 =>
  f_L_acts_J23  q_1 r_2 zT zN zV zD zF q_3
abbrev rm_L_acts : Room := { frames := 6, cells := 4, slots := 75, locals := 138 }
theorem nd_L_acts : yL_acts.cls ≠ "java/lang/invoke/MethodHandle" ∧ yL_acts.cls ≠ "java/lang/invoke/VarHandle" ∧ (parseMethodDescriptor yL_acts.desc).map (fun d => d.parameters.length) = some 2 := by decide +kernel
set_option maxHeartbeats 4000000 in
set_option maxRecDepth 100000 in
theorem c_L_acts (l : Launch) (g : Gv) (aQ : Nat) (aT : A3) (aN : RA) (aV : A2) (aD aF : RA) (ra : List RA) (zT : Tx) (zN : St) (zV : Sv) (zD : St) (zF : Fm) (p1 : Int32) (o : Int32 × Tx × St × Sv × St × Fm) (h : f_L_acts zT zN zV zD zF p1 = some o) (hra : ra.length = (zV.1).length) : Ct l g yL_acts wsL_acts rm_L_acts [.ref aQ, .int p1] ((wQ aQ aT aN aV aD aF ++ wT g aT zT ++ wS g aN zN ++ wV g aV ra zV ++ wS g aD zD ++ wF g aF zF) ++ wRing g ra zV.1) (Qi g o.1 (fun u : List RA => (wQ aQ aT aN aV aD aF ++ wT g aT o.2.1 ++ wS g aN o.2.2.1 ++ wV g aV u o.2.2.2.1 ++ wS g aD o.2.2.2.2.1 ++ wF g aF o.2.2.2.2.2) ++ wRing g u o.2.2.2.1.1) (fun u => u.length = (o.2.2.2.1.1).length)) := by
  refine enter (ret := (some .int)) (X := wQ aQ aT aN aV aD aF ++ wT g aT zT ++ wS g aN zN ++ wV g aV ra zV ++ wS g aD zD ++ wF g aF zF) (pl := (wRing g ra zV.1)) pn_L rfl (Nat.le_of_ble_eq_true rfl) (rfl) ?_
  intro p e s m args below meth c A Q C Cr hin hQ
  unfold f_L_acts at h
  have J68 : ∀ (v2_13 : Int32) (zT_14 : Tx) (zN_15 : St) (zV_16 : Sv) (zD_17 : St) (zF_18 : Fm) (ra_19 : List RA) (hra : ra_19.length = (zV_16.1).length), f_L_acts_J68  v2_13 zT_14 zN_15 zV_16 zD_17 zF_18 = some o → V p l e rm_L_acts s m args below meth c g 6 A 0 0 Q (wQ aQ aT aN aV aD aF ++ wT g aT zT_14 ++ wS g aN zN_15 ++ wV g aV ra_19 zV_16 ++ wS g aD zD_17 ++ wF g aF zF_18) (wRing g ra_19 zV_16.1) [(0, .ref aQ), (2, .int v2_13)] 68 [] := by
    intro v2_13 zT_14 zN_15 zV_16 zD_17 zF_18 ra_19 hra h
    unfold f_L_acts_J68 at h
    refine v_aload_n (pc' := 69) C 0 dL_acts_68 rfl rfl ?_
    refine v_calli (pc' := 72) C h (rf := fun r9 => r9.1) (wS g aN zN_15 ++ wV g aV ra_19 zV_16 ++ wS g aD zD_17 ++ wF g aF zF_18) (fun r9 (u9 : Unit) => wQ aQ aT aN aV aD aF ++ wT g aT r9.2 ++ wS g aN zN_15 ++ wV g aV ra_19 zV_16 ++ wS g aD zD_17 ++ wF g aF zF_18) (fun r hr => run_V C (c_X5_clearText l g aQ aT aN aV aD aF _ r hr) gL_acts_X5_clearText rfl nd_X5_clearText rfl rfl rfl rfl ⟨Nat.le_of_ble_eq_true rfl, Nat.le_of_ble_eq_true rfl⟩ ⟨Nat.le_of_ble_eq_true rfl, Nat.le_of_ble_eq_true rfl⟩ (Nat.le_of_ble_eq_true rfl) dL_acts_69 rfl) [0, 1, 2, 3] [4, 5, 6, 7, 8, 9, 10, 11, 12, 13, 14, 15, 16, 17] [14, 15, 16, 17, 0, 1, 2, 3, 4, 5, 6, 7, 8, 9, 10, 11, 12, 13] rfl rfl rfl rfl (by decide) rfl (fun _ _ => rfl) (k' := 0) (n' := 0) rfl rfl rfl (fun r_20 _ _ h => ?_)
    refine v_istore (pc' := 74) C [1, 2, 0] (lv' := [(0, .ref aQ), (2, .int v2_13), (4, .int r_20.1)]) dL_acts_72 (Nat.le_of_ble_eq_true rfl) rfl rfl ?_
    refine v_aload_n (pc' := 75) C 0 dL_acts_74 rfl rfl ?_
    refine v_iload_n (pc' := 76) C 1 dL_acts_75 rfl rfl ?_
    refine v_purei (pc' := 79) C h (rf := fun r9 => r9) (fun r hr => run_S C (c_L_word l g _ r hr) gL_acts_L_word rfl nd_L_word ⟨Nat.le_of_ble_eq_true rfl, Nat.le_of_ble_eq_true rfl⟩ ⟨Nat.le_of_ble_eq_true rfl, Nat.le_of_ble_eq_true rfl⟩ (Nat.le_of_ble_eq_true rfl) dL_acts_76 rfl) rfl (fun r_21 h => ?_)
    refine v_calli (pc' := 82) C h (rf := fun r9 => r9.1) (wS g aN zN_15 ++ wV g aV ra_19 zV_16 ++ wS g aD zD_17 ++ wF g aF zF_18) (fun r9 (u9 : Unit) => wQ aQ aT aN aV aD aF ++ wT g aT r9.2 ++ wS g aN zN_15 ++ wV g aV ra_19 zV_16 ++ wS g aD zD_17 ++ wF g aF zF_18) (fun r hr => run_S C (c_L_types l g aQ aT aN aV aD aF _ _ r hr) gL_acts_L_types rfl nd_L_types ⟨Nat.le_of_ble_eq_true rfl, Nat.le_of_ble_eq_true rfl⟩ ⟨Nat.le_of_ble_eq_true rfl, Nat.le_of_ble_eq_true rfl⟩ (Nat.le_of_ble_eq_true rfl) dL_acts_79 rfl) [0, 1, 2, 3] [4, 5, 6, 7, 8, 9, 10, 11, 12, 13, 14, 15, 16, 17] [14, 15, 16, 17, 0, 1, 2, 3, 4, 5, 6, 7, 8, 9, 10, 11, 12, 13] rfl rfl rfl rfl (by decide) rfl (fun _ _ => rfl) (k' := 0) (n' := 0) rfl rfl rfl (fun r_22 _ _ h => ?_)
    refine v_istore (pc' := 84) C [1, 2, 0] (lv' := [(0, .ref aQ), (2, .int v2_13), (4, .int r_22.1)]) dL_acts_82 (Nat.le_of_ble_eq_true rfl) rfl rfl ?_
    refine v_aload_n (pc' := 85) C 0 dL_acts_84 rfl rfl ?_
    refine v_bipush (pc' := 87) C (44) dL_acts_85 bc_44 rfl ?_
    refine v_calli (pc' := 90) C h (rf := fun r9 => r9.1) (wS g aN zN_15 ++ wV g aV ra_19 zV_16 ++ wS g aD zD_17 ++ wF g aF zF_18) (fun r9 (u9 : Unit) => wQ aQ aT aN aV aD aF ++ wT g aT r9.2 ++ wS g aN zN_15 ++ wV g aV ra_19 zV_16 ++ wS g aD zD_17 ++ wF g aF zF_18) (fun r hr => run_V C (c_X5_type l g aQ aT aN aV aD aF _ _ r hr) gL_acts_X5_type rfl nd_X5_type rfl rfl rfl rfl ⟨Nat.le_of_ble_eq_true rfl, Nat.le_of_ble_eq_true rfl⟩ ⟨Nat.le_of_ble_eq_true rfl, Nat.le_of_ble_eq_true rfl⟩ (Nat.le_of_ble_eq_true rfl) dL_acts_87 rfl) [0, 1, 2, 3] [4, 5, 6, 7, 8, 9, 10, 11, 12, 13, 14, 15, 16, 17] [14, 15, 16, 17, 0, 1, 2, 3, 4, 5, 6, 7, 8, 9, 10, 11, 12, 13] rfl rfl rfl rfl (by decide) rfl (fun _ _ => rfl) (k' := 0) (n' := 0) rfl rfl rfl (fun r_23 _ _ h => ?_)
    refine v_istore (pc' := 92) C [1, 2, 0] (lv' := [(0, .ref aQ), (2, .int v2_13), (4, .int r_23.1)]) dL_acts_90 (Nat.le_of_ble_eq_true rfl) rfl rfl ?_
    refine v_aload_n (pc' := 93) C 0 dL_acts_92 rfl rfl ?_
    refine v_iload_n (pc' := 94) C 1 dL_acts_93 rfl rfl ?_
    refine v_iconst (pc' := 95) C (3) dL_acts_94 ic_3 rfl ?_
    refine v_idiv (pc' := 96) C h dL_acts_95 rfl (fun q_24 h => ?_)
    refine v_bipush (pc' := 98) C (77) dL_acts_96 bc_77 rfl ?_
    refine v_iadd (pc' := 99) C dL_acts_98 rfl ?_
    refine v_purei (pc' := 102) C h (rf := fun r9 => r9) (fun r hr => run_S C (c_L_word l g _ r hr) gL_acts_L_word rfl nd_L_word ⟨Nat.le_of_ble_eq_true rfl, Nat.le_of_ble_eq_true rfl⟩ ⟨Nat.le_of_ble_eq_true rfl, Nat.le_of_ble_eq_true rfl⟩ (Nat.le_of_ble_eq_true rfl) dL_acts_99 rfl) rfl (fun r_25 h => ?_)
    refine v_calli (pc' := 105) C h (rf := fun r9 => r9.1) (wS g aN zN_15 ++ wV g aV ra_19 zV_16 ++ wS g aD zD_17 ++ wF g aF zF_18) (fun r9 (u9 : Unit) => wQ aQ aT aN aV aD aF ++ wT g aT r9.2 ++ wS g aN zN_15 ++ wV g aV ra_19 zV_16 ++ wS g aD zD_17 ++ wF g aF zF_18) (fun r hr => run_S C (c_L_types l g aQ aT aN aV aD aF _ _ r hr) gL_acts_L_types rfl nd_L_types ⟨Nat.le_of_ble_eq_true rfl, Nat.le_of_ble_eq_true rfl⟩ ⟨Nat.le_of_ble_eq_true rfl, Nat.le_of_ble_eq_true rfl⟩ (Nat.le_of_ble_eq_true rfl) dL_acts_102 rfl) [0, 1, 2, 3] [4, 5, 6, 7, 8, 9, 10, 11, 12, 13, 14, 15, 16, 17] [14, 15, 16, 17, 0, 1, 2, 3, 4, 5, 6, 7, 8, 9, 10, 11, 12, 13] rfl rfl rfl rfl (by decide) rfl (fun _ _ => rfl) (k' := 0) (n' := 0) rfl rfl rfl (fun r_26 _ _ h => ?_)
    refine v_istore (pc' := 107) C [1, 2, 0] (lv' := [(0, .ref aQ), (2, .int v2_13), (4, .int r_26.1)]) dL_acts_105 (Nat.le_of_ble_eq_true rfl) rfl rfl ?_
    refine v_iload (pc' := 109) C 2 dL_acts_107 rfl rfl ?_
    refine v_iconst (pc' := 110) C (1) dL_acts_109 ic_1 rfl ?_
    refine v_icmp_ge C 118 113 h dL_acts_110 (by decide) rfl (fun _ h => ?_) (fun _ h => ?_)
    · refine v_aload_n (pc' := 119) C 0 dL_acts_118 rfl rfl ?_
      refine v_callPi (pc' := 122) C h (rf := fun r9 => r9.1) (wF g aF zF_18) (fun r9 u9 => wQ aQ aT aN aV aD aF ++ wT g aT r9.2.1 ++ wS g aN r9.2.2.1 ++ wV g aV u9 r9.2.2.2.1 ++ wS g aD r9.2.2.2.2 ++ wF g aF zF_18) (fun r hr => run_V C (c_X5_addWords l g aQ aT aN aV aD aF _ _ _ _ _ r hr hra) gL_acts_X5_addWords rfl nd_X5_addWords rfl rfl rfl rfl ⟨Nat.le_of_ble_eq_true rfl, Nat.le_of_ble_eq_true rfl⟩ ⟨Nat.le_of_ble_eq_true rfl, Nat.le_of_ble_eq_true rfl⟩ (Nat.le_of_ble_eq_true rfl) dL_acts_119 rfl) [0, 1, 2, 3, 4, 5, 6, 7, 8, 9, 10, 11, 12, 13] [14, 15, 16, 17] [4, 5, 6, 7, 8, 9, 10, 11, 12, 13, 14, 15, 16, 17, 0, 1, 2, 3] rfl rfl rfl rfl (by decide) rfl (fun _ _ => rfl) (k' := 4) (n' := 75) rfl rfl rfl (fun r_27 ra_28 hra h => ?_)
      exact v_iret (rf := fun (o9 : Int32 × Tx × St × Sv × St × Fm) => o9.1) (Wf := fun (o9 : Int32 × Tx × St × Sv × St × Fm) (u9 : List RA) => (wQ aQ aT aN aV aD aF ++ wT g aT o9.2.1 ++ wS g aN o9.2.2.1 ++ wV g aV u9 o9.2.2.2.1 ++ wS g aD o9.2.2.2.2.1 ++ wF g aF o9.2.2.2.2.2) ++ wRing g u9 o9.2.2.2.1.1) (ok := fun (o9 : Int32 × Tx × St × Sv × St × Fm) (u9 : List RA) => u9.length = (o9.2.2.2.1.1).length) C Cr h hQ ra_28 hra rfl rfl dL_acts_122
    · refine v_bipush (pc' := 115) C (-9) dL_acts_113 bc_m9 rfl ?_
      refine v_goto C (pc' := 122) dL_acts_115 (by decide) ?_
      refine v_widen (k' := 4) (n' := 75) (Nat.le_of_ble_eq_true rfl) (Nat.le_of_ble_eq_true rfl) ?_
      exact v_iret (rf := fun (o9 : Int32 × Tx × St × Sv × St × Fm) => o9.1) (Wf := fun (o9 : Int32 × Tx × St × Sv × St × Fm) (u9 : List RA) => (wQ aQ aT aN aV aD aF ++ wT g aT o9.2.1 ++ wS g aN o9.2.2.1 ++ wV g aV u9 o9.2.2.2.1 ++ wS g aD o9.2.2.2.2.1 ++ wF g aF o9.2.2.2.2.2) ++ wRing g u9 o9.2.2.2.1.1) (ok := fun (o9 : Int32 × Tx × St × Sv × St × Fm) (u9 : List RA) => u9.length = (o9.2.2.2.1.1).length) C Cr h hQ ra_19 hra rfl rfl dL_acts_122
  have J221 : ∀ (v2_54 : Int32) (zT_55 : Tx) (zN_56 : St) (zV_57 : Sv) (zD_58 : St) (zF_59 : Fm) (ra_60 : List RA) (hra : ra_60.length = (zV_57.1).length), f_L_acts_J221  v2_54 zT_55 zN_56 zV_57 zD_58 zF_59 = some o → V p l e rm_L_acts s m args below meth c g 6 A 0 0 Q (wQ aQ aT aN aV aD aF ++ wT g aT zT_55 ++ wS g aN zN_56 ++ wV g aV ra_60 zV_57 ++ wS g aD zD_58 ++ wF g aF zF_59) (wRing g ra_60 zV_57.1) [(0, .ref aQ), (2, .int v2_54)] 221 [] := by
    intro v2_54 zT_55 zN_56 zV_57 zD_58 zF_59 ra_60 hra h
    unfold f_L_acts_J221 at h
    refine v_aload_n (pc' := 222) C 0 dL_acts_221 rfl rfl ?_
    refine v_iload_n (pc' := 223) C 1 dL_acts_222 rfl rfl ?_
    refine v_iconst (pc' := 224) C (5) dL_acts_223 ic_5 rfl ?_
    refine v_irem (pc' := 225) C h dL_acts_224 rfl (fun q_61 h => ?_)
    refine v_if_ne C 238 228 h dL_acts_225 (by decide) rfl (fun _ h => ?_) (fun _ h => ?_)
    · refine v_iconst (pc' := 239) C (4) dL_acts_238 ic_4 rfl ?_
      refine v_iconst (pc' := 240) C (1) dL_acts_239 ic_1 rfl ?_
      refine v_iload_n (pc' := 241) C 1 dL_acts_240 rfl rfl ?_
      refine v_bipush (pc' := 243) C (25) dL_acts_241 bc_25 rfl ?_
      refine v_idiv (pc' := 244) C h dL_acts_243 rfl (fun q_62 h => ?_)
      refine v_bipush (pc' := 246) C (6) dL_acts_244 bc_6 rfl ?_
      refine v_irem (pc' := 247) C h dL_acts_246 rfl (fun q_63 h => ?_)
      refine v_iadd (pc' := 248) C dL_acts_247 rfl ?_
      refine v_callPi (pc' := 251) C h (rf := fun r9 => r9.1) (wT g aT zT_55 ++ wS g aD zD_58 ++ wF g aF zF_59) (fun r9 u9 => wQ aQ aT aN aV aD aF ++ wT g aT zT_55 ++ wS g aN r9.2.1 ++ wV g aV u9 r9.2.2 ++ wS g aD zD_58 ++ wF g aF zF_59) (fun r hr => run_V C (c_X5_start l g aQ aT aN aV aD aF _ _ _ _ _ r hr hra) gL_acts_X5_start rfl nd_X5_start rfl rfl rfl rfl ⟨Nat.le_of_ble_eq_true rfl, Nat.le_of_ble_eq_true rfl⟩ ⟨Nat.le_of_ble_eq_true rfl, Nat.le_of_ble_eq_true rfl⟩ (Nat.le_of_ble_eq_true rfl) dL_acts_248 rfl) [0, 4, 5, 6, 7, 8, 9] [1, 2, 3, 10, 11, 12, 13, 14, 15, 16, 17] [11, 0, 1, 2, 12, 13, 14, 15, 16, 17, 3, 4, 5, 6, 7, 8, 9, 10] rfl rfl rfl rfl (by decide) rfl (fun _ _ => rfl) (k' := 4) (n' := 75) rfl rfl rfl (fun r_64 ra_65 hra h => ?_)
      exact v_iret (rf := fun (o9 : Int32 × Tx × St × Sv × St × Fm) => o9.1) (Wf := fun (o9 : Int32 × Tx × St × Sv × St × Fm) (u9 : List RA) => (wQ aQ aT aN aV aD aF ++ wT g aT o9.2.1 ++ wS g aN o9.2.2.1 ++ wV g aV u9 o9.2.2.2.1 ++ wS g aD o9.2.2.2.2.1 ++ wF g aF o9.2.2.2.2.2) ++ wRing g u9 o9.2.2.2.1.1) (ok := fun (o9 : Int32 × Tx × St × Sv × St × Fm) (u9 : List RA) => u9.length = (o9.2.2.2.1.1).length) C Cr h hQ ra_65 hra rfl rfl dL_acts_251
    · refine v_iconst (pc' := 229) C (2) dL_acts_228 ic_2 rfl ?_
      refine v_iload_n (pc' := 230) C 1 dL_acts_229 rfl rfl ?_
      refine v_iconst (pc' := 231) C (5) dL_acts_230 ic_5 rfl ?_
      refine v_idiv (pc' := 232) C h dL_acts_231 rfl (fun q_66 h => ?_)
      refine v_iconst (pc' := 233) C (5) dL_acts_232 ic_5 rfl ?_
      refine v_irem (pc' := 234) C h dL_acts_233 rfl (fun q_67 h => ?_)
      refine v_iadd (pc' := 235) C dL_acts_234 rfl ?_
      refine v_goto C (pc' := 239) dL_acts_235 (by decide) ?_
      refine v_iconst (pc' := 240) C (1) dL_acts_239 ic_1 rfl ?_
      refine v_iload_n (pc' := 241) C 1 dL_acts_240 rfl rfl ?_
      refine v_bipush (pc' := 243) C (25) dL_acts_241 bc_25 rfl ?_
      refine v_idiv (pc' := 244) C h dL_acts_243 rfl (fun q_68 h => ?_)
      refine v_bipush (pc' := 246) C (6) dL_acts_244 bc_6 rfl ?_
      refine v_irem (pc' := 247) C h dL_acts_246 rfl (fun q_69 h => ?_)
      refine v_iadd (pc' := 248) C dL_acts_247 rfl ?_
      refine v_callPi (pc' := 251) C h (rf := fun r9 => r9.1) (wT g aT zT_55 ++ wS g aD zD_58 ++ wF g aF zF_59) (fun r9 u9 => wQ aQ aT aN aV aD aF ++ wT g aT zT_55 ++ wS g aN r9.2.1 ++ wV g aV u9 r9.2.2 ++ wS g aD zD_58 ++ wF g aF zF_59) (fun r hr => run_V C (c_X5_start l g aQ aT aN aV aD aF _ _ _ _ _ r hr hra) gL_acts_X5_start rfl nd_X5_start rfl rfl rfl rfl ⟨Nat.le_of_ble_eq_true rfl, Nat.le_of_ble_eq_true rfl⟩ ⟨Nat.le_of_ble_eq_true rfl, Nat.le_of_ble_eq_true rfl⟩ (Nat.le_of_ble_eq_true rfl) dL_acts_248 rfl) [0, 4, 5, 6, 7, 8, 9] [1, 2, 3, 10, 11, 12, 13, 14, 15, 16, 17] [11, 0, 1, 2, 12, 13, 14, 15, 16, 17, 3, 4, 5, 6, 7, 8, 9, 10] rfl rfl rfl rfl (by decide) rfl (fun _ _ => rfl) (k' := 4) (n' := 75) rfl rfl rfl (fun r_70 ra_71 hra h => ?_)
      exact v_iret (rf := fun (o9 : Int32 × Tx × St × Sv × St × Fm) => o9.1) (Wf := fun (o9 : Int32 × Tx × St × Sv × St × Fm) (u9 : List RA) => (wQ aQ aT aN aV aD aF ++ wT g aT o9.2.1 ++ wS g aN o9.2.2.1 ++ wV g aV u9 o9.2.2.2.1 ++ wS g aD o9.2.2.2.2.1 ++ wF g aF o9.2.2.2.2.2) ++ wRing g u9 o9.2.2.2.1.1) (ok := fun (o9 : Int32 × Tx × St × Sv × St × Fm) (u9 : List RA) => u9.length = (o9.2.2.2.1.1).length) C Cr h hQ ra_71 hra rfl rfl dL_acts_251
  have J23 : ∀ (v2_4 : Int32) (v3_5 : Int32) (zT_6 : Tx) (zN_7 : St) (zV_8 : Sv) (zD_9 : St) (zF_10 : Fm) (s0_12 : Int32) (ra_11 : List RA) (hra : ra_11.length = (zV_8.1).length), f_L_acts_J23  v2_4 v3_5 zT_6 zN_7 zV_8 zD_9 zF_10 s0_12 = some o → V p l e rm_L_acts s m args below meth c g 6 A 0 0 Q (wQ aQ aT aN aV aD aF ++ wT g aT zT_6 ++ wS g aN zN_7 ++ wV g aV ra_11 zV_8 ++ wS g aD zD_9 ++ wF g aF zF_10) (wRing g ra_11 zV_8.1) [(0, .ref aQ), (2, .int v2_4), (3, .int v3_5)] 23 [.int s0_12] := by
    intro v2_4 v3_5 zT_6 zN_7 zV_8 zD_9 zF_10 s0_12 ra_11 hra h
    unfold f_L_acts_J23 at h
    refine v_case C (0) 68 h dL_acts_23 (by decide) (by decide) rfl (by decide) (fun h => ?_) (fun hc0 h => ?_)
    · refine v_lv [0, 1] (lv' := [(0, .ref aQ), (2, .int v2_4)]) rfl ?_
      exact J68 v2_4 zT_6 zN_7 zV_8 zD_9 zF_10 ra_11 hra h
    refine v_case C (1) 68 h dL_acts_23 (by decide) (by decide) rfl (by decide) (fun h => ?_) (fun hc1 h => ?_)
    · refine v_lv [0, 1] (lv' := [(0, .ref aQ), (2, .int v2_4)]) rfl ?_
      exact J68 v2_4 zT_6 zN_7 zV_8 zD_9 zF_10 ra_11 hra h
    refine v_case C (2) 123 h dL_acts_23 (by decide) (by decide) rfl (by decide) (fun h => ?_) (fun hc2 h => ?_)
    · refine v_aload_n (pc' := 124) C 0 dL_acts_123 rfl rfl ?_
      refine v_iload_n (pc' := 125) C 1 dL_acts_124 rfl rfl ?_
      refine v_iload_n (pc' := 126) C 2 dL_acts_125 rfl rfl ?_
      refine v_irem (pc' := 127) C h dL_acts_126 rfl (fun q_29 h => ?_)
      refine v_callPi (pc' := 130) C h (rf := fun r9 => r9.1) (wT g aT zT_6 ++ wS g aD zD_9 ++ wF g aF zF_10) (fun r9 u9 => wQ aQ aT aN aV aD aF ++ wT g aT zT_6 ++ wS g aN r9.2.1 ++ wV g aV u9 r9.2.2 ++ wS g aD zD_9 ++ wF g aF zF_10) (fun r hr => run_V C (c_X5_removeWord l g aQ aT aN aV aD aF _ _ _ _ r hr hra) gL_acts_X5_removeWord rfl nd_X5_removeWord rfl rfl rfl rfl ⟨Nat.le_of_ble_eq_true rfl, Nat.le_of_ble_eq_true rfl⟩ ⟨Nat.le_of_ble_eq_true rfl, Nat.le_of_ble_eq_true rfl⟩ (Nat.le_of_ble_eq_true rfl) dL_acts_127 rfl) [0, 4, 5, 6, 7, 8, 9] [1, 2, 3, 10, 11, 12, 13, 14, 15, 16, 17] [11, 0, 1, 2, 12, 13, 14, 15, 16, 17, 3, 4, 5, 6, 7, 8, 9, 10] rfl rfl rfl rfl (by decide) rfl (fun _ _ => rfl) (k' := 4) (n' := 75) rfl rfl rfl (fun r_30 ra_31 hra h => ?_)
      exact v_iret (rf := fun (o9 : Int32 × Tx × St × Sv × St × Fm) => o9.1) (Wf := fun (o9 : Int32 × Tx × St × Sv × St × Fm) (u9 : List RA) => (wQ aQ aT aN aV aD aF ++ wT g aT o9.2.1 ++ wS g aN o9.2.2.1 ++ wV g aV u9 o9.2.2.2.1 ++ wS g aD o9.2.2.2.2.1 ++ wF g aF o9.2.2.2.2.2) ++ wRing g u9 o9.2.2.2.1.1) (ok := fun (o9 : Int32 × Tx × St × Sv × St × Fm) (u9 : List RA) => u9.length = (o9.2.2.2.1.1).length) C Cr h hQ ra_31 hra rfl rfl dL_acts_130
    refine v_case C (3) 131 h dL_acts_23 (by decide) (by decide) rfl (by decide) (fun h => ?_) (fun hc3 h => ?_)
    · refine v_aload_n (pc' := 132) C 0 dL_acts_131 rfl rfl ?_
      refine v_iload_n (pc' := 133) C 1 dL_acts_132 rfl rfl ?_
      refine v_iconst (pc' := 134) C (3) dL_acts_133 ic_3 rfl ?_
      refine v_irem (pc' := 135) C h dL_acts_134 rfl (fun q_32 h => ?_)
      refine v_callPi (pc' := 138) C h (rf := fun r9 => r9.1) (wT g aT zT_6 ++ wS g aD zD_9 ++ wF g aF zF_10) (fun r9 u9 => wQ aQ aT aN aV aD aF ++ wT g aT zT_6 ++ wS g aN r9.2.1 ++ wV g aV u9 r9.2.2 ++ wS g aD zD_9 ++ wF g aF zF_10) (fun r hr => run_V C (c_X5_setPolicy l g aQ aT aN aV aD aF _ _ _ _ r hr hra) gL_acts_X5_setPolicy rfl nd_X5_setPolicy rfl rfl rfl rfl ⟨Nat.le_of_ble_eq_true rfl, Nat.le_of_ble_eq_true rfl⟩ ⟨Nat.le_of_ble_eq_true rfl, Nat.le_of_ble_eq_true rfl⟩ (Nat.le_of_ble_eq_true rfl) dL_acts_135 rfl) [0, 4, 5, 6, 7, 8, 9] [1, 2, 3, 10, 11, 12, 13, 14, 15, 16, 17] [11, 0, 1, 2, 12, 13, 14, 15, 16, 17, 3, 4, 5, 6, 7, 8, 9, 10] rfl rfl rfl rfl (by decide) rfl (fun _ _ => rfl) (k' := 4) (n' := 75) rfl rfl rfl (fun r_33 ra_34 hra h => ?_)
      exact v_iret (rf := fun (o9 : Int32 × Tx × St × Sv × St × Fm) => o9.1) (Wf := fun (o9 : Int32 × Tx × St × Sv × St × Fm) (u9 : List RA) => (wQ aQ aT aN aV aD aF ++ wT g aT o9.2.1 ++ wS g aN o9.2.2.1 ++ wV g aV u9 o9.2.2.2.1 ++ wS g aD o9.2.2.2.2.1 ++ wF g aF o9.2.2.2.2.2) ++ wRing g u9 o9.2.2.2.1.1) (ok := fun (o9 : Int32 × Tx × St × Sv × St × Fm) (u9 : List RA) => u9.length = (o9.2.2.2.1.1).length) C Cr h hQ ra_34 hra rfl rfl dL_acts_138
    refine v_case C (4) 139 h dL_acts_23 (by decide) (by decide) rfl (by decide) (fun h => ?_) (fun hc4 h => ?_)
    · refine v_iload_n (pc' := 140) C 1 dL_acts_139 rfl rfl ?_
      refine v_iconst (pc' := 141) C (4) dL_acts_140 ic_4 rfl ?_
      refine v_irem (pc' := 142) C h dL_acts_141 rfl (fun q_35 h => ?_)
      refine v_if_ne C 152 145 h dL_acts_142 (by decide) rfl (fun _ h => ?_) (fun _ h => ?_)
      · refine v_aload_n (pc' := 153) C 0 dL_acts_152 rfl rfl ?_
        refine v_callPi (pc' := 156) C h (rf := fun r9 => r9.1) (wT g aT zT_6 ++ wS g aD zD_9 ++ wF g aF zF_10) (fun r9 u9 => wQ aQ aT aN aV aD aF ++ wT g aT zT_6 ++ wS g aN r9.2.1 ++ wV g aV u9 r9.2.2 ++ wS g aD zD_9 ++ wF g aF zF_10) (fun r hr => run_V C (c_X5_undo l g aQ aT aN aV aD aF _ _ _ r hr hra) gL_acts_X5_undo rfl nd_X5_undo rfl rfl rfl rfl ⟨Nat.le_of_ble_eq_true rfl, Nat.le_of_ble_eq_true rfl⟩ ⟨Nat.le_of_ble_eq_true rfl, Nat.le_of_ble_eq_true rfl⟩ (Nat.le_of_ble_eq_true rfl) dL_acts_153 rfl) [0, 4, 5, 6, 7, 8, 9] [1, 2, 3, 10, 11, 12, 13, 14, 15, 16, 17] [11, 0, 1, 2, 12, 13, 14, 15, 16, 17, 3, 4, 5, 6, 7, 8, 9, 10] rfl rfl rfl rfl (by decide) rfl (fun _ _ => rfl) (k' := 0) (n' := 0) rfl rfl rfl (fun r_36 ra_37 hra h => ?_)
        refine v_widen (k' := 4) (n' := 75) (Nat.le_of_ble_eq_true rfl) (Nat.le_of_ble_eq_true rfl) ?_
        exact v_iret (rf := fun (o9 : Int32 × Tx × St × Sv × St × Fm) => o9.1) (Wf := fun (o9 : Int32 × Tx × St × Sv × St × Fm) (u9 : List RA) => (wQ aQ aT aN aV aD aF ++ wT g aT o9.2.1 ++ wS g aN o9.2.2.1 ++ wV g aV u9 o9.2.2.2.1 ++ wS g aD o9.2.2.2.2.1 ++ wF g aF o9.2.2.2.2.2) ++ wRing g u9 o9.2.2.2.1.1) (ok := fun (o9 : Int32 × Tx × St × Sv × St × Fm) (u9 : List RA) => u9.length = (o9.2.2.2.1.1).length) C Cr h hQ ra_37 hra rfl rfl dL_acts_156
      · refine v_aload_n (pc' := 146) C 0 dL_acts_145 rfl rfl ?_
        refine v_callPi (pc' := 149) C h (rf := fun r9 => r9.1) (wT g aT zT_6 ++ wS g aD zD_9 ++ wF g aF zF_10) (fun r9 u9 => wQ aQ aT aN aV aD aF ++ wT g aT zT_6 ++ wS g aN r9.2.1 ++ wV g aV u9 r9.2.2 ++ wS g aD zD_9 ++ wF g aF zF_10) (fun r hr => run_V C (c_X5_giveUp l g aQ aT aN aV aD aF _ _ _ r hr hra) gL_acts_X5_giveUp rfl nd_X5_giveUp rfl rfl rfl rfl ⟨Nat.le_of_ble_eq_true rfl, Nat.le_of_ble_eq_true rfl⟩ ⟨Nat.le_of_ble_eq_true rfl, Nat.le_of_ble_eq_true rfl⟩ (Nat.le_of_ble_eq_true rfl) dL_acts_146 rfl) [0, 4, 5, 6, 7, 8, 9] [1, 2, 3, 10, 11, 12, 13, 14, 15, 16, 17] [11, 0, 1, 2, 12, 13, 14, 15, 16, 17, 3, 4, 5, 6, 7, 8, 9, 10] rfl rfl rfl rfl (by decide) rfl (fun _ _ => rfl) (k' := 4) (n' := 75) rfl rfl rfl (fun r_38 ra_39 hra h => ?_)
        refine v_goto C (pc' := 156) dL_acts_149 (by decide) ?_
        exact v_iret (rf := fun (o9 : Int32 × Tx × St × Sv × St × Fm) => o9.1) (Wf := fun (o9 : Int32 × Tx × St × Sv × St × Fm) (u9 : List RA) => (wQ aQ aT aN aV aD aF ++ wT g aT o9.2.1 ++ wS g aN o9.2.2.1 ++ wV g aV u9 o9.2.2.2.1 ++ wS g aD o9.2.2.2.2.1 ++ wF g aF o9.2.2.2.2.2) ++ wRing g u9 o9.2.2.2.1.1) (ok := fun (o9 : Int32 × Tx × St × Sv × St × Fm) (u9 : List RA) => u9.length = (o9.2.2.2.1.1).length) C Cr h hQ ra_39 hra rfl rfl dL_acts_156
    refine v_case C (5) 157 h dL_acts_23 (by decide) (by decide) rfl (by decide) (fun h => ?_) (fun hc5 h => ?_)
    · refine v_aload_n (pc' := 158) C 0 dL_acts_157 rfl rfl ?_
      refine v_calli (pc' := 161) C h (rf := fun r9 => r9.1) (wS g aN zN_7 ++ wV g aV ra_11 zV_8 ++ wS g aD zD_9 ++ wF g aF zF_10) (fun r9 (u9 : Unit) => wQ aQ aT aN aV aD aF ++ wT g aT r9.2 ++ wS g aN zN_7 ++ wV g aV ra_11 zV_8 ++ wS g aD zD_9 ++ wF g aF zF_10) (fun r hr => run_V C (c_X5_clearText l g aQ aT aN aV aD aF _ r hr) gL_acts_X5_clearText rfl nd_X5_clearText rfl rfl rfl rfl ⟨Nat.le_of_ble_eq_true rfl, Nat.le_of_ble_eq_true rfl⟩ ⟨Nat.le_of_ble_eq_true rfl, Nat.le_of_ble_eq_true rfl⟩ (Nat.le_of_ble_eq_true rfl) dL_acts_158 rfl) [0, 1, 2, 3] [4, 5, 6, 7, 8, 9, 10, 11, 12, 13, 14, 15, 16, 17] [14, 15, 16, 17, 0, 1, 2, 3, 4, 5, 6, 7, 8, 9, 10, 11, 12, 13] rfl rfl rfl rfl (by decide) rfl (fun _ _ => rfl) (k' := 0) (n' := 0) rfl rfl rfl (fun r_40 _ _ h => ?_)
      refine v_istore (pc' := 163) C [1, 2, 3, 0] (lv' := [(0, .ref aQ), (2, .int v2_4), (3, .int v3_5), (4, .int r_40.1)]) dL_acts_161 (Nat.le_of_ble_eq_true rfl) rfl rfl ?_
      refine v_iconst (pc' := 164) C (0) dL_acts_163 ic_0 rfl ?_
      refine v_istore (pc' := 166) C [1, 2, 3, 4, 0] (lv' := [(0, .ref aQ), (2, .int v2_4), (3, .int v3_5), (4, .int r_40.1), (5, .int (0 : Int32))]) dL_acts_164 (Nat.le_of_ble_eq_true rfl) rfl rfl ?_
      refine v_loop3 (fun (v4_41 : Int32) (v5_42 : Int32) (zT_43 : Tx) => V p l e rm_L_acts s m args below meth c g 6 A 0 0 Q (wQ aQ aT aN aV aD aF ++ wT g aT zT_43 ++ wS g aN zN_7 ++ wV g aV ra_11 zV_8 ++ wS g aD zD_9 ++ wF g aF zF_10) (wRing g ra_11 zV_8.1) [(0, .ref aQ), (2, .int v2_4), (3, .int v3_5), (4, .int v4_41), (5, .int v5_42)] 166 []) (fun re166 ih166 v4_41 v5_42 zT_43 h => ?_) r_40.1 (0 : Int32) r_40.2 h
      unfold f_L_acts_L166 at h
      refine v_iload (pc' := 168) C 4 dL_acts_166 rfl rfl ?_
      refine v_bipush (pc' := 170) C (8) dL_acts_168 bc_8 rfl ?_
      refine v_icmp_ge C 206 173 h dL_acts_170 (by decide) rfl (fun _ h => ?_) (fun _ h => ?_)
      · refine v_iload (pc' := 208) C 3 dL_acts_206 rfl rfl ?_
        refine v_if_ge C 216 211 h dL_acts_208 (by decide) rfl (fun _ h => ?_) (fun _ h => ?_)
        · refine v_aload_n (pc' := 217) C 0 dL_acts_216 rfl rfl ?_
          refine v_callPi (pc' := 220) C h (rf := fun r9 => r9.1) (wS g aD zD_9 ++ wF g aF zF_10) (fun r9 u9 => wQ aQ aT aN aV aD aF ++ wT g aT r9.2.1 ++ wS g aN r9.2.2.1 ++ wV g aV u9 r9.2.2.2 ++ wS g aD zD_9 ++ wF g aF zF_10) (fun r hr => run_V C (c_X5_guessWord l g aQ aT aN aV aD aF _ _ _ _ r hr hra) gL_acts_X5_guessWord rfl nd_X5_guessWord rfl rfl rfl rfl ⟨Nat.le_of_ble_eq_true rfl, Nat.le_of_ble_eq_true rfl⟩ ⟨Nat.le_of_ble_eq_true rfl, Nat.le_of_ble_eq_true rfl⟩ (Nat.le_of_ble_eq_true rfl) dL_acts_217 rfl) [0, 1, 2, 3, 4, 5, 6, 7, 8, 9] [10, 11, 12, 13, 14, 15, 16, 17] [8, 9, 10, 11, 12, 13, 14, 15, 16, 17, 0, 1, 2, 3, 4, 5, 6, 7] rfl rfl rfl rfl (by decide) rfl (fun _ _ => rfl) (k' := 4) (n' := 75) rfl rfl rfl (fun r_44 ra_45 hra h => ?_)
          exact v_iret (rf := fun (o9 : Int32 × Tx × St × Sv × St × Fm) => o9.1) (Wf := fun (o9 : Int32 × Tx × St × Sv × St × Fm) (u9 : List RA) => (wQ aQ aT aN aV aD aF ++ wT g aT o9.2.1 ++ wS g aN o9.2.2.1 ++ wV g aV u9 o9.2.2.2.1 ++ wS g aD o9.2.2.2.2.1 ++ wF g aF o9.2.2.2.2.2) ++ wRing g u9 o9.2.2.2.1.1) (ok := fun (o9 : Int32 × Tx × St × Sv × St × Fm) (u9 : List RA) => u9.length = (o9.2.2.2.1.1).length) C Cr h hQ ra_45 hra rfl rfl dL_acts_220
        · refine v_bipush (pc' := 213) C (-9) dL_acts_211 bc_m9 rfl ?_
          refine v_goto C (pc' := 220) dL_acts_213 (by decide) ?_
          refine v_widen (k' := 4) (n' := 75) (Nat.le_of_ble_eq_true rfl) (Nat.le_of_ble_eq_true rfl) ?_
          exact v_iret (rf := fun (o9 : Int32 × Tx × St × Sv × St × Fm) => o9.1) (Wf := fun (o9 : Int32 × Tx × St × Sv × St × Fm) (u9 : List RA) => (wQ aQ aT aN aV aD aF ++ wT g aT o9.2.1 ++ wS g aN o9.2.2.1 ++ wV g aV u9 o9.2.2.2.1 ++ wS g aD o9.2.2.2.2.1 ++ wF g aF o9.2.2.2.2.2) ++ wRing g u9 o9.2.2.2.1.1) (ok := fun (o9 : Int32 × Tx × St × Sv × St × Fm) (u9 : List RA) => u9.length = (o9.2.2.2.1.1).length) C Cr h hQ ra_11 hra rfl rfl dL_acts_220
      · refine v_aload_n (pc' := 174) C 0 dL_acts_173 rfl rfl ?_
        refine v_iload_n (pc' := 175) C 1 dL_acts_174 rfl rfl ?_
        refine v_iload_n (pc' := 176) C 2 dL_acts_175 rfl rfl ?_
        refine v_irem (pc' := 177) C h dL_acts_176 rfl (fun q_46 h => ?_)
        refine v_iload (pc' := 179) C 4 dL_acts_177 rfl rfl ?_
        refine v_calli (pc' := 182) C h (rf := fun r9 => r9) (wT g aT zT_43 ++ wV g aV ra_11 zV_8 ++ wS g aD zD_9 ++ wF g aF zF_10) (fun r9 (u9 : Unit) => wQ aQ aT aN aV aD aF ++ wT g aT zT_43 ++ wS g aN zN_7 ++ wV g aV ra_11 zV_8 ++ wS g aD zD_9 ++ wF g aF zF_10) (fun r hr => run_V C (c_X5_letterOf l g aQ aT aN aV aD aF _ _ _ r hr) gL_acts_X5_letterOf rfl nd_X5_letterOf rfl rfl rfl rfl ⟨Nat.le_of_ble_eq_true rfl, Nat.le_of_ble_eq_true rfl⟩ ⟨Nat.le_of_ble_eq_true rfl, Nat.le_of_ble_eq_true rfl⟩ (Nat.le_of_ble_eq_true rfl) dL_acts_179 rfl) [0, 4, 5, 6, 7] [1, 2, 3, 8, 9, 10, 11, 12, 13, 14, 15, 16, 17] [13, 0, 1, 2, 14, 15, 16, 17, 3, 4, 5, 6, 7, 8, 9, 10, 11, 12] rfl rfl rfl rfl (by decide) rfl (fun _ _ => rfl) (k' := 0) (n' := 0) rfl rfl rfl (fun r_47 _ _ h => ?_)
        refine v_if_le C 206 185 h dL_acts_182 (by decide) rfl (fun _ h => ?_) (fun _ h => ?_)
        · refine v_iload (pc' := 208) C 3 dL_acts_206 rfl rfl ?_
          refine v_if_ge C 216 211 h dL_acts_208 (by decide) rfl (fun _ h => ?_) (fun _ h => ?_)
          · refine v_aload_n (pc' := 217) C 0 dL_acts_216 rfl rfl ?_
            refine v_callPi (pc' := 220) C h (rf := fun r9 => r9.1) (wS g aD zD_9 ++ wF g aF zF_10) (fun r9 u9 => wQ aQ aT aN aV aD aF ++ wT g aT r9.2.1 ++ wS g aN r9.2.2.1 ++ wV g aV u9 r9.2.2.2 ++ wS g aD zD_9 ++ wF g aF zF_10) (fun r hr => run_V C (c_X5_guessWord l g aQ aT aN aV aD aF _ _ _ _ r hr hra) gL_acts_X5_guessWord rfl nd_X5_guessWord rfl rfl rfl rfl ⟨Nat.le_of_ble_eq_true rfl, Nat.le_of_ble_eq_true rfl⟩ ⟨Nat.le_of_ble_eq_true rfl, Nat.le_of_ble_eq_true rfl⟩ (Nat.le_of_ble_eq_true rfl) dL_acts_217 rfl) [0, 1, 2, 3, 4, 5, 6, 7, 8, 9] [10, 11, 12, 13, 14, 15, 16, 17] [8, 9, 10, 11, 12, 13, 14, 15, 16, 17, 0, 1, 2, 3, 4, 5, 6, 7] rfl rfl rfl rfl (by decide) rfl (fun _ _ => rfl) (k' := 4) (n' := 75) rfl rfl rfl (fun r_48 ra_49 hra h => ?_)
            exact v_iret (rf := fun (o9 : Int32 × Tx × St × Sv × St × Fm) => o9.1) (Wf := fun (o9 : Int32 × Tx × St × Sv × St × Fm) (u9 : List RA) => (wQ aQ aT aN aV aD aF ++ wT g aT o9.2.1 ++ wS g aN o9.2.2.1 ++ wV g aV u9 o9.2.2.2.1 ++ wS g aD o9.2.2.2.2.1 ++ wF g aF o9.2.2.2.2.2) ++ wRing g u9 o9.2.2.2.1.1) (ok := fun (o9 : Int32 × Tx × St × Sv × St × Fm) (u9 : List RA) => u9.length = (o9.2.2.2.1.1).length) C Cr h hQ ra_49 hra rfl rfl dL_acts_220
          · refine v_bipush (pc' := 213) C (-9) dL_acts_211 bc_m9 rfl ?_
            refine v_goto C (pc' := 220) dL_acts_213 (by decide) ?_
            refine v_widen (k' := 4) (n' := 75) (Nat.le_of_ble_eq_true rfl) (Nat.le_of_ble_eq_true rfl) ?_
            exact v_iret (rf := fun (o9 : Int32 × Tx × St × Sv × St × Fm) => o9.1) (Wf := fun (o9 : Int32 × Tx × St × Sv × St × Fm) (u9 : List RA) => (wQ aQ aT aN aV aD aF ++ wT g aT o9.2.1 ++ wS g aN o9.2.2.1 ++ wV g aV u9 o9.2.2.2.1 ++ wS g aD o9.2.2.2.2.1 ++ wF g aF o9.2.2.2.2.2) ++ wRing g u9 o9.2.2.2.1.1) (ok := fun (o9 : Int32 × Tx × St × Sv × St × Fm) (u9 : List RA) => u9.length = (o9.2.2.2.1.1).length) C Cr h hQ ra_11 hra rfl rfl dL_acts_220
        · refine v_aload_n (pc' := 186) C 0 dL_acts_185 rfl rfl ?_
          refine v_aload_n (pc' := 187) C 0 dL_acts_186 rfl rfl ?_
          refine v_iload_n (pc' := 188) C 1 dL_acts_187 rfl rfl ?_
          refine v_iload_n (pc' := 189) C 2 dL_acts_188 rfl rfl ?_
          refine v_irem (pc' := 190) C h dL_acts_189 rfl (fun q_50 h => ?_)
          refine v_iload (pc' := 192) C 4 dL_acts_190 rfl rfl ?_
          refine v_calli (pc' := 195) C h (rf := fun r9 => r9) (wT g aT zT_43 ++ wV g aV ra_11 zV_8 ++ wS g aD zD_9 ++ wF g aF zF_10) (fun r9 (u9 : Unit) => wQ aQ aT aN aV aD aF ++ wT g aT zT_43 ++ wS g aN zN_7 ++ wV g aV ra_11 zV_8 ++ wS g aD zD_9 ++ wF g aF zF_10) (fun r hr => run_V C (c_X5_letterOf l g aQ aT aN aV aD aF _ _ _ r hr) gL_acts_X5_letterOf rfl nd_X5_letterOf rfl rfl rfl rfl ⟨Nat.le_of_ble_eq_true rfl, Nat.le_of_ble_eq_true rfl⟩ ⟨Nat.le_of_ble_eq_true rfl, Nat.le_of_ble_eq_true rfl⟩ (Nat.le_of_ble_eq_true rfl) dL_acts_192 rfl) [0, 4, 5, 6, 7] [1, 2, 3, 8, 9, 10, 11, 12, 13, 14, 15, 16, 17] [13, 0, 1, 2, 14, 15, 16, 17, 3, 4, 5, 6, 7, 8, 9, 10, 11, 12] rfl rfl rfl rfl (by decide) rfl (fun _ _ => rfl) (k' := 0) (n' := 0) rfl rfl rfl (fun r_51 _ _ h => ?_)
          refine v_calli (pc' := 198) C h (rf := fun r9 => r9.1) (wS g aN zN_7 ++ wV g aV ra_11 zV_8 ++ wS g aD zD_9 ++ wF g aF zF_10) (fun r9 (u9 : Unit) => wQ aQ aT aN aV aD aF ++ wT g aT r9.2 ++ wS g aN zN_7 ++ wV g aV ra_11 zV_8 ++ wS g aD zD_9 ++ wF g aF zF_10) (fun r hr => run_V C (c_X5_type l g aQ aT aN aV aD aF _ _ r hr) gL_acts_X5_type rfl nd_X5_type rfl rfl rfl rfl ⟨Nat.le_of_ble_eq_true rfl, Nat.le_of_ble_eq_true rfl⟩ ⟨Nat.le_of_ble_eq_true rfl, Nat.le_of_ble_eq_true rfl⟩ (Nat.le_of_ble_eq_true rfl) dL_acts_195 rfl) [0, 1, 2, 3] [4, 5, 6, 7, 8, 9, 10, 11, 12, 13, 14, 15, 16, 17] [14, 15, 16, 17, 0, 1, 2, 3, 4, 5, 6, 7, 8, 9, 10, 11, 12, 13] rfl rfl rfl rfl (by decide) rfl (fun _ _ => rfl) (k' := 0) (n' := 0) rfl rfl rfl (fun r_52 _ _ h => ?_)
          refine v_istore (pc' := 200) C [1, 2, 3, 0, 4] (lv' := [(0, .ref aQ), (2, .int v2_4), (3, .int v3_5), (4, .int r_52.1), (5, .int v5_42)]) dL_acts_198 (Nat.le_of_ble_eq_true rfl) rfl rfl ?_
          refine v_iinc (pc' := 203) C 4 [1, 2, 3, 4, 0] (1) dL_acts_200 rfl ic_1 (Nat.le_of_ble_eq_true rfl) h (lw := fun v9 => [(0, .ref aQ), (2, .int v2_4), (3, .int v3_5), (4, .int r_52.1), (5, .int v9)]) (fun _ => rfl) rfl (fun v5_53 h => ?_)
          refine v_goto C (pc' := 166) dL_acts_203 (by decide) ?_
          exact ih166 r_52.1 v5_53 r_52.2 h
    refine v_case C (6) 221 h dL_acts_23 (by decide) (by decide) rfl (by decide) (fun h => ?_) (fun hc6 h => ?_)
    · refine v_lv [0, 1] (lv' := [(0, .ref aQ), (2, .int v2_4)]) rfl ?_
      exact J221 v2_4 zT_6 zN_7 zV_8 zD_9 zF_10 ra_11 hra h
    refine v_case C (7) 221 h dL_acts_23 (by decide) (by decide) rfl (by decide) (fun h => ?_) (fun hc7 h => ?_)
    · refine v_lv [0, 1] (lv' := [(0, .ref aQ), (2, .int v2_4)]) rfl ?_
      exact J221 v2_4 zT_6 zN_7 zV_8 zD_9 zF_10 ra_11 hra h
    refine v_dflt C 252 dL_acts_23 (sw_out s0_12 0 8 (by decide) (by intro i hi; match i, hi with | 0, _ => exact hc0 | 1, _ => exact hc1 | 2, _ => exact hc2 | 3, _ => exact hc3 | 4, _ => exact hc4 | 5, _ => exact hc5 | 6, _ => exact hc6 | 7, _ => exact hc7 | i + 8, hi => exact absurd hi (by omega))) (by decide) ?_
    refine v_aload_n (pc' := 253) C 0 dL_acts_252 rfl rfl ?_
    refine v_bipush (pc' := 255) C (97) dL_acts_253 bc_97 rfl ?_
    refine v_iload_n (pc' := 256) C 1 dL_acts_255 rfl rfl ?_
    refine v_bipush (pc' := 258) C (6) dL_acts_256 bc_6 rfl ?_
    refine v_irem (pc' := 259) C h dL_acts_258 rfl (fun q_72 h => ?_)
    refine v_iadd (pc' := 260) C dL_acts_259 rfl ?_
    refine v_callPi (pc' := 263) C h (rf := fun r9 => r9.1) (wT g aT zT_6 ++ wS g aD zD_9) (fun r9 u9 => wQ aQ aT aN aV aD aF ++ wT g aT zT_6 ++ wS g aN r9.2.1 ++ wV g aV u9 r9.2.2.1 ++ wS g aD zD_9 ++ wF g aF r9.2.2.2) (fun r hr => run_V C (c_X5_guess l g aQ aT aN aV aD aF _ _ _ _ _ r hr hra) gL_acts_X5_guess rfl nd_X5_guess rfl rfl rfl rfl ⟨Nat.le_of_ble_eq_true rfl, Nat.le_of_ble_eq_true rfl⟩ ⟨Nat.le_of_ble_eq_true rfl, Nat.le_of_ble_eq_true rfl⟩ (Nat.le_of_ble_eq_true rfl) dL_acts_260 rfl) [0, 4, 5, 6, 7, 8, 9, 14, 15, 16, 17] [1, 2, 3, 10, 11, 12, 13] [7, 0, 1, 2, 8, 9, 10, 11, 12, 13, 3, 4, 5, 6, 14, 15, 16, 17] rfl rfl rfl rfl (by decide) rfl (fun _ _ => rfl) (k' := 4) (n' := 75) rfl rfl rfl (fun r_73 ra_74 hra h => ?_)
    exact v_iret (rf := fun (o9 : Int32 × Tx × St × Sv × St × Fm) => o9.1) (Wf := fun (o9 : Int32 × Tx × St × Sv × St × Fm) (u9 : List RA) => (wQ aQ aT aN aV aD aF ++ wT g aT o9.2.1 ++ wS g aN o9.2.2.1 ++ wV g aV u9 o9.2.2.2.1 ++ wS g aD o9.2.2.2.2.1 ++ wF g aF o9.2.2.2.2.2) ++ wRing g u9 o9.2.2.2.1.1) (ok := fun (o9 : Int32 × Tx × St × Sv × St × Fm) (u9 : List RA) => u9.length = (o9.2.2.2.1.1).length) C Cr h hQ ra_74 hra rfl rfl dL_acts_263
  refine v_iload_n (pc' := 1) C 1 dL_acts_0 rfl rfl ?_
  refine v_bipush (pc' := 3) C (16) dL_acts_1 bc_16 rfl ?_
  refine v_idiv (pc' := 4) C h dL_acts_3 rfl (fun q_1 h => ?_)
  refine v_istore_n (pc' := 5) C [1, 2, 0] (lv' := [(0, .ref aQ), (1, .int p1), (2, .int q_1)]) dL_acts_4 (Nat.le_of_ble_eq_true rfl) rfl rfl ?_
  refine v_aload_n (pc' := 6) C 0 dL_acts_5 rfl rfl ?_
  refine v_calli (pc' := 9) C h (rf := fun r9 => r9) (wT g aT zT ++ wV g aV ra zV ++ wS g aD zD ++ wF g aF zF) (fun r9 (u9 : Unit) => wQ aQ aT aN aV aD aF ++ wT g aT zT ++ wS g aN zN ++ wV g aV ra zV ++ wS g aD zD ++ wF g aF zF) (fun r hr => run_V C (c_X5_words l g aQ aT aN aV aD aF _ r hr) gL_acts_X5_words rfl nd_X5_words rfl rfl rfl rfl ⟨Nat.le_of_ble_eq_true rfl, Nat.le_of_ble_eq_true rfl⟩ ⟨Nat.le_of_ble_eq_true rfl, Nat.le_of_ble_eq_true rfl⟩ (Nat.le_of_ble_eq_true rfl) dL_acts_6 rfl) [0, 4, 5, 6, 7] [1, 2, 3, 8, 9, 10, 11, 12, 13, 14, 15, 16, 17] [13, 0, 1, 2, 14, 15, 16, 17, 3, 4, 5, 6, 7, 8, 9, 10, 11, 12] rfl rfl rfl rfl (by decide) rfl (fun _ _ => rfl) (k' := 0) (n' := 0) rfl rfl rfl (fun r_2 _ _ h => ?_)
  refine v_istore_n (pc' := 10) C [1, 2, 3, 0] (lv' := [(0, .ref aQ), (1, .int p1), (2, .int q_1), (3, .int r_2)]) dL_acts_9 (Nat.le_of_ble_eq_true rfl) rfl rfl ?_
  refine v_iload_n (pc' := 11) C 3 dL_acts_10 rfl rfl ?_
  refine v_iconst (pc' := 12) C (3) dL_acts_11 ic_3 rfl ?_
  refine v_icmp_ge C 19 15 h dL_acts_12 (by decide) rfl (fun _ h => ?_) (fun _ h => ?_)
  · refine v_iload_n (pc' := 20) C 1 dL_acts_19 rfl rfl ?_
    refine v_bipush (pc' := 22) C (16) dL_acts_20 bc_16 rfl ?_
    refine v_irem (pc' := 23) C h dL_acts_22 rfl (fun q_3 h => ?_)
    refine v_lv [0, 2, 3] (lv' := [(0, .ref aQ), (2, .int q_1), (3, .int r_2)]) rfl ?_
    exact J23 q_1 r_2 zT zN zV zD zF q_3 ra hra h
  · refine v_iconst (pc' := 16) C (0) dL_acts_15 ic_0 rfl ?_
    refine v_goto C (pc' := 23) dL_acts_16 (by decide) ?_
    refine v_lv [0, 2, 3] (lv' := [(0, .ref aQ), (2, .int q_1), (3, .int r_2)]) rfl ?_
    exact J23 q_1 r_2 zT zN zV zD zF (0 : Int32) ra hra h
def f_L_refuses_J304  (zT_16 : Tx) (zN_17 : St) (zV_18 : Sv) (zF_19 : Fm) : Option (Int32 × Tx × St × Sv × Fm) :=
  Option.bind (f_X5_guesses zN_17) fun r_21 =>
  if r_21 = 0 then some ((1 : Int32), zT_16, zN_17, zV_18, zF_19)
  else Option.bind (f_X5_status zN_17) fun r_22 =>
  if r_22 = (1 : Int32) then Option.bind (f_X5_guessAt zN_17 (0 : Int32)) fun r_23 =>
  Option.bind (f_X5_guess zN_17 zV_18 zF_19 r_23) fun r_24 =>
  if r_24.1 = (-6 : Int32) then some ((1 : Int32), zT_16, r_24.2.1, r_24.2.2.1, r_24.2.2.2)
  else some ((0 : Int32), zT_16, r_24.2.1, r_24.2.2.1, r_24.2.2.2)
  else some ((1 : Int32), zT_16, zN_17, zV_18, zF_19)
def f_L_refuses_J257  (zT_9 : Tx) (zN_10 : St) (zV_11 : Sv) (zF_12 : Fm) (s0_14 : Int32) : Option (Int32 × Tx × St × Sv × Fm) :=
  if s0_14 = 0 then some ((0 : Int32), zT_9, zN_10, zV_11, zF_12)
  else Option.bind (f_X5_status zN_10) fun r_15 =>
  if r_15 = (1 : Int32) then f_L_refuses_J304  zT_9 zN_10 zV_11 zF_12
  else Option.bind (f_X5_guess zN_10 zV_11 zF_12 (97 : Int32)) fun r_26 =>
  if r_26.1 = (-3 : Int32) then Option.bind (f_X5_giveUp r_26.2.1 r_26.2.2.1) fun r_28 =>
  if r_28.1 = (-3 : Int32) then Option.bind (f_X5_family r_28.2.1 r_26.2.2.2 (97 : Int32) (-1 : Int32) (9 : Int32)) fun r_30 =>
  if r_30.1 = (-3 : Int32) then f_L_refuses_J304  zT_9 r_28.2.1 r_28.2.2 r_30.2
  else some ((0 : Int32), zT_9, r_28.2.1, r_28.2.2, r_30.2)
  else some ((0 : Int32), zT_9, r_28.2.1, r_28.2.2, r_26.2.2.2)
  else some ((0 : Int32), zT_9, r_26.2.1, r_26.2.2.1, r_26.2.2.2)
def f_L_refuses_J256  (zT_4 : Tx) (zN_5 : St) (zV_6 : Sv) (zF_7 : Fm) : Option (Int32 × Tx × St × Sv × Fm) :=
  f_L_refuses_J257  zT_4 zN_5 zV_6 zF_7 (0 : Int32)
def f_L_refuses (zT : Tx) (zN : St) (zV : Sv) (zF : Fm) (p1 : Int32) : Option (Int32 × Tx × St × Sv × Fm) :=
  Option.bind (f_X5_words zN) fun r_1 =>
  Option.bind (f_X5_removeWord zN zV (r_1 + p1)) fun r_2 =>
  if r_2.1 = (-1 : Int32) then Option.bind (f_X5_removeWord r_2.2.1 r_2.2.2 ((-1 : Int32) - p1)) fun r_31 =>
  if r_31.1 = (-1 : Int32) then Option.bind (f_X5_letterOf r_31.2.1 (r_1 + p1) (0 : Int32)) fun r_33 =>
  if r_33 = (-1 : Int32) then Option.bind (f_X5_letterOf r_31.2.1 (0 : Int32) ((-1 : Int32) - p1)) fun r_34 =>
  if r_34 = (-1 : Int32) then Option.bind (f_X5_setPolicy r_31.2.1 r_31.2.2 ((3 : Int32) + p1)) fun r_35 =>
  if r_35.1 = (-2 : Int32) then Option.bind (f_X5_setPolicy r_35.2.1 r_35.2.2 ((-1 : Int32) - p1)) fun r_37 =>
  if r_37.1 = (-2 : Int32) then Option.bind (f_X5_start r_37.2.1 r_37.2.2 ((9 : Int32) + p1) (1 : Int32)) fun r_39 =>
  if r_39.1 = (-2 : Int32) then Option.bind (f_X5_start r_39.2.1 r_39.2.2 (1 : Int32) (1 : Int32)) fun r_41 =>
  if r_41.1 = (-2 : Int32) then Option.bind (f_X5_start r_41.2.1 r_41.2.2 (4 : Int32) (0 : Int32)) fun r_43 =>
  if r_43.1 = (-2 : Int32) then Option.bind (f_X5_start r_43.2.1 r_43.2.2 (4 : Int32) ((21 : Int32) + p1)) fun r_45 =>
  if r_45.1 = (-2 : Int32) then Option.bind (f_X5_guess r_45.2.1 r_45.2.2 zF ((123 : Int32) + p1)) fun r_47 =>
  if r_47.1 = (-2 : Int32) then Option.bind (f_X5_guess r_47.2.1 r_47.2.2.1 r_47.2.2.2 ((96 : Int32) - p1)) fun r_49 =>
  if r_49.1 = (-2 : Int32) then Option.bind (f_X5_families r_49.2.1 r_49.2.2.2 ((96 : Int32) - p1)) fun r_51 =>
  if r_51.1 = (-2 : Int32) then Option.bind (f_X5_family r_49.2.1 r_51.2 ((123 : Int32) + p1) (0 : Int32) (0 : Int32)) fun r_52 =>
  if r_52.1 = (-2 : Int32) then Option.bind (f_X5_spread r_49.2.1 r_52.2 (96 : Int32)) fun r_53 =>
  if r_53.1 = (-2 : Int32) then Option.bind (f_X5_having r_49.2.1 (123 : Int32)) fun r_54 =>
  if r_54 = (-2 : Int32) then Option.bind (f_X5_total r_49.2.1 ((7 : Int32) + p1)) fun r_55 =>
  if r_55 = (-2 : Int32) then Option.bind (f_X5_total r_49.2.1 ((-1 : Int32) - p1)) fun r_56 =>
  if r_56 = (-2 : Int32) then Option.bind (f_X5_type zT ((32 : Int32) - p1)) fun r_57 =>
  if r_57.1 = (-2 : Int32) then Option.bind (f_X5_type r_57.2 ((127 : Int32) + p1)) fun r_58 =>
  if r_58.1 = (-2 : Int32) then f_L_refuses_J257  r_58.2 r_49.2.1 r_49.2.2.1 r_53.2 (1 : Int32)
  else f_L_refuses_J256  r_58.2 r_49.2.1 r_49.2.2.1 r_53.2
  else f_L_refuses_J256  r_57.2 r_49.2.1 r_49.2.2.1 r_53.2
  else f_L_refuses_J256  zT r_49.2.1 r_49.2.2.1 r_53.2
  else f_L_refuses_J256  zT r_49.2.1 r_49.2.2.1 r_53.2
  else f_L_refuses_J256  zT r_49.2.1 r_49.2.2.1 r_53.2
  else f_L_refuses_J256  zT r_49.2.1 r_49.2.2.1 r_53.2
  else f_L_refuses_J256  zT r_49.2.1 r_49.2.2.1 r_52.2
  else f_L_refuses_J256  zT r_49.2.1 r_49.2.2.1 r_51.2
  else f_L_refuses_J256  zT r_49.2.1 r_49.2.2.1 r_49.2.2.2
  else f_L_refuses_J256  zT r_47.2.1 r_47.2.2.1 r_47.2.2.2
  else f_L_refuses_J256  zT r_45.2.1 r_45.2.2 zF
  else f_L_refuses_J256  zT r_43.2.1 r_43.2.2 zF
  else f_L_refuses_J256  zT r_41.2.1 r_41.2.2 zF
  else f_L_refuses_J256  zT r_39.2.1 r_39.2.2 zF
  else f_L_refuses_J256  zT r_37.2.1 r_37.2.2 zF
  else f_L_refuses_J256  zT r_35.2.1 r_35.2.2 zF
  else f_L_refuses_J256  zT r_31.2.1 r_31.2.2 zF
  else f_L_refuses_J256  zT r_31.2.1 r_31.2.2 zF
  else f_L_refuses_J256  zT r_31.2.1 r_31.2.2 zF
  else f_L_refuses_J256  zT r_2.2.1 r_2.2.2 zF
abbrev rm_L_refuses : Room := { frames := 6, cells := 52, slots := 975, locals := 138 }
theorem nd_L_refuses : yL_refuses.cls ≠ "java/lang/invoke/MethodHandle" ∧ yL_refuses.cls ≠ "java/lang/invoke/VarHandle" ∧ (parseMethodDescriptor yL_refuses.desc).map (fun d => d.parameters.length) = some 2 := by decide +kernel
set_option maxHeartbeats 4000000 in
set_option maxRecDepth 100000 in
theorem c_L_refuses (l : Launch) (g : Gv) (aQ : Nat) (aT : A3) (aN : RA) (aV : A2) (aD aF : RA) (ra : List RA) (zT : Tx) (zN : St) (zV : Sv) (zF : Fm) (p1 : Int32) (o : Int32 × Tx × St × Sv × Fm) (h : f_L_refuses zT zN zV zF p1 = some o) (hra : ra.length = (zV.1).length) : Ct l g yL_refuses wsL_refuses rm_L_refuses [.ref aQ, .int p1] ((wQ aQ aT aN aV aD aF ++ wT g aT zT ++ wS g aN zN ++ wV g aV ra zV ++ wF g aF zF) ++ wRing g ra zV.1) (Qi g o.1 (fun u : List RA => (wQ aQ aT aN aV aD aF ++ wT g aT o.2.1 ++ wS g aN o.2.2.1 ++ wV g aV u o.2.2.2.1 ++ wF g aF o.2.2.2.2) ++ wRing g u o.2.2.2.1.1) (fun u => u.length = (o.2.2.2.1.1).length)) := by
  refine enter (ret := (some .boolean)) (X := wQ aQ aT aN aV aD aF ++ wT g aT zT ++ wS g aN zN ++ wV g aV ra zV ++ wF g aF zF) (pl := (wRing g ra zV.1)) pn_L rfl (Nat.le_of_ble_eq_true rfl) (rfl) ?_
  intro p e s m args below meth c A Q C Cr hin hQ
  unfold f_L_refuses at h
  have J304 : ∀ (zT_16 : Tx) (zN_17 : St) (zV_18 : Sv) (zF_19 : Fm) (ra_20 : List RA) (hra : ra_20.length = (zV_18.1).length), f_L_refuses_J304  zT_16 zN_17 zV_18 zF_19 = some o → V p l e rm_L_refuses s m args below meth c g 4 A 48 900 Q (wQ aQ aT aN aV aD aF ++ wT g aT zT_16 ++ wS g aN zN_17 ++ wV g aV ra_20 zV_18 ++ wF g aF zF_19) (wRing g ra_20 zV_18.1) [(0, .ref aQ)] 304 [] := by
    intro zT_16 zN_17 zV_18 zF_19 ra_20 hra h
    unfold f_L_refuses_J304 at h
    refine v_aload_n (pc' := 305) C 0 dL_refuses_304 rfl rfl ?_
    refine v_calli (pc' := 308) C h (rf := fun r9 => r9) (wT g aT zT_16 ++ wV g aV ra_20 zV_18 ++ wF g aF zF_19) (fun r9 (u9 : Unit) => wQ aQ aT aN aV aD aF ++ wT g aT zT_16 ++ wS g aN zN_17 ++ wV g aV ra_20 zV_18 ++ wF g aF zF_19) (fun r hr => run_V C (c_X5_guesses l g aQ aT aN aV aD aF _ r hr) gL_refuses_X5_guesses rfl nd_X5_guesses rfl rfl rfl rfl ⟨Nat.le_of_ble_eq_true rfl, Nat.le_of_ble_eq_true rfl⟩ ⟨Nat.le_of_ble_eq_true rfl, Nat.le_of_ble_eq_true rfl⟩ (Nat.le_of_ble_eq_true rfl) dL_refuses_305 rfl) [0, 4, 5, 6, 7] [1, 2, 3, 8, 9, 10, 11, 12, 13] [9, 0, 1, 2, 10, 11, 12, 13, 3, 4, 5, 6, 7, 8] rfl rfl rfl rfl (by decide) rfl (fun _ _ => rfl) (k' := 48) (n' := 900) rfl rfl rfl (fun r_21 _ _ h => ?_)
    refine v_if_eq C 333 311 h dL_refuses_308 (by decide) rfl (fun _ h => ?_) (fun _ h => ?_)
    · refine v_iconst (pc' := 334) C (1) dL_refuses_333 ic_1 rfl ?_
      refine v_goto C (pc' := 338) dL_refuses_334 (by decide) ?_
      refine v_widen (k' := 52) (n' := 975) (Nat.le_of_ble_eq_true rfl) (Nat.le_of_ble_eq_true rfl) ?_
      exact v_zret (rf := fun (o9 : Int32 × Tx × St × Sv × Fm) => o9.1) (Wf := fun (o9 : Int32 × Tx × St × Sv × Fm) (u9 : List RA) => (wQ aQ aT aN aV aD aF ++ wT g aT o9.2.1 ++ wS g aN o9.2.2.1 ++ wV g aV u9 o9.2.2.2.1 ++ wF g aF o9.2.2.2.2) ++ wRing g u9 o9.2.2.2.1.1) (ok := fun (o9 : Int32 × Tx × St × Sv × Fm) (u9 : List RA) => u9.length = (o9.2.2.2.1.1).length) C Cr h hQ ra_20 hra rfl rfl (Or.inr rfl) dL_refuses_338
    · refine v_aload_n (pc' := 312) C 0 dL_refuses_311 rfl rfl ?_
      refine v_calli (pc' := 315) C h (rf := fun r9 => r9) (wT g aT zT_16 ++ wV g aV ra_20 zV_18 ++ wF g aF zF_19) (fun r9 (u9 : Unit) => wQ aQ aT aN aV aD aF ++ wT g aT zT_16 ++ wS g aN zN_17 ++ wV g aV ra_20 zV_18 ++ wF g aF zF_19) (fun r hr => run_V C (c_X5_status l g aQ aT aN aV aD aF _ r hr) gL_refuses_X5_status rfl nd_X5_status rfl rfl rfl rfl ⟨Nat.le_of_ble_eq_true rfl, Nat.le_of_ble_eq_true rfl⟩ ⟨Nat.le_of_ble_eq_true rfl, Nat.le_of_ble_eq_true rfl⟩ (Nat.le_of_ble_eq_true rfl) dL_refuses_312 rfl) [0, 4, 5, 6, 7] [1, 2, 3, 8, 9, 10, 11, 12, 13] [9, 0, 1, 2, 10, 11, 12, 13, 3, 4, 5, 6, 7, 8] rfl rfl rfl rfl (by decide) rfl (fun _ _ => rfl) (k' := 48) (n' := 900) rfl rfl rfl (fun r_22 _ _ h => ?_)
      refine v_iconst (pc' := 316) C (1) dL_refuses_315 ic_1 rfl ?_
      refine v_icmp_ne C 333 319 h dL_refuses_316 (by decide) rfl (fun _ h => ?_) (fun _ h => ?_)
      · refine v_iconst (pc' := 334) C (1) dL_refuses_333 ic_1 rfl ?_
        refine v_goto C (pc' := 338) dL_refuses_334 (by decide) ?_
        refine v_widen (k' := 52) (n' := 975) (Nat.le_of_ble_eq_true rfl) (Nat.le_of_ble_eq_true rfl) ?_
        exact v_zret (rf := fun (o9 : Int32 × Tx × St × Sv × Fm) => o9.1) (Wf := fun (o9 : Int32 × Tx × St × Sv × Fm) (u9 : List RA) => (wQ aQ aT aN aV aD aF ++ wT g aT o9.2.1 ++ wS g aN o9.2.2.1 ++ wV g aV u9 o9.2.2.2.1 ++ wF g aF o9.2.2.2.2) ++ wRing g u9 o9.2.2.2.1.1) (ok := fun (o9 : Int32 × Tx × St × Sv × Fm) (u9 : List RA) => u9.length = (o9.2.2.2.1.1).length) C Cr h hQ ra_20 hra rfl rfl (Or.inr rfl) dL_refuses_338
      · refine v_aload_n (pc' := 320) C 0 dL_refuses_319 rfl rfl ?_
        refine v_aload_n (pc' := 321) C 0 dL_refuses_320 rfl rfl ?_
        refine v_iconst (pc' := 322) C (0) dL_refuses_321 ic_0 rfl ?_
        refine v_calli (pc' := 325) C h (rf := fun r9 => r9) (wT g aT zT_16 ++ wV g aV ra_20 zV_18 ++ wF g aF zF_19) (fun r9 (u9 : Unit) => wQ aQ aT aN aV aD aF ++ wT g aT zT_16 ++ wS g aN zN_17 ++ wV g aV ra_20 zV_18 ++ wF g aF zF_19) (fun r hr => run_V C (c_X5_guessAt l g aQ aT aN aV aD aF _ _ r hr) gL_refuses_X5_guessAt rfl nd_X5_guessAt rfl rfl rfl rfl ⟨Nat.le_of_ble_eq_true rfl, Nat.le_of_ble_eq_true rfl⟩ ⟨Nat.le_of_ble_eq_true rfl, Nat.le_of_ble_eq_true rfl⟩ (Nat.le_of_ble_eq_true rfl) dL_refuses_322 rfl) [0, 4, 5, 6, 7] [1, 2, 3, 8, 9, 10, 11, 12, 13] [9, 0, 1, 2, 10, 11, 12, 13, 3, 4, 5, 6, 7, 8] rfl rfl rfl rfl (by decide) rfl (fun _ _ => rfl) (k' := 48) (n' := 900) rfl rfl rfl (fun r_23 _ _ h => ?_)
        refine v_callPi (pc' := 328) C h (rf := fun r9 => r9.1) (wT g aT zT_16) (fun r9 u9 => wQ aQ aT aN aV aD aF ++ wT g aT zT_16 ++ wS g aN r9.2.1 ++ wV g aV u9 r9.2.2.1 ++ wF g aF r9.2.2.2) (fun r hr => run_V C (c_X5_guess l g aQ aT aN aV aD aF _ _ _ _ _ r hr hra) gL_refuses_X5_guess rfl nd_X5_guess rfl rfl rfl rfl ⟨Nat.le_of_ble_eq_true rfl, Nat.le_of_ble_eq_true rfl⟩ ⟨Nat.le_of_ble_eq_true rfl, Nat.le_of_ble_eq_true rfl⟩ (Nat.le_of_ble_eq_true rfl) dL_refuses_325 rfl) [0, 4, 5, 6, 7, 8, 9, 10, 11, 12, 13] [1, 2, 3] [3, 0, 1, 2, 4, 5, 6, 7, 8, 9, 10, 11, 12, 13] rfl rfl rfl rfl (by decide) rfl (fun _ _ => rfl) (k' := 52) (n' := 975) rfl rfl rfl (fun r_24 ra_25 hra h => ?_)
        refine v_bipush (pc' := 330) C (-6) dL_refuses_328 bc_m6 rfl ?_
        refine v_icmp_ne C 337 333 h dL_refuses_330 (by decide) rfl (fun _ h => ?_) (fun _ h => ?_)
        · refine v_iconst (pc' := 338) C (0) dL_refuses_337 ic_0 rfl ?_
          exact v_zret (rf := fun (o9 : Int32 × Tx × St × Sv × Fm) => o9.1) (Wf := fun (o9 : Int32 × Tx × St × Sv × Fm) (u9 : List RA) => (wQ aQ aT aN aV aD aF ++ wT g aT o9.2.1 ++ wS g aN o9.2.2.1 ++ wV g aV u9 o9.2.2.2.1 ++ wF g aF o9.2.2.2.2) ++ wRing g u9 o9.2.2.2.1.1) (ok := fun (o9 : Int32 × Tx × St × Sv × Fm) (u9 : List RA) => u9.length = (o9.2.2.2.1.1).length) C Cr h hQ ra_25 hra rfl rfl (Or.inl rfl) dL_refuses_338
        · refine v_iconst (pc' := 334) C (1) dL_refuses_333 ic_1 rfl ?_
          refine v_goto C (pc' := 338) dL_refuses_334 (by decide) ?_
          exact v_zret (rf := fun (o9 : Int32 × Tx × St × Sv × Fm) => o9.1) (Wf := fun (o9 : Int32 × Tx × St × Sv × Fm) (u9 : List RA) => (wQ aQ aT aN aV aD aF ++ wT g aT o9.2.1 ++ wS g aN o9.2.2.1 ++ wV g aV u9 o9.2.2.2.1 ++ wF g aF o9.2.2.2.2) ++ wRing g u9 o9.2.2.2.1.1) (ok := fun (o9 : Int32 × Tx × St × Sv × Fm) (u9 : List RA) => u9.length = (o9.2.2.2.1.1).length) C Cr h hQ ra_25 hra rfl rfl (Or.inr rfl) dL_refuses_338
  have J257 : ∀ (zT_9 : Tx) (zN_10 : St) (zV_11 : Sv) (zF_12 : Fm) (s0_14 : Int32) (ra_13 : List RA) (hra : ra_13.length = (zV_11.1).length), f_L_refuses_J257  zT_9 zN_10 zV_11 zF_12 s0_14 = some o → V p l e rm_L_refuses s m args below meth c g 4 A 40 750 Q (wQ aQ aT aN aV aD aF ++ wT g aT zT_9 ++ wS g aN zN_10 ++ wV g aV ra_13 zV_11 ++ wF g aF zF_12) (wRing g ra_13 zV_11.1) [(0, .ref aQ)] 257 [.int s0_14] := by
    intro zT_9 zN_10 zV_11 zF_12 s0_14 ra_13 hra h
    unfold f_L_refuses_J257 at h
    refine v_istore_n (pc' := 258) C [1, 0] (lv' := [(0, .ref aQ), (3, .int s0_14)]) dL_refuses_257 (Nat.le_of_ble_eq_true rfl) rfl rfl ?_
    refine v_iload_n (pc' := 259) C 1 dL_refuses_258 rfl rfl ?_
    refine v_if_eq C 337 262 h dL_refuses_259 (by decide) rfl (fun _ h => ?_) (fun _ h => ?_)
    · refine v_iconst (pc' := 338) C (0) dL_refuses_337 ic_0 rfl ?_
      refine v_widen (k' := 52) (n' := 975) (Nat.le_of_ble_eq_true rfl) (Nat.le_of_ble_eq_true rfl) ?_
      exact v_zret (rf := fun (o9 : Int32 × Tx × St × Sv × Fm) => o9.1) (Wf := fun (o9 : Int32 × Tx × St × Sv × Fm) (u9 : List RA) => (wQ aQ aT aN aV aD aF ++ wT g aT o9.2.1 ++ wS g aN o9.2.2.1 ++ wV g aV u9 o9.2.2.2.1 ++ wF g aF o9.2.2.2.2) ++ wRing g u9 o9.2.2.2.1.1) (ok := fun (o9 : Int32 × Tx × St × Sv × Fm) (u9 : List RA) => u9.length = (o9.2.2.2.1.1).length) C Cr h hQ ra_13 hra rfl rfl (Or.inl rfl) dL_refuses_338
    · refine v_aload_n (pc' := 263) C 0 dL_refuses_262 rfl rfl ?_
      refine v_calli (pc' := 266) C h (rf := fun r9 => r9) (wT g aT zT_9 ++ wV g aV ra_13 zV_11 ++ wF g aF zF_12) (fun r9 (u9 : Unit) => wQ aQ aT aN aV aD aF ++ wT g aT zT_9 ++ wS g aN zN_10 ++ wV g aV ra_13 zV_11 ++ wF g aF zF_12) (fun r hr => run_V C (c_X5_status l g aQ aT aN aV aD aF _ r hr) gL_refuses_X5_status rfl nd_X5_status rfl rfl rfl rfl ⟨Nat.le_of_ble_eq_true rfl, Nat.le_of_ble_eq_true rfl⟩ ⟨Nat.le_of_ble_eq_true rfl, Nat.le_of_ble_eq_true rfl⟩ (Nat.le_of_ble_eq_true rfl) dL_refuses_263 rfl) [0, 4, 5, 6, 7] [1, 2, 3, 8, 9, 10, 11, 12, 13] [9, 0, 1, 2, 10, 11, 12, 13, 3, 4, 5, 6, 7, 8] rfl rfl rfl rfl (by decide) rfl (fun _ _ => rfl) (k' := 40) (n' := 750) rfl rfl rfl (fun r_15 _ _ h => ?_)
      refine v_iconst (pc' := 267) C (1) dL_refuses_266 ic_1 rfl ?_
      refine v_icmp_eq C 304 270 h dL_refuses_267 (by decide) rfl (fun _ h => ?_) (fun _ h => ?_)
      · refine v_lv [0] (lv' := [(0, .ref aQ)]) rfl ?_
        refine v_widen (k' := 48) (n' := 900) (Nat.le_of_ble_eq_true rfl) (Nat.le_of_ble_eq_true rfl) ?_
        exact J304 zT_9 zN_10 zV_11 zF_12 ra_13 hra h
      · refine v_aload_n (pc' := 271) C 0 dL_refuses_270 rfl rfl ?_
        refine v_bipush (pc' := 273) C (97) dL_refuses_271 bc_97 rfl ?_
        refine v_callPi (pc' := 276) C h (rf := fun r9 => r9.1) (wT g aT zT_9) (fun r9 u9 => wQ aQ aT aN aV aD aF ++ wT g aT zT_9 ++ wS g aN r9.2.1 ++ wV g aV u9 r9.2.2.1 ++ wF g aF r9.2.2.2) (fun r hr => run_V C (c_X5_guess l g aQ aT aN aV aD aF _ _ _ _ _ r hr hra) gL_refuses_X5_guess rfl nd_X5_guess rfl rfl rfl rfl ⟨Nat.le_of_ble_eq_true rfl, Nat.le_of_ble_eq_true rfl⟩ ⟨Nat.le_of_ble_eq_true rfl, Nat.le_of_ble_eq_true rfl⟩ (Nat.le_of_ble_eq_true rfl) dL_refuses_273 rfl) [0, 4, 5, 6, 7, 8, 9, 10, 11, 12, 13] [1, 2, 3] [3, 0, 1, 2, 4, 5, 6, 7, 8, 9, 10, 11, 12, 13] rfl rfl rfl rfl (by decide) rfl (fun _ _ => rfl) (k' := 44) (n' := 825) rfl rfl rfl (fun r_26 ra_27 hra h => ?_)
        refine v_bipush (pc' := 278) C (-3) dL_refuses_276 bc_m3 rfl ?_
        refine v_icmp_ne C 337 281 h dL_refuses_278 (by decide) rfl (fun _ h => ?_) (fun _ h => ?_)
        · refine v_iconst (pc' := 338) C (0) dL_refuses_337 ic_0 rfl ?_
          refine v_widen (k' := 52) (n' := 975) (Nat.le_of_ble_eq_true rfl) (Nat.le_of_ble_eq_true rfl) ?_
          exact v_zret (rf := fun (o9 : Int32 × Tx × St × Sv × Fm) => o9.1) (Wf := fun (o9 : Int32 × Tx × St × Sv × Fm) (u9 : List RA) => (wQ aQ aT aN aV aD aF ++ wT g aT o9.2.1 ++ wS g aN o9.2.2.1 ++ wV g aV u9 o9.2.2.2.1 ++ wF g aF o9.2.2.2.2) ++ wRing g u9 o9.2.2.2.1.1) (ok := fun (o9 : Int32 × Tx × St × Sv × Fm) (u9 : List RA) => u9.length = (o9.2.2.2.1.1).length) C Cr h hQ ra_27 hra rfl rfl (Or.inl rfl) dL_refuses_338
        · refine v_aload_n (pc' := 282) C 0 dL_refuses_281 rfl rfl ?_
          refine v_callPi (pc' := 285) C h (rf := fun r9 => r9.1) (wT g aT zT_9 ++ wF g aF r_26.2.2.2) (fun r9 u9 => wQ aQ aT aN aV aD aF ++ wT g aT zT_9 ++ wS g aN r9.2.1 ++ wV g aV u9 r9.2.2 ++ wF g aF r_26.2.2.2) (fun r hr => run_V C (c_X5_giveUp l g aQ aT aN aV aD aF _ _ _ r hr hra) gL_refuses_X5_giveUp rfl nd_X5_giveUp rfl rfl rfl rfl ⟨Nat.le_of_ble_eq_true rfl, Nat.le_of_ble_eq_true rfl⟩ ⟨Nat.le_of_ble_eq_true rfl, Nat.le_of_ble_eq_true rfl⟩ (Nat.le_of_ble_eq_true rfl) dL_refuses_282 rfl) [0, 4, 5, 6, 7, 8, 9] [1, 2, 3, 10, 11, 12, 13] [7, 0, 1, 2, 8, 9, 10, 11, 12, 13, 3, 4, 5, 6] rfl rfl rfl rfl (by decide) rfl (fun _ _ => rfl) (k' := 48) (n' := 900) rfl rfl rfl (fun r_28 ra_29 hra h => ?_)
          refine v_bipush (pc' := 287) C (-3) dL_refuses_285 bc_m3 rfl ?_
          refine v_icmp_ne C 337 290 h dL_refuses_287 (by decide) rfl (fun _ h => ?_) (fun _ h => ?_)
          · refine v_iconst (pc' := 338) C (0) dL_refuses_337 ic_0 rfl ?_
            refine v_widen (k' := 52) (n' := 975) (Nat.le_of_ble_eq_true rfl) (Nat.le_of_ble_eq_true rfl) ?_
            exact v_zret (rf := fun (o9 : Int32 × Tx × St × Sv × Fm) => o9.1) (Wf := fun (o9 : Int32 × Tx × St × Sv × Fm) (u9 : List RA) => (wQ aQ aT aN aV aD aF ++ wT g aT o9.2.1 ++ wS g aN o9.2.2.1 ++ wV g aV u9 o9.2.2.2.1 ++ wF g aF o9.2.2.2.2) ++ wRing g u9 o9.2.2.2.1.1) (ok := fun (o9 : Int32 × Tx × St × Sv × Fm) (u9 : List RA) => u9.length = (o9.2.2.2.1.1).length) C Cr h hQ ra_29 hra rfl rfl (Or.inl rfl) dL_refuses_338
          · refine v_aload_n (pc' := 291) C 0 dL_refuses_290 rfl rfl ?_
            refine v_bipush (pc' := 293) C (97) dL_refuses_291 bc_97 rfl ?_
            refine v_iconst (pc' := 294) C (-1) dL_refuses_293 ic_m1 rfl ?_
            refine v_bipush (pc' := 296) C (9) dL_refuses_294 bc_9 rfl ?_
            refine v_calli (pc' := 299) C h (rf := fun r9 => r9.1) (wT g aT zT_9 ++ wV g aV ra_29 r_28.2.2) (fun r9 (u9 : Unit) => wQ aQ aT aN aV aD aF ++ wT g aT zT_9 ++ wS g aN r_28.2.1 ++ wV g aV ra_29 r_28.2.2 ++ wF g aF r9.2) (fun r hr => run_V C (c_X5_family l g aQ aT aN aV aD aF _ _ _ _ _ r hr) gL_refuses_X5_family rfl nd_X5_family rfl rfl rfl rfl ⟨Nat.le_of_ble_eq_true rfl, Nat.le_of_ble_eq_true rfl⟩ ⟨Nat.le_of_ble_eq_true rfl, Nat.le_of_ble_eq_true rfl⟩ (Nat.le_of_ble_eq_true rfl) dL_refuses_296 rfl) [0, 4, 5, 6, 7, 10, 11, 12, 13] [1, 2, 3, 8, 9] [5, 0, 1, 2, 6, 7, 8, 9, 3, 4, 10, 11, 12, 13] rfl rfl rfl rfl (by decide) rfl (fun _ _ => rfl) (k' := 48) (n' := 900) rfl rfl rfl (fun r_30 _ _ h => ?_)
            refine v_bipush (pc' := 301) C (-3) dL_refuses_299 bc_m3 rfl ?_
            refine v_icmp_ne C 337 304 h dL_refuses_301 (by decide) rfl (fun _ h => ?_) (fun _ h => ?_)
            · refine v_iconst (pc' := 338) C (0) dL_refuses_337 ic_0 rfl ?_
              refine v_widen (k' := 52) (n' := 975) (Nat.le_of_ble_eq_true rfl) (Nat.le_of_ble_eq_true rfl) ?_
              exact v_zret (rf := fun (o9 : Int32 × Tx × St × Sv × Fm) => o9.1) (Wf := fun (o9 : Int32 × Tx × St × Sv × Fm) (u9 : List RA) => (wQ aQ aT aN aV aD aF ++ wT g aT o9.2.1 ++ wS g aN o9.2.2.1 ++ wV g aV u9 o9.2.2.2.1 ++ wF g aF o9.2.2.2.2) ++ wRing g u9 o9.2.2.2.1.1) (ok := fun (o9 : Int32 × Tx × St × Sv × Fm) (u9 : List RA) => u9.length = (o9.2.2.2.1.1).length) C Cr h hQ ra_29 hra rfl rfl (Or.inl rfl) dL_refuses_338
            · refine v_lv [0] (lv' := [(0, .ref aQ)]) rfl ?_
              exact J304 zT_9 r_28.2.1 r_28.2.2 r_30.2 ra_29 hra h
  have J256 : ∀ (zT_4 : Tx) (zN_5 : St) (zV_6 : Sv) (zF_7 : Fm) (ra_8 : List RA) (hra : ra_8.length = (zV_6.1).length), f_L_refuses_J256  zT_4 zN_5 zV_6 zF_7 = some o → V p l e rm_L_refuses s m args below meth c g 4 A 40 750 Q (wQ aQ aT aN aV aD aF ++ wT g aT zT_4 ++ wS g aN zN_5 ++ wV g aV ra_8 zV_6 ++ wF g aF zF_7) (wRing g ra_8 zV_6.1) [(0, .ref aQ)] 256 [] := by
    intro zT_4 zN_5 zV_6 zF_7 ra_8 hra h
    unfold f_L_refuses_J256 at h
    refine v_iconst (pc' := 257) C (0) dL_refuses_256 ic_0 rfl ?_
    exact J257 zT_4 zN_5 zV_6 zF_7 (0 : Int32) ra_8 hra h
  refine v_aload_n (pc' := 1) C 0 dL_refuses_0 rfl rfl ?_
  refine v_calli (pc' := 4) C h (rf := fun r9 => r9) (wT g aT zT ++ wV g aV ra zV ++ wF g aF zF) (fun r9 (u9 : Unit) => wQ aQ aT aN aV aD aF ++ wT g aT zT ++ wS g aN zN ++ wV g aV ra zV ++ wF g aF zF) (fun r hr => run_V C (c_X5_words l g aQ aT aN aV aD aF _ r hr) gL_refuses_X5_words rfl nd_X5_words rfl rfl rfl rfl ⟨Nat.le_of_ble_eq_true rfl, Nat.le_of_ble_eq_true rfl⟩ ⟨Nat.le_of_ble_eq_true rfl, Nat.le_of_ble_eq_true rfl⟩ (Nat.le_of_ble_eq_true rfl) dL_refuses_1 rfl) [0, 4, 5, 6, 7] [1, 2, 3, 8, 9, 10, 11, 12, 13] [9, 0, 1, 2, 10, 11, 12, 13, 3, 4, 5, 6, 7, 8] rfl rfl rfl rfl (by decide) rfl (fun _ _ => rfl) (k' := 0) (n' := 0) rfl rfl rfl (fun r_1 _ _ h => ?_)
  refine v_istore_n (pc' := 5) C [1, 2, 0] (lv' := [(0, .ref aQ), (1, .int p1), (2, .int r_1)]) dL_refuses_4 (Nat.le_of_ble_eq_true rfl) rfl rfl ?_
  refine v_aload_n (pc' := 6) C 0 dL_refuses_5 rfl rfl ?_
  refine v_iload_n (pc' := 7) C 2 dL_refuses_6 rfl rfl ?_
  refine v_iload_n (pc' := 8) C 1 dL_refuses_7 rfl rfl ?_
  refine v_iadd (pc' := 9) C dL_refuses_8 rfl ?_
  refine v_callPi (pc' := 12) C h (rf := fun r9 => r9.1) (wT g aT zT ++ wF g aF zF) (fun r9 u9 => wQ aQ aT aN aV aD aF ++ wT g aT zT ++ wS g aN r9.2.1 ++ wV g aV u9 r9.2.2 ++ wF g aF zF) (fun r hr => run_V C (c_X5_removeWord l g aQ aT aN aV aD aF _ _ _ _ r hr hra) gL_refuses_X5_removeWord rfl nd_X5_removeWord rfl rfl rfl rfl ⟨Nat.le_of_ble_eq_true rfl, Nat.le_of_ble_eq_true rfl⟩ ⟨Nat.le_of_ble_eq_true rfl, Nat.le_of_ble_eq_true rfl⟩ (Nat.le_of_ble_eq_true rfl) dL_refuses_9 rfl) [0, 4, 5, 6, 7, 8, 9] [1, 2, 3, 10, 11, 12, 13] [7, 0, 1, 2, 8, 9, 10, 11, 12, 13, 3, 4, 5, 6] rfl rfl rfl rfl (by decide) rfl (fun _ _ => rfl) (k' := 4) (n' := 75) rfl rfl rfl (fun r_2 ra_3 hra h => ?_)
  refine v_iconst (pc' := 13) C (-1) dL_refuses_12 ic_m1 rfl ?_
  refine v_icmp_ne C 256 16 h dL_refuses_13 (by decide) rfl (fun _ h => ?_) (fun _ h => ?_)
  · refine v_lv [0] (lv' := [(0, .ref aQ)]) rfl ?_
    refine v_widen (k' := 40) (n' := 750) (Nat.le_of_ble_eq_true rfl) (Nat.le_of_ble_eq_true rfl) ?_
    exact J256 zT r_2.2.1 r_2.2.2 zF ra_3 hra h
  · refine v_aload_n (pc' := 17) C 0 dL_refuses_16 rfl rfl ?_
    refine v_iconst (pc' := 18) C (-1) dL_refuses_17 ic_m1 rfl ?_
    refine v_iload_n (pc' := 19) C 1 dL_refuses_18 rfl rfl ?_
    refine v_isub (pc' := 20) C dL_refuses_19 rfl ?_
    refine v_callPi (pc' := 23) C h (rf := fun r9 => r9.1) (wT g aT zT ++ wF g aF zF) (fun r9 u9 => wQ aQ aT aN aV aD aF ++ wT g aT zT ++ wS g aN r9.2.1 ++ wV g aV u9 r9.2.2 ++ wF g aF zF) (fun r hr => run_V C (c_X5_removeWord l g aQ aT aN aV aD aF _ _ _ _ r hr hra) gL_refuses_X5_removeWord rfl nd_X5_removeWord rfl rfl rfl rfl ⟨Nat.le_of_ble_eq_true rfl, Nat.le_of_ble_eq_true rfl⟩ ⟨Nat.le_of_ble_eq_true rfl, Nat.le_of_ble_eq_true rfl⟩ (Nat.le_of_ble_eq_true rfl) dL_refuses_20 rfl) [0, 4, 5, 6, 7, 8, 9] [1, 2, 3, 10, 11, 12, 13] [7, 0, 1, 2, 8, 9, 10, 11, 12, 13, 3, 4, 5, 6] rfl rfl rfl rfl (by decide) rfl (fun _ _ => rfl) (k' := 8) (n' := 150) rfl rfl rfl (fun r_31 ra_32 hra h => ?_)
    refine v_iconst (pc' := 24) C (-1) dL_refuses_23 ic_m1 rfl ?_
    refine v_icmp_ne C 256 27 h dL_refuses_24 (by decide) rfl (fun _ h => ?_) (fun _ h => ?_)
    · refine v_lv [0] (lv' := [(0, .ref aQ)]) rfl ?_
      refine v_widen (k' := 40) (n' := 750) (Nat.le_of_ble_eq_true rfl) (Nat.le_of_ble_eq_true rfl) ?_
      exact J256 zT r_31.2.1 r_31.2.2 zF ra_32 hra h
    · refine v_aload_n (pc' := 28) C 0 dL_refuses_27 rfl rfl ?_
      refine v_iload_n (pc' := 29) C 2 dL_refuses_28 rfl rfl ?_
      refine v_iload_n (pc' := 30) C 1 dL_refuses_29 rfl rfl ?_
      refine v_iadd (pc' := 31) C dL_refuses_30 rfl ?_
      refine v_iconst (pc' := 32) C (0) dL_refuses_31 ic_0 rfl ?_
      refine v_calli (pc' := 35) C h (rf := fun r9 => r9) (wT g aT zT ++ wV g aV ra_32 r_31.2.2 ++ wF g aF zF) (fun r9 (u9 : Unit) => wQ aQ aT aN aV aD aF ++ wT g aT zT ++ wS g aN r_31.2.1 ++ wV g aV ra_32 r_31.2.2 ++ wF g aF zF) (fun r hr => run_V C (c_X5_letterOf l g aQ aT aN aV aD aF _ _ _ r hr) gL_refuses_X5_letterOf rfl nd_X5_letterOf rfl rfl rfl rfl ⟨Nat.le_of_ble_eq_true rfl, Nat.le_of_ble_eq_true rfl⟩ ⟨Nat.le_of_ble_eq_true rfl, Nat.le_of_ble_eq_true rfl⟩ (Nat.le_of_ble_eq_true rfl) dL_refuses_32 rfl) [0, 4, 5, 6, 7] [1, 2, 3, 8, 9, 10, 11, 12, 13] [9, 0, 1, 2, 10, 11, 12, 13, 3, 4, 5, 6, 7, 8] rfl rfl rfl rfl (by decide) rfl (fun _ _ => rfl) (k' := 8) (n' := 150) rfl rfl rfl (fun r_33 _ _ h => ?_)
      refine v_iconst (pc' := 36) C (-1) dL_refuses_35 ic_m1 rfl ?_
      refine v_icmp_ne C 256 39 h dL_refuses_36 (by decide) rfl (fun _ h => ?_) (fun _ h => ?_)
      · refine v_lv [0] (lv' := [(0, .ref aQ)]) rfl ?_
        refine v_widen (k' := 40) (n' := 750) (Nat.le_of_ble_eq_true rfl) (Nat.le_of_ble_eq_true rfl) ?_
        exact J256 zT r_31.2.1 r_31.2.2 zF ra_32 hra h
      · refine v_aload_n (pc' := 40) C 0 dL_refuses_39 rfl rfl ?_
        refine v_iconst (pc' := 41) C (0) dL_refuses_40 ic_0 rfl ?_
        refine v_iconst (pc' := 42) C (-1) dL_refuses_41 ic_m1 rfl ?_
        refine v_iload_n (pc' := 43) C 1 dL_refuses_42 rfl rfl ?_
        refine v_isub (pc' := 44) C dL_refuses_43 rfl ?_
        refine v_calli (pc' := 47) C h (rf := fun r9 => r9) (wT g aT zT ++ wV g aV ra_32 r_31.2.2 ++ wF g aF zF) (fun r9 (u9 : Unit) => wQ aQ aT aN aV aD aF ++ wT g aT zT ++ wS g aN r_31.2.1 ++ wV g aV ra_32 r_31.2.2 ++ wF g aF zF) (fun r hr => run_V C (c_X5_letterOf l g aQ aT aN aV aD aF _ _ _ r hr) gL_refuses_X5_letterOf rfl nd_X5_letterOf rfl rfl rfl rfl ⟨Nat.le_of_ble_eq_true rfl, Nat.le_of_ble_eq_true rfl⟩ ⟨Nat.le_of_ble_eq_true rfl, Nat.le_of_ble_eq_true rfl⟩ (Nat.le_of_ble_eq_true rfl) dL_refuses_44 rfl) [0, 4, 5, 6, 7] [1, 2, 3, 8, 9, 10, 11, 12, 13] [9, 0, 1, 2, 10, 11, 12, 13, 3, 4, 5, 6, 7, 8] rfl rfl rfl rfl (by decide) rfl (fun _ _ => rfl) (k' := 8) (n' := 150) rfl rfl rfl (fun r_34 _ _ h => ?_)
        refine v_iconst (pc' := 48) C (-1) dL_refuses_47 ic_m1 rfl ?_
        refine v_icmp_ne C 256 51 h dL_refuses_48 (by decide) rfl (fun _ h => ?_) (fun _ h => ?_)
        · refine v_lv [0] (lv' := [(0, .ref aQ)]) rfl ?_
          refine v_widen (k' := 40) (n' := 750) (Nat.le_of_ble_eq_true rfl) (Nat.le_of_ble_eq_true rfl) ?_
          exact J256 zT r_31.2.1 r_31.2.2 zF ra_32 hra h
        · refine v_aload_n (pc' := 52) C 0 dL_refuses_51 rfl rfl ?_
          refine v_iconst (pc' := 53) C (3) dL_refuses_52 ic_3 rfl ?_
          refine v_iload_n (pc' := 54) C 1 dL_refuses_53 rfl rfl ?_
          refine v_iadd (pc' := 55) C dL_refuses_54 rfl ?_
          refine v_callPi (pc' := 58) C h (rf := fun r9 => r9.1) (wT g aT zT ++ wF g aF zF) (fun r9 u9 => wQ aQ aT aN aV aD aF ++ wT g aT zT ++ wS g aN r9.2.1 ++ wV g aV u9 r9.2.2 ++ wF g aF zF) (fun r hr => run_V C (c_X5_setPolicy l g aQ aT aN aV aD aF _ _ _ _ r hr hra) gL_refuses_X5_setPolicy rfl nd_X5_setPolicy rfl rfl rfl rfl ⟨Nat.le_of_ble_eq_true rfl, Nat.le_of_ble_eq_true rfl⟩ ⟨Nat.le_of_ble_eq_true rfl, Nat.le_of_ble_eq_true rfl⟩ (Nat.le_of_ble_eq_true rfl) dL_refuses_55 rfl) [0, 4, 5, 6, 7, 8, 9] [1, 2, 3, 10, 11, 12, 13] [7, 0, 1, 2, 8, 9, 10, 11, 12, 13, 3, 4, 5, 6] rfl rfl rfl rfl (by decide) rfl (fun _ _ => rfl) (k' := 12) (n' := 225) rfl rfl rfl (fun r_35 ra_36 hra h => ?_)
          refine v_bipush (pc' := 60) C (-2) dL_refuses_58 bc_m2 rfl ?_
          refine v_icmp_ne C 256 63 h dL_refuses_60 (by decide) rfl (fun _ h => ?_) (fun _ h => ?_)
          · refine v_lv [0] (lv' := [(0, .ref aQ)]) rfl ?_
            refine v_widen (k' := 40) (n' := 750) (Nat.le_of_ble_eq_true rfl) (Nat.le_of_ble_eq_true rfl) ?_
            exact J256 zT r_35.2.1 r_35.2.2 zF ra_36 hra h
          · refine v_aload_n (pc' := 64) C 0 dL_refuses_63 rfl rfl ?_
            refine v_iconst (pc' := 65) C (-1) dL_refuses_64 ic_m1 rfl ?_
            refine v_iload_n (pc' := 66) C 1 dL_refuses_65 rfl rfl ?_
            refine v_isub (pc' := 67) C dL_refuses_66 rfl ?_
            refine v_callPi (pc' := 70) C h (rf := fun r9 => r9.1) (wT g aT zT ++ wF g aF zF) (fun r9 u9 => wQ aQ aT aN aV aD aF ++ wT g aT zT ++ wS g aN r9.2.1 ++ wV g aV u9 r9.2.2 ++ wF g aF zF) (fun r hr => run_V C (c_X5_setPolicy l g aQ aT aN aV aD aF _ _ _ _ r hr hra) gL_refuses_X5_setPolicy rfl nd_X5_setPolicy rfl rfl rfl rfl ⟨Nat.le_of_ble_eq_true rfl, Nat.le_of_ble_eq_true rfl⟩ ⟨Nat.le_of_ble_eq_true rfl, Nat.le_of_ble_eq_true rfl⟩ (Nat.le_of_ble_eq_true rfl) dL_refuses_67 rfl) [0, 4, 5, 6, 7, 8, 9] [1, 2, 3, 10, 11, 12, 13] [7, 0, 1, 2, 8, 9, 10, 11, 12, 13, 3, 4, 5, 6] rfl rfl rfl rfl (by decide) rfl (fun _ _ => rfl) (k' := 16) (n' := 300) rfl rfl rfl (fun r_37 ra_38 hra h => ?_)
            refine v_bipush (pc' := 72) C (-2) dL_refuses_70 bc_m2 rfl ?_
            refine v_icmp_ne C 256 75 h dL_refuses_72 (by decide) rfl (fun _ h => ?_) (fun _ h => ?_)
            · refine v_lv [0] (lv' := [(0, .ref aQ)]) rfl ?_
              refine v_widen (k' := 40) (n' := 750) (Nat.le_of_ble_eq_true rfl) (Nat.le_of_ble_eq_true rfl) ?_
              exact J256 zT r_37.2.1 r_37.2.2 zF ra_38 hra h
            · refine v_aload_n (pc' := 76) C 0 dL_refuses_75 rfl rfl ?_
              refine v_bipush (pc' := 78) C (9) dL_refuses_76 bc_9 rfl ?_
              refine v_iload_n (pc' := 79) C 1 dL_refuses_78 rfl rfl ?_
              refine v_iadd (pc' := 80) C dL_refuses_79 rfl ?_
              refine v_iconst (pc' := 81) C (1) dL_refuses_80 ic_1 rfl ?_
              refine v_callPi (pc' := 84) C h (rf := fun r9 => r9.1) (wT g aT zT ++ wF g aF zF) (fun r9 u9 => wQ aQ aT aN aV aD aF ++ wT g aT zT ++ wS g aN r9.2.1 ++ wV g aV u9 r9.2.2 ++ wF g aF zF) (fun r hr => run_V C (c_X5_start l g aQ aT aN aV aD aF _ _ _ _ _ r hr hra) gL_refuses_X5_start rfl nd_X5_start rfl rfl rfl rfl ⟨Nat.le_of_ble_eq_true rfl, Nat.le_of_ble_eq_true rfl⟩ ⟨Nat.le_of_ble_eq_true rfl, Nat.le_of_ble_eq_true rfl⟩ (Nat.le_of_ble_eq_true rfl) dL_refuses_81 rfl) [0, 4, 5, 6, 7, 8, 9] [1, 2, 3, 10, 11, 12, 13] [7, 0, 1, 2, 8, 9, 10, 11, 12, 13, 3, 4, 5, 6] rfl rfl rfl rfl (by decide) rfl (fun _ _ => rfl) (k' := 20) (n' := 375) rfl rfl rfl (fun r_39 ra_40 hra h => ?_)
              refine v_bipush (pc' := 86) C (-2) dL_refuses_84 bc_m2 rfl ?_
              refine v_icmp_ne C 256 89 h dL_refuses_86 (by decide) rfl (fun _ h => ?_) (fun _ h => ?_)
              · refine v_lv [0] (lv' := [(0, .ref aQ)]) rfl ?_
                refine v_widen (k' := 40) (n' := 750) (Nat.le_of_ble_eq_true rfl) (Nat.le_of_ble_eq_true rfl) ?_
                exact J256 zT r_39.2.1 r_39.2.2 zF ra_40 hra h
              · refine v_aload_n (pc' := 90) C 0 dL_refuses_89 rfl rfl ?_
                refine v_iconst (pc' := 91) C (1) dL_refuses_90 ic_1 rfl ?_
                refine v_iconst (pc' := 92) C (1) dL_refuses_91 ic_1 rfl ?_
                refine v_callPi (pc' := 95) C h (rf := fun r9 => r9.1) (wT g aT zT ++ wF g aF zF) (fun r9 u9 => wQ aQ aT aN aV aD aF ++ wT g aT zT ++ wS g aN r9.2.1 ++ wV g aV u9 r9.2.2 ++ wF g aF zF) (fun r hr => run_V C (c_X5_start l g aQ aT aN aV aD aF _ _ _ _ _ r hr hra) gL_refuses_X5_start rfl nd_X5_start rfl rfl rfl rfl ⟨Nat.le_of_ble_eq_true rfl, Nat.le_of_ble_eq_true rfl⟩ ⟨Nat.le_of_ble_eq_true rfl, Nat.le_of_ble_eq_true rfl⟩ (Nat.le_of_ble_eq_true rfl) dL_refuses_92 rfl) [0, 4, 5, 6, 7, 8, 9] [1, 2, 3, 10, 11, 12, 13] [7, 0, 1, 2, 8, 9, 10, 11, 12, 13, 3, 4, 5, 6] rfl rfl rfl rfl (by decide) rfl (fun _ _ => rfl) (k' := 24) (n' := 450) rfl rfl rfl (fun r_41 ra_42 hra h => ?_)
                refine v_bipush (pc' := 97) C (-2) dL_refuses_95 bc_m2 rfl ?_
                refine v_icmp_ne C 256 100 h dL_refuses_97 (by decide) rfl (fun _ h => ?_) (fun _ h => ?_)
                · refine v_lv [0] (lv' := [(0, .ref aQ)]) rfl ?_
                  refine v_widen (k' := 40) (n' := 750) (Nat.le_of_ble_eq_true rfl) (Nat.le_of_ble_eq_true rfl) ?_
                  exact J256 zT r_41.2.1 r_41.2.2 zF ra_42 hra h
                · refine v_aload_n (pc' := 101) C 0 dL_refuses_100 rfl rfl ?_
                  refine v_iconst (pc' := 102) C (4) dL_refuses_101 ic_4 rfl ?_
                  refine v_iconst (pc' := 103) C (0) dL_refuses_102 ic_0 rfl ?_
                  refine v_callPi (pc' := 106) C h (rf := fun r9 => r9.1) (wT g aT zT ++ wF g aF zF) (fun r9 u9 => wQ aQ aT aN aV aD aF ++ wT g aT zT ++ wS g aN r9.2.1 ++ wV g aV u9 r9.2.2 ++ wF g aF zF) (fun r hr => run_V C (c_X5_start l g aQ aT aN aV aD aF _ _ _ _ _ r hr hra) gL_refuses_X5_start rfl nd_X5_start rfl rfl rfl rfl ⟨Nat.le_of_ble_eq_true rfl, Nat.le_of_ble_eq_true rfl⟩ ⟨Nat.le_of_ble_eq_true rfl, Nat.le_of_ble_eq_true rfl⟩ (Nat.le_of_ble_eq_true rfl) dL_refuses_103 rfl) [0, 4, 5, 6, 7, 8, 9] [1, 2, 3, 10, 11, 12, 13] [7, 0, 1, 2, 8, 9, 10, 11, 12, 13, 3, 4, 5, 6] rfl rfl rfl rfl (by decide) rfl (fun _ _ => rfl) (k' := 28) (n' := 525) rfl rfl rfl (fun r_43 ra_44 hra h => ?_)
                  refine v_bipush (pc' := 108) C (-2) dL_refuses_106 bc_m2 rfl ?_
                  refine v_icmp_ne C 256 111 h dL_refuses_108 (by decide) rfl (fun _ h => ?_) (fun _ h => ?_)
                  · refine v_lv [0] (lv' := [(0, .ref aQ)]) rfl ?_
                    refine v_widen (k' := 40) (n' := 750) (Nat.le_of_ble_eq_true rfl) (Nat.le_of_ble_eq_true rfl) ?_
                    exact J256 zT r_43.2.1 r_43.2.2 zF ra_44 hra h
                  · refine v_aload_n (pc' := 112) C 0 dL_refuses_111 rfl rfl ?_
                    refine v_iconst (pc' := 113) C (4) dL_refuses_112 ic_4 rfl ?_
                    refine v_bipush (pc' := 115) C (21) dL_refuses_113 bc_21 rfl ?_
                    refine v_iload_n (pc' := 116) C 1 dL_refuses_115 rfl rfl ?_
                    refine v_iadd (pc' := 117) C dL_refuses_116 rfl ?_
                    refine v_callPi (pc' := 120) C h (rf := fun r9 => r9.1) (wT g aT zT ++ wF g aF zF) (fun r9 u9 => wQ aQ aT aN aV aD aF ++ wT g aT zT ++ wS g aN r9.2.1 ++ wV g aV u9 r9.2.2 ++ wF g aF zF) (fun r hr => run_V C (c_X5_start l g aQ aT aN aV aD aF _ _ _ _ _ r hr hra) gL_refuses_X5_start rfl nd_X5_start rfl rfl rfl rfl ⟨Nat.le_of_ble_eq_true rfl, Nat.le_of_ble_eq_true rfl⟩ ⟨Nat.le_of_ble_eq_true rfl, Nat.le_of_ble_eq_true rfl⟩ (Nat.le_of_ble_eq_true rfl) dL_refuses_117 rfl) [0, 4, 5, 6, 7, 8, 9] [1, 2, 3, 10, 11, 12, 13] [7, 0, 1, 2, 8, 9, 10, 11, 12, 13, 3, 4, 5, 6] rfl rfl rfl rfl (by decide) rfl (fun _ _ => rfl) (k' := 32) (n' := 600) rfl rfl rfl (fun r_45 ra_46 hra h => ?_)
                    refine v_bipush (pc' := 122) C (-2) dL_refuses_120 bc_m2 rfl ?_
                    refine v_icmp_ne C 256 125 h dL_refuses_122 (by decide) rfl (fun _ h => ?_) (fun _ h => ?_)
                    · refine v_lv [0] (lv' := [(0, .ref aQ)]) rfl ?_
                      refine v_widen (k' := 40) (n' := 750) (Nat.le_of_ble_eq_true rfl) (Nat.le_of_ble_eq_true rfl) ?_
                      exact J256 zT r_45.2.1 r_45.2.2 zF ra_46 hra h
                    · refine v_aload_n (pc' := 126) C 0 dL_refuses_125 rfl rfl ?_
                      refine v_bipush (pc' := 128) C (123) dL_refuses_126 bc_123 rfl ?_
                      refine v_iload_n (pc' := 129) C 1 dL_refuses_128 rfl rfl ?_
                      refine v_iadd (pc' := 130) C dL_refuses_129 rfl ?_
                      refine v_callPi (pc' := 133) C h (rf := fun r9 => r9.1) (wT g aT zT) (fun r9 u9 => wQ aQ aT aN aV aD aF ++ wT g aT zT ++ wS g aN r9.2.1 ++ wV g aV u9 r9.2.2.1 ++ wF g aF r9.2.2.2) (fun r hr => run_V C (c_X5_guess l g aQ aT aN aV aD aF _ _ _ _ _ r hr hra) gL_refuses_X5_guess rfl nd_X5_guess rfl rfl rfl rfl ⟨Nat.le_of_ble_eq_true rfl, Nat.le_of_ble_eq_true rfl⟩ ⟨Nat.le_of_ble_eq_true rfl, Nat.le_of_ble_eq_true rfl⟩ (Nat.le_of_ble_eq_true rfl) dL_refuses_130 rfl) [0, 4, 5, 6, 7, 8, 9, 10, 11, 12, 13] [1, 2, 3] [3, 0, 1, 2, 4, 5, 6, 7, 8, 9, 10, 11, 12, 13] rfl rfl rfl rfl (by decide) rfl (fun _ _ => rfl) (k' := 36) (n' := 675) rfl rfl rfl (fun r_47 ra_48 hra h => ?_)
                      refine v_bipush (pc' := 135) C (-2) dL_refuses_133 bc_m2 rfl ?_
                      refine v_icmp_ne C 256 138 h dL_refuses_135 (by decide) rfl (fun _ h => ?_) (fun _ h => ?_)
                      · refine v_lv [0] (lv' := [(0, .ref aQ)]) rfl ?_
                        refine v_widen (k' := 40) (n' := 750) (Nat.le_of_ble_eq_true rfl) (Nat.le_of_ble_eq_true rfl) ?_
                        exact J256 zT r_47.2.1 r_47.2.2.1 r_47.2.2.2 ra_48 hra h
                      · refine v_aload_n (pc' := 139) C 0 dL_refuses_138 rfl rfl ?_
                        refine v_bipush (pc' := 141) C (96) dL_refuses_139 bc_96 rfl ?_
                        refine v_iload_n (pc' := 142) C 1 dL_refuses_141 rfl rfl ?_
                        refine v_isub (pc' := 143) C dL_refuses_142 rfl ?_
                        refine v_callPi (pc' := 146) C h (rf := fun r9 => r9.1) (wT g aT zT) (fun r9 u9 => wQ aQ aT aN aV aD aF ++ wT g aT zT ++ wS g aN r9.2.1 ++ wV g aV u9 r9.2.2.1 ++ wF g aF r9.2.2.2) (fun r hr => run_V C (c_X5_guess l g aQ aT aN aV aD aF _ _ _ _ _ r hr hra) gL_refuses_X5_guess rfl nd_X5_guess rfl rfl rfl rfl ⟨Nat.le_of_ble_eq_true rfl, Nat.le_of_ble_eq_true rfl⟩ ⟨Nat.le_of_ble_eq_true rfl, Nat.le_of_ble_eq_true rfl⟩ (Nat.le_of_ble_eq_true rfl) dL_refuses_143 rfl) [0, 4, 5, 6, 7, 8, 9, 10, 11, 12, 13] [1, 2, 3] [3, 0, 1, 2, 4, 5, 6, 7, 8, 9, 10, 11, 12, 13] rfl rfl rfl rfl (by decide) rfl (fun _ _ => rfl) (k' := 40) (n' := 750) rfl rfl rfl (fun r_49 ra_50 hra h => ?_)
                        refine v_bipush (pc' := 148) C (-2) dL_refuses_146 bc_m2 rfl ?_
                        refine v_icmp_ne C 256 151 h dL_refuses_148 (by decide) rfl (fun _ h => ?_) (fun _ h => ?_)
                        · refine v_lv [0] (lv' := [(0, .ref aQ)]) rfl ?_
                          exact J256 zT r_49.2.1 r_49.2.2.1 r_49.2.2.2 ra_50 hra h
                        · refine v_aload_n (pc' := 152) C 0 dL_refuses_151 rfl rfl ?_
                          refine v_bipush (pc' := 154) C (96) dL_refuses_152 bc_96 rfl ?_
                          refine v_iload_n (pc' := 155) C 1 dL_refuses_154 rfl rfl ?_
                          refine v_isub (pc' := 156) C dL_refuses_155 rfl ?_
                          refine v_calli (pc' := 159) C h (rf := fun r9 => r9.1) (wT g aT zT ++ wV g aV ra_50 r_49.2.2.1) (fun r9 (u9 : Unit) => wQ aQ aT aN aV aD aF ++ wT g aT zT ++ wS g aN r_49.2.1 ++ wV g aV ra_50 r_49.2.2.1 ++ wF g aF r9.2) (fun r hr => run_V C (c_X5_families l g aQ aT aN aV aD aF _ _ _ r hr) gL_refuses_X5_families rfl nd_X5_families rfl rfl rfl rfl ⟨Nat.le_of_ble_eq_true rfl, Nat.le_of_ble_eq_true rfl⟩ ⟨Nat.le_of_ble_eq_true rfl, Nat.le_of_ble_eq_true rfl⟩ (Nat.le_of_ble_eq_true rfl) dL_refuses_156 rfl) [0, 4, 5, 6, 7, 10, 11, 12, 13] [1, 2, 3, 8, 9] [5, 0, 1, 2, 6, 7, 8, 9, 3, 4, 10, 11, 12, 13] rfl rfl rfl rfl (by decide) rfl (fun _ _ => rfl) (k' := 40) (n' := 750) rfl rfl rfl (fun r_51 _ _ h => ?_)
                          refine v_bipush (pc' := 161) C (-2) dL_refuses_159 bc_m2 rfl ?_
                          refine v_icmp_ne C 256 164 h dL_refuses_161 (by decide) rfl (fun _ h => ?_) (fun _ h => ?_)
                          · refine v_lv [0] (lv' := [(0, .ref aQ)]) rfl ?_
                            exact J256 zT r_49.2.1 r_49.2.2.1 r_51.2 ra_50 hra h
                          · refine v_aload_n (pc' := 165) C 0 dL_refuses_164 rfl rfl ?_
                            refine v_bipush (pc' := 167) C (123) dL_refuses_165 bc_123 rfl ?_
                            refine v_iload_n (pc' := 168) C 1 dL_refuses_167 rfl rfl ?_
                            refine v_iadd (pc' := 169) C dL_refuses_168 rfl ?_
                            refine v_iconst (pc' := 170) C (0) dL_refuses_169 ic_0 rfl ?_
                            refine v_iconst (pc' := 171) C (0) dL_refuses_170 ic_0 rfl ?_
                            refine v_calli (pc' := 174) C h (rf := fun r9 => r9.1) (wT g aT zT ++ wV g aV ra_50 r_49.2.2.1) (fun r9 (u9 : Unit) => wQ aQ aT aN aV aD aF ++ wT g aT zT ++ wS g aN r_49.2.1 ++ wV g aV ra_50 r_49.2.2.1 ++ wF g aF r9.2) (fun r hr => run_V C (c_X5_family l g aQ aT aN aV aD aF _ _ _ _ _ r hr) gL_refuses_X5_family rfl nd_X5_family rfl rfl rfl rfl ⟨Nat.le_of_ble_eq_true rfl, Nat.le_of_ble_eq_true rfl⟩ ⟨Nat.le_of_ble_eq_true rfl, Nat.le_of_ble_eq_true rfl⟩ (Nat.le_of_ble_eq_true rfl) dL_refuses_171 rfl) [0, 4, 5, 6, 7, 10, 11, 12, 13] [1, 2, 3, 8, 9] [5, 0, 1, 2, 6, 7, 8, 9, 3, 4, 10, 11, 12, 13] rfl rfl rfl rfl (by decide) rfl (fun _ _ => rfl) (k' := 40) (n' := 750) rfl rfl rfl (fun r_52 _ _ h => ?_)
                            refine v_bipush (pc' := 176) C (-2) dL_refuses_174 bc_m2 rfl ?_
                            refine v_icmp_ne C 256 179 h dL_refuses_176 (by decide) rfl (fun _ h => ?_) (fun _ h => ?_)
                            · refine v_lv [0] (lv' := [(0, .ref aQ)]) rfl ?_
                              exact J256 zT r_49.2.1 r_49.2.2.1 r_52.2 ra_50 hra h
                            · refine v_aload_n (pc' := 180) C 0 dL_refuses_179 rfl rfl ?_
                              refine v_bipush (pc' := 182) C (96) dL_refuses_180 bc_96 rfl ?_
                              refine v_calli (pc' := 185) C h (rf := fun r9 => r9.1) (wT g aT zT ++ wV g aV ra_50 r_49.2.2.1) (fun r9 (u9 : Unit) => wQ aQ aT aN aV aD aF ++ wT g aT zT ++ wS g aN r_49.2.1 ++ wV g aV ra_50 r_49.2.2.1 ++ wF g aF r9.2) (fun r hr => run_V C (c_X5_spread l g aQ aT aN aV aD aF _ _ _ r hr) gL_refuses_X5_spread rfl nd_X5_spread rfl rfl rfl rfl ⟨Nat.le_of_ble_eq_true rfl, Nat.le_of_ble_eq_true rfl⟩ ⟨Nat.le_of_ble_eq_true rfl, Nat.le_of_ble_eq_true rfl⟩ (Nat.le_of_ble_eq_true rfl) dL_refuses_182 rfl) [0, 4, 5, 6, 7, 10, 11, 12, 13] [1, 2, 3, 8, 9] [5, 0, 1, 2, 6, 7, 8, 9, 3, 4, 10, 11, 12, 13] rfl rfl rfl rfl (by decide) rfl (fun _ _ => rfl) (k' := 40) (n' := 750) rfl rfl rfl (fun r_53 _ _ h => ?_)
                              refine v_bipush (pc' := 187) C (-2) dL_refuses_185 bc_m2 rfl ?_
                              refine v_icmp_ne C 256 190 h dL_refuses_187 (by decide) rfl (fun _ h => ?_) (fun _ h => ?_)
                              · refine v_lv [0] (lv' := [(0, .ref aQ)]) rfl ?_
                                exact J256 zT r_49.2.1 r_49.2.2.1 r_53.2 ra_50 hra h
                              · refine v_aload_n (pc' := 191) C 0 dL_refuses_190 rfl rfl ?_
                                refine v_bipush (pc' := 193) C (123) dL_refuses_191 bc_123 rfl ?_
                                refine v_calli (pc' := 196) C h (rf := fun r9 => r9) (wT g aT zT ++ wV g aV ra_50 r_49.2.2.1 ++ wF g aF r_53.2) (fun r9 (u9 : Unit) => wQ aQ aT aN aV aD aF ++ wT g aT zT ++ wS g aN r_49.2.1 ++ wV g aV ra_50 r_49.2.2.1 ++ wF g aF r_53.2) (fun r hr => run_V C (c_X5_having l g aQ aT aN aV aD aF _ _ r hr) gL_refuses_X5_having rfl nd_X5_having rfl rfl rfl rfl ⟨Nat.le_of_ble_eq_true rfl, Nat.le_of_ble_eq_true rfl⟩ ⟨Nat.le_of_ble_eq_true rfl, Nat.le_of_ble_eq_true rfl⟩ (Nat.le_of_ble_eq_true rfl) dL_refuses_193 rfl) [0, 4, 5, 6, 7] [1, 2, 3, 8, 9, 10, 11, 12, 13] [9, 0, 1, 2, 10, 11, 12, 13, 3, 4, 5, 6, 7, 8] rfl rfl rfl rfl (by decide) rfl (fun _ _ => rfl) (k' := 40) (n' := 750) rfl rfl rfl (fun r_54 _ _ h => ?_)
                                refine v_bipush (pc' := 198) C (-2) dL_refuses_196 bc_m2 rfl ?_
                                refine v_icmp_ne C 256 201 h dL_refuses_198 (by decide) rfl (fun _ h => ?_) (fun _ h => ?_)
                                · refine v_lv [0] (lv' := [(0, .ref aQ)]) rfl ?_
                                  exact J256 zT r_49.2.1 r_49.2.2.1 r_53.2 ra_50 hra h
                                · refine v_aload_n (pc' := 202) C 0 dL_refuses_201 rfl rfl ?_
                                  refine v_bipush (pc' := 204) C (7) dL_refuses_202 bc_7 rfl ?_
                                  refine v_iload_n (pc' := 205) C 1 dL_refuses_204 rfl rfl ?_
                                  refine v_iadd (pc' := 206) C dL_refuses_205 rfl ?_
                                  refine v_calli (pc' := 209) C h (rf := fun r9 => r9) (wT g aT zT ++ wV g aV ra_50 r_49.2.2.1 ++ wF g aF r_53.2) (fun r9 (u9 : Unit) => wQ aQ aT aN aV aD aF ++ wT g aT zT ++ wS g aN r_49.2.1 ++ wV g aV ra_50 r_49.2.2.1 ++ wF g aF r_53.2) (fun r hr => run_V C (c_X5_total l g aQ aT aN aV aD aF _ _ r hr) gL_refuses_X5_total rfl nd_X5_total rfl rfl rfl rfl ⟨Nat.le_of_ble_eq_true rfl, Nat.le_of_ble_eq_true rfl⟩ ⟨Nat.le_of_ble_eq_true rfl, Nat.le_of_ble_eq_true rfl⟩ (Nat.le_of_ble_eq_true rfl) dL_refuses_206 rfl) [0, 4, 5, 6, 7] [1, 2, 3, 8, 9, 10, 11, 12, 13] [9, 0, 1, 2, 10, 11, 12, 13, 3, 4, 5, 6, 7, 8] rfl rfl rfl rfl (by decide) rfl (fun _ _ => rfl) (k' := 40) (n' := 750) rfl rfl rfl (fun r_55 _ _ h => ?_)
                                  refine v_bipush (pc' := 211) C (-2) dL_refuses_209 bc_m2 rfl ?_
                                  refine v_icmp_ne C 256 214 h dL_refuses_211 (by decide) rfl (fun _ h => ?_) (fun _ h => ?_)
                                  · refine v_lv [0] (lv' := [(0, .ref aQ)]) rfl ?_
                                    exact J256 zT r_49.2.1 r_49.2.2.1 r_53.2 ra_50 hra h
                                  · refine v_aload_n (pc' := 215) C 0 dL_refuses_214 rfl rfl ?_
                                    refine v_iconst (pc' := 216) C (-1) dL_refuses_215 ic_m1 rfl ?_
                                    refine v_iload_n (pc' := 217) C 1 dL_refuses_216 rfl rfl ?_
                                    refine v_isub (pc' := 218) C dL_refuses_217 rfl ?_
                                    refine v_calli (pc' := 221) C h (rf := fun r9 => r9) (wT g aT zT ++ wV g aV ra_50 r_49.2.2.1 ++ wF g aF r_53.2) (fun r9 (u9 : Unit) => wQ aQ aT aN aV aD aF ++ wT g aT zT ++ wS g aN r_49.2.1 ++ wV g aV ra_50 r_49.2.2.1 ++ wF g aF r_53.2) (fun r hr => run_V C (c_X5_total l g aQ aT aN aV aD aF _ _ r hr) gL_refuses_X5_total rfl nd_X5_total rfl rfl rfl rfl ⟨Nat.le_of_ble_eq_true rfl, Nat.le_of_ble_eq_true rfl⟩ ⟨Nat.le_of_ble_eq_true rfl, Nat.le_of_ble_eq_true rfl⟩ (Nat.le_of_ble_eq_true rfl) dL_refuses_218 rfl) [0, 4, 5, 6, 7] [1, 2, 3, 8, 9, 10, 11, 12, 13] [9, 0, 1, 2, 10, 11, 12, 13, 3, 4, 5, 6, 7, 8] rfl rfl rfl rfl (by decide) rfl (fun _ _ => rfl) (k' := 40) (n' := 750) rfl rfl rfl (fun r_56 _ _ h => ?_)
                                    refine v_bipush (pc' := 223) C (-2) dL_refuses_221 bc_m2 rfl ?_
                                    refine v_icmp_ne C 256 226 h dL_refuses_223 (by decide) rfl (fun _ h => ?_) (fun _ h => ?_)
                                    · refine v_lv [0] (lv' := [(0, .ref aQ)]) rfl ?_
                                      exact J256 zT r_49.2.1 r_49.2.2.1 r_53.2 ra_50 hra h
                                    · refine v_aload_n (pc' := 227) C 0 dL_refuses_226 rfl rfl ?_
                                      refine v_bipush (pc' := 229) C (32) dL_refuses_227 bc_32 rfl ?_
                                      refine v_iload_n (pc' := 230) C 1 dL_refuses_229 rfl rfl ?_
                                      refine v_isub (pc' := 231) C dL_refuses_230 rfl ?_
                                      refine v_calli (pc' := 234) C h (rf := fun r9 => r9.1) (wS g aN r_49.2.1 ++ wV g aV ra_50 r_49.2.2.1 ++ wF g aF r_53.2) (fun r9 (u9 : Unit) => wQ aQ aT aN aV aD aF ++ wT g aT r9.2 ++ wS g aN r_49.2.1 ++ wV g aV ra_50 r_49.2.2.1 ++ wF g aF r_53.2) (fun r hr => run_V C (c_X5_type l g aQ aT aN aV aD aF _ _ r hr) gL_refuses_X5_type rfl nd_X5_type rfl rfl rfl rfl ⟨Nat.le_of_ble_eq_true rfl, Nat.le_of_ble_eq_true rfl⟩ ⟨Nat.le_of_ble_eq_true rfl, Nat.le_of_ble_eq_true rfl⟩ (Nat.le_of_ble_eq_true rfl) dL_refuses_231 rfl) [0, 1, 2, 3] [4, 5, 6, 7, 8, 9, 10, 11, 12, 13] [10, 11, 12, 13, 0, 1, 2, 3, 4, 5, 6, 7, 8, 9] rfl rfl rfl rfl (by decide) rfl (fun _ _ => rfl) (k' := 40) (n' := 750) rfl rfl rfl (fun r_57 _ _ h => ?_)
                                      refine v_bipush (pc' := 236) C (-2) dL_refuses_234 bc_m2 rfl ?_
                                      refine v_icmp_ne C 256 239 h dL_refuses_236 (by decide) rfl (fun _ h => ?_) (fun _ h => ?_)
                                      · refine v_lv [0] (lv' := [(0, .ref aQ)]) rfl ?_
                                        exact J256 r_57.2 r_49.2.1 r_49.2.2.1 r_53.2 ra_50 hra h
                                      · refine v_aload_n (pc' := 240) C 0 dL_refuses_239 rfl rfl ?_
                                        refine v_bipush (pc' := 242) C (127) dL_refuses_240 bc_127 rfl ?_
                                        refine v_iload_n (pc' := 243) C 1 dL_refuses_242 rfl rfl ?_
                                        refine v_iadd (pc' := 244) C dL_refuses_243 rfl ?_
                                        refine v_calli (pc' := 247) C h (rf := fun r9 => r9.1) (wS g aN r_49.2.1 ++ wV g aV ra_50 r_49.2.2.1 ++ wF g aF r_53.2) (fun r9 (u9 : Unit) => wQ aQ aT aN aV aD aF ++ wT g aT r9.2 ++ wS g aN r_49.2.1 ++ wV g aV ra_50 r_49.2.2.1 ++ wF g aF r_53.2) (fun r hr => run_V C (c_X5_type l g aQ aT aN aV aD aF _ _ r hr) gL_refuses_X5_type rfl nd_X5_type rfl rfl rfl rfl ⟨Nat.le_of_ble_eq_true rfl, Nat.le_of_ble_eq_true rfl⟩ ⟨Nat.le_of_ble_eq_true rfl, Nat.le_of_ble_eq_true rfl⟩ (Nat.le_of_ble_eq_true rfl) dL_refuses_244 rfl) [0, 1, 2, 3] [4, 5, 6, 7, 8, 9, 10, 11, 12, 13] [10, 11, 12, 13, 0, 1, 2, 3, 4, 5, 6, 7, 8, 9] rfl rfl rfl rfl (by decide) rfl (fun _ _ => rfl) (k' := 40) (n' := 750) rfl rfl rfl (fun r_58 _ _ h => ?_)
                                        refine v_bipush (pc' := 249) C (-2) dL_refuses_247 bc_m2 rfl ?_
                                        refine v_icmp_ne C 256 252 h dL_refuses_249 (by decide) rfl (fun _ h => ?_) (fun _ h => ?_)
                                        · refine v_lv [0] (lv' := [(0, .ref aQ)]) rfl ?_
                                          exact J256 r_58.2 r_49.2.1 r_49.2.2.1 r_53.2 ra_50 hra h
                                        · refine v_iconst (pc' := 253) C (1) dL_refuses_252 ic_1 rfl ?_
                                          refine v_goto C (pc' := 257) dL_refuses_253 (by decide) ?_
                                          refine v_lv [0] (lv' := [(0, .ref aQ)]) rfl ?_
                                          exact J257 r_58.2 r_49.2.1 r_49.2.2.1 r_53.2 (1 : Int32) ra_50 hra h
