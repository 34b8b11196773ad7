def f_X6_in  (p0 : Int32) (p1 : Int32) (p2 : Int32) : Option (Int32) :=
  if p0 < p1 then some (0 : Int32)
  else if p2 < p0 then some (0 : Int32)
  else some (1 : Int32)
abbrev rm_X6_in : Room := { frames := 0, cells := 0, slots := 0, locals := 0 }
theorem nd_X6_in : yX6_in.cls ≠ "java/lang/invoke/MethodHandle" ∧ yX6_in.cls ≠ "java/lang/invoke/VarHandle" ∧ (parseMethodDescriptor yX6_in.desc).map (fun d => d.parameters.length) = some 3 := by decide +kernel
set_option maxHeartbeats 4000000 in
set_option maxRecDepth 100000 in
theorem c_X6_in (l : Launch) (g : Gv)   (p0 : Int32) (p1 : Int32) (p2 : Int32) (o : Int32) (h : f_X6_in  p0 p1 p2 = some o) : Ct l g yX6_in wsX6_in rm_X6_in [.int p0, .int p1, .int p2] ([]) (Qi g o (fun _ : Unit => []) (fun _ => True)) := by
  refine enter (ret := (some .boolean)) (X := []) (pl := []) pn_X6 rfl (Nat.le_of_ble_eq_true rfl) ((List.append_nil _).symm) ?_
  intro p e s m args below meth c A Q C Cr hin hQ
  unfold f_X6_in at h
  refine v_iload_n (pc' := 1) C 0 dX6_in_0 rfl rfl ?_
  refine v_iload_n (pc' := 2) C 1 dX6_in_1 rfl rfl ?_
  refine v_icmp_lt C 14 5 h dX6_in_2 (by decide) rfl (fun _ h => ?_) (fun _ h => ?_)
  · refine v_iconst (pc' := 15) C (0) dX6_in_14 ic_0 rfl ?_
    exact v_zret (rf := fun (o9 : Int32) => o9) (Wf := fun (o9 : Int32) (u9 : Unit) => []) (ok := fun (o9 : Int32) (u9 : Unit) => True) C Cr h hQ () trivial rfl rfl (Or.inl rfl) dX6_in_15
  · refine v_iload_n (pc' := 6) C 0 dX6_in_5 rfl rfl ?_
    refine v_iload_n (pc' := 7) C 2 dX6_in_6 rfl rfl ?_
    refine v_icmp_gt C 14 10 h dX6_in_7 (by decide) rfl (fun _ h => ?_) (fun _ h => ?_)
    · refine v_iconst (pc' := 15) C (0) dX6_in_14 ic_0 rfl ?_
      exact v_zret (rf := fun (o9 : Int32) => o9) (Wf := fun (o9 : Int32) (u9 : Unit) => []) (ok := fun (o9 : Int32) (u9 : Unit) => True) C Cr h hQ () trivial rfl rfl (Or.inl rfl) dX6_in_15
    · refine v_iconst (pc' := 11) C (1) dX6_in_10 ic_1 rfl ?_
      refine v_goto C (pc' := 15) dX6_in_11 (by decide) ?_
      exact v_zret (rf := fun (o9 : Int32) => o9) (Wf := fun (o9 : Int32) (u9 : Unit) => []) (ok := fun (o9 : Int32) (u9 : Unit) => True) C Cr h hQ () trivial rfl rfl (Or.inr rfl) dX6_in_15
def f_X6_isLetter  (p0 : Int32) : Option (Int32) :=
  Option.bind (f_X6_in p0 (97 : Int32) (122 : Int32)) fun r_1 =>
  chkB r_1 (some r_1)
abbrev rm_X6_isLetter : Room := { frames := 1, cells := 0, slots := 0, locals := 22 }
theorem nd_X6_isLetter : yX6_isLetter.cls ≠ "java/lang/invoke/MethodHandle" ∧ yX6_isLetter.cls ≠ "java/lang/invoke/VarHandle" ∧ (parseMethodDescriptor yX6_isLetter.desc).map (fun d => d.parameters.length) = some 1 := by decide +kernel
set_option maxHeartbeats 4000000 in
set_option maxRecDepth 100000 in
theorem c_X6_isLetter (l : Launch) (g : Gv)   (p0 : Int32) (o : Int32) (h : f_X6_isLetter  p0 = some o) : Ct l g yX6_isLetter wsX6_isLetter rm_X6_isLetter [.int p0] ([]) (Qi g o (fun _ : Unit => []) (fun _ => True)) := by
  refine enter (ret := (some .boolean)) (X := []) (pl := []) pn_X6 rfl (Nat.le_of_ble_eq_true rfl) ((List.append_nil _).symm) ?_
  intro p e s m args below meth c A Q C Cr hin hQ
  unfold f_X6_isLetter at h
  refine v_iload_n (pc' := 1) C 0 dX6_isLetter_0 rfl rfl ?_
  refine v_bipush (pc' := 3) C (97) dX6_isLetter_1 bc_97 rfl ?_
  refine v_bipush (pc' := 5) C (122) dX6_isLetter_3 bc_122 rfl ?_
  refine v_purei (pc' := 8) C h (rf := fun r9 => r9) (fun r hr => run_S C (c_X6_in l g _ _ _ r hr) gX6_isLetter_X6_in rfl nd_X6_in ⟨Nat.le_of_ble_eq_true rfl, Nat.le_of_ble_eq_true rfl⟩ ⟨Nat.le_of_ble_eq_true rfl, Nat.le_of_ble_eq_true rfl⟩ (Nat.le_of_ble_eq_true rfl) dX6_isLetter_5 rfl) rfl (fun r_1 h => ?_)
  refine v_chkB h (fun h01 h => ?_)
  exact v_zret (rf := fun (o9 : Int32) => o9) (Wf := fun (o9 : Int32) (u9 : Unit) => []) (ok := fun (o9 : Int32) (u9 : Unit) => True) C Cr h hQ () trivial rfl rfl h01 dX6_isLetter_8
def f_X6_bits_L4 (p0 : Int32) (re4 : Int32 → Int32 → Option (Int32)) (v1_1 : Int32) (v2_2 : Int32) : Option (Int32) :=
  if v2_2 < (31 : Int32) then lett (v1_1 + ((p0 >>> (v2_2 &&& 31)) &&& (1 : Int32))) fun v1_3 =>
  lett (v2_2 + (1 : Int32)) fun v2_4 =>
  re4 v1_3 v2_4
  else some v1_1
def f_X6_bits  (p0 : Int32) : Option (Int32) :=
  loop2 (f_X6_bits_L4 p0) FU (0 : Int32) (0 : Int32)
abbrev rm_X6_bits : Room := { frames := 0, cells := 0, slots := 0, locals := 0 }
theorem nd_X6_bits : yX6_bits.cls ≠ "java/lang/invoke/MethodHandle" ∧ yX6_bits.cls ≠ "java/lang/invoke/VarHandle" ∧ (parseMethodDescriptor yX6_bits.desc).map (fun d => d.parameters.length) = some 1 := by decide +kernel
set_option maxHeartbeats 4000000 in
set_option maxRecDepth 100000 in
theorem c_X6_bits (l : Launch) (g : Gv)   (p0 : Int32) (o : Int32) (h : f_X6_bits  p0 = some o) : Ct l g yX6_bits wsX6_bits rm_X6_bits [.int p0] ([]) (Qi g o (fun _ : Unit => []) (fun _ => True)) := by
  refine enter (ret := (some .int)) (X := []) (pl := []) pn_X6 rfl (Nat.le_of_ble_eq_true rfl) ((List.append_nil _).symm) ?_
  intro p e s m args below meth c A Q C Cr hin hQ
  unfold f_X6_bits at h
  refine v_iconst (pc' := 1) C (0) dX6_bits_0 ic_0 rfl ?_
  refine v_istore_n (pc' := 2) C [1, 0] (lv' := [(0, .int p0), (1, .int (0 : Int32))]) dX6_bits_1 (Nat.le_of_ble_eq_true rfl) rfl rfl ?_
  refine v_iconst (pc' := 3) C (0) dX6_bits_2 ic_0 rfl ?_
  refine v_istore_n (pc' := 4) C [1, 2, 0] (lv' := [(0, .int p0), (1, .int (0 : Int32)), (2, .int (0 : Int32))]) dX6_bits_3 (Nat.le_of_ble_eq_true rfl) rfl rfl ?_
  refine v_loop2 (fun (v1_1 : Int32) (v2_2 : Int32) => V p l e rm_X6_bits s m args below meth c g 3 A 0 0 Q ([]) [] [(0, .int p0), (1, .int v1_1), (2, .int v2_2)] 4 []) (fun re4 ih4 v1_1 v2_2 h => ?_) (0 : Int32) (0 : Int32) h
  unfold f_X6_bits_L4 at h
  refine v_iload_n (pc' := 5) C 2 dX6_bits_4 rfl rfl ?_
  refine v_bipush (pc' := 7) C (31) dX6_bits_5 bc_31 rfl ?_
  refine v_icmp_ge C 24 10 h dX6_bits_7 (by decide) rfl (fun _ h => ?_) (fun _ h => ?_)
  · refine v_iload_n (pc' := 25) C 1 dX6_bits_24 rfl rfl ?_
    exact v_iret (rf := fun (o9 : Int32) => o9) (Wf := fun (o9 : Int32) (u9 : Unit) => []) (ok := fun (o9 : Int32) (u9 : Unit) => True) C Cr h hQ () trivial rfl rfl dX6_bits_25
  · refine v_iload_n (pc' := 11) C 1 dX6_bits_10 rfl rfl ?_
    refine v_iload_n (pc' := 12) C 0 dX6_bits_11 rfl rfl ?_
    refine v_iload_n (pc' := 13) C 2 dX6_bits_12 rfl rfl ?_
    refine v_ishr (pc' := 14) C dX6_bits_13 rfl ?_
    refine v_iconst (pc' := 15) C (1) dX6_bits_14 ic_1 rfl ?_
    refine v_iand (pc' := 16) C dX6_bits_15 rfl ?_
    refine v_iadd (pc' := 17) C dX6_bits_16 rfl ?_
    refine v_leti h (fun v1_3 h => ?_)
    refine v_istore_n (pc' := 18) C [1, 0, 2] (lv' := [(0, .int p0), (1, .int v1_3), (2, .int v2_2)]) dX6_bits_17 (Nat.le_of_ble_eq_true rfl) rfl rfl ?_
    refine v_iinc (pc' := 21) C 2 [1, 2, 0] (1) dX6_bits_18 rfl ic_1 (Nat.le_of_ble_eq_true rfl) h (lw := fun v9 => [(0, .int p0), (1, .int v1_3), (2, .int v9)]) (fun _ => rfl) rfl (fun v2_4 h => ?_)
    refine v_goto C (pc' := 4) dX6_bits_21 (by decide) ?_
    exact ih4 v1_3 v2_4 h
def f_X6_lowest_L2 (p0 : Int32) (re2 : Int32 → Option (Int32)) (v1_1 : Int32) : Option (Int32) :=
  if v1_1 < (30 : Int32) then if ((p0 >>> (v1_1 &&& 31)) &&& (1 : Int32)) = 0 then lett (v1_1 + (1 : Int32)) fun v1_2 =>
  re2 v1_2
  else some v1_1
  else some v1_1
def f_X6_lowest  (p0 : Int32) : Option (Int32) :=
  loop1 (f_X6_lowest_L2 p0) FU (0 : Int32)
abbrev rm_X6_lowest : Room := { frames := 0, cells := 0, slots := 0, locals := 0 }
theorem nd_X6_lowest : yX6_lowest.cls ≠ "java/lang/invoke/MethodHandle" ∧ yX6_lowest.cls ≠ "java/lang/invoke/VarHandle" ∧ (parseMethodDescriptor yX6_lowest.desc).map (fun d => d.parameters.length) = some 1 := by decide +kernel
set_option maxHeartbeats 4000000 in
set_option maxRecDepth 100000 in
theorem c_X6_lowest (l : Launch) (g : Gv)   (p0 : Int32) (o : Int32) (h : f_X6_lowest  p0 = some o) : Ct l g yX6_lowest wsX6_lowest rm_X6_lowest [.int p0] ([]) (Qi g o (fun _ : Unit => []) (fun _ => True)) := by
  refine enter (ret := (some .int)) (X := []) (pl := []) pn_X6 rfl (Nat.le_of_ble_eq_true rfl) ((List.append_nil _).symm) ?_
  intro p e s m args below meth c A Q C Cr hin hQ
  unfold f_X6_lowest at h
  refine v_iconst (pc' := 1) C (0) dX6_lowest_0 ic_0 rfl ?_
  refine v_istore_n (pc' := 2) C [1, 0] (lv' := [(0, .int p0), (1, .int (0 : Int32))]) dX6_lowest_1 (Nat.le_of_ble_eq_true rfl) rfl rfl ?_
  refine v_loop1 (fun (v1_1 : Int32) => V p l e rm_X6_lowest s m args below meth c g 2 A 0 0 Q ([]) [] [(0, .int p0), (1, .int v1_1)] 2 []) (fun re2 ih2 v1_1 h => ?_) (0 : Int32) h
  unfold f_X6_lowest_L2 at h
  refine v_iload_n (pc' := 3) C 1 dX6_lowest_2 rfl rfl ?_
  refine v_bipush (pc' := 5) C (30) dX6_lowest_3 bc_30 rfl ?_
  refine v_icmp_ge C 22 8 h dX6_lowest_5 (by decide) rfl (fun _ h => ?_) (fun _ h => ?_)
  · refine v_iload_n (pc' := 23) C 1 dX6_lowest_22 rfl rfl ?_
    exact v_iret (rf := fun (o9 : Int32) => o9) (Wf := fun (o9 : Int32) (u9 : Unit) => []) (ok := fun (o9 : Int32) (u9 : Unit) => True) C Cr h hQ () trivial rfl rfl dX6_lowest_23
  · refine v_iload_n (pc' := 9) C 0 dX6_lowest_8 rfl rfl ?_
    refine v_iload_n (pc' := 10) C 1 dX6_lowest_9 rfl rfl ?_
    refine v_ishr (pc' := 11) C dX6_lowest_10 rfl ?_
    refine v_iconst (pc' := 12) C (1) dX6_lowest_11 ic_1 rfl ?_
    refine v_iand (pc' := 13) C dX6_lowest_12 rfl ?_
    refine v_if_ne C 22 16 h dX6_lowest_13 (by decide) rfl (fun _ h => ?_) (fun _ h => ?_)
    · refine v_iload_n (pc' := 23) C 1 dX6_lowest_22 rfl rfl ?_
      exact v_iret (rf := fun (o9 : Int32) => o9) (Wf := fun (o9 : Int32) (u9 : Unit) => []) (ok := fun (o9 : Int32) (u9 : Unit) => True) C Cr h hQ () trivial rfl rfl dX6_lowest_23
    · refine v_iinc (pc' := 19) C 1 [1, 0] (1) dX6_lowest_16 rfl ic_1 (Nat.le_of_ble_eq_true rfl) h (lw := fun v9 => [(0, .int p0), (1, .int v9)]) (fun _ => rfl) rfl (fun v1_2 h => ?_)
      refine v_goto C (pc' := 2) dX6_lowest_19 (by decide) ?_
      exact ih2 v1_2 h
def f_X6_saves_L52  (re52 : Int32 → Md → Option (Md)) (v1_2 : Int32) (zM_3 : Md) : Option (Md) :=
  if v1_2 < (319 : Int32) then getA (M_s zM_3) 319 v1_2 fun e_5 =>
  chkA 1914 (((319 : Int32) * (M_saved zM_3)) + v1_2) (lett (M_before_set zM_3 (upd (M_before zM_3) ((((319 : Int32) * (M_saved zM_3)) + v1_2)).toNatClampNeg e_5)) fun zM_6 =>
  lett (v1_2 + (1 : Int32)) fun v1_7 =>
  re52 v1_7 zM_6)
  else lett (M_saved_set zM_3 ((M_saved zM_3) + (1 : Int32))) fun zM_4 =>
  some zM_4
def f_X6_saves_J50  (zM_1 : Md) : Option (Md) :=
  loop2 (f_X6_saves_L52 ) FU (0 : Int32) zM_1
def f_X6_saves_L11  (re11 : Int32 → Md → Option (Md)) (v1_8 : Int32) (zM_9 : Md) : Option (Md) :=
  if v1_8 < (1595 : Int32) then getA (M_before zM_9) 1914 ((319 : Int32) + v1_8) fun e_11 =>
  chkA 1914 v1_8 (lett (M_before_set zM_9 (upd (M_before zM_9) (v1_8).toNatClampNeg e_11)) fun zM_12 =>
  lett (v1_8 + (1 : Int32)) fun v1_13 =>
  re11 v1_13 zM_12)
  else lett (M_saved_set zM_9 ((M_saved zM_9) - (1 : Int32))) fun zM_10 =>
  f_X6_saves_J50  zM_10
def f_X6_saves (zM : Md)  : Option (Md) :=
  if (M_saved zM) = (6 : Int32) then loop2 (f_X6_saves_L11 ) FU (0 : Int32) zM
  else f_X6_saves_J50  zM
abbrev rm_X6_saves : Room := { frames := 0, cells := 0, slots := 0, locals := 0 }
theorem in_X6_saves_6 : ∀ w ∈ wsX60, w ∈ wsX6_saves := fun _ h => List.mem_cons_of_mem _ (List.mem_append_right _ h)
theorem k_X6_saves_1 : Cond.fieldLink RX6 45 "DodgingHangmanModel" "saved" "I" ∈ wsX6_saves := List.mem_of_getElem? (i := 1) rfl
theorem k_X6_saves_2 : Cond.fieldLink RX6 16 "DodgingHangmanModel" "before" "[I" ∈ wsX6_saves := List.mem_of_getElem? (i := 2) rfl
theorem k_X6_saves_3 : Cond.fieldLink RX6 7 "DodgingHangmanModel" "s" "[I" ∈ wsX6_saves := List.mem_of_getElem? (i := 3) rfl
theorem nd_X6_saves : yX6_saves.cls ≠ "java/lang/invoke/MethodHandle" ∧ yX6_saves.cls ≠ "java/lang/invoke/VarHandle" ∧ (parseMethodDescriptor yX6_saves.desc).map (fun d => d.parameters.length) = some 0 := by decide +kernel
set_option maxHeartbeats 4000000 in
set_option maxRecDepth 100000 in
theorem c_X6_saves (l : Launch) (g : Gv) (aM : A10) (zM : Md)  (o : Md) (h : f_X6_saves zM  = some o) : Ct l g yX6_saves wsX6_saves rm_X6_saves [.ref aM.1] (wM g aM zM) (Qv g (fun _ : Unit => wM g aM o) (fun _ => True)) := by
  refine enter (ret := none) (X := wM g aM zM) (pl := []) pn_X6 rfl (Nat.le_of_ble_eq_true rfl) ((List.append_nil _).symm) ?_
  intro p e s m args below meth c A Q C Cr hin hQ
  unfold f_X6_saves at h
  have J50 : ∀ (zM_1 : Md), f_X6_saves_J50  zM_1 = some o → V p l e rm_X6_saves s m args below meth c g 2 A 0 0 Q (wM g aM zM_1) [] [(0, .ref aM.1)] 50 [] := by
    intro zM_1 h
    unfold f_X6_saves_J50 at h
    refine v_iconst (pc' := 51) C (0) dX6_saves_50 ic_0 rfl ?_
    refine v_istore_n (pc' := 52) C [1, 0] (lv' := [(0, .ref aM.1), (1, .int (0 : Int32))]) dX6_saves_51 (Nat.le_of_ble_eq_true rfl) rfl rfl ?_
    refine v_loop2 (fun (v1_2 : Int32) (zM_3 : Md) => V p l e rm_X6_saves s m args below meth c g 2 A 0 0 Q (wM g aM zM_3) [] [(0, .ref aM.1), (1, .int v1_2)] 52 []) (fun re52 ih52 v1_2 zM_3 h => ?_) (0 : Int32) zM_1 h
    unfold f_X6_saves_L52 at h
    refine v_iload_n (pc' := 53) C 1 dX6_saves_52 rfl rfl ?_
    refine v_sipush (pc' := 56) C (319) dX6_saves_53 sc_319 rfl ?_
    refine v_icmp_ge C 86 59 h dX6_saves_56 (by decide) rfl (fun _ h => ?_) (fun _ h => ?_)
    · refine v_aload_n (pc' := 87) C 0 dX6_saves_86 rfl rfl ?_
      refine v_dup (pc' := 88) C dX6_saves_87 rfl rfl ?_
      refine g_M_saved (pc' := 91) C 0 in_X6_saves_6 rfl k_X6_saves_1 rfl dX6_saves_88 rfl ?_
      refine v_iconst (pc' := 92) C (1) dX6_saves_91 ic_1 rfl ?_
      refine v_iadd (pc' := 93) C dX6_saves_92 rfl ?_
      refine p_M_saved (pc' := 96) C h 0 (fun z9 => wM g aM z9) in_X6_saves_6 rfl k_X6_saves_1 rfl dX6_saves_93 (Nat.le_of_ble_eq_true rfl) rfl (fun zM_4 h => ?_)
      exact v_vret (Wf := fun (o9 : Md) (u9 : Unit) => wM g aM o9) (ok := fun (o9 : Md) (u9 : Unit) => True) C Cr h hQ () trivial rfl dX6_saves_96
    · refine v_aload_n (pc' := 60) C 0 dX6_saves_59 rfl rfl ?_
      refine g_M_before (pc' := 63) C 0 in_X6_saves_6 rfl k_X6_saves_2 rfl dX6_saves_60 rfl ?_
      refine v_sipush (pc' := 66) C (319) dX6_saves_63 sc_319 rfl ?_
      refine v_aload_n (pc' := 67) C 0 dX6_saves_66 rfl rfl ?_
      refine g_M_saved (pc' := 70) C 0 in_X6_saves_6 rfl k_X6_saves_1 rfl dX6_saves_67 rfl ?_
      refine v_imul (pc' := 71) C dX6_saves_70 rfl ?_
      refine v_iload_n (pc' := 72) C 1 dX6_saves_71 rfl rfl ?_
      refine v_iadd (pc' := 73) C dX6_saves_72 rfl ?_
      refine v_aload_n (pc' := 74) C 0 dX6_saves_73 rfl rfl ?_
      refine g_M_s (pc' := 77) C 0 in_X6_saves_6 rfl k_X6_saves_3 rfl dX6_saves_74 rfl ?_
      refine v_iload_n (pc' := 78) C 1 dX6_saves_77 rfl rfl ?_
      refine v_iald (pc' := 79) C h 1 rfl dX6_saves_78 rfl (fun e_5 h => ?_)
      refine v_iast (pc' := 80) C h 3 (fun z9 => wM g aM z9) rfl rfl dX6_saves_79 rfl (fun zM_6 h => ?_)
      refine v_iinc (pc' := 83) C 1 [1, 0] (1) dX6_saves_80 rfl ic_1 (Nat.le_of_ble_eq_true rfl) h (lw := fun v9 => [(0, .ref aM.1), (1, .int v9)]) (fun _ => rfl) rfl (fun v1_7 h => ?_)
      refine v_goto C (pc' := 52) dX6_saves_83 (by decide) ?_
      exact ih52 v1_7 zM_6 h
  refine v_aload_n (pc' := 1) C 0 dX6_saves_0 rfl rfl ?_
  refine g_M_saved (pc' := 4) C 0 in_X6_saves_6 rfl k_X6_saves_1 rfl dX6_saves_1 rfl ?_
  refine v_bipush (pc' := 6) C (6) dX6_saves_4 bc_6 rfl ?_
  refine v_icmp_ne C 50 9 h dX6_saves_6 (by decide) rfl (fun _ h => ?_) (fun _ h => ?_)
  · exact J50 zM h
  · refine v_iconst (pc' := 10) C (0) dX6_saves_9 ic_0 rfl ?_
    refine v_istore_n (pc' := 11) C [1, 0] (lv' := [(0, .ref aM.1), (1, .int (0 : Int32))]) dX6_saves_10 (Nat.le_of_ble_eq_true rfl) rfl rfl ?_
    refine v_loop2 (fun (v1_8 : Int32) (zM_9 : Md) => V p l e rm_X6_saves s m args below meth c g 2 A 0 0 Q (wM g aM zM_9) [] [(0, .ref aM.1), (1, .int v1_8)] 11 []) (fun re11 ih11 v1_8 zM_9 h => ?_) (0 : Int32) zM h
    unfold f_X6_saves_L11 at h
    refine v_iload_n (pc' := 12) C 1 dX6_saves_11 rfl rfl ?_
    refine v_sipush (pc' := 15) C (1595) dX6_saves_12 sc_1595 rfl ?_
    refine v_icmp_ge C 40 18 h dX6_saves_15 (by decide) rfl (fun _ h => ?_) (fun _ h => ?_)
    · refine v_aload_n (pc' := 41) C 0 dX6_saves_40 rfl rfl ?_
      refine v_dup (pc' := 42) C dX6_saves_41 rfl rfl ?_
      refine g_M_saved (pc' := 45) C 0 in_X6_saves_6 rfl k_X6_saves_1 rfl dX6_saves_42 rfl ?_
      refine v_iconst (pc' := 46) C (1) dX6_saves_45 ic_1 rfl ?_
      refine v_isub (pc' := 47) C dX6_saves_46 rfl ?_
      refine p_M_saved (pc' := 50) C h 0 (fun z9 => wM g aM z9) in_X6_saves_6 rfl k_X6_saves_1 rfl dX6_saves_47 (Nat.le_of_ble_eq_true rfl) rfl (fun zM_10 h => ?_)
      refine v_lv [0] (lv' := [(0, .ref aM.1)]) rfl ?_
      exact J50 zM_10 h
    · refine v_aload_n (pc' := 19) C 0 dX6_saves_18 rfl rfl ?_
      refine g_M_before (pc' := 22) C 0 in_X6_saves_6 rfl k_X6_saves_2 rfl dX6_saves_19 rfl ?_
      refine v_iload_n (pc' := 23) C 1 dX6_saves_22 rfl rfl ?_
      refine v_aload_n (pc' := 24) C 0 dX6_saves_23 rfl rfl ?_
      refine g_M_before (pc' := 27) C 0 in_X6_saves_6 rfl k_X6_saves_2 rfl dX6_saves_24 rfl ?_
      refine v_sipush (pc' := 30) C (319) dX6_saves_27 sc_319 rfl ?_
      refine v_iload_n (pc' := 31) C 1 dX6_saves_30 rfl rfl ?_
      refine v_iadd (pc' := 32) C dX6_saves_31 rfl ?_
      refine v_iald (pc' := 33) C h 3 rfl dX6_saves_32 rfl (fun e_11 h => ?_)
      refine v_iast (pc' := 34) C h 3 (fun z9 => wM g aM z9) rfl rfl dX6_saves_33 rfl (fun zM_12 h => ?_)
      refine v_iinc (pc' := 37) C 1 [1, 0] (1) dX6_saves_34 rfl ic_1 (Nat.le_of_ble_eq_true rfl) h (lw := fun v9 => [(0, .ref aM.1), (1, .int v9)]) (fun _ => rfl) rfl (fun v1_13 h => ?_)
      refine v_goto C (pc' := 11) dX6_saves_37 (by decide) ?_
      exact ih11 v1_13 zM_12 h
def f_X6_putAside_L2  (re2 : Int32 → Md → Option (Md)) (v1_1 : Int32) (zM_2 : Md) : Option (Md) :=
  if v1_1 < (319 : Int32) then getA (M_s zM_2) 319 v1_1 fun e_3 =>
  chkA 319 v1_1 (lett (M_aside_set zM_2 (upd (M_aside zM_2) (v1_1).toNatClampNeg e_3)) fun zM_4 =>
  lett (v1_1 + (1 : Int32)) fun v1_5 =>
  re2 v1_5 zM_4)
  else some zM_2
def f_X6_putAside (zM : Md)  : Option (Md) :=
  loop2 (f_X6_putAside_L2 ) FU (0 : Int32) zM
abbrev rm_X6_putAside : Room := { frames := 0, cells := 0, slots := 0, locals := 0 }
theorem in_X6_putAside_6 : ∀ w ∈ wsX60, w ∈ wsX6_putAside := fun _ h => List.mem_cons_of_mem _ (List.mem_append_right _ h)
theorem k_X6_putAside_1 : Cond.fieldLink RX6 13 "DodgingHangmanModel" "aside" "[I" ∈ wsX6_putAside := List.mem_of_getElem? (i := 1) rfl
theorem k_X6_putAside_2 : Cond.fieldLink RX6 7 "DodgingHangmanModel" "s" "[I" ∈ wsX6_putAside := List.mem_of_getElem? (i := 2) rfl
theorem nd_X6_putAside : yX6_putAside.cls ≠ "java/lang/invoke/MethodHandle" ∧ yX6_putAside.cls ≠ "java/lang/invoke/VarHandle" ∧ (parseMethodDescriptor yX6_putAside.desc).map (fun d => d.parameters.length) = some 0 := by decide +kernel
set_option maxHeartbeats 4000000 in
set_option maxRecDepth 100000 in
theorem c_X6_putAside (l : Launch) (g : Gv) (aM : A10) (zM : Md)  (o : Md) (h : f_X6_putAside zM  = some o) : Ct l g yX6_putAside wsX6_putAside rm_X6_putAside [.ref aM.1] (wM g aM zM) (Qv g (fun _ : Unit => wM g aM o) (fun _ => True)) := by
  refine enter (ret := none) (X := wM g aM zM) (pl := []) pn_X6 rfl (Nat.le_of_ble_eq_true rfl) ((List.append_nil _).symm) ?_
  intro p e s m args below meth c A Q C Cr hin hQ
  unfold f_X6_putAside at h
  refine v_iconst (pc' := 1) C (0) dX6_putAside_0 ic_0 rfl ?_
  refine v_istore_n (pc' := 2) C [1, 0] (lv' := [(0, .ref aM.1), (1, .int (0 : Int32))]) dX6_putAside_1 (Nat.le_of_ble_eq_true rfl) rfl rfl ?_
  refine v_loop2 (fun (v1_1 : Int32) (zM_2 : Md) => V p l e rm_X6_putAside s m args below meth c g 2 A 0 0 Q (wM g aM zM_2) [] [(0, .ref aM.1), (1, .int v1_1)] 2 []) (fun re2 ih2 v1_1 zM_2 h => ?_) (0 : Int32) zM h
  unfold f_X6_putAside_L2 at h
  refine v_iload_n (pc' := 3) C 1 dX6_putAside_2 rfl rfl ?_
  refine v_sipush (pc' := 6) C (319) dX6_putAside_3 sc_319 rfl ?_
  refine v_icmp_ge C 27 9 h dX6_putAside_6 (by decide) rfl (fun _ h => ?_) (fun _ h => ?_)
  · exact v_vret (Wf := fun (o9 : Md) (u9 : Unit) => wM g aM o9) (ok := fun (o9 : Md) (u9 : Unit) => True) C Cr h hQ () trivial rfl dX6_putAside_27
  · refine v_aload_n (pc' := 10) C 0 dX6_putAside_9 rfl rfl ?_
    refine g_M_aside (pc' := 13) C 0 in_X6_putAside_6 rfl k_X6_putAside_1 rfl dX6_putAside_10 rfl ?_
    refine v_iload_n (pc' := 14) C 1 dX6_putAside_13 rfl rfl ?_
    refine v_aload_n (pc' := 15) C 0 dX6_putAside_14 rfl rfl ?_
    refine g_M_s (pc' := 18) C 0 in_X6_putAside_6 rfl k_X6_putAside_2 rfl dX6_putAside_15 rfl ?_
    refine v_iload_n (pc' := 19) C 1 dX6_putAside_18 rfl rfl ?_
    refine v_iald (pc' := 20) C h 1 rfl dX6_putAside_19 rfl (fun e_3 h => ?_)
    refine v_iast (pc' := 21) C h 2 (fun z9 => wM g aM z9) rfl rfl dX6_putAside_20 rfl (fun zM_4 h => ?_)
    refine v_iinc (pc' := 24) C 1 [1, 0] (1) dX6_putAside_21 rfl ic_1 (Nat.le_of_ble_eq_true rfl) h (lw := fun v9 => [(0, .ref aM.1), (1, .int v9)]) (fun _ => rfl) rfl (fun v1_5 h => ?_)
    refine v_goto C (pc' := 2) dX6_putAside_24 (by decide) ?_
    exact ih2 v1_5 zM_4 h
def f_X6_putBack_L2  (re2 : Int32 → Md → Option (Md)) (v1_1 : Int32) (zM_2 : Md) : Option (Md) :=
  if v1_1 < (319 : Int32) then getA (M_aside zM_2) 319 v1_1 fun e_3 =>
  chkA 319 v1_1 (lett (M_s_set zM_2 (upd (M_s zM_2) (v1_1).toNatClampNeg e_3)) fun zM_4 =>
  lett (v1_1 + (1 : Int32)) fun v1_5 =>
  re2 v1_5 zM_4)
  else some zM_2
def f_X6_putBack (zM : Md)  : Option (Md) :=
  loop2 (f_X6_putBack_L2 ) FU (0 : Int32) zM
abbrev rm_X6_putBack : Room := { frames := 0, cells := 0, slots := 0, locals := 0 }
theorem in_X6_putBack_6 : ∀ w ∈ wsX60, w ∈ wsX6_putBack := fun _ h => List.mem_cons_of_mem _ (List.mem_append_right _ h)
theorem k_X6_putBack_1 : Cond.fieldLink RX6 7 "DodgingHangmanModel" "s" "[I" ∈ wsX6_putBack := List.mem_of_getElem? (i := 1) rfl
theorem k_X6_putBack_2 : Cond.fieldLink RX6 13 "DodgingHangmanModel" "aside" "[I" ∈ wsX6_putBack := List.mem_of_getElem? (i := 2) rfl
theorem nd_X6_putBack : yX6_putBack.cls ≠ "java/lang/invoke/MethodHandle" ∧ yX6_putBack.cls ≠ "java/lang/invoke/VarHandle" ∧ (parseMethodDescriptor yX6_putBack.desc).map (fun d => d.parameters.length) = some 0 := by decide +kernel
set_option maxHeartbeats 4000000 in
set_option maxRecDepth 100000 in
theorem c_X6_putBack (l : Launch) (g : Gv) (aM : A10) (zM : Md)  (o : Md) (h : f_X6_putBack zM  = some o) : Ct l g yX6_putBack wsX6_putBack rm_X6_putBack [.ref aM.1] (wM g aM zM) (Qv g (fun _ : Unit => wM g aM o) (fun _ => True)) := by
  refine enter (ret := none) (X := wM g aM zM) (pl := []) pn_X6 rfl (Nat.le_of_ble_eq_true rfl) ((List.append_nil _).symm) ?_
  intro p e s m args below meth c A Q C Cr hin hQ
  unfold f_X6_putBack at h
  refine v_iconst (pc' := 1) C (0) dX6_putBack_0 ic_0 rfl ?_
  refine v_istore_n (pc' := 2) C [1, 0] (lv' := [(0, .ref aM.1), (1, .int (0 : Int32))]) dX6_putBack_1 (Nat.le_of_ble_eq_true rfl) rfl rfl ?_
  refine v_loop2 (fun (v1_1 : Int32) (zM_2 : Md) => V p l e rm_X6_putBack s m args below meth c g 2 A 0 0 Q (wM g aM zM_2) [] [(0, .ref aM.1), (1, .int v1_1)] 2 []) (fun re2 ih2 v1_1 zM_2 h => ?_) (0 : Int32) zM h
  unfold f_X6_putBack_L2 at h
  refine v_iload_n (pc' := 3) C 1 dX6_putBack_2 rfl rfl ?_
  refine v_sipush (pc' := 6) C (319) dX6_putBack_3 sc_319 rfl ?_
  refine v_icmp_ge C 27 9 h dX6_putBack_6 (by decide) rfl (fun _ h => ?_) (fun _ h => ?_)
  · exact v_vret (Wf := fun (o9 : Md) (u9 : Unit) => wM g aM o9) (ok := fun (o9 : Md) (u9 : Unit) => True) C Cr h hQ () trivial rfl dX6_putBack_27
  · refine v_aload_n (pc' := 10) C 0 dX6_putBack_9 rfl rfl ?_
    refine g_M_s (pc' := 13) C 0 in_X6_putBack_6 rfl k_X6_putBack_1 rfl dX6_putBack_10 rfl ?_
    refine v_iload_n (pc' := 14) C 1 dX6_putBack_13 rfl rfl ?_
    refine v_aload_n (pc' := 15) C 0 dX6_putBack_14 rfl rfl ?_
    refine g_M_aside (pc' := 18) C 0 in_X6_putBack_6 rfl k_X6_putBack_2 rfl dX6_putBack_15 rfl ?_
    refine v_iload_n (pc' := 19) C 1 dX6_putBack_18 rfl rfl ?_
    refine v_iald (pc' := 20) C h 2 rfl dX6_putBack_19 rfl (fun e_3 h => ?_)
    refine v_iast (pc' := 21) C h 1 (fun z9 => wM g aM z9) rfl rfl dX6_putBack_20 rfl (fun zM_4 h => ?_)
    refine v_iinc (pc' := 24) C 1 [1, 0] (1) dX6_putBack_21 rfl ic_1 (Nat.le_of_ble_eq_true rfl) h (lw := fun v9 => [(0, .ref aM.1), (1, .int v9)]) (fun _ => rfl) rfl (fun v1_5 h => ?_)
    refine v_goto C (pc' := 2) dX6_putBack_24 (by decide) ?_
    exact ih2 v1_5 zM_4 h
def f_X6_letter (zM : Md) (p1 : Int32) (p2 : Int32) : Option (Int32) :=
  getA (M_s zM) 319 (((79 : Int32) + ((8 : Int32) * p1)) + p2) fun e_1 =>
  some e_1
abbrev rm_X6_letter : Room := { frames := 0, cells := 0, slots := 0, locals := 0 }
theorem in_X6_letter_6 : ∀ w ∈ wsX60, w ∈ wsX6_letter := fun _ h => List.mem_cons_of_mem _ (List.mem_append_right _ h)
theorem k_X6_letter_1 : Cond.fieldLink RX6 7 "DodgingHangmanModel" "s" "[I" ∈ wsX6_letter := List.mem_of_getElem? (i := 1) rfl
theorem nd_X6_letter : yX6_letter.cls ≠ "java/lang/invoke/MethodHandle" ∧ yX6_letter.cls ≠ "java/lang/invoke/VarHandle" ∧ (parseMethodDescriptor yX6_letter.desc).map (fun d => d.parameters.length) = some 2 := by decide +kernel
set_option maxHeartbeats 4000000 in
set_option maxRecDepth 100000 in
theorem c_X6_letter (l : Launch) (g : Gv) (aM : A10) (zM : Md) (p1 : Int32) (p2 : Int32) (o : Int32) (h : f_X6_letter zM p1 p2 = some o) : Ct l g yX6_letter wsX6_letter rm_X6_letter [.ref aM.1, .int p1, .int p2] (wM g aM zM) (Qi g o (fun _ : Unit => wM g aM zM) (fun _ => True)) := by
  refine enter (ret := (some .int)) (X := wM g aM zM) (pl := []) pn_X6 rfl (Nat.le_of_ble_eq_true rfl) ((List.append_nil _).symm) ?_
  intro p e s m args below meth c A Q C Cr hin hQ
  unfold f_X6_letter at h
  refine v_aload_n (pc' := 1) C 0 dX6_letter_0 rfl rfl ?_
  refine g_M_s (pc' := 4) C 0 in_X6_letter_6 rfl k_X6_letter_1 rfl dX6_letter_1 rfl ?_
  refine v_bipush (pc' := 6) C (79) dX6_letter_4 bc_79 rfl ?_
  refine v_bipush (pc' := 8) C (8) dX6_letter_6 bc_8 rfl ?_
  refine v_iload_n (pc' := 9) C 1 dX6_letter_8 rfl rfl ?_
  refine v_imul (pc' := 10) C dX6_letter_9 rfl ?_
  refine v_iadd (pc' := 11) C dX6_letter_10 rfl ?_
  refine v_iload_n (pc' := 12) C 2 dX6_letter_11 rfl rfl ?_
  refine v_iadd (pc' := 13) C dX6_letter_12 rfl ?_
  refine v_iald (pc' := 14) C h 1 rfl dX6_letter_13 rfl (fun e_1 h => ?_)
  exact v_iret (rf := fun (o9 : Int32) => o9) (Wf := fun (o9 : Int32) (u9 : Unit) => wM g aM zM) (ok := fun (o9 : Int32) (u9 : Unit) => True) C Cr h hQ () trivial rfl rfl dX6_letter_14
def f_X6_isCandidate (zM : Md) (p1 : Int32) : Option (Int32) :=
  getA (M_s zM) 319 (7 : Int32) fun e_1 =>
  if ((e_1 >>> (p1 &&& 31)) &&& (1 : Int32)) = (1 : Int32) then some (1 : Int32)
  else some (0 : Int32)
abbrev rm_X6_isCandidate : Room := { frames := 0, cells := 0, slots := 0, locals := 0 }
theorem in_X6_isCandidate_6 : ∀ w ∈ wsX60, w ∈ wsX6_isCandidate := fun _ h => List.mem_cons_of_mem _ (List.mem_append_right _ h)
theorem k_X6_isCandidate_1 : Cond.fieldLink RX6 7 "DodgingHangmanModel" "s" "[I" ∈ wsX6_isCandidate := List.mem_of_getElem? (i := 1) rfl
theorem nd_X6_isCandidate : yX6_isCandidate.cls ≠ "java/lang/invoke/MethodHandle" ∧ yX6_isCandidate.cls ≠ "java/lang/invoke/VarHandle" ∧ (parseMethodDescriptor yX6_isCandidate.desc).map (fun d => d.parameters.length) = some 1 := by decide +kernel
set_option maxHeartbeats 4000000 in
set_option maxRecDepth 100000 in
theorem c_X6_isCandidate (l : Launch) (g : Gv) (aM : A10) (zM : Md) (p1 : Int32) (o : Int32) (h : f_X6_isCandidate zM p1 = some o) : Ct l g yX6_isCandidate wsX6_isCandidate rm_X6_isCandidate [.ref aM.1, .int p1] (wM g aM zM) (Qi g o (fun _ : Unit => wM g aM zM) (fun _ => True)) := by
  refine enter (ret := (some .boolean)) (X := wM g aM zM) (pl := []) pn_X6 rfl (Nat.le_of_ble_eq_true rfl) ((List.append_nil _).symm) ?_
  intro p e s m args below meth c A Q C Cr hin hQ
  unfold f_X6_isCandidate at h
  refine v_aload_n (pc' := 1) C 0 dX6_isCandidate_0 rfl rfl ?_
  refine g_M_s (pc' := 4) C 0 in_X6_isCandidate_6 rfl k_X6_isCandidate_1 rfl dX6_isCandidate_1 rfl ?_
  refine v_bipush (pc' := 6) C (7) dX6_isCandidate_4 bc_7 rfl ?_
  refine v_iald (pc' := 7) C h 1 rfl dX6_isCandidate_6 rfl (fun e_1 h => ?_)
  refine v_iload_n (pc' := 8) C 1 dX6_isCandidate_7 rfl rfl ?_
  refine v_ishr (pc' := 9) C dX6_isCandidate_8 rfl ?_
  refine v_iconst (pc' := 10) C (1) dX6_isCandidate_9 ic_1 rfl ?_
  refine v_iand (pc' := 11) C dX6_isCandidate_10 rfl ?_
  refine v_iconst (pc' := 12) C (1) dX6_isCandidate_11 ic_1 rfl ?_
  refine v_icmp_ne C 19 15 h dX6_isCandidate_12 (by decide) rfl (fun _ h => ?_) (fun _ h => ?_)
  · refine v_iconst (pc' := 20) C (0) dX6_isCandidate_19 ic_0 rfl ?_
    exact v_zret (rf := fun (o9 : Int32) => o9) (Wf := fun (o9 : Int32) (u9 : Unit) => wM g aM zM) (ok := fun (o9 : Int32) (u9 : Unit) => True) C Cr h hQ () trivial rfl rfl (Or.inl rfl) dX6_isCandidate_20
  · refine v_iconst (pc' := 16) C (1) dX6_isCandidate_15 ic_1 rfl ?_
    refine v_goto C (pc' := 20) dX6_isCandidate_16 (by decide) ?_
    exact v_zret (rf := fun (o9 : Int32) => o9) (Wf := fun (o9 : Int32) (u9 : Unit) => wM g aM zM) (ok := fun (o9 : Int32) (u9 : Unit) => True) C Cr h hQ () trivial rfl rfl (Or.inr rfl) dX6_isCandidate_20
def f_X6_isGuessed (zM : Md) (p1 : Int32) : Option (Int32) :=
  getA (M_s zM) 319 (5 : Int32) fun e_1 =>
  if ((e_1 >>> ((p1 - (97 : Int32)) &&& 31)) &&& (1 : Int32)) = (1 : Int32) then some (1 : Int32)
  else some (0 : Int32)
abbrev rm_X6_isGuessed : Room := { frames := 0, cells := 0, slots := 0, locals := 0 }
theorem in_X6_isGuessed_6 : ∀ w ∈ wsX60, w ∈ wsX6_isGuessed := fun _ h => List.mem_cons_of_mem _ (List.mem_append_right _ h)
theorem k_X6_isGuessed_1 : Cond.fieldLink RX6 7 "DodgingHangmanModel" "s" "[I" ∈ wsX6_isGuessed := List.mem_of_getElem? (i := 1) rfl
theorem nd_X6_isGuessed : yX6_isGuessed.cls ≠ "java/lang/invoke/MethodHandle" ∧ yX6_isGuessed.cls ≠ "java/lang/invoke/VarHandle" ∧ (parseMethodDescriptor yX6_isGuessed.desc).map (fun d => d.parameters.length) = some 1 := by decide +kernel
set_option maxHeartbeats 4000000 in
set_option maxRecDepth 100000 in
theorem c_X6_isGuessed (l : Launch) (g : Gv) (aM : A10) (zM : Md) (p1 : Int32) (o : Int32) (h : f_X6_isGuessed zM p1 = some o) : Ct l g yX6_isGuessed wsX6_isGuessed rm_X6_isGuessed [.ref aM.1, .int p1] (wM g aM zM) (Qi g o (fun _ : Unit => wM g aM zM) (fun _ => True)) := by
  refine enter (ret := (some .boolean)) (X := wM g aM zM) (pl := []) pn_X6 rfl (Nat.le_of_ble_eq_true rfl) ((List.append_nil _).symm) ?_
  intro p e s m args below meth c A Q C Cr hin hQ
  unfold f_X6_isGuessed at h
  refine v_aload_n (pc' := 1) C 0 dX6_isGuessed_0 rfl rfl ?_
  refine g_M_s (pc' := 4) C 0 in_X6_isGuessed_6 rfl k_X6_isGuessed_1 rfl dX6_isGuessed_1 rfl ?_
  refine v_iconst (pc' := 5) C (5) dX6_isGuessed_4 ic_5 rfl ?_
  refine v_iald (pc' := 6) C h 1 rfl dX6_isGuessed_5 rfl (fun e_1 h => ?_)
  refine v_iload_n (pc' := 7) C 1 dX6_isGuessed_6 rfl rfl ?_
  refine v_bipush (pc' := 9) C (97) dX6_isGuessed_7 bc_97 rfl ?_
  refine v_isub (pc' := 10) C dX6_isGuessed_9 rfl ?_
  refine v_ishr (pc' := 11) C dX6_isGuessed_10 rfl ?_
  refine v_iconst (pc' := 12) C (1) dX6_isGuessed_11 ic_1 rfl ?_
  refine v_iand (pc' := 13) C dX6_isGuessed_12 rfl ?_
  refine v_iconst (pc' := 14) C (1) dX6_isGuessed_13 ic_1 rfl ?_
  refine v_icmp_ne C 21 17 h dX6_isGuessed_14 (by decide) rfl (fun _ h => ?_) (fun _ h => ?_)
  · refine v_iconst (pc' := 22) C (0) dX6_isGuessed_21 ic_0 rfl ?_
    exact v_zret (rf := fun (o9 : Int32) => o9) (Wf := fun (o9 : Int32) (u9 : Unit) => wM g aM zM) (ok := fun (o9 : Int32) (u9 : Unit) => True) C Cr h hQ () trivial rfl rfl (Or.inl rfl) dX6_isGuessed_22
  · refine v_iconst (pc' := 18) C (1) dX6_isGuessed_17 ic_1 rfl ?_
    refine v_goto C (pc' := 22) dX6_isGuessed_18 (by decide) ?_
    exact v_zret (rf := fun (o9 : Int32) => o9) (Wf := fun (o9 : Int32) (u9 : Unit) => wM g aM zM) (ok := fun (o9 : Int32) (u9 : Unit) => True) C Cr h hQ () trivial rfl rfl (Or.inr rfl) dX6_isGuessed_22
def f_X6_runs (zM : Md)  : Option (Int32) :=
  getA (M_s zM) 319 (2 : Int32) fun e_1 =>
  if e_1 = (1 : Int32) then some (1 : Int32)
  else some (0 : Int32)
abbrev rm_X6_runs : Room := { frames := 0, cells := 0, slots := 0, locals := 0 }
theorem in_X6_runs_6 : ∀ w ∈ wsX60, w ∈ wsX6_runs := fun _ h => List.mem_cons_of_mem _ (List.mem_append_right _ h)
theorem k_X6_runs_1 : Cond.fieldLink RX6 7 "DodgingHangmanModel" "s" "[I" ∈ wsX6_runs := List.mem_of_getElem? (i := 1) rfl
theorem nd_X6_runs : yX6_runs.cls ≠ "java/lang/invoke/MethodHandle" ∧ yX6_runs.cls ≠ "java/lang/invoke/VarHandle" ∧ (parseMethodDescriptor yX6_runs.desc).map (fun d => d.parameters.length) = some 0 := by decide +kernel
set_option maxHeartbeats 4000000 in
set_option maxRecDepth 100000 in
theorem c_X6_runs (l : Launch) (g : Gv) (aM : A10) (zM : Md)  (o : Int32) (h : f_X6_runs zM  = some o) : Ct l g yX6_runs wsX6_runs rm_X6_runs [.ref aM.1] (wM g aM zM) (Qi g o (fun _ : Unit => wM g aM zM) (fun _ => True)) := by
  refine enter (ret := (some .boolean)) (X := wM g aM zM) (pl := []) pn_X6 rfl (Nat.le_of_ble_eq_true rfl) ((List.append_nil _).symm) ?_
  intro p e s m args below meth c A Q C Cr hin hQ
  unfold f_X6_runs at h
  refine v_aload_n (pc' := 1) C 0 dX6_runs_0 rfl rfl ?_
  refine g_M_s (pc' := 4) C 0 in_X6_runs_6 rfl k_X6_runs_1 rfl dX6_runs_1 rfl ?_
  refine v_iconst (pc' := 5) C (2) dX6_runs_4 ic_2 rfl ?_
  refine v_iald (pc' := 6) C h 1 rfl dX6_runs_5 rfl (fun e_1 h => ?_)
  refine v_iconst (pc' := 7) C (1) dX6_runs_6 ic_1 rfl ?_
  refine v_icmp_ne C 14 10 h dX6_runs_7 (by decide) rfl (fun _ h => ?_) (fun _ h => ?_)
  · refine v_iconst (pc' := 15) C (0) dX6_runs_14 ic_0 rfl ?_
    exact v_zret (rf := fun (o9 : Int32) => o9) (Wf := fun (o9 : Int32) (u9 : Unit) => wM g aM zM) (ok := fun (o9 : Int32) (u9 : Unit) => True) C Cr h hQ () trivial rfl rfl (Or.inl rfl) dX6_runs_15
  · refine v_iconst (pc' := 11) C (1) dX6_runs_10 ic_1 rfl ?_
    refine v_goto C (pc' := 15) dX6_runs_11 (by decide) ?_
    exact v_zret (rf := fun (o9 : Int32) => o9) (Wf := fun (o9 : Int32) (u9 : Unit) => wM g aM zM) (ok := fun (o9 : Int32) (u9 : Unit) => True) C Cr h hQ () trivial rfl rfl (Or.inr rfl) dX6_runs_15
def f_X6_type (zM : Md) (p1 : Int32) : Option (Int32 × Md) :=
  Option.bind (f_X6_in p1 (33 : Int32) (126 : Int32)) fun r_1 =>
  if r_1 = 0 then some ((-2 : Int32), zM)
  else if (M_typed zM) = (80 : Int32) then some ((-4 : Int32), zM)
  else chkA 80 (M_typed zM) (lett (M_text_set zM (upd (M_text zM) ((M_typed zM)).toNatClampNeg p1)) fun zM_2 =>
  lett (M_typed_set zM_2 ((M_typed zM_2) + (1 : Int32))) fun zM_3 =>
  some ((M_typed zM_3), zM_3))
abbrev rm_X6_type : Room := { frames := 1, cells := 0, slots := 0, locals := 22 }
theorem in_X6_type_6 : ∀ w ∈ wsX60, w ∈ wsX6_type := fun _ h => List.mem_cons_of_mem _ (List.mem_append_right _ h)
theorem k_X6_type_1 : Cond.fieldLink RX6 48 "DodgingHangmanModel" "typed" "I" ∈ wsX6_type := List.mem_of_getElem? (i := 1) rfl
theorem k_X6_type_2 : Cond.fieldLink RX6 19 "DodgingHangmanModel" "text" "[I" ∈ wsX6_type := List.mem_of_getElem? (i := 2) rfl
theorem nd_X6_type : yX6_type.cls ≠ "java/lang/invoke/MethodHandle" ∧ yX6_type.cls ≠ "java/lang/invoke/VarHandle" ∧ (parseMethodDescriptor yX6_type.desc).map (fun d => d.parameters.length) = some 1 := by decide +kernel
set_option maxHeartbeats 4000000 in
set_option maxRecDepth 100000 in
theorem c_X6_type (l : Launch) (g : Gv) (aM : A10) (zM : Md) (p1 : Int32) (o : Int32 × Md) (h : f_X6_type zM p1 = some o) : Ct l g yX6_type wsX6_type rm_X6_type [.ref aM.1, .int p1] (wM g aM zM) (Qi g o.1 (fun _ : Unit => wM g aM o.2) (fun _ => True)) := by
  refine enter (ret := (some .int)) (X := wM g aM zM) (pl := []) pn_X6 rfl (Nat.le_of_ble_eq_true rfl) ((List.append_nil _).symm) ?_
  intro p e s m args below meth c A Q C Cr hin hQ
  unfold f_X6_type at h
  refine v_iload_n (pc' := 1) C 1 dX6_type_0 rfl rfl ?_
  refine v_bipush (pc' := 3) C (33) dX6_type_1 bc_33 rfl ?_
  refine v_bipush (pc' := 5) C (126) dX6_type_3 bc_126 rfl ?_
  refine v_purei (pc' := 8) C h (rf := fun r9 => r9) (fun r hr => run_S C (c_X6_in l g _ _ _ r hr) gX6_type_X6_in rfl nd_X6_in ⟨Nat.le_of_ble_eq_true rfl, Nat.le_of_ble_eq_true rfl⟩ ⟨Nat.le_of_ble_eq_true rfl, Nat.le_of_ble_eq_true rfl⟩ (Nat.le_of_ble_eq_true rfl) dX6_type_5 rfl) rfl (fun r_1 h => ?_)
  refine v_if_ne C 14 11 h dX6_type_8 (by decide) rfl (fun _ h => ?_) (fun _ h => ?_)
  · refine v_aload_n (pc' := 15) C 0 dX6_type_14 rfl rfl ?_
    refine g_M_typed (pc' := 18) C 0 in_X6_type_6 rfl k_X6_type_1 rfl dX6_type_15 rfl ?_
    refine v_bipush (pc' := 20) C (80) dX6_type_18 bc_80 rfl ?_
    refine v_icmp_ne C 26 23 h dX6_type_20 (by decide) rfl (fun _ h => ?_) (fun _ h => ?_)
    · refine v_aload_n (pc' := 27) C 0 dX6_type_26 rfl rfl ?_
      refine g_M_text (pc' := 30) C 0 in_X6_type_6 rfl k_X6_type_2 rfl dX6_type_27 rfl ?_
      refine v_aload_n (pc' := 31) C 0 dX6_type_30 rfl rfl ?_
      refine g_M_typed (pc' := 34) C 0 in_X6_type_6 rfl k_X6_type_1 rfl dX6_type_31 rfl ?_
      refine v_iload_n (pc' := 35) C 1 dX6_type_34 rfl rfl ?_
      refine v_iast (pc' := 36) C h 4 (fun z9 => wM g aM z9) rfl rfl dX6_type_35 rfl (fun zM_2 h => ?_)
      refine v_aload_n (pc' := 37) C 0 dX6_type_36 rfl rfl ?_
      refine v_dup (pc' := 38) C dX6_type_37 rfl rfl ?_
      refine g_M_typed (pc' := 41) C 0 in_X6_type_6 rfl k_X6_type_1 rfl dX6_type_38 rfl ?_
      refine v_iconst (pc' := 42) C (1) dX6_type_41 ic_1 rfl ?_
      refine v_iadd (pc' := 43) C dX6_type_42 rfl ?_
      refine p_M_typed (pc' := 46) C h 0 (fun z9 => wM g aM z9) in_X6_type_6 rfl k_X6_type_1 rfl dX6_type_43 (Nat.le_of_ble_eq_true rfl) rfl (fun zM_3 h => ?_)
      refine v_aload_n (pc' := 47) C 0 dX6_type_46 rfl rfl ?_
      refine g_M_typed (pc' := 50) C 0 in_X6_type_6 rfl k_X6_type_1 rfl dX6_type_47 rfl ?_
      exact v_iret (rf := fun (o9 : Int32 × Md) => o9.1) (Wf := fun (o9 : Int32 × Md) (u9 : Unit) => wM g aM o9.2) (ok := fun (o9 : Int32 × Md) (u9 : Unit) => True) C Cr h hQ () trivial rfl rfl dX6_type_50
    · refine v_bipush (pc' := 25) C (-4) dX6_type_23 bc_m4 rfl ?_
      exact v_iret (rf := fun (o9 : Int32 × Md) => o9.1) (Wf := fun (o9 : Int32 × Md) (u9 : Unit) => wM g aM o9.2) (ok := fun (o9 : Int32 × Md) (u9 : Unit) => True) C Cr h hQ () trivial rfl rfl dX6_type_25
  · refine v_bipush (pc' := 13) C (-2) dX6_type_11 bc_m2 rfl ?_
    exact v_iret (rf := fun (o9 : Int32 × Md) => o9.1) (Wf := fun (o9 : Int32 × Md) (u9 : Unit) => wM g aM o9.2) (ok := fun (o9 : Int32 × Md) (u9 : Unit) => True) C Cr h hQ () trivial rfl rfl dX6_type_13
def f_X6_clearText (zM : Md)  : Option (Int32 × Md) :=
  lett (M_typed zM) fun v1_1 =>
  lett (M_typed_set zM (0 : Int32)) fun zM_2 =>
  some (v1_1, zM_2)
abbrev rm_X6_clearText : Room := { frames := 0, cells := 0, slots := 0, locals := 0 }
theorem in_X6_clearText_6 : ∀ w ∈ wsX60, w ∈ wsX6_clearText := fun _ h => List.mem_cons_of_mem _ (List.mem_append_right _ h)
theorem k_X6_clearText_1 : Cond.fieldLink RX6 48 "DodgingHangmanModel" "typed" "I" ∈ wsX6_clearText := List.mem_of_getElem? (i := 1) rfl
theorem nd_X6_clearText : yX6_clearText.cls ≠ "java/lang/invoke/MethodHandle" ∧ yX6_clearText.cls ≠ "java/lang/invoke/VarHandle" ∧ (parseMethodDescriptor yX6_clearText.desc).map (fun d => d.parameters.length) = some 0 := by decide +kernel
set_option maxHeartbeats 4000000 in
set_option maxRecDepth 100000 in
theorem c_X6_clearText (l : Launch) (g : Gv) (aM : A10) (zM : Md)  (o : Int32 × Md) (h : f_X6_clearText zM  = some o) : Ct l g yX6_clearText wsX6_clearText rm_X6_clearText [.ref aM.1] (wM g aM zM) (Qi g o.1 (fun _ : Unit => wM g aM o.2) (fun _ => True)) := by
  refine enter (ret := (some .int)) (X := wM g aM zM) (pl := []) pn_X6 rfl (Nat.le_of_ble_eq_true rfl) ((List.append_nil _).symm) ?_
  intro p e s m args below meth c A Q C Cr hin hQ
  unfold f_X6_clearText at h
  refine v_aload_n (pc' := 1) C 0 dX6_clearText_0 rfl rfl ?_
  refine g_M_typed (pc' := 4) C 0 in_X6_clearText_6 rfl k_X6_clearText_1 rfl dX6_clearText_1 rfl ?_
  refine v_leti h (fun v1_1 h => ?_)
  refine v_istore_n (pc' := 5) C [1, 0] (lv' := [(0, .ref aM.1), (1, .int v1_1)]) dX6_clearText_4 (Nat.le_of_ble_eq_true rfl) rfl rfl ?_
  refine v_aload_n (pc' := 6) C 0 dX6_clearText_5 rfl rfl ?_
  refine v_iconst (pc' := 7) C (0) dX6_clearText_6 ic_0 rfl ?_
  refine p_M_typed (pc' := 10) C h 0 (fun z9 => wM g aM z9) in_X6_clearText_6 rfl k_X6_clearText_1 rfl dX6_clearText_7 (Nat.le_of_ble_eq_true rfl) rfl (fun zM_2 h => ?_)
  refine v_iload_n (pc' := 11) C 1 dX6_clearText_10 rfl rfl ?_
  exact v_iret (rf := fun (o9 : Int32 × Md) => o9.1) (Wf := fun (o9 : Int32 × Md) (u9 : Unit) => wM g aM o9.2) (ok := fun (o9 : Int32 × Md) (u9 : Unit) => True) C Cr h hQ () trivial rfl rfl dX6_clearText_11
def f_X6_error_J71 (zM : Md) (v1_3 : Int32) : Option (Int32) :=
  if v1_3 < (2 : Int32) then some (M_typed zM)
  else some (-6 : Int32)
def f_X6_error_J53 (re4 : Int32 → Int32 → Option (Int32)) (v1_7 : Int32) (v2_8 : Int32) (v3_9 : Int32) : Option (Int32) :=
  if v3_9 = 0 then lett (v2_8 + (1 : Int32)) fun v2_10 =>
  re4 (0 : Int32) v2_10
  else lett (v1_7 + (1 : Int32)) fun v1_11 =>
  lett (v2_8 + (1 : Int32)) fun v2_12 =>
  re4 v1_11 v2_12
def f_X6_error_L4 (zM : Md) (re4 : Int32 → Int32 → Option (Int32)) (v1_1 : Int32) (v2_2 : Int32) : Option (Int32) :=
  if v2_2 < (M_typed zM) then getA (M_text zM) 80 v2_2 fun e_4 =>
  Option.bind (f_X6_isLetter e_4) fun r_5 =>
  if r_5 = 0 then getA (M_text zM) 80 v2_2 fun e_6 =>
  if e_6 = (44 : Int32) then if v1_1 < (2 : Int32) then some v2_2
  else f_X6_error_J53 re4 v1_1 v2_2 r_5
  else some v2_2
  else if v1_1 = (8 : Int32) then some v2_2
  else f_X6_error_J53 re4 v1_1 v2_2 r_5
  else f_X6_error_J71 zM v1_1
def f_X6_error (zM : Md)  : Option (Int32) :=
  loop2 (f_X6_error_L4 zM) FU (0 : Int32) (0 : Int32)
abbrev rm_X6_error : Room := { frames := 2, cells := 0, slots := 0, locals := 42 }
theorem in_X6_error_6 : ∀ w ∈ wsX60, w ∈ wsX6_error := fun _ h => List.mem_cons_of_mem _ (List.mem_append_right _ h)
theorem k_X6_error_1 : Cond.fieldLink RX6 48 "DodgingHangmanModel" "typed" "I" ∈ wsX6_error := List.mem_of_getElem? (i := 1) rfl
theorem k_X6_error_2 : Cond.fieldLink RX6 19 "DodgingHangmanModel" "text" "[I" ∈ wsX6_error := List.mem_of_getElem? (i := 2) rfl
theorem nd_X6_error : yX6_error.cls ≠ "java/lang/invoke/MethodHandle" ∧ yX6_error.cls ≠ "java/lang/invoke/VarHandle" ∧ (parseMethodDescriptor yX6_error.desc).map (fun d => d.parameters.length) = some 0 := by decide +kernel
set_option maxHeartbeats 4000000 in
set_option maxRecDepth 100000 in
theorem c_X6_error (l : Launch) (g : Gv) (aM : A10) (zM : Md)  (o : Int32) (h : f_X6_error zM  = some o) : Ct l g yX6_error wsX6_error rm_X6_error [.ref aM.1] (wM g aM zM) (Qi g o (fun _ : Unit => wM g aM zM) (fun _ => True)) := by
  refine enter (ret := (some .int)) (X := wM g aM zM) (pl := []) pn_X6 rfl (Nat.le_of_ble_eq_true rfl) ((List.append_nil _).symm) ?_
  intro p e s m args below meth c A Q C Cr hin hQ
  unfold f_X6_error at h
  have J71 : ∀ (v1_3 : Int32), f_X6_error_J71 zM v1_3 = some o → V p l e rm_X6_error s m args below meth c g 4 A 0 0 Q (wM g aM zM) [] [(0, .ref aM.1), (1, .int v1_3)] 71 [] := by
    intro v1_3 h
    unfold f_X6_error_J71 at h
    refine v_iload_n (pc' := 72) C 1 dX6_error_71 rfl rfl ?_
    refine v_iconst (pc' := 73) C (2) dX6_error_72 ic_2 rfl ?_
    refine v_icmp_ge C 83 76 h dX6_error_73 (by decide) rfl (fun _ h => ?_) (fun _ h => ?_)
    · refine v_bipush (pc' := 85) C (-6) dX6_error_83 bc_m6 rfl ?_
      exact v_iret (rf := fun (o9 : Int32) => o9) (Wf := fun (o9 : Int32) (u9 : Unit) => wM g aM zM) (ok := fun (o9 : Int32) (u9 : Unit) => True) C Cr h hQ () trivial rfl rfl dX6_error_85
    · refine v_aload_n (pc' := 77) C 0 dX6_error_76 rfl rfl ?_
      refine g_M_typed (pc' := 80) C 0 in_X6_error_6 rfl k_X6_error_1 rfl dX6_error_77 rfl ?_
      refine v_goto C (pc' := 85) dX6_error_80 (by decide) ?_
      exact v_iret (rf := fun (o9 : Int32) => o9) (Wf := fun (o9 : Int32) (u9 : Unit) => wM g aM zM) (ok := fun (o9 : Int32) (u9 : Unit) => True) C Cr h hQ () trivial rfl rfl dX6_error_85
  refine v_iconst (pc' := 1) C (0) dX6_error_0 ic_0 rfl ?_
  refine v_istore_n (pc' := 2) C [1, 0] (lv' := [(0, .ref aM.1), (1, .int (0 : Int32))]) dX6_error_1 (Nat.le_of_ble_eq_true rfl) rfl rfl ?_
  refine v_iconst (pc' := 3) C (0) dX6_error_2 ic_0 rfl ?_
  refine v_istore_n (pc' := 4) C [1, 2, 0] (lv' := [(0, .ref aM.1), (1, .int (0 : Int32)), (2, .int (0 : Int32))]) dX6_error_3 (Nat.le_of_ble_eq_true rfl) rfl rfl ?_
  refine v_loop2 (fun (v1_1 : Int32) (v2_2 : Int32) => V p l e rm_X6_error s m args below meth c g 4 A 0 0 Q (wM g aM zM) [] [(0, .ref aM.1), (1, .int v1_1), (2, .int v2_2)] 4 []) (fun re4 ih4 v1_1 v2_2 h => ?_) (0 : Int32) (0 : Int32) h
  unfold f_X6_error_L4 at h
  have J53 : ∀ (v1_7 : Int32) (v2_8 : Int32) (v3_9 : Int32), f_X6_error_J53 re4 v1_7 v2_8 v3_9 = some o → V p l e rm_X6_error s m args below meth c g 4 A 0 0 Q (wM g aM zM) [] [(0, .ref aM.1), (1, .int v1_7), (2, .int v2_8), (3, .int v3_9)] 53 [] := by
    intro v1_7 v2_8 v3_9 h
    unfold f_X6_error_J53 at h
    refine v_iload_n (pc' := 54) C 3 dX6_error_53 rfl rfl ?_
    refine v_if_eq C 63 57 h dX6_error_54 (by decide) rfl (fun _ h => ?_) (fun _ h => ?_)
    · refine v_iconst (pc' := 64) C (0) dX6_error_63 ic_0 rfl ?_
      refine v_istore_n (pc' := 65) C [1, 0, 2, 3] (lv' := [(0, .ref aM.1), (1, .int (0 : Int32)), (2, .int v2_8), (3, .int v3_9)]) dX6_error_64 (Nat.le_of_ble_eq_true rfl) rfl rfl ?_
      refine v_iinc (pc' := 68) C 2 [1, 2, 0, 3] (1) dX6_error_65 rfl ic_1 (Nat.le_of_ble_eq_true rfl) h (lw := fun v9 => [(0, .ref aM.1), (1, .int (0 : Int32)), (2, .int v9), (3, .int v3_9)]) (fun _ => rfl) rfl (fun v2_10 h => ?_)
      refine v_goto C (pc' := 4) dX6_error_68 (by decide) ?_
      refine v_lv [0, 1, 2] (lv' := [(0, .ref aM.1), (1, .int (0 : Int32)), (2, .int v2_10)]) rfl ?_
      exact ih4 (0 : Int32) v2_10 h
    · refine v_iload_n (pc' := 58) C 1 dX6_error_57 rfl rfl ?_
      refine v_iconst (pc' := 59) C (1) dX6_error_58 ic_1 rfl ?_
      refine v_iadd (pc' := 60) C dX6_error_59 rfl ?_
      refine v_goto C (pc' := 64) dX6_error_60 (by decide) ?_
      refine v_leti h (fun v1_11 h => ?_)
      refine v_istore_n (pc' := 65) C [1, 0, 2, 3] (lv' := [(0, .ref aM.1), (1, .int v1_11), (2, .int v2_8), (3, .int v3_9)]) dX6_error_64 (Nat.le_of_ble_eq_true rfl) rfl rfl ?_
      refine v_iinc (pc' := 68) C 2 [1, 2, 0, 3] (1) dX6_error_65 rfl ic_1 (Nat.le_of_ble_eq_true rfl) h (lw := fun v9 => [(0, .ref aM.1), (1, .int v1_11), (2, .int v9), (3, .int v3_9)]) (fun _ => rfl) rfl (fun v2_12 h => ?_)
      refine v_goto C (pc' := 4) dX6_error_68 (by decide) ?_
      refine v_lv [0, 1, 2] (lv' := [(0, .ref aM.1), (1, .int v1_11), (2, .int v2_12)]) rfl ?_
      exact ih4 v1_11 v2_12 h
  refine v_iload_n (pc' := 5) C 2 dX6_error_4 rfl rfl ?_
  refine v_aload_n (pc' := 6) C 0 dX6_error_5 rfl rfl ?_
  refine g_M_typed (pc' := 9) C 0 in_X6_error_6 rfl k_X6_error_1 rfl dX6_error_6 rfl ?_
  refine v_icmp_ge C 71 12 h dX6_error_9 (by decide) rfl (fun _ h => ?_) (fun _ h => ?_)
  · refine v_lv [0, 1] (lv' := [(0, .ref aM.1), (1, .int v1_1)]) rfl ?_
    exact J71 v1_1 h
  · refine v_aload_n (pc' := 13) C 0 dX6_error_12 rfl rfl ?_
    refine g_M_text (pc' := 16) C 0 in_X6_error_6 rfl k_X6_error_2 rfl dX6_error_13 rfl ?_
    refine v_iload_n (pc' := 17) C 2 dX6_error_16 rfl rfl ?_
    refine v_iald (pc' := 18) C h 4 rfl dX6_error_17 rfl (fun e_4 h => ?_)
    refine v_purei (pc' := 21) C h (rf := fun r9 => r9) (fun r hr => run_S C (c_X6_isLetter l g _ r hr) gX6_error_X6_isLetter rfl nd_X6_isLetter ⟨Nat.le_of_ble_eq_true rfl, Nat.le_of_ble_eq_true rfl⟩ ⟨Nat.le_of_ble_eq_true rfl, Nat.le_of_ble_eq_true rfl⟩ (Nat.le_of_ble_eq_true rfl) dX6_error_18 rfl) rfl (fun r_5 h => ?_)
    refine v_istore_n (pc' := 22) C [1, 2, 3, 0] (lv' := [(0, .ref aM.1), (1, .int v1_1), (2, .int v2_2), (3, .int r_5)]) dX6_error_21 (Nat.le_of_ble_eq_true rfl) rfl rfl ?_
    refine v_iload_n (pc' := 23) C 3 dX6_error_22 rfl rfl ?_
    refine v_if_eq C 35 26 h dX6_error_23 (by decide) rfl (fun _ h => ?_) (fun _ h => ?_)
    · refine v_aload_n (pc' := 36) C 0 dX6_error_35 rfl rfl ?_
      refine g_M_text (pc' := 39) C 0 in_X6_error_6 rfl k_X6_error_2 rfl dX6_error_36 rfl ?_
      refine v_iload_n (pc' := 40) C 2 dX6_error_39 rfl rfl ?_
      refine v_iald (pc' := 41) C h 4 rfl dX6_error_40 rfl (fun e_6 h => ?_)
      refine v_bipush (pc' := 43) C (44) dX6_error_41 bc_44 rfl ?_
      refine v_icmp_ne C 51 46 h dX6_error_43 (by decide) rfl (fun _ h => ?_) (fun _ h => ?_)
      · refine v_iload_n (pc' := 52) C 2 dX6_error_51 rfl rfl ?_
        exact v_iret (rf := fun (o9 : Int32) => o9) (Wf := fun (o9 : Int32) (u9 : Unit) => wM g aM zM) (ok := fun (o9 : Int32) (u9 : Unit) => True) C Cr h hQ () trivial rfl rfl dX6_error_52
      · refine v_iload_n (pc' := 47) C 1 dX6_error_46 rfl rfl ?_
        refine v_iconst (pc' := 48) C (2) dX6_error_47 ic_2 rfl ?_
        refine v_icmp_ge C 53 51 h dX6_error_48 (by decide) rfl (fun _ h => ?_) (fun _ h => ?_)
        · exact J53 v1_1 v2_2 r_5 h
        · refine v_iload_n (pc' := 52) C 2 dX6_error_51 rfl rfl ?_
          exact v_iret (rf := fun (o9 : Int32) => o9) (Wf := fun (o9 : Int32) (u9 : Unit) => wM g aM zM) (ok := fun (o9 : Int32) (u9 : Unit) => True) C Cr h hQ () trivial rfl rfl dX6_error_52
    · refine v_iload_n (pc' := 27) C 1 dX6_error_26 rfl rfl ?_
      refine v_bipush (pc' := 29) C (8) dX6_error_27 bc_8 rfl ?_
      refine v_icmp_ne C 53 32 h dX6_error_29 (by decide) rfl (fun _ h => ?_) (fun _ h => ?_)
      · exact J53 v1_1 v2_2 r_5 h
      · refine v_goto C (pc' := 51) dX6_error_32 (by decide) ?_
        refine v_iload_n (pc' := 52) C 2 dX6_error_51 rfl rfl ?_
        exact v_iret (rf := fun (o9 : Int32) => o9) (Wf := fun (o9 : Int32) (u9 : Unit) => wM g aM zM) (ok := fun (o9 : Int32) (u9 : Unit) => True) C Cr h hQ () trivial rfl rfl dX6_error_52
def f_X6_syntaxError (zM : Md)  : Option (Int32) :=
  Option.bind (f_X6_error zM) fun r_1 =>
  some r_1
abbrev rm_X6_syntaxError : Room := { frames := 3, cells := 0, slots := 0, locals := 65 }
theorem nd_X6_syntaxError : yX6_syntaxError.cls ≠ "java/lang/invoke/MethodHandle" ∧ yX6_syntaxError.cls ≠ "java/lang/invoke/VarHandle" ∧ (parseMethodDescriptor yX6_syntaxError.desc).map (fun d => d.parameters.length) = some 0 := by decide +kernel
set_option maxHeartbeats 4000000 in
set_option maxRecDepth 100000 in
theorem c_X6_syntaxError (l : Launch) (g : Gv) (aM : A10) (zM : Md)  (o : Int32) (h : f_X6_syntaxError zM  = some o) : Ct l g yX6_syntaxError wsX6_syntaxError rm_X6_syntaxError [.ref aM.1] (wM g aM zM) (Qi g o (fun _ : Unit => wM g aM zM) (fun _ => True)) := by
  refine enter (ret := (some .int)) (X := wM g aM zM) (pl := []) pn_X6 rfl (Nat.le_of_ble_eq_true rfl) ((List.append_nil _).symm) ?_
  intro p e s m args below meth c A Q C Cr hin hQ
  unfold f_X6_syntaxError at h
  refine v_aload_n (pc' := 1) C 0 dX6_syntaxError_0 rfl rfl ?_
  refine v_calli (pc' := 4) C h (rf := fun r9 => r9) ([]) (fun r9 (u9 : Unit) => wM g aM zM) (fun r hr => run_V C (c_X6_error l g aM _ r hr) gX6_syntaxError_X6_error rfl nd_X6_error rfl rfl rfl rfl ⟨Nat.le_of_ble_eq_true rfl, Nat.le_of_ble_eq_true rfl⟩ ⟨Nat.le_of_ble_eq_true rfl, Nat.le_of_ble_eq_true rfl⟩ (Nat.le_of_ble_eq_true rfl) dX6_syntaxError_1 rfl) [0, 1, 2, 3, 4, 5, 6, 7, 8, 9] [] [0, 1, 2, 3, 4, 5, 6, 7, 8, 9] rfl rfl rfl rfl (by decide) rfl (fun _ _ => rfl) (k' := 0) (n' := 0) rfl rfl rfl (fun r_1 _ _ h => ?_)
  exact v_iret (rf := fun (o9 : Int32) => o9) (Wf := fun (o9 : Int32) (u9 : Unit) => wM g aM zM) (ok := fun (o9 : Int32) (u9 : Unit) => True) C Cr h hQ () trivial rfl rfl dX6_syntaxError_4
def f_X6_endOf_L2 (zM : Md) (re2 : Int32 → Option (Int32)) (v2_1 : Int32) : Option (Int32) :=
  if v2_1 < (M_typed zM) then getA (M_text zM) 80 v2_1 fun e_2 =>
  if e_2 = (44 : Int32) then some v2_1
  else lett (v2_1 + (1 : Int32)) fun v2_3 =>
  re2 v2_3
  else some v2_1
def f_X6_endOf (zM : Md) (p1 : Int32) : Option (Int32) :=
  loop1 (f_X6_endOf_L2 zM) FU p1
abbrev rm_X6_endOf : Room := { frames := 0, cells := 0, slots := 0, locals := 0 }
theorem in_X6_endOf_6 : ∀ w ∈ wsX60, w ∈ wsX6_endOf := fun _ h => List.mem_cons_of_mem _ (List.mem_append_right _ h)
theorem k_X6_endOf_1 : Cond.fieldLink RX6 48 "DodgingHangmanModel" "typed" "I" ∈ wsX6_endOf := List.mem_of_getElem? (i := 1) rfl
theorem k_X6_endOf_2 : Cond.fieldLink RX6 19 "DodgingHangmanModel" "text" "[I" ∈ wsX6_endOf := List.mem_of_getElem? (i := 2) rfl
theorem nd_X6_endOf : yX6_endOf.cls ≠ "java/lang/invoke/MethodHandle" ∧ yX6_endOf.cls ≠ "java/lang/invoke/VarHandle" ∧ (parseMethodDescriptor yX6_endOf.desc).map (fun d => d.parameters.length) = some 1 := by decide +kernel
set_option maxHeartbeats 4000000 in
set_option maxRecDepth 100000 in
theorem c_X6_endOf (l : Launch) (g : Gv) (aM : A10) (zM : Md) (p1 : Int32) (o : Int32) (h : f_X6_endOf zM p1 = some o) : Ct l g yX6_endOf wsX6_endOf rm_X6_endOf [.ref aM.1, .int p1] (wM g aM zM) (Qi g o (fun _ : Unit => wM g aM zM) (fun _ => True)) := by
  refine enter (ret := (some .int)) (X := wM g aM zM) (pl := []) pn_X6 rfl (Nat.le_of_ble_eq_true rfl) ((List.append_nil _).symm) ?_
  intro p e s m args below meth c A Q C Cr hin hQ
  unfold f_X6_endOf at h
  refine v_iload_n (pc' := 1) C 1 dX6_endOf_0 rfl rfl ?_
  refine v_istore_n (pc' := 2) C [1, 2, 0] (lv' := [(0, .ref aM.1), (1, .int p1), (2, .int p1)]) dX6_endOf_1 (Nat.le_of_ble_eq_true rfl) rfl rfl ?_
  refine v_lv [0, 2] (lv' := [(0, .ref aM.1), (2, .int p1)]) rfl ?_
  refine v_loop1 (fun (v2_1 : Int32) => V p l e rm_X6_endOf s m args below meth c g 3 A 0 0 Q (wM g aM zM) [] [(0, .ref aM.1), (2, .int v2_1)] 2 []) (fun re2 ih2 v2_1 h => ?_) p1 h
  unfold f_X6_endOf_L2 at h
  refine v_iload_n (pc' := 3) C 1 dX6_endOf_2 rfl rfl ?_
  refine v_aload_n (pc' := 4) C 0 dX6_endOf_3 rfl rfl ?_
  refine g_M_typed (pc' := 7) C 0 in_X6_endOf_6 rfl k_X6_endOf_1 rfl dX6_endOf_4 rfl ?_
  refine v_icmp_ge C 27 10 h dX6_endOf_7 (by decide) rfl (fun _ h => ?_) (fun _ h => ?_)
  · refine v_iload_n (pc' := 28) C 1 dX6_endOf_27 rfl rfl ?_
    exact v_iret (rf := fun (o9 : Int32) => o9) (Wf := fun (o9 : Int32) (u9 : Unit) => wM g aM zM) (ok := fun (o9 : Int32) (u9 : Unit) => True) C Cr h hQ () trivial rfl rfl dX6_endOf_28
  · refine v_aload_n (pc' := 11) C 0 dX6_endOf_10 rfl rfl ?_
    refine g_M_text (pc' := 14) C 0 in_X6_endOf_6 rfl k_X6_endOf_2 rfl dX6_endOf_11 rfl ?_
    refine v_iload_n (pc' := 15) C 1 dX6_endOf_14 rfl rfl ?_
    refine v_iald (pc' := 16) C h 4 rfl dX6_endOf_15 rfl (fun e_2 h => ?_)
    refine v_bipush (pc' := 18) C (44) dX6_endOf_16 bc_44 rfl ?_
    refine v_icmp_eq C 27 21 h dX6_endOf_18 (by decide) rfl (fun _ h => ?_) (fun _ h => ?_)
    · refine v_iload_n (pc' := 28) C 1 dX6_endOf_27 rfl rfl ?_
      exact v_iret (rf := fun (o9 : Int32) => o9) (Wf := fun (o9 : Int32) (u9 : Unit) => wM g aM zM) (ok := fun (o9 : Int32) (u9 : Unit) => True) C Cr h hQ () trivial rfl rfl dX6_endOf_28
    · refine v_iinc (pc' := 24) C 1 [1, 0] (1) dX6_endOf_21 rfl ic_1 (Nat.le_of_ble_eq_true rfl) h (lw := fun v9 => [(0, .ref aM.1), (2, .int v9)]) (fun _ => rfl) rfl (fun v2_3 h => ?_)
      refine v_goto C (pc' := 2) dX6_endOf_24 (by decide) ?_
      exact ih2 v2_3 h
def f_X6_compares_J60 (zM : Md) (p1 : Int32) (p3 : Int32) (p2 : Int32)  : Option (Int32) :=
  getA (M_s zM) 319 ((49 : Int32) + p1) fun e_2 =>
  some (e_2 - (p3 - p2))
def f_X6_compares_L3 (p3 : Int32) (p2 : Int32) (zM : Md) (p1 : Int32) (re3 : Int32 → Option (Int32)) (v4_1 : Int32) : Option (Int32) :=
  if v4_1 < (p3 - p2) then getA (M_s zM) 319 ((49 : Int32) + p1) fun e_3 =>
  if v4_1 = e_3 then some (-1 : Int32)
  else Option.bind (f_X6_letter zM p1 v4_1) fun r_4 =>
  getA (M_text zM) 80 (p2 + v4_1) fun e_5 =>
  lett (r_4 - e_5) fun v5_6 =>
  if v5_6 = 0 then lett (v4_1 + (1 : Int32)) fun v4_7 =>
  re3 v4_7
  else some v5_6
  else f_X6_compares_J60 zM p1 p3 p2 
def f_X6_compares (zM : Md) (p1 : Int32) (p2 : Int32) (p3 : Int32) : Option (Int32) :=
  loop1 (f_X6_compares_L3 p3 p2 zM p1) FU (0 : Int32)
abbrev rm_X6_compares : Room := { frames := 1, cells := 0, slots := 0, locals := 22 }
theorem in_X6_compares_6 : ∀ w ∈ wsX60, w ∈ wsX6_compares := fun _ h => List.mem_cons_of_mem _ (List.mem_append_right _ h)
theorem k_X6_compares_1 : Cond.fieldLink RX6 7 "DodgingHangmanModel" "s" "[I" ∈ wsX6_compares := List.mem_of_getElem? (i := 1) rfl
theorem k_X6_compares_2 : Cond.fieldLink RX6 19 "DodgingHangmanModel" "text" "[I" ∈ wsX6_compares := List.mem_of_getElem? (i := 2) rfl
theorem nd_X6_compares : yX6_compares.cls ≠ "java/lang/invoke/MethodHandle" ∧ yX6_compares.cls ≠ "java/lang/invoke/VarHandle" ∧ (parseMethodDescriptor yX6_compares.desc).map (fun d => d.parameters.length) = some 3 := by decide +kernel
set_option maxHeartbeats 4000000 in
set_option maxRecDepth 100000 in
theorem c_X6_compares (l : Launch) (g : Gv) (aM : A10) (zM : Md) (p1 : Int32) (p2 : Int32) (p3 : Int32) (o : Int32) (h : f_X6_compares zM p1 p2 p3 = some o) : Ct l g yX6_compares wsX6_compares rm_X6_compares [.ref aM.1, .int p1, .int p2, .int p3] (wM g aM zM) (Qi g o (fun _ : Unit => wM g aM zM) (fun _ => True)) := by
  refine enter (ret := (some .int)) (X := wM g aM zM) (pl := []) pn_X6 rfl (Nat.le_of_ble_eq_true rfl) ((List.append_nil _).symm) ?_
  intro p e s m args below meth c A Q C Cr hin hQ
  unfold f_X6_compares at h
  have J60 : f_X6_compares_J60 zM p1 p3 p2 = some o → V p l e rm_X6_compares s m args below meth c g 6 A 0 0 Q (wM g aM zM) [] [(0, .ref aM.1), (1, .int p1), (2, .int p2), (3, .int p3)] 60 [] := by
    intro  h
    unfold f_X6_compares_J60 at h
    refine v_aload_n (pc' := 61) C 0 dX6_compares_60 rfl rfl ?_
    refine g_M_s (pc' := 64) C 0 in_X6_compares_6 rfl k_X6_compares_1 rfl dX6_compares_61 rfl ?_
    refine v_bipush (pc' := 66) C (49) dX6_compares_64 bc_49 rfl ?_
    refine v_iload_n (pc' := 67) C 1 dX6_compares_66 rfl rfl ?_
    refine v_iadd (pc' := 68) C dX6_compares_67 rfl ?_
    refine v_iald (pc' := 69) C h 1 rfl dX6_compares_68 rfl (fun e_2 h => ?_)
    refine v_iload_n (pc' := 70) C 3 dX6_compares_69 rfl rfl ?_
    refine v_iload_n (pc' := 71) C 2 dX6_compares_70 rfl rfl ?_
    refine v_isub (pc' := 72) C dX6_compares_71 rfl ?_
    refine v_isub (pc' := 73) C dX6_compares_72 rfl ?_
    exact v_iret (rf := fun (o9 : Int32) => o9) (Wf := fun (o9 : Int32) (u9 : Unit) => wM g aM zM) (ok := fun (o9 : Int32) (u9 : Unit) => True) C Cr h hQ () trivial rfl rfl dX6_compares_73
  refine v_iconst (pc' := 1) C (0) dX6_compares_0 ic_0 rfl ?_
  refine v_istore (pc' := 3) C [1, 2, 3, 4, 0] (lv' := [(0, .ref aM.1), (1, .int p1), (2, .int p2), (3, .int p3), (4, .int (0 : Int32))]) dX6_compares_1 (Nat.le_of_ble_eq_true rfl) rfl rfl ?_
  refine v_loop1 (fun (v4_1 : Int32) => V p l e rm_X6_compares s m args below meth c g 6 A 0 0 Q (wM g aM zM) [] [(0, .ref aM.1), (1, .int p1), (2, .int p2), (3, .int p3), (4, .int v4_1)] 3 []) (fun re3 ih3 v4_1 h => ?_) (0 : Int32) h
  unfold f_X6_compares_L3 at h
  refine v_iload (pc' := 5) C 4 dX6_compares_3 rfl rfl ?_
  refine v_iload_n (pc' := 6) C 3 dX6_compares_5 rfl rfl ?_
  refine v_iload_n (pc' := 7) C 2 dX6_compares_6 rfl rfl ?_
  refine v_isub (pc' := 8) C dX6_compares_7 rfl ?_
  refine v_icmp_ge C 60 11 h dX6_compares_8 (by decide) rfl (fun _ h => ?_) (fun _ h => ?_)
  · refine v_lv [0, 1, 2, 3] (lv' := [(0, .ref aM.1), (1, .int p1), (2, .int p2), (3, .int p3)]) rfl ?_
    exact J60  h
  · refine v_iload (pc' := 13) C 4 dX6_compares_11 rfl rfl ?_
    refine v_aload_n (pc' := 14) C 0 dX6_compares_13 rfl rfl ?_
    refine g_M_s (pc' := 17) C 0 in_X6_compares_6 rfl k_X6_compares_1 rfl dX6_compares_14 rfl ?_
    refine v_bipush (pc' := 19) C (49) dX6_compares_17 bc_49 rfl ?_
    refine v_iload_n (pc' := 20) C 1 dX6_compares_19 rfl rfl ?_
    refine v_iadd (pc' := 21) C dX6_compares_20 rfl ?_
    refine v_iald (pc' := 22) C h 1 rfl dX6_compares_21 rfl (fun e_3 h => ?_)
    refine v_icmp_ne C 27 25 h dX6_compares_22 (by decide) rfl (fun _ h => ?_) (fun _ h => ?_)
    · refine v_aload_n (pc' := 28) C 0 dX6_compares_27 rfl rfl ?_
      refine v_iload_n (pc' := 29) C 1 dX6_compares_28 rfl rfl ?_
      refine v_iload (pc' := 31) C 4 dX6_compares_29 rfl rfl ?_
      refine v_calli (pc' := 34) C h (rf := fun r9 => r9) ([]) (fun r9 (u9 : Unit) => wM g aM zM) (fun r hr => run_V C (c_X6_letter l g aM _ _ _ r hr) gX6_compares_X6_letter rfl nd_X6_letter rfl rfl rfl rfl ⟨Nat.le_of_ble_eq_true rfl, Nat.le_of_ble_eq_true rfl⟩ ⟨Nat.le_of_ble_eq_true rfl, Nat.le_of_ble_eq_true rfl⟩ (Nat.le_of_ble_eq_true rfl) dX6_compares_31 rfl) [0, 1, 2, 3, 4, 5, 6, 7, 8, 9] [] [0, 1, 2, 3, 4, 5, 6, 7, 8, 9] rfl rfl rfl rfl (by decide) rfl (fun _ _ => rfl) (k' := 0) (n' := 0) rfl rfl rfl (fun r_4 _ _ h => ?_)
      refine v_aload_n (pc' := 35) C 0 dX6_compares_34 rfl rfl ?_
      refine g_M_text (pc' := 38) C 0 in_X6_compares_6 rfl k_X6_compares_2 rfl dX6_compares_35 rfl ?_
      refine v_iload_n (pc' := 39) C 2 dX6_compares_38 rfl rfl ?_
      refine v_iload (pc' := 41) C 4 dX6_compares_39 rfl rfl ?_
      refine v_iadd (pc' := 42) C dX6_compares_41 rfl ?_
      refine v_iald (pc' := 43) C h 4 rfl dX6_compares_42 rfl (fun e_5 h => ?_)
      refine v_isub (pc' := 44) C dX6_compares_43 rfl ?_
      refine v_leti h (fun v5_6 h => ?_)
      refine v_istore (pc' := 46) C [1, 2, 3, 4, 5, 0] (lv' := [(0, .ref aM.1), (1, .int p1), (2, .int p2), (3, .int p3), (4, .int v4_1), (5, .int v5_6)]) dX6_compares_44 (Nat.le_of_ble_eq_true rfl) rfl rfl ?_
      refine v_iload (pc' := 48) C 5 dX6_compares_46 rfl rfl ?_
      refine v_if_eq C 54 51 h dX6_compares_48 (by decide) rfl (fun _ h => ?_) (fun _ h => ?_)
      · refine v_iinc (pc' := 57) C 4 [1, 2, 3, 4, 0, 5] (1) dX6_compares_54 rfl ic_1 (Nat.le_of_ble_eq_true rfl) h (lw := fun v9 => [(0, .ref aM.1), (1, .int p1), (2, .int p2), (3, .int p3), (4, .int v9), (5, .int v5_6)]) (fun _ => rfl) rfl (fun v4_7 h => ?_)
        refine v_goto C (pc' := 3) dX6_compares_57 (by decide) ?_
        refine v_lv [0, 1, 2, 3, 4] (lv' := [(0, .ref aM.1), (1, .int p1), (2, .int p2), (3, .int p3), (4, .int v4_7)]) rfl ?_
        exact ih3 v4_7 h
      · refine v_iload (pc' := 53) C 5 dX6_compares_51 rfl rfl ?_
        exact v_iret (rf := fun (o9 : Int32) => o9) (Wf := fun (o9 : Int32) (u9 : Unit) => wM g aM zM) (ok := fun (o9 : Int32) (u9 : Unit) => True) C Cr h hQ () trivial rfl rfl dX6_compares_53
    · refine v_iconst (pc' := 26) C (-1) dX6_compares_25 ic_m1 rfl ?_
      exact v_iret (rf := fun (o9 : Int32) => o9) (Wf := fun (o9 : Int32) (u9 : Unit) => wM g aM zM) (ok := fun (o9 : Int32) (u9 : Unit) => True) C Cr h hQ () trivial rfl rfl dX6_compares_26
def f_X6_placeFor_L2 (zM : Md) (p1 : Int32) (p2 : Int32) (re2 : Int32 → Option (Int32)) (v3_1 : Int32) : Option (Int32) :=
  getA (M_s zM) 319 (0 : Int32) fun e_2 =>
  if v3_1 < e_2 then Option.bind (f_X6_compares zM v3_1 p1 p2) fun r_3 =>
  if r_3 < 0 then lett (v3_1 + (1 : Int32)) fun v3_4 =>
  re2 v3_4
  else some v3_1
  else some v3_1
def f_X6_placeFor (zM : Md) (p1 : Int32) (p2 : Int32) : Option (Int32) :=
  loop1 (f_X6_placeFor_L2 zM p1 p2) FU (0 : Int32)
abbrev rm_X6_placeFor : Room := { frames := 2, cells := 0, slots := 0, locals := 47 }
theorem in_X6_placeFor_6 : ∀ w ∈ wsX60, w ∈ wsX6_placeFor := fun _ h => List.mem_cons_of_mem _ (List.mem_append_right _ h)
theorem k_X6_placeFor_1 : Cond.fieldLink RX6 7 "DodgingHangmanModel" "s" "[I" ∈ wsX6_placeFor := List.mem_of_getElem? (i := 1) rfl
theorem nd_X6_placeFor : yX6_placeFor.cls ≠ "java/lang/invoke/MethodHandle" ∧ yX6_placeFor.cls ≠ "java/lang/invoke/VarHandle" ∧ (parseMethodDescriptor yX6_placeFor.desc).map (fun d => d.parameters.length) = some 2 := by decide +kernel
set_option maxHeartbeats 4000000 in
set_option maxRecDepth 100000 in
theorem c_X6_placeFor (l : Launch) (g : Gv) (aM : A10) (zM : Md) (p1 : Int32) (p2 : Int32) (o : Int32) (h : f_X6_placeFor zM p1 p2 = some o) : Ct l g yX6_placeFor wsX6_placeFor rm_X6_placeFor [.ref aM.1, .int p1, .int p2] (wM g aM zM) (Qi g o (fun _ : Unit => wM g aM zM) (fun _ => True)) := by
  refine enter (ret := (some .int)) (X := wM g aM zM) (pl := []) pn_X6 rfl (Nat.le_of_ble_eq_true rfl) ((List.append_nil _).symm) ?_
  intro p e s m args below meth c A Q C Cr hin hQ
  unfold f_X6_placeFor at h
  refine v_iconst (pc' := 1) C (0) dX6_placeFor_0 ic_0 rfl ?_
  refine v_istore_n (pc' := 2) C [1, 2, 3, 0] (lv' := [(0, .ref aM.1), (1, .int p1), (2, .int p2), (3, .int (0 : Int32))]) dX6_placeFor_1 (Nat.le_of_ble_eq_true rfl) rfl rfl ?_
  refine v_loop1 (fun (v3_1 : Int32) => V p l e rm_X6_placeFor s m args below meth c g 4 A 0 0 Q (wM g aM zM) [] [(0, .ref aM.1), (1, .int p1), (2, .int p2), (3, .int v3_1)] 2 []) (fun re2 ih2 v3_1 h => ?_) (0 : Int32) h
  unfold f_X6_placeFor_L2 at h
  refine v_iload_n (pc' := 3) C 3 dX6_placeFor_2 rfl rfl ?_
  refine v_aload_n (pc' := 4) C 0 dX6_placeFor_3 rfl rfl ?_
  refine g_M_s (pc' := 7) C 0 in_X6_placeFor_6 rfl k_X6_placeFor_1 rfl dX6_placeFor_4 rfl ?_
  refine v_iconst (pc' := 8) C (0) dX6_placeFor_7 ic_0 rfl ?_
  refine v_iald (pc' := 9) C h 1 rfl dX6_placeFor_8 rfl (fun e_2 h => ?_)
  refine v_icmp_ge C 28 12 h dX6_placeFor_9 (by decide) rfl (fun _ h => ?_) (fun _ h => ?_)
  · refine v_iload_n (pc' := 29) C 3 dX6_placeFor_28 rfl rfl ?_
    exact v_iret (rf := fun (o9 : Int32) => o9) (Wf := fun (o9 : Int32) (u9 : Unit) => wM g aM zM) (ok := fun (o9 : Int32) (u9 : Unit) => True) C Cr h hQ () trivial rfl rfl dX6_placeFor_29
  · refine v_aload_n (pc' := 13) C 0 dX6_placeFor_12 rfl rfl ?_
    refine v_iload_n (pc' := 14) C 3 dX6_placeFor_13 rfl rfl ?_
    refine v_iload_n (pc' := 15) C 1 dX6_placeFor_14 rfl rfl ?_
    refine v_iload_n (pc' := 16) C 2 dX6_placeFor_15 rfl rfl ?_
    refine v_calli (pc' := 19) C h (rf := fun r9 => r9) ([]) (fun r9 (u9 : Unit) => wM g aM zM) (fun r hr => run_V C (c_X6_compares l g aM _ _ _ _ r hr) gX6_placeFor_X6_compares rfl nd_X6_compares rfl rfl rfl rfl ⟨Nat.le_of_ble_eq_true rfl, Nat.le_of_ble_eq_true rfl⟩ ⟨Nat.le_of_ble_eq_true rfl, Nat.le_of_ble_eq_true rfl⟩ (Nat.le_of_ble_eq_true rfl) dX6_placeFor_16 rfl) [0, 1, 2, 3, 4, 5, 6, 7, 8, 9] [] [0, 1, 2, 3, 4, 5, 6, 7, 8, 9] rfl rfl rfl rfl (by decide) rfl (fun _ _ => rfl) (k' := 0) (n' := 0) rfl rfl rfl (fun r_3 _ _ h => ?_)
    refine v_if_ge C 28 22 h dX6_placeFor_19 (by decide) rfl (fun _ h => ?_) (fun _ h => ?_)
    · refine v_iload_n (pc' := 29) C 3 dX6_placeFor_28 rfl rfl ?_
      exact v_iret (rf := fun (o9 : Int32) => o9) (Wf := fun (o9 : Int32) (u9 : Unit) => wM g aM zM) (ok := fun (o9 : Int32) (u9 : Unit) => True) C Cr h hQ () trivial rfl rfl dX6_placeFor_29
    · refine v_iinc (pc' := 25) C 3 [1, 2, 3, 0] (1) dX6_placeFor_22 rfl ic_1 (Nat.le_of_ble_eq_true rfl) h (lw := fun v9 => [(0, .ref aM.1), (1, .int p1), (2, .int p2), (3, .int v9)]) (fun _ => rfl) rfl (fun v3_4 h => ?_)
      refine v_goto C (pc' := 2) dX6_placeFor_25 (by decide) ?_
      exact ih2 v3_4 h
def f_X6_isIn (zM : Md) (p1 : Int32) (p2 : Int32) : Option (Int32) :=
  Option.bind (f_X6_placeFor zM p1 p2) fun r_1 =>
  getA (M_s zM) 319 (0 : Int32) fun e_2 =>
  if r_1 < e_2 then Option.bind (f_X6_compares zM r_1 p1 p2) fun r_3 =>
  if r_3 = 0 then some (1 : Int32)
  else some (0 : Int32)
  else some (0 : Int32)
abbrev rm_X6_isIn : Room := { frames := 3, cells := 0, slots := 0, locals := 70 }
theorem in_X6_isIn_6 : ∀ w ∈ wsX60, w ∈ wsX6_isIn := fun _ h => List.mem_cons_of_mem _ (List.mem_append_right _ h)
theorem k_X6_isIn_1 : Cond.fieldLink RX6 7 "DodgingHangmanModel" "s" "[I" ∈ wsX6_isIn := List.mem_of_getElem? (i := 1) rfl
theorem nd_X6_isIn : yX6_isIn.cls ≠ "java/lang/invoke/MethodHandle" ∧ yX6_isIn.cls ≠ "java/lang/invoke/VarHandle" ∧ (parseMethodDescriptor yX6_isIn.desc).map (fun d => d.parameters.length) = some 2 := by decide +kernel
set_option maxHeartbeats 4000000 in
set_option maxRecDepth 100000 in
theorem c_X6_isIn (l : Launch) (g : Gv) (aM : A10) (zM : Md) (p1 : Int32) (p2 : Int32) (o : Int32) (h : f_X6_isIn zM p1 p2 = some o) : Ct l g yX6_isIn wsX6_isIn rm_X6_isIn [.ref aM.1, .int p1, .int p2] (wM g aM zM) (Qi g o (fun _ : Unit => wM g aM zM) (fun _ => True)) := by
  refine enter (ret := (some .boolean)) (X := wM g aM zM) (pl := []) pn_X6 rfl (Nat.le_of_ble_eq_true rfl) ((List.append_nil _).symm) ?_
  intro p e s m args below meth c A Q C Cr hin hQ
  unfold f_X6_isIn at h
  refine v_aload_n (pc' := 1) C 0 dX6_isIn_0 rfl rfl ?_
  refine v_iload_n (pc' := 2) C 1 dX6_isIn_1 rfl rfl ?_
  refine v_iload_n (pc' := 3) C 2 dX6_isIn_2 rfl rfl ?_
  refine v_calli (pc' := 6) C h (rf := fun r9 => r9) ([]) (fun r9 (u9 : Unit) => wM g aM zM) (fun r hr => run_V C (c_X6_placeFor l g aM _ _ _ r hr) gX6_isIn_X6_placeFor rfl nd_X6_placeFor rfl rfl rfl rfl ⟨Nat.le_of_ble_eq_true rfl, Nat.le_of_ble_eq_true rfl⟩ ⟨Nat.le_of_ble_eq_true rfl, Nat.le_of_ble_eq_true rfl⟩ (Nat.le_of_ble_eq_true rfl) dX6_isIn_3 rfl) [0, 1, 2, 3, 4, 5, 6, 7, 8, 9] [] [0, 1, 2, 3, 4, 5, 6, 7, 8, 9] rfl rfl rfl rfl (by decide) rfl (fun _ _ => rfl) (k' := 0) (n' := 0) rfl rfl rfl (fun r_1 _ _ h => ?_)
  refine v_istore_n (pc' := 7) C [1, 2, 3, 0] (lv' := [(0, .ref aM.1), (1, .int p1), (2, .int p2), (3, .int r_1)]) dX6_isIn_6 (Nat.le_of_ble_eq_true rfl) rfl rfl ?_
  refine v_iload_n (pc' := 8) C 3 dX6_isIn_7 rfl rfl ?_
  refine v_aload_n (pc' := 9) C 0 dX6_isIn_8 rfl rfl ?_
  refine g_M_s (pc' := 12) C 0 in_X6_isIn_6 rfl k_X6_isIn_1 rfl dX6_isIn_9 rfl ?_
  refine v_iconst (pc' := 13) C (0) dX6_isIn_12 ic_0 rfl ?_
  refine v_iald (pc' := 14) C h 1 rfl dX6_isIn_13 rfl (fun e_2 h => ?_)
  refine v_icmp_ge C 31 17 h dX6_isIn_14 (by decide) rfl (fun _ h => ?_) (fun _ h => ?_)
  · refine v_iconst (pc' := 32) C (0) dX6_isIn_31 ic_0 rfl ?_
    exact v_zret (rf := fun (o9 : Int32) => o9) (Wf := fun (o9 : Int32) (u9 : Unit) => wM g aM zM) (ok := fun (o9 : Int32) (u9 : Unit) => True) C Cr h hQ () trivial rfl rfl (Or.inl rfl) dX6_isIn_32
  · refine v_aload_n (pc' := 18) C 0 dX6_isIn_17 rfl rfl ?_
    refine v_iload_n (pc' := 19) C 3 dX6_isIn_18 rfl rfl ?_
    refine v_iload_n (pc' := 20) C 1 dX6_isIn_19 rfl rfl ?_
    refine v_iload_n (pc' := 21) C 2 dX6_isIn_20 rfl rfl ?_
    refine v_calli (pc' := 24) C h (rf := fun r9 => r9) ([]) (fun r9 (u9 : Unit) => wM g aM zM) (fun r hr => run_V C (c_X6_compares l g aM _ _ _ _ r hr) gX6_isIn_X6_compares rfl nd_X6_compares rfl rfl rfl rfl ⟨Nat.le_of_ble_eq_true rfl, Nat.le_of_ble_eq_true rfl⟩ ⟨Nat.le_of_ble_eq_true rfl, Nat.le_of_ble_eq_true rfl⟩ (Nat.le_of_ble_eq_true rfl) dX6_isIn_21 rfl) [0, 1, 2, 3, 4, 5, 6, 7, 8, 9] [] [0, 1, 2, 3, 4, 5, 6, 7, 8, 9] rfl rfl rfl rfl (by decide) rfl (fun _ _ => rfl) (k' := 0) (n' := 0) rfl rfl rfl (fun r_3 _ _ h => ?_)
    refine v_if_ne C 31 27 h dX6_isIn_24 (by decide) rfl (fun _ h => ?_) (fun _ h => ?_)
    · refine v_iconst (pc' := 32) C (0) dX6_isIn_31 ic_0 rfl ?_
      exact v_zret (rf := fun (o9 : Int32) => o9) (Wf := fun (o9 : Int32) (u9 : Unit) => wM g aM zM) (ok := fun (o9 : Int32) (u9 : Unit) => True) C Cr h hQ () trivial rfl rfl (Or.inl rfl) dX6_isIn_32
    · refine v_iconst (pc' := 28) C (1) dX6_isIn_27 ic_1 rfl ?_
      refine v_goto C (pc' := 32) dX6_isIn_28 (by decide) ?_
      exact v_zret (rf := fun (o9 : Int32) => o9) (Wf := fun (o9 : Int32) (u9 : Unit) => wM g aM zM) (ok := fun (o9 : Int32) (u9 : Unit) => True) C Cr h hQ () trivial rfl rfl (Or.inr rfl) dX6_isIn_32
def f_X6_noGame_L24  (re24 : Int32 → Md → Option (Md)) (v1_4 : Int32) (zM_5 : Md) : Option (Md) :=
  if v1_4 < (49 : Int32) then chkA 319 v1_4 (lett (M_s_set zM_5 (upd (M_s zM_5) (v1_4).toNatClampNeg (0 : Int32))) fun zM_6 =>
  lett (v1_4 + (1 : Int32)) fun v1_7 =>
  re24 v1_7 zM_6)
  else some zM_5
def f_X6_noGame_J21  (zM_3 : Md) : Option (Md) :=
  loop2 (f_X6_noGame_L24 ) FU (15 : Int32) zM_3
def f_X6_noGame_L2  (re2 : Int32 → Md → Option (Md)) (v1_1 : Int32) (zM_2 : Md) : Option (Md) :=
  if v1_1 < (8 : Int32) then chkA 319 v1_1 (lett (M_s_set zM_2 (upd (M_s zM_2) (v1_1).toNatClampNeg (0 : Int32))) fun zM_8 =>
  lett (v1_1 + (1 : Int32)) fun v1_9 =>
  re2 v1_9 zM_8)
  else f_X6_noGame_J21  zM_2
def f_X6_noGame (zM : Md)  : Option (Md) :=
  loop2 (f_X6_noGame_L2 ) FU (2 : Int32) zM
abbrev rm_X6_noGame : Room := { frames := 0, cells := 0, slots := 0, locals := 0 }
theorem in_X6_noGame_6 : ∀ w ∈ wsX60, w ∈ wsX6_noGame := fun _ h => List.mem_cons_of_mem _ (List.mem_append_right _ h)
theorem k_X6_noGame_1 : Cond.fieldLink RX6 7 "DodgingHangmanModel" "s" "[I" ∈ wsX6_noGame := List.mem_of_getElem? (i := 1) rfl
theorem nd_X6_noGame : yX6_noGame.cls ≠ "java/lang/invoke/MethodHandle" ∧ yX6_noGame.cls ≠ "java/lang/invoke/VarHandle" ∧ (parseMethodDescriptor yX6_noGame.desc).map (fun d => d.parameters.length) = some 0 := by decide +kernel
set_option maxHeartbeats 4000000 in
set_option maxRecDepth 100000 in
theorem c_X6_noGame (l : Launch) (g : Gv) (aM : A10) (zM : Md)  (o : Md) (h : f_X6_noGame zM  = some o) : Ct l g yX6_noGame wsX6_noGame rm_X6_noGame [.ref aM.1] (wM g aM zM) (Qv g (fun _ : Unit => wM g aM o) (fun _ => True)) := by
  refine enter (ret := none) (X := wM g aM zM) (pl := []) pn_X6 rfl (Nat.le_of_ble_eq_true rfl) ((List.append_nil _).symm) ?_
  intro p e s m args below meth c A Q C Cr hin hQ
  unfold f_X6_noGame at h
  have J21 : ∀ (zM_3 : Md), f_X6_noGame_J21  zM_3 = some o → V p l e rm_X6_noGame s m args below meth c g 2 A 0 0 Q (wM g aM zM_3) [] [(0, .ref aM.1)] 21 [] := by
    intro zM_3 h
    unfold f_X6_noGame_J21 at h
    refine v_bipush (pc' := 23) C (15) dX6_noGame_21 bc_15 rfl ?_
    refine v_istore_n (pc' := 24) C [1, 0] (lv' := [(0, .ref aM.1), (1, .int (15 : Int32))]) dX6_noGame_23 (Nat.le_of_ble_eq_true rfl) rfl rfl ?_
    refine v_loop2 (fun (v1_4 : Int32) (zM_5 : Md) => V p l e rm_X6_noGame s m args below meth c g 2 A 0 0 Q (wM g aM zM_5) [] [(0, .ref aM.1), (1, .int v1_4)] 24 []) (fun re24 ih24 v1_4 zM_5 h => ?_) (15 : Int32) zM_3 h
    unfold f_X6_noGame_L24 at h
    refine v_iload_n (pc' := 25) C 1 dX6_noGame_24 rfl rfl ?_
    refine v_bipush (pc' := 27) C (49) dX6_noGame_25 bc_49 rfl ?_
    refine v_icmp_ge C 43 30 h dX6_noGame_27 (by decide) rfl (fun _ h => ?_) (fun _ h => ?_)
    · exact v_vret (Wf := fun (o9 : Md) (u9 : Unit) => wM g aM o9) (ok := fun (o9 : Md) (u9 : Unit) => True) C Cr h hQ () trivial rfl dX6_noGame_43
    · refine v_aload_n (pc' := 31) C 0 dX6_noGame_30 rfl rfl ?_
      refine g_M_s (pc' := 34) C 0 in_X6_noGame_6 rfl k_X6_noGame_1 rfl dX6_noGame_31 rfl ?_
      refine v_iload_n (pc' := 35) C 1 dX6_noGame_34 rfl rfl ?_
      refine v_iconst (pc' := 36) C (0) dX6_noGame_35 ic_0 rfl ?_
      refine v_iast (pc' := 37) C h 1 (fun z9 => wM g aM z9) rfl rfl dX6_noGame_36 rfl (fun zM_6 h => ?_)
      refine v_iinc (pc' := 40) C 1 [1, 0] (1) dX6_noGame_37 rfl ic_1 (Nat.le_of_ble_eq_true rfl) h (lw := fun v9 => [(0, .ref aM.1), (1, .int v9)]) (fun _ => rfl) rfl (fun v1_7 h => ?_)
      refine v_goto C (pc' := 24) dX6_noGame_40 (by decide) ?_
      exact ih24 v1_7 zM_6 h
  refine v_iconst (pc' := 1) C (2) dX6_noGame_0 ic_2 rfl ?_
  refine v_istore_n (pc' := 2) C [1, 0] (lv' := [(0, .ref aM.1), (1, .int (2 : Int32))]) dX6_noGame_1 (Nat.le_of_ble_eq_true rfl) rfl rfl ?_
  refine v_loop2 (fun (v1_1 : Int32) (zM_2 : Md) => V p l e rm_X6_noGame s m args below meth c g 2 A 0 0 Q (wM g aM zM_2) [] [(0, .ref aM.1), (1, .int v1_1)] 2 []) (fun re2 ih2 v1_1 zM_2 h => ?_) (2 : Int32) zM h
  unfold f_X6_noGame_L2 at h
  refine v_iload_n (pc' := 3) C 1 dX6_noGame_2 rfl rfl ?_
  refine v_bipush (pc' := 5) C (8) dX6_noGame_3 bc_8 rfl ?_
  refine v_icmp_ge C 21 8 h dX6_noGame_5 (by decide) rfl (fun _ h => ?_) (fun _ h => ?_)
  · refine v_lv [0] (lv' := [(0, .ref aM.1)]) rfl ?_
    exact J21 zM_2 h
  · refine v_aload_n (pc' := 9) C 0 dX6_noGame_8 rfl rfl ?_
    refine g_M_s (pc' := 12) C 0 in_X6_noGame_6 rfl k_X6_noGame_1 rfl dX6_noGame_9 rfl ?_
    refine v_iload_n (pc' := 13) C 1 dX6_noGame_12 rfl rfl ?_
    refine v_iconst (pc' := 14) C (0) dX6_noGame_13 ic_0 rfl ?_
    refine v_iast (pc' := 15) C h 1 (fun z9 => wM g aM z9) rfl rfl dX6_noGame_14 rfl (fun zM_8 h => ?_)
    refine v_iinc (pc' := 18) C 1 [1, 0] (1) dX6_noGame_15 rfl ic_1 (Nat.le_of_ble_eq_true rfl) h (lw := fun v9 => [(0, .ref aM.1), (1, .int v9)]) (fun _ => rfl) rfl (fun v1_9 h => ?_)
    refine v_goto C (pc' := 2) dX6_noGame_18 (by decide) ?_
    exact ih2 v1_9 zM_8 h
def f_X6_puts_J155  (zM_10 : Md) : Option (Md) :=
  getA (M_s zM_10) 319 (0 : Int32) fun e_11 =>
  chkA 319 (0 : Int32) (lett (M_s_set zM_10 (upd (M_s zM_10) ((0 : Int32)).toNatClampNeg (e_11 + (1 : Int32)))) fun zM_12 =>
  some zM_12)
def f_X6_puts_L106 (p1 : Int32) (p2 : Int32) (v3_5 : Int32) (re106 : Int32 → Md → Option (Md)) (v4_8 : Int32) (zM_9 : Md) : Option (Md) :=
  if v4_8 < (8 : Int32) then if (p1 + v4_8) < p2 then getA (M_text zM_9) 80 (p1 + v4_8) fun e_15 =>
  chkA 319 (((79 : Int32) + ((8 : Int32) * v3_5)) + v4_8) (lett (M_s_set zM_9 (upd (M_s zM_9) ((((79 : Int32) + ((8 : Int32) * v3_5)) + v4_8)).toNatClampNeg e_15)) fun zM_16 =>
  lett (v4_8 + (1 : Int32)) fun v4_17 =>
  re106 v4_17 zM_16)
  else chkA 319 (((79 : Int32) + ((8 : Int32) * v3_5)) + v4_8) (lett (M_s_set zM_9 (upd (M_s zM_9) ((((79 : Int32) + ((8 : Int32) * v3_5)) + v4_8)).toNatClampNeg (0 : Int32))) fun zM_13 =>
  lett (v4_8 + (1 : Int32)) fun v4_14 =>
  re106 v4_14 zM_13)
  else f_X6_puts_J155  zM_9
def f_X6_puts_J91 (p2 : Int32) (p1 : Int32) (v3_5 : Int32) (zM_6 : Md) : Option (Md) :=
  chkA 319 ((49 : Int32) + v3_5) (lett (M_s_set zM_6 (upd (M_s zM_6) (((49 : Int32) + v3_5)).toNatClampNeg (p2 - p1))) fun zM_7 =>
  loop2 (f_X6_puts_L106 p1 p2 v3_5) FU (0 : Int32) zM_7)
def f_X6_puts_L46 (v4_3 : Int32) (re15 : Int32 → Md → Option (Md)) (re46 : Int32 → Md → Option (Md)) (v5_20 : Int32) (zM_21 : Md) : Option (Md) :=
  if v5_20 < (8 : Int32) then Option.bind (f_X6_letter zM_21 (v4_3 - (1 : Int32)) v5_20) fun r_23 =>
  chkA 319 (((79 : Int32) + ((8 : Int32) * v4_3)) + v5_20) (lett (M_s_set zM_21 (upd (M_s zM_21) ((((79 : Int32) + ((8 : Int32) * v4_3)) + v5_20)).toNatClampNeg r_23)) fun zM_24 =>
  lett (v5_20 + (1 : Int32)) fun v5_25 =>
  re46 v5_25 zM_24)
  else lett (v4_3 + (-1 : Int32)) fun v4_22 =>
  re15 v4_22 zM_21
def f_X6_puts_L15 (r_1 : Int32) (p2 : Int32) (p1 : Int32) (re15 : Int32 → Md → Option (Md)) (v4_3 : Int32) (zM_4 : Md) : Option (Md) :=
  if r_1 < v4_3 then getA (M_s zM_4) 319 (((49 : Int32) + v4_3) - (1 : Int32)) fun e_18 =>
  chkA 319 ((49 : Int32) + v4_3) (lett (M_s_set zM_4 (upd (M_s zM_4) (((49 : Int32) + v4_3)).toNatClampNeg e_18)) fun zM_19 =>
  loop2 (f_X6_puts_L46 v4_3 re15) FU (0 : Int32) zM_19)
  else f_X6_puts_J91 p2 p1 r_1 zM_4
def f_X6_puts (zM : Md) (p1 : Int32) (p2 : Int32) : Option (Md) :=
  Option.bind (f_X6_placeFor zM p1 p2) fun r_1 =>
  getA (M_s zM) 319 (0 : Int32) fun e_2 =>
  loop2 (f_X6_puts_L15 r_1 p2 p1) FU e_2 zM
abbrev rm_X6_puts : Room := { frames := 3, cells := 0, slots := 0, locals := 70 }
theorem in_X6_puts_6 : ∀ w ∈ wsX60, w ∈ wsX6_puts := fun _ h => List.mem_cons_of_mem _ (List.mem_append_right _ h)
theorem k_X6_puts_1 : Cond.fieldLink RX6 7 "DodgingHangmanModel" "s" "[I" ∈ wsX6_puts := List.mem_of_getElem? (i := 1) rfl
theorem k_X6_puts_2 : Cond.fieldLink RX6 19 "DodgingHangmanModel" "text" "[I" ∈ wsX6_puts := List.mem_of_getElem? (i := 2) rfl
theorem nd_X6_puts : yX6_puts.cls ≠ "java/lang/invoke/MethodHandle" ∧ yX6_puts.cls ≠ "java/lang/invoke/VarHandle" ∧ (parseMethodDescriptor yX6_puts.desc).map (fun d => d.parameters.length) = some 2 := by decide +kernel
set_option maxHeartbeats 4000000 in
set_option maxRecDepth 100000 in
theorem c_X6_puts (l : Launch) (g : Gv) (aM : A10) (zM : Md) (p1 : Int32) (p2 : Int32) (o : Md) (h : f_X6_puts zM p1 p2 = some o) : Ct l g yX6_puts wsX6_puts rm_X6_puts [.ref aM.1, .int p1, .int p2] (wM g aM zM) (Qv g (fun _ : Unit => wM g aM o) (fun _ => True)) := by
  refine enter (ret := none) (X := wM g aM zM) (pl := []) pn_X6 rfl (Nat.le_of_ble_eq_true rfl) ((List.append_nil _).symm) ?_
  intro p e s m args below meth c A Q C Cr hin hQ
  unfold f_X6_puts at h
  have J155 : ∀ (zM_10 : Md), f_X6_puts_J155  zM_10 = some o → V p l e rm_X6_puts s m args below meth c g 6 A 0 0 Q (wM g aM zM_10) [] [(0, .ref aM.1)] 155 [] := by
    intro zM_10 h
    unfold f_X6_puts_J155 at h
    refine v_aload_n (pc' := 156) C 0 dX6_puts_155 rfl rfl ?_
    refine g_M_s (pc' := 159) C 0 in_X6_puts_6 rfl k_X6_puts_1 rfl dX6_puts_156 rfl ?_
    refine v_iconst (pc' := 160) C (0) dX6_puts_159 ic_0 rfl ?_
    refine v_dup2 (pc' := 161) C dX6_puts_160 rfl rfl rfl ?_
    refine v_iald (pc' := 162) C h 1 rfl dX6_puts_161 rfl (fun e_11 h => ?_)
    refine v_iconst (pc' := 163) C (1) dX6_puts_162 ic_1 rfl ?_
    refine v_iadd (pc' := 164) C dX6_puts_163 rfl ?_
    refine v_iast (pc' := 165) C h 1 (fun z9 => wM g aM z9) rfl rfl dX6_puts_164 rfl (fun zM_12 h => ?_)
    exact v_vret (Wf := fun (o9 : Md) (u9 : Unit) => wM g aM o9) (ok := fun (o9 : Md) (u9 : Unit) => True) C Cr h hQ () trivial rfl dX6_puts_165
  have J91 : ∀ (v3_5 : Int32) (zM_6 : Md), f_X6_puts_J91 p2 p1 v3_5 zM_6 = some o → V p l e rm_X6_puts s m args below meth c g 6 A 0 0 Q (wM g aM zM_6) [] [(0, .ref aM.1), (1, .int p1), (2, .int p2), (3, .int v3_5)] 91 [] := by
    intro v3_5 zM_6 h
    unfold f_X6_puts_J91 at h
    refine v_aload_n (pc' := 92) C 0 dX6_puts_91 rfl rfl ?_
    refine g_M_s (pc' := 95) C 0 in_X6_puts_6 rfl k_X6_puts_1 rfl dX6_puts_92 rfl ?_
    refine v_bipush (pc' := 97) C (49) dX6_puts_95 bc_49 rfl ?_
    refine v_iload_n (pc' := 98) C 3 dX6_puts_97 rfl rfl ?_
    refine v_iadd (pc' := 99) C dX6_puts_98 rfl ?_
    refine v_iload_n (pc' := 100) C 2 dX6_puts_99 rfl rfl ?_
    refine v_iload_n (pc' := 101) C 1 dX6_puts_100 rfl rfl ?_
    refine v_isub (pc' := 102) C dX6_puts_101 rfl ?_
    refine v_iast (pc' := 103) C h 1 (fun z9 => wM g aM z9) rfl rfl dX6_puts_102 rfl (fun zM_7 h => ?_)
    refine v_iconst (pc' := 104) C (0) dX6_puts_103 ic_0 rfl ?_
    refine v_istore (pc' := 106) C [1, 2, 3, 4, 0] (lv' := [(0, .ref aM.1), (1, .int p1), (2, .int p2), (3, .int v3_5), (4, .int (0 : Int32))]) dX6_puts_104 (Nat.le_of_ble_eq_true rfl) rfl rfl ?_
    refine v_loop2 (fun (v4_8 : Int32) (zM_9 : Md) => V p l e rm_X6_puts s m args below meth c g 6 A 0 0 Q (wM g aM zM_9) [] [(0, .ref aM.1), (1, .int p1), (2, .int p2), (3, .int v3_5), (4, .int v4_8)] 106 []) (fun re106 ih106 v4_8 zM_9 h => ?_) (0 : Int32) zM_7 h
    unfold f_X6_puts_L106 at h
    refine v_iload (pc' := 108) C 4 dX6_puts_106 rfl rfl ?_
    refine v_bipush (pc' := 110) C (8) dX6_puts_108 bc_8 rfl ?_
    refine v_icmp_ge C 155 113 h dX6_puts_110 (by decide) rfl (fun _ h => ?_) (fun _ h => ?_)
    · refine v_lv [0] (lv' := [(0, .ref aM.1)]) rfl ?_
      exact J155 zM_9 h
    · refine v_aload_n (pc' := 114) C 0 dX6_puts_113 rfl rfl ?_
      refine g_M_s (pc' := 117) C 0 in_X6_puts_6 rfl k_X6_puts_1 rfl dX6_puts_114 rfl ?_
      refine v_bipush (pc' := 119) C (79) dX6_puts_117 bc_79 rfl ?_
      refine v_bipush (pc' := 121) C (8) dX6_puts_119 bc_8 rfl ?_
      refine v_iload_n (pc' := 122) C 3 dX6_puts_121 rfl rfl ?_
      refine v_imul (pc' := 123) C dX6_puts_122 rfl ?_
      refine v_iadd (pc' := 124) C dX6_puts_123 rfl ?_
      refine v_iload (pc' := 126) C 4 dX6_puts_124 rfl rfl ?_
      refine v_iadd (pc' := 127) C dX6_puts_126 rfl ?_
      refine v_iload_n (pc' := 128) C 1 dX6_puts_127 rfl rfl ?_
      refine v_iload (pc' := 130) C 4 dX6_puts_128 rfl rfl ?_
      refine v_iadd (pc' := 131) C dX6_puts_130 rfl ?_
      refine v_iload_n (pc' := 132) C 2 dX6_puts_131 rfl rfl ?_
      refine v_icmp_ge C 147 135 h dX6_puts_132 (by decide) rfl (fun _ h => ?_) (fun _ h => ?_)
      · refine v_iconst (pc' := 148) C (0) dX6_puts_147 ic_0 rfl ?_
        refine v_iast (pc' := 149) C h 1 (fun z9 => wM g aM z9) rfl rfl dX6_puts_148 rfl (fun zM_13 h => ?_)
        refine v_iinc (pc' := 152) C 4 [1, 2, 3, 4, 0] (1) dX6_puts_149 rfl ic_1 (Nat.le_of_ble_eq_true rfl) h (lw := fun v9 => [(0, .ref aM.1), (1, .int p1), (2, .int p2), (3, .int v3_5), (4, .int v9)]) (fun _ => rfl) rfl (fun v4_14 h => ?_)
        refine v_goto C (pc' := 106) dX6_puts_152 (by decide) ?_
        exact ih106 v4_14 zM_13 h
      · refine v_aload_n (pc' := 136) C 0 dX6_puts_135 rfl rfl ?_
        refine g_M_text (pc' := 139) C 0 in_X6_puts_6 rfl k_X6_puts_2 rfl dX6_puts_136 rfl ?_
        refine v_iload_n (pc' := 140) C 1 dX6_puts_139 rfl rfl ?_
        refine v_iload (pc' := 142) C 4 dX6_puts_140 rfl rfl ?_
        refine v_iadd (pc' := 143) C dX6_puts_142 rfl ?_
        refine v_iald (pc' := 144) C h 4 rfl dX6_puts_143 rfl (fun e_15 h => ?_)
        refine v_goto C (pc' := 148) dX6_puts_144 (by decide) ?_
        refine v_iast (pc' := 149) C h 1 (fun z9 => wM g aM z9) rfl rfl dX6_puts_148 rfl (fun zM_16 h => ?_)
        refine v_iinc (pc' := 152) C 4 [1, 2, 3, 4, 0] (1) dX6_puts_149 rfl ic_1 (Nat.le_of_ble_eq_true rfl) h (lw := fun v9 => [(0, .ref aM.1), (1, .int p1), (2, .int p2), (3, .int v3_5), (4, .int v9)]) (fun _ => rfl) rfl (fun v4_17 h => ?_)
        refine v_goto C (pc' := 106) dX6_puts_152 (by decide) ?_
        exact ih106 v4_17 zM_16 h
  refine v_aload_n (pc' := 1) C 0 dX6_puts_0 rfl rfl ?_
  refine v_iload_n (pc' := 2) C 1 dX6_puts_1 rfl rfl ?_
  refine v_iload_n (pc' := 3) C 2 dX6_puts_2 rfl rfl ?_
  refine v_calli (pc' := 6) C h (rf := fun r9 => r9) ([]) (fun r9 (u9 : Unit) => wM g aM zM) (fun r hr => run_V C (c_X6_placeFor l g aM _ _ _ r hr) gX6_puts_X6_placeFor rfl nd_X6_placeFor rfl rfl rfl rfl ⟨Nat.le_of_ble_eq_true rfl, Nat.le_of_ble_eq_true rfl⟩ ⟨Nat.le_of_ble_eq_true rfl, Nat.le_of_ble_eq_true rfl⟩ (Nat.le_of_ble_eq_true rfl) dX6_puts_3 rfl) [0, 1, 2, 3, 4, 5, 6, 7, 8, 9] [] [0, 1, 2, 3, 4, 5, 6, 7, 8, 9] rfl rfl rfl rfl (by decide) rfl (fun _ _ => rfl) (k' := 0) (n' := 0) rfl rfl rfl (fun r_1 _ _ h => ?_)
  refine v_istore_n (pc' := 7) C [1, 2, 3, 0] (lv' := [(0, .ref aM.1), (1, .int p1), (2, .int p2), (3, .int r_1)]) dX6_puts_6 (Nat.le_of_ble_eq_true rfl) rfl rfl ?_
  refine v_aload_n (pc' := 8) C 0 dX6_puts_7 rfl rfl ?_
  refine g_M_s (pc' := 11) C 0 in_X6_puts_6 rfl k_X6_puts_1 rfl dX6_puts_8 rfl ?_
  refine v_iconst (pc' := 12) C (0) dX6_puts_11 ic_0 rfl ?_
  refine v_iald (pc' := 13) C h 1 rfl dX6_puts_12 rfl (fun e_2 h => ?_)
  refine v_istore (pc' := 15) C [1, 2, 3, 4, 0] (lv' := [(0, .ref aM.1), (1, .int p1), (2, .int p2), (3, .int r_1), (4, .int e_2)]) dX6_puts_13 (Nat.le_of_ble_eq_true rfl) rfl rfl ?_
  refine v_loop2 (fun (v4_3 : Int32) (zM_4 : Md) => V p l e rm_X6_puts s m args below meth c g 6 A 0 0 Q (wM g aM zM_4) [] [(0, .ref aM.1), (1, .int p1), (2, .int p2), (3, .int r_1), (4, .int v4_3)] 15 []) (fun re15 ih15 v4_3 zM_4 h => ?_) e_2 zM h
  unfold f_X6_puts_L15 at h
  refine v_iload (pc' := 17) C 4 dX6_puts_15 rfl rfl ?_
  refine v_iload_n (pc' := 18) C 3 dX6_puts_17 rfl rfl ?_
  refine v_icmp_le C 91 21 h dX6_puts_18 (by decide) rfl (fun _ h => ?_) (fun _ h => ?_)
  · refine v_lv [0, 1, 2, 3] (lv' := [(0, .ref aM.1), (1, .int p1), (2, .int p2), (3, .int r_1)]) rfl ?_
    exact J91 r_1 zM_4 h
  · refine v_aload_n (pc' := 22) C 0 dX6_puts_21 rfl rfl ?_
    refine g_M_s (pc' := 25) C 0 in_X6_puts_6 rfl k_X6_puts_1 rfl dX6_puts_22 rfl ?_
    refine v_bipush (pc' := 27) C (49) dX6_puts_25 bc_49 rfl ?_
    refine v_iload (pc' := 29) C 4 dX6_puts_27 rfl rfl ?_
    refine v_iadd (pc' := 30) C dX6_puts_29 rfl ?_
    refine v_aload_n (pc' := 31) C 0 dX6_puts_30 rfl rfl ?_
    refine g_M_s (pc' := 34) C 0 in_X6_puts_6 rfl k_X6_puts_1 rfl dX6_puts_31 rfl ?_
    refine v_bipush (pc' := 36) C (49) dX6_puts_34 bc_49 rfl ?_
    refine v_iload (pc' := 38) C 4 dX6_puts_36 rfl rfl ?_
    refine v_iadd (pc' := 39) C dX6_puts_38 rfl ?_
    refine v_iconst (pc' := 40) C (1) dX6_puts_39 ic_1 rfl ?_
    refine v_isub (pc' := 41) C dX6_puts_40 rfl ?_
    refine v_iald (pc' := 42) C h 1 rfl dX6_puts_41 rfl (fun e_18 h => ?_)
    refine v_iast (pc' := 43) C h 1 (fun z9 => wM g aM z9) rfl rfl dX6_puts_42 rfl (fun zM_19 h => ?_)
    refine v_iconst (pc' := 44) C (0) dX6_puts_43 ic_0 rfl ?_
    refine v_istore (pc' := 46) C [1, 2, 3, 4, 5, 0] (lv' := [(0, .ref aM.1), (1, .int p1), (2, .int p2), (3, .int r_1), (4, .int v4_3), (5, .int (0 : Int32))]) dX6_puts_44 (Nat.le_of_ble_eq_true rfl) rfl rfl ?_
    refine v_loop2 (fun (v5_20 : Int32) (zM_21 : Md) => V p l e rm_X6_puts s m args below meth c g 6 A 0 0 Q (wM g aM zM_21) [] [(0, .ref aM.1), (1, .int p1), (2, .int p2), (3, .int r_1), (4, .int v4_3), (5, .int v5_20)] 46 []) (fun re46 ih46 v5_20 zM_21 h => ?_) (0 : Int32) zM_19 h
    unfold f_X6_puts_L46 at h
    refine v_iload (pc' := 48) C 5 dX6_puts_46 rfl rfl ?_
    refine v_bipush (pc' := 50) C (8) dX6_puts_48 bc_8 rfl ?_
    refine v_icmp_ge C 85 53 h dX6_puts_50 (by decide) rfl (fun _ h => ?_) (fun _ h => ?_)
    · refine v_iinc (pc' := 88) C 4 [1, 2, 3, 4, 0, 5] (-1) dX6_puts_85 rfl ic_m1 (Nat.le_of_ble_eq_true rfl) h (lw := fun v9 => [(0, .ref aM.1), (1, .int p1), (2, .int p2), (3, .int r_1), (4, .int v9), (5, .int v5_20)]) (fun _ => rfl) rfl (fun v4_22 h => ?_)
      refine v_goto C (pc' := 15) dX6_puts_88 (by decide) ?_
      refine v_lv [0, 1, 2, 3, 4] (lv' := [(0, .ref aM.1), (1, .int p1), (2, .int p2), (3, .int r_1), (4, .int v4_22)]) rfl ?_
      exact ih15 v4_22 zM_21 h
    · refine v_aload_n (pc' := 54) C 0 dX6_puts_53 rfl rfl ?_
      refine g_M_s (pc' := 57) C 0 in_X6_puts_6 rfl k_X6_puts_1 rfl dX6_puts_54 rfl ?_
      refine v_bipush (pc' := 59) C (79) dX6_puts_57 bc_79 rfl ?_
      refine v_bipush (pc' := 61) C (8) dX6_puts_59 bc_8 rfl ?_
      refine v_iload (pc' := 63) C 4 dX6_puts_61 rfl rfl ?_
      refine v_imul (pc' := 64) C dX6_puts_63 rfl ?_
      refine v_iadd (pc' := 65) C dX6_puts_64 rfl ?_
      refine v_iload (pc' := 67) C 5 dX6_puts_65 rfl rfl ?_
      refine v_iadd (pc' := 68) C dX6_puts_67 rfl ?_
      refine v_aload_n (pc' := 69) C 0 dX6_puts_68 rfl rfl ?_
      refine v_iload (pc' := 71) C 4 dX6_puts_69 rfl rfl ?_
      refine v_iconst (pc' := 72) C (1) dX6_puts_71 ic_1 rfl ?_
      refine v_isub (pc' := 73) C dX6_puts_72 rfl ?_
      refine v_iload (pc' := 75) C 5 dX6_puts_73 rfl rfl ?_
      refine v_calli (pc' := 78) C h (rf := fun r9 => r9) ([]) (fun r9 (u9 : Unit) => wM g aM zM_21) (fun r hr => run_V C (c_X6_letter l g aM _ _ _ r hr) gX6_puts_X6_letter rfl nd_X6_letter rfl rfl rfl rfl ⟨Nat.le_of_ble_eq_true rfl, Nat.le_of_ble_eq_true rfl⟩ ⟨Nat.le_of_ble_eq_true rfl, Nat.le_of_ble_eq_true rfl⟩ (Nat.le_of_ble_eq_true rfl) dX6_puts_75 rfl) [0, 1, 2, 3, 4, 5, 6, 7, 8, 9] [] [0, 1, 2, 3, 4, 5, 6, 7, 8, 9] rfl rfl rfl rfl (by decide) rfl (fun _ _ => rfl) (k' := 0) (n' := 0) rfl rfl rfl (fun r_23 _ _ h => ?_)
      refine v_iast (pc' := 79) C h 1 (fun z9 => wM g aM z9) rfl rfl dX6_puts_78 rfl (fun zM_24 h => ?_)
      refine v_iinc (pc' := 82) C 5 [1, 2, 3, 4, 5, 0] (1) dX6_puts_79 rfl ic_1 (Nat.le_of_ble_eq_true rfl) h (lw := fun v9 => [(0, .ref aM.1), (1, .int p1), (2, .int p2), (3, .int r_1), (4, .int v4_3), (5, .int v9)]) (fun _ => rfl) rfl (fun v5_25 h => ?_)
      refine v_goto C (pc' := 46) dX6_puts_82 (by decide) ?_
      exact ih46 v5_25 zM_24 h
def f_X6_savesAside_L47  (re47 : Int32 → Md → Option (Md)) (v1_5 : Int32) (zM_6 : Md) : Option (Md) :=
  if v1_5 < (319 : Int32) then getA (M_s zM_6) 319 v1_5 fun e_7 =>
  getA (M_aside zM_6) 319 v1_5 fun e_8 =>
  chkA 319 v1_5 (lett (M_s_set zM_6 (upd (M_s zM_6) (v1_5).toNatClampNeg e_8)) fun zM_9 =>
  chkA 319 v1_5 (lett (M_aside_set zM_9 (upd (M_aside zM_9) (v1_5).toNatClampNeg e_7)) fun zM_10 =>
  lett (v1_5 + (1 : Int32)) fun v1_11 =>
  re47 v1_11 zM_10))
  else some zM_6
def f_X6_savesAside_J41  (zM_3 : Md) : Option (Md) :=
  Option.bind (f_X6_saves zM_3) fun r_4 =>
  loop2 (f_X6_savesAside_L47 ) FU (0 : Int32) r_4
def f_X6_savesAside_L2  (re2 : Int32 → Md → Option (Md)) (v1_1 : Int32) (zM_2 : Md) : Option (Md) :=
  if v1_1 < (319 : Int32) then getA (M_s zM_2) 319 v1_1 fun e_12 =>
  getA (M_aside zM_2) 319 v1_1 fun e_13 =>
  chkA 319 v1_1 (lett (M_s_set zM_2 (upd (M_s zM_2) (v1_1).toNatClampNeg e_13)) fun zM_14 =>
  chkA 319 v1_1 (lett (M_aside_set zM_14 (upd (M_aside zM_14) (v1_1).toNatClampNeg e_12)) fun zM_15 =>
  lett (v1_1 + (1 : Int32)) fun v1_16 =>
  re2 v1_16 zM_15))
  else f_X6_savesAside_J41  zM_2
def f_X6_savesAside (zM : Md)  : Option (Md) :=
  loop2 (f_X6_savesAside_L2 ) FU (0 : Int32) zM
abbrev rm_X6_savesAside : Room := { frames := 1, cells := 0, slots := 0, locals := 21 }
theorem in_X6_savesAside_6 : ∀ w ∈ wsX60, w ∈ wsX6_savesAside := fun _ h => List.mem_cons_of_mem _ (List.mem_append_right _ h)
theorem k_X6_savesAside_1 : Cond.fieldLink RX6 7 "DodgingHangmanModel" "s" "[I" ∈ wsX6_savesAside := List.mem_of_getElem? (i := 1) rfl
theorem k_X6_savesAside_2 : Cond.fieldLink RX6 13 "DodgingHangmanModel" "aside" "[I" ∈ wsX6_savesAside := List.mem_of_getElem? (i := 2) rfl
theorem nd_X6_savesAside : yX6_savesAside.cls ≠ "java/lang/invoke/MethodHandle" ∧ yX6_savesAside.cls ≠ "java/lang/invoke/VarHandle" ∧ (parseMethodDescriptor yX6_savesAside.desc).map (fun d => d.parameters.length) = some 0 := by decide +kernel
set_option maxHeartbeats 4000000 in
set_option maxRecDepth 100000 in
theorem c_X6_savesAside (l : Launch) (g : Gv) (aM : A10) (zM : Md)  (o : Md) (h : f_X6_savesAside zM  = some o) : Ct l g yX6_savesAside wsX6_savesAside rm_X6_savesAside [.ref aM.1] (wM g aM zM) (Qv g (fun _ : Unit => wM g aM o) (fun _ => True)) := by
  refine enter (ret := none) (X := wM g aM zM) (pl := []) pn_X6 rfl (Nat.le_of_ble_eq_true rfl) ((List.append_nil _).symm) ?_
  intro p e s m args below meth c A Q C Cr hin hQ
  unfold f_X6_savesAside at h
  have J41 : ∀ (zM_3 : Md), f_X6_savesAside_J41  zM_3 = some o → V p l e rm_X6_savesAside s m args below meth c g 3 A 0 0 Q (wM g aM zM_3) [] [(0, .ref aM.1)] 41 [] := by
    intro zM_3 h
    unfold f_X6_savesAside_J41 at h
    refine v_aload_n (pc' := 42) C 0 dX6_savesAside_41 rfl rfl ?_
    refine v_callv (pc' := 45) C h ([]) (fun r9 (u9 : Unit) => wM g aM r9) (fun r hr => run_V C (c_X6_saves l g aM _ r hr) gX6_savesAside_X6_saves rfl nd_X6_saves rfl rfl rfl rfl ⟨Nat.le_of_ble_eq_true rfl, Nat.le_of_ble_eq_true rfl⟩ ⟨Nat.le_of_ble_eq_true rfl, Nat.le_of_ble_eq_true rfl⟩ (Nat.le_of_ble_eq_true rfl) dX6_savesAside_42 rfl) [0, 1, 2, 3, 4, 5, 6, 7, 8, 9] [] [0, 1, 2, 3, 4, 5, 6, 7, 8, 9] rfl rfl rfl rfl (by decide) rfl (fun _ _ => rfl) (k' := 0) (n' := 0) rfl rfl rfl (fun r_4 _ _ h => ?_)
    refine v_iconst (pc' := 46) C (0) dX6_savesAside_45 ic_0 rfl ?_
    refine v_istore_n (pc' := 47) C [1, 0] (lv' := [(0, .ref aM.1), (1, .int (0 : Int32))]) dX6_savesAside_46 (Nat.le_of_ble_eq_true rfl) rfl rfl ?_
    refine v_loop2 (fun (v1_5 : Int32) (zM_6 : Md) => V p l e rm_X6_savesAside s m args below meth c g 3 A 0 0 Q (wM g aM zM_6) [] [(0, .ref aM.1), (1, .int v1_5)] 47 []) (fun re47 ih47 v1_5 zM_6 h => ?_) (0 : Int32) r_4 h
    unfold f_X6_savesAside_L47 at h
    refine v_iload_n (pc' := 48) C 1 dX6_savesAside_47 rfl rfl ?_
    refine v_sipush (pc' := 51) C (319) dX6_savesAside_48 sc_319 rfl ?_
    refine v_icmp_ge C 86 54 h dX6_savesAside_51 (by decide) rfl (fun _ h => ?_) (fun _ h => ?_)
    · exact v_vret (Wf := fun (o9 : Md) (u9 : Unit) => wM g aM o9) (ok := fun (o9 : Md) (u9 : Unit) => True) C Cr h hQ () trivial rfl dX6_savesAside_86
    · refine v_aload_n (pc' := 55) C 0 dX6_savesAside_54 rfl rfl ?_
      refine g_M_s (pc' := 58) C 0 in_X6_savesAside_6 rfl k_X6_savesAside_1 rfl dX6_savesAside_55 rfl ?_
      refine v_iload_n (pc' := 59) C 1 dX6_savesAside_58 rfl rfl ?_
      refine v_iald (pc' := 60) C h 1 rfl dX6_savesAside_59 rfl (fun e_7 h => ?_)
      refine v_istore_n (pc' := 61) C [1, 2, 0] (lv' := [(0, .ref aM.1), (1, .int v1_5), (2, .int e_7)]) dX6_savesAside_60 (Nat.le_of_ble_eq_true rfl) rfl rfl ?_
      refine v_aload_n (pc' := 62) C 0 dX6_savesAside_61 rfl rfl ?_
      refine g_M_s (pc' := 65) C 0 in_X6_savesAside_6 rfl k_X6_savesAside_1 rfl dX6_savesAside_62 rfl ?_
      refine v_iload_n (pc' := 66) C 1 dX6_savesAside_65 rfl rfl ?_
      refine v_aload_n (pc' := 67) C 0 dX6_savesAside_66 rfl rfl ?_
      refine g_M_aside (pc' := 70) C 0 in_X6_savesAside_6 rfl k_X6_savesAside_2 rfl dX6_savesAside_67 rfl ?_
      refine v_iload_n (pc' := 71) C 1 dX6_savesAside_70 rfl rfl ?_
      refine v_iald (pc' := 72) C h 2 rfl dX6_savesAside_71 rfl (fun e_8 h => ?_)
      refine v_iast (pc' := 73) C h 1 (fun z9 => wM g aM z9) rfl rfl dX6_savesAside_72 rfl (fun zM_9 h => ?_)
      refine v_aload_n (pc' := 74) C 0 dX6_savesAside_73 rfl rfl ?_
      refine g_M_aside (pc' := 77) C 0 in_X6_savesAside_6 rfl k_X6_savesAside_2 rfl dX6_savesAside_74 rfl ?_
      refine v_iload_n (pc' := 78) C 1 dX6_savesAside_77 rfl rfl ?_
      refine v_iload_n (pc' := 79) C 2 dX6_savesAside_78 rfl rfl ?_
      refine v_iast (pc' := 80) C h 2 (fun z9 => wM g aM z9) rfl rfl dX6_savesAside_79 rfl (fun zM_10 h => ?_)
      refine v_iinc (pc' := 83) C 1 [1, 0, 2] (1) dX6_savesAside_80 rfl ic_1 (Nat.le_of_ble_eq_true rfl) h (lw := fun v9 => [(0, .ref aM.1), (1, .int v9), (2, .int e_7)]) (fun _ => rfl) rfl (fun v1_11 h => ?_)
      refine v_goto C (pc' := 47) dX6_savesAside_83 (by decide) ?_
      refine v_lv [0, 1] (lv' := [(0, .ref aM.1), (1, .int v1_11)]) rfl ?_
      exact ih47 v1_11 zM_10 h
  refine v_iconst (pc' := 1) C (0) dX6_savesAside_0 ic_0 rfl ?_
  refine v_istore_n (pc' := 2) C [1, 0] (lv' := [(0, .ref aM.1), (1, .int (0 : Int32))]) dX6_savesAside_1 (Nat.le_of_ble_eq_true rfl) rfl rfl ?_
  refine v_loop2 (fun (v1_1 : Int32) (zM_2 : Md) => V p l e rm_X6_savesAside s m args below meth c g 3 A 0 0 Q (wM g aM zM_2) [] [(0, .ref aM.1), (1, .int v1_1)] 2 []) (fun re2 ih2 v1_1 zM_2 h => ?_) (0 : Int32) zM h
  unfold f_X6_savesAside_L2 at h
  refine v_iload_n (pc' := 3) C 1 dX6_savesAside_2 rfl rfl ?_
  refine v_sipush (pc' := 6) C (319) dX6_savesAside_3 sc_319 rfl ?_
  refine v_icmp_ge C 41 9 h dX6_savesAside_6 (by decide) rfl (fun _ h => ?_) (fun _ h => ?_)
  · refine v_lv [0] (lv' := [(0, .ref aM.1)]) rfl ?_
    exact J41 zM_2 h
  · refine v_aload_n (pc' := 10) C 0 dX6_savesAside_9 rfl rfl ?_
    refine g_M_s (pc' := 13) C 0 in_X6_savesAside_6 rfl k_X6_savesAside_1 rfl dX6_savesAside_10 rfl ?_
    refine v_iload_n (pc' := 14) C 1 dX6_savesAside_13 rfl rfl ?_
    refine v_iald (pc' := 15) C h 1 rfl dX6_savesAside_14 rfl (fun e_12 h => ?_)
    refine v_istore_n (pc' := 16) C [1, 2, 0] (lv' := [(0, .ref aM.1), (1, .int v1_1), (2, .int e_12)]) dX6_savesAside_15 (Nat.le_of_ble_eq_true rfl) rfl rfl ?_
    refine v_aload_n (pc' := 17) C 0 dX6_savesAside_16 rfl rfl ?_
    refine g_M_s (pc' := 20) C 0 in_X6_savesAside_6 rfl k_X6_savesAside_1 rfl dX6_savesAside_17 rfl ?_
    refine v_iload_n (pc' := 21) C 1 dX6_savesAside_20 rfl rfl ?_
    refine v_aload_n (pc' := 22) C 0 dX6_savesAside_21 rfl rfl ?_
    refine g_M_aside (pc' := 25) C 0 in_X6_savesAside_6 rfl k_X6_savesAside_2 rfl dX6_savesAside_22 rfl ?_
    refine v_iload_n (pc' := 26) C 1 dX6_savesAside_25 rfl rfl ?_
    refine v_iald (pc' := 27) C h 2 rfl dX6_savesAside_26 rfl (fun e_13 h => ?_)
    refine v_iast (pc' := 28) C h 1 (fun z9 => wM g aM z9) rfl rfl dX6_savesAside_27 rfl (fun zM_14 h => ?_)
    refine v_aload_n (pc' := 29) C 0 dX6_savesAside_28 rfl rfl ?_
    refine g_M_aside (pc' := 32) C 0 in_X6_savesAside_6 rfl k_X6_savesAside_2 rfl dX6_savesAside_29 rfl ?_
    refine v_iload_n (pc' := 33) C 1 dX6_savesAside_32 rfl rfl ?_
    refine v_iload_n (pc' := 34) C 2 dX6_savesAside_33 rfl rfl ?_
    refine v_iast (pc' := 35) C h 2 (fun z9 => wM g aM z9) rfl rfl dX6_savesAside_34 rfl (fun zM_15 h => ?_)
    refine v_iinc (pc' := 38) C 1 [1, 0, 2] (1) dX6_savesAside_35 rfl ic_1 (Nat.le_of_ble_eq_true rfl) h (lw := fun v9 => [(0, .ref aM.1), (1, .int v9), (2, .int e_12)]) (fun _ => rfl) rfl (fun v1_16 h => ?_)
    refine v_goto C (pc' := 2) dX6_savesAside_38 (by decide) ?_
    refine v_lv [0, 1] (lv' := [(0, .ref aM.1), (1, .int v1_16)]) rfl ?_
    exact ih2 v1_16 zM_15 h
def f_X6_addWords_J119  (v1_8 : Int32) (v2_9 : Int32) (zM_10 : Md) : Option (Int32 × Md) :=
  if v2_9 = 0 then Option.bind (f_X6_savesAside zM_10) fun r_11 =>
  Option.bind (f_X6_noGame r_11) fun r_12 =>
  lett (M_typed_set r_12 (0 : Int32)) fun zM_13 =>
  some (v1_8, zM_13)
  else Option.bind (f_X6_putBack zM_10) fun r_14 =>
  some ((-4 : Int32), r_14)
def f_X6_addWords_J108 (re32 : Int32 → Int32 → Int32 → Md → Option (Int32 × Md)) (v1_27 : Int32) (v2_28 : Int32) (v3_29 : Int32) (zM_30 : Md) : Option (Int32 × Md) :=
  Option.bind (f_X6_endOf zM_30 v3_29) fun r_31 =>
  lett (r_31 + (1 : Int32)) fun v3_32 =>
  re32 v1_27 v2_28 v3_32 zM_30
def f_X6_addWords_J85 (re32 : Int32 → Int32 → Int32 → Md → Option (Int32 × Md)) (v1_22 : Int32) (v3_23 : Int32) (v4_24 : Int32) (zM_25 : Md) (s0_26 : Int32) : Option (Int32 × Md) :=
  if v4_24 = 0 then f_X6_addWords_J108 re32 v1_22 s0_26 v3_23 zM_25
  else if s0_26 = 0 then Option.bind (f_X6_endOf zM_25 v3_23) fun r_33 =>
  Option.bind (f_X6_puts zM_25 v3_23 r_33) fun r_34 =>
  lett (v1_22 + (1 : Int32)) fun v1_35 =>
  f_X6_addWords_J108 re32 v1_35 s0_26 v3_23 r_34
  else f_X6_addWords_J108 re32 v1_22 s0_26 v3_23 zM_25
def f_X6_addWords_J58 (re32 : Int32 → Int32 → Int32 → Md → Option (Int32 × Md)) (v1_17 : Int32) (v2_18 : Int32) (v3_19 : Int32) (zM_20 : Md) (s0_21 : Int32) : Option (Int32 × Md) :=
  if v2_18 = 0 then if s0_21 = 0 then f_X6_addWords_J85 re32 v1_17 v3_19 s0_21 zM_20 (0 : Int32)
  else getA (M_s zM_20) 319 (0 : Int32) fun e_36 =>
  if e_36 = (30 : Int32) then f_X6_addWords_J85 re32 v1_17 v3_19 s0_21 zM_20 (1 : Int32)
  else f_X6_addWords_J85 re32 v1_17 v3_19 s0_21 zM_20 (0 : Int32)
  else f_X6_addWords_J85 re32 v1_17 v3_19 s0_21 zM_20 (1 : Int32)
def f_X6_addWords_L32  (re32 : Int32 → Int32 → Int32 → Md → Option (Int32 × Md)) (v1_4 : Int32) (v2_5 : Int32) (v3_6 : Int32) (zM_7 : Md) : Option (Int32 × Md) :=
  if v3_6 < (M_typed zM_7) then Option.bind (f_X6_endOf zM_7 v3_6) fun r_15 =>
  Option.bind (f_X6_isIn zM_7 v3_6 r_15) fun r_16 =>
  if r_16 = 0 then f_X6_addWords_J58 re32 v1_4 v2_5 v3_6 zM_7 (1 : Int32)
  else f_X6_addWords_J58 re32 v1_4 v2_5 v3_6 zM_7 (0 : Int32)
  else f_X6_addWords_J119  v1_4 v2_5 zM_7
def f_X6_addWords (zM : Md)  : Option (Int32 × Md) :=
  Option.bind (f_X6_error zM) fun r_1 =>
  if r_1 = (-6 : Int32) then Option.bind (f_X6_runs zM) fun r_2 =>
  if r_2 = 0 then Option.bind (f_X6_putAside zM) fun r_3 =>
  loop4 (f_X6_addWords_L32 ) FU (0 : Int32) (0 : Int32) (0 : Int32) r_3
  else some ((-3 : Int32), zM)
  else some ((-5 : Int32), zM)
abbrev rm_X6_addWords : Room := { frames := 4, cells := 0, slots := 0, locals := 95 }
theorem in_X6_addWords_6 : ∀ w ∈ wsX60, w ∈ wsX6_addWords := fun _ h => List.mem_cons_of_mem _ (List.mem_append_right _ h)
theorem k_X6_addWords_1 : Cond.fieldLink RX6 48 "DodgingHangmanModel" "typed" "I" ∈ wsX6_addWords := List.mem_of_getElem? (i := 1) rfl
theorem k_X6_addWords_2 : Cond.fieldLink RX6 7 "DodgingHangmanModel" "s" "[I" ∈ wsX6_addWords := List.mem_of_getElem? (i := 2) rfl
theorem nd_X6_addWords : yX6_addWords.cls ≠ "java/lang/invoke/MethodHandle" ∧ yX6_addWords.cls ≠ "java/lang/invoke/VarHandle" ∧ (parseMethodDescriptor yX6_addWords.desc).map (fun d => d.parameters.length) = some 0 := by decide +kernel
set_option maxHeartbeats 4000000 in
set_option maxRecDepth 100000 in
theorem c_X6_addWords (l : Launch) (g : Gv) (aM : A10) (zM : Md)  (o : Int32 × Md) (h : f_X6_addWords zM  = some o) : Ct l g yX6_addWords wsX6_addWords rm_X6_addWords [.ref aM.1] (wM g aM zM) (Qi g o.1 (fun _ : Unit => wM g aM o.2) (fun _ => True)) := by
  refine enter (ret := (some .int)) (X := wM g aM zM) (pl := []) pn_X6 rfl (Nat.le_of_ble_eq_true rfl) ((List.append_nil _).symm) ?_
  intro p e s m args below meth c A Q C Cr hin hQ
  unfold f_X6_addWords at h
  have J119 : ∀ (v1_8 : Int32) (v2_9 : Int32) (zM_10 : Md), f_X6_addWords_J119  v1_8 v2_9 zM_10 = some o → V p l e rm_X6_addWords s m args below meth c g 5 A 0 0 Q (wM g aM zM_10) [] [(0, .ref aM.1), (1, .int v1_8), (2, .int v2_9)] 119 [] := by
    intro v1_8 v2_9 zM_10 h
    unfold f_X6_addWords_J119 at h
    refine v_iload_n (pc' := 120) C 2 dX6_addWords_119 rfl rfl ?_
    refine v_if_eq C 130 123 h dX6_addWords_120 (by decide) rfl (fun _ h => ?_) (fun _ h => ?_)
    · refine v_aload_n (pc' := 131) C 0 dX6_addWords_130 rfl rfl ?_
      refine v_callv (pc' := 134) C h ([]) (fun r9 (u9 : Unit) => wM g aM r9) (fun r hr => run_V C (c_X6_savesAside l g aM _ r hr) gX6_addWords_X6_savesAside rfl nd_X6_savesAside rfl rfl rfl rfl ⟨Nat.le_of_ble_eq_true rfl, Nat.le_of_ble_eq_true rfl⟩ ⟨Nat.le_of_ble_eq_true rfl, Nat.le_of_ble_eq_true rfl⟩ (Nat.le_of_ble_eq_true rfl) dX6_addWords_131 rfl) [0, 1, 2, 3, 4, 5, 6, 7, 8, 9] [] [0, 1, 2, 3, 4, 5, 6, 7, 8, 9] rfl rfl rfl rfl (by decide) rfl (fun _ _ => rfl) (k' := 0) (n' := 0) rfl rfl rfl (fun r_11 _ _ h => ?_)
      refine v_aload_n (pc' := 135) C 0 dX6_addWords_134 rfl rfl ?_
      refine v_callv (pc' := 138) C h ([]) (fun r9 (u9 : Unit) => wM g aM r9) (fun r hr => run_V C (c_X6_noGame l g aM _ r hr) gX6_addWords_X6_noGame rfl nd_X6_noGame rfl rfl rfl rfl ⟨Nat.le_of_ble_eq_true rfl, Nat.le_of_ble_eq_true rfl⟩ ⟨Nat.le_of_ble_eq_true rfl, Nat.le_of_ble_eq_true rfl⟩ (Nat.le_of_ble_eq_true rfl) dX6_addWords_135 rfl) [0, 1, 2, 3, 4, 5, 6, 7, 8, 9] [] [0, 1, 2, 3, 4, 5, 6, 7, 8, 9] rfl rfl rfl rfl (by decide) rfl (fun _ _ => rfl) (k' := 0) (n' := 0) rfl rfl rfl (fun r_12 _ _ h => ?_)
      refine v_aload_n (pc' := 139) C 0 dX6_addWords_138 rfl rfl ?_
      refine v_iconst (pc' := 140) C (0) dX6_addWords_139 ic_0 rfl ?_
      refine p_M_typed (pc' := 143) C h 0 (fun z9 => wM g aM z9) in_X6_addWords_6 rfl k_X6_addWords_1 rfl dX6_addWords_140 (Nat.le_of_ble_eq_true rfl) rfl (fun zM_13 h => ?_)
      refine v_iload_n (pc' := 144) C 1 dX6_addWords_143 rfl rfl ?_
      exact v_iret (rf := fun (o9 : Int32 × Md) => o9.1) (Wf := fun (o9 : Int32 × Md) (u9 : Unit) => wM g aM o9.2) (ok := fun (o9 : Int32 × Md) (u9 : Unit) => True) C Cr h hQ () trivial rfl rfl dX6_addWords_144
    · refine v_aload_n (pc' := 124) C 0 dX6_addWords_123 rfl rfl ?_
      refine v_callv (pc' := 127) C h ([]) (fun r9 (u9 : Unit) => wM g aM r9) (fun r hr => run_V C (c_X6_putBack l g aM _ r hr) gX6_addWords_X6_putBack rfl nd_X6_putBack rfl rfl rfl rfl ⟨Nat.le_of_ble_eq_true rfl, Nat.le_of_ble_eq_true rfl⟩ ⟨Nat.le_of_ble_eq_true rfl, Nat.le_of_ble_eq_true rfl⟩ (Nat.le_of_ble_eq_true rfl) dX6_addWords_124 rfl) [0, 1, 2, 3, 4, 5, 6, 7, 8, 9] [] [0, 1, 2, 3, 4, 5, 6, 7, 8, 9] rfl rfl rfl rfl (by decide) rfl (fun _ _ => rfl) (k' := 0) (n' := 0) rfl rfl rfl (fun r_14 _ _ h => ?_)
      refine v_bipush (pc' := 129) C (-4) dX6_addWords_127 bc_m4 rfl ?_
      exact v_iret (rf := fun (o9 : Int32 × Md) => o9.1) (Wf := fun (o9 : Int32 × Md) (u9 : Unit) => wM g aM o9.2) (ok := fun (o9 : Int32 × Md) (u9 : Unit) => True) C Cr h hQ () trivial rfl rfl dX6_addWords_129
  refine v_aload_n (pc' := 1) C 0 dX6_addWords_0 rfl rfl ?_
  refine v_calli (pc' := 4) C h (rf := fun r9 => r9) ([]) (fun r9 (u9 : Unit) => wM g aM zM) (fun r hr => run_V C (c_X6_error l g aM _ r hr) gX6_addWords_X6_error rfl nd_X6_error rfl rfl rfl rfl ⟨Nat.le_of_ble_eq_true rfl, Nat.le_of_ble_eq_true rfl⟩ ⟨Nat.le_of_ble_eq_true rfl, Nat.le_of_ble_eq_true rfl⟩ (Nat.le_of_ble_eq_true rfl) dX6_addWords_1 rfl) [0, 1, 2, 3, 4, 5, 6, 7, 8, 9] [] [0, 1, 2, 3, 4, 5, 6, 7, 8, 9] rfl rfl rfl rfl (by decide) rfl (fun _ _ => rfl) (k' := 0) (n' := 0) rfl rfl rfl (fun r_1 _ _ h => ?_)
  refine v_bipush (pc' := 6) C (-6) dX6_addWords_4 bc_m6 rfl ?_
  refine v_icmp_eq C 12 9 h dX6_addWords_6 (by decide) rfl (fun _ h => ?_) (fun _ h => ?_)
  · refine v_aload_n (pc' := 13) C 0 dX6_addWords_12 rfl rfl ?_
    refine v_calli (pc' := 16) C h (rf := fun r9 => r9) ([]) (fun r9 (u9 : Unit) => wM g aM zM) (fun r hr => run_V C (c_X6_runs l g aM _ r hr) gX6_addWords_X6_runs rfl nd_X6_runs rfl rfl rfl rfl ⟨Nat.le_of_ble_eq_true rfl, Nat.le_of_ble_eq_true rfl⟩ ⟨Nat.le_of_ble_eq_true rfl, Nat.le_of_ble_eq_true rfl⟩ (Nat.le_of_ble_eq_true rfl) dX6_addWords_13 rfl) [0, 1, 2, 3, 4, 5, 6, 7, 8, 9] [] [0, 1, 2, 3, 4, 5, 6, 7, 8, 9] rfl rfl rfl rfl (by decide) rfl (fun _ _ => rfl) (k' := 0) (n' := 0) rfl rfl rfl (fun r_2 _ _ h => ?_)
    refine v_if_eq C 22 19 h dX6_addWords_16 (by decide) rfl (fun _ h => ?_) (fun _ h => ?_)
    · refine v_aload_n (pc' := 23) C 0 dX6_addWords_22 rfl rfl ?_
      refine v_callv (pc' := 26) C h ([]) (fun r9 (u9 : Unit) => wM g aM r9) (fun r hr => run_V C (c_X6_putAside l g aM _ r hr) gX6_addWords_X6_putAside rfl nd_X6_putAside rfl rfl rfl rfl ⟨Nat.le_of_ble_eq_true rfl, Nat.le_of_ble_eq_true rfl⟩ ⟨Nat.le_of_ble_eq_true rfl, Nat.le_of_ble_eq_true rfl⟩ (Nat.le_of_ble_eq_true rfl) dX6_addWords_23 rfl) [0, 1, 2, 3, 4, 5, 6, 7, 8, 9] [] [0, 1, 2, 3, 4, 5, 6, 7, 8, 9] rfl rfl rfl rfl (by decide) rfl (fun _ _ => rfl) (k' := 0) (n' := 0) rfl rfl rfl (fun r_3 _ _ h => ?_)
      refine v_iconst (pc' := 27) C (0) dX6_addWords_26 ic_0 rfl ?_
      refine v_istore_n (pc' := 28) C [1, 0] (lv' := [(0, .ref aM.1), (1, .int (0 : Int32))]) dX6_addWords_27 (Nat.le_of_ble_eq_true rfl) rfl rfl ?_
      refine v_iconst (pc' := 29) C (0) dX6_addWords_28 ic_0 rfl ?_
      refine v_istore_n (pc' := 30) C [1, 2, 0] (lv' := [(0, .ref aM.1), (1, .int (0 : Int32)), (2, .int (0 : Int32))]) dX6_addWords_29 (Nat.le_of_ble_eq_true rfl) rfl rfl ?_
      refine v_iconst (pc' := 31) C (0) dX6_addWords_30 ic_0 rfl ?_
      refine v_istore_n (pc' := 32) C [1, 2, 3, 0] (lv' := [(0, .ref aM.1), (1, .int (0 : Int32)), (2, .int (0 : Int32)), (3, .int (0 : Int32))]) dX6_addWords_31 (Nat.le_of_ble_eq_true rfl) rfl rfl ?_
      refine v_loop4 (fun (v1_4 : Int32) (v2_5 : Int32) (v3_6 : Int32) (zM_7 : Md) => V p l e rm_X6_addWords s m args below meth c g 5 A 0 0 Q (wM g aM zM_7) [] [(0, .ref aM.1), (1, .int v1_4), (2, .int v2_5), (3, .int v3_6)] 32 []) (fun re32 ih32 v1_4 v2_5 v3_6 zM_7 h => ?_) (0 : Int32) (0 : Int32) (0 : Int32) r_3 h
      unfold f_X6_addWords_L32 at h
      have J108 : ∀ (v1_27 : Int32) (v2_28 : Int32) (v3_29 : Int32) (zM_30 : Md), f_X6_addWords_J108 re32 v1_27 v2_28 v3_29 zM_30 = some o → V p l e rm_X6_addWords s m args below meth c g 5 A 0 0 Q (wM g aM zM_30) [] [(0, .ref aM.1), (1, .int v1_27), (2, .int v2_28), (3, .int v3_29)] 108 [] := by
        intro v1_27 v2_28 v3_29 zM_30 h
        unfold f_X6_addWords_J108 at h
        refine v_aload_n (pc' := 109) C 0 dX6_addWords_108 rfl rfl ?_
        refine v_iload_n (pc' := 110) C 3 dX6_addWords_109 rfl rfl ?_
        refine v_calli (pc' := 113) C h (rf := fun r9 => r9) ([]) (fun r9 (u9 : Unit) => wM g aM zM_30) (fun r hr => run_V C (c_X6_endOf l g aM _ _ r hr) gX6_addWords_X6_endOf rfl nd_X6_endOf rfl rfl rfl rfl ⟨Nat.le_of_ble_eq_true rfl, Nat.le_of_ble_eq_true rfl⟩ ⟨Nat.le_of_ble_eq_true rfl, Nat.le_of_ble_eq_true rfl⟩ (Nat.le_of_ble_eq_true rfl) dX6_addWords_110 rfl) [0, 1, 2, 3, 4, 5, 6, 7, 8, 9] [] [0, 1, 2, 3, 4, 5, 6, 7, 8, 9] rfl rfl rfl rfl (by decide) rfl (fun _ _ => rfl) (k' := 0) (n' := 0) rfl rfl rfl (fun r_31 _ _ h => ?_)
        refine v_iconst (pc' := 114) C (1) dX6_addWords_113 ic_1 rfl ?_
        refine v_iadd (pc' := 115) C dX6_addWords_114 rfl ?_
        refine v_leti h (fun v3_32 h => ?_)
        refine v_istore_n (pc' := 116) C [1, 2, 3, 0] (lv' := [(0, .ref aM.1), (1, .int v1_27), (2, .int v2_28), (3, .int v3_32)]) dX6_addWords_115 (Nat.le_of_ble_eq_true rfl) rfl rfl ?_
        refine v_goto C (pc' := 32) dX6_addWords_116 (by decide) ?_
        exact ih32 v1_27 v2_28 v3_32 zM_30 h
      have J85 : ∀ (v1_22 : Int32) (v3_23 : Int32) (v4_24 : Int32) (zM_25 : Md) (s0_26 : Int32), f_X6_addWords_J85 re32 v1_22 v3_23 v4_24 zM_25 s0_26 = some o → V p l e rm_X6_addWords s m args below meth c g 5 A 0 0 Q (wM g aM zM_25) [] [(0, .ref aM.1), (1, .int v1_22), (3, .int v3_23), (4, .int v4_24)] 85 [.int s0_26] := by
        intro v1_22 v3_23 v4_24 zM_25 s0_26 h
        unfold f_X6_addWords_J85 at h
        refine v_istore_n (pc' := 86) C [1, 2, 0, 3, 4] (lv' := [(0, .ref aM.1), (1, .int v1_22), (2, .int s0_26), (3, .int v3_23), (4, .int v4_24)]) dX6_addWords_85 (Nat.le_of_ble_eq_true rfl) rfl rfl ?_
        refine v_iload (pc' := 88) C 4 dX6_addWords_86 rfl rfl ?_
        refine v_if_eq C 108 91 h dX6_addWords_88 (by decide) rfl (fun _ h => ?_) (fun _ h => ?_)
        · refine v_lv [0, 1, 2, 3] (lv' := [(0, .ref aM.1), (1, .int v1_22), (2, .int s0_26), (3, .int v3_23)]) rfl ?_
          exact J108 v1_22 s0_26 v3_23 zM_25 h
        · refine v_iload_n (pc' := 92) C 2 dX6_addWords_91 rfl rfl ?_
          refine v_if_ne C 108 95 h dX6_addWords_92 (by decide) rfl (fun _ h => ?_) (fun _ h => ?_)
          · refine v_lv [0, 1, 2, 3] (lv' := [(0, .ref aM.1), (1, .int v1_22), (2, .int s0_26), (3, .int v3_23)]) rfl ?_
            exact J108 v1_22 s0_26 v3_23 zM_25 h
          · refine v_aload_n (pc' := 96) C 0 dX6_addWords_95 rfl rfl ?_
            refine v_iload_n (pc' := 97) C 3 dX6_addWords_96 rfl rfl ?_
            refine v_aload_n (pc' := 98) C 0 dX6_addWords_97 rfl rfl ?_
            refine v_iload_n (pc' := 99) C 3 dX6_addWords_98 rfl rfl ?_
            refine v_calli (pc' := 102) C h (rf := fun r9 => r9) ([]) (fun r9 (u9 : Unit) => wM g aM zM_25) (fun r hr => run_V C (c_X6_endOf l g aM _ _ r hr) gX6_addWords_X6_endOf rfl nd_X6_endOf rfl rfl rfl rfl ⟨Nat.le_of_ble_eq_true rfl, Nat.le_of_ble_eq_true rfl⟩ ⟨Nat.le_of_ble_eq_true rfl, Nat.le_of_ble_eq_true rfl⟩ (Nat.le_of_ble_eq_true rfl) dX6_addWords_99 rfl) [0, 1, 2, 3, 4, 5, 6, 7, 8, 9] [] [0, 1, 2, 3, 4, 5, 6, 7, 8, 9] rfl rfl rfl rfl (by decide) rfl (fun _ _ => rfl) (k' := 0) (n' := 0) rfl rfl rfl (fun r_33 _ _ h => ?_)
            refine v_callv (pc' := 105) C h ([]) (fun r9 (u9 : Unit) => wM g aM r9) (fun r hr => run_V C (c_X6_puts l g aM _ _ _ r hr) gX6_addWords_X6_puts rfl nd_X6_puts rfl rfl rfl rfl ⟨Nat.le_of_ble_eq_true rfl, Nat.le_of_ble_eq_true rfl⟩ ⟨Nat.le_of_ble_eq_true rfl, Nat.le_of_ble_eq_true rfl⟩ (Nat.le_of_ble_eq_true rfl) dX6_addWords_102 rfl) [0, 1, 2, 3, 4, 5, 6, 7, 8, 9] [] [0, 1, 2, 3, 4, 5, 6, 7, 8, 9] rfl rfl rfl rfl (by decide) rfl (fun _ _ => rfl) (k' := 0) (n' := 0) rfl rfl rfl (fun r_34 _ _ h => ?_)
            refine v_iinc (pc' := 108) C 1 [1, 0, 2, 3, 4] (1) dX6_addWords_105 rfl ic_1 (Nat.le_of_ble_eq_true rfl) h (lw := fun v9 => [(0, .ref aM.1), (1, .int v9), (2, .int s0_26), (3, .int v3_23), (4, .int v4_24)]) (fun _ => rfl) rfl (fun v1_35 h => ?_)
            refine v_lv [0, 1, 2, 3] (lv' := [(0, .ref aM.1), (1, .int v1_35), (2, .int s0_26), (3, .int v3_23)]) rfl ?_
            exact J108 v1_35 s0_26 v3_23 r_34 h
      have J58 : ∀ (v1_17 : Int32) (v2_18 : Int32) (v3_19 : Int32) (zM_20 : Md) (s0_21 : Int32), f_X6_addWords_J58 re32 v1_17 v2_18 v3_19 zM_20 s0_21 = some o → V p l e rm_X6_addWords s m args below meth c g 5 A 0 0 Q (wM g aM zM_20) [] [(0, .ref aM.1), (1, .int v1_17), (2, .int v2_18), (3, .int v3_19)] 58 [.int s0_21] := by
        intro v1_17 v2_18 v3_19 zM_20 s0_21 h
        unfold f_X6_addWords_J58 at h
        refine v_istore (pc' := 60) C [1, 2, 3, 4, 0] (lv' := [(0, .ref aM.1), (1, .int v1_17), (2, .int v2_18), (3, .int v3_19), (4, .int s0_21)]) dX6_addWords_58 (Nat.le_of_ble_eq_true rfl) rfl rfl ?_
        refine v_iload_n (pc' := 61) C 2 dX6_addWords_60 rfl rfl ?_
        refine v_if_ne C 80 64 h dX6_addWords_61 (by decide) rfl (fun _ h => ?_) (fun _ h => ?_)
        · refine v_iconst (pc' := 81) C (1) dX6_addWords_80 ic_1 rfl ?_
          refine v_goto C (pc' := 85) dX6_addWords_81 (by decide) ?_
          refine v_lv [0, 1, 3, 4] (lv' := [(0, .ref aM.1), (1, .int v1_17), (3, .int v3_19), (4, .int s0_21)]) rfl ?_
          exact J85 v1_17 v3_19 s0_21 zM_20 (1 : Int32) h
        · refine v_iload (pc' := 66) C 4 dX6_addWords_64 rfl rfl ?_
          refine v_if_eq C 84 69 h dX6_addWords_66 (by decide) rfl (fun _ h => ?_) (fun _ h => ?_)
          · refine v_iconst (pc' := 85) C (0) dX6_addWords_84 ic_0 rfl ?_
            refine v_lv [0, 1, 3, 4] (lv' := [(0, .ref aM.1), (1, .int v1_17), (3, .int v3_19), (4, .int s0_21)]) rfl ?_
            exact J85 v1_17 v3_19 s0_21 zM_20 (0 : Int32) h
          · refine v_aload_n (pc' := 70) C 0 dX6_addWords_69 rfl rfl ?_
            refine g_M_s (pc' := 73) C 0 in_X6_addWords_6 rfl k_X6_addWords_2 rfl dX6_addWords_70 rfl ?_
            refine v_iconst (pc' := 74) C (0) dX6_addWords_73 ic_0 rfl ?_
            refine v_iald (pc' := 75) C h 1 rfl dX6_addWords_74 rfl (fun e_36 h => ?_)
            refine v_bipush (pc' := 77) C (30) dX6_addWords_75 bc_30 rfl ?_
            refine v_icmp_ne C 84 80 h dX6_addWords_77 (by decide) rfl (fun _ h => ?_) (fun _ h => ?_)
            · refine v_iconst (pc' := 85) C (0) dX6_addWords_84 ic_0 rfl ?_
              refine v_lv [0, 1, 3, 4] (lv' := [(0, .ref aM.1), (1, .int v1_17), (3, .int v3_19), (4, .int s0_21)]) rfl ?_
              exact J85 v1_17 v3_19 s0_21 zM_20 (0 : Int32) h
            · refine v_iconst (pc' := 81) C (1) dX6_addWords_80 ic_1 rfl ?_
              refine v_goto C (pc' := 85) dX6_addWords_81 (by decide) ?_
              refine v_lv [0, 1, 3, 4] (lv' := [(0, .ref aM.1), (1, .int v1_17), (3, .int v3_19), (4, .int s0_21)]) rfl ?_
              exact J85 v1_17 v3_19 s0_21 zM_20 (1 : Int32) h
      refine v_iload_n (pc' := 33) C 3 dX6_addWords_32 rfl rfl ?_
      refine v_aload_n (pc' := 34) C 0 dX6_addWords_33 rfl rfl ?_
      refine g_M_typed (pc' := 37) C 0 in_X6_addWords_6 rfl k_X6_addWords_1 rfl dX6_addWords_34 rfl ?_
      refine v_icmp_ge C 119 40 h dX6_addWords_37 (by decide) rfl (fun _ h => ?_) (fun _ h => ?_)
      · refine v_lv [0, 1, 2] (lv' := [(0, .ref aM.1), (1, .int v1_4), (2, .int v2_5)]) rfl ?_
        exact J119 v1_4 v2_5 zM_7 h
      · refine v_aload_n (pc' := 41) C 0 dX6_addWords_40 rfl rfl ?_
        refine v_iload_n (pc' := 42) C 3 dX6_addWords_41 rfl rfl ?_
        refine v_aload_n (pc' := 43) C 0 dX6_addWords_42 rfl rfl ?_
        refine v_iload_n (pc' := 44) C 3 dX6_addWords_43 rfl rfl ?_
        refine v_calli (pc' := 47) C h (rf := fun r9 => r9) ([]) (fun r9 (u9 : Unit) => wM g aM zM_7) (fun r hr => run_V C (c_X6_endOf l g aM _ _ r hr) gX6_addWords_X6_endOf rfl nd_X6_endOf rfl rfl rfl rfl ⟨Nat.le_of_ble_eq_true rfl, Nat.le_of_ble_eq_true rfl⟩ ⟨Nat.le_of_ble_eq_true rfl, Nat.le_of_ble_eq_true rfl⟩ (Nat.le_of_ble_eq_true rfl) dX6_addWords_44 rfl) [0, 1, 2, 3, 4, 5, 6, 7, 8, 9] [] [0, 1, 2, 3, 4, 5, 6, 7, 8, 9] rfl rfl rfl rfl (by decide) rfl (fun _ _ => rfl) (k' := 0) (n' := 0) rfl rfl rfl (fun r_15 _ _ h => ?_)
        refine v_calli (pc' := 50) C h (rf := fun r9 => r9) ([]) (fun r9 (u9 : Unit) => wM g aM zM_7) (fun r hr => run_V C (c_X6_isIn l g aM _ _ _ r hr) gX6_addWords_X6_isIn rfl nd_X6_isIn rfl rfl rfl rfl ⟨Nat.le_of_ble_eq_true rfl, Nat.le_of_ble_eq_true rfl⟩ ⟨Nat.le_of_ble_eq_true rfl, Nat.le_of_ble_eq_true rfl⟩ (Nat.le_of_ble_eq_true rfl) dX6_addWords_47 rfl) [0, 1, 2, 3, 4, 5, 6, 7, 8, 9] [] [0, 1, 2, 3, 4, 5, 6, 7, 8, 9] rfl rfl rfl rfl (by decide) rfl (fun _ _ => rfl) (k' := 0) (n' := 0) rfl rfl rfl (fun r_16 _ _ h => ?_)
        refine v_if_ne C 57 53 h dX6_addWords_50 (by decide) rfl (fun _ h => ?_) (fun _ h => ?_)
        · refine v_iconst (pc' := 58) C (0) dX6_addWords_57 ic_0 rfl ?_
          exact J58 v1_4 v2_5 v3_6 zM_7 (0 : Int32) h
        · refine v_iconst (pc' := 54) C (1) dX6_addWords_53 ic_1 rfl ?_
          refine v_goto C (pc' := 58) dX6_addWords_54 (by decide) ?_
          exact J58 v1_4 v2_5 v3_6 zM_7 (1 : Int32) h
    · refine v_bipush (pc' := 21) C (-3) dX6_addWords_19 bc_m3 rfl ?_
      exact v_iret (rf := fun (o9 : Int32 × Md) => o9.1) (Wf := fun (o9 : Int32 × Md) (u9 : Unit) => wM g aM o9.2) (ok := fun (o9 : Int32 × Md) (u9 : Unit) => True) C Cr h hQ () trivial rfl rfl dX6_addWords_21
  · refine v_bipush (pc' := 11) C (-5) dX6_addWords_9 bc_m5 rfl ?_
    exact v_iret (rf := fun (o9 : Int32 × Md) => o9.1) (Wf := fun (o9 : Int32 × Md) (u9 : Unit) => wM g aM o9.2) (ok := fun (o9 : Int32 × Md) (u9 : Unit) => True) C Cr h hQ () trivial rfl rfl dX6_addWords_11
def f_X6_removeWord_L80 (v2_8 : Int32) (re48 : Int32 → Md → Option (Int32 × Md)) (re80 : Int32 → Md → Option (Int32 × Md)) (v3_14 : Int32) (zM_15 : Md) : Option (Int32 × Md) :=
  if v3_14 < (8 : Int32) then Option.bind (f_X6_letter zM_15 (v2_8 + (1 : Int32)) v3_14) fun r_17 =>
  chkA 319 (((79 : Int32) + ((8 : Int32) * v2_8)) + v3_14) (lett (M_s_set zM_15 (upd (M_s zM_15) ((((79 : Int32) + ((8 : Int32) * v2_8)) + v3_14)).toNatClampNeg r_17)) fun zM_18 =>
  lett (v3_14 + (1 : Int32)) fun v3_19 =>
  re80 v3_19 zM_18)
  else lett (v2_8 + (1 : Int32)) fun v2_16 =>
  re48 v2_16 zM_15
def f_X6_removeWord_L48  (re48 : Int32 → Md → Option (Int32 × Md)) (v2_8 : Int32) (zM_9 : Md) : Option (Int32 × Md) :=
  getA (M_s zM_9) 319 (0 : Int32) fun e_10 =>
  if v2_8 < e_10 then getA (M_s zM_9) 319 (((49 : Int32) + v2_8) + (1 : Int32)) fun e_12 =>
  chkA 319 ((49 : Int32) + v2_8) (lett (M_s_set zM_9 (upd (M_s zM_9) (((49 : Int32) + v2_8)).toNatClampNeg e_12)) fun zM_13 =>
  loop2 (f_X6_removeWord_L80 v2_8 re48) FU (0 : Int32) zM_13)
  else getA (M_s zM_9) 319 (0 : Int32) fun e_11 =>
  some (e_11, zM_9)
def f_X6_removeWord (zM : Md) (p1 : Int32) : Option (Int32 × Md) :=
  getA (M_s zM) 319 (0 : Int32) fun e_1 =>
  Option.bind (f_X6_in p1 (0 : Int32) (e_1 - (1 : Int32))) fun r_2 =>
  if r_2 = 0 then some ((-1 : Int32), zM)
  else Option.bind (f_X6_runs zM) fun r_3 =>
  if r_3 = 0 then Option.bind (f_X6_saves zM) fun r_4 =>
  Option.bind (f_X6_noGame r_4) fun r_5 =>
  getA (M_s r_5) 319 (0 : Int32) fun e_6 =>
  chkA 319 (0 : Int32) (lett (M_s_set r_5 (upd (M_s r_5) ((0 : Int32)).toNatClampNeg (e_6 - (1 : Int32)))) fun zM_7 =>
  loop2 (f_X6_removeWord_L48 ) FU p1 zM_7)
  else some ((-3 : Int32), zM)
abbrev rm_X6_removeWord : Room := { frames := 1, cells := 0, slots := 0, locals := 22 }
theorem in_X6_removeWord_6 : ∀ w ∈ wsX60, w ∈ wsX6_removeWord := fun _ h => List.mem_cons_of_mem _ (List.mem_append_right _ h)
theorem k_X6_removeWord_1 : Cond.fieldLink RX6 7 "DodgingHangmanModel" "s" "[I" ∈ wsX6_removeWord := List.mem_of_getElem? (i := 1) rfl
theorem nd_X6_removeWord : yX6_removeWord.cls ≠ "java/lang/invoke/MethodHandle" ∧ yX6_removeWord.cls ≠ "java/lang/invoke/VarHandle" ∧ (parseMethodDescriptor yX6_removeWord.desc).map (fun d => d.parameters.length) = some 1 := by decide +kernel
set_option maxHeartbeats 4000000 in
set_option maxRecDepth 100000 in
theorem c_X6_removeWord (l : Launch) (g : Gv) (aM : A10) (zM : Md) (p1 : Int32) (o : Int32 × Md) (h : f_X6_removeWord zM p1 = some o) : Ct l g yX6_removeWord wsX6_removeWord rm_X6_removeWord [.ref aM.1, .int p1] (wM g aM zM) (Qi g o.1 (fun _ : Unit => wM g aM o.2) (fun _ => True)) := by
  refine enter (ret := (some .int)) (X := wM g aM zM) (pl := []) pn_X6 rfl (Nat.le_of_ble_eq_true rfl) ((List.append_nil _).symm) ?_
  intro p e s m args below meth c A Q C Cr hin hQ
  unfold f_X6_removeWord at h
  refine v_iload_n (pc' := 1) C 1 dX6_removeWord_0 rfl rfl ?_
  refine v_iconst (pc' := 2) C (0) dX6_removeWord_1 ic_0 rfl ?_
  refine v_aload_n (pc' := 3) C 0 dX6_removeWord_2 rfl rfl ?_
  refine g_M_s (pc' := 6) C 0 in_X6_removeWord_6 rfl k_X6_removeWord_1 rfl dX6_removeWord_3 rfl ?_
  refine v_iconst (pc' := 7) C (0) dX6_removeWord_6 ic_0 rfl ?_
  refine v_iald (pc' := 8) C h 1 rfl dX6_removeWord_7 rfl (fun e_1 h => ?_)
  refine v_iconst (pc' := 9) C (1) dX6_removeWord_8 ic_1 rfl ?_
  refine v_isub (pc' := 10) C dX6_removeWord_9 rfl ?_
  refine v_purei (pc' := 13) C h (rf := fun r9 => r9) (fun r hr => run_S C (c_X6_in l g _ _ _ r hr) gX6_removeWord_X6_in rfl nd_X6_in ⟨Nat.le_of_ble_eq_true rfl, Nat.le_of_ble_eq_true rfl⟩ ⟨Nat.le_of_ble_eq_true rfl, Nat.le_of_ble_eq_true rfl⟩ (Nat.le_of_ble_eq_true rfl) dX6_removeWord_10 rfl) rfl (fun r_2 h => ?_)
  refine v_if_ne C 18 16 h dX6_removeWord_13 (by decide) rfl (fun _ h => ?_) (fun _ h => ?_)
  · refine v_aload_n (pc' := 19) C 0 dX6_removeWord_18 rfl rfl ?_
    refine v_calli (pc' := 22) C h (rf := fun r9 => r9) ([]) (fun r9 (u9 : Unit) => wM g aM zM) (fun r hr => run_V C (c_X6_runs l g aM _ r hr) gX6_removeWord_X6_runs rfl nd_X6_runs rfl rfl rfl rfl ⟨Nat.le_of_ble_eq_true rfl, Nat.le_of_ble_eq_true rfl⟩ ⟨Nat.le_of_ble_eq_true rfl, Nat.le_of_ble_eq_true rfl⟩ (Nat.le_of_ble_eq_true rfl) dX6_removeWord_19 rfl) [0, 1, 2, 3, 4, 5, 6, 7, 8, 9] [] [0, 1, 2, 3, 4, 5, 6, 7, 8, 9] rfl rfl rfl rfl (by decide) rfl (fun _ _ => rfl) (k' := 0) (n' := 0) rfl rfl rfl (fun r_3 _ _ h => ?_)
    refine v_if_eq C 28 25 h dX6_removeWord_22 (by decide) rfl (fun _ h => ?_) (fun _ h => ?_)
    · refine v_aload_n (pc' := 29) C 0 dX6_removeWord_28 rfl rfl ?_
      refine v_callv (pc' := 32) C h ([]) (fun r9 (u9 : Unit) => wM g aM r9) (fun r hr => run_V C (c_X6_saves l g aM _ r hr) gX6_removeWord_X6_saves rfl nd_X6_saves rfl rfl rfl rfl ⟨Nat.le_of_ble_eq_true rfl, Nat.le_of_ble_eq_true rfl⟩ ⟨Nat.le_of_ble_eq_true rfl, Nat.le_of_ble_eq_true rfl⟩ (Nat.le_of_ble_eq_true rfl) dX6_removeWord_29 rfl) [0, 1, 2, 3, 4, 5, 6, 7, 8, 9] [] [0, 1, 2, 3, 4, 5, 6, 7, 8, 9] rfl rfl rfl rfl (by decide) rfl (fun _ _ => rfl) (k' := 0) (n' := 0) rfl rfl rfl (fun r_4 _ _ h => ?_)
      refine v_aload_n (pc' := 33) C 0 dX6_removeWord_32 rfl rfl ?_
      refine v_callv (pc' := 36) C h ([]) (fun r9 (u9 : Unit) => wM g aM r9) (fun r hr => run_V C (c_X6_noGame l g aM _ r hr) gX6_removeWord_X6_noGame rfl nd_X6_noGame rfl rfl rfl rfl ⟨Nat.le_of_ble_eq_true rfl, Nat.le_of_ble_eq_true rfl⟩ ⟨Nat.le_of_ble_eq_true rfl, Nat.le_of_ble_eq_true rfl⟩ (Nat.le_of_ble_eq_true rfl) dX6_removeWord_33 rfl) [0, 1, 2, 3, 4, 5, 6, 7, 8, 9] [] [0, 1, 2, 3, 4, 5, 6, 7, 8, 9] rfl rfl rfl rfl (by decide) rfl (fun _ _ => rfl) (k' := 0) (n' := 0) rfl rfl rfl (fun r_5 _ _ h => ?_)
      refine v_aload_n (pc' := 37) C 0 dX6_removeWord_36 rfl rfl ?_
      refine g_M_s (pc' := 40) C 0 in_X6_removeWord_6 rfl k_X6_removeWord_1 rfl dX6_removeWord_37 rfl ?_
      refine v_iconst (pc' := 41) C (0) dX6_removeWord_40 ic_0 rfl ?_
      refine v_dup2 (pc' := 42) C dX6_removeWord_41 rfl rfl rfl ?_
      refine v_iald (pc' := 43) C h 1 rfl dX6_removeWord_42 rfl (fun e_6 h => ?_)
      refine v_iconst (pc' := 44) C (1) dX6_removeWord_43 ic_1 rfl ?_
      refine v_isub (pc' := 45) C dX6_removeWord_44 rfl ?_
      refine v_iast (pc' := 46) C h 1 (fun z9 => wM g aM z9) rfl rfl dX6_removeWord_45 rfl (fun zM_7 h => ?_)
      refine v_iload_n (pc' := 47) C 1 dX6_removeWord_46 rfl rfl ?_
      refine v_istore_n (pc' := 48) C [1, 2, 0] (lv' := [(0, .ref aM.1), (1, .int p1), (2, .int p1)]) dX6_removeWord_47 (Nat.le_of_ble_eq_true rfl) rfl rfl ?_
      refine v_lv [0, 2] (lv' := [(0, .ref aM.1), (2, .int p1)]) rfl ?_
      refine v_loop2 (fun (v2_8 : Int32) (zM_9 : Md) => V p l e rm_X6_removeWord s m args below meth c g 4 A 0 0 Q (wM g aM zM_9) [] [(0, .ref aM.1), (2, .int v2_8)] 48 []) (fun re48 ih48 v2_8 zM_9 h => ?_) p1 zM_7 h
      unfold f_X6_removeWord_L48 at h
      refine v_iload_n (pc' := 49) C 1 dX6_removeWord_48 rfl rfl ?_
      refine v_aload_n (pc' := 50) C 0 dX6_removeWord_49 rfl rfl ?_
      refine g_M_s (pc' := 53) C 0 in_X6_removeWord_6 rfl k_X6_removeWord_1 rfl dX6_removeWord_50 rfl ?_
      refine v_iconst (pc' := 54) C (0) dX6_removeWord_53 ic_0 rfl ?_
      refine v_iald (pc' := 55) C h 1 rfl dX6_removeWord_54 rfl (fun e_10 h => ?_)
      refine v_icmp_ge C 120 58 h dX6_removeWord_55 (by decide) rfl (fun _ h => ?_) (fun _ h => ?_)
      · refine v_aload_n (pc' := 121) C 0 dX6_removeWord_120 rfl rfl ?_
        refine g_M_s (pc' := 124) C 0 in_X6_removeWord_6 rfl k_X6_removeWord_1 rfl dX6_removeWord_121 rfl ?_
        refine v_iconst (pc' := 125) C (0) dX6_removeWord_124 ic_0 rfl ?_
        refine v_iald (pc' := 126) C h 1 rfl dX6_removeWord_125 rfl (fun e_11 h => ?_)
        exact v_iret (rf := fun (o9 : Int32 × Md) => o9.1) (Wf := fun (o9 : Int32 × Md) (u9 : Unit) => wM g aM o9.2) (ok := fun (o9 : Int32 × Md) (u9 : Unit) => True) C Cr h hQ () trivial rfl rfl dX6_removeWord_126
      · refine v_aload_n (pc' := 59) C 0 dX6_removeWord_58 rfl rfl ?_
        refine g_M_s (pc' := 62) C 0 in_X6_removeWord_6 rfl k_X6_removeWord_1 rfl dX6_removeWord_59 rfl ?_
        refine v_bipush (pc' := 64) C (49) dX6_removeWord_62 bc_49 rfl ?_
        refine v_iload_n (pc' := 65) C 1 dX6_removeWord_64 rfl rfl ?_
        refine v_iadd (pc' := 66) C dX6_removeWord_65 rfl ?_
        refine v_aload_n (pc' := 67) C 0 dX6_removeWord_66 rfl rfl ?_
        refine g_M_s (pc' := 70) C 0 in_X6_removeWord_6 rfl k_X6_removeWord_1 rfl dX6_removeWord_67 rfl ?_
        refine v_bipush (pc' := 72) C (49) dX6_removeWord_70 bc_49 rfl ?_
        refine v_iload_n (pc' := 73) C 1 dX6_removeWord_72 rfl rfl ?_
        refine v_iadd (pc' := 74) C dX6_removeWord_73 rfl ?_
        refine v_iconst (pc' := 75) C (1) dX6_removeWord_74 ic_1 rfl ?_
        refine v_iadd (pc' := 76) C dX6_removeWord_75 rfl ?_
        refine v_iald (pc' := 77) C h 1 rfl dX6_removeWord_76 rfl (fun e_12 h => ?_)
        refine v_iast (pc' := 78) C h 1 (fun z9 => wM g aM z9) rfl rfl dX6_removeWord_77 rfl (fun zM_13 h => ?_)
        refine v_iconst (pc' := 79) C (0) dX6_removeWord_78 ic_0 rfl ?_
        refine v_istore_n (pc' := 80) C [1, 2, 0] (lv' := [(0, .ref aM.1), (2, .int v2_8), (3, .int (0 : Int32))]) dX6_removeWord_79 (Nat.le_of_ble_eq_true rfl) rfl rfl ?_
        refine v_loop2 (fun (v3_14 : Int32) (zM_15 : Md) => V p l e rm_X6_removeWord s m args below meth c g 4 A 0 0 Q (wM g aM zM_15) [] [(0, .ref aM.1), (2, .int v2_8), (3, .int v3_14)] 80 []) (fun re80 ih80 v3_14 zM_15 h => ?_) (0 : Int32) zM_13 h
        unfold f_X6_removeWord_L80 at h
        refine v_iload_n (pc' := 81) C 2 dX6_removeWord_80 rfl rfl ?_
        refine v_bipush (pc' := 83) C (8) dX6_removeWord_81 bc_8 rfl ?_
        refine v_icmp_ge C 114 86 h dX6_removeWord_83 (by decide) rfl (fun _ h => ?_) (fun _ h => ?_)
        · refine v_iinc (pc' := 117) C 1 [1, 0, 2] (1) dX6_removeWord_114 rfl ic_1 (Nat.le_of_ble_eq_true rfl) h (lw := fun v9 => [(0, .ref aM.1), (2, .int v9), (3, .int v3_14)]) (fun _ => rfl) rfl (fun v2_16 h => ?_)
          refine v_goto C (pc' := 48) dX6_removeWord_117 (by decide) ?_
          refine v_lv [0, 1] (lv' := [(0, .ref aM.1), (2, .int v2_16)]) rfl ?_
          exact ih48 v2_16 zM_15 h
        · refine v_aload_n (pc' := 87) C 0 dX6_removeWord_86 rfl rfl ?_
          refine g_M_s (pc' := 90) C 0 in_X6_removeWord_6 rfl k_X6_removeWord_1 rfl dX6_removeWord_87 rfl ?_
          refine v_bipush (pc' := 92) C (79) dX6_removeWord_90 bc_79 rfl ?_
          refine v_bipush (pc' := 94) C (8) dX6_removeWord_92 bc_8 rfl ?_
          refine v_iload_n (pc' := 95) C 1 dX6_removeWord_94 rfl rfl ?_
          refine v_imul (pc' := 96) C dX6_removeWord_95 rfl ?_
          refine v_iadd (pc' := 97) C dX6_removeWord_96 rfl ?_
          refine v_iload_n (pc' := 98) C 2 dX6_removeWord_97 rfl rfl ?_
          refine v_iadd (pc' := 99) C dX6_removeWord_98 rfl ?_
          refine v_aload_n (pc' := 100) C 0 dX6_removeWord_99 rfl rfl ?_
          refine v_iload_n (pc' := 101) C 1 dX6_removeWord_100 rfl rfl ?_
          refine v_iconst (pc' := 102) C (1) dX6_removeWord_101 ic_1 rfl ?_
          refine v_iadd (pc' := 103) C dX6_removeWord_102 rfl ?_
          refine v_iload_n (pc' := 104) C 2 dX6_removeWord_103 rfl rfl ?_
          refine v_calli (pc' := 107) C h (rf := fun r9 => r9) ([]) (fun r9 (u9 : Unit) => wM g aM zM_15) (fun r hr => run_V C (c_X6_letter l g aM _ _ _ r hr) gX6_removeWord_X6_letter rfl nd_X6_letter rfl rfl rfl rfl ⟨Nat.le_of_ble_eq_true rfl, Nat.le_of_ble_eq_true rfl⟩ ⟨Nat.le_of_ble_eq_true rfl, Nat.le_of_ble_eq_true rfl⟩ (Nat.le_of_ble_eq_true rfl) dX6_removeWord_104 rfl) [0, 1, 2, 3, 4, 5, 6, 7, 8, 9] [] [0, 1, 2, 3, 4, 5, 6, 7, 8, 9] rfl rfl rfl rfl (by decide) rfl (fun _ _ => rfl) (k' := 0) (n' := 0) rfl rfl rfl (fun r_17 _ _ h => ?_)
          refine v_iast (pc' := 108) C h 1 (fun z9 => wM g aM z9) rfl rfl dX6_removeWord_107 rfl (fun zM_18 h => ?_)
          refine v_iinc (pc' := 111) C 2 [1, 2, 0] (1) dX6_removeWord_108 rfl ic_1 (Nat.le_of_ble_eq_true rfl) h (lw := fun v9 => [(0, .ref aM.1), (2, .int v2_8), (3, .int v9)]) (fun _ => rfl) rfl (fun v3_19 h => ?_)
          refine v_goto C (pc' := 80) dX6_removeWord_111 (by decide) ?_
          exact ih80 v3_19 zM_18 h
    · refine v_bipush (pc' := 27) C (-3) dX6_removeWord_25 bc_m3 rfl ?_
      exact v_iret (rf := fun (o9 : Int32 × Md) => o9.1) (Wf := fun (o9 : Int32 × Md) (u9 : Unit) => wM g aM o9.2) (ok := fun (o9 : Int32 × Md) (u9 : Unit) => True) C Cr h hQ () trivial rfl rfl dX6_removeWord_27
  · refine v_iconst (pc' := 17) C (-1) dX6_removeWord_16 ic_m1 rfl ?_
    exact v_iret (rf := fun (o9 : Int32 × Md) => o9.1) (Wf := fun (o9 : Int32 × Md) (u9 : Unit) => wM g aM o9.2) (ok := fun (o9 : Int32 × Md) (u9 : Unit) => True) C Cr h hQ () trivial rfl rfl dX6_removeWord_17
def f_X6_words (zM : Md)  : Option (Int32) :=
  getA (M_s zM) 319 (0 : Int32) fun e_1 =>
  some e_1
abbrev rm_X6_words : Room := { frames := 0, cells := 0, slots := 0, locals := 0 }
theorem in_X6_words_6 : ∀ w ∈ wsX60, w ∈ wsX6_words := fun _ h => List.mem_cons_of_mem _ (List.mem_append_right _ h)
theorem k_X6_words_1 : Cond.fieldLink RX6 7 "DodgingHangmanModel" "s" "[I" ∈ wsX6_words := List.mem_of_getElem? (i := 1) rfl
theorem nd_X6_words : yX6_words.cls ≠ "java/lang/invoke/MethodHandle" ∧ yX6_words.cls ≠ "java/lang/invoke/VarHandle" ∧ (parseMethodDescriptor yX6_words.desc).map (fun d => d.parameters.length) = some 0 := by decide +kernel
set_option maxHeartbeats 4000000 in
set_option maxRecDepth 100000 in
theorem c_X6_words (l : Launch) (g : Gv) (aM : A10) (zM : Md)  (o : Int32) (h : f_X6_words zM  = some o) : Ct l g yX6_words wsX6_words rm_X6_words [.ref aM.1] (wM g aM zM) (Qi g o (fun _ : Unit => wM g aM zM) (fun _ => True)) := by
  refine enter (ret := (some .int)) (X := wM g aM zM) (pl := []) pn_X6 rfl (Nat.le_of_ble_eq_true rfl) ((List.append_nil _).symm) ?_
  intro p e s m args below meth c A Q C Cr hin hQ
  unfold f_X6_words at h
  refine v_aload_n (pc' := 1) C 0 dX6_words_0 rfl rfl ?_
  refine g_M_s (pc' := 4) C 0 in_X6_words_6 rfl k_X6_words_1 rfl dX6_words_1 rfl ?_
  refine v_iconst (pc' := 5) C (0) dX6_words_4 ic_0 rfl ?_
  refine v_iald (pc' := 6) C h 1 rfl dX6_words_5 rfl (fun e_1 h => ?_)
  exact v_iret (rf := fun (o9 : Int32) => o9) (Wf := fun (o9 : Int32) (u9 : Unit) => wM g aM zM) (ok := fun (o9 : Int32) (u9 : Unit) => True) C Cr h hQ () trivial rfl rfl dX6_words_6
def f_X6_letterOf (zM : Md) (p1 : Int32) (p2 : Int32) : Option (Int32) :=
  getA (M_s zM) 319 (0 : Int32) fun e_1 =>
  Option.bind (f_X6_in p1 (0 : Int32) (e_1 - (1 : Int32))) fun r_2 =>
  if r_2 = 0 then some (-1 : Int32)
  else getA (M_s zM) 319 ((49 : Int32) + p1) fun e_3 =>
  Option.bind (f_X6_in p2 (0 : Int32) (e_3 - (1 : Int32))) fun r_4 =>
  if r_4 = 0 then some (-1 : Int32)
  else Option.bind (f_X6_letter zM p1 p2) fun r_5 =>
  some r_5
abbrev rm_X6_letterOf : Room := { frames := 1, cells := 0, slots := 0, locals := 22 }
theorem in_X6_letterOf_6 : ∀ w ∈ wsX60, w ∈ wsX6_letterOf := fun _ h => List.mem_cons_of_mem _ (List.mem_append_right _ h)
theorem k_X6_letterOf_1 : Cond.fieldLink RX6 7 "DodgingHangmanModel" "s" "[I" ∈ wsX6_letterOf := List.mem_of_getElem? (i := 1) rfl
theorem nd_X6_letterOf : yX6_letterOf.cls ≠ "java/lang/invoke/MethodHandle" ∧ yX6_letterOf.cls ≠ "java/lang/invoke/VarHandle" ∧ (parseMethodDescriptor yX6_letterOf.desc).map (fun d => d.parameters.length) = some 2 := by decide +kernel
set_option maxHeartbeats 4000000 in
set_option maxRecDepth 100000 in
theorem c_X6_letterOf (l : Launch) (g : Gv) (aM : A10) (zM : Md) (p1 : Int32) (p2 : Int32) (o : Int32) (h : f_X6_letterOf zM p1 p2 = some o) : Ct l g yX6_letterOf wsX6_letterOf rm_X6_letterOf [.ref aM.1, .int p1, .int p2] (wM g aM zM) (Qi g o (fun _ : Unit => wM g aM zM) (fun _ => True)) := by
  refine enter (ret := (some .int)) (X := wM g aM zM) (pl := []) pn_X6 rfl (Nat.le_of_ble_eq_true rfl) ((List.append_nil _).symm) ?_
  intro p e s m args below meth c A Q C Cr hin hQ
  unfold f_X6_letterOf at h
  refine v_iload_n (pc' := 1) C 1 dX6_letterOf_0 rfl rfl ?_
  refine v_iconst (pc' := 2) C (0) dX6_letterOf_1 ic_0 rfl ?_
  refine v_aload_n (pc' := 3) C 0 dX6_letterOf_2 rfl rfl ?_
  refine g_M_s (pc' := 6) C 0 in_X6_letterOf_6 rfl k_X6_letterOf_1 rfl dX6_letterOf_3 rfl ?_
  refine v_iconst (pc' := 7) C (0) dX6_letterOf_6 ic_0 rfl ?_
  refine v_iald (pc' := 8) C h 1 rfl dX6_letterOf_7 rfl (fun e_1 h => ?_)
  refine v_iconst (pc' := 9) C (1) dX6_letterOf_8 ic_1 rfl ?_
  refine v_isub (pc' := 10) C dX6_letterOf_9 rfl ?_
  refine v_purei (pc' := 13) C h (rf := fun r9 => r9) (fun r hr => run_S C (c_X6_in l g _ _ _ r hr) gX6_letterOf_X6_in rfl nd_X6_in ⟨Nat.le_of_ble_eq_true rfl, Nat.le_of_ble_eq_true rfl⟩ ⟨Nat.le_of_ble_eq_true rfl, Nat.le_of_ble_eq_true rfl⟩ (Nat.le_of_ble_eq_true rfl) dX6_letterOf_10 rfl) rfl (fun r_2 h => ?_)
  refine v_if_eq C 44 16 h dX6_letterOf_13 (by decide) rfl (fun _ h => ?_) (fun _ h => ?_)
  · refine v_iconst (pc' := 45) C (-1) dX6_letterOf_44 ic_m1 rfl ?_
    exact v_iret (rf := fun (o9 : Int32) => o9) (Wf := fun (o9 : Int32) (u9 : Unit) => wM g aM zM) (ok := fun (o9 : Int32) (u9 : Unit) => True) C Cr h hQ () trivial rfl rfl dX6_letterOf_45
  · refine v_iload_n (pc' := 17) C 2 dX6_letterOf_16 rfl rfl ?_
    refine v_iconst (pc' := 18) C (0) dX6_letterOf_17 ic_0 rfl ?_
    refine v_aload_n (pc' := 19) C 0 dX6_letterOf_18 rfl rfl ?_
    refine g_M_s (pc' := 22) C 0 in_X6_letterOf_6 rfl k_X6_letterOf_1 rfl dX6_letterOf_19 rfl ?_
    refine v_bipush (pc' := 24) C (49) dX6_letterOf_22 bc_49 rfl ?_
    refine v_iload_n (pc' := 25) C 1 dX6_letterOf_24 rfl rfl ?_
    refine v_iadd (pc' := 26) C dX6_letterOf_25 rfl ?_
    refine v_iald (pc' := 27) C h 1 rfl dX6_letterOf_26 rfl (fun e_3 h => ?_)
    refine v_iconst (pc' := 28) C (1) dX6_letterOf_27 ic_1 rfl ?_
    refine v_isub (pc' := 29) C dX6_letterOf_28 rfl ?_
    refine v_purei (pc' := 32) C h (rf := fun r9 => r9) (fun r hr => run_S C (c_X6_in l g _ _ _ r hr) gX6_letterOf_X6_in rfl nd_X6_in ⟨Nat.le_of_ble_eq_true rfl, Nat.le_of_ble_eq_true rfl⟩ ⟨Nat.le_of_ble_eq_true rfl, Nat.le_of_ble_eq_true rfl⟩ (Nat.le_of_ble_eq_true rfl) dX6_letterOf_29 rfl) rfl (fun r_4 h => ?_)
    refine v_if_eq C 44 35 h dX6_letterOf_32 (by decide) rfl (fun _ h => ?_) (fun _ h => ?_)
    · refine v_iconst (pc' := 45) C (-1) dX6_letterOf_44 ic_m1 rfl ?_
      exact v_iret (rf := fun (o9 : Int32) => o9) (Wf := fun (o9 : Int32) (u9 : Unit) => wM g aM zM) (ok := fun (o9 : Int32) (u9 : Unit) => True) C Cr h hQ () trivial rfl rfl dX6_letterOf_45
    · refine v_aload_n (pc' := 36) C 0 dX6_letterOf_35 rfl rfl ?_
      refine v_iload_n (pc' := 37) C 1 dX6_letterOf_36 rfl rfl ?_
      refine v_iload_n (pc' := 38) C 2 dX6_letterOf_37 rfl rfl ?_
      refine v_calli (pc' := 41) C h (rf := fun r9 => r9) ([]) (fun r9 (u9 : Unit) => wM g aM zM) (fun r hr => run_V C (c_X6_letter l g aM _ _ _ r hr) gX6_letterOf_X6_letter rfl nd_X6_letter rfl rfl rfl rfl ⟨Nat.le_of_ble_eq_true rfl, Nat.le_of_ble_eq_true rfl⟩ ⟨Nat.le_of_ble_eq_true rfl, Nat.le_of_ble_eq_true rfl⟩ (Nat.le_of_ble_eq_true rfl) dX6_letterOf_38 rfl) [0, 1, 2, 3, 4, 5, 6, 7, 8, 9] [] [0, 1, 2, 3, 4, 5, 6, 7, 8, 9] rfl rfl rfl rfl (by decide) rfl (fun _ _ => rfl) (k' := 0) (n' := 0) rfl rfl rfl (fun r_5 _ _ h => ?_)
      refine v_goto C (pc' := 45) dX6_letterOf_41 (by decide) ?_
      exact v_iret (rf := fun (o9 : Int32) => o9) (Wf := fun (o9 : Int32) (u9 : Unit) => wM g aM zM) (ok := fun (o9 : Int32) (u9 : Unit) => True) C Cr h hQ () trivial rfl rfl dX6_letterOf_45
def f_X6_maskOf_L5 (zM : Md) (p1 : Int32) (p2 : Int32) (re5 : Int32 → Int32 → Option (Int32)) (v3_1 : Int32) (v4_2 : Int32) : Option (Int32) :=
  getA (M_s zM) 319 ((49 : Int32) + p1) fun e_3 =>
  if v4_2 < e_3 then Option.bind (f_X6_letter zM p1 v4_2) fun r_4 =>
  if r_4 = p2 then lett (v3_1 ||| ((1 : Int32) <<< (v4_2 &&& 31))) fun v3_7 =>
  lett (v4_2 + (1 : Int32)) fun v4_8 =>
  re5 v3_7 v4_8
  else lett (v3_1 ||| (0 : Int32)) fun v3_5 =>
  lett (v4_2 + (1 : Int32)) fun v4_6 =>
  re5 v3_5 v4_6
  else some v3_1
def f_X6_maskOf (zM : Md) (p1 : Int32) (p2 : Int32) : Option (Int32) :=
  loop2 (f_X6_maskOf_L5 zM p1 p2) FU (0 : Int32) (0 : Int32)
abbrev rm_X6_maskOf : Room := { frames := 1, cells := 0, slots := 0, locals := 22 }
theorem in_X6_maskOf_6 : ∀ w ∈ wsX60, w ∈ wsX6_maskOf := fun _ h => List.mem_cons_of_mem _ (List.mem_append_right _ h)
theorem k_X6_maskOf_1 : Cond.fieldLink RX6 7 "DodgingHangmanModel" "s" "[I" ∈ wsX6_maskOf := List.mem_of_getElem? (i := 1) rfl
theorem nd_X6_maskOf : yX6_maskOf.cls ≠ "java/lang/invoke/MethodHandle" ∧ yX6_maskOf.cls ≠ "java/lang/invoke/VarHandle" ∧ (parseMethodDescriptor yX6_maskOf.desc).map (fun d => d.parameters.length) = some 2 := by decide +kernel
set_option maxHeartbeats 4000000 in
set_option maxRecDepth 100000 in
theorem c_X6_maskOf (l : Launch) (g : Gv) (aM : A10) (zM : Md) (p1 : Int32) (p2 : Int32) (o : Int32) (h : f_X6_maskOf zM p1 p2 = some o) : Ct l g yX6_maskOf wsX6_maskOf rm_X6_maskOf [.ref aM.1, .int p1, .int p2] (wM g aM zM) (Qi g o (fun _ : Unit => wM g aM zM) (fun _ => True)) := by
  refine enter (ret := (some .int)) (X := wM g aM zM) (pl := []) pn_X6 rfl (Nat.le_of_ble_eq_true rfl) ((List.append_nil _).symm) ?_
  intro p e s m args below meth c A Q C Cr hin hQ
  unfold f_X6_maskOf at h
  refine v_iconst (pc' := 1) C (0) dX6_maskOf_0 ic_0 rfl ?_
  refine v_istore_n (pc' := 2) C [1, 2, 3, 0] (lv' := [(0, .ref aM.1), (1, .int p1), (2, .int p2), (3, .int (0 : Int32))]) dX6_maskOf_1 (Nat.le_of_ble_eq_true rfl) rfl rfl ?_
  refine v_iconst (pc' := 3) C (0) dX6_maskOf_2 ic_0 rfl ?_
  refine v_istore (pc' := 5) C [1, 2, 3, 4, 0] (lv' := [(0, .ref aM.1), (1, .int p1), (2, .int p2), (3, .int (0 : Int32)), (4, .int (0 : Int32))]) dX6_maskOf_3 (Nat.le_of_ble_eq_true rfl) rfl rfl ?_
  refine v_loop2 (fun (v3_1 : Int32) (v4_2 : Int32) => V p l e rm_X6_maskOf s m args below meth c g 5 A 0 0 Q (wM g aM zM) [] [(0, .ref aM.1), (1, .int p1), (2, .int p2), (3, .int v3_1), (4, .int v4_2)] 5 []) (fun re5 ih5 v3_1 v4_2 h => ?_) (0 : Int32) (0 : Int32) h
  unfold f_X6_maskOf_L5 at h
  refine v_iload (pc' := 7) C 4 dX6_maskOf_5 rfl rfl ?_
  refine v_aload_n (pc' := 8) C 0 dX6_maskOf_7 rfl rfl ?_
  refine g_M_s (pc' := 11) C 0 in_X6_maskOf_6 rfl k_X6_maskOf_1 rfl dX6_maskOf_8 rfl ?_
  refine v_bipush (pc' := 13) C (49) dX6_maskOf_11 bc_49 rfl ?_
  refine v_iload_n (pc' := 14) C 1 dX6_maskOf_13 rfl rfl ?_
  refine v_iadd (pc' := 15) C dX6_maskOf_14 rfl ?_
  refine v_iald (pc' := 16) C h 1 rfl dX6_maskOf_15 rfl (fun e_3 h => ?_)
  refine v_icmp_ge C 47 19 h dX6_maskOf_16 (by decide) rfl (fun _ h => ?_) (fun _ h => ?_)
  · refine v_iload_n (pc' := 48) C 3 dX6_maskOf_47 rfl rfl ?_
    exact v_iret (rf := fun (o9 : Int32) => o9) (Wf := fun (o9 : Int32) (u9 : Unit) => wM g aM zM) (ok := fun (o9 : Int32) (u9 : Unit) => True) C Cr h hQ () trivial rfl rfl dX6_maskOf_48
  · refine v_iload_n (pc' := 20) C 3 dX6_maskOf_19 rfl rfl ?_
    refine v_aload_n (pc' := 21) C 0 dX6_maskOf_20 rfl rfl ?_
    refine v_iload_n (pc' := 22) C 1 dX6_maskOf_21 rfl rfl ?_
    refine v_iload (pc' := 24) C 4 dX6_maskOf_22 rfl rfl ?_
    refine v_calli (pc' := 27) C h (rf := fun r9 => r9) ([]) (fun r9 (u9 : Unit) => wM g aM zM) (fun r hr => run_V C (c_X6_letter l g aM _ _ _ r hr) gX6_maskOf_X6_letter rfl nd_X6_letter rfl rfl rfl rfl ⟨Nat.le_of_ble_eq_true rfl, Nat.le_of_ble_eq_true rfl⟩ ⟨Nat.le_of_ble_eq_true rfl, Nat.le_of_ble_eq_true rfl⟩ (Nat.le_of_ble_eq_true rfl) dX6_maskOf_24 rfl) [0, 1, 2, 3, 4, 5, 6, 7, 8, 9] [] [0, 1, 2, 3, 4, 5, 6, 7, 8, 9] rfl rfl rfl rfl (by decide) rfl (fun _ _ => rfl) (k' := 0) (n' := 0) rfl rfl rfl (fun r_4 _ _ h => ?_)
    refine v_iload_n (pc' := 28) C 2 dX6_maskOf_27 rfl rfl ?_
    refine v_icmp_ne C 38 31 h dX6_maskOf_28 (by decide) rfl (fun _ h => ?_) (fun _ h => ?_)
    · refine v_iconst (pc' := 39) C (0) dX6_maskOf_38 ic_0 rfl ?_
      refine v_ior (pc' := 40) C dX6_maskOf_39 rfl ?_
      refine v_leti h (fun v3_5 h => ?_)
      refine v_istore_n (pc' := 41) C [1, 2, 3, 0, 4] (lv' := [(0, .ref aM.1), (1, .int p1), (2, .int p2), (3, .int v3_5), (4, .int v4_2)]) dX6_maskOf_40 (Nat.le_of_ble_eq_true rfl) rfl rfl ?_
      refine v_iinc (pc' := 44) C 4 [1, 2, 3, 4, 0] (1) dX6_maskOf_41 rfl ic_1 (Nat.le_of_ble_eq_true rfl) h (lw := fun v9 => [(0, .ref aM.1), (1, .int p1), (2, .int p2), (3, .int v3_5), (4, .int v9)]) (fun _ => rfl) rfl (fun v4_6 h => ?_)
      refine v_goto C (pc' := 5) dX6_maskOf_44 (by decide) ?_
      exact ih5 v3_5 v4_6 h
    · refine v_iconst (pc' := 32) C (1) dX6_maskOf_31 ic_1 rfl ?_
      refine v_iload (pc' := 34) C 4 dX6_maskOf_32 rfl rfl ?_
      refine v_ishl (pc' := 35) C dX6_maskOf_34 rfl ?_
      refine v_goto C (pc' := 39) dX6_maskOf_35 (by decide) ?_
      refine v_ior (pc' := 40) C dX6_maskOf_39 rfl ?_
      refine v_leti h (fun v3_7 h => ?_)
      refine v_istore_n (pc' := 41) C [1, 2, 3, 0, 4] (lv' := [(0, .ref aM.1), (1, .int p1), (2, .int p2), (3, .int v3_7), (4, .int v4_2)]) dX6_maskOf_40 (Nat.le_of_ble_eq_true rfl) rfl rfl ?_
      refine v_iinc (pc' := 44) C 4 [1, 2, 3, 4, 0] (1) dX6_maskOf_41 rfl ic_1 (Nat.le_of_ble_eq_true rfl) h (lw := fun v9 => [(0, .ref aM.1), (1, .int p1), (2, .int p2), (3, .int v3_7), (4, .int v9)]) (fun _ => rfl) rfl (fun v4_8 h => ?_)
      refine v_goto C (pc' := 5) dX6_maskOf_44 (by decide) ?_
      exact ih5 v3_7 v4_8 h
def f_X6_lettersOf_L4 (zM : Md) (p1 : Int32) (re4 : Int32 → Int32 → Option (Int32)) (v2_1 : Int32) (v3_2 : Int32) : Option (Int32) :=
  getA (M_s zM) 319 ((49 : Int32) + p1) fun e_3 =>
  if v3_2 < e_3 then Option.bind (f_X6_letter zM p1 v3_2) fun r_4 =>
  lett (v2_1 ||| ((1 : Int32) <<< ((r_4 - (97 : Int32)) &&& 31))) fun v2_5 =>
  lett (v3_2 + (1 : Int32)) fun v3_6 =>
  re4 v2_5 v3_6
  else some v2_1
def f_X6_lettersOf (zM : Md) (p1 : Int32) : Option (Int32) :=
  loop2 (f_X6_lettersOf_L4 zM p1) FU (0 : Int32) (0 : Int32)
abbrev rm_X6_lettersOf : Room := { frames := 1, cells := 0, slots := 0, locals := 22 }
theorem in_X6_lettersOf_6 : ∀ w ∈ wsX60, w ∈ wsX6_lettersOf := fun _ h => List.mem_cons_of_mem _ (List.mem_append_right _ h)
theorem k_X6_lettersOf_1 : Cond.fieldLink RX6 7 "DodgingHangmanModel" "s" "[I" ∈ wsX6_lettersOf := List.mem_of_getElem? (i := 1) rfl
theorem nd_X6_lettersOf : yX6_lettersOf.cls ≠ "java/lang/invoke/MethodHandle" ∧ yX6_lettersOf.cls ≠ "java/lang/invoke/VarHandle" ∧ (parseMethodDescriptor yX6_lettersOf.desc).map (fun d => d.parameters.length) = some 1 := by decide +kernel
set_option maxHeartbeats 4000000 in
set_option maxRecDepth 100000 in
theorem c_X6_lettersOf (l : Launch) (g : Gv) (aM : A10) (zM : Md) (p1 : Int32) (o : Int32) (h : f_X6_lettersOf zM p1 = some o) : Ct l g yX6_lettersOf wsX6_lettersOf rm_X6_lettersOf [.ref aM.1, .int p1] (wM g aM zM) (Qi g o (fun _ : Unit => wM g aM zM) (fun _ => True)) := by
  refine enter (ret := (some .int)) (X := wM g aM zM) (pl := []) pn_X6 rfl (Nat.le_of_ble_eq_true rfl) ((List.append_nil _).symm) ?_
  intro p e s m args below meth c A Q C Cr hin hQ
  unfold f_X6_lettersOf at h
  refine v_iconst (pc' := 1) C (0) dX6_lettersOf_0 ic_0 rfl ?_
  refine v_istore_n (pc' := 2) C [1, 2, 0] (lv' := [(0, .ref aM.1), (1, .int p1), (2, .int (0 : Int32))]) dX6_lettersOf_1 (Nat.le_of_ble_eq_true rfl) rfl rfl ?_
  refine v_iconst (pc' := 3) C (0) dX6_lettersOf_2 ic_0 rfl ?_
  refine v_istore_n (pc' := 4) C [1, 2, 3, 0] (lv' := [(0, .ref aM.1), (1, .int p1), (2, .int (0 : Int32)), (3, .int (0 : Int32))]) dX6_lettersOf_3 (Nat.le_of_ble_eq_true rfl) rfl rfl ?_
  refine v_loop2 (fun (v2_1 : Int32) (v3_2 : Int32) => V p l e rm_X6_lettersOf s m args below meth c g 4 A 0 0 Q (wM g aM zM) [] [(0, .ref aM.1), (1, .int p1), (2, .int v2_1), (3, .int v3_2)] 4 []) (fun re4 ih4 v2_1 v3_2 h => ?_) (0 : Int32) (0 : Int32) h
  unfold f_X6_lettersOf_L4 at h
  refine v_iload_n (pc' := 5) C 3 dX6_lettersOf_4 rfl rfl ?_
  refine v_aload_n (pc' := 6) C 0 dX6_lettersOf_5 rfl rfl ?_
  refine g_M_s (pc' := 9) C 0 in_X6_lettersOf_6 rfl k_X6_lettersOf_1 rfl dX6_lettersOf_6 rfl ?_
  refine v_bipush (pc' := 11) C (49) dX6_lettersOf_9 bc_49 rfl ?_
  refine v_iload_n (pc' := 12) C 1 dX6_lettersOf_11 rfl rfl ?_
  refine v_iadd (pc' := 13) C dX6_lettersOf_12 rfl ?_
  refine v_iald (pc' := 14) C h 1 rfl dX6_lettersOf_13 rfl (fun e_3 h => ?_)
  refine v_icmp_ge C 37 17 h dX6_lettersOf_14 (by decide) rfl (fun _ h => ?_) (fun _ h => ?_)
  · refine v_iload_n (pc' := 38) C 2 dX6_lettersOf_37 rfl rfl ?_
    exact v_iret (rf := fun (o9 : Int32) => o9) (Wf := fun (o9 : Int32) (u9 : Unit) => wM g aM zM) (ok := fun (o9 : Int32) (u9 : Unit) => True) C Cr h hQ () trivial rfl rfl dX6_lettersOf_38
  · refine v_iload_n (pc' := 18) C 2 dX6_lettersOf_17 rfl rfl ?_
    refine v_iconst (pc' := 19) C (1) dX6_lettersOf_18 ic_1 rfl ?_
    refine v_aload_n (pc' := 20) C 0 dX6_lettersOf_19 rfl rfl ?_
    refine v_iload_n (pc' := 21) C 1 dX6_lettersOf_20 rfl rfl ?_
    refine v_iload_n (pc' := 22) C 3 dX6_lettersOf_21 rfl rfl ?_
    refine v_calli (pc' := 25) C h (rf := fun r9 => r9) ([]) (fun r9 (u9 : Unit) => wM g aM zM) (fun r hr => run_V C (c_X6_letter l g aM _ _ _ r hr) gX6_lettersOf_X6_letter rfl nd_X6_letter rfl rfl rfl rfl ⟨Nat.le_of_ble_eq_true rfl, Nat.le_of_ble_eq_true rfl⟩ ⟨Nat.le_of_ble_eq_true rfl, Nat.le_of_ble_eq_true rfl⟩ (Nat.le_of_ble_eq_true rfl) dX6_lettersOf_22 rfl) [0, 1, 2, 3, 4, 5, 6, 7, 8, 9] [] [0, 1, 2, 3, 4, 5, 6, 7, 8, 9] rfl rfl rfl rfl (by decide) rfl (fun _ _ => rfl) (k' := 0) (n' := 0) rfl rfl rfl (fun r_4 _ _ h => ?_)
    refine v_bipush (pc' := 27) C (97) dX6_lettersOf_25 bc_97 rfl ?_
    refine v_isub (pc' := 28) C dX6_lettersOf_27 rfl ?_
    refine v_ishl (pc' := 29) C dX6_lettersOf_28 rfl ?_
    refine v_ior (pc' := 30) C dX6_lettersOf_29 rfl ?_
    refine v_leti h (fun v2_5 h => ?_)
    refine v_istore_n (pc' := 31) C [1, 2, 0, 3] (lv' := [(0, .ref aM.1), (1, .int p1), (2, .int v2_5), (3, .int v3_2)]) dX6_lettersOf_30 (Nat.le_of_ble_eq_true rfl) rfl rfl ?_
    refine v_iinc (pc' := 34) C 3 [1, 2, 3, 0] (1) dX6_lettersOf_31 rfl ic_1 (Nat.le_of_ble_eq_true rfl) h (lw := fun v9 => [(0, .ref aM.1), (1, .int p1), (2, .int v2_5), (3, .int v9)]) (fun _ => rfl) rfl (fun v3_6 h => ?_)
    refine v_goto C (pc' := 4) dX6_lettersOf_34 (by decide) ?_
    exact ih4 v2_5 v3_6 h
def f_X6_familyWith_L2 (zM : Md) (p1 : Int32) (re2 : Int32 → Option (Int32)) (v2_1 : Int32) : Option (Int32) :=
  if v2_1 < (M_many zM) then getA (M_mask zM) 30 v2_1 fun e_2 =>
  if e_2 = p1 then some v2_1
  else lett (v2_1 + (1 : Int32)) fun v2_3 =>
  re2 v2_3
  else some v2_1
def f_X6_familyWith (zM : Md) (p1 : Int32) : Option (Int32) :=
  loop1 (f_X6_familyWith_L2 zM p1) FU (0 : Int32)
abbrev rm_X6_familyWith : Room := { frames := 0, cells := 0, slots := 0, locals := 0 }
theorem in_X6_familyWith_6 : ∀ w ∈ wsX60, w ∈ wsX6_familyWith := fun _ h => List.mem_cons_of_mem _ (List.mem_append_right _ h)
theorem k_X6_familyWith_1 : Cond.fieldLink RX6 37 "DodgingHangmanModel" "many" "I" ∈ wsX6_familyWith := List.mem_of_getElem? (i := 1) rfl
theorem k_X6_familyWith_2 : Cond.fieldLink RX6 22 "DodgingHangmanModel" "mask" "[I" ∈ wsX6_familyWith := List.mem_of_getElem? (i := 2) rfl
theorem nd_X6_familyWith : yX6_familyWith.cls ≠ "java/lang/invoke/MethodHandle" ∧ yX6_familyWith.cls ≠ "java/lang/invoke/VarHandle" ∧ (parseMethodDescriptor yX6_familyWith.desc).map (fun d => d.parameters.length) = some 1 := by decide +kernel
set_option maxHeartbeats 4000000 in
set_option maxRecDepth 100000 in
theorem c_X6_familyWith (l : Launch) (g : Gv) (aM : A10) (zM : Md) (p1 : Int32) (o : Int32) (h : f_X6_familyWith zM p1 = some o) : Ct l g yX6_familyWith wsX6_familyWith rm_X6_familyWith [.ref aM.1, .int p1] (wM g aM zM) (Qi g o (fun _ : Unit => wM g aM zM) (fun _ => True)) := by
  refine enter (ret := (some .int)) (X := wM g aM zM) (pl := []) pn_X6 rfl (Nat.le_of_ble_eq_true rfl) ((List.append_nil _).symm) ?_
  intro p e s m args below meth c A Q C Cr hin hQ
  unfold f_X6_familyWith at h
  refine v_iconst (pc' := 1) C (0) dX6_familyWith_0 ic_0 rfl ?_
  refine v_istore_n (pc' := 2) C [1, 2, 0] (lv' := [(0, .ref aM.1), (1, .int p1), (2, .int (0 : Int32))]) dX6_familyWith_1 (Nat.le_of_ble_eq_true rfl) rfl rfl ?_
  refine v_loop1 (fun (v2_1 : Int32) => V p l e rm_X6_familyWith s m args below meth c g 3 A 0 0 Q (wM g aM zM) [] [(0, .ref aM.1), (1, .int p1), (2, .int v2_1)] 2 []) (fun re2 ih2 v2_1 h => ?_) (0 : Int32) h
  unfold f_X6_familyWith_L2 at h
  refine v_iload_n (pc' := 3) C 2 dX6_familyWith_2 rfl rfl ?_
  refine v_aload_n (pc' := 4) C 0 dX6_familyWith_3 rfl rfl ?_
  refine g_M_many (pc' := 7) C 0 in_X6_familyWith_6 rfl k_X6_familyWith_1 rfl dX6_familyWith_4 rfl ?_
  refine v_icmp_ge C 26 10 h dX6_familyWith_7 (by decide) rfl (fun _ h => ?_) (fun _ h => ?_)
  · refine v_iload_n (pc' := 27) C 2 dX6_familyWith_26 rfl rfl ?_
    exact v_iret (rf := fun (o9 : Int32) => o9) (Wf := fun (o9 : Int32) (u9 : Unit) => wM g aM zM) (ok := fun (o9 : Int32) (u9 : Unit) => True) C Cr h hQ () trivial rfl rfl dX6_familyWith_27
  · refine v_aload_n (pc' := 11) C 0 dX6_familyWith_10 rfl rfl ?_
    refine g_M_mask (pc' := 14) C 0 in_X6_familyWith_6 rfl k_X6_familyWith_2 rfl dX6_familyWith_11 rfl ?_
    refine v_iload_n (pc' := 15) C 2 dX6_familyWith_14 rfl rfl ?_
    refine v_iald (pc' := 16) C h 5 rfl dX6_familyWith_15 rfl (fun e_2 h => ?_)
    refine v_iload_n (pc' := 17) C 1 dX6_familyWith_16 rfl rfl ?_
    refine v_icmp_eq C 26 20 h dX6_familyWith_17 (by decide) rfl (fun _ h => ?_) (fun _ h => ?_)
    · refine v_iload_n (pc' := 27) C 2 dX6_familyWith_26 rfl rfl ?_
      exact v_iret (rf := fun (o9 : Int32) => o9) (Wf := fun (o9 : Int32) (u9 : Unit) => wM g aM zM) (ok := fun (o9 : Int32) (u9 : Unit) => True) C Cr h hQ () trivial rfl rfl dX6_familyWith_27
    · refine v_iinc (pc' := 23) C 2 [1, 2, 0] (1) dX6_familyWith_20 rfl ic_1 (Nat.le_of_ble_eq_true rfl) h (lw := fun v9 => [(0, .ref aM.1), (1, .int p1), (2, .int v9)]) (fun _ => rfl) rfl (fun v2_3 h => ?_)
      refine v_goto C (pc' := 2) dX6_familyWith_23 (by decide) ?_
      exact ih2 v2_3 h
def f_X6_laysFamilies_J153 (p1 : Int32) (re95 : Int32 → Md → Option (Md)) (v2_11 : Int32) (v3_12 : Int32) (zM_13 : Md) : Option (Md) :=
  getA (M_s zM_13) 319 (5 : Int32) fun e_14 =>
  Option.bind (f_X6_bits ((v3_12 &&& (e_14 ^^^ (-1 : Int32))) &&& (((1 : Int32) <<< ((p1 - (97 : Int32)) &&& 31)) ^^^ (-1 : Int32)))) fun r_15 =>
  chkA 30 v2_11 (lett (M_fresh_set zM_13 (upd (M_fresh zM_13) (v2_11).toNatClampNeg r_15)) fun zM_16 =>
  getA (M_members zM_16) 30 v2_11 fun e_17 =>
  Option.bind (f_X6_bits e_17) fun r_18 =>
  chkA 30 v2_11 (lett (M_size_set zM_16 (upd (M_size zM_16) (v2_11).toNatClampNeg r_18)) fun zM_19 =>
  getA (M_mask zM_19) 30 v2_11 fun e_20 =>
  Option.bind (f_X6_bits e_20) fun r_21 =>
  chkA 30 v2_11 (lett (M_places_set zM_19 (upd (M_places zM_19) (v2_11).toNatClampNeg r_21)) fun zM_22 =>
  lett (v2_11 + (1 : Int32)) fun v2_23 =>
  re95 v2_23 zM_22)))
def f_X6_laysFamilies_L108 (zM_7 : Md) (v2_6 : Int32) (p1 : Int32) (re95 : Int32 → Md → Option (Md)) (re108 : Int32 → Int32 → Option (Md)) (v3_8 : Int32) (v4_9 : Int32) : Option (Md) :=
  getA (M_s zM_7) 319 (0 : Int32) fun e_10 =>
  if v4_9 < e_10 then getA (M_members zM_7) 30 v2_6 fun e_24 =>
  if ((e_24 >>> (v4_9 &&& 31)) &&& (1 : Int32)) = (1 : Int32) then Option.bind (f_X6_lettersOf zM_7 v4_9) fun r_27 =>
  lett (v3_8 ||| r_27) fun v3_28 =>
  lett (v4_9 + (1 : Int32)) fun v4_29 =>
  re108 v3_28 v4_29
  else lett (v3_8 ||| (0 : Int32)) fun v3_25 =>
  lett (v4_9 + (1 : Int32)) fun v4_26 =>
  re108 v3_25 v4_26
  else f_X6_laysFamilies_J153 p1 re95 v2_6 v3_8 zM_7
def f_X6_laysFamilies_L95 (p1 : Int32) (re95 : Int32 → Md → Option (Md)) (v2_6 : Int32) (zM_7 : Md) : Option (Md) :=
  if v2_6 < (M_many zM_7) then loop2 (f_X6_laysFamilies_L108 zM_7 v2_6 p1 re95) FU (0 : Int32) (0 : Int32)
  else some zM_7
def f_X6_laysFamilies_J93 (p1 : Int32) (zM_5 : Md) : Option (Md) :=
  loop2 (f_X6_laysFamilies_L95 p1) FU (0 : Int32) zM_5
def f_X6_laysFamilies_L7 (p1 : Int32) (re7 : Int32 → Md → Option (Md)) (v2_2 : Int32) (zM_3 : Md) : Option (Md) :=
  getA (M_s zM_3) 319 (0 : Int32) fun e_4 =>
  if v2_2 < e_4 then Option.bind (f_X6_isCandidate zM_3 v2_2) fun r_30 =>
  if r_30 = 0 then lett (v2_2 + (1 : Int32)) fun v2_31 =>
  re7 v2_31 zM_3
  else Option.bind (f_X6_maskOf zM_3 v2_2 p1) fun r_32 =>
  Option.bind (f_X6_familyWith zM_3 r_32) fun r_33 =>
  if r_33 = (M_many zM_3) then chkA 30 r_33 (lett (M_mask_set zM_3 (upd (M_mask zM_3) (r_33).toNatClampNeg r_32)) fun zM_37 =>
  chkA 30 r_33 (lett (M_members_set zM_37 (upd (M_members zM_37) (r_33).toNatClampNeg (0 : Int32))) fun zM_38 =>
  lett (M_many_set zM_38 ((M_many zM_38) + (1 : Int32))) fun zM_39 =>
  getA (M_members zM_39) 30 r_33 fun e_40 =>
  chkA 30 r_33 (lett (M_members_set zM_39 (upd (M_members zM_39) (r_33).toNatClampNeg (e_40 ||| ((1 : Int32) <<< (v2_2 &&& 31))))) fun zM_41 =>
  lett (v2_2 + (1 : Int32)) fun v2_42 =>
  re7 v2_42 zM_41)))
  else getA (M_members zM_3) 30 r_33 fun e_34 =>
  chkA 30 r_33 (lett (M_members_set zM_3 (upd (M_members zM_3) (r_33).toNatClampNeg (e_34 ||| ((1 : Int32) <<< (v2_2 &&& 31))))) fun zM_35 =>
  lett (v2_2 + (1 : Int32)) fun v2_36 =>
  re7 v2_36 zM_35)
  else f_X6_laysFamilies_J93 p1 zM_3
def f_X6_laysFamilies (zM : Md) (p1 : Int32) : Option (Md) :=
  lett (M_many_set zM (0 : Int32)) fun zM_1 =>
  loop2 (f_X6_laysFamilies_L7 p1) FU (0 : Int32) zM_1
abbrev rm_X6_laysFamilies : Room := { frames := 2, cells := 0, slots := 0, locals := 46 }
theorem in_X6_laysFamilies_6 : ∀ w ∈ wsX60, w ∈ wsX6_laysFamilies := fun _ h => List.mem_cons_of_mem _ (List.mem_append_right _ h)
theorem k_X6_laysFamilies_1 : Cond.fieldLink RX6 37 "DodgingHangmanModel" "many" "I" ∈ wsX6_laysFamilies := List.mem_of_getElem? (i := 1) rfl
theorem k_X6_laysFamilies_2 : Cond.fieldLink RX6 7 "DodgingHangmanModel" "s" "[I" ∈ wsX6_laysFamilies := List.mem_of_getElem? (i := 2) rfl
theorem k_X6_laysFamilies_5 : Cond.fieldLink RX6 34 "DodgingHangmanModel" "fresh" "[I" ∈ wsX6_laysFamilies := List.mem_of_getElem? (i := 5) rfl
theorem k_X6_laysFamilies_6 : Cond.fieldLink RX6 28 "DodgingHangmanModel" "size" "[I" ∈ wsX6_laysFamilies := List.mem_of_getElem? (i := 6) rfl
theorem k_X6_laysFamilies_4 : Cond.fieldLink RX6 25 "DodgingHangmanModel" "members" "[I" ∈ wsX6_laysFamilies := List.mem_of_getElem? (i := 4) rfl
theorem k_X6_laysFamilies_7 : Cond.fieldLink RX6 31 "DodgingHangmanModel" "places" "[I" ∈ wsX6_laysFamilies := List.mem_of_getElem? (i := 7) rfl
theorem k_X6_laysFamilies_3 : Cond.fieldLink RX6 22 "DodgingHangmanModel" "mask" "[I" ∈ wsX6_laysFamilies := List.mem_of_getElem? (i := 3) rfl
theorem nd_X6_laysFamilies : yX6_laysFamilies.cls ≠ "java/lang/invoke/MethodHandle" ∧ yX6_laysFamilies.cls ≠ "java/lang/invoke/VarHandle" ∧ (parseMethodDescriptor yX6_laysFamilies.desc).map (fun d => d.parameters.length) = some 1 := by decide +kernel
set_option maxHeartbeats 4000000 in
set_option maxRecDepth 100000 in
theorem c_X6_laysFamilies (l : Launch) (g : Gv) (aM : A10) (zM : Md) (p1 : Int32) (o : Md) (h : f_X6_laysFamilies zM p1 = some o) : Ct l g yX6_laysFamilies wsX6_laysFamilies rm_X6_laysFamilies [.ref aM.1, .int p1] (wM g aM zM) (Qv g (fun _ : Unit => wM g aM o) (fun _ => True)) := by
  refine enter (ret := none) (X := wM g aM zM) (pl := []) pn_X6 rfl (Nat.le_of_ble_eq_true rfl) ((List.append_nil _).symm) ?_
  intro p e s m args below meth c A Q C Cr hin hQ
  unfold f_X6_laysFamilies at h
  have J93 : ∀ (zM_5 : Md), f_X6_laysFamilies_J93 p1 zM_5 = some o → V p l e rm_X6_laysFamilies s m args below meth c g 5 A 0 0 Q (wM g aM zM_5) [] [(0, .ref aM.1), (1, .int p1)] 93 [] := by
    intro zM_5 h
    unfold f_X6_laysFamilies_J93 at h
    refine v_iconst (pc' := 94) C (0) dX6_laysFamilies_93 ic_0 rfl ?_
    refine v_istore_n (pc' := 95) C [1, 2, 0] (lv' := [(0, .ref aM.1), (1, .int p1), (2, .int (0 : Int32))]) dX6_laysFamilies_94 (Nat.le_of_ble_eq_true rfl) rfl rfl ?_
    refine v_loop2 (fun (v2_6 : Int32) (zM_7 : Md) => V p l e rm_X6_laysFamilies s m args below meth c g 5 A 0 0 Q (wM g aM zM_7) [] [(0, .ref aM.1), (1, .int p1), (2, .int v2_6)] 95 []) (fun re95 ih95 v2_6 zM_7 h => ?_) (0 : Int32) zM_5 h
    unfold f_X6_laysFamilies_L95 at h
    have J153 : ∀ (v2_11 : Int32) (v3_12 : Int32) (zM_13 : Md), f_X6_laysFamilies_J153 p1 re95 v2_11 v3_12 zM_13 = some o → V p l e rm_X6_laysFamilies s m args below meth c g 5 A 0 0 Q (wM g aM zM_13) [] [(0, .ref aM.1), (1, .int p1), (2, .int v2_11), (3, .int v3_12)] 153 [] := by
      intro v2_11 v3_12 zM_13 h
      unfold f_X6_laysFamilies_J153 at h
      refine v_aload_n (pc' := 154) C 0 dX6_laysFamilies_153 rfl rfl ?_
      refine g_M_fresh (pc' := 157) C 0 in_X6_laysFamilies_6 rfl k_X6_laysFamilies_5 rfl dX6_laysFamilies_154 rfl ?_
      refine v_iload_n (pc' := 158) C 2 dX6_laysFamilies_157 rfl rfl ?_
      refine v_iload_n (pc' := 159) C 3 dX6_laysFamilies_158 rfl rfl ?_
      refine v_aload_n (pc' := 160) C 0 dX6_laysFamilies_159 rfl rfl ?_
      refine g_M_s (pc' := 163) C 0 in_X6_laysFamilies_6 rfl k_X6_laysFamilies_2 rfl dX6_laysFamilies_160 rfl ?_
      refine v_iconst (pc' := 164) C (5) dX6_laysFamilies_163 ic_5 rfl ?_
      refine v_iald (pc' := 165) C h 1 rfl dX6_laysFamilies_164 rfl (fun e_14 h => ?_)
      refine v_iconst (pc' := 166) C (-1) dX6_laysFamilies_165 ic_m1 rfl ?_
      refine v_ixor (pc' := 167) C dX6_laysFamilies_166 rfl ?_
      refine v_iand (pc' := 168) C dX6_laysFamilies_167 rfl ?_
      refine v_iconst (pc' := 169) C (1) dX6_laysFamilies_168 ic_1 rfl ?_
      refine v_iload_n (pc' := 170) C 1 dX6_laysFamilies_169 rfl rfl ?_
      refine v_bipush (pc' := 172) C (97) dX6_laysFamilies_170 bc_97 rfl ?_
      refine v_isub (pc' := 173) C dX6_laysFamilies_172 rfl ?_
      refine v_ishl (pc' := 174) C dX6_laysFamilies_173 rfl ?_
      refine v_iconst (pc' := 175) C (-1) dX6_laysFamilies_174 ic_m1 rfl ?_
      refine v_ixor (pc' := 176) C dX6_laysFamilies_175 rfl ?_
      refine v_iand (pc' := 177) C dX6_laysFamilies_176 rfl ?_
      refine v_purei (pc' := 180) C h (rf := fun r9 => r9) (fun r hr => run_S C (c_X6_bits l g _ r hr) gX6_laysFamilies_X6_bits rfl nd_X6_bits ⟨Nat.le_of_ble_eq_true rfl, Nat.le_of_ble_eq_true rfl⟩ ⟨Nat.le_of_ble_eq_true rfl, Nat.le_of_ble_eq_true rfl⟩ (Nat.le_of_ble_eq_true rfl) dX6_laysFamilies_177 rfl) rfl (fun r_15 h => ?_)
      refine v_iast (pc' := 181) C h 9 (fun z9 => wM g aM z9) rfl rfl dX6_laysFamilies_180 rfl (fun zM_16 h => ?_)
      refine v_aload_n (pc' := 182) C 0 dX6_laysFamilies_181 rfl rfl ?_
      refine g_M_size (pc' := 185) C 0 in_X6_laysFamilies_6 rfl k_X6_laysFamilies_6 rfl dX6_laysFamilies_182 rfl ?_
      refine v_iload_n (pc' := 186) C 2 dX6_laysFamilies_185 rfl rfl ?_
      refine v_aload_n (pc' := 187) C 0 dX6_laysFamilies_186 rfl rfl ?_
      refine g_M_members (pc' := 190) C 0 in_X6_laysFamilies_6 rfl k_X6_laysFamilies_4 rfl dX6_laysFamilies_187 rfl ?_
      refine v_iload_n (pc' := 191) C 2 dX6_laysFamilies_190 rfl rfl ?_
      refine v_iald (pc' := 192) C h 6 rfl dX6_laysFamilies_191 rfl (fun e_17 h => ?_)
      refine v_purei (pc' := 195) C h (rf := fun r9 => r9) (fun r hr => run_S C (c_X6_bits l g _ r hr) gX6_laysFamilies_X6_bits rfl nd_X6_bits ⟨Nat.le_of_ble_eq_true rfl, Nat.le_of_ble_eq_true rfl⟩ ⟨Nat.le_of_ble_eq_true rfl, Nat.le_of_ble_eq_true rfl⟩ (Nat.le_of_ble_eq_true rfl) dX6_laysFamilies_192 rfl) rfl (fun r_18 h => ?_)
      refine v_iast (pc' := 196) C h 7 (fun z9 => wM g aM z9) rfl rfl dX6_laysFamilies_195 rfl (fun zM_19 h => ?_)
      refine v_aload_n (pc' := 197) C 0 dX6_laysFamilies_196 rfl rfl ?_
      refine g_M_places (pc' := 200) C 0 in_X6_laysFamilies_6 rfl k_X6_laysFamilies_7 rfl dX6_laysFamilies_197 rfl ?_
      refine v_iload_n (pc' := 201) C 2 dX6_laysFamilies_200 rfl rfl ?_
      refine v_aload_n (pc' := 202) C 0 dX6_laysFamilies_201 rfl rfl ?_
      refine g_M_mask (pc' := 205) C 0 in_X6_laysFamilies_6 rfl k_X6_laysFamilies_3 rfl dX6_laysFamilies_202 rfl ?_
      refine v_iload_n (pc' := 206) C 2 dX6_laysFamilies_205 rfl rfl ?_
      refine v_iald (pc' := 207) C h 5 rfl dX6_laysFamilies_206 rfl (fun e_20 h => ?_)
      refine v_purei (pc' := 210) C h (rf := fun r9 => r9) (fun r hr => run_S C (c_X6_bits l g _ r hr) gX6_laysFamilies_X6_bits rfl nd_X6_bits ⟨Nat.le_of_ble_eq_true rfl, Nat.le_of_ble_eq_true rfl⟩ ⟨Nat.le_of_ble_eq_true rfl, Nat.le_of_ble_eq_true rfl⟩ (Nat.le_of_ble_eq_true rfl) dX6_laysFamilies_207 rfl) rfl (fun r_21 h => ?_)
      refine v_iast (pc' := 211) C h 8 (fun z9 => wM g aM z9) rfl rfl dX6_laysFamilies_210 rfl (fun zM_22 h => ?_)
      refine v_iinc (pc' := 214) C 2 [1, 2, 0, 3] (1) dX6_laysFamilies_211 rfl ic_1 (Nat.le_of_ble_eq_true rfl) h (lw := fun v9 => [(0, .ref aM.1), (1, .int p1), (2, .int v9), (3, .int v3_12)]) (fun _ => rfl) rfl (fun v2_23 h => ?_)
      refine v_goto C (pc' := 95) dX6_laysFamilies_214 (by decide) ?_
      refine v_lv [0, 1, 2] (lv' := [(0, .ref aM.1), (1, .int p1), (2, .int v2_23)]) rfl ?_
      exact ih95 v2_23 zM_22 h
    refine v_iload_n (pc' := 96) C 2 dX6_laysFamilies_95 rfl rfl ?_
    refine v_aload_n (pc' := 97) C 0 dX6_laysFamilies_96 rfl rfl ?_
    refine g_M_many (pc' := 100) C 0 in_X6_laysFamilies_6 rfl k_X6_laysFamilies_1 rfl dX6_laysFamilies_97 rfl ?_
    refine v_icmp_ge C 217 103 h dX6_laysFamilies_100 (by decide) rfl (fun _ h => ?_) (fun _ h => ?_)
    · exact v_vret (Wf := fun (o9 : Md) (u9 : Unit) => wM g aM o9) (ok := fun (o9 : Md) (u9 : Unit) => True) C Cr h hQ () trivial rfl dX6_laysFamilies_217
    · refine v_iconst (pc' := 104) C (0) dX6_laysFamilies_103 ic_0 rfl ?_
      refine v_istore_n (pc' := 105) C [1, 2, 3, 0] (lv' := [(0, .ref aM.1), (1, .int p1), (2, .int v2_6), (3, .int (0 : Int32))]) dX6_laysFamilies_104 (Nat.le_of_ble_eq_true rfl) rfl rfl ?_
      refine v_iconst (pc' := 106) C (0) dX6_laysFamilies_105 ic_0 rfl ?_
      refine v_istore (pc' := 108) C [1, 2, 3, 4, 0] (lv' := [(0, .ref aM.1), (1, .int p1), (2, .int v2_6), (3, .int (0 : Int32)), (4, .int (0 : Int32))]) dX6_laysFamilies_106 (Nat.le_of_ble_eq_true rfl) rfl rfl ?_
      refine v_loop2 (fun (v3_8 : Int32) (v4_9 : Int32) => V p l e rm_X6_laysFamilies s m args below meth c g 5 A 0 0 Q (wM g aM zM_7) [] [(0, .ref aM.1), (1, .int p1), (2, .int v2_6), (3, .int v3_8), (4, .int v4_9)] 108 []) (fun re108 ih108 v3_8 v4_9 h => ?_) (0 : Int32) (0 : Int32) h
      unfold f_X6_laysFamilies_L108 at h
      refine v_iload (pc' := 110) C 4 dX6_laysFamilies_108 rfl rfl ?_
      refine v_aload_n (pc' := 111) C 0 dX6_laysFamilies_110 rfl rfl ?_
      refine g_M_s (pc' := 114) C 0 in_X6_laysFamilies_6 rfl k_X6_laysFamilies_2 rfl dX6_laysFamilies_111 rfl ?_
      refine v_iconst (pc' := 115) C (0) dX6_laysFamilies_114 ic_0 rfl ?_
      refine v_iald (pc' := 116) C h 1 rfl dX6_laysFamilies_115 rfl (fun e_10 h => ?_)
      refine v_icmp_ge C 153 119 h dX6_laysFamilies_116 (by decide) rfl (fun _ h => ?_) (fun _ h => ?_)
      · refine v_lv [0, 1, 2, 3] (lv' := [(0, .ref aM.1), (1, .int p1), (2, .int v2_6), (3, .int v3_8)]) rfl ?_
        exact J153 v2_6 v3_8 zM_7 h
      · refine v_iload_n (pc' := 120) C 3 dX6_laysFamilies_119 rfl rfl ?_
        refine v_aload_n (pc' := 121) C 0 dX6_laysFamilies_120 rfl rfl ?_
        refine g_M_members (pc' := 124) C 0 in_X6_laysFamilies_6 rfl k_X6_laysFamilies_4 rfl dX6_laysFamilies_121 rfl ?_
        refine v_iload_n (pc' := 125) C 2 dX6_laysFamilies_124 rfl rfl ?_
        refine v_iald (pc' := 126) C h 6 rfl dX6_laysFamilies_125 rfl (fun e_24 h => ?_)
        refine v_iload (pc' := 128) C 4 dX6_laysFamilies_126 rfl rfl ?_
        refine v_ishr (pc' := 129) C dX6_laysFamilies_128 rfl ?_
        refine v_iconst (pc' := 130) C (1) dX6_laysFamilies_129 ic_1 rfl ?_
        refine v_iand (pc' := 131) C dX6_laysFamilies_130 rfl ?_
        refine v_iconst (pc' := 132) C (1) dX6_laysFamilies_131 ic_1 rfl ?_
        refine v_icmp_ne C 144 135 h dX6_laysFamilies_132 (by decide) rfl (fun _ h => ?_) (fun _ h => ?_)
        · refine v_iconst (pc' := 145) C (0) dX6_laysFamilies_144 ic_0 rfl ?_
          refine v_ior (pc' := 146) C dX6_laysFamilies_145 rfl ?_
          refine v_leti h (fun v3_25 h => ?_)
          refine v_istore_n (pc' := 147) C [1, 2, 3, 0, 4] (lv' := [(0, .ref aM.1), (1, .int p1), (2, .int v2_6), (3, .int v3_25), (4, .int v4_9)]) dX6_laysFamilies_146 (Nat.le_of_ble_eq_true rfl) rfl rfl ?_
          refine v_iinc (pc' := 150) C 4 [1, 2, 3, 4, 0] (1) dX6_laysFamilies_147 rfl ic_1 (Nat.le_of_ble_eq_true rfl) h (lw := fun v9 => [(0, .ref aM.1), (1, .int p1), (2, .int v2_6), (3, .int v3_25), (4, .int v9)]) (fun _ => rfl) rfl (fun v4_26 h => ?_)
          refine v_goto C (pc' := 108) dX6_laysFamilies_150 (by decide) ?_
          exact ih108 v3_25 v4_26 h
        · refine v_aload_n (pc' := 136) C 0 dX6_laysFamilies_135 rfl rfl ?_
          refine v_iload (pc' := 138) C 4 dX6_laysFamilies_136 rfl rfl ?_
          refine v_calli (pc' := 141) C h (rf := fun r9 => r9) ([]) (fun r9 (u9 : Unit) => wM g aM zM_7) (fun r hr => run_V C (c_X6_lettersOf l g aM _ _ r hr) gX6_laysFamilies_X6_lettersOf rfl nd_X6_lettersOf rfl rfl rfl rfl ⟨Nat.le_of_ble_eq_true rfl, Nat.le_of_ble_eq_true rfl⟩ ⟨Nat.le_of_ble_eq_true rfl, Nat.le_of_ble_eq_true rfl⟩ (Nat.le_of_ble_eq_true rfl) dX6_laysFamilies_138 rfl) [0, 1, 2, 3, 4, 5, 6, 7, 8, 9] [] [0, 1, 2, 3, 4, 5, 6, 7, 8, 9] rfl rfl rfl rfl (by decide) rfl (fun _ _ => rfl) (k' := 0) (n' := 0) rfl rfl rfl (fun r_27 _ _ h => ?_)
          refine v_goto C (pc' := 145) dX6_laysFamilies_141 (by decide) ?_
          refine v_ior (pc' := 146) C dX6_laysFamilies_145 rfl ?_
          refine v_leti h (fun v3_28 h => ?_)
          refine v_istore_n (pc' := 147) C [1, 2, 3, 0, 4] (lv' := [(0, .ref aM.1), (1, .int p1), (2, .int v2_6), (3, .int v3_28), (4, .int v4_9)]) dX6_laysFamilies_146 (Nat.le_of_ble_eq_true rfl) rfl rfl ?_
          refine v_iinc (pc' := 150) C 4 [1, 2, 3, 4, 0] (1) dX6_laysFamilies_147 rfl ic_1 (Nat.le_of_ble_eq_true rfl) h (lw := fun v9 => [(0, .ref aM.1), (1, .int p1), (2, .int v2_6), (3, .int v3_28), (4, .int v9)]) (fun _ => rfl) rfl (fun v4_29 h => ?_)
          refine v_goto C (pc' := 108) dX6_laysFamilies_150 (by decide) ?_
          exact ih108 v3_28 v4_29 h
  refine v_aload_n (pc' := 1) C 0 dX6_laysFamilies_0 rfl rfl ?_
  refine v_iconst (pc' := 2) C (0) dX6_laysFamilies_1 ic_0 rfl ?_
  refine p_M_many (pc' := 5) C h 0 (fun z9 => wM g aM z9) in_X6_laysFamilies_6 rfl k_X6_laysFamilies_1 rfl dX6_laysFamilies_2 (Nat.le_of_ble_eq_true rfl) rfl (fun zM_1 h => ?_)
  refine v_iconst (pc' := 6) C (0) dX6_laysFamilies_5 ic_0 rfl ?_
  refine v_istore_n (pc' := 7) C [1, 2, 0] (lv' := [(0, .ref aM.1), (1, .int p1), (2, .int (0 : Int32))]) dX6_laysFamilies_6 (Nat.le_of_ble_eq_true rfl) rfl rfl ?_
  refine v_loop2 (fun (v2_2 : Int32) (zM_3 : Md) => V p l e rm_X6_laysFamilies s m args below meth c g 5 A 0 0 Q (wM g aM zM_3) [] [(0, .ref aM.1), (1, .int p1), (2, .int v2_2)] 7 []) (fun re7 ih7 v2_2 zM_3 h => ?_) (0 : Int32) zM_1 h
  unfold f_X6_laysFamilies_L7 at h
  refine v_iload_n (pc' := 8) C 2 dX6_laysFamilies_7 rfl rfl ?_
  refine v_aload_n (pc' := 9) C 0 dX6_laysFamilies_8 rfl rfl ?_
  refine g_M_s (pc' := 12) C 0 in_X6_laysFamilies_6 rfl k_X6_laysFamilies_2 rfl dX6_laysFamilies_9 rfl ?_
  refine v_iconst (pc' := 13) C (0) dX6_laysFamilies_12 ic_0 rfl ?_
  refine v_iald (pc' := 14) C h 1 rfl dX6_laysFamilies_13 rfl (fun e_4 h => ?_)
  refine v_icmp_ge C 93 17 h dX6_laysFamilies_14 (by decide) rfl (fun _ h => ?_) (fun _ h => ?_)
  · refine v_lv [0, 1] (lv' := [(0, .ref aM.1), (1, .int p1)]) rfl ?_
    exact J93 zM_3 h
  · refine v_aload_n (pc' := 18) C 0 dX6_laysFamilies_17 rfl rfl ?_
    refine v_iload_n (pc' := 19) C 2 dX6_laysFamilies_18 rfl rfl ?_
    refine v_calli (pc' := 22) C h (rf := fun r9 => r9) ([]) (fun r9 (u9 : Unit) => wM g aM zM_3) (fun r hr => run_V C (c_X6_isCandidate l g aM _ _ r hr) gX6_laysFamilies_X6_isCandidate rfl nd_X6_isCandidate rfl rfl rfl rfl ⟨Nat.le_of_ble_eq_true rfl, Nat.le_of_ble_eq_true rfl⟩ ⟨Nat.le_of_ble_eq_true rfl, Nat.le_of_ble_eq_true rfl⟩ (Nat.le_of_ble_eq_true rfl) dX6_laysFamilies_19 rfl) [0, 1, 2, 3, 4, 5, 6, 7, 8, 9] [] [0, 1, 2, 3, 4, 5, 6, 7, 8, 9] rfl rfl rfl rfl (by decide) rfl (fun _ _ => rfl) (k' := 0) (n' := 0) rfl rfl rfl (fun r_30 _ _ h => ?_)
    refine v_if_eq C 87 25 h dX6_laysFamilies_22 (by decide) rfl (fun _ h => ?_) (fun _ h => ?_)
    · refine v_iinc (pc' := 90) C 2 [1, 2, 0] (1) dX6_laysFamilies_87 rfl ic_1 (Nat.le_of_ble_eq_true rfl) h (lw := fun v9 => [(0, .ref aM.1), (1, .int p1), (2, .int v9)]) (fun _ => rfl) rfl (fun v2_31 h => ?_)
      refine v_goto C (pc' := 7) dX6_laysFamilies_90 (by decide) ?_
      exact ih7 v2_31 zM_3 h
    · refine v_aload_n (pc' := 26) C 0 dX6_laysFamilies_25 rfl rfl ?_
      refine v_iload_n (pc' := 27) C 2 dX6_laysFamilies_26 rfl rfl ?_
      refine v_iload_n (pc' := 28) C 1 dX6_laysFamilies_27 rfl rfl ?_
      refine v_calli (pc' := 31) C h (rf := fun r9 => r9) ([]) (fun r9 (u9 : Unit) => wM g aM zM_3) (fun r hr => run_V C (c_X6_maskOf l g aM _ _ _ r hr) gX6_laysFamilies_X6_maskOf rfl nd_X6_maskOf rfl rfl rfl rfl ⟨Nat.le_of_ble_eq_true rfl, Nat.le_of_ble_eq_true rfl⟩ ⟨Nat.le_of_ble_eq_true rfl, Nat.le_of_ble_eq_true rfl⟩ (Nat.le_of_ble_eq_true rfl) dX6_laysFamilies_28 rfl) [0, 1, 2, 3, 4, 5, 6, 7, 8, 9] [] [0, 1, 2, 3, 4, 5, 6, 7, 8, 9] rfl rfl rfl rfl (by decide) rfl (fun _ _ => rfl) (k' := 0) (n' := 0) rfl rfl rfl (fun r_32 _ _ h => ?_)
      refine v_istore_n (pc' := 32) C [1, 2, 3, 0] (lv' := [(0, .ref aM.1), (1, .int p1), (2, .int v2_2), (3, .int r_32)]) dX6_laysFamilies_31 (Nat.le_of_ble_eq_true rfl) rfl rfl ?_
      refine v_aload_n (pc' := 33) C 0 dX6_laysFamilies_32 rfl rfl ?_
      refine v_iload_n (pc' := 34) C 3 dX6_laysFamilies_33 rfl rfl ?_
      refine v_calli (pc' := 37) C h (rf := fun r9 => r9) ([]) (fun r9 (u9 : Unit) => wM g aM zM_3) (fun r hr => run_V C (c_X6_familyWith l g aM _ _ r hr) gX6_laysFamilies_X6_familyWith rfl nd_X6_familyWith rfl rfl rfl rfl ⟨Nat.le_of_ble_eq_true rfl, Nat.le_of_ble_eq_true rfl⟩ ⟨Nat.le_of_ble_eq_true rfl, Nat.le_of_ble_eq_true rfl⟩ (Nat.le_of_ble_eq_true rfl) dX6_laysFamilies_34 rfl) [0, 1, 2, 3, 4, 5, 6, 7, 8, 9] [] [0, 1, 2, 3, 4, 5, 6, 7, 8, 9] rfl rfl rfl rfl (by decide) rfl (fun _ _ => rfl) (k' := 0) (n' := 0) rfl rfl rfl (fun r_33 _ _ h => ?_)
      refine v_istore (pc' := 39) C [1, 2, 3, 4, 0] (lv' := [(0, .ref aM.1), (1, .int p1), (2, .int v2_2), (3, .int r_32), (4, .int r_33)]) dX6_laysFamilies_37 (Nat.le_of_ble_eq_true rfl) rfl rfl ?_
      refine v_iload (pc' := 41) C 4 dX6_laysFamilies_39 rfl rfl ?_
      refine v_aload_n (pc' := 42) C 0 dX6_laysFamilies_41 rfl rfl ?_
      refine g_M_many (pc' := 45) C 0 in_X6_laysFamilies_6 rfl k_X6_laysFamilies_1 rfl dX6_laysFamilies_42 rfl ?_
      refine v_icmp_ne C 74 48 h dX6_laysFamilies_45 (by decide) rfl (fun _ h => ?_) (fun _ h => ?_)
      · refine v_aload_n (pc' := 75) C 0 dX6_laysFamilies_74 rfl rfl ?_
        refine g_M_members (pc' := 78) C 0 in_X6_laysFamilies_6 rfl k_X6_laysFamilies_4 rfl dX6_laysFamilies_75 rfl ?_
        refine v_iload (pc' := 80) C 4 dX6_laysFamilies_78 rfl rfl ?_
        refine v_dup2 (pc' := 81) C dX6_laysFamilies_80 rfl rfl rfl ?_
        refine v_iald (pc' := 82) C h 6 rfl dX6_laysFamilies_81 rfl (fun e_34 h => ?_)
        refine v_iconst (pc' := 83) C (1) dX6_laysFamilies_82 ic_1 rfl ?_
        refine v_iload_n (pc' := 84) C 2 dX6_laysFamilies_83 rfl rfl ?_
        refine v_ishl (pc' := 85) C dX6_laysFamilies_84 rfl ?_
        refine v_ior (pc' := 86) C dX6_laysFamilies_85 rfl ?_
        refine v_iast (pc' := 87) C h 6 (fun z9 => wM g aM z9) rfl rfl dX6_laysFamilies_86 rfl (fun zM_35 h => ?_)
        refine v_iinc (pc' := 90) C 2 [1, 2, 0, 3, 4] (1) dX6_laysFamilies_87 rfl ic_1 (Nat.le_of_ble_eq_true rfl) h (lw := fun v9 => [(0, .ref aM.1), (1, .int p1), (2, .int v9), (3, .int r_32), (4, .int r_33)]) (fun _ => rfl) rfl (fun v2_36 h => ?_)
        refine v_goto C (pc' := 7) dX6_laysFamilies_90 (by decide) ?_
        refine v_lv [0, 1, 2] (lv' := [(0, .ref aM.1), (1, .int p1), (2, .int v2_36)]) rfl ?_
        exact ih7 v2_36 zM_35 h
      · refine v_aload_n (pc' := 49) C 0 dX6_laysFamilies_48 rfl rfl ?_
        refine g_M_mask (pc' := 52) C 0 in_X6_laysFamilies_6 rfl k_X6_laysFamilies_3 rfl dX6_laysFamilies_49 rfl ?_
        refine v_iload (pc' := 54) C 4 dX6_laysFamilies_52 rfl rfl ?_
        refine v_iload_n (pc' := 55) C 3 dX6_laysFamilies_54 rfl rfl ?_
        refine v_iast (pc' := 56) C h 5 (fun z9 => wM g aM z9) rfl rfl dX6_laysFamilies_55 rfl (fun zM_37 h => ?_)
        refine v_aload_n (pc' := 57) C 0 dX6_laysFamilies_56 rfl rfl ?_
        refine g_M_members (pc' := 60) C 0 in_X6_laysFamilies_6 rfl k_X6_laysFamilies_4 rfl dX6_laysFamilies_57 rfl ?_
        refine v_iload (pc' := 62) C 4 dX6_laysFamilies_60 rfl rfl ?_
        refine v_iconst (pc' := 63) C (0) dX6_laysFamilies_62 ic_0 rfl ?_
        refine v_iast (pc' := 64) C h 6 (fun z9 => wM g aM z9) rfl rfl dX6_laysFamilies_63 rfl (fun zM_38 h => ?_)
        refine v_aload_n (pc' := 65) C 0 dX6_laysFamilies_64 rfl rfl ?_
        refine v_dup (pc' := 66) C dX6_laysFamilies_65 rfl rfl ?_
        refine g_M_many (pc' := 69) C 0 in_X6_laysFamilies_6 rfl k_X6_laysFamilies_1 rfl dX6_laysFamilies_66 rfl ?_
        refine v_iconst (pc' := 70) C (1) dX6_laysFamilies_69 ic_1 rfl ?_
        refine v_iadd (pc' := 71) C dX6_laysFamilies_70 rfl ?_
        refine p_M_many (pc' := 74) C h 0 (fun z9 => wM g aM z9) in_X6_laysFamilies_6 rfl k_X6_laysFamilies_1 rfl dX6_laysFamilies_71 (Nat.le_of_ble_eq_true rfl) rfl (fun zM_39 h => ?_)
        refine v_aload_n (pc' := 75) C 0 dX6_laysFamilies_74 rfl rfl ?_
        refine g_M_members (pc' := 78) C 0 in_X6_laysFamilies_6 rfl k_X6_laysFamilies_4 rfl dX6_laysFamilies_75 rfl ?_
        refine v_iload (pc' := 80) C 4 dX6_laysFamilies_78 rfl rfl ?_
        refine v_dup2 (pc' := 81) C dX6_laysFamilies_80 rfl rfl rfl ?_
        refine v_iald (pc' := 82) C h 6 rfl dX6_laysFamilies_81 rfl (fun e_40 h => ?_)
        refine v_iconst (pc' := 83) C (1) dX6_laysFamilies_82 ic_1 rfl ?_
        refine v_iload_n (pc' := 84) C 2 dX6_laysFamilies_83 rfl rfl ?_
        refine v_ishl (pc' := 85) C dX6_laysFamilies_84 rfl ?_
        refine v_ior (pc' := 86) C dX6_laysFamilies_85 rfl ?_
        refine v_iast (pc' := 87) C h 6 (fun z9 => wM g aM z9) rfl rfl dX6_laysFamilies_86 rfl (fun zM_41 h => ?_)
        refine v_iinc (pc' := 90) C 2 [1, 2, 0, 3, 4] (1) dX6_laysFamilies_87 rfl ic_1 (Nat.le_of_ble_eq_true rfl) h (lw := fun v9 => [(0, .ref aM.1), (1, .int p1), (2, .int v9), (3, .int r_32), (4, .int r_33)]) (fun _ => rfl) rfl (fun v2_42 h => ?_)
        refine v_goto C (pc' := 7) dX6_laysFamilies_90 (by decide) ?_
        refine v_lv [0, 1, 2] (lv' := [(0, .ref aM.1), (1, .int p1), (2, .int v2_42)]) rfl ?_
        exact ih7 v2_42 zM_41 h
def f_X6_isAhead_J98 (zM : Md) (p1 : Int32) (p2 : Int32)  : Option (Int32) :=
  getA (M_size zM) 30 p1 fun e_3 =>
  getA (M_size zM) 30 p2 fun e_4 =>
  if e_3 = e_4 then getA (M_places zM) 30 p1 fun e_5 =>
  getA (M_places zM) 30 p2 fun e_6 =>
  if e_5 = e_6 then getA (M_mask zM) 30 p1 fun e_7 =>
  getA (M_mask zM) 30 p2 fun e_8 =>
  if e_7 < e_8 then some (1 : Int32)
  else some (0 : Int32)
  else getA (M_places zM) 30 p1 fun e_9 =>
  getA (M_places zM) 30 p2 fun e_10 =>
  if e_9 < e_10 then some (1 : Int32)
  else some (0 : Int32)
  else getA (M_size zM) 30 p1 fun e_11 =>
  getA (M_size zM) 30 p2 fun e_12 =>
  if e_12 < e_11 then some (1 : Int32)
  else some (0 : Int32)
def f_X6_isAhead_J52 (zM : Md) (p1 : Int32) (p2 : Int32)  : Option (Int32) :=
  getA (M_s zM) 319 (1 : Int32) fun e_2 =>
  if e_2 = (2 : Int32) then getA (M_fresh zM) 30 p1 fun e_13 =>
  getA (M_fresh zM) 30 p2 fun e_14 =>
  if e_13 = e_14 then f_X6_isAhead_J98 zM p1 p2 
  else getA (M_fresh zM) 30 p1 fun e_15 =>
  getA (M_fresh zM) 30 p2 fun e_16 =>
  if e_16 < e_15 then some (1 : Int32)
  else some (0 : Int32)
  else f_X6_isAhead_J98 zM p1 p2 
def f_X6_isAhead_J28 (zM : Md) (p1 : Int32) (p2 : Int32)  : Option (Int32) :=
  getA (M_mask zM) 30 p1 fun e_18 =>
  if e_18 = 0 then getA (M_mask zM) 30 p2 fun e_19 =>
  if e_19 = 0 then some (0 : Int32)
  else some (1 : Int32)
  else some (0 : Int32)
def f_X6_isAhead (zM : Md) (p1 : Int32) (p2 : Int32) : Option (Int32) :=
  getA (M_s zM) 319 (1 : Int32) fun e_1 =>
  if e_1 = (1 : Int32) then getA (M_mask zM) 30 p1 fun e_17 =>
  if e_17 = 0 then f_X6_isAhead_J28 zM p1 p2 
  else getA (M_mask zM) 30 p2 fun e_20 =>
  if e_20 = 0 then f_X6_isAhead_J28 zM p1 p2 
  else f_X6_isAhead_J52 zM p1 p2 
  else f_X6_isAhead_J52 zM p1 p2 
abbrev rm_X6_isAhead : Room := { frames := 0, cells := 0, slots := 0, locals := 0 }
theorem in_X6_isAhead_6 : ∀ w ∈ wsX60, w ∈ wsX6_isAhead := fun _ h => List.mem_cons_of_mem _ (List.mem_append_right _ h)
theorem k_X6_isAhead_1 : Cond.fieldLink RX6 7 "DodgingHangmanModel" "s" "[I" ∈ wsX6_isAhead := List.mem_of_getElem? (i := 1) rfl
theorem k_X6_isAhead_4 : Cond.fieldLink RX6 28 "DodgingHangmanModel" "size" "[I" ∈ wsX6_isAhead := List.mem_of_getElem? (i := 4) rfl
theorem k_X6_isAhead_5 : Cond.fieldLink RX6 31 "DodgingHangmanModel" "places" "[I" ∈ wsX6_isAhead := List.mem_of_getElem? (i := 5) rfl
theorem k_X6_isAhead_2 : Cond.fieldLink RX6 22 "DodgingHangmanModel" "mask" "[I" ∈ wsX6_isAhead := List.mem_of_getElem? (i := 2) rfl
theorem k_X6_isAhead_3 : Cond.fieldLink RX6 34 "DodgingHangmanModel" "fresh" "[I" ∈ wsX6_isAhead := List.mem_of_getElem? (i := 3) rfl
theorem nd_X6_isAhead : yX6_isAhead.cls ≠ "java/lang/invoke/MethodHandle" ∧ yX6_isAhead.cls ≠ "java/lang/invoke/VarHandle" ∧ (parseMethodDescriptor yX6_isAhead.desc).map (fun d => d.parameters.length) = some 2 := by decide +kernel
set_option maxHeartbeats 4000000 in
set_option maxRecDepth 100000 in
theorem c_X6_isAhead (l : Launch) (g : Gv) (aM : A10) (zM : Md) (p1 : Int32) (p2 : Int32) (o : Int32) (h : f_X6_isAhead zM p1 p2 = some o) : Ct l g yX6_isAhead wsX6_isAhead rm_X6_isAhead [.ref aM.1, .int p1, .int p2] (wM g aM zM) (Qi g o (fun _ : Unit => wM g aM zM) (fun _ => True)) := by
  refine enter (ret := (some .boolean)) (X := wM g aM zM) (pl := []) pn_X6 rfl (Nat.le_of_ble_eq_true rfl) ((List.append_nil _).symm) ?_
  intro p e s m args below meth c A Q C Cr hin hQ
  unfold f_X6_isAhead at h
  have J98 : f_X6_isAhead_J98 zM p1 p2 = some o → V p l e rm_X6_isAhead s m args below meth c g 3 A 0 0 Q (wM g aM zM) [] [(0, .ref aM.1), (1, .int p1), (2, .int p2)] 98 [] := by
    intro  h
    unfold f_X6_isAhead_J98 at h
    refine v_aload_n (pc' := 99) C 0 dX6_isAhead_98 rfl rfl ?_
    refine g_M_size (pc' := 102) C 0 in_X6_isAhead_6 rfl k_X6_isAhead_4 rfl dX6_isAhead_99 rfl ?_
    refine v_iload_n (pc' := 103) C 1 dX6_isAhead_102 rfl rfl ?_
    refine v_iald (pc' := 104) C h 7 rfl dX6_isAhead_103 rfl (fun e_3 h => ?_)
    refine v_aload_n (pc' := 105) C 0 dX6_isAhead_104 rfl rfl ?_
    refine g_M_size (pc' := 108) C 0 in_X6_isAhead_6 rfl k_X6_isAhead_4 rfl dX6_isAhead_105 rfl ?_
    refine v_iload_n (pc' := 109) C 2 dX6_isAhead_108 rfl rfl ?_
    refine v_iald (pc' := 110) C h 7 rfl dX6_isAhead_109 rfl (fun e_4 h => ?_)
    refine v_icmp_eq C 134 113 h dX6_isAhead_110 (by decide) rfl (fun _ h => ?_) (fun _ h => ?_)
    · refine v_aload_n (pc' := 135) C 0 dX6_isAhead_134 rfl rfl ?_
      refine g_M_places (pc' := 138) C 0 in_X6_isAhead_6 rfl k_X6_isAhead_5 rfl dX6_isAhead_135 rfl ?_
      refine v_iload_n (pc' := 139) C 1 dX6_isAhead_138 rfl rfl ?_
      refine v_iald (pc' := 140) C h 8 rfl dX6_isAhead_139 rfl (fun e_5 h => ?_)
      refine v_aload_n (pc' := 141) C 0 dX6_isAhead_140 rfl rfl ?_
      refine g_M_places (pc' := 144) C 0 in_X6_isAhead_6 rfl k_X6_isAhead_5 rfl dX6_isAhead_141 rfl ?_
      refine v_iload_n (pc' := 145) C 2 dX6_isAhead_144 rfl rfl ?_
      refine v_iald (pc' := 146) C h 8 rfl dX6_isAhead_145 rfl (fun e_6 h => ?_)
      refine v_icmp_eq C 172 149 h dX6_isAhead_146 (by decide) rfl (fun _ h => ?_) (fun _ h => ?_)
      · refine v_aload_n (pc' := 173) C 0 dX6_isAhead_172 rfl rfl ?_
        refine g_M_mask (pc' := 176) C 0 in_X6_isAhead_6 rfl k_X6_isAhead_2 rfl dX6_isAhead_173 rfl ?_
        refine v_iload_n (pc' := 177) C 1 dX6_isAhead_176 rfl rfl ?_
        refine v_iald (pc' := 178) C h 5 rfl dX6_isAhead_177 rfl (fun e_7 h => ?_)
        refine v_aload_n (pc' := 179) C 0 dX6_isAhead_178 rfl rfl ?_
        refine g_M_mask (pc' := 182) C 0 in_X6_isAhead_6 rfl k_X6_isAhead_2 rfl dX6_isAhead_179 rfl ?_
        refine v_iload_n (pc' := 183) C 2 dX6_isAhead_182 rfl rfl ?_
        refine v_iald (pc' := 184) C h 5 rfl dX6_isAhead_183 rfl (fun e_8 h => ?_)
        refine v_icmp_ge C 191 187 h dX6_isAhead_184 (by decide) rfl (fun _ h => ?_) (fun _ h => ?_)
        · refine v_iconst (pc' := 192) C (0) dX6_isAhead_191 ic_0 rfl ?_
          exact v_zret (rf := fun (o9 : Int32) => o9) (Wf := fun (o9 : Int32) (u9 : Unit) => wM g aM zM) (ok := fun (o9 : Int32) (u9 : Unit) => True) C Cr h hQ () trivial rfl rfl (Or.inl rfl) dX6_isAhead_192
        · refine v_iconst (pc' := 188) C (1) dX6_isAhead_187 ic_1 rfl ?_
          refine v_goto C (pc' := 192) dX6_isAhead_188 (by decide) ?_
          exact v_zret (rf := fun (o9 : Int32) => o9) (Wf := fun (o9 : Int32) (u9 : Unit) => wM g aM zM) (ok := fun (o9 : Int32) (u9 : Unit) => True) C Cr h hQ () trivial rfl rfl (Or.inr rfl) dX6_isAhead_192
      · refine v_aload_n (pc' := 150) C 0 dX6_isAhead_149 rfl rfl ?_
        refine g_M_places (pc' := 153) C 0 in_X6_isAhead_6 rfl k_X6_isAhead_5 rfl dX6_isAhead_150 rfl ?_
        refine v_iload_n (pc' := 154) C 1 dX6_isAhead_153 rfl rfl ?_
        refine v_iald (pc' := 155) C h 8 rfl dX6_isAhead_154 rfl (fun e_9 h => ?_)
        refine v_aload_n (pc' := 156) C 0 dX6_isAhead_155 rfl rfl ?_
        refine g_M_places (pc' := 159) C 0 in_X6_isAhead_6 rfl k_X6_isAhead_5 rfl dX6_isAhead_156 rfl ?_
        refine v_iload_n (pc' := 160) C 2 dX6_isAhead_159 rfl rfl ?_
        refine v_iald (pc' := 161) C h 8 rfl dX6_isAhead_160 rfl (fun e_10 h => ?_)
        refine v_icmp_ge C 168 164 h dX6_isAhead_161 (by decide) rfl (fun _ h => ?_) (fun _ h => ?_)
        · refine v_iconst (pc' := 169) C (0) dX6_isAhead_168 ic_0 rfl ?_
          refine v_goto C (pc' := 192) dX6_isAhead_169 (by decide) ?_
          exact v_zret (rf := fun (o9 : Int32) => o9) (Wf := fun (o9 : Int32) (u9 : Unit) => wM g aM zM) (ok := fun (o9 : Int32) (u9 : Unit) => True) C Cr h hQ () trivial rfl rfl (Or.inl rfl) dX6_isAhead_192
        · refine v_iconst (pc' := 165) C (1) dX6_isAhead_164 ic_1 rfl ?_
          refine v_goto C (pc' := 192) dX6_isAhead_165 (by decide) ?_
          exact v_zret (rf := fun (o9 : Int32) => o9) (Wf := fun (o9 : Int32) (u9 : Unit) => wM g aM zM) (ok := fun (o9 : Int32) (u9 : Unit) => True) C Cr h hQ () trivial rfl rfl (Or.inr rfl) dX6_isAhead_192
    · refine v_aload_n (pc' := 114) C 0 dX6_isAhead_113 rfl rfl ?_
      refine g_M_size (pc' := 117) C 0 in_X6_isAhead_6 rfl k_X6_isAhead_4 rfl dX6_isAhead_114 rfl ?_
      refine v_iload_n (pc' := 118) C 1 dX6_isAhead_117 rfl rfl ?_
      refine v_iald (pc' := 119) C h 7 rfl dX6_isAhead_118 rfl (fun e_11 h => ?_)
      refine v_aload_n (pc' := 120) C 0 dX6_isAhead_119 rfl rfl ?_
      refine g_M_size (pc' := 123) C 0 in_X6_isAhead_6 rfl k_X6_isAhead_4 rfl dX6_isAhead_120 rfl ?_
      refine v_iload_n (pc' := 124) C 2 dX6_isAhead_123 rfl rfl ?_
      refine v_iald (pc' := 125) C h 7 rfl dX6_isAhead_124 rfl (fun e_12 h => ?_)
      refine v_icmp_le C 132 128 h dX6_isAhead_125 (by decide) rfl (fun _ h => ?_) (fun _ h => ?_)
      · refine v_iconst (pc' := 133) C (0) dX6_isAhead_132 ic_0 rfl ?_
        exact v_zret (rf := fun (o9 : Int32) => o9) (Wf := fun (o9 : Int32) (u9 : Unit) => wM g aM zM) (ok := fun (o9 : Int32) (u9 : Unit) => True) C Cr h hQ () trivial rfl rfl (Or.inl rfl) dX6_isAhead_133
      · refine v_iconst (pc' := 129) C (1) dX6_isAhead_128 ic_1 rfl ?_
        refine v_goto C (pc' := 133) dX6_isAhead_129 (by decide) ?_
        exact v_zret (rf := fun (o9 : Int32) => o9) (Wf := fun (o9 : Int32) (u9 : Unit) => wM g aM zM) (ok := fun (o9 : Int32) (u9 : Unit) => True) C Cr h hQ () trivial rfl rfl (Or.inr rfl) dX6_isAhead_133
  have J52 : f_X6_isAhead_J52 zM p1 p2 = some o → V p l e rm_X6_isAhead s m args below meth c g 3 A 0 0 Q (wM g aM zM) [] [(0, .ref aM.1), (1, .int p1), (2, .int p2)] 52 [] := by
    intro  h
    unfold f_X6_isAhead_J52 at h
    refine v_aload_n (pc' := 53) C 0 dX6_isAhead_52 rfl rfl ?_
    refine g_M_s (pc' := 56) C 0 in_X6_isAhead_6 rfl k_X6_isAhead_1 rfl dX6_isAhead_53 rfl ?_
    refine v_iconst (pc' := 57) C (1) dX6_isAhead_56 ic_1 rfl ?_
    refine v_iald (pc' := 58) C h 1 rfl dX6_isAhead_57 rfl (fun e_2 h => ?_)
    refine v_iconst (pc' := 59) C (2) dX6_isAhead_58 ic_2 rfl ?_
    refine v_icmp_ne C 98 62 h dX6_isAhead_59 (by decide) rfl (fun _ h => ?_) (fun _ h => ?_)
    · exact J98  h
    · refine v_aload_n (pc' := 63) C 0 dX6_isAhead_62 rfl rfl ?_
      refine g_M_fresh (pc' := 66) C 0 in_X6_isAhead_6 rfl k_X6_isAhead_3 rfl dX6_isAhead_63 rfl ?_
      refine v_iload_n (pc' := 67) C 1 dX6_isAhead_66 rfl rfl ?_
      refine v_iald (pc' := 68) C h 9 rfl dX6_isAhead_67 rfl (fun e_13 h => ?_)
      refine v_aload_n (pc' := 69) C 0 dX6_isAhead_68 rfl rfl ?_
      refine g_M_fresh (pc' := 72) C 0 in_X6_isAhead_6 rfl k_X6_isAhead_3 rfl dX6_isAhead_69 rfl ?_
      refine v_iload_n (pc' := 73) C 2 dX6_isAhead_72 rfl rfl ?_
      refine v_iald (pc' := 74) C h 9 rfl dX6_isAhead_73 rfl (fun e_14 h => ?_)
      refine v_icmp_eq C 98 77 h dX6_isAhead_74 (by decide) rfl (fun _ h => ?_) (fun _ h => ?_)
      · exact J98  h
      · refine v_aload_n (pc' := 78) C 0 dX6_isAhead_77 rfl rfl ?_
        refine g_M_fresh (pc' := 81) C 0 in_X6_isAhead_6 rfl k_X6_isAhead_3 rfl dX6_isAhead_78 rfl ?_
        refine v_iload_n (pc' := 82) C 1 dX6_isAhead_81 rfl rfl ?_
        refine v_iald (pc' := 83) C h 9 rfl dX6_isAhead_82 rfl (fun e_15 h => ?_)
        refine v_aload_n (pc' := 84) C 0 dX6_isAhead_83 rfl rfl ?_
        refine g_M_fresh (pc' := 87) C 0 in_X6_isAhead_6 rfl k_X6_isAhead_3 rfl dX6_isAhead_84 rfl ?_
        refine v_iload_n (pc' := 88) C 2 dX6_isAhead_87 rfl rfl ?_
        refine v_iald (pc' := 89) C h 9 rfl dX6_isAhead_88 rfl (fun e_16 h => ?_)
        refine v_icmp_le C 96 92 h dX6_isAhead_89 (by decide) rfl (fun _ h => ?_) (fun _ h => ?_)
        · refine v_iconst (pc' := 97) C (0) dX6_isAhead_96 ic_0 rfl ?_
          exact v_zret (rf := fun (o9 : Int32) => o9) (Wf := fun (o9 : Int32) (u9 : Unit) => wM g aM zM) (ok := fun (o9 : Int32) (u9 : Unit) => True) C Cr h hQ () trivial rfl rfl (Or.inl rfl) dX6_isAhead_97
        · refine v_iconst (pc' := 93) C (1) dX6_isAhead_92 ic_1 rfl ?_
          refine v_goto C (pc' := 97) dX6_isAhead_93 (by decide) ?_
          exact v_zret (rf := fun (o9 : Int32) => o9) (Wf := fun (o9 : Int32) (u9 : Unit) => wM g aM zM) (ok := fun (o9 : Int32) (u9 : Unit) => True) C Cr h hQ () trivial rfl rfl (Or.inr rfl) dX6_isAhead_97
  have J28 : f_X6_isAhead_J28 zM p1 p2 = some o → V p l e rm_X6_isAhead s m args below meth c g 3 A 0 0 Q (wM g aM zM) [] [(0, .ref aM.1), (1, .int p1), (2, .int p2)] 28 [] := by
    intro  h
    unfold f_X6_isAhead_J28 at h
    refine v_aload_n (pc' := 29) C 0 dX6_isAhead_28 rfl rfl ?_
    refine g_M_mask (pc' := 32) C 0 in_X6_isAhead_6 rfl k_X6_isAhead_2 rfl dX6_isAhead_29 rfl ?_
    refine v_iload_n (pc' := 33) C 1 dX6_isAhead_32 rfl rfl ?_
    refine v_iald (pc' := 34) C h 5 rfl dX6_isAhead_33 rfl (fun e_18 h => ?_)
    refine v_if_ne C 50 37 h dX6_isAhead_34 (by decide) rfl (fun _ h => ?_) (fun _ h => ?_)
    · refine v_iconst (pc' := 51) C (0) dX6_isAhead_50 ic_0 rfl ?_
      exact v_zret (rf := fun (o9 : Int32) => o9) (Wf := fun (o9 : Int32) (u9 : Unit) => wM g aM zM) (ok := fun (o9 : Int32) (u9 : Unit) => True) C Cr h hQ () trivial rfl rfl (Or.inl rfl) dX6_isAhead_51
    · refine v_aload_n (pc' := 38) C 0 dX6_isAhead_37 rfl rfl ?_
      refine g_M_mask (pc' := 41) C 0 in_X6_isAhead_6 rfl k_X6_isAhead_2 rfl dX6_isAhead_38 rfl ?_
      refine v_iload_n (pc' := 42) C 2 dX6_isAhead_41 rfl rfl ?_
      refine v_iald (pc' := 43) C h 5 rfl dX6_isAhead_42 rfl (fun e_19 h => ?_)
      refine v_if_eq C 50 46 h dX6_isAhead_43 (by decide) rfl (fun _ h => ?_) (fun _ h => ?_)
      · refine v_iconst (pc' := 51) C (0) dX6_isAhead_50 ic_0 rfl ?_
        exact v_zret (rf := fun (o9 : Int32) => o9) (Wf := fun (o9 : Int32) (u9 : Unit) => wM g aM zM) (ok := fun (o9 : Int32) (u9 : Unit) => True) C Cr h hQ () trivial rfl rfl (Or.inl rfl) dX6_isAhead_51
      · refine v_iconst (pc' := 47) C (1) dX6_isAhead_46 ic_1 rfl ?_
        refine v_goto C (pc' := 51) dX6_isAhead_47 (by decide) ?_
        exact v_zret (rf := fun (o9 : Int32) => o9) (Wf := fun (o9 : Int32) (u9 : Unit) => wM g aM zM) (ok := fun (o9 : Int32) (u9 : Unit) => True) C Cr h hQ () trivial rfl rfl (Or.inr rfl) dX6_isAhead_51
  refine v_aload_n (pc' := 1) C 0 dX6_isAhead_0 rfl rfl ?_
  refine g_M_s (pc' := 4) C 0 in_X6_isAhead_6 rfl k_X6_isAhead_1 rfl dX6_isAhead_1 rfl ?_
  refine v_iconst (pc' := 5) C (1) dX6_isAhead_4 ic_1 rfl ?_
  refine v_iald (pc' := 6) C h 1 rfl dX6_isAhead_5 rfl (fun e_1 h => ?_)
  refine v_iconst (pc' := 7) C (1) dX6_isAhead_6 ic_1 rfl ?_
  refine v_icmp_ne C 52 10 h dX6_isAhead_7 (by decide) rfl (fun _ h => ?_) (fun _ h => ?_)
  · exact J52  h
  · refine v_aload_n (pc' := 11) C 0 dX6_isAhead_10 rfl rfl ?_
    refine g_M_mask (pc' := 14) C 0 in_X6_isAhead_6 rfl k_X6_isAhead_2 rfl dX6_isAhead_11 rfl ?_
    refine v_iload_n (pc' := 15) C 1 dX6_isAhead_14 rfl rfl ?_
    refine v_iald (pc' := 16) C h 5 rfl dX6_isAhead_15 rfl (fun e_17 h => ?_)
    refine v_if_eq C 28 19 h dX6_isAhead_16 (by decide) rfl (fun _ h => ?_) (fun _ h => ?_)
    · exact J28  h
    · refine v_aload_n (pc' := 20) C 0 dX6_isAhead_19 rfl rfl ?_
      refine g_M_mask (pc' := 23) C 0 in_X6_isAhead_6 rfl k_X6_isAhead_2 rfl dX6_isAhead_20 rfl ?_
      refine v_iload_n (pc' := 24) C 2 dX6_isAhead_23 rfl rfl ?_
      refine v_iald (pc' := 25) C h 5 rfl dX6_isAhead_24 rfl (fun e_20 h => ?_)
      refine v_if_ne C 52 28 h dX6_isAhead_25 (by decide) rfl (fun _ h => ?_) (fun _ h => ?_)
      · exact J52  h
      · exact J28  h
def f_X6_ranked_L15 (zM : Md) (v2_1 : Int32) (p1 : Int32) (re2 : Int32 → Option (Int32)) (re15 : Int32 → Int32 → Option (Int32)) (v3_2 : Int32) (v4_3 : Int32) : Option (Int32) :=
  if v4_3 < (M_many zM) then Option.bind (f_X6_isAhead zM v4_3 v2_1) fun r_5 =>
  if r_5 = 0 then lett (v3_2 + (0 : Int32)) fun v3_6 =>
  lett (v4_3 + (1 : Int32)) fun v4_7 =>
  re15 v3_6 v4_7
  else lett (v3_2 + (1 : Int32)) fun v3_8 =>
  lett (v4_3 + (1 : Int32)) fun v4_9 =>
  re15 v3_8 v4_9
  else if v3_2 = p1 then some v2_1
  else lett (v2_1 + (1 : Int32)) fun v2_4 =>
  re2 v2_4
def f_X6_ranked_L2 (zM : Md) (p1 : Int32) (re2 : Int32 → Option (Int32)) (v2_1 : Int32) : Option (Int32) :=
  if v2_1 < (M_many zM) then loop2 (f_X6_ranked_L15 zM v2_1 p1 re2) FU (0 : Int32) (0 : Int32)
  else some (M_many zM)
def f_X6_ranked (zM : Md) (p1 : Int32) : Option (Int32) :=
  loop1 (f_X6_ranked_L2 zM p1) FU (0 : Int32)
abbrev rm_X6_ranked : Room := { frames := 1, cells := 0, slots := 0, locals := 22 }
theorem in_X6_ranked_6 : ∀ w ∈ wsX60, w ∈ wsX6_ranked := fun _ h => List.mem_cons_of_mem _ (List.mem_append_right _ h)
theorem k_X6_ranked_1 : Cond.fieldLink RX6 37 "DodgingHangmanModel" "many" "I" ∈ wsX6_ranked := List.mem_of_getElem? (i := 1) rfl
theorem nd_X6_ranked : yX6_ranked.cls ≠ "java/lang/invoke/MethodHandle" ∧ yX6_ranked.cls ≠ "java/lang/invoke/VarHandle" ∧ (parseMethodDescriptor yX6_ranked.desc).map (fun d => d.parameters.length) = some 1 := by decide +kernel
set_option maxHeartbeats 4000000 in
set_option maxRecDepth 100000 in
theorem c_X6_ranked (l : Launch) (g : Gv) (aM : A10) (zM : Md) (p1 : Int32) (o : Int32) (h : f_X6_ranked zM p1 = some o) : Ct l g yX6_ranked wsX6_ranked rm_X6_ranked [.ref aM.1, .int p1] (wM g aM zM) (Qi g o (fun _ : Unit => wM g aM zM) (fun _ => True)) := by
  refine enter (ret := (some .int)) (X := wM g aM zM) (pl := []) pn_X6 rfl (Nat.le_of_ble_eq_true rfl) ((List.append_nil _).symm) ?_
  intro p e s m args below meth c A Q C Cr hin hQ
  unfold f_X6_ranked at h
  refine v_iconst (pc' := 1) C (0) dX6_ranked_0 ic_0 rfl ?_
  refine v_istore_n (pc' := 2) C [1, 2, 0] (lv' := [(0, .ref aM.1), (1, .int p1), (2, .int (0 : Int32))]) dX6_ranked_1 (Nat.le_of_ble_eq_true rfl) rfl rfl ?_
  refine v_loop1 (fun (v2_1 : Int32) => V p l e rm_X6_ranked s m args below meth c g 5 A 0 0 Q (wM g aM zM) [] [(0, .ref aM.1), (1, .int p1), (2, .int v2_1)] 2 []) (fun re2 ih2 v2_1 h => ?_) (0 : Int32) h
  unfold f_X6_ranked_L2 at h
  refine v_iload_n (pc' := 3) C 2 dX6_ranked_2 rfl rfl ?_
  refine v_aload_n (pc' := 4) C 0 dX6_ranked_3 rfl rfl ?_
  refine g_M_many (pc' := 7) C 0 in_X6_ranked_6 rfl k_X6_ranked_1 rfl dX6_ranked_4 rfl ?_
  refine v_icmp_ge C 61 10 h dX6_ranked_7 (by decide) rfl (fun _ h => ?_) (fun _ h => ?_)
  · refine v_aload_n (pc' := 62) C 0 dX6_ranked_61 rfl rfl ?_
    refine g_M_many (pc' := 65) C 0 in_X6_ranked_6 rfl k_X6_ranked_1 rfl dX6_ranked_62 rfl ?_
    exact v_iret (rf := fun (o9 : Int32) => o9) (Wf := fun (o9 : Int32) (u9 : Unit) => wM g aM zM) (ok := fun (o9 : Int32) (u9 : Unit) => True) C Cr h hQ () trivial rfl rfl dX6_ranked_65
  · refine v_iconst (pc' := 11) C (0) dX6_ranked_10 ic_0 rfl ?_
    refine v_istore_n (pc' := 12) C [1, 2, 3, 0] (lv' := [(0, .ref aM.1), (1, .int p1), (2, .int v2_1), (3, .int (0 : Int32))]) dX6_ranked_11 (Nat.le_of_ble_eq_true rfl) rfl rfl ?_
    refine v_iconst (pc' := 13) C (0) dX6_ranked_12 ic_0 rfl ?_
    refine v_istore (pc' := 15) C [1, 2, 3, 4, 0] (lv' := [(0, .ref aM.1), (1, .int p1), (2, .int v2_1), (3, .int (0 : Int32)), (4, .int (0 : Int32))]) dX6_ranked_13 (Nat.le_of_ble_eq_true rfl) rfl rfl ?_
    refine v_loop2 (fun (v3_2 : Int32) (v4_3 : Int32) => V p l e rm_X6_ranked s m args below meth c g 5 A 0 0 Q (wM g aM zM) [] [(0, .ref aM.1), (1, .int p1), (2, .int v2_1), (3, .int v3_2), (4, .int v4_3)] 15 []) (fun re15 ih15 v3_2 v4_3 h => ?_) (0 : Int32) (0 : Int32) h
    unfold f_X6_ranked_L15 at h
    refine v_iload (pc' := 17) C 4 dX6_ranked_15 rfl rfl ?_
    refine v_aload_n (pc' := 18) C 0 dX6_ranked_17 rfl rfl ?_
    refine g_M_many (pc' := 21) C 0 in_X6_ranked_6 rfl k_X6_ranked_1 rfl dX6_ranked_18 rfl ?_
    refine v_icmp_ge C 48 24 h dX6_ranked_21 (by decide) rfl (fun _ h => ?_) (fun _ h => ?_)
    · refine v_iload_n (pc' := 49) C 3 dX6_ranked_48 rfl rfl ?_
      refine v_iload_n (pc' := 50) C 1 dX6_ranked_49 rfl rfl ?_
      refine v_icmp_ne C 55 53 h dX6_ranked_50 (by decide) rfl (fun _ h => ?_) (fun _ h => ?_)
      · refine v_iinc (pc' := 58) C 2 [1, 2, 0, 3, 4] (1) dX6_ranked_55 rfl ic_1 (Nat.le_of_ble_eq_true rfl) h (lw := fun v9 => [(0, .ref aM.1), (1, .int p1), (2, .int v9), (3, .int v3_2), (4, .int v4_3)]) (fun _ => rfl) rfl (fun v2_4 h => ?_)
        refine v_goto C (pc' := 2) dX6_ranked_58 (by decide) ?_
        refine v_lv [0, 1, 2] (lv' := [(0, .ref aM.1), (1, .int p1), (2, .int v2_4)]) rfl ?_
        exact ih2 v2_4 h
      · refine v_iload_n (pc' := 54) C 2 dX6_ranked_53 rfl rfl ?_
        exact v_iret (rf := fun (o9 : Int32) => o9) (Wf := fun (o9 : Int32) (u9 : Unit) => wM g aM zM) (ok := fun (o9 : Int32) (u9 : Unit) => True) C Cr h hQ () trivial rfl rfl dX6_ranked_54
    · refine v_iload_n (pc' := 25) C 3 dX6_ranked_24 rfl rfl ?_
      refine v_aload_n (pc' := 26) C 0 dX6_ranked_25 rfl rfl ?_
      refine v_iload (pc' := 28) C 4 dX6_ranked_26 rfl rfl ?_
      refine v_iload_n (pc' := 29) C 2 dX6_ranked_28 rfl rfl ?_
      refine v_calli (pc' := 32) C h (rf := fun r9 => r9) ([]) (fun r9 (u9 : Unit) => wM g aM zM) (fun r hr => run_V C (c_X6_isAhead l g aM _ _ _ r hr) gX6_ranked_X6_isAhead rfl nd_X6_isAhead rfl rfl rfl rfl ⟨Nat.le_of_ble_eq_true rfl, Nat.le_of_ble_eq_true rfl⟩ ⟨Nat.le_of_ble_eq_true rfl, Nat.le_of_ble_eq_true rfl⟩ (Nat.le_of_ble_eq_true rfl) dX6_ranked_29 rfl) [0, 1, 2, 3, 4, 5, 6, 7, 8, 9] [] [0, 1, 2, 3, 4, 5, 6, 7, 8, 9] rfl rfl rfl rfl (by decide) rfl (fun _ _ => rfl) (k' := 0) (n' := 0) rfl rfl rfl (fun r_5 _ _ h => ?_)
      refine v_if_eq C 39 35 h dX6_ranked_32 (by decide) rfl (fun _ h => ?_) (fun _ h => ?_)
      · refine v_iconst (pc' := 40) C (0) dX6_ranked_39 ic_0 rfl ?_
        refine v_iadd (pc' := 41) C dX6_ranked_40 rfl ?_
        refine v_leti h (fun v3_6 h => ?_)
        refine v_istore_n (pc' := 42) C [1, 2, 3, 0, 4] (lv' := [(0, .ref aM.1), (1, .int p1), (2, .int v2_1), (3, .int v3_6), (4, .int v4_3)]) dX6_ranked_41 (Nat.le_of_ble_eq_true rfl) rfl rfl ?_
        refine v_iinc (pc' := 45) C 4 [1, 2, 3, 4, 0] (1) dX6_ranked_42 rfl ic_1 (Nat.le_of_ble_eq_true rfl) h (lw := fun v9 => [(0, .ref aM.1), (1, .int p1), (2, .int v2_1), (3, .int v3_6), (4, .int v9)]) (fun _ => rfl) rfl (fun v4_7 h => ?_)
        refine v_goto C (pc' := 15) dX6_ranked_45 (by decide) ?_
        exact ih15 v3_6 v4_7 h
      · refine v_iconst (pc' := 36) C (1) dX6_ranked_35 ic_1 rfl ?_
        refine v_goto C (pc' := 40) dX6_ranked_36 (by decide) ?_
        refine v_iadd (pc' := 41) C dX6_ranked_40 rfl ?_
        refine v_leti h (fun v3_8 h => ?_)
        refine v_istore_n (pc' := 42) C [1, 2, 3, 0, 4] (lv' := [(0, .ref aM.1), (1, .int p1), (2, .int v2_1), (3, .int v3_8), (4, .int v4_3)]) dX6_ranked_41 (Nat.le_of_ble_eq_true rfl) rfl rfl ?_
        refine v_iinc (pc' := 45) C 4 [1, 2, 3, 4, 0] (1) dX6_ranked_42 rfl ic_1 (Nat.le_of_ble_eq_true rfl) h (lw := fun v9 => [(0, .ref aM.1), (1, .int p1), (2, .int v2_1), (3, .int v3_8), (4, .int v9)]) (fun _ => rfl) rfl (fun v4_9 h => ?_)
        refine v_goto C (pc' := 15) dX6_ranked_45 (by decide) ?_
        exact ih15 v3_8 v4_9 h
def f_X6_setPolicy (zM : Md) (p1 : Int32) : Option (Int32 × Md) :=
  Option.bind (f_X6_in p1 (0 : Int32) (2 : Int32)) fun r_1 =>
  if r_1 = 0 then some ((-2 : Int32), zM)
  else Option.bind (f_X6_saves zM) fun r_2 =>
  getA (M_s r_2) 319 (1 : Int32) fun e_3 =>
  chkA 319 (1 : Int32) (lett (M_s_set r_2 (upd (M_s r_2) ((1 : Int32)).toNatClampNeg p1)) fun zM_4 =>
  some (e_3, zM_4))
abbrev rm_X6_setPolicy : Room := { frames := 1, cells := 0, slots := 0, locals := 22 }
theorem in_X6_setPolicy_6 : ∀ w ∈ wsX60, w ∈ wsX6_setPolicy := fun _ h => List.mem_cons_of_mem _ (List.mem_append_right _ h)
theorem k_X6_setPolicy_1 : Cond.fieldLink RX6 7 "DodgingHangmanModel" "s" "[I" ∈ wsX6_setPolicy := List.mem_of_getElem? (i := 1) rfl
theorem nd_X6_setPolicy : yX6_setPolicy.cls ≠ "java/lang/invoke/MethodHandle" ∧ yX6_setPolicy.cls ≠ "java/lang/invoke/VarHandle" ∧ (parseMethodDescriptor yX6_setPolicy.desc).map (fun d => d.parameters.length) = some 1 := by decide +kernel
set_option maxHeartbeats 4000000 in
set_option maxRecDepth 100000 in
theorem c_X6_setPolicy (l : Launch) (g : Gv) (aM : A10) (zM : Md) (p1 : Int32) (o : Int32 × Md) (h : f_X6_setPolicy zM p1 = some o) : Ct l g yX6_setPolicy wsX6_setPolicy rm_X6_setPolicy [.ref aM.1, .int p1] (wM g aM zM) (Qi g o.1 (fun _ : Unit => wM g aM o.2) (fun _ => True)) := by
  refine enter (ret := (some .int)) (X := wM g aM zM) (pl := []) pn_X6 rfl (Nat.le_of_ble_eq_true rfl) ((List.append_nil _).symm) ?_
  intro p e s m args below meth c A Q C Cr hin hQ
  unfold f_X6_setPolicy at h
  refine v_iload_n (pc' := 1) C 1 dX6_setPolicy_0 rfl rfl ?_
  refine v_iconst (pc' := 2) C (0) dX6_setPolicy_1 ic_0 rfl ?_
  refine v_iconst (pc' := 3) C (2) dX6_setPolicy_2 ic_2 rfl ?_
  refine v_purei (pc' := 6) C h (rf := fun r9 => r9) (fun r hr => run_S C (c_X6_in l g _ _ _ r hr) gX6_setPolicy_X6_in rfl nd_X6_in ⟨Nat.le_of_ble_eq_true rfl, Nat.le_of_ble_eq_true rfl⟩ ⟨Nat.le_of_ble_eq_true rfl, Nat.le_of_ble_eq_true rfl⟩ (Nat.le_of_ble_eq_true rfl) dX6_setPolicy_3 rfl) rfl (fun r_1 h => ?_)
  refine v_if_ne C 12 9 h dX6_setPolicy_6 (by decide) rfl (fun _ h => ?_) (fun _ h => ?_)
  · refine v_aload_n (pc' := 13) C 0 dX6_setPolicy_12 rfl rfl ?_
    refine v_callv (pc' := 16) C h ([]) (fun r9 (u9 : Unit) => wM g aM r9) (fun r hr => run_V C (c_X6_saves l g aM _ r hr) gX6_setPolicy_X6_saves rfl nd_X6_saves rfl rfl rfl rfl ⟨Nat.le_of_ble_eq_true rfl, Nat.le_of_ble_eq_true rfl⟩ ⟨Nat.le_of_ble_eq_true rfl, Nat.le_of_ble_eq_true rfl⟩ (Nat.le_of_ble_eq_true rfl) dX6_setPolicy_13 rfl) [0, 1, 2, 3, 4, 5, 6, 7, 8, 9] [] [0, 1, 2, 3, 4, 5, 6, 7, 8, 9] rfl rfl rfl rfl (by decide) rfl (fun _ _ => rfl) (k' := 0) (n' := 0) rfl rfl rfl (fun r_2 _ _ h => ?_)
    refine v_aload_n (pc' := 17) C 0 dX6_setPolicy_16 rfl rfl ?_
    refine g_M_s (pc' := 20) C 0 in_X6_setPolicy_6 rfl k_X6_setPolicy_1 rfl dX6_setPolicy_17 rfl ?_
    refine v_iconst (pc' := 21) C (1) dX6_setPolicy_20 ic_1 rfl ?_
    refine v_iald (pc' := 22) C h 1 rfl dX6_setPolicy_21 rfl (fun e_3 h => ?_)
    refine v_istore_n (pc' := 23) C [1, 2, 0] (lv' := [(0, .ref aM.1), (1, .int p1), (2, .int e_3)]) dX6_setPolicy_22 (Nat.le_of_ble_eq_true rfl) rfl rfl ?_
    refine v_aload_n (pc' := 24) C 0 dX6_setPolicy_23 rfl rfl ?_
    refine g_M_s (pc' := 27) C 0 in_X6_setPolicy_6 rfl k_X6_setPolicy_1 rfl dX6_setPolicy_24 rfl ?_
    refine v_iconst (pc' := 28) C (1) dX6_setPolicy_27 ic_1 rfl ?_
    refine v_iload_n (pc' := 29) C 1 dX6_setPolicy_28 rfl rfl ?_
    refine v_iast (pc' := 30) C h 1 (fun z9 => wM g aM z9) rfl rfl dX6_setPolicy_29 rfl (fun zM_4 h => ?_)
    refine v_iload_n (pc' := 31) C 2 dX6_setPolicy_30 rfl rfl ?_
    exact v_iret (rf := fun (o9 : Int32 × Md) => o9.1) (Wf := fun (o9 : Int32 × Md) (u9 : Unit) => wM g aM o9.2) (ok := fun (o9 : Int32 × Md) (u9 : Unit) => True) C Cr h hQ () trivial rfl rfl dX6_setPolicy_31
  · refine v_bipush (pc' := 11) C (-2) dX6_setPolicy_9 bc_m2 rfl ?_
    exact v_iret (rf := fun (o9 : Int32 × Md) => o9.1) (Wf := fun (o9 : Int32 × Md) (u9 : Unit) => wM g aM o9.2) (ok := fun (o9 : Int32 × Md) (u9 : Unit) => True) C Cr h hQ () trivial rfl rfl dX6_setPolicy_11
def f_X6_ofLength_L4 (zM : Md) (p1 : Int32) (re4 : Int32 → Int32 → Option (Int32)) (v2_1 : Int32) (v3_2 : Int32) : Option (Int32) :=
  getA (M_s zM) 319 (0 : Int32) fun e_3 =>
  if v3_2 < e_3 then getA (M_s zM) 319 ((49 : Int32) + v3_2) fun e_4 =>
  if e_4 = p1 then lett (v2_1 ||| ((1 : Int32) <<< (v3_2 &&& 31))) fun v2_7 =>
  lett (v3_2 + (1 : Int32)) fun v3_8 =>
  re4 v2_7 v3_8
  else lett (v2_1 ||| (0 : Int32)) fun v2_5 =>
  lett (v3_2 + (1 : Int32)) fun v3_6 =>
  re4 v2_5 v3_6
  else some v2_1
def f_X6_ofLength (zM : Md) (p1 : Int32) : Option (Int32) :=
  loop2 (f_X6_ofLength_L4 zM p1) FU (0 : Int32) (0 : Int32)
abbrev rm_X6_ofLength : Room := { frames := 0, cells := 0, slots := 0, locals := 0 }
theorem in_X6_ofLength_6 : ∀ w ∈ wsX60, w ∈ wsX6_ofLength := fun _ h => List.mem_cons_of_mem _ (List.mem_append_right _ h)
theorem k_X6_ofLength_1 : Cond.fieldLink RX6 7 "DodgingHangmanModel" "s" "[I" ∈ wsX6_ofLength := List.mem_of_getElem? (i := 1) rfl
theorem nd_X6_ofLength : yX6_ofLength.cls ≠ "java/lang/invoke/MethodHandle" ∧ yX6_ofLength.cls ≠ "java/lang/invoke/VarHandle" ∧ (parseMethodDescriptor yX6_ofLength.desc).map (fun d => d.parameters.length) = some 1 := by decide +kernel
set_option maxHeartbeats 4000000 in
set_option maxRecDepth 100000 in
theorem c_X6_ofLength (l : Launch) (g : Gv) (aM : A10) (zM : Md) (p1 : Int32) (o : Int32) (h : f_X6_ofLength zM p1 = some o) : Ct l g yX6_ofLength wsX6_ofLength rm_X6_ofLength [.ref aM.1, .int p1] (wM g aM zM) (Qi g o (fun _ : Unit => wM g aM zM) (fun _ => True)) := by
  refine enter (ret := (some .int)) (X := wM g aM zM) (pl := []) pn_X6 rfl (Nat.le_of_ble_eq_true rfl) ((List.append_nil _).symm) ?_
  intro p e s m args below meth c A Q C Cr hin hQ
  unfold f_X6_ofLength at h
  refine v_iconst (pc' := 1) C (0) dX6_ofLength_0 ic_0 rfl ?_
  refine v_istore_n (pc' := 2) C [1, 2, 0] (lv' := [(0, .ref aM.1), (1, .int p1), (2, .int (0 : Int32))]) dX6_ofLength_1 (Nat.le_of_ble_eq_true rfl) rfl rfl ?_
  refine v_iconst (pc' := 3) C (0) dX6_ofLength_2 ic_0 rfl ?_
  refine v_istore_n (pc' := 4) C [1, 2, 3, 0] (lv' := [(0, .ref aM.1), (1, .int p1), (2, .int (0 : Int32)), (3, .int (0 : Int32))]) dX6_ofLength_3 (Nat.le_of_ble_eq_true rfl) rfl rfl ?_
  refine v_loop2 (fun (v2_1 : Int32) (v3_2 : Int32) => V p l e rm_X6_ofLength s m args below meth c g 4 A 0 0 Q (wM g aM zM) [] [(0, .ref aM.1), (1, .int p1), (2, .int v2_1), (3, .int v3_2)] 4 []) (fun re4 ih4 v2_1 v3_2 h => ?_) (0 : Int32) (0 : Int32) h
  unfold f_X6_ofLength_L4 at h
  refine v_iload_n (pc' := 5) C 3 dX6_ofLength_4 rfl rfl ?_
  refine v_aload_n (pc' := 6) C 0 dX6_ofLength_5 rfl rfl ?_
  refine g_M_s (pc' := 9) C 0 in_X6_ofLength_6 rfl k_X6_ofLength_1 rfl dX6_ofLength_6 rfl ?_
  refine v_iconst (pc' := 10) C (0) dX6_ofLength_9 ic_0 rfl ?_
  refine v_iald (pc' := 11) C h 1 rfl dX6_ofLength_10 rfl (fun e_3 h => ?_)
  refine v_icmp_ge C 43 14 h dX6_ofLength_11 (by decide) rfl (fun _ h => ?_) (fun _ h => ?_)
  · refine v_iload_n (pc' := 44) C 2 dX6_ofLength_43 rfl rfl ?_
    exact v_iret (rf := fun (o9 : Int32) => o9) (Wf := fun (o9 : Int32) (u9 : Unit) => wM g aM zM) (ok := fun (o9 : Int32) (u9 : Unit) => True) C Cr h hQ () trivial rfl rfl dX6_ofLength_44
  · refine v_iload_n (pc' := 15) C 2 dX6_ofLength_14 rfl rfl ?_
    refine v_aload_n (pc' := 16) C 0 dX6_ofLength_15 rfl rfl ?_
    refine g_M_s (pc' := 19) C 0 in_X6_ofLength_6 rfl k_X6_ofLength_1 rfl dX6_ofLength_16 rfl ?_
    refine v_bipush (pc' := 21) C (49) dX6_ofLength_19 bc_49 rfl ?_
    refine v_iload_n (pc' := 22) C 3 dX6_ofLength_21 rfl rfl ?_
    refine v_iadd (pc' := 23) C dX6_ofLength_22 rfl ?_
    refine v_iald (pc' := 24) C h 1 rfl dX6_ofLength_23 rfl (fun e_4 h => ?_)
    refine v_iload_n (pc' := 25) C 1 dX6_ofLength_24 rfl rfl ?_
    refine v_icmp_ne C 34 28 h dX6_ofLength_25 (by decide) rfl (fun _ h => ?_) (fun _ h => ?_)
    · refine v_iconst (pc' := 35) C (0) dX6_ofLength_34 ic_0 rfl ?_
      refine v_ior (pc' := 36) C dX6_ofLength_35 rfl ?_
      refine v_leti h (fun v2_5 h => ?_)
      refine v_istore_n (pc' := 37) C [1, 2, 0, 3] (lv' := [(0, .ref aM.1), (1, .int p1), (2, .int v2_5), (3, .int v3_2)]) dX6_ofLength_36 (Nat.le_of_ble_eq_true rfl) rfl rfl ?_
      refine v_iinc (pc' := 40) C 3 [1, 2, 3, 0] (1) dX6_ofLength_37 rfl ic_1 (Nat.le_of_ble_eq_true rfl) h (lw := fun v9 => [(0, .ref aM.1), (1, .int p1), (2, .int v2_5), (3, .int v9)]) (fun _ => rfl) rfl (fun v3_6 h => ?_)
      refine v_goto C (pc' := 4) dX6_ofLength_40 (by decide) ?_
      exact ih4 v2_5 v3_6 h
    · refine v_iconst (pc' := 29) C (1) dX6_ofLength_28 ic_1 rfl ?_
      refine v_iload_n (pc' := 30) C 3 dX6_ofLength_29 rfl rfl ?_
      refine v_ishl (pc' := 31) C dX6_ofLength_30 rfl ?_
      refine v_goto C (pc' := 35) dX6_ofLength_31 (by decide) ?_
      refine v_ior (pc' := 36) C dX6_ofLength_35 rfl ?_
      refine v_leti h (fun v2_7 h => ?_)
      refine v_istore_n (pc' := 37) C [1, 2, 0, 3] (lv' := [(0, .ref aM.1), (1, .int p1), (2, .int v2_7), (3, .int v3_2)]) dX6_ofLength_36 (Nat.le_of_ble_eq_true rfl) rfl rfl ?_
      refine v_iinc (pc' := 40) C 3 [1, 2, 3, 0] (1) dX6_ofLength_37 rfl ic_1 (Nat.le_of_ble_eq_true rfl) h (lw := fun v9 => [(0, .ref aM.1), (1, .int p1), (2, .int v2_7), (3, .int v9)]) (fun _ => rfl) rfl (fun v3_8 h => ?_)
      refine v_goto C (pc' := 4) dX6_ofLength_40 (by decide) ?_
      exact ih4 v2_7 v3_8 h
def f_X6_start (zM : Md) (p1 : Int32) (p2 : Int32) : Option (Int32 × Md) :=
  Option.bind (f_X6_in p1 (2 : Int32) (8 : Int32)) fun r_1 =>
  if r_1 = 0 then some ((-2 : Int32), zM)
  else Option.bind (f_X6_in p2 (1 : Int32) (20 : Int32)) fun r_2 =>
  if r_2 = 0 then some ((-2 : Int32), zM)
  else Option.bind (f_X6_ofLength zM p1) fun r_3 =>
  if r_3 = 0 then some ((-3 : Int32), zM)
  else Option.bind (f_X6_saves zM) fun r_4 =>
  Option.bind (f_X6_noGame r_4) fun r_5 =>
  chkA 319 (2 : Int32) (lett (M_s_set r_5 (upd (M_s r_5) ((2 : Int32)).toNatClampNeg (1 : Int32))) fun zM_6 =>
  chkA 319 (3 : Int32) (lett (M_s_set zM_6 (upd (M_s zM_6) ((3 : Int32)).toNatClampNeg p1)) fun zM_7 =>
  chkA 319 (4 : Int32) (lett (M_s_set zM_7 (upd (M_s zM_7) ((4 : Int32)).toNatClampNeg p2)) fun zM_8 =>
  Option.bind (f_X6_ofLength zM_8 p1) fun r_9 =>
  chkA 319 (7 : Int32) (lett (M_s_set zM_8 (upd (M_s zM_8) ((7 : Int32)).toNatClampNeg r_9)) fun zM_10 =>
  getA (M_s zM_10) 319 (8 : Int32) fun e_11 =>
  chkA 319 (8 : Int32) (lett (M_s_set zM_10 (upd (M_s zM_10) ((8 : Int32)).toNatClampNeg (e_11 + (1 : Int32)))) fun zM_12 =>
  getA (M_s zM_12) 319 (7 : Int32) fun e_13 =>
  Option.bind (f_X6_bits e_13) fun r_14 =>
  some (r_14, zM_12))))))
abbrev rm_X6_start : Room := { frames := 1, cells := 0, slots := 0, locals := 23 }
theorem in_X6_start_6 : ∀ w ∈ wsX60, w ∈ wsX6_start := fun _ h => List.mem_cons_of_mem _ (List.mem_append_right _ h)
theorem k_X6_start_1 : Cond.fieldLink RX6 7 "DodgingHangmanModel" "s" "[I" ∈ wsX6_start := List.mem_of_getElem? (i := 1) rfl
theorem nd_X6_start : yX6_start.cls ≠ "java/lang/invoke/MethodHandle" ∧ yX6_start.cls ≠ "java/lang/invoke/VarHandle" ∧ (parseMethodDescriptor yX6_start.desc).map (fun d => d.parameters.length) = some 2 := by decide +kernel
set_option maxHeartbeats 4000000 in
set_option maxRecDepth 100000 in
theorem c_X6_start (l : Launch) (g : Gv) (aM : A10) (zM : Md) (p1 : Int32) (p2 : Int32) (o : Int32 × Md) (h : f_X6_start zM p1 p2 = some o) : Ct l g yX6_start wsX6_start rm_X6_start [.ref aM.1, .int p1, .int p2] (wM g aM zM) (Qi g o.1 (fun _ : Unit => wM g aM o.2) (fun _ => True)) := by
  refine enter (ret := (some .int)) (X := wM g aM zM) (pl := []) pn_X6 rfl (Nat.le_of_ble_eq_true rfl) ((List.append_nil _).symm) ?_
  intro p e s m args below meth c A Q C Cr hin hQ
  unfold f_X6_start at h
  refine v_iload_n (pc' := 1) C 1 dX6_start_0 rfl rfl ?_
  refine v_iconst (pc' := 2) C (2) dX6_start_1 ic_2 rfl ?_
  refine v_bipush (pc' := 4) C (8) dX6_start_2 bc_8 rfl ?_
  refine v_purei (pc' := 7) C h (rf := fun r9 => r9) (fun r hr => run_S C (c_X6_in l g _ _ _ r hr) gX6_start_X6_in rfl nd_X6_in ⟨Nat.le_of_ble_eq_true rfl, Nat.le_of_ble_eq_true rfl⟩ ⟨Nat.le_of_ble_eq_true rfl, Nat.le_of_ble_eq_true rfl⟩ (Nat.le_of_ble_eq_true rfl) dX6_start_4 rfl) rfl (fun r_1 h => ?_)
  refine v_if_eq C 20 10 h dX6_start_7 (by decide) rfl (fun _ h => ?_) (fun _ h => ?_)
  · refine v_bipush (pc' := 22) C (-2) dX6_start_20 bc_m2 rfl ?_
    exact v_iret (rf := fun (o9 : Int32 × Md) => o9.1) (Wf := fun (o9 : Int32 × Md) (u9 : Unit) => wM g aM o9.2) (ok := fun (o9 : Int32 × Md) (u9 : Unit) => True) C Cr h hQ () trivial rfl rfl dX6_start_22
  · refine v_iload_n (pc' := 11) C 2 dX6_start_10 rfl rfl ?_
    refine v_iconst (pc' := 12) C (1) dX6_start_11 ic_1 rfl ?_
    refine v_bipush (pc' := 14) C (20) dX6_start_12 bc_20 rfl ?_
    refine v_purei (pc' := 17) C h (rf := fun r9 => r9) (fun r hr => run_S C (c_X6_in l g _ _ _ r hr) gX6_start_X6_in rfl nd_X6_in ⟨Nat.le_of_ble_eq_true rfl, Nat.le_of_ble_eq_true rfl⟩ ⟨Nat.le_of_ble_eq_true rfl, Nat.le_of_ble_eq_true rfl⟩ (Nat.le_of_ble_eq_true rfl) dX6_start_14 rfl) rfl (fun r_2 h => ?_)
    refine v_if_ne C 23 20 h dX6_start_17 (by decide) rfl (fun _ h => ?_) (fun _ h => ?_)
    · refine v_aload_n (pc' := 24) C 0 dX6_start_23 rfl rfl ?_
      refine v_iload_n (pc' := 25) C 1 dX6_start_24 rfl rfl ?_
      refine v_calli (pc' := 28) C h (rf := fun r9 => r9) ([]) (fun r9 (u9 : Unit) => wM g aM zM) (fun r hr => run_V C (c_X6_ofLength l g aM _ _ r hr) gX6_start_X6_ofLength rfl nd_X6_ofLength rfl rfl rfl rfl ⟨Nat.le_of_ble_eq_true rfl, Nat.le_of_ble_eq_true rfl⟩ ⟨Nat.le_of_ble_eq_true rfl, Nat.le_of_ble_eq_true rfl⟩ (Nat.le_of_ble_eq_true rfl) dX6_start_25 rfl) [0, 1, 2, 3, 4, 5, 6, 7, 8, 9] [] [0, 1, 2, 3, 4, 5, 6, 7, 8, 9] rfl rfl rfl rfl (by decide) rfl (fun _ _ => rfl) (k' := 0) (n' := 0) rfl rfl rfl (fun r_3 _ _ h => ?_)
      refine v_if_ne C 34 31 h dX6_start_28 (by decide) rfl (fun _ h => ?_) (fun _ h => ?_)
      · refine v_aload_n (pc' := 35) C 0 dX6_start_34 rfl rfl ?_
        refine v_callv (pc' := 38) C h ([]) (fun r9 (u9 : Unit) => wM g aM r9) (fun r hr => run_V C (c_X6_saves l g aM _ r hr) gX6_start_X6_saves rfl nd_X6_saves rfl rfl rfl rfl ⟨Nat.le_of_ble_eq_true rfl, Nat.le_of_ble_eq_true rfl⟩ ⟨Nat.le_of_ble_eq_true rfl, Nat.le_of_ble_eq_true rfl⟩ (Nat.le_of_ble_eq_true rfl) dX6_start_35 rfl) [0, 1, 2, 3, 4, 5, 6, 7, 8, 9] [] [0, 1, 2, 3, 4, 5, 6, 7, 8, 9] rfl rfl rfl rfl (by decide) rfl (fun _ _ => rfl) (k' := 0) (n' := 0) rfl rfl rfl (fun r_4 _ _ h => ?_)
        refine v_aload_n (pc' := 39) C 0 dX6_start_38 rfl rfl ?_
        refine v_callv (pc' := 42) C h ([]) (fun r9 (u9 : Unit) => wM g aM r9) (fun r hr => run_V C (c_X6_noGame l g aM _ r hr) gX6_start_X6_noGame rfl nd_X6_noGame rfl rfl rfl rfl ⟨Nat.le_of_ble_eq_true rfl, Nat.le_of_ble_eq_true rfl⟩ ⟨Nat.le_of_ble_eq_true rfl, Nat.le_of_ble_eq_true rfl⟩ (Nat.le_of_ble_eq_true rfl) dX6_start_39 rfl) [0, 1, 2, 3, 4, 5, 6, 7, 8, 9] [] [0, 1, 2, 3, 4, 5, 6, 7, 8, 9] rfl rfl rfl rfl (by decide) rfl (fun _ _ => rfl) (k' := 0) (n' := 0) rfl rfl rfl (fun r_5 _ _ h => ?_)
        refine v_aload_n (pc' := 43) C 0 dX6_start_42 rfl rfl ?_
        refine g_M_s (pc' := 46) C 0 in_X6_start_6 rfl k_X6_start_1 rfl dX6_start_43 rfl ?_
        refine v_iconst (pc' := 47) C (2) dX6_start_46 ic_2 rfl ?_
        refine v_iconst (pc' := 48) C (1) dX6_start_47 ic_1 rfl ?_
        refine v_iast (pc' := 49) C h 1 (fun z9 => wM g aM z9) rfl rfl dX6_start_48 rfl (fun zM_6 h => ?_)
        refine v_aload_n (pc' := 50) C 0 dX6_start_49 rfl rfl ?_
        refine g_M_s (pc' := 53) C 0 in_X6_start_6 rfl k_X6_start_1 rfl dX6_start_50 rfl ?_
        refine v_iconst (pc' := 54) C (3) dX6_start_53 ic_3 rfl ?_
        refine v_iload_n (pc' := 55) C 1 dX6_start_54 rfl rfl ?_
        refine v_iast (pc' := 56) C h 1 (fun z9 => wM g aM z9) rfl rfl dX6_start_55 rfl (fun zM_7 h => ?_)
        refine v_aload_n (pc' := 57) C 0 dX6_start_56 rfl rfl ?_
        refine g_M_s (pc' := 60) C 0 in_X6_start_6 rfl k_X6_start_1 rfl dX6_start_57 rfl ?_
        refine v_iconst (pc' := 61) C (4) dX6_start_60 ic_4 rfl ?_
        refine v_iload_n (pc' := 62) C 2 dX6_start_61 rfl rfl ?_
        refine v_iast (pc' := 63) C h 1 (fun z9 => wM g aM z9) rfl rfl dX6_start_62 rfl (fun zM_8 h => ?_)
        refine v_aload_n (pc' := 64) C 0 dX6_start_63 rfl rfl ?_
        refine g_M_s (pc' := 67) C 0 in_X6_start_6 rfl k_X6_start_1 rfl dX6_start_64 rfl ?_
        refine v_bipush (pc' := 69) C (7) dX6_start_67 bc_7 rfl ?_
        refine v_aload_n (pc' := 70) C 0 dX6_start_69 rfl rfl ?_
        refine v_iload_n (pc' := 71) C 1 dX6_start_70 rfl rfl ?_
        refine v_calli (pc' := 74) C h (rf := fun r9 => r9) ([]) (fun r9 (u9 : Unit) => wM g aM zM_8) (fun r hr => run_V C (c_X6_ofLength l g aM _ _ r hr) gX6_start_X6_ofLength rfl nd_X6_ofLength rfl rfl rfl rfl ⟨Nat.le_of_ble_eq_true rfl, Nat.le_of_ble_eq_true rfl⟩ ⟨Nat.le_of_ble_eq_true rfl, Nat.le_of_ble_eq_true rfl⟩ (Nat.le_of_ble_eq_true rfl) dX6_start_71 rfl) [0, 1, 2, 3, 4, 5, 6, 7, 8, 9] [] [0, 1, 2, 3, 4, 5, 6, 7, 8, 9] rfl rfl rfl rfl (by decide) rfl (fun _ _ => rfl) (k' := 0) (n' := 0) rfl rfl rfl (fun r_9 _ _ h => ?_)
        refine v_iast (pc' := 75) C h 1 (fun z9 => wM g aM z9) rfl rfl dX6_start_74 rfl (fun zM_10 h => ?_)
        refine v_aload_n (pc' := 76) C 0 dX6_start_75 rfl rfl ?_
        refine g_M_s (pc' := 79) C 0 in_X6_start_6 rfl k_X6_start_1 rfl dX6_start_76 rfl ?_
        refine v_bipush (pc' := 81) C (8) dX6_start_79 bc_8 rfl ?_
        refine v_dup2 (pc' := 82) C dX6_start_81 rfl rfl rfl ?_
        refine v_iald (pc' := 83) C h 1 rfl dX6_start_82 rfl (fun e_11 h => ?_)
        refine v_iconst (pc' := 84) C (1) dX6_start_83 ic_1 rfl ?_
        refine v_iadd (pc' := 85) C dX6_start_84 rfl ?_
        refine v_iast (pc' := 86) C h 1 (fun z9 => wM g aM z9) rfl rfl dX6_start_85 rfl (fun zM_12 h => ?_)
        refine v_aload_n (pc' := 87) C 0 dX6_start_86 rfl rfl ?_
        refine g_M_s (pc' := 90) C 0 in_X6_start_6 rfl k_X6_start_1 rfl dX6_start_87 rfl ?_
        refine v_bipush (pc' := 92) C (7) dX6_start_90 bc_7 rfl ?_
        refine v_iald (pc' := 93) C h 1 rfl dX6_start_92 rfl (fun e_13 h => ?_)
        refine v_purei (pc' := 96) C h (rf := fun r9 => r9) (fun r hr => run_S C (c_X6_bits l g _ r hr) gX6_start_X6_bits rfl nd_X6_bits ⟨Nat.le_of_ble_eq_true rfl, Nat.le_of_ble_eq_true rfl⟩ ⟨Nat.le_of_ble_eq_true rfl, Nat.le_of_ble_eq_true rfl⟩ (Nat.le_of_ble_eq_true rfl) dX6_start_93 rfl) rfl (fun r_14 h => ?_)
        exact v_iret (rf := fun (o9 : Int32 × Md) => o9.1) (Wf := fun (o9 : Int32 × Md) (u9 : Unit) => wM g aM o9.2) (ok := fun (o9 : Int32 × Md) (u9 : Unit) => True) C Cr h hQ () trivial rfl rfl dX6_start_96
      · refine v_bipush (pc' := 33) C (-3) dX6_start_31 bc_m3 rfl ?_
        exact v_iret (rf := fun (o9 : Int32 × Md) => o9.1) (Wf := fun (o9 : Int32 × Md) (u9 : Unit) => wM g aM o9.2) (ok := fun (o9 : Int32 × Md) (u9 : Unit) => True) C Cr h hQ () trivial rfl rfl dX6_start_33
    · refine v_bipush (pc' := 22) C (-2) dX6_start_20 bc_m2 rfl ?_
      exact v_iret (rf := fun (o9 : Int32 × Md) => o9.1) (Wf := fun (o9 : Int32 × Md) (u9 : Unit) => wM g aM o9.2) (ok := fun (o9 : Int32 × Md) (u9 : Unit) => True) C Cr h hQ () trivial rfl rfl dX6_start_22
def f_X6_ends (zM : Md) (p1 : Int32) : Option (Md) :=
  chkA 319 (2 : Int32) (lett (M_s_set zM (upd (M_s zM) ((2 : Int32)).toNatClampNeg p1)) fun zM_1 =>
  if p1 = (2 : Int32) then getA (M_s zM_1) 319 ((8 : Int32) + (1 : Int32)) fun e_4 =>
  chkA 319 ((8 : Int32) + (1 : Int32)) (lett (M_s_set zM_1 (upd (M_s zM_1) (((8 : Int32) + (1 : Int32))).toNatClampNeg (e_4 + (1 : Int32)))) fun zM_5 =>
  some zM_5)
  else getA (M_s zM_1) 319 ((8 : Int32) + (2 : Int32)) fun e_2 =>
  chkA 319 ((8 : Int32) + (2 : Int32)) (lett (M_s_set zM_1 (upd (M_s zM_1) (((8 : Int32) + (2 : Int32))).toNatClampNeg (e_2 + (1 : Int32)))) fun zM_3 =>
  some zM_3))
abbrev rm_X6_ends : Room := { frames := 0, cells := 0, slots := 0, locals := 0 }
theorem in_X6_ends_6 : ∀ w ∈ wsX60, w ∈ wsX6_ends := fun _ h => List.mem_cons_of_mem _ (List.mem_append_right _ h)
theorem k_X6_ends_1 : Cond.fieldLink RX6 7 "DodgingHangmanModel" "s" "[I" ∈ wsX6_ends := List.mem_of_getElem? (i := 1) rfl
theorem nd_X6_ends : yX6_ends.cls ≠ "java/lang/invoke/MethodHandle" ∧ yX6_ends.cls ≠ "java/lang/invoke/VarHandle" ∧ (parseMethodDescriptor yX6_ends.desc).map (fun d => d.parameters.length) = some 1 := by decide +kernel
set_option maxHeartbeats 4000000 in
set_option maxRecDepth 100000 in
theorem c_X6_ends (l : Launch) (g : Gv) (aM : A10) (zM : Md) (p1 : Int32) (o : Md) (h : f_X6_ends zM p1 = some o) : Ct l g yX6_ends wsX6_ends rm_X6_ends [.ref aM.1, .int p1] (wM g aM zM) (Qv g (fun _ : Unit => wM g aM o) (fun _ => True)) := by
  refine enter (ret := none) (X := wM g aM zM) (pl := []) pn_X6 rfl (Nat.le_of_ble_eq_true rfl) ((List.append_nil _).symm) ?_
  intro p e s m args below meth c A Q C Cr hin hQ
  unfold f_X6_ends at h
  refine v_aload_n (pc' := 1) C 0 dX6_ends_0 rfl rfl ?_
  refine g_M_s (pc' := 4) C 0 in_X6_ends_6 rfl k_X6_ends_1 rfl dX6_ends_1 rfl ?_
  refine v_iconst (pc' := 5) C (2) dX6_ends_4 ic_2 rfl ?_
  refine v_iload_n (pc' := 6) C 1 dX6_ends_5 rfl rfl ?_
  refine v_iast (pc' := 7) C h 1 (fun z9 => wM g aM z9) rfl rfl dX6_ends_6 rfl (fun zM_1 h => ?_)
  refine v_aload_n (pc' := 8) C 0 dX6_ends_7 rfl rfl ?_
  refine g_M_s (pc' := 11) C 0 in_X6_ends_6 rfl k_X6_ends_1 rfl dX6_ends_8 rfl ?_
  refine v_bipush (pc' := 13) C (8) dX6_ends_11 bc_8 rfl ?_
  refine v_iload_n (pc' := 14) C 1 dX6_ends_13 rfl rfl ?_
  refine v_iconst (pc' := 15) C (2) dX6_ends_14 ic_2 rfl ?_
  refine v_icmp_ne C 22 18 h dX6_ends_15 (by decide) rfl (fun _ h => ?_) (fun _ h => ?_)
  · refine v_iconst (pc' := 23) C (2) dX6_ends_22 ic_2 rfl ?_
    refine v_iadd (pc' := 24) C dX6_ends_23 rfl ?_
    refine v_dup2 (pc' := 25) C dX6_ends_24 rfl rfl rfl ?_
    refine v_iald (pc' := 26) C h 1 rfl dX6_ends_25 rfl (fun e_2 h => ?_)
    refine v_iconst (pc' := 27) C (1) dX6_ends_26 ic_1 rfl ?_
    refine v_iadd (pc' := 28) C dX6_ends_27 rfl ?_
    refine v_iast (pc' := 29) C h 1 (fun z9 => wM g aM z9) rfl rfl dX6_ends_28 rfl (fun zM_3 h => ?_)
    exact v_vret (Wf := fun (o9 : Md) (u9 : Unit) => wM g aM o9) (ok := fun (o9 : Md) (u9 : Unit) => True) C Cr h hQ () trivial rfl dX6_ends_29
  · refine v_iconst (pc' := 19) C (1) dX6_ends_18 ic_1 rfl ?_
    refine v_goto C (pc' := 23) dX6_ends_19 (by decide) ?_
    refine v_iadd (pc' := 24) C dX6_ends_23 rfl ?_
    refine v_dup2 (pc' := 25) C dX6_ends_24 rfl rfl rfl ?_
    refine v_iald (pc' := 26) C h 1 rfl dX6_ends_25 rfl (fun e_4 h => ?_)
    refine v_iconst (pc' := 27) C (1) dX6_ends_26 ic_1 rfl ?_
    refine v_iadd (pc' := 28) C dX6_ends_27 rfl ?_
    refine v_iast (pc' := 29) C h 1 (fun z9 => wM g aM z9) rfl rfl dX6_ends_28 rfl (fun zM_5 h => ?_)
    exact v_vret (Wf := fun (o9 : Md) (u9 : Unit) => wM g aM o9) (ok := fun (o9 : Md) (u9 : Unit) => True) C Cr h hQ () trivial rfl dX6_ends_29
def f_X6_misses (zM : Md) (p1 : Int32) : Option (Md) :=
  getA (M_s zM) 319 (4 : Int32) fun e_1 =>
  chkA 319 (4 : Int32) (lett (M_s_set zM (upd (M_s zM) ((4 : Int32)).toNatClampNeg (e_1 - (1 : Int32)))) fun zM_2 =>
  getA (M_s zM_2) 319 (13 : Int32) fun e_3 =>
  chkA 319 (13 : Int32) (lett (M_s_set zM_2 (upd (M_s zM_2) ((13 : Int32)).toNatClampNeg (e_3 + (1 : Int32)))) fun zM_4 =>
  getA (M_s zM_4) 319 (14 : Int32) fun e_5 =>
  if p1 = 0 then chkA 319 (14 : Int32) (lett (M_s_set zM_4 (upd (M_s zM_4) ((14 : Int32)).toNatClampNeg (e_5 + (0 : Int32)))) fun zM_6 =>
  getA (M_s zM_6) 319 (4 : Int32) fun e_7 =>
  if e_7 = 0 then Option.bind (f_X6_ends zM_6 (3 : Int32)) fun r_8 =>
  some r_8
  else some zM_6)
  else chkA 319 (14 : Int32) (lett (M_s_set zM_4 (upd (M_s zM_4) ((14 : Int32)).toNatClampNeg (e_5 + (1 : Int32)))) fun zM_9 =>
  getA (M_s zM_9) 319 (4 : Int32) fun e_10 =>
  if e_10 = 0 then Option.bind (f_X6_ends zM_9 (3 : Int32)) fun r_11 =>
  some r_11
  else some zM_9)))
abbrev rm_X6_misses : Room := { frames := 1, cells := 0, slots := 0, locals := 21 }
theorem in_X6_misses_6 : ∀ w ∈ wsX60, w ∈ wsX6_misses := fun _ h => List.mem_cons_of_mem _ (List.mem_append_right _ h)
theorem k_X6_misses_1 : Cond.fieldLink RX6 7 "DodgingHangmanModel" "s" "[I" ∈ wsX6_misses := List.mem_of_getElem? (i := 1) rfl
theorem nd_X6_misses : yX6_misses.cls ≠ "java/lang/invoke/MethodHandle" ∧ yX6_misses.cls ≠ "java/lang/invoke/VarHandle" ∧ (parseMethodDescriptor yX6_misses.desc).map (fun d => d.parameters.length) = some 1 := by decide +kernel
set_option maxHeartbeats 4000000 in
set_option maxRecDepth 100000 in
theorem c_X6_misses (l : Launch) (g : Gv) (aM : A10) (zM : Md) (p1 : Int32) (o : Md) (h : f_X6_misses zM p1 = some o) : Ct l g yX6_misses wsX6_misses rm_X6_misses [.ref aM.1, .int p1] (wM g aM zM) (Qv g (fun _ : Unit => wM g aM o) (fun _ => True)) := by
  refine enter (ret := none) (X := wM g aM zM) (pl := []) pn_X6 rfl (Nat.le_of_ble_eq_true rfl) ((List.append_nil _).symm) ?_
  intro p e s m args below meth c A Q C Cr hin hQ
  unfold f_X6_misses at h
  refine v_aload_n (pc' := 1) C 0 dX6_misses_0 rfl rfl ?_
  refine g_M_s (pc' := 4) C 0 in_X6_misses_6 rfl k_X6_misses_1 rfl dX6_misses_1 rfl ?_
  refine v_iconst (pc' := 5) C (4) dX6_misses_4 ic_4 rfl ?_
  refine v_dup2 (pc' := 6) C dX6_misses_5 rfl rfl rfl ?_
  refine v_iald (pc' := 7) C h 1 rfl dX6_misses_6 rfl (fun e_1 h => ?_)
  refine v_iconst (pc' := 8) C (1) dX6_misses_7 ic_1 rfl ?_
  refine v_isub (pc' := 9) C dX6_misses_8 rfl ?_
  refine v_iast (pc' := 10) C h 1 (fun z9 => wM g aM z9) rfl rfl dX6_misses_9 rfl (fun zM_2 h => ?_)
  refine v_aload_n (pc' := 11) C 0 dX6_misses_10 rfl rfl ?_
  refine g_M_s (pc' := 14) C 0 in_X6_misses_6 rfl k_X6_misses_1 rfl dX6_misses_11 rfl ?_
  refine v_bipush (pc' := 16) C (13) dX6_misses_14 bc_13 rfl ?_
  refine v_dup2 (pc' := 17) C dX6_misses_16 rfl rfl rfl ?_
  refine v_iald (pc' := 18) C h 1 rfl dX6_misses_17 rfl (fun e_3 h => ?_)
  refine v_iconst (pc' := 19) C (1) dX6_misses_18 ic_1 rfl ?_
  refine v_iadd (pc' := 20) C dX6_misses_19 rfl ?_
  refine v_iast (pc' := 21) C h 1 (fun z9 => wM g aM z9) rfl rfl dX6_misses_20 rfl (fun zM_4 h => ?_)
  refine v_aload_n (pc' := 22) C 0 dX6_misses_21 rfl rfl ?_
  refine g_M_s (pc' := 25) C 0 in_X6_misses_6 rfl k_X6_misses_1 rfl dX6_misses_22 rfl ?_
  refine v_bipush (pc' := 27) C (14) dX6_misses_25 bc_14 rfl ?_
  refine v_dup2 (pc' := 28) C dX6_misses_27 rfl rfl rfl ?_
  refine v_iald (pc' := 29) C h 1 rfl dX6_misses_28 rfl (fun e_5 h => ?_)
  refine v_iload_n (pc' := 30) C 1 dX6_misses_29 rfl rfl ?_
  refine v_if_eq C 37 33 h dX6_misses_30 (by decide) rfl (fun _ h => ?_) (fun _ h => ?_)
  · refine v_iconst (pc' := 38) C (0) dX6_misses_37 ic_0 rfl ?_
    refine v_iadd (pc' := 39) C dX6_misses_38 rfl ?_
    refine v_iast (pc' := 40) C h 1 (fun z9 => wM g aM z9) rfl rfl dX6_misses_39 rfl (fun zM_6 h => ?_)
    refine v_aload_n (pc' := 41) C 0 dX6_misses_40 rfl rfl ?_
    refine g_M_s (pc' := 44) C 0 in_X6_misses_6 rfl k_X6_misses_1 rfl dX6_misses_41 rfl ?_
    refine v_iconst (pc' := 45) C (4) dX6_misses_44 ic_4 rfl ?_
    refine v_iald (pc' := 46) C h 1 rfl dX6_misses_45 rfl (fun e_7 h => ?_)
    refine v_if_ne C 54 49 h dX6_misses_46 (by decide) rfl (fun _ h => ?_) (fun _ h => ?_)
    · exact v_vret (Wf := fun (o9 : Md) (u9 : Unit) => wM g aM o9) (ok := fun (o9 : Md) (u9 : Unit) => True) C Cr h hQ () trivial rfl dX6_misses_54
    · refine v_aload_n (pc' := 50) C 0 dX6_misses_49 rfl rfl ?_
      refine v_iconst (pc' := 51) C (3) dX6_misses_50 ic_3 rfl ?_
      refine v_callv (pc' := 54) C h ([]) (fun r9 (u9 : Unit) => wM g aM r9) (fun r hr => run_V C (c_X6_ends l g aM _ _ r hr) gX6_misses_X6_ends rfl nd_X6_ends rfl rfl rfl rfl ⟨Nat.le_of_ble_eq_true rfl, Nat.le_of_ble_eq_true rfl⟩ ⟨Nat.le_of_ble_eq_true rfl, Nat.le_of_ble_eq_true rfl⟩ (Nat.le_of_ble_eq_true rfl) dX6_misses_51 rfl) [0, 1, 2, 3, 4, 5, 6, 7, 8, 9] [] [0, 1, 2, 3, 4, 5, 6, 7, 8, 9] rfl rfl rfl rfl (by decide) rfl (fun _ _ => rfl) (k' := 0) (n' := 0) rfl rfl rfl (fun r_8 _ _ h => ?_)
      exact v_vret (Wf := fun (o9 : Md) (u9 : Unit) => wM g aM o9) (ok := fun (o9 : Md) (u9 : Unit) => True) C Cr h hQ () trivial rfl dX6_misses_54
  · refine v_iconst (pc' := 34) C (1) dX6_misses_33 ic_1 rfl ?_
    refine v_goto C (pc' := 38) dX6_misses_34 (by decide) ?_
    refine v_iadd (pc' := 39) C dX6_misses_38 rfl ?_
    refine v_iast (pc' := 40) C h 1 (fun z9 => wM g aM z9) rfl rfl dX6_misses_39 rfl (fun zM_9 h => ?_)
    refine v_aload_n (pc' := 41) C 0 dX6_misses_40 rfl rfl ?_
    refine g_M_s (pc' := 44) C 0 in_X6_misses_6 rfl k_X6_misses_1 rfl dX6_misses_41 rfl ?_
    refine v_iconst (pc' := 45) C (4) dX6_misses_44 ic_4 rfl ?_
    refine v_iald (pc' := 46) C h 1 rfl dX6_misses_45 rfl (fun e_10 h => ?_)
    refine v_if_ne C 54 49 h dX6_misses_46 (by decide) rfl (fun _ h => ?_) (fun _ h => ?_)
    · exact v_vret (Wf := fun (o9 : Md) (u9 : Unit) => wM g aM o9) (ok := fun (o9 : Md) (u9 : Unit) => True) C Cr h hQ () trivial rfl dX6_misses_54
    · refine v_aload_n (pc' := 50) C 0 dX6_misses_49 rfl rfl ?_
      refine v_iconst (pc' := 51) C (3) dX6_misses_50 ic_3 rfl ?_
      refine v_callv (pc' := 54) C h ([]) (fun r9 (u9 : Unit) => wM g aM r9) (fun r hr => run_V C (c_X6_ends l g aM _ _ r hr) gX6_misses_X6_ends rfl nd_X6_ends rfl rfl rfl rfl ⟨Nat.le_of_ble_eq_true rfl, Nat.le_of_ble_eq_true rfl⟩ ⟨Nat.le_of_ble_eq_true rfl, Nat.le_of_ble_eq_true rfl⟩ (Nat.le_of_ble_eq_true rfl) dX6_misses_51 rfl) [0, 1, 2, 3, 4, 5, 6, 7, 8, 9] [] [0, 1, 2, 3, 4, 5, 6, 7, 8, 9] rfl rfl rfl rfl (by decide) rfl (fun _ _ => rfl) (k' := 0) (n' := 0) rfl rfl rfl (fun r_11 _ _ h => ?_)
      exact v_vret (Wf := fun (o9 : Md) (u9 : Unit) => wM g aM o9) (ok := fun (o9 : Md) (u9 : Unit) => True) C Cr h hQ () trivial rfl dX6_misses_54
def f_X6_isHidden_L4 (zM : Md) (re4 : Int32 → Int32 → Option (Int32)) (v1_1 : Int32) (v2_2 : Int32) : Option (Int32) :=
  getA (M_s zM) 319 (3 : Int32) fun e_3 =>
  if v2_2 < e_3 then if v1_1 = 0 then getA (M_s zM) 319 ((41 : Int32) + v2_2) fun e_5 =>
  if e_5 = 0 then lett (v2_2 + (1 : Int32)) fun v2_7 =>
  re4 (1 : Int32) v2_7
  else lett (v2_2 + (1 : Int32)) fun v2_6 =>
  re4 (0 : Int32) v2_6
  else lett (v2_2 + (1 : Int32)) fun v2_4 =>
  re4 (1 : Int32) v2_4
  else chkB v1_1 (some v1_1)
def f_X6_isHidden (zM : Md)  : Option (Int32) :=
  loop2 (f_X6_isHidden_L4 zM) FU (0 : Int32) (0 : Int32)
abbrev rm_X6_isHidden : Room := { frames := 0, cells := 0, slots := 0, locals := 0 }
theorem in_X6_isHidden_6 : ∀ w ∈ wsX60, w ∈ wsX6_isHidden := fun _ h => List.mem_cons_of_mem _ (List.mem_append_right _ h)
theorem k_X6_isHidden_1 : Cond.fieldLink RX6 7 "DodgingHangmanModel" "s" "[I" ∈ wsX6_isHidden := List.mem_of_getElem? (i := 1) rfl
theorem nd_X6_isHidden : yX6_isHidden.cls ≠ "java/lang/invoke/MethodHandle" ∧ yX6_isHidden.cls ≠ "java/lang/invoke/VarHandle" ∧ (parseMethodDescriptor yX6_isHidden.desc).map (fun d => d.parameters.length) = some 0 := by decide +kernel
set_option maxHeartbeats 4000000 in
set_option maxRecDepth 100000 in
theorem c_X6_isHidden (l : Launch) (g : Gv) (aM : A10) (zM : Md)  (o : Int32) (h : f_X6_isHidden zM  = some o) : Ct l g yX6_isHidden wsX6_isHidden rm_X6_isHidden [.ref aM.1] (wM g aM zM) (Qi g o (fun _ : Unit => wM g aM zM) (fun _ => True)) := by
  refine enter (ret := (some .boolean)) (X := wM g aM zM) (pl := []) pn_X6 rfl (Nat.le_of_ble_eq_true rfl) ((List.append_nil _).symm) ?_
  intro p e s m args below meth c A Q C Cr hin hQ
  unfold f_X6_isHidden at h
  refine v_iconst (pc' := 1) C (0) dX6_isHidden_0 ic_0 rfl ?_
  refine v_istore_n (pc' := 2) C [1, 0] (lv' := [(0, .ref aM.1), (1, .int (0 : Int32))]) dX6_isHidden_1 (Nat.le_of_ble_eq_true rfl) rfl rfl ?_
  refine v_iconst (pc' := 3) C (0) dX6_isHidden_2 ic_0 rfl ?_
  refine v_istore_n (pc' := 4) C [1, 2, 0] (lv' := [(0, .ref aM.1), (1, .int (0 : Int32)), (2, .int (0 : Int32))]) dX6_isHidden_3 (Nat.le_of_ble_eq_true rfl) rfl rfl ?_
  refine v_loop2 (fun (v1_1 : Int32) (v2_2 : Int32) => V p l e rm_X6_isHidden s m args below meth c g 3 A 0 0 Q (wM g aM zM) [] [(0, .ref aM.1), (1, .int v1_1), (2, .int v2_2)] 4 []) (fun re4 ih4 v1_1 v2_2 h => ?_) (0 : Int32) (0 : Int32) h
  unfold f_X6_isHidden_L4 at h
  refine v_iload_n (pc' := 5) C 2 dX6_isHidden_4 rfl rfl ?_
  refine v_aload_n (pc' := 6) C 0 dX6_isHidden_5 rfl rfl ?_
  refine g_M_s (pc' := 9) C 0 in_X6_isHidden_6 rfl k_X6_isHidden_1 rfl dX6_isHidden_6 rfl ?_
  refine v_iconst (pc' := 10) C (3) dX6_isHidden_9 ic_3 rfl ?_
  refine v_iald (pc' := 11) C h 1 rfl dX6_isHidden_10 rfl (fun e_3 h => ?_)
  refine v_icmp_ge C 42 14 h dX6_isHidden_11 (by decide) rfl (fun _ h => ?_) (fun _ h => ?_)
  · refine v_iload_n (pc' := 43) C 1 dX6_isHidden_42 rfl rfl ?_
    refine v_chkB h (fun h01 h => ?_)
    exact v_zret (rf := fun (o9 : Int32) => o9) (Wf := fun (o9 : Int32) (u9 : Unit) => wM g aM zM) (ok := fun (o9 : Int32) (u9 : Unit) => True) C Cr h hQ () trivial rfl rfl h01 dX6_isHidden_43
  · refine v_iload_n (pc' := 15) C 1 dX6_isHidden_14 rfl rfl ?_
    refine v_if_ne C 30 18 h dX6_isHidden_15 (by decide) rfl (fun _ h => ?_) (fun _ h => ?_)
    · refine v_iconst (pc' := 31) C (1) dX6_isHidden_30 ic_1 rfl ?_
      refine v_goto C (pc' := 35) dX6_isHidden_31 (by decide) ?_
      refine v_istore_n (pc' := 36) C [1, 0, 2] (lv' := [(0, .ref aM.1), (1, .int (1 : Int32)), (2, .int v2_2)]) dX6_isHidden_35 (Nat.le_of_ble_eq_true rfl) rfl rfl ?_
      refine v_iinc (pc' := 39) C 2 [1, 2, 0] (1) dX6_isHidden_36 rfl ic_1 (Nat.le_of_ble_eq_true rfl) h (lw := fun v9 => [(0, .ref aM.1), (1, .int (1 : Int32)), (2, .int v9)]) (fun _ => rfl) rfl (fun v2_4 h => ?_)
      refine v_goto C (pc' := 4) dX6_isHidden_39 (by decide) ?_
      exact ih4 (1 : Int32) v2_4 h
    · refine v_aload_n (pc' := 19) C 0 dX6_isHidden_18 rfl rfl ?_
      refine g_M_s (pc' := 22) C 0 in_X6_isHidden_6 rfl k_X6_isHidden_1 rfl dX6_isHidden_19 rfl ?_
      refine v_bipush (pc' := 24) C (41) dX6_isHidden_22 bc_41 rfl ?_
      refine v_iload_n (pc' := 25) C 2 dX6_isHidden_24 rfl rfl ?_
      refine v_iadd (pc' := 26) C dX6_isHidden_25 rfl ?_
      refine v_iald (pc' := 27) C h 1 rfl dX6_isHidden_26 rfl (fun e_5 h => ?_)
      refine v_if_ne C 34 30 h dX6_isHidden_27 (by decide) rfl (fun _ h => ?_) (fun _ h => ?_)
      · refine v_iconst (pc' := 35) C (0) dX6_isHidden_34 ic_0 rfl ?_
        refine v_istore_n (pc' := 36) C [1, 0, 2] (lv' := [(0, .ref aM.1), (1, .int (0 : Int32)), (2, .int v2_2)]) dX6_isHidden_35 (Nat.le_of_ble_eq_true rfl) rfl rfl ?_
        refine v_iinc (pc' := 39) C 2 [1, 2, 0] (1) dX6_isHidden_36 rfl ic_1 (Nat.le_of_ble_eq_true rfl) h (lw := fun v9 => [(0, .ref aM.1), (1, .int (0 : Int32)), (2, .int v9)]) (fun _ => rfl) rfl (fun v2_6 h => ?_)
        refine v_goto C (pc' := 4) dX6_isHidden_39 (by decide) ?_
        exact ih4 (0 : Int32) v2_6 h
      · refine v_iconst (pc' := 31) C (1) dX6_isHidden_30 ic_1 rfl ?_
        refine v_goto C (pc' := 35) dX6_isHidden_31 (by decide) ?_
        refine v_istore_n (pc' := 36) C [1, 0, 2] (lv' := [(0, .ref aM.1), (1, .int (1 : Int32)), (2, .int v2_2)]) dX6_isHidden_35 (Nat.le_of_ble_eq_true rfl) rfl rfl ?_
        refine v_iinc (pc' := 39) C 2 [1, 2, 0] (1) dX6_isHidden_36 rfl ic_1 (Nat.le_of_ble_eq_true rfl) h (lw := fun v9 => [(0, .ref aM.1), (1, .int (1 : Int32)), (2, .int v9)]) (fun _ => rfl) rfl (fun v2_7 h => ?_)
        refine v_goto C (pc' := 4) dX6_isHidden_39 (by decide) ?_
        exact ih4 (1 : Int32) v2_7 h
def f_X6_guessesOn_J175  (v2_20 : Int32) (zM_21 : Md) : Option (Int32 × Md) :=
  Option.bind (f_X6_isHidden zM_21) fun r_22 =>
  if r_22 = 0 then Option.bind (f_X6_ends zM_21 (2 : Int32)) fun r_24 =>
  getA (M_places r_24) 30 v2_20 fun e_25 =>
  some (e_25, r_24)
  else getA (M_places zM_21) 30 v2_20 fun e_23 =>
  some (e_23, zM_21)
def f_X6_guessesOn_L123 (e_16 : Int32) (p1 : Int32) (v2_3 : Int32) (re123 : Int32 → Md → Option (Int32 × Md)) (v5_17 : Int32) (zM_18 : Md) : Option (Int32 × Md) :=
  getA (M_s zM_18) 319 (3 : Int32) fun e_19 =>
  if v5_17 < e_19 then if ((e_16 >>> (v5_17 &&& 31)) &&& (1 : Int32)) = (1 : Int32) then chkA 319 ((41 : Int32) + v5_17) (lett (M_s_set zM_18 (upd (M_s zM_18) (((41 : Int32) + v5_17)).toNatClampNeg p1)) fun zM_29 =>
  lett (v5_17 + (1 : Int32)) fun v5_30 =>
  re123 v5_30 zM_29)
  else getA (M_s zM_18) 319 ((41 : Int32) + v5_17) fun e_26 =>
  chkA 319 ((41 : Int32) + v5_17) (lett (M_s_set zM_18 (upd (M_s zM_18) (((41 : Int32) + v5_17)).toNatClampNeg e_26)) fun zM_27 =>
  lett (v5_17 + (1 : Int32)) fun v5_28 =>
  re123 v5_28 zM_27)
  else f_X6_guessesOn_J175  v2_3 zM_18
def f_X6_guessesOn_J33 (p1 : Int32) (v2_3 : Int32) (zM_4 : Md) (s0_5 : Int32) : Option (Int32 × Md) :=
  getA (M_members zM_4) 30 v2_3 fun e_6 =>
  chkA 319 (7 : Int32) (lett (M_s_set zM_4 (upd (M_s zM_4) ((7 : Int32)).toNatClampNeg e_6)) fun zM_7 =>
  getA (M_s zM_7) 319 (6 : Int32) fun e_8 =>
  chkA 319 ((15 : Int32) + e_8) (lett (M_s_set zM_7 (upd (M_s zM_7) (((15 : Int32) + e_8)).toNatClampNeg p1)) fun zM_9 =>
  getA (M_s zM_9) 319 (6 : Int32) fun e_10 =>
  chkA 319 (6 : Int32) (lett (M_s_set zM_9 (upd (M_s zM_9) ((6 : Int32)).toNatClampNeg (e_10 + (1 : Int32)))) fun zM_11 =>
  getA (M_s zM_11) 319 (5 : Int32) fun e_12 =>
  chkA 319 (5 : Int32) (lett (M_s_set zM_11 (upd (M_s zM_11) ((5 : Int32)).toNatClampNeg (e_12 ||| ((1 : Int32) <<< ((p1 - (97 : Int32)) &&& 31))))) fun zM_13 =>
  getA (M_s zM_13) 319 (11 : Int32) fun e_14 =>
  chkA 319 (11 : Int32) (lett (M_s_set zM_13 (upd (M_s zM_13) ((11 : Int32)).toNatClampNeg (e_14 + (1 : Int32)))) fun zM_15 =>
  getA (M_mask zM_15) 30 v2_3 fun e_16 =>
  if e_16 = 0 then Option.bind (f_X6_misses zM_15 s0_5) fun r_31 =>
  some ((0 : Int32), r_31)
  else loop2 (f_X6_guessesOn_L123 e_16 p1 v2_3) FU (0 : Int32) zM_15)))))
def f_X6_guessesOn (zM : Md) (p1 : Int32) : Option (Int32 × Md) :=
  Option.bind (f_X6_laysFamilies zM p1) fun r_1 =>
  Option.bind (f_X6_ranked r_1 (0 : Int32)) fun r_2 =>
  if (1 : Int32) < (M_many r_1) then f_X6_guessesOn_J33 p1 r_2 r_1 (1 : Int32)
  else getA (M_mask r_1) 30 (0 : Int32) fun e_32 =>
  if e_32 = 0 then f_X6_guessesOn_J33 p1 r_2 r_1 (0 : Int32)
  else f_X6_guessesOn_J33 p1 r_2 r_1 (1 : Int32)
abbrev rm_X6_guessesOn : Room := { frames := 3, cells := 0, slots := 0, locals := 70 }
theorem in_X6_guessesOn_6 : ∀ w ∈ wsX60, w ∈ wsX6_guessesOn := fun _ h => List.mem_cons_of_mem _ (List.mem_append_right _ h)
theorem k_X6_guessesOn_1 : Cond.fieldLink RX6 37 "DodgingHangmanModel" "many" "I" ∈ wsX6_guessesOn := List.mem_of_getElem? (i := 1) rfl
theorem k_X6_guessesOn_3 : Cond.fieldLink RX6 7 "DodgingHangmanModel" "s" "[I" ∈ wsX6_guessesOn := List.mem_of_getElem? (i := 3) rfl
theorem k_X6_guessesOn_4 : Cond.fieldLink RX6 25 "DodgingHangmanModel" "members" "[I" ∈ wsX6_guessesOn := List.mem_of_getElem? (i := 4) rfl
theorem k_X6_guessesOn_2 : Cond.fieldLink RX6 22 "DodgingHangmanModel" "mask" "[I" ∈ wsX6_guessesOn := List.mem_of_getElem? (i := 2) rfl
theorem k_X6_guessesOn_5 : Cond.fieldLink RX6 31 "DodgingHangmanModel" "places" "[I" ∈ wsX6_guessesOn := List.mem_of_getElem? (i := 5) rfl
theorem nd_X6_guessesOn : yX6_guessesOn.cls ≠ "java/lang/invoke/MethodHandle" ∧ yX6_guessesOn.cls ≠ "java/lang/invoke/VarHandle" ∧ (parseMethodDescriptor yX6_guessesOn.desc).map (fun d => d.parameters.length) = some 1 := by decide +kernel
set_option maxHeartbeats 4000000 in
set_option maxRecDepth 100000 in
theorem c_X6_guessesOn (l : Launch) (g : Gv) (aM : A10) (zM : Md) (p1 : Int32) (o : Int32 × Md) (h : f_X6_guessesOn zM p1 = some o) : Ct l g yX6_guessesOn wsX6_guessesOn rm_X6_guessesOn [.ref aM.1, .int p1] (wM g aM zM) (Qi g o.1 (fun _ : Unit => wM g aM o.2) (fun _ => True)) := by
  refine enter (ret := (some .int)) (X := wM g aM zM) (pl := []) pn_X6 rfl (Nat.le_of_ble_eq_true rfl) ((List.append_nil _).symm) ?_
  intro p e s m args below meth c A Q C Cr hin hQ
  unfold f_X6_guessesOn at h
  have J175 : ∀ (v2_20 : Int32) (zM_21 : Md), f_X6_guessesOn_J175  v2_20 zM_21 = some o → V p l e rm_X6_guessesOn s m args below meth c g 6 A 0 0 Q (wM g aM zM_21) [] [(0, .ref aM.1), (2, .int v2_20)] 175 [] := by
    intro v2_20 zM_21 h
    unfold f_X6_guessesOn_J175 at h
    refine v_aload_n (pc' := 176) C 0 dX6_guessesOn_175 rfl rfl ?_
    refine v_calli (pc' := 179) C h (rf := fun r9 => r9) ([]) (fun r9 (u9 : Unit) => wM g aM zM_21) (fun r hr => run_V C (c_X6_isHidden l g aM _ r hr) gX6_guessesOn_X6_isHidden rfl nd_X6_isHidden rfl rfl rfl rfl ⟨Nat.le_of_ble_eq_true rfl, Nat.le_of_ble_eq_true rfl⟩ ⟨Nat.le_of_ble_eq_true rfl, Nat.le_of_ble_eq_true rfl⟩ (Nat.le_of_ble_eq_true rfl) dX6_guessesOn_176 rfl) [0, 1, 2, 3, 4, 5, 6, 7, 8, 9] [] [0, 1, 2, 3, 4, 5, 6, 7, 8, 9] rfl rfl rfl rfl (by decide) rfl (fun _ _ => rfl) (k' := 0) (n' := 0) rfl rfl rfl (fun r_22 _ _ h => ?_)
    refine v_if_ne C 187 182 h dX6_guessesOn_179 (by decide) rfl (fun _ h => ?_) (fun _ h => ?_)
    · refine v_aload_n (pc' := 188) C 0 dX6_guessesOn_187 rfl rfl ?_
      refine g_M_places (pc' := 191) C 0 in_X6_guessesOn_6 rfl k_X6_guessesOn_5 rfl dX6_guessesOn_188 rfl ?_
      refine v_iload_n (pc' := 192) C 1 dX6_guessesOn_191 rfl rfl ?_
      refine v_iald (pc' := 193) C h 8 rfl dX6_guessesOn_192 rfl (fun e_23 h => ?_)
      exact v_iret (rf := fun (o9 : Int32 × Md) => o9.1) (Wf := fun (o9 : Int32 × Md) (u9 : Unit) => wM g aM o9.2) (ok := fun (o9 : Int32 × Md) (u9 : Unit) => True) C Cr h hQ () trivial rfl rfl dX6_guessesOn_193
    · refine v_aload_n (pc' := 183) C 0 dX6_guessesOn_182 rfl rfl ?_
      refine v_iconst (pc' := 184) C (2) dX6_guessesOn_183 ic_2 rfl ?_
      refine v_callv (pc' := 187) C h ([]) (fun r9 (u9 : Unit) => wM g aM r9) (fun r hr => run_V C (c_X6_ends l g aM _ _ r hr) gX6_guessesOn_X6_ends rfl nd_X6_ends rfl rfl rfl rfl ⟨Nat.le_of_ble_eq_true rfl, Nat.le_of_ble_eq_true rfl⟩ ⟨Nat.le_of_ble_eq_true rfl, Nat.le_of_ble_eq_true rfl⟩ (Nat.le_of_ble_eq_true rfl) dX6_guessesOn_184 rfl) [0, 1, 2, 3, 4, 5, 6, 7, 8, 9] [] [0, 1, 2, 3, 4, 5, 6, 7, 8, 9] rfl rfl rfl rfl (by decide) rfl (fun _ _ => rfl) (k' := 0) (n' := 0) rfl rfl rfl (fun r_24 _ _ h => ?_)
      refine v_aload_n (pc' := 188) C 0 dX6_guessesOn_187 rfl rfl ?_
      refine g_M_places (pc' := 191) C 0 in_X6_guessesOn_6 rfl k_X6_guessesOn_5 rfl dX6_guessesOn_188 rfl ?_
      refine v_iload_n (pc' := 192) C 1 dX6_guessesOn_191 rfl rfl ?_
      refine v_iald (pc' := 193) C h 8 rfl dX6_guessesOn_192 rfl (fun e_25 h => ?_)
      exact v_iret (rf := fun (o9 : Int32 × Md) => o9.1) (Wf := fun (o9 : Int32 × Md) (u9 : Unit) => wM g aM o9.2) (ok := fun (o9 : Int32 × Md) (u9 : Unit) => True) C Cr h hQ () trivial rfl rfl dX6_guessesOn_193
  have J33 : ∀ (v2_3 : Int32) (zM_4 : Md) (s0_5 : Int32), f_X6_guessesOn_J33 p1 v2_3 zM_4 s0_5 = some o → V p l e rm_X6_guessesOn s m args below meth c g 6 A 0 0 Q (wM g aM zM_4) [] [(0, .ref aM.1), (1, .int p1), (2, .int v2_3)] 33 [.int s0_5] := by
    intro v2_3 zM_4 s0_5 h
    unfold f_X6_guessesOn_J33 at h
    refine v_istore_n (pc' := 34) C [1, 2, 3, 0] (lv' := [(0, .ref aM.1), (1, .int p1), (2, .int v2_3), (3, .int s0_5)]) dX6_guessesOn_33 (Nat.le_of_ble_eq_true rfl) rfl rfl ?_
    refine v_aload_n (pc' := 35) C 0 dX6_guessesOn_34 rfl rfl ?_
    refine g_M_s (pc' := 38) C 0 in_X6_guessesOn_6 rfl k_X6_guessesOn_3 rfl dX6_guessesOn_35 rfl ?_
    refine v_bipush (pc' := 40) C (7) dX6_guessesOn_38 bc_7 rfl ?_
    refine v_aload_n (pc' := 41) C 0 dX6_guessesOn_40 rfl rfl ?_
    refine g_M_members (pc' := 44) C 0 in_X6_guessesOn_6 rfl k_X6_guessesOn_4 rfl dX6_guessesOn_41 rfl ?_
    refine v_iload_n (pc' := 45) C 2 dX6_guessesOn_44 rfl rfl ?_
    refine v_iald (pc' := 46) C h 6 rfl dX6_guessesOn_45 rfl (fun e_6 h => ?_)
    refine v_iast (pc' := 47) C h 1 (fun z9 => wM g aM z9) rfl rfl dX6_guessesOn_46 rfl (fun zM_7 h => ?_)
    refine v_aload_n (pc' := 48) C 0 dX6_guessesOn_47 rfl rfl ?_
    refine g_M_s (pc' := 51) C 0 in_X6_guessesOn_6 rfl k_X6_guessesOn_3 rfl dX6_guessesOn_48 rfl ?_
    refine v_bipush (pc' := 53) C (15) dX6_guessesOn_51 bc_15 rfl ?_
    refine v_aload_n (pc' := 54) C 0 dX6_guessesOn_53 rfl rfl ?_
    refine g_M_s (pc' := 57) C 0 in_X6_guessesOn_6 rfl k_X6_guessesOn_3 rfl dX6_guessesOn_54 rfl ?_
    refine v_bipush (pc' := 59) C (6) dX6_guessesOn_57 bc_6 rfl ?_
    refine v_iald (pc' := 60) C h 1 rfl dX6_guessesOn_59 rfl (fun e_8 h => ?_)
    refine v_iadd (pc' := 61) C dX6_guessesOn_60 rfl ?_
    refine v_iload_n (pc' := 62) C 1 dX6_guessesOn_61 rfl rfl ?_
    refine v_iast (pc' := 63) C h 1 (fun z9 => wM g aM z9) rfl rfl dX6_guessesOn_62 rfl (fun zM_9 h => ?_)
    refine v_aload_n (pc' := 64) C 0 dX6_guessesOn_63 rfl rfl ?_
    refine g_M_s (pc' := 67) C 0 in_X6_guessesOn_6 rfl k_X6_guessesOn_3 rfl dX6_guessesOn_64 rfl ?_
    refine v_bipush (pc' := 69) C (6) dX6_guessesOn_67 bc_6 rfl ?_
    refine v_dup2 (pc' := 70) C dX6_guessesOn_69 rfl rfl rfl ?_
    refine v_iald (pc' := 71) C h 1 rfl dX6_guessesOn_70 rfl (fun e_10 h => ?_)
    refine v_iconst (pc' := 72) C (1) dX6_guessesOn_71 ic_1 rfl ?_
    refine v_iadd (pc' := 73) C dX6_guessesOn_72 rfl ?_
    refine v_iast (pc' := 74) C h 1 (fun z9 => wM g aM z9) rfl rfl dX6_guessesOn_73 rfl (fun zM_11 h => ?_)
    refine v_aload_n (pc' := 75) C 0 dX6_guessesOn_74 rfl rfl ?_
    refine g_M_s (pc' := 78) C 0 in_X6_guessesOn_6 rfl k_X6_guessesOn_3 rfl dX6_guessesOn_75 rfl ?_
    refine v_iconst (pc' := 79) C (5) dX6_guessesOn_78 ic_5 rfl ?_
    refine v_dup2 (pc' := 80) C dX6_guessesOn_79 rfl rfl rfl ?_
    refine v_iald (pc' := 81) C h 1 rfl dX6_guessesOn_80 rfl (fun e_12 h => ?_)
    refine v_iconst (pc' := 82) C (1) dX6_guessesOn_81 ic_1 rfl ?_
    refine v_iload_n (pc' := 83) C 1 dX6_guessesOn_82 rfl rfl ?_
    refine v_bipush (pc' := 85) C (97) dX6_guessesOn_83 bc_97 rfl ?_
    refine v_isub (pc' := 86) C dX6_guessesOn_85 rfl ?_
    refine v_ishl (pc' := 87) C dX6_guessesOn_86 rfl ?_
    refine v_ior (pc' := 88) C dX6_guessesOn_87 rfl ?_
    refine v_iast (pc' := 89) C h 1 (fun z9 => wM g aM z9) rfl rfl dX6_guessesOn_88 rfl (fun zM_13 h => ?_)
    refine v_aload_n (pc' := 90) C 0 dX6_guessesOn_89 rfl rfl ?_
    refine g_M_s (pc' := 93) C 0 in_X6_guessesOn_6 rfl k_X6_guessesOn_3 rfl dX6_guessesOn_90 rfl ?_
    refine v_bipush (pc' := 95) C (11) dX6_guessesOn_93 bc_11 rfl ?_
    refine v_dup2 (pc' := 96) C dX6_guessesOn_95 rfl rfl rfl ?_
    refine v_iald (pc' := 97) C h 1 rfl dX6_guessesOn_96 rfl (fun e_14 h => ?_)
    refine v_iconst (pc' := 98) C (1) dX6_guessesOn_97 ic_1 rfl ?_
    refine v_iadd (pc' := 99) C dX6_guessesOn_98 rfl ?_
    refine v_iast (pc' := 100) C h 1 (fun z9 => wM g aM z9) rfl rfl dX6_guessesOn_99 rfl (fun zM_15 h => ?_)
    refine v_aload_n (pc' := 101) C 0 dX6_guessesOn_100 rfl rfl ?_
    refine g_M_mask (pc' := 104) C 0 in_X6_guessesOn_6 rfl k_X6_guessesOn_2 rfl dX6_guessesOn_101 rfl ?_
    refine v_iload_n (pc' := 105) C 2 dX6_guessesOn_104 rfl rfl ?_
    refine v_iald (pc' := 106) C h 5 rfl dX6_guessesOn_105 rfl (fun e_16 h => ?_)
    refine v_istore (pc' := 108) C [1, 2, 3, 4, 0] (lv' := [(0, .ref aM.1), (1, .int p1), (2, .int v2_3), (3, .int s0_5), (4, .int e_16)]) dX6_guessesOn_106 (Nat.le_of_ble_eq_true rfl) rfl rfl ?_
    refine v_iload (pc' := 110) C 4 dX6_guessesOn_108 rfl rfl ?_
    refine v_if_ne C 120 113 h dX6_guessesOn_110 (by decide) rfl (fun _ h => ?_) (fun _ h => ?_)
    · refine v_iconst (pc' := 121) C (0) dX6_guessesOn_120 ic_0 rfl ?_
      refine v_istore (pc' := 123) C [1, 2, 3, 4, 5, 0] (lv' := [(0, .ref aM.1), (1, .int p1), (2, .int v2_3), (3, .int s0_5), (4, .int e_16), (5, .int (0 : Int32))]) dX6_guessesOn_121 (Nat.le_of_ble_eq_true rfl) rfl rfl ?_
      refine v_lv [0, 1, 2, 4, 5] (lv' := [(0, .ref aM.1), (1, .int p1), (2, .int v2_3), (4, .int e_16), (5, .int (0 : Int32))]) rfl ?_
      refine v_loop2 (fun (v5_17 : Int32) (zM_18 : Md) => V p l e rm_X6_guessesOn s m args below meth c g 6 A 0 0 Q (wM g aM zM_18) [] [(0, .ref aM.1), (1, .int p1), (2, .int v2_3), (4, .int e_16), (5, .int v5_17)] 123 []) (fun re123 ih123 v5_17 zM_18 h => ?_) (0 : Int32) zM_15 h
      unfold f_X6_guessesOn_L123 at h
      refine v_iload (pc' := 125) C 4 dX6_guessesOn_123 rfl rfl ?_
      refine v_aload_n (pc' := 126) C 0 dX6_guessesOn_125 rfl rfl ?_
      refine g_M_s (pc' := 129) C 0 in_X6_guessesOn_6 rfl k_X6_guessesOn_3 rfl dX6_guessesOn_126 rfl ?_
      refine v_iconst (pc' := 130) C (3) dX6_guessesOn_129 ic_3 rfl ?_
      refine v_iald (pc' := 131) C h 1 rfl dX6_guessesOn_130 rfl (fun e_19 h => ?_)
      refine v_icmp_ge C 175 134 h dX6_guessesOn_131 (by decide) rfl (fun _ h => ?_) (fun _ h => ?_)
      · refine v_lv [0, 2] (lv' := [(0, .ref aM.1), (2, .int v2_3)]) rfl ?_
        exact J175 v2_3 zM_18 h
      · refine v_aload_n (pc' := 135) C 0 dX6_guessesOn_134 rfl rfl ?_
        refine g_M_s (pc' := 138) C 0 in_X6_guessesOn_6 rfl k_X6_guessesOn_3 rfl dX6_guessesOn_135 rfl ?_
        refine v_bipush (pc' := 140) C (41) dX6_guessesOn_138 bc_41 rfl ?_
        refine v_iload (pc' := 142) C 4 dX6_guessesOn_140 rfl rfl ?_
        refine v_iadd (pc' := 143) C dX6_guessesOn_142 rfl ?_
        refine v_iload (pc' := 145) C 3 dX6_guessesOn_143 rfl rfl ?_
        refine v_iload (pc' := 147) C 4 dX6_guessesOn_145 rfl rfl ?_
        refine v_ishr (pc' := 148) C dX6_guessesOn_147 rfl ?_
        refine v_iconst (pc' := 149) C (1) dX6_guessesOn_148 ic_1 rfl ?_
        refine v_iand (pc' := 150) C dX6_guessesOn_149 rfl ?_
        refine v_iconst (pc' := 151) C (1) dX6_guessesOn_150 ic_1 rfl ?_
        refine v_icmp_ne C 158 154 h dX6_guessesOn_151 (by decide) rfl (fun _ h => ?_) (fun _ h => ?_)
        · refine v_aload_n (pc' := 159) C 0 dX6_guessesOn_158 rfl rfl ?_
          refine g_M_s (pc' := 162) C 0 in_X6_guessesOn_6 rfl k_X6_guessesOn_3 rfl dX6_guessesOn_159 rfl ?_
          refine v_bipush (pc' := 164) C (41) dX6_guessesOn_162 bc_41 rfl ?_
          refine v_iload (pc' := 166) C 4 dX6_guessesOn_164 rfl rfl ?_
          refine v_iadd (pc' := 167) C dX6_guessesOn_166 rfl ?_
          refine v_iald (pc' := 168) C h 1 rfl dX6_guessesOn_167 rfl (fun e_26 h => ?_)
          refine v_iast (pc' := 169) C h 1 (fun z9 => wM g aM z9) rfl rfl dX6_guessesOn_168 rfl (fun zM_27 h => ?_)
          refine v_iinc (pc' := 172) C 4 [1, 2, 3, 4, 0] (1) dX6_guessesOn_169 rfl ic_1 (Nat.le_of_ble_eq_true rfl) h (lw := fun v9 => [(0, .ref aM.1), (1, .int p1), (2, .int v2_3), (4, .int e_16), (5, .int v9)]) (fun _ => rfl) rfl (fun v5_28 h => ?_)
          refine v_goto C (pc' := 123) dX6_guessesOn_172 (by decide) ?_
          exact ih123 v5_28 zM_27 h
        · refine v_iload_n (pc' := 155) C 1 dX6_guessesOn_154 rfl rfl ?_
          refine v_goto C (pc' := 168) dX6_guessesOn_155 (by decide) ?_
          refine v_iast (pc' := 169) C h 1 (fun z9 => wM g aM z9) rfl rfl dX6_guessesOn_168 rfl (fun zM_29 h => ?_)
          refine v_iinc (pc' := 172) C 4 [1, 2, 3, 4, 0] (1) dX6_guessesOn_169 rfl ic_1 (Nat.le_of_ble_eq_true rfl) h (lw := fun v9 => [(0, .ref aM.1), (1, .int p1), (2, .int v2_3), (4, .int e_16), (5, .int v9)]) (fun _ => rfl) rfl (fun v5_30 h => ?_)
          refine v_goto C (pc' := 123) dX6_guessesOn_172 (by decide) ?_
          exact ih123 v5_30 zM_29 h
    · refine v_aload_n (pc' := 114) C 0 dX6_guessesOn_113 rfl rfl ?_
      refine v_iload_n (pc' := 115) C 3 dX6_guessesOn_114 rfl rfl ?_
      refine v_callv (pc' := 118) C h ([]) (fun r9 (u9 : Unit) => wM g aM r9) (fun r hr => run_V C (c_X6_misses l g aM _ _ r hr) gX6_guessesOn_X6_misses rfl nd_X6_misses rfl rfl rfl rfl ⟨Nat.le_of_ble_eq_true rfl, Nat.le_of_ble_eq_true rfl⟩ ⟨Nat.le_of_ble_eq_true rfl, Nat.le_of_ble_eq_true rfl⟩ (Nat.le_of_ble_eq_true rfl) dX6_guessesOn_115 rfl) [0, 1, 2, 3, 4, 5, 6, 7, 8, 9] [] [0, 1, 2, 3, 4, 5, 6, 7, 8, 9] rfl rfl rfl rfl (by decide) rfl (fun _ _ => rfl) (k' := 0) (n' := 0) rfl rfl rfl (fun r_31 _ _ h => ?_)
      refine v_iconst (pc' := 119) C (0) dX6_guessesOn_118 ic_0 rfl ?_
      exact v_iret (rf := fun (o9 : Int32 × Md) => o9.1) (Wf := fun (o9 : Int32 × Md) (u9 : Unit) => wM g aM o9.2) (ok := fun (o9 : Int32 × Md) (u9 : Unit) => True) C Cr h hQ () trivial rfl rfl dX6_guessesOn_119
  refine v_aload_n (pc' := 1) C 0 dX6_guessesOn_0 rfl rfl ?_
  refine v_iload_n (pc' := 2) C 1 dX6_guessesOn_1 rfl rfl ?_
  refine v_callv (pc' := 5) C h ([]) (fun r9 (u9 : Unit) => wM g aM r9) (fun r hr => run_V C (c_X6_laysFamilies l g aM _ _ r hr) gX6_guessesOn_X6_laysFamilies rfl nd_X6_laysFamilies rfl rfl rfl rfl ⟨Nat.le_of_ble_eq_true rfl, Nat.le_of_ble_eq_true rfl⟩ ⟨Nat.le_of_ble_eq_true rfl, Nat.le_of_ble_eq_true rfl⟩ (Nat.le_of_ble_eq_true rfl) dX6_guessesOn_2 rfl) [0, 1, 2, 3, 4, 5, 6, 7, 8, 9] [] [0, 1, 2, 3, 4, 5, 6, 7, 8, 9] rfl rfl rfl rfl (by decide) rfl (fun _ _ => rfl) (k' := 0) (n' := 0) rfl rfl rfl (fun r_1 _ _ h => ?_)
  refine v_aload_n (pc' := 6) C 0 dX6_guessesOn_5 rfl rfl ?_
  refine v_iconst (pc' := 7) C (0) dX6_guessesOn_6 ic_0 rfl ?_
  refine v_calli (pc' := 10) C h (rf := fun r9 => r9) ([]) (fun r9 (u9 : Unit) => wM g aM r_1) (fun r hr => run_V C (c_X6_ranked l g aM _ _ r hr) gX6_guessesOn_X6_ranked rfl nd_X6_ranked rfl rfl rfl rfl ⟨Nat.le_of_ble_eq_true rfl, Nat.le_of_ble_eq_true rfl⟩ ⟨Nat.le_of_ble_eq_true rfl, Nat.le_of_ble_eq_true rfl⟩ (Nat.le_of_ble_eq_true rfl) dX6_guessesOn_7 rfl) [0, 1, 2, 3, 4, 5, 6, 7, 8, 9] [] [0, 1, 2, 3, 4, 5, 6, 7, 8, 9] rfl rfl rfl rfl (by decide) rfl (fun _ _ => rfl) (k' := 0) (n' := 0) rfl rfl rfl (fun r_2 _ _ h => ?_)
  refine v_istore_n (pc' := 11) C [1, 2, 0] (lv' := [(0, .ref aM.1), (1, .int p1), (2, .int r_2)]) dX6_guessesOn_10 (Nat.le_of_ble_eq_true rfl) rfl rfl ?_
  refine v_aload_n (pc' := 12) C 0 dX6_guessesOn_11 rfl rfl ?_
  refine g_M_many (pc' := 15) C 0 in_X6_guessesOn_6 rfl k_X6_guessesOn_1 rfl dX6_guessesOn_12 rfl ?_
  refine v_iconst (pc' := 16) C (1) dX6_guessesOn_15 ic_1 rfl ?_
  refine v_icmp_gt C 28 19 h dX6_guessesOn_16 (by decide) rfl (fun _ h => ?_) (fun _ h => ?_)
  · refine v_iconst (pc' := 29) C (1) dX6_guessesOn_28 ic_1 rfl ?_
    refine v_goto C (pc' := 33) dX6_guessesOn_29 (by decide) ?_
    exact J33 r_2 r_1 (1 : Int32) h
  · refine v_aload_n (pc' := 20) C 0 dX6_guessesOn_19 rfl rfl ?_
    refine g_M_mask (pc' := 23) C 0 in_X6_guessesOn_6 rfl k_X6_guessesOn_2 rfl dX6_guessesOn_20 rfl ?_
    refine v_iconst (pc' := 24) C (0) dX6_guessesOn_23 ic_0 rfl ?_
    refine v_iald (pc' := 25) C h 5 rfl dX6_guessesOn_24 rfl (fun e_32 h => ?_)
    refine v_if_eq C 32 28 h dX6_guessesOn_25 (by decide) rfl (fun _ h => ?_) (fun _ h => ?_)
    · refine v_iconst (pc' := 33) C (0) dX6_guessesOn_32 ic_0 rfl ?_
      exact J33 r_2 r_1 (0 : Int32) h
    · refine v_iconst (pc' := 29) C (1) dX6_guessesOn_28 ic_1 rfl ?_
      refine v_goto C (pc' := 33) dX6_guessesOn_29 (by decide) ?_
      exact J33 r_2 r_1 (1 : Int32) h
def f_X6_guess (zM : Md) (p1 : Int32) : Option (Int32 × Md) :=
  Option.bind (f_X6_isLetter p1) fun r_1 =>
  if r_1 = 0 then some ((-2 : Int32), zM)
  else Option.bind (f_X6_runs zM) fun r_2 =>
  if r_2 = 0 then some ((-3 : Int32), zM)
  else Option.bind (f_X6_isGuessed zM p1) fun r_3 =>
  if r_3 = 0 then Option.bind (f_X6_saves zM) fun r_4 =>
  Option.bind (f_X6_guessesOn r_4 p1) fun r_5 =>
  some (r_5.1, r_5.2)
  else some ((-6 : Int32), zM)
abbrev rm_X6_guess : Room := { frames := 4, cells := 0, slots := 0, locals := 95 }
theorem nd_X6_guess : yX6_guess.cls ≠ "java/lang/invoke/MethodHandle" ∧ yX6_guess.cls ≠ "java/lang/invoke/VarHandle" ∧ (parseMethodDescriptor yX6_guess.desc).map (fun d => d.parameters.length) = some 1 := by decide +kernel
set_option maxHeartbeats 4000000 in
set_option maxRecDepth 100000 in
theorem c_X6_guess (l : Launch) (g : Gv) (aM : A10) (zM : Md) (p1 : Int32) (o : Int32 × Md) (h : f_X6_guess zM p1 = some o) : Ct l g yX6_guess wsX6_guess rm_X6_guess [.ref aM.1, .int p1] (wM g aM zM) (Qi g o.1 (fun _ : Unit => wM g aM o.2) (fun _ => True)) := by
  refine enter (ret := (some .int)) (X := wM g aM zM) (pl := []) pn_X6 rfl (Nat.le_of_ble_eq_true rfl) ((List.append_nil _).symm) ?_
  intro p e s m args below meth c A Q C Cr hin hQ
  unfold f_X6_guess at h
  refine v_iload_n (pc' := 1) C 1 dX6_guess_0 rfl rfl ?_
  refine v_purei (pc' := 4) C h (rf := fun r9 => r9) (fun r hr => run_S C (c_X6_isLetter l g _ r hr) gX6_guess_X6_isLetter rfl nd_X6_isLetter ⟨Nat.le_of_ble_eq_true rfl, Nat.le_of_ble_eq_true rfl⟩ ⟨Nat.le_of_ble_eq_true rfl, Nat.le_of_ble_eq_true rfl⟩ (Nat.le_of_ble_eq_true rfl) dX6_guess_1 rfl) rfl (fun r_1 h => ?_)
  refine v_if_ne C 10 7 h dX6_guess_4 (by decide) rfl (fun _ h => ?_) (fun _ h => ?_)
  · refine v_aload_n (pc' := 11) C 0 dX6_guess_10 rfl rfl ?_
    refine v_calli (pc' := 14) C h (rf := fun r9 => r9) ([]) (fun r9 (u9 : Unit) => wM g aM zM) (fun r hr => run_V C (c_X6_runs l g aM _ r hr) gX6_guess_X6_runs rfl nd_X6_runs rfl rfl rfl rfl ⟨Nat.le_of_ble_eq_true rfl, Nat.le_of_ble_eq_true rfl⟩ ⟨Nat.le_of_ble_eq_true rfl, Nat.le_of_ble_eq_true rfl⟩ (Nat.le_of_ble_eq_true rfl) dX6_guess_11 rfl) [0, 1, 2, 3, 4, 5, 6, 7, 8, 9] [] [0, 1, 2, 3, 4, 5, 6, 7, 8, 9] rfl rfl rfl rfl (by decide) rfl (fun _ _ => rfl) (k' := 0) (n' := 0) rfl rfl rfl (fun r_2 _ _ h => ?_)
    refine v_if_ne C 20 17 h dX6_guess_14 (by decide) rfl (fun _ h => ?_) (fun _ h => ?_)
    · refine v_aload_n (pc' := 21) C 0 dX6_guess_20 rfl rfl ?_
      refine v_iload_n (pc' := 22) C 1 dX6_guess_21 rfl rfl ?_
      refine v_calli (pc' := 25) C h (rf := fun r9 => r9) ([]) (fun r9 (u9 : Unit) => wM g aM zM) (fun r hr => run_V C (c_X6_isGuessed l g aM _ _ r hr) gX6_guess_X6_isGuessed rfl nd_X6_isGuessed rfl rfl rfl rfl ⟨Nat.le_of_ble_eq_true rfl, Nat.le_of_ble_eq_true rfl⟩ ⟨Nat.le_of_ble_eq_true rfl, Nat.le_of_ble_eq_true rfl⟩ (Nat.le_of_ble_eq_true rfl) dX6_guess_22 rfl) [0, 1, 2, 3, 4, 5, 6, 7, 8, 9] [] [0, 1, 2, 3, 4, 5, 6, 7, 8, 9] rfl rfl rfl rfl (by decide) rfl (fun _ _ => rfl) (k' := 0) (n' := 0) rfl rfl rfl (fun r_3 _ _ h => ?_)
      refine v_if_eq C 31 28 h dX6_guess_25 (by decide) rfl (fun _ h => ?_) (fun _ h => ?_)
      · refine v_aload_n (pc' := 32) C 0 dX6_guess_31 rfl rfl ?_
        refine v_callv (pc' := 35) C h ([]) (fun r9 (u9 : Unit) => wM g aM r9) (fun r hr => run_V C (c_X6_saves l g aM _ r hr) gX6_guess_X6_saves rfl nd_X6_saves rfl rfl rfl rfl ⟨Nat.le_of_ble_eq_true rfl, Nat.le_of_ble_eq_true rfl⟩ ⟨Nat.le_of_ble_eq_true rfl, Nat.le_of_ble_eq_true rfl⟩ (Nat.le_of_ble_eq_true rfl) dX6_guess_32 rfl) [0, 1, 2, 3, 4, 5, 6, 7, 8, 9] [] [0, 1, 2, 3, 4, 5, 6, 7, 8, 9] rfl rfl rfl rfl (by decide) rfl (fun _ _ => rfl) (k' := 0) (n' := 0) rfl rfl rfl (fun r_4 _ _ h => ?_)
        refine v_aload_n (pc' := 36) C 0 dX6_guess_35 rfl rfl ?_
        refine v_iload_n (pc' := 37) C 1 dX6_guess_36 rfl rfl ?_
        refine v_calli (pc' := 40) C h (rf := fun r9 => r9.1) ([]) (fun r9 (u9 : Unit) => wM g aM r9.2) (fun r hr => run_V C (c_X6_guessesOn l g aM _ _ r hr) gX6_guess_X6_guessesOn rfl nd_X6_guessesOn rfl rfl rfl rfl ⟨Nat.le_of_ble_eq_true rfl, Nat.le_of_ble_eq_true rfl⟩ ⟨Nat.le_of_ble_eq_true rfl, Nat.le_of_ble_eq_true rfl⟩ (Nat.le_of_ble_eq_true rfl) dX6_guess_37 rfl) [0, 1, 2, 3, 4, 5, 6, 7, 8, 9] [] [0, 1, 2, 3, 4, 5, 6, 7, 8, 9] rfl rfl rfl rfl (by decide) rfl (fun _ _ => rfl) (k' := 0) (n' := 0) rfl rfl rfl (fun r_5 _ _ h => ?_)
        exact v_iret (rf := fun (o9 : Int32 × Md) => o9.1) (Wf := fun (o9 : Int32 × Md) (u9 : Unit) => wM g aM o9.2) (ok := fun (o9 : Int32 × Md) (u9 : Unit) => True) C Cr h hQ () trivial rfl rfl dX6_guess_40
      · refine v_bipush (pc' := 30) C (-6) dX6_guess_28 bc_m6 rfl ?_
        exact v_iret (rf := fun (o9 : Int32 × Md) => o9.1) (Wf := fun (o9 : Int32 × Md) (u9 : Unit) => wM g aM o9.2) (ok := fun (o9 : Int32 × Md) (u9 : Unit) => True) C Cr h hQ () trivial rfl rfl dX6_guess_30
    · refine v_bipush (pc' := 19) C (-3) dX6_guess_17 bc_m3 rfl ?_
      exact v_iret (rf := fun (o9 : Int32 × Md) => o9.1) (Wf := fun (o9 : Int32 × Md) (u9 : Unit) => wM g aM o9.2) (ok := fun (o9 : Int32 × Md) (u9 : Unit) => True) C Cr h hQ () trivial rfl rfl dX6_guess_19
  · refine v_bipush (pc' := 9) C (-2) dX6_guess_7 bc_m2 rfl ?_
    exact v_iret (rf := fun (o9 : Int32 × Md) => o9.1) (Wf := fun (o9 : Int32 × Md) (u9 : Unit) => wM g aM o9.2) (ok := fun (o9 : Int32 × Md) (u9 : Unit) => True) C Cr h hQ () trivial rfl rfl dX6_guess_9
def f_X6_guessWord_J176  (v2_17 : Int32) (zM_18 : Md) (s1_19 : Int32) (s2_20 : Int32) (s3_21 : Int32) : Option (Int32 × Md) :=
  chkA 319 s1_19 (lett (M_s_set zM_18 (upd (M_s zM_18) (s1_19).toNatClampNeg (s2_20 &&& s3_21))) fun zM_22 =>
  Option.bind (f_X6_misses zM_22 v2_17) fun r_23 =>
  lett (M_typed_set r_23 (0 : Int32)) fun zM_24 =>
  getA (M_s zM_24) 319 (2 : Int32) fun e_25 =>
  if e_25 = (2 : Int32) then some ((1 : Int32), zM_24)
  else some ((0 : Int32), zM_24))
def f_X6_guessWord_J155  (v1_13 : Int32) (v2_14 : Int32) (zM_15 : Md) : Option (Int32 × Md) :=
  getA (M_s zM_15) 319 (7 : Int32) fun e_16 =>
  if v2_14 = 0 then f_X6_guessWord_J176  v2_14 zM_15 (7 : Int32) e_16 (-1 : Int32)
  else f_X6_guessWord_J176  v2_14 zM_15 (7 : Int32) e_16 (((1 : Int32) <<< (v1_13 &&& 31)) ^^^ (-1 : Int32))
def f_X6_guessWord_J147  (zM_30 : Md) : Option (Int32 × Md) :=
  Option.bind (f_X6_ends zM_30 (2 : Int32)) fun r_31 =>
  lett (M_typed_set r_31 (0 : Int32)) fun zM_32 =>
  getA (M_s zM_32) 319 (2 : Int32) fun e_33 =>
  if e_33 = (2 : Int32) then some ((1 : Int32), zM_32)
  else some ((0 : Int32), zM_32)
def f_X6_guessWord_L118  (re118 : Int32 → Md → Option (Int32 × Md)) (v3_28 : Int32) (zM_29 : Md) : Option (Int32 × Md) :=
  if v3_28 < (M_typed zM_29) then getA (M_text zM_29) 80 v3_28 fun e_34 =>
  chkA 319 ((41 : Int32) + v3_28) (lett (M_s_set zM_29 (upd (M_s zM_29) (((41 : Int32) + v3_28)).toNatClampNeg e_34)) fun zM_35 =>
  lett (v3_28 + (1 : Int32)) fun v3_36 =>
  re118 v3_36 zM_35)
  else f_X6_guessWord_J147  zM_29
def f_X6_guessWord_J86  (v1_8 : Int32) (zM_9 : Md) (s0_10 : Int32) : Option (Int32 × Md) :=
  getA (M_s zM_9) 319 (12 : Int32) fun e_11 =>
  chkA 319 (12 : Int32) (lett (M_s_set zM_9 (upd (M_s zM_9) ((12 : Int32)).toNatClampNeg (e_11 + (1 : Int32)))) fun zM_12 =>
  if s0_10 = 0 then f_X6_guessWord_J155  v1_8 s0_10 zM_12
  else getA (M_s zM_12) 319 (7 : Int32) fun e_26 =>
  Option.bind (f_X6_bits e_26) fun r_27 =>
  if r_27 = (1 : Int32) then loop2 (f_X6_guessWord_L118 ) FU (0 : Int32) zM_12
  else f_X6_guessWord_J155  v1_8 s0_10 zM_12)
def f_X6_guessWord (zM : Md)  : Option (Int32 × Md) :=
  Option.bind (f_X6_error zM) fun r_1 =>
  if r_1 = (-6 : Int32) then Option.bind (f_X6_endOf zM (0 : Int32)) fun r_2 =>
  if r_2 = (M_typed zM) then Option.bind (f_X6_runs zM) fun r_3 =>
  if r_3 = 0 then some ((-3 : Int32), zM)
  else getA (M_s zM) 319 (3 : Int32) fun e_4 =>
  if (M_typed zM) = e_4 then Option.bind (f_X6_saves zM) fun r_5 =>
  Option.bind (f_X6_placeFor r_5 (0 : Int32) (M_typed r_5)) fun r_6 =>
  Option.bind (f_X6_isIn r_5 (0 : Int32) (M_typed r_5)) fun r_7 =>
  if r_7 = 0 then f_X6_guessWord_J86  r_6 r_5 (0 : Int32)
  else Option.bind (f_X6_isCandidate r_5 r_6) fun r_37 =>
  if r_37 = 0 then f_X6_guessWord_J86  r_6 r_5 (0 : Int32)
  else f_X6_guessWord_J86  r_6 r_5 (1 : Int32)
  else some ((-3 : Int32), zM)
  else some ((-5 : Int32), zM)
  else some ((-5 : Int32), zM)
abbrev rm_X6_guessWord : Room := { frames := 4, cells := 0, slots := 0, locals := 93 }
theorem in_X6_guessWord_6 : ∀ w ∈ wsX60, w ∈ wsX6_guessWord := fun _ h => List.mem_cons_of_mem _ (List.mem_append_right _ h)
theorem k_X6_guessWord_1 : Cond.fieldLink RX6 48 "DodgingHangmanModel" "typed" "I" ∈ wsX6_guessWord := List.mem_of_getElem? (i := 1) rfl
theorem k_X6_guessWord_2 : Cond.fieldLink RX6 7 "DodgingHangmanModel" "s" "[I" ∈ wsX6_guessWord := List.mem_of_getElem? (i := 2) rfl
theorem k_X6_guessWord_3 : Cond.fieldLink RX6 19 "DodgingHangmanModel" "text" "[I" ∈ wsX6_guessWord := List.mem_of_getElem? (i := 3) rfl
theorem nd_X6_guessWord : yX6_guessWord.cls ≠ "java/lang/invoke/MethodHandle" ∧ yX6_guessWord.cls ≠ "java/lang/invoke/VarHandle" ∧ (parseMethodDescriptor yX6_guessWord.desc).map (fun d => d.parameters.length) = some 0 := by decide +kernel
set_option maxHeartbeats 4000000 in
set_option maxRecDepth 100000 in
theorem c_X6_guessWord (l : Launch) (g : Gv) (aM : A10) (zM : Md)  (o : Int32 × Md) (h : f_X6_guessWord zM  = some o) : Ct l g yX6_guessWord wsX6_guessWord rm_X6_guessWord [.ref aM.1] (wM g aM zM) (Qi g o.1 (fun _ : Unit => wM g aM o.2) (fun _ => True)) := by
  refine enter (ret := (some .int)) (X := wM g aM zM) (pl := []) pn_X6 rfl (Nat.le_of_ble_eq_true rfl) ((List.append_nil _).symm) ?_
  intro p e s m args below meth c A Q C Cr hin hQ
  unfold f_X6_guessWord at h
  have J176 : ∀ (v2_17 : Int32) (zM_18 : Md) (s1_19 : Int32) (s2_20 : Int32) (s3_21 : Int32), f_X6_guessWord_J176  v2_17 zM_18 s1_19 s2_20 s3_21 = some o → V p l e rm_X6_guessWord s m args below meth c g 4 A 0 0 Q (wM g aM zM_18) [] [(0, .ref aM.1), (2, .int v2_17)] 176 [.int s3_21, .int s2_20, .int s1_19, .ref aM.2.1] := by
    intro v2_17 zM_18 s1_19 s2_20 s3_21 h
    unfold f_X6_guessWord_J176 at h
    refine v_iand (pc' := 177) C dX6_guessWord_176 rfl ?_
    refine v_iast (pc' := 178) C h 1 (fun z9 => wM g aM z9) rfl rfl dX6_guessWord_177 rfl (fun zM_22 h => ?_)
    refine v_aload_n (pc' := 179) C 0 dX6_guessWord_178 rfl rfl ?_
    refine v_iload_n (pc' := 180) C 1 dX6_guessWord_179 rfl rfl ?_
    refine v_callv (pc' := 183) C h ([]) (fun r9 (u9 : Unit) => wM g aM r9) (fun r hr => run_V C (c_X6_misses l g aM _ _ r hr) gX6_guessWord_X6_misses rfl nd_X6_misses rfl rfl rfl rfl ⟨Nat.le_of_ble_eq_true rfl, Nat.le_of_ble_eq_true rfl⟩ ⟨Nat.le_of_ble_eq_true rfl, Nat.le_of_ble_eq_true rfl⟩ (Nat.le_of_ble_eq_true rfl) dX6_guessWord_180 rfl) [0, 1, 2, 3, 4, 5, 6, 7, 8, 9] [] [0, 1, 2, 3, 4, 5, 6, 7, 8, 9] rfl rfl rfl rfl (by decide) rfl (fun _ _ => rfl) (k' := 0) (n' := 0) rfl rfl rfl (fun r_23 _ _ h => ?_)
    refine v_aload_n (pc' := 184) C 0 dX6_guessWord_183 rfl rfl ?_
    refine v_iconst (pc' := 185) C (0) dX6_guessWord_184 ic_0 rfl ?_
    refine p_M_typed (pc' := 188) C h 0 (fun z9 => wM g aM z9) in_X6_guessWord_6 rfl k_X6_guessWord_1 rfl dX6_guessWord_185 (Nat.le_of_ble_eq_true rfl) rfl (fun zM_24 h => ?_)
    refine v_aload_n (pc' := 189) C 0 dX6_guessWord_188 rfl rfl ?_
    refine g_M_s (pc' := 192) C 0 in_X6_guessWord_6 rfl k_X6_guessWord_2 rfl dX6_guessWord_189 rfl ?_
    refine v_iconst (pc' := 193) C (2) dX6_guessWord_192 ic_2 rfl ?_
    refine v_iald (pc' := 194) C h 1 rfl dX6_guessWord_193 rfl (fun e_25 h => ?_)
    refine v_iconst (pc' := 195) C (2) dX6_guessWord_194 ic_2 rfl ?_
    refine v_icmp_ne C 202 198 h dX6_guessWord_195 (by decide) rfl (fun _ h => ?_) (fun _ h => ?_)
    · refine v_iconst (pc' := 203) C (0) dX6_guessWord_202 ic_0 rfl ?_
      exact v_iret (rf := fun (o9 : Int32 × Md) => o9.1) (Wf := fun (o9 : Int32 × Md) (u9 : Unit) => wM g aM o9.2) (ok := fun (o9 : Int32 × Md) (u9 : Unit) => True) C Cr h hQ () trivial rfl rfl dX6_guessWord_203
    · refine v_iconst (pc' := 199) C (1) dX6_guessWord_198 ic_1 rfl ?_
      refine v_goto C (pc' := 203) dX6_guessWord_199 (by decide) ?_
      exact v_iret (rf := fun (o9 : Int32 × Md) => o9.1) (Wf := fun (o9 : Int32 × Md) (u9 : Unit) => wM g aM o9.2) (ok := fun (o9 : Int32 × Md) (u9 : Unit) => True) C Cr h hQ () trivial rfl rfl dX6_guessWord_203
  have J155 : ∀ (v1_13 : Int32) (v2_14 : Int32) (zM_15 : Md), f_X6_guessWord_J155  v1_13 v2_14 zM_15 = some o → V p l e rm_X6_guessWord s m args below meth c g 4 A 0 0 Q (wM g aM zM_15) [] [(0, .ref aM.1), (1, .int v1_13), (2, .int v2_14)] 155 [] := by
    intro v1_13 v2_14 zM_15 h
    unfold f_X6_guessWord_J155 at h
    refine v_aload_n (pc' := 156) C 0 dX6_guessWord_155 rfl rfl ?_
    refine g_M_s (pc' := 159) C 0 in_X6_guessWord_6 rfl k_X6_guessWord_2 rfl dX6_guessWord_156 rfl ?_
    refine v_bipush (pc' := 161) C (7) dX6_guessWord_159 bc_7 rfl ?_
    refine v_dup2 (pc' := 162) C dX6_guessWord_161 rfl rfl rfl ?_
    refine v_iald (pc' := 163) C h 1 rfl dX6_guessWord_162 rfl (fun e_16 h => ?_)
    refine v_iload_n (pc' := 164) C 2 dX6_guessWord_163 rfl rfl ?_
    refine v_if_eq C 175 167 h dX6_guessWord_164 (by decide) rfl (fun _ h => ?_) (fun _ h => ?_)
    · refine v_iconst (pc' := 176) C (-1) dX6_guessWord_175 ic_m1 rfl ?_
      refine v_lv [0, 2] (lv' := [(0, .ref aM.1), (2, .int v2_14)]) rfl ?_
      exact J176 v2_14 zM_15 (7 : Int32) e_16 (-1 : Int32) h
    · refine v_iconst (pc' := 168) C (1) dX6_guessWord_167 ic_1 rfl ?_
      refine v_iload_n (pc' := 169) C 1 dX6_guessWord_168 rfl rfl ?_
      refine v_ishl (pc' := 170) C dX6_guessWord_169 rfl ?_
      refine v_iconst (pc' := 171) C (-1) dX6_guessWord_170 ic_m1 rfl ?_
      refine v_ixor (pc' := 172) C dX6_guessWord_171 rfl ?_
      refine v_goto C (pc' := 176) dX6_guessWord_172 (by decide) ?_
      refine v_lv [0, 2] (lv' := [(0, .ref aM.1), (2, .int v2_14)]) rfl ?_
      exact J176 v2_14 zM_15 (7 : Int32) e_16 (((1 : Int32) <<< (v1_13 &&& 31)) ^^^ (-1 : Int32)) h
  have J147 : ∀ (zM_30 : Md), f_X6_guessWord_J147  zM_30 = some o → V p l e rm_X6_guessWord s m args below meth c g 4 A 0 0 Q (wM g aM zM_30) [] [(0, .ref aM.1)] 147 [] := by
    intro zM_30 h
    unfold f_X6_guessWord_J147 at h
    refine v_aload_n (pc' := 148) C 0 dX6_guessWord_147 rfl rfl ?_
    refine v_iconst (pc' := 149) C (2) dX6_guessWord_148 ic_2 rfl ?_
    refine v_callv (pc' := 152) C h ([]) (fun r9 (u9 : Unit) => wM g aM r9) (fun r hr => run_V C (c_X6_ends l g aM _ _ r hr) gX6_guessWord_X6_ends rfl nd_X6_ends rfl rfl rfl rfl ⟨Nat.le_of_ble_eq_true rfl, Nat.le_of_ble_eq_true rfl⟩ ⟨Nat.le_of_ble_eq_true rfl, Nat.le_of_ble_eq_true rfl⟩ (Nat.le_of_ble_eq_true rfl) dX6_guessWord_149 rfl) [0, 1, 2, 3, 4, 5, 6, 7, 8, 9] [] [0, 1, 2, 3, 4, 5, 6, 7, 8, 9] rfl rfl rfl rfl (by decide) rfl (fun _ _ => rfl) (k' := 0) (n' := 0) rfl rfl rfl (fun r_31 _ _ h => ?_)
    refine v_goto C (pc' := 183) dX6_guessWord_152 (by decide) ?_
    refine v_aload_n (pc' := 184) C 0 dX6_guessWord_183 rfl rfl ?_
    refine v_iconst (pc' := 185) C (0) dX6_guessWord_184 ic_0 rfl ?_
    refine p_M_typed (pc' := 188) C h 0 (fun z9 => wM g aM z9) in_X6_guessWord_6 rfl k_X6_guessWord_1 rfl dX6_guessWord_185 (Nat.le_of_ble_eq_true rfl) rfl (fun zM_32 h => ?_)
    refine v_aload_n (pc' := 189) C 0 dX6_guessWord_188 rfl rfl ?_
    refine g_M_s (pc' := 192) C 0 in_X6_guessWord_6 rfl k_X6_guessWord_2 rfl dX6_guessWord_189 rfl ?_
    refine v_iconst (pc' := 193) C (2) dX6_guessWord_192 ic_2 rfl ?_
    refine v_iald (pc' := 194) C h 1 rfl dX6_guessWord_193 rfl (fun e_33 h => ?_)
    refine v_iconst (pc' := 195) C (2) dX6_guessWord_194 ic_2 rfl ?_
    refine v_icmp_ne C 202 198 h dX6_guessWord_195 (by decide) rfl (fun _ h => ?_) (fun _ h => ?_)
    · refine v_iconst (pc' := 203) C (0) dX6_guessWord_202 ic_0 rfl ?_
      exact v_iret (rf := fun (o9 : Int32 × Md) => o9.1) (Wf := fun (o9 : Int32 × Md) (u9 : Unit) => wM g aM o9.2) (ok := fun (o9 : Int32 × Md) (u9 : Unit) => True) C Cr h hQ () trivial rfl rfl dX6_guessWord_203
    · refine v_iconst (pc' := 199) C (1) dX6_guessWord_198 ic_1 rfl ?_
      refine v_goto C (pc' := 203) dX6_guessWord_199 (by decide) ?_
      exact v_iret (rf := fun (o9 : Int32 × Md) => o9.1) (Wf := fun (o9 : Int32 × Md) (u9 : Unit) => wM g aM o9.2) (ok := fun (o9 : Int32 × Md) (u9 : Unit) => True) C Cr h hQ () trivial rfl rfl dX6_guessWord_203
  have J86 : ∀ (v1_8 : Int32) (zM_9 : Md) (s0_10 : Int32), f_X6_guessWord_J86  v1_8 zM_9 s0_10 = some o → V p l e rm_X6_guessWord s m args below meth c g 4 A 0 0 Q (wM g aM zM_9) [] [(0, .ref aM.1), (1, .int v1_8)] 86 [.int s0_10] := by
    intro v1_8 zM_9 s0_10 h
    unfold f_X6_guessWord_J86 at h
    refine v_istore_n (pc' := 87) C [1, 2, 0] (lv' := [(0, .ref aM.1), (1, .int v1_8), (2, .int s0_10)]) dX6_guessWord_86 (Nat.le_of_ble_eq_true rfl) rfl rfl ?_
    refine v_aload_n (pc' := 88) C 0 dX6_guessWord_87 rfl rfl ?_
    refine g_M_s (pc' := 91) C 0 in_X6_guessWord_6 rfl k_X6_guessWord_2 rfl dX6_guessWord_88 rfl ?_
    refine v_bipush (pc' := 93) C (12) dX6_guessWord_91 bc_12 rfl ?_
    refine v_dup2 (pc' := 94) C dX6_guessWord_93 rfl rfl rfl ?_
    refine v_iald (pc' := 95) C h 1 rfl dX6_guessWord_94 rfl (fun e_11 h => ?_)
    refine v_iconst (pc' := 96) C (1) dX6_guessWord_95 ic_1 rfl ?_
    refine v_iadd (pc' := 97) C dX6_guessWord_96 rfl ?_
    refine v_iast (pc' := 98) C h 1 (fun z9 => wM g aM z9) rfl rfl dX6_guessWord_97 rfl (fun zM_12 h => ?_)
    refine v_iload_n (pc' := 99) C 2 dX6_guessWord_98 rfl rfl ?_
    refine v_if_eq C 155 102 h dX6_guessWord_99 (by decide) rfl (fun _ h => ?_) (fun _ h => ?_)
    · exact J155 v1_8 s0_10 zM_12 h
    · refine v_aload_n (pc' := 103) C 0 dX6_guessWord_102 rfl rfl ?_
      refine g_M_s (pc' := 106) C 0 in_X6_guessWord_6 rfl k_X6_guessWord_2 rfl dX6_guessWord_103 rfl ?_
      refine v_bipush (pc' := 108) C (7) dX6_guessWord_106 bc_7 rfl ?_
      refine v_iald (pc' := 109) C h 1 rfl dX6_guessWord_108 rfl (fun e_26 h => ?_)
      refine v_purei (pc' := 112) C h (rf := fun r9 => r9) (fun r hr => run_S C (c_X6_bits l g _ r hr) gX6_guessWord_X6_bits rfl nd_X6_bits ⟨Nat.le_of_ble_eq_true rfl, Nat.le_of_ble_eq_true rfl⟩ ⟨Nat.le_of_ble_eq_true rfl, Nat.le_of_ble_eq_true rfl⟩ (Nat.le_of_ble_eq_true rfl) dX6_guessWord_109 rfl) rfl (fun r_27 h => ?_)
      refine v_iconst (pc' := 113) C (1) dX6_guessWord_112 ic_1 rfl ?_
      refine v_icmp_ne C 155 116 h dX6_guessWord_113 (by decide) rfl (fun _ h => ?_) (fun _ h => ?_)
      · exact J155 v1_8 s0_10 zM_12 h
      · refine v_iconst (pc' := 117) C (0) dX6_guessWord_116 ic_0 rfl ?_
        refine v_istore_n (pc' := 118) C [1, 2, 3, 0] (lv' := [(0, .ref aM.1), (1, .int v1_8), (2, .int s0_10), (3, .int (0 : Int32))]) dX6_guessWord_117 (Nat.le_of_ble_eq_true rfl) rfl rfl ?_
        refine v_lv [0, 3] (lv' := [(0, .ref aM.1), (3, .int (0 : Int32))]) rfl ?_
        refine v_loop2 (fun (v3_28 : Int32) (zM_29 : Md) => V p l e rm_X6_guessWord s m args below meth c g 4 A 0 0 Q (wM g aM zM_29) [] [(0, .ref aM.1), (3, .int v3_28)] 118 []) (fun re118 ih118 v3_28 zM_29 h => ?_) (0 : Int32) zM_12 h
        unfold f_X6_guessWord_L118 at h
        refine v_iload_n (pc' := 119) C 1 dX6_guessWord_118 rfl rfl ?_
        refine v_aload_n (pc' := 120) C 0 dX6_guessWord_119 rfl rfl ?_
        refine g_M_typed (pc' := 123) C 0 in_X6_guessWord_6 rfl k_X6_guessWord_1 rfl dX6_guessWord_120 rfl ?_
        refine v_icmp_ge C 147 126 h dX6_guessWord_123 (by decide) rfl (fun _ h => ?_) (fun _ h => ?_)
        · refine v_lv [0] (lv' := [(0, .ref aM.1)]) rfl ?_
          exact J147 zM_29 h
        · refine v_aload_n (pc' := 127) C 0 dX6_guessWord_126 rfl rfl ?_
          refine g_M_s (pc' := 130) C 0 in_X6_guessWord_6 rfl k_X6_guessWord_2 rfl dX6_guessWord_127 rfl ?_
          refine v_bipush (pc' := 132) C (41) dX6_guessWord_130 bc_41 rfl ?_
          refine v_iload_n (pc' := 133) C 1 dX6_guessWord_132 rfl rfl ?_
          refine v_iadd (pc' := 134) C dX6_guessWord_133 rfl ?_
          refine v_aload_n (pc' := 135) C 0 dX6_guessWord_134 rfl rfl ?_
          refine g_M_text (pc' := 138) C 0 in_X6_guessWord_6 rfl k_X6_guessWord_3 rfl dX6_guessWord_135 rfl ?_
          refine v_iload_n (pc' := 139) C 1 dX6_guessWord_138 rfl rfl ?_
          refine v_iald (pc' := 140) C h 4 rfl dX6_guessWord_139 rfl (fun e_34 h => ?_)
          refine v_iast (pc' := 141) C h 1 (fun z9 => wM g aM z9) rfl rfl dX6_guessWord_140 rfl (fun zM_35 h => ?_)
          refine v_iinc (pc' := 144) C 1 [1, 0] (1) dX6_guessWord_141 rfl ic_1 (Nat.le_of_ble_eq_true rfl) h (lw := fun v9 => [(0, .ref aM.1), (3, .int v9)]) (fun _ => rfl) rfl (fun v3_36 h => ?_)
          refine v_goto C (pc' := 118) dX6_guessWord_144 (by decide) ?_
          exact ih118 v3_36 zM_35 h
  refine v_aload_n (pc' := 1) C 0 dX6_guessWord_0 rfl rfl ?_
  refine v_calli (pc' := 4) C h (rf := fun r9 => r9) ([]) (fun r9 (u9 : Unit) => wM g aM zM) (fun r hr => run_V C (c_X6_error l g aM _ r hr) gX6_guessWord_X6_error rfl nd_X6_error rfl rfl rfl rfl ⟨Nat.le_of_ble_eq_true rfl, Nat.le_of_ble_eq_true rfl⟩ ⟨Nat.le_of_ble_eq_true rfl, Nat.le_of_ble_eq_true rfl⟩ (Nat.le_of_ble_eq_true rfl) dX6_guessWord_1 rfl) [0, 1, 2, 3, 4, 5, 6, 7, 8, 9] [] [0, 1, 2, 3, 4, 5, 6, 7, 8, 9] rfl rfl rfl rfl (by decide) rfl (fun _ _ => rfl) (k' := 0) (n' := 0) rfl rfl rfl (fun r_1 _ _ h => ?_)
  refine v_bipush (pc' := 6) C (-6) dX6_guessWord_4 bc_m6 rfl ?_
  refine v_icmp_ne C 21 9 h dX6_guessWord_6 (by decide) rfl (fun _ h => ?_) (fun _ h => ?_)
  · refine v_bipush (pc' := 23) C (-5) dX6_guessWord_21 bc_m5 rfl ?_
    exact v_iret (rf := fun (o9 : Int32 × Md) => o9.1) (Wf := fun (o9 : Int32 × Md) (u9 : Unit) => wM g aM o9.2) (ok := fun (o9 : Int32 × Md) (u9 : Unit) => True) C Cr h hQ () trivial rfl rfl dX6_guessWord_23
  · refine v_aload_n (pc' := 10) C 0 dX6_guessWord_9 rfl rfl ?_
    refine v_iconst (pc' := 11) C (0) dX6_guessWord_10 ic_0 rfl ?_
    refine v_calli (pc' := 14) C h (rf := fun r9 => r9) ([]) (fun r9 (u9 : Unit) => wM g aM zM) (fun r hr => run_V C (c_X6_endOf l g aM _ _ r hr) gX6_guessWord_X6_endOf rfl nd_X6_endOf rfl rfl rfl rfl ⟨Nat.le_of_ble_eq_true rfl, Nat.le_of_ble_eq_true rfl⟩ ⟨Nat.le_of_ble_eq_true rfl, Nat.le_of_ble_eq_true rfl⟩ (Nat.le_of_ble_eq_true rfl) dX6_guessWord_11 rfl) [0, 1, 2, 3, 4, 5, 6, 7, 8, 9] [] [0, 1, 2, 3, 4, 5, 6, 7, 8, 9] rfl rfl rfl rfl (by decide) rfl (fun _ _ => rfl) (k' := 0) (n' := 0) rfl rfl rfl (fun r_2 _ _ h => ?_)
    refine v_aload_n (pc' := 15) C 0 dX6_guessWord_14 rfl rfl ?_
    refine g_M_typed (pc' := 18) C 0 in_X6_guessWord_6 rfl k_X6_guessWord_1 rfl dX6_guessWord_15 rfl ?_
    refine v_icmp_eq C 24 21 h dX6_guessWord_18 (by decide) rfl (fun _ h => ?_) (fun _ h => ?_)
    · refine v_aload_n (pc' := 25) C 0 dX6_guessWord_24 rfl rfl ?_
      refine v_calli (pc' := 28) C h (rf := fun r9 => r9) ([]) (fun r9 (u9 : Unit) => wM g aM zM) (fun r hr => run_V C (c_X6_runs l g aM _ r hr) gX6_guessWord_X6_runs rfl nd_X6_runs rfl rfl rfl rfl ⟨Nat.le_of_ble_eq_true rfl, Nat.le_of_ble_eq_true rfl⟩ ⟨Nat.le_of_ble_eq_true rfl, Nat.le_of_ble_eq_true rfl⟩ (Nat.le_of_ble_eq_true rfl) dX6_guessWord_25 rfl) [0, 1, 2, 3, 4, 5, 6, 7, 8, 9] [] [0, 1, 2, 3, 4, 5, 6, 7, 8, 9] rfl rfl rfl rfl (by decide) rfl (fun _ _ => rfl) (k' := 0) (n' := 0) rfl rfl rfl (fun r_3 _ _ h => ?_)
      refine v_if_eq C 44 31 h dX6_guessWord_28 (by decide) rfl (fun _ h => ?_) (fun _ h => ?_)
      · refine v_bipush (pc' := 46) C (-3) dX6_guessWord_44 bc_m3 rfl ?_
        exact v_iret (rf := fun (o9 : Int32 × Md) => o9.1) (Wf := fun (o9 : Int32 × Md) (u9 : Unit) => wM g aM o9.2) (ok := fun (o9 : Int32 × Md) (u9 : Unit) => True) C Cr h hQ () trivial rfl rfl dX6_guessWord_46
      · refine v_aload_n (pc' := 32) C 0 dX6_guessWord_31 rfl rfl ?_
        refine g_M_typed (pc' := 35) C 0 in_X6_guessWord_6 rfl k_X6_guessWord_1 rfl dX6_guessWord_32 rfl ?_
        refine v_aload_n (pc' := 36) C 0 dX6_guessWord_35 rfl rfl ?_
        refine g_M_s (pc' := 39) C 0 in_X6_guessWord_6 rfl k_X6_guessWord_2 rfl dX6_guessWord_36 rfl ?_
        refine v_iconst (pc' := 40) C (3) dX6_guessWord_39 ic_3 rfl ?_
        refine v_iald (pc' := 41) C h 1 rfl dX6_guessWord_40 rfl (fun e_4 h => ?_)
        refine v_icmp_eq C 47 44 h dX6_guessWord_41 (by decide) rfl (fun _ h => ?_) (fun _ h => ?_)
        · refine v_aload_n (pc' := 48) C 0 dX6_guessWord_47 rfl rfl ?_
          refine v_callv (pc' := 51) C h ([]) (fun r9 (u9 : Unit) => wM g aM r9) (fun r hr => run_V C (c_X6_saves l g aM _ r hr) gX6_guessWord_X6_saves rfl nd_X6_saves rfl rfl rfl rfl ⟨Nat.le_of_ble_eq_true rfl, Nat.le_of_ble_eq_true rfl⟩ ⟨Nat.le_of_ble_eq_true rfl, Nat.le_of_ble_eq_true rfl⟩ (Nat.le_of_ble_eq_true rfl) dX6_guessWord_48 rfl) [0, 1, 2, 3, 4, 5, 6, 7, 8, 9] [] [0, 1, 2, 3, 4, 5, 6, 7, 8, 9] rfl rfl rfl rfl (by decide) rfl (fun _ _ => rfl) (k' := 0) (n' := 0) rfl rfl rfl (fun r_5 _ _ h => ?_)
          refine v_aload_n (pc' := 52) C 0 dX6_guessWord_51 rfl rfl ?_
          refine v_iconst (pc' := 53) C (0) dX6_guessWord_52 ic_0 rfl ?_
          refine v_aload_n (pc' := 54) C 0 dX6_guessWord_53 rfl rfl ?_
          refine g_M_typed (pc' := 57) C 0 in_X6_guessWord_6 rfl k_X6_guessWord_1 rfl dX6_guessWord_54 rfl ?_
          refine v_calli (pc' := 60) C h (rf := fun r9 => r9) ([]) (fun r9 (u9 : Unit) => wM g aM r_5) (fun r hr => run_V C (c_X6_placeFor l g aM _ _ _ r hr) gX6_guessWord_X6_placeFor rfl nd_X6_placeFor rfl rfl rfl rfl ⟨Nat.le_of_ble_eq_true rfl, Nat.le_of_ble_eq_true rfl⟩ ⟨Nat.le_of_ble_eq_true rfl, Nat.le_of_ble_eq_true rfl⟩ (Nat.le_of_ble_eq_true rfl) dX6_guessWord_57 rfl) [0, 1, 2, 3, 4, 5, 6, 7, 8, 9] [] [0, 1, 2, 3, 4, 5, 6, 7, 8, 9] rfl rfl rfl rfl (by decide) rfl (fun _ _ => rfl) (k' := 0) (n' := 0) rfl rfl rfl (fun r_6 _ _ h => ?_)
          refine v_istore_n (pc' := 61) C [1, 0] (lv' := [(0, .ref aM.1), (1, .int r_6)]) dX6_guessWord_60 (Nat.le_of_ble_eq_true rfl) rfl rfl ?_
          refine v_aload_n (pc' := 62) C 0 dX6_guessWord_61 rfl rfl ?_
          refine v_iconst (pc' := 63) C (0) dX6_guessWord_62 ic_0 rfl ?_
          refine v_aload_n (pc' := 64) C 0 dX6_guessWord_63 rfl rfl ?_
          refine g_M_typed (pc' := 67) C 0 in_X6_guessWord_6 rfl k_X6_guessWord_1 rfl dX6_guessWord_64 rfl ?_
          refine v_calli (pc' := 70) C h (rf := fun r9 => r9) ([]) (fun r9 (u9 : Unit) => wM g aM r_5) (fun r hr => run_V C (c_X6_isIn l g aM _ _ _ r hr) gX6_guessWord_X6_isIn rfl nd_X6_isIn rfl rfl rfl rfl ⟨Nat.le_of_ble_eq_true rfl, Nat.le_of_ble_eq_true rfl⟩ ⟨Nat.le_of_ble_eq_true rfl, Nat.le_of_ble_eq_true rfl⟩ (Nat.le_of_ble_eq_true rfl) dX6_guessWord_67 rfl) [0, 1, 2, 3, 4, 5, 6, 7, 8, 9] [] [0, 1, 2, 3, 4, 5, 6, 7, 8, 9] rfl rfl rfl rfl (by decide) rfl (fun _ _ => rfl) (k' := 0) (n' := 0) rfl rfl rfl (fun r_7 _ _ h => ?_)
          refine v_if_eq C 85 73 h dX6_guessWord_70 (by decide) rfl (fun _ h => ?_) (fun _ h => ?_)
          · refine v_iconst (pc' := 86) C (0) dX6_guessWord_85 ic_0 rfl ?_
            exact J86 r_6 r_5 (0 : Int32) h
          · refine v_aload_n (pc' := 74) C 0 dX6_guessWord_73 rfl rfl ?_
            refine v_iload_n (pc' := 75) C 1 dX6_guessWord_74 rfl rfl ?_
            refine v_calli (pc' := 78) C h (rf := fun r9 => r9) ([]) (fun r9 (u9 : Unit) => wM g aM r_5) (fun r hr => run_V C (c_X6_isCandidate l g aM _ _ r hr) gX6_guessWord_X6_isCandidate rfl nd_X6_isCandidate rfl rfl rfl rfl ⟨Nat.le_of_ble_eq_true rfl, Nat.le_of_ble_eq_true rfl⟩ ⟨Nat.le_of_ble_eq_true rfl, Nat.le_of_ble_eq_true rfl⟩ (Nat.le_of_ble_eq_true rfl) dX6_guessWord_75 rfl) [0, 1, 2, 3, 4, 5, 6, 7, 8, 9] [] [0, 1, 2, 3, 4, 5, 6, 7, 8, 9] rfl rfl rfl rfl (by decide) rfl (fun _ _ => rfl) (k' := 0) (n' := 0) rfl rfl rfl (fun r_37 _ _ h => ?_)
            refine v_if_eq C 85 81 h dX6_guessWord_78 (by decide) rfl (fun _ h => ?_) (fun _ h => ?_)
            · refine v_iconst (pc' := 86) C (0) dX6_guessWord_85 ic_0 rfl ?_
              exact J86 r_6 r_5 (0 : Int32) h
            · refine v_iconst (pc' := 82) C (1) dX6_guessWord_81 ic_1 rfl ?_
              refine v_goto C (pc' := 86) dX6_guessWord_82 (by decide) ?_
              exact J86 r_6 r_5 (1 : Int32) h
        · refine v_bipush (pc' := 46) C (-3) dX6_guessWord_44 bc_m3 rfl ?_
          exact v_iret (rf := fun (o9 : Int32 × Md) => o9.1) (Wf := fun (o9 : Int32 × Md) (u9 : Unit) => wM g aM o9.2) (ok := fun (o9 : Int32 × Md) (u9 : Unit) => True) C Cr h hQ () trivial rfl rfl dX6_guessWord_46
    · refine v_bipush (pc' := 23) C (-5) dX6_guessWord_21 bc_m5 rfl ?_
      exact v_iret (rf := fun (o9 : Int32 × Md) => o9.1) (Wf := fun (o9 : Int32 × Md) (u9 : Unit) => wM g aM o9.2) (ok := fun (o9 : Int32 × Md) (u9 : Unit) => True) C Cr h hQ () trivial rfl rfl dX6_guessWord_23
def f_X6_giveUp (zM : Md)  : Option (Int32 × Md) :=
  Option.bind (f_X6_runs zM) fun r_1 =>
  if r_1 = 0 then some ((-3 : Int32), zM)
  else Option.bind (f_X6_saves zM) fun r_2 =>
  Option.bind (f_X6_ends r_2 (3 : Int32)) fun r_3 =>
  getA (M_s r_3) 319 (7 : Int32) fun e_4 =>
  Option.bind (f_X6_lowest e_4) fun r_5 =>
  some (r_5, r_3)
abbrev rm_X6_giveUp : Room := { frames := 1, cells := 0, slots := 0, locals := 21 }
theorem in_X6_giveUp_6 : ∀ w ∈ wsX60, w ∈ wsX6_giveUp := fun _ h => List.mem_cons_of_mem _ (List.mem_append_right _ h)
theorem k_X6_giveUp_1 : Cond.fieldLink RX6 7 "DodgingHangmanModel" "s" "[I" ∈ wsX6_giveUp := List.mem_of_getElem? (i := 1) rfl
theorem nd_X6_giveUp : yX6_giveUp.cls ≠ "java/lang/invoke/MethodHandle" ∧ yX6_giveUp.cls ≠ "java/lang/invoke/VarHandle" ∧ (parseMethodDescriptor yX6_giveUp.desc).map (fun d => d.parameters.length) = some 0 := by decide +kernel
set_option maxHeartbeats 4000000 in
set_option maxRecDepth 100000 in
theorem c_X6_giveUp (l : Launch) (g : Gv) (aM : A10) (zM : Md)  (o : Int32 × Md) (h : f_X6_giveUp zM  = some o) : Ct l g yX6_giveUp wsX6_giveUp rm_X6_giveUp [.ref aM.1] (wM g aM zM) (Qi g o.1 (fun _ : Unit => wM g aM o.2) (fun _ => True)) := by
  refine enter (ret := (some .int)) (X := wM g aM zM) (pl := []) pn_X6 rfl (Nat.le_of_ble_eq_true rfl) ((List.append_nil _).symm) ?_
  intro p e s m args below meth c A Q C Cr hin hQ
  unfold f_X6_giveUp at h
  refine v_aload_n (pc' := 1) C 0 dX6_giveUp_0 rfl rfl ?_
  refine v_calli (pc' := 4) C h (rf := fun r9 => r9) ([]) (fun r9 (u9 : Unit) => wM g aM zM) (fun r hr => run_V C (c_X6_runs l g aM _ r hr) gX6_giveUp_X6_runs rfl nd_X6_runs rfl rfl rfl rfl ⟨Nat.le_of_ble_eq_true rfl, Nat.le_of_ble_eq_true rfl⟩ ⟨Nat.le_of_ble_eq_true rfl, Nat.le_of_ble_eq_true rfl⟩ (Nat.le_of_ble_eq_true rfl) dX6_giveUp_1 rfl) [0, 1, 2, 3, 4, 5, 6, 7, 8, 9] [] [0, 1, 2, 3, 4, 5, 6, 7, 8, 9] rfl rfl rfl rfl (by decide) rfl (fun _ _ => rfl) (k' := 0) (n' := 0) rfl rfl rfl (fun r_1 _ _ h => ?_)
  refine v_if_ne C 10 7 h dX6_giveUp_4 (by decide) rfl (fun _ h => ?_) (fun _ h => ?_)
  · refine v_aload_n (pc' := 11) C 0 dX6_giveUp_10 rfl rfl ?_
    refine v_callv (pc' := 14) C h ([]) (fun r9 (u9 : Unit) => wM g aM r9) (fun r hr => run_V C (c_X6_saves l g aM _ r hr) gX6_giveUp_X6_saves rfl nd_X6_saves rfl rfl rfl rfl ⟨Nat.le_of_ble_eq_true rfl, Nat.le_of_ble_eq_true rfl⟩ ⟨Nat.le_of_ble_eq_true rfl, Nat.le_of_ble_eq_true rfl⟩ (Nat.le_of_ble_eq_true rfl) dX6_giveUp_11 rfl) [0, 1, 2, 3, 4, 5, 6, 7, 8, 9] [] [0, 1, 2, 3, 4, 5, 6, 7, 8, 9] rfl rfl rfl rfl (by decide) rfl (fun _ _ => rfl) (k' := 0) (n' := 0) rfl rfl rfl (fun r_2 _ _ h => ?_)
    refine v_aload_n (pc' := 15) C 0 dX6_giveUp_14 rfl rfl ?_
    refine v_iconst (pc' := 16) C (3) dX6_giveUp_15 ic_3 rfl ?_
    refine v_callv (pc' := 19) C h ([]) (fun r9 (u9 : Unit) => wM g aM r9) (fun r hr => run_V C (c_X6_ends l g aM _ _ r hr) gX6_giveUp_X6_ends rfl nd_X6_ends rfl rfl rfl rfl ⟨Nat.le_of_ble_eq_true rfl, Nat.le_of_ble_eq_true rfl⟩ ⟨Nat.le_of_ble_eq_true rfl, Nat.le_of_ble_eq_true rfl⟩ (Nat.le_of_ble_eq_true rfl) dX6_giveUp_16 rfl) [0, 1, 2, 3, 4, 5, 6, 7, 8, 9] [] [0, 1, 2, 3, 4, 5, 6, 7, 8, 9] rfl rfl rfl rfl (by decide) rfl (fun _ _ => rfl) (k' := 0) (n' := 0) rfl rfl rfl (fun r_3 _ _ h => ?_)
    refine v_aload_n (pc' := 20) C 0 dX6_giveUp_19 rfl rfl ?_
    refine g_M_s (pc' := 23) C 0 in_X6_giveUp_6 rfl k_X6_giveUp_1 rfl dX6_giveUp_20 rfl ?_
    refine v_bipush (pc' := 25) C (7) dX6_giveUp_23 bc_7 rfl ?_
    refine v_iald (pc' := 26) C h 1 rfl dX6_giveUp_25 rfl (fun e_4 h => ?_)
    refine v_purei (pc' := 29) C h (rf := fun r9 => r9) (fun r hr => run_S C (c_X6_lowest l g _ r hr) gX6_giveUp_X6_lowest rfl nd_X6_lowest ⟨Nat.le_of_ble_eq_true rfl, Nat.le_of_ble_eq_true rfl⟩ ⟨Nat.le_of_ble_eq_true rfl, Nat.le_of_ble_eq_true rfl⟩ (Nat.le_of_ble_eq_true rfl) dX6_giveUp_26 rfl) rfl (fun r_5 h => ?_)
    exact v_iret (rf := fun (o9 : Int32 × Md) => o9.1) (Wf := fun (o9 : Int32 × Md) (u9 : Unit) => wM g aM o9.2) (ok := fun (o9 : Int32 × Md) (u9 : Unit) => True) C Cr h hQ () trivial rfl rfl dX6_giveUp_29
  · refine v_bipush (pc' := 9) C (-3) dX6_giveUp_7 bc_m3 rfl ?_
    exact v_iret (rf := fun (o9 : Int32 × Md) => o9.1) (Wf := fun (o9 : Int32 × Md) (u9 : Unit) => wM g aM o9.2) (ok := fun (o9 : Int32 × Md) (u9 : Unit) => True) C Cr h hQ () trivial rfl rfl dX6_giveUp_9
def f_X6_status (zM : Md)  : Option (Int32) :=
  getA (M_s zM) 319 (2 : Int32) fun e_1 =>
  some e_1
abbrev rm_X6_status : Room := { frames := 0, cells := 0, slots := 0, locals := 0 }
theorem in_X6_status_6 : ∀ w ∈ wsX60, w ∈ wsX6_status := fun _ h => List.mem_cons_of_mem _ (List.mem_append_right _ h)
theorem k_X6_status_1 : Cond.fieldLink RX6 7 "DodgingHangmanModel" "s" "[I" ∈ wsX6_status := List.mem_of_getElem? (i := 1) rfl
theorem nd_X6_status : yX6_status.cls ≠ "java/lang/invoke/MethodHandle" ∧ yX6_status.cls ≠ "java/lang/invoke/VarHandle" ∧ (parseMethodDescriptor yX6_status.desc).map (fun d => d.parameters.length) = some 0 := by decide +kernel
set_option maxHeartbeats 4000000 in
set_option maxRecDepth 100000 in
theorem c_X6_status (l : Launch) (g : Gv) (aM : A10) (zM : Md)  (o : Int32) (h : f_X6_status zM  = some o) : Ct l g yX6_status wsX6_status rm_X6_status [.ref aM.1] (wM g aM zM) (Qi g o (fun _ : Unit => wM g aM zM) (fun _ => True)) := by
  refine enter (ret := (some .int)) (X := wM g aM zM) (pl := []) pn_X6 rfl (Nat.le_of_ble_eq_true rfl) ((List.append_nil _).symm) ?_
  intro p e s m args below meth c A Q C Cr hin hQ
  unfold f_X6_status at h
  refine v_aload_n (pc' := 1) C 0 dX6_status_0 rfl rfl ?_
  refine g_M_s (pc' := 4) C 0 in_X6_status_6 rfl k_X6_status_1 rfl dX6_status_1 rfl ?_
  refine v_iconst (pc' := 5) C (2) dX6_status_4 ic_2 rfl ?_
  refine v_iald (pc' := 6) C h 1 rfl dX6_status_5 rfl (fun e_1 h => ?_)
  exact v_iret (rf := fun (o9 : Int32) => o9) (Wf := fun (o9 : Int32) (u9 : Unit) => wM g aM zM) (ok := fun (o9 : Int32) (u9 : Unit) => True) C Cr h hQ () trivial rfl rfl dX6_status_6
def f_X6_lives (zM : Md)  : Option (Int32) :=
  getA (M_s zM) 319 (4 : Int32) fun e_1 =>
  some e_1
abbrev rm_X6_lives : Room := { frames := 0, cells := 0, slots := 0, locals := 0 }
theorem in_X6_lives_6 : ∀ w ∈ wsX60, w ∈ wsX6_lives := fun _ h => List.mem_cons_of_mem _ (List.mem_append_right _ h)
theorem k_X6_lives_1 : Cond.fieldLink RX6 7 "DodgingHangmanModel" "s" "[I" ∈ wsX6_lives := List.mem_of_getElem? (i := 1) rfl
theorem nd_X6_lives : yX6_lives.cls ≠ "java/lang/invoke/MethodHandle" ∧ yX6_lives.cls ≠ "java/lang/invoke/VarHandle" ∧ (parseMethodDescriptor yX6_lives.desc).map (fun d => d.parameters.length) = some 0 := by decide +kernel
set_option maxHeartbeats 4000000 in
set_option maxRecDepth 100000 in
theorem c_X6_lives (l : Launch) (g : Gv) (aM : A10) (zM : Md)  (o : Int32) (h : f_X6_lives zM  = some o) : Ct l g yX6_lives wsX6_lives rm_X6_lives [.ref aM.1] (wM g aM zM) (Qi g o (fun _ : Unit => wM g aM zM) (fun _ => True)) := by
  refine enter (ret := (some .int)) (X := wM g aM zM) (pl := []) pn_X6 rfl (Nat.le_of_ble_eq_true rfl) ((List.append_nil _).symm) ?_
  intro p e s m args below meth c A Q C Cr hin hQ
  unfold f_X6_lives at h
  refine v_aload_n (pc' := 1) C 0 dX6_lives_0 rfl rfl ?_
  refine g_M_s (pc' := 4) C 0 in_X6_lives_6 rfl k_X6_lives_1 rfl dX6_lives_1 rfl ?_
  refine v_iconst (pc' := 5) C (4) dX6_lives_4 ic_4 rfl ?_
  refine v_iald (pc' := 6) C h 1 rfl dX6_lives_5 rfl (fun e_1 h => ?_)
  exact v_iret (rf := fun (o9 : Int32) => o9) (Wf := fun (o9 : Int32) (u9 : Unit) => wM g aM zM) (ok := fun (o9 : Int32) (u9 : Unit) => True) C Cr h hQ () trivial rfl rfl dX6_lives_6
def f_X6_shown (zM : Md) (p1 : Int32) : Option (Int32) :=
  getA (M_s zM) 319 (3 : Int32) fun e_1 =>
  Option.bind (f_X6_in p1 (0 : Int32) (e_1 - (1 : Int32))) fun r_2 =>
  if r_2 = 0 then some (-1 : Int32)
  else getA (M_s zM) 319 ((41 : Int32) + p1) fun e_3 =>
  if e_3 = 0 then some (-6 : Int32)
  else getA (M_s zM) 319 ((41 : Int32) + p1) fun e_4 =>
  some e_4
abbrev rm_X6_shown : Room := { frames := 1, cells := 0, slots := 0, locals := 22 }
theorem in_X6_shown_6 : ∀ w ∈ wsX60, w ∈ wsX6_shown := fun _ h => List.mem_cons_of_mem _ (List.mem_append_right _ h)
theorem k_X6_shown_1 : Cond.fieldLink RX6 7 "DodgingHangmanModel" "s" "[I" ∈ wsX6_shown := List.mem_of_getElem? (i := 1) rfl
theorem nd_X6_shown : yX6_shown.cls ≠ "java/lang/invoke/MethodHandle" ∧ yX6_shown.cls ≠ "java/lang/invoke/VarHandle" ∧ (parseMethodDescriptor yX6_shown.desc).map (fun d => d.parameters.length) = some 1 := by decide +kernel
set_option maxHeartbeats 4000000 in
set_option maxRecDepth 100000 in
theorem c_X6_shown (l : Launch) (g : Gv) (aM : A10) (zM : Md) (p1 : Int32) (o : Int32) (h : f_X6_shown zM p1 = some o) : Ct l g yX6_shown wsX6_shown rm_X6_shown [.ref aM.1, .int p1] (wM g aM zM) (Qi g o (fun _ : Unit => wM g aM zM) (fun _ => True)) := by
  refine enter (ret := (some .int)) (X := wM g aM zM) (pl := []) pn_X6 rfl (Nat.le_of_ble_eq_true rfl) ((List.append_nil _).symm) ?_
  intro p e s m args below meth c A Q C Cr hin hQ
  unfold f_X6_shown at h
  refine v_iload_n (pc' := 1) C 1 dX6_shown_0 rfl rfl ?_
  refine v_iconst (pc' := 2) C (0) dX6_shown_1 ic_0 rfl ?_
  refine v_aload_n (pc' := 3) C 0 dX6_shown_2 rfl rfl ?_
  refine g_M_s (pc' := 6) C 0 in_X6_shown_6 rfl k_X6_shown_1 rfl dX6_shown_3 rfl ?_
  refine v_iconst (pc' := 7) C (3) dX6_shown_6 ic_3 rfl ?_
  refine v_iald (pc' := 8) C h 1 rfl dX6_shown_7 rfl (fun e_1 h => ?_)
  refine v_iconst (pc' := 9) C (1) dX6_shown_8 ic_1 rfl ?_
  refine v_isub (pc' := 10) C dX6_shown_9 rfl ?_
  refine v_purei (pc' := 13) C h (rf := fun r9 => r9) (fun r hr => run_S C (c_X6_in l g _ _ _ r hr) gX6_shown_X6_in rfl nd_X6_in ⟨Nat.le_of_ble_eq_true rfl, Nat.le_of_ble_eq_true rfl⟩ ⟨Nat.le_of_ble_eq_true rfl, Nat.le_of_ble_eq_true rfl⟩ (Nat.le_of_ble_eq_true rfl) dX6_shown_10 rfl) rfl (fun r_2 h => ?_)
  refine v_if_ne C 18 16 h dX6_shown_13 (by decide) rfl (fun _ h => ?_) (fun _ h => ?_)
  · refine v_aload_n (pc' := 19) C 0 dX6_shown_18 rfl rfl ?_
    refine g_M_s (pc' := 22) C 0 in_X6_shown_6 rfl k_X6_shown_1 rfl dX6_shown_19 rfl ?_
    refine v_bipush (pc' := 24) C (41) dX6_shown_22 bc_41 rfl ?_
    refine v_iload_n (pc' := 25) C 1 dX6_shown_24 rfl rfl ?_
    refine v_iadd (pc' := 26) C dX6_shown_25 rfl ?_
    refine v_iald (pc' := 27) C h 1 rfl dX6_shown_26 rfl (fun e_3 h => ?_)
    refine v_if_ne C 35 30 h dX6_shown_27 (by decide) rfl (fun _ h => ?_) (fun _ h => ?_)
    · refine v_aload_n (pc' := 36) C 0 dX6_shown_35 rfl rfl ?_
      refine g_M_s (pc' := 39) C 0 in_X6_shown_6 rfl k_X6_shown_1 rfl dX6_shown_36 rfl ?_
      refine v_bipush (pc' := 41) C (41) dX6_shown_39 bc_41 rfl ?_
      refine v_iload_n (pc' := 42) C 1 dX6_shown_41 rfl rfl ?_
      refine v_iadd (pc' := 43) C dX6_shown_42 rfl ?_
      refine v_iald (pc' := 44) C h 1 rfl dX6_shown_43 rfl (fun e_4 h => ?_)
      exact v_iret (rf := fun (o9 : Int32) => o9) (Wf := fun (o9 : Int32) (u9 : Unit) => wM g aM zM) (ok := fun (o9 : Int32) (u9 : Unit) => True) C Cr h hQ () trivial rfl rfl dX6_shown_44
    · refine v_bipush (pc' := 32) C (-6) dX6_shown_30 bc_m6 rfl ?_
      refine v_goto C (pc' := 44) dX6_shown_32 (by decide) ?_
      exact v_iret (rf := fun (o9 : Int32) => o9) (Wf := fun (o9 : Int32) (u9 : Unit) => wM g aM zM) (ok := fun (o9 : Int32) (u9 : Unit) => True) C Cr h hQ () trivial rfl rfl dX6_shown_44
  · refine v_iconst (pc' := 17) C (-1) dX6_shown_16 ic_m1 rfl ?_
    exact v_iret (rf := fun (o9 : Int32) => o9) (Wf := fun (o9 : Int32) (u9 : Unit) => wM g aM zM) (ok := fun (o9 : Int32) (u9 : Unit) => True) C Cr h hQ () trivial rfl rfl dX6_shown_17
def f_X6_candidates (zM : Md)  : Option (Int32) :=
  getA (M_s zM) 319 (7 : Int32) fun e_1 =>
  Option.bind (f_X6_bits e_1) fun r_2 =>
  some r_2
abbrev rm_X6_candidates : Room := { frames := 1, cells := 0, slots := 0, locals := 22 }
theorem in_X6_candidates_6 : ∀ w ∈ wsX60, w ∈ wsX6_candidates := fun _ h => List.mem_cons_of_mem _ (List.mem_append_right _ h)
theorem k_X6_candidates_1 : Cond.fieldLink RX6 7 "DodgingHangmanModel" "s" "[I" ∈ wsX6_candidates := List.mem_of_getElem? (i := 1) rfl
theorem nd_X6_candidates : yX6_candidates.cls ≠ "java/lang/invoke/MethodHandle" ∧ yX6_candidates.cls ≠ "java/lang/invoke/VarHandle" ∧ (parseMethodDescriptor yX6_candidates.desc).map (fun d => d.parameters.length) = some 0 := by decide +kernel
set_option maxHeartbeats 4000000 in
set_option maxRecDepth 100000 in
theorem c_X6_candidates (l : Launch) (g : Gv) (aM : A10) (zM : Md)  (o : Int32) (h : f_X6_candidates zM  = some o) : Ct l g yX6_candidates wsX6_candidates rm_X6_candidates [.ref aM.1] (wM g aM zM) (Qi g o (fun _ : Unit => wM g aM zM) (fun _ => True)) := by
  refine enter (ret := (some .int)) (X := wM g aM zM) (pl := []) pn_X6 rfl (Nat.le_of_ble_eq_true rfl) ((List.append_nil _).symm) ?_
  intro p e s m args below meth c A Q C Cr hin hQ
  unfold f_X6_candidates at h
  refine v_aload_n (pc' := 1) C 0 dX6_candidates_0 rfl rfl ?_
  refine g_M_s (pc' := 4) C 0 in_X6_candidates_6 rfl k_X6_candidates_1 rfl dX6_candidates_1 rfl ?_
  refine v_bipush (pc' := 6) C (7) dX6_candidates_4 bc_7 rfl ?_
  refine v_iald (pc' := 7) C h 1 rfl dX6_candidates_6 rfl (fun e_1 h => ?_)
  refine v_purei (pc' := 10) C h (rf := fun r9 => r9) (fun r hr => run_S C (c_X6_bits l g _ r hr) gX6_candidates_X6_bits rfl nd_X6_bits ⟨Nat.le_of_ble_eq_true rfl, Nat.le_of_ble_eq_true rfl⟩ ⟨Nat.le_of_ble_eq_true rfl, Nat.le_of_ble_eq_true rfl⟩ (Nat.le_of_ble_eq_true rfl) dX6_candidates_7 rfl) rfl (fun r_2 h => ?_)
  exact v_iret (rf := fun (o9 : Int32) => o9) (Wf := fun (o9 : Int32) (u9 : Unit) => wM g aM zM) (ok := fun (o9 : Int32) (u9 : Unit) => True) C Cr h hQ () trivial rfl rfl dX6_candidates_10
def f_X6_candidate_L4 (zM : Md) (p1 : Int32) (re4 : Int32 → Int32 → Option (Int32)) (v2_1 : Int32) (v3_2 : Int32) : Option (Int32) :=
  getA (M_s zM) 319 (0 : Int32) fun e_3 =>
  if v3_2 < e_3 then if p1 < 0 then some (-1 : Int32)
  else Option.bind (f_X6_isCandidate zM v3_2) fun r_4 =>
  if r_4 = 0 then lett (v3_2 + (1 : Int32)) fun v3_5 =>
  re4 v2_1 v3_5
  else if v2_1 = 0 then some v3_2
  else lett (v2_1 + (-1 : Int32)) fun v2_6 =>
  lett (v3_2 + (1 : Int32)) fun v3_7 =>
  re4 v2_6 v3_7
  else some (-1 : Int32)
def f_X6_candidate (zM : Md) (p1 : Int32) : Option (Int32) :=
  loop2 (f_X6_candidate_L4 zM p1) FU p1 (0 : Int32)
abbrev rm_X6_candidate : Room := { frames := 1, cells := 0, slots := 0, locals := 21 }
theorem in_X6_candidate_6 : ∀ w ∈ wsX60, w ∈ wsX6_candidate := fun _ h => List.mem_cons_of_mem _ (List.mem_append_right _ h)
theorem k_X6_candidate_1 : Cond.fieldLink RX6 7 "DodgingHangmanModel" "s" "[I" ∈ wsX6_candidate := List.mem_of_getElem? (i := 1) rfl
theorem nd_X6_candidate : yX6_candidate.cls ≠ "java/lang/invoke/MethodHandle" ∧ yX6_candidate.cls ≠ "java/lang/invoke/VarHandle" ∧ (parseMethodDescriptor yX6_candidate.desc).map (fun d => d.parameters.length) = some 1 := by decide +kernel
set_option maxHeartbeats 4000000 in
set_option maxRecDepth 100000 in
theorem c_X6_candidate (l : Launch) (g : Gv) (aM : A10) (zM : Md) (p1 : Int32) (o : Int32) (h : f_X6_candidate zM p1 = some o) : Ct l g yX6_candidate wsX6_candidate rm_X6_candidate [.ref aM.1, .int p1] (wM g aM zM) (Qi g o (fun _ : Unit => wM g aM zM) (fun _ => True)) := by
  refine enter (ret := (some .int)) (X := wM g aM zM) (pl := []) pn_X6 rfl (Nat.le_of_ble_eq_true rfl) ((List.append_nil _).symm) ?_
  intro p e s m args below meth c A Q C Cr hin hQ
  unfold f_X6_candidate at h
  refine v_iload_n (pc' := 1) C 1 dX6_candidate_0 rfl rfl ?_
  refine v_istore_n (pc' := 2) C [1, 2, 0] (lv' := [(0, .ref aM.1), (1, .int p1), (2, .int p1)]) dX6_candidate_1 (Nat.le_of_ble_eq_true rfl) rfl rfl ?_
  refine v_iconst (pc' := 3) C (0) dX6_candidate_2 ic_0 rfl ?_
  refine v_istore_n (pc' := 4) C [1, 2, 3, 0] (lv' := [(0, .ref aM.1), (1, .int p1), (2, .int p1), (3, .int (0 : Int32))]) dX6_candidate_3 (Nat.le_of_ble_eq_true rfl) rfl rfl ?_
  refine v_loop2 (fun (v2_1 : Int32) (v3_2 : Int32) => V p l e rm_X6_candidate s m args below meth c g 4 A 0 0 Q (wM g aM zM) [] [(0, .ref aM.1), (1, .int p1), (2, .int v2_1), (3, .int v3_2)] 4 []) (fun re4 ih4 v2_1 v3_2 h => ?_) p1 (0 : Int32) h
  unfold f_X6_candidate_L4 at h
  refine v_iload_n (pc' := 5) C 3 dX6_candidate_4 rfl rfl ?_
  refine v_aload_n (pc' := 6) C 0 dX6_candidate_5 rfl rfl ?_
  refine g_M_s (pc' := 9) C 0 in_X6_candidate_6 rfl k_X6_candidate_1 rfl dX6_candidate_6 rfl ?_
  refine v_iconst (pc' := 10) C (0) dX6_candidate_9 ic_0 rfl ?_
  refine v_iald (pc' := 11) C h 1 rfl dX6_candidate_10 rfl (fun e_3 h => ?_)
  refine v_icmp_ge C 41 14 h dX6_candidate_11 (by decide) rfl (fun _ h => ?_) (fun _ h => ?_)
  · refine v_iconst (pc' := 42) C (-1) dX6_candidate_41 ic_m1 rfl ?_
    exact v_iret (rf := fun (o9 : Int32) => o9) (Wf := fun (o9 : Int32) (u9 : Unit) => wM g aM zM) (ok := fun (o9 : Int32) (u9 : Unit) => True) C Cr h hQ () trivial rfl rfl dX6_candidate_42
  · refine v_iload_n (pc' := 15) C 1 dX6_candidate_14 rfl rfl ?_
    refine v_if_lt C 41 18 h dX6_candidate_15 (by decide) rfl (fun _ h => ?_) (fun _ h => ?_)
    · refine v_iconst (pc' := 42) C (-1) dX6_candidate_41 ic_m1 rfl ?_
      exact v_iret (rf := fun (o9 : Int32) => o9) (Wf := fun (o9 : Int32) (u9 : Unit) => wM g aM zM) (ok := fun (o9 : Int32) (u9 : Unit) => True) C Cr h hQ () trivial rfl rfl dX6_candidate_42
    · refine v_aload_n (pc' := 19) C 0 dX6_candidate_18 rfl rfl ?_
      refine v_iload_n (pc' := 20) C 3 dX6_candidate_19 rfl rfl ?_
      refine v_calli (pc' := 23) C h (rf := fun r9 => r9) ([]) (fun r9 (u9 : Unit) => wM g aM zM) (fun r hr => run_V C (c_X6_isCandidate l g aM _ _ r hr) gX6_candidate_X6_isCandidate rfl nd_X6_isCandidate rfl rfl rfl rfl ⟨Nat.le_of_ble_eq_true rfl, Nat.le_of_ble_eq_true rfl⟩ ⟨Nat.le_of_ble_eq_true rfl, Nat.le_of_ble_eq_true rfl⟩ (Nat.le_of_ble_eq_true rfl) dX6_candidate_20 rfl) [0, 1, 2, 3, 4, 5, 6, 7, 8, 9] [] [0, 1, 2, 3, 4, 5, 6, 7, 8, 9] rfl rfl rfl rfl (by decide) rfl (fun _ _ => rfl) (k' := 0) (n' := 0) rfl rfl rfl (fun r_4 _ _ h => ?_)
      refine v_if_eq C 35 26 h dX6_candidate_23 (by decide) rfl (fun _ h => ?_) (fun _ h => ?_)
      · refine v_iinc (pc' := 38) C 3 [1, 2, 3, 0] (1) dX6_candidate_35 rfl ic_1 (Nat.le_of_ble_eq_true rfl) h (lw := fun v9 => [(0, .ref aM.1), (1, .int p1), (2, .int v2_1), (3, .int v9)]) (fun _ => rfl) rfl (fun v3_5 h => ?_)
        refine v_goto C (pc' := 4) dX6_candidate_38 (by decide) ?_
        exact ih4 v2_1 v3_5 h
      · refine v_iload_n (pc' := 27) C 2 dX6_candidate_26 rfl rfl ?_
        refine v_if_ne C 32 30 h dX6_candidate_27 (by decide) rfl (fun _ h => ?_) (fun _ h => ?_)
        · refine v_iinc (pc' := 35) C 2 [1, 2, 0, 3] (-1) dX6_candidate_32 rfl ic_m1 (Nat.le_of_ble_eq_true rfl) h (lw := fun v9 => [(0, .ref aM.1), (1, .int p1), (2, .int v9), (3, .int v3_2)]) (fun _ => rfl) rfl (fun v2_6 h => ?_)
          refine v_iinc (pc' := 38) C 3 [1, 2, 3, 0] (1) dX6_candidate_35 rfl ic_1 (Nat.le_of_ble_eq_true rfl) h (lw := fun v9 => [(0, .ref aM.1), (1, .int p1), (2, .int v2_6), (3, .int v9)]) (fun _ => rfl) rfl (fun v3_7 h => ?_)
          refine v_goto C (pc' := 4) dX6_candidate_38 (by decide) ?_
          exact ih4 v2_6 v3_7 h
        · refine v_iload_n (pc' := 31) C 3 dX6_candidate_30 rfl rfl ?_
          exact v_iret (rf := fun (o9 : Int32) => o9) (Wf := fun (o9 : Int32) (u9 : Unit) => wM g aM zM) (ok := fun (o9 : Int32) (u9 : Unit) => True) C Cr h hQ () trivial rfl rfl dX6_candidate_31
def f_X6_guesses (zM : Md)  : Option (Int32) :=
  getA (M_s zM) 319 (6 : Int32) fun e_1 =>
  some e_1
abbrev rm_X6_guesses : Room := { frames := 0, cells := 0, slots := 0, locals := 0 }
theorem in_X6_guesses_6 : ∀ w ∈ wsX60, w ∈ wsX6_guesses := fun _ h => List.mem_cons_of_mem _ (List.mem_append_right _ h)
theorem k_X6_guesses_1 : Cond.fieldLink RX6 7 "DodgingHangmanModel" "s" "[I" ∈ wsX6_guesses := List.mem_of_getElem? (i := 1) rfl
theorem nd_X6_guesses : yX6_guesses.cls ≠ "java/lang/invoke/MethodHandle" ∧ yX6_guesses.cls ≠ "java/lang/invoke/VarHandle" ∧ (parseMethodDescriptor yX6_guesses.desc).map (fun d => d.parameters.length) = some 0 := by decide +kernel
set_option maxHeartbeats 4000000 in
set_option maxRecDepth 100000 in
theorem c_X6_guesses (l : Launch) (g : Gv) (aM : A10) (zM : Md)  (o : Int32) (h : f_X6_guesses zM  = some o) : Ct l g yX6_guesses wsX6_guesses rm_X6_guesses [.ref aM.1] (wM g aM zM) (Qi g o (fun _ : Unit => wM g aM zM) (fun _ => True)) := by
  refine enter (ret := (some .int)) (X := wM g aM zM) (pl := []) pn_X6 rfl (Nat.le_of_ble_eq_true rfl) ((List.append_nil _).symm) ?_
  intro p e s m args below meth c A Q C Cr hin hQ
  unfold f_X6_guesses at h
  refine v_aload_n (pc' := 1) C 0 dX6_guesses_0 rfl rfl ?_
  refine g_M_s (pc' := 4) C 0 in_X6_guesses_6 rfl k_X6_guesses_1 rfl dX6_guesses_1 rfl ?_
  refine v_bipush (pc' := 6) C (6) dX6_guesses_4 bc_6 rfl ?_
  refine v_iald (pc' := 7) C h 1 rfl dX6_guesses_6 rfl (fun e_1 h => ?_)
  exact v_iret (rf := fun (o9 : Int32) => o9) (Wf := fun (o9 : Int32) (u9 : Unit) => wM g aM zM) (ok := fun (o9 : Int32) (u9 : Unit) => True) C Cr h hQ () trivial rfl rfl dX6_guesses_7
def f_X6_guessAt (zM : Md) (p1 : Int32) : Option (Int32) :=
  getA (M_s zM) 319 (6 : Int32) fun e_1 =>
  Option.bind (f_X6_in p1 (0 : Int32) (e_1 - (1 : Int32))) fun r_2 =>
  if r_2 = 0 then some (-1 : Int32)
  else getA (M_s zM) 319 ((15 : Int32) + p1) fun e_3 =>
  some e_3
abbrev rm_X6_guessAt : Room := { frames := 1, cells := 0, slots := 0, locals := 22 }
theorem in_X6_guessAt_6 : ∀ w ∈ wsX60, w ∈ wsX6_guessAt := fun _ h => List.mem_cons_of_mem _ (List.mem_append_right _ h)
theorem k_X6_guessAt_1 : Cond.fieldLink RX6 7 "DodgingHangmanModel" "s" "[I" ∈ wsX6_guessAt := List.mem_of_getElem? (i := 1) rfl
theorem nd_X6_guessAt : yX6_guessAt.cls ≠ "java/lang/invoke/MethodHandle" ∧ yX6_guessAt.cls ≠ "java/lang/invoke/VarHandle" ∧ (parseMethodDescriptor yX6_guessAt.desc).map (fun d => d.parameters.length) = some 1 := by decide +kernel
set_option maxHeartbeats 4000000 in
set_option maxRecDepth 100000 in
theorem c_X6_guessAt (l : Launch) (g : Gv) (aM : A10) (zM : Md) (p1 : Int32) (o : Int32) (h : f_X6_guessAt zM p1 = some o) : Ct l g yX6_guessAt wsX6_guessAt rm_X6_guessAt [.ref aM.1, .int p1] (wM g aM zM) (Qi g o (fun _ : Unit => wM g aM zM) (fun _ => True)) := by
  refine enter (ret := (some .int)) (X := wM g aM zM) (pl := []) pn_X6 rfl (Nat.le_of_ble_eq_true rfl) ((List.append_nil _).symm) ?_
  intro p e s m args below meth c A Q C Cr hin hQ
  unfold f_X6_guessAt at h
  refine v_iload_n (pc' := 1) C 1 dX6_guessAt_0 rfl rfl ?_
  refine v_iconst (pc' := 2) C (0) dX6_guessAt_1 ic_0 rfl ?_
  refine v_aload_n (pc' := 3) C 0 dX6_guessAt_2 rfl rfl ?_
  refine g_M_s (pc' := 6) C 0 in_X6_guessAt_6 rfl k_X6_guessAt_1 rfl dX6_guessAt_3 rfl ?_
  refine v_bipush (pc' := 8) C (6) dX6_guessAt_6 bc_6 rfl ?_
  refine v_iald (pc' := 9) C h 1 rfl dX6_guessAt_8 rfl (fun e_1 h => ?_)
  refine v_iconst (pc' := 10) C (1) dX6_guessAt_9 ic_1 rfl ?_
  refine v_isub (pc' := 11) C dX6_guessAt_10 rfl ?_
  refine v_purei (pc' := 14) C h (rf := fun r9 => r9) (fun r hr => run_S C (c_X6_in l g _ _ _ r hr) gX6_guessAt_X6_in rfl nd_X6_in ⟨Nat.le_of_ble_eq_true rfl, Nat.le_of_ble_eq_true rfl⟩ ⟨Nat.le_of_ble_eq_true rfl, Nat.le_of_ble_eq_true rfl⟩ (Nat.le_of_ble_eq_true rfl) dX6_guessAt_11 rfl) rfl (fun r_2 h => ?_)
  refine v_if_eq C 29 17 h dX6_guessAt_14 (by decide) rfl (fun _ h => ?_) (fun _ h => ?_)
  · refine v_iconst (pc' := 30) C (-1) dX6_guessAt_29 ic_m1 rfl ?_
    exact v_iret (rf := fun (o9 : Int32) => o9) (Wf := fun (o9 : Int32) (u9 : Unit) => wM g aM zM) (ok := fun (o9 : Int32) (u9 : Unit) => True) C Cr h hQ () trivial rfl rfl dX6_guessAt_30
  · refine v_aload_n (pc' := 18) C 0 dX6_guessAt_17 rfl rfl ?_
    refine g_M_s (pc' := 21) C 0 in_X6_guessAt_6 rfl k_X6_guessAt_1 rfl dX6_guessAt_18 rfl ?_
    refine v_bipush (pc' := 23) C (15) dX6_guessAt_21 bc_15 rfl ?_
    refine v_iload_n (pc' := 24) C 1 dX6_guessAt_23 rfl rfl ?_
    refine v_iadd (pc' := 25) C dX6_guessAt_24 rfl ?_
    refine v_iald (pc' := 26) C h 1 rfl dX6_guessAt_25 rfl (fun e_3 h => ?_)
    refine v_goto C (pc' := 30) dX6_guessAt_26 (by decide) ?_
    exact v_iret (rf := fun (o9 : Int32) => o9) (Wf := fun (o9 : Int32) (u9 : Unit) => wM g aM zM) (ok := fun (o9 : Int32) (u9 : Unit) => True) C Cr h hQ () trivial rfl rfl dX6_guessAt_30
def f_X6_bar (zM : Md) (p1 : Int32) : Option (Int32) :=
  Option.bind (f_X6_isLetter p1) fun r_1 =>
  if r_1 = 0 then some (-2 : Int32)
  else Option.bind (f_X6_runs zM) fun r_2 =>
  if r_2 = 0 then some (-3 : Int32)
  else Option.bind (f_X6_isGuessed zM p1) fun r_3 =>
  if r_3 = 0 then some (0 : Int32)
  else some (-3 : Int32)
abbrev rm_X6_bar : Room := { frames := 2, cells := 0, slots := 0, locals := 42 }
theorem nd_X6_bar : yX6_bar.cls ≠ "java/lang/invoke/MethodHandle" ∧ yX6_bar.cls ≠ "java/lang/invoke/VarHandle" ∧ (parseMethodDescriptor yX6_bar.desc).map (fun d => d.parameters.length) = some 1 := by decide +kernel
set_option maxHeartbeats 4000000 in
set_option maxRecDepth 100000 in
theorem c_X6_bar (l : Launch) (g : Gv) (aM : A10) (zM : Md) (p1 : Int32) (o : Int32) (h : f_X6_bar zM p1 = some o) : Ct l g yX6_bar wsX6_bar rm_X6_bar [.ref aM.1, .int p1] (wM g aM zM) (Qi g o (fun _ : Unit => wM g aM zM) (fun _ => True)) := by
  refine enter (ret := (some .int)) (X := wM g aM zM) (pl := []) pn_X6 rfl (Nat.le_of_ble_eq_true rfl) ((List.append_nil _).symm) ?_
  intro p e s m args below meth c A Q C Cr hin hQ
  unfold f_X6_bar at h
  refine v_iload_n (pc' := 1) C 1 dX6_bar_0 rfl rfl ?_
  refine v_purei (pc' := 4) C h (rf := fun r9 => r9) (fun r hr => run_S C (c_X6_isLetter l g _ r hr) gX6_bar_X6_isLetter rfl nd_X6_isLetter ⟨Nat.le_of_ble_eq_true rfl, Nat.le_of_ble_eq_true rfl⟩ ⟨Nat.le_of_ble_eq_true rfl, Nat.le_of_ble_eq_true rfl⟩ (Nat.le_of_ble_eq_true rfl) dX6_bar_1 rfl) rfl (fun r_1 h => ?_)
  refine v_if_ne C 12 7 h dX6_bar_4 (by decide) rfl (fun _ h => ?_) (fun _ h => ?_)
  · refine v_aload_n (pc' := 13) C 0 dX6_bar_12 rfl rfl ?_
    refine v_calli (pc' := 16) C h (rf := fun r9 => r9) ([]) (fun r9 (u9 : Unit) => wM g aM zM) (fun r hr => run_V C (c_X6_runs l g aM _ r hr) gX6_bar_X6_runs rfl nd_X6_runs rfl rfl rfl rfl ⟨Nat.le_of_ble_eq_true rfl, Nat.le_of_ble_eq_true rfl⟩ ⟨Nat.le_of_ble_eq_true rfl, Nat.le_of_ble_eq_true rfl⟩ (Nat.le_of_ble_eq_true rfl) dX6_bar_13 rfl) [0, 1, 2, 3, 4, 5, 6, 7, 8, 9] [] [0, 1, 2, 3, 4, 5, 6, 7, 8, 9] rfl rfl rfl rfl (by decide) rfl (fun _ _ => rfl) (k' := 0) (n' := 0) rfl rfl rfl (fun r_2 _ _ h => ?_)
    refine v_if_eq C 27 19 h dX6_bar_16 (by decide) rfl (fun _ h => ?_) (fun _ h => ?_)
    · refine v_bipush (pc' := 29) C (-3) dX6_bar_27 bc_m3 rfl ?_
      refine v_goto C (pc' := 33) dX6_bar_29 (by decide) ?_
      exact v_iret (rf := fun (o9 : Int32) => o9) (Wf := fun (o9 : Int32) (u9 : Unit) => wM g aM zM) (ok := fun (o9 : Int32) (u9 : Unit) => True) C Cr h hQ () trivial rfl rfl dX6_bar_33
    · refine v_aload_n (pc' := 20) C 0 dX6_bar_19 rfl rfl ?_
      refine v_iload_n (pc' := 21) C 1 dX6_bar_20 rfl rfl ?_
      refine v_calli (pc' := 24) C h (rf := fun r9 => r9) ([]) (fun r9 (u9 : Unit) => wM g aM zM) (fun r hr => run_V C (c_X6_isGuessed l g aM _ _ r hr) gX6_bar_X6_isGuessed rfl nd_X6_isGuessed rfl rfl rfl rfl ⟨Nat.le_of_ble_eq_true rfl, Nat.le_of_ble_eq_true rfl⟩ ⟨Nat.le_of_ble_eq_true rfl, Nat.le_of_ble_eq_true rfl⟩ (Nat.le_of_ble_eq_true rfl) dX6_bar_21 rfl) [0, 1, 2, 3, 4, 5, 6, 7, 8, 9] [] [0, 1, 2, 3, 4, 5, 6, 7, 8, 9] rfl rfl rfl rfl (by decide) rfl (fun _ _ => rfl) (k' := 0) (n' := 0) rfl rfl rfl (fun r_3 _ _ h => ?_)
      refine v_if_eq C 32 27 h dX6_bar_24 (by decide) rfl (fun _ h => ?_) (fun _ h => ?_)
      · refine v_iconst (pc' := 33) C (0) dX6_bar_32 ic_0 rfl ?_
        exact v_iret (rf := fun (o9 : Int32) => o9) (Wf := fun (o9 : Int32) (u9 : Unit) => wM g aM zM) (ok := fun (o9 : Int32) (u9 : Unit) => True) C Cr h hQ () trivial rfl rfl dX6_bar_33
      · refine v_bipush (pc' := 29) C (-3) dX6_bar_27 bc_m3 rfl ?_
        refine v_goto C (pc' := 33) dX6_bar_29 (by decide) ?_
        exact v_iret (rf := fun (o9 : Int32) => o9) (Wf := fun (o9 : Int32) (u9 : Unit) => wM g aM zM) (ok := fun (o9 : Int32) (u9 : Unit) => True) C Cr h hQ () trivial rfl rfl dX6_bar_33
  · refine v_bipush (pc' := 9) C (-2) dX6_bar_7 bc_m2 rfl ?_
    refine v_goto C (pc' := 33) dX6_bar_9 (by decide) ?_
    exact v_iret (rf := fun (o9 : Int32) => o9) (Wf := fun (o9 : Int32) (u9 : Unit) => wM g aM zM) (ok := fun (o9 : Int32) (u9 : Unit) => True) C Cr h hQ () trivial rfl rfl dX6_bar_33
def f_X6_families (zM : Md) (p1 : Int32) : Option (Int32 × Md) :=
  Option.bind (f_X6_bar zM p1) fun r_1 =>
  if r_1 = 0 then Option.bind (f_X6_laysFamilies zM p1) fun r_2 =>
  some ((M_many r_2), r_2)
  else Option.bind (f_X6_bar zM p1) fun r_3 =>
  some (r_3, zM)
abbrev rm_X6_families : Room := { frames := 3, cells := 0, slots := 0, locals := 70 }
theorem in_X6_families_6 : ∀ w ∈ wsX60, w ∈ wsX6_families := fun _ h => List.mem_cons_of_mem _ (List.mem_append_right _ h)
theorem k_X6_families_1 : Cond.fieldLink RX6 37 "DodgingHangmanModel" "many" "I" ∈ wsX6_families := List.mem_of_getElem? (i := 1) rfl
theorem nd_X6_families : yX6_families.cls ≠ "java/lang/invoke/MethodHandle" ∧ yX6_families.cls ≠ "java/lang/invoke/VarHandle" ∧ (parseMethodDescriptor yX6_families.desc).map (fun d => d.parameters.length) = some 1 := by decide +kernel
set_option maxHeartbeats 4000000 in
set_option maxRecDepth 100000 in
theorem c_X6_families (l : Launch) (g : Gv) (aM : A10) (zM : Md) (p1 : Int32) (o : Int32 × Md) (h : f_X6_families zM p1 = some o) : Ct l g yX6_families wsX6_families rm_X6_families [.ref aM.1, .int p1] (wM g aM zM) (Qi g o.1 (fun _ : Unit => wM g aM o.2) (fun _ => True)) := by
  refine enter (ret := (some .int)) (X := wM g aM zM) (pl := []) pn_X6 rfl (Nat.le_of_ble_eq_true rfl) ((List.append_nil _).symm) ?_
  intro p e s m args below meth c A Q C Cr hin hQ
  unfold f_X6_families at h
  refine v_aload_n (pc' := 1) C 0 dX6_families_0 rfl rfl ?_
  refine v_iload_n (pc' := 2) C 1 dX6_families_1 rfl rfl ?_
  refine v_calli (pc' := 5) C h (rf := fun r9 => r9) ([]) (fun r9 (u9 : Unit) => wM g aM zM) (fun r hr => run_V C (c_X6_bar l g aM _ _ r hr) gX6_families_X6_bar rfl nd_X6_bar rfl rfl rfl rfl ⟨Nat.le_of_ble_eq_true rfl, Nat.le_of_ble_eq_true rfl⟩ ⟨Nat.le_of_ble_eq_true rfl, Nat.le_of_ble_eq_true rfl⟩ (Nat.le_of_ble_eq_true rfl) dX6_families_2 rfl) [0, 1, 2, 3, 4, 5, 6, 7, 8, 9] [] [0, 1, 2, 3, 4, 5, 6, 7, 8, 9] rfl rfl rfl rfl (by decide) rfl (fun _ _ => rfl) (k' := 0) (n' := 0) rfl rfl rfl (fun r_1 _ _ h => ?_)
  refine v_if_eq C 14 8 h dX6_families_5 (by decide) rfl (fun _ h => ?_) (fun _ h => ?_)
  · refine v_aload_n (pc' := 15) C 0 dX6_families_14 rfl rfl ?_
    refine v_iload_n (pc' := 16) C 1 dX6_families_15 rfl rfl ?_
    refine v_callv (pc' := 19) C h ([]) (fun r9 (u9 : Unit) => wM g aM r9) (fun r hr => run_V C (c_X6_laysFamilies l g aM _ _ r hr) gX6_families_X6_laysFamilies rfl nd_X6_laysFamilies rfl rfl rfl rfl ⟨Nat.le_of_ble_eq_true rfl, Nat.le_of_ble_eq_true rfl⟩ ⟨Nat.le_of_ble_eq_true rfl, Nat.le_of_ble_eq_true rfl⟩ (Nat.le_of_ble_eq_true rfl) dX6_families_16 rfl) [0, 1, 2, 3, 4, 5, 6, 7, 8, 9] [] [0, 1, 2, 3, 4, 5, 6, 7, 8, 9] rfl rfl rfl rfl (by decide) rfl (fun _ _ => rfl) (k' := 0) (n' := 0) rfl rfl rfl (fun r_2 _ _ h => ?_)
    refine v_aload_n (pc' := 20) C 0 dX6_families_19 rfl rfl ?_
    refine g_M_many (pc' := 23) C 0 in_X6_families_6 rfl k_X6_families_1 rfl dX6_families_20 rfl ?_
    exact v_iret (rf := fun (o9 : Int32 × Md) => o9.1) (Wf := fun (o9 : Int32 × Md) (u9 : Unit) => wM g aM o9.2) (ok := fun (o9 : Int32 × Md) (u9 : Unit) => True) C Cr h hQ () trivial rfl rfl dX6_families_23
  · refine v_aload_n (pc' := 9) C 0 dX6_families_8 rfl rfl ?_
    refine v_iload_n (pc' := 10) C 1 dX6_families_9 rfl rfl ?_
    refine v_calli (pc' := 13) C h (rf := fun r9 => r9) ([]) (fun r9 (u9 : Unit) => wM g aM zM) (fun r hr => run_V C (c_X6_bar l g aM _ _ r hr) gX6_families_X6_bar rfl nd_X6_bar rfl rfl rfl rfl ⟨Nat.le_of_ble_eq_true rfl, Nat.le_of_ble_eq_true rfl⟩ ⟨Nat.le_of_ble_eq_true rfl, Nat.le_of_ble_eq_true rfl⟩ (Nat.le_of_ble_eq_true rfl) dX6_families_10 rfl) [0, 1, 2, 3, 4, 5, 6, 7, 8, 9] [] [0, 1, 2, 3, 4, 5, 6, 7, 8, 9] rfl rfl rfl rfl (by decide) rfl (fun _ _ => rfl) (k' := 0) (n' := 0) rfl rfl rfl (fun r_3 _ _ h => ?_)
    exact v_iret (rf := fun (o9 : Int32 × Md) => o9.1) (Wf := fun (o9 : Int32 × Md) (u9 : Unit) => wM g aM o9.2) (ok := fun (o9 : Int32 × Md) (u9 : Unit) => True) C Cr h hQ () trivial rfl rfl dX6_families_13
def f_X6_family (zM : Md) (p1 : Int32) (p2 : Int32) (p3 : Int32) : Option (Int32 × Md) :=
  Option.bind (f_X6_bar zM p1) fun r_1 =>
  if r_1 = 0 then Option.bind (f_X6_laysFamilies zM p1) fun r_2 =>
  Option.bind (f_X6_in p2 (0 : Int32) ((M_many r_2) - (1 : Int32))) fun r_3 =>
  if r_3 = 0 then some ((-1 : Int32), r_2)
  else Option.bind (f_X6_ranked r_2 p2) fun r_4 =>
  if p3 = (0 : Int32) then getA (M_size r_2) 30 r_4 fun e_5 =>
  some (e_5, r_2)
  else if p3 = (1 : Int32) then getA (M_mask r_2) 30 r_4 fun e_6 =>
  some (e_6, r_2)
  else if p3 = (2 : Int32) then getA (M_members r_2) 30 r_4 fun e_7 =>
  Option.bind (f_X6_lowest e_7) fun r_8 =>
  some (r_8, r_2)
  else if p3 = (3 : Int32) then getA (M_fresh r_2) 30 r_4 fun e_9 =>
  some (e_9, r_2)
  else some ((-2 : Int32), r_2)
  else Option.bind (f_X6_bar zM p1) fun r_10 =>
  some (r_10, zM)
abbrev rm_X6_family : Room := { frames := 3, cells := 0, slots := 0, locals := 70 }
theorem in_X6_family_6 : ∀ w ∈ wsX60, w ∈ wsX6_family := fun _ h => List.mem_cons_of_mem _ (List.mem_append_right _ h)
theorem k_X6_family_1 : Cond.fieldLink RX6 37 "DodgingHangmanModel" "many" "I" ∈ wsX6_family := List.mem_of_getElem? (i := 1) rfl
theorem k_X6_family_2 : Cond.fieldLink RX6 28 "DodgingHangmanModel" "size" "[I" ∈ wsX6_family := List.mem_of_getElem? (i := 2) rfl
theorem k_X6_family_3 : Cond.fieldLink RX6 22 "DodgingHangmanModel" "mask" "[I" ∈ wsX6_family := List.mem_of_getElem? (i := 3) rfl
theorem k_X6_family_4 : Cond.fieldLink RX6 25 "DodgingHangmanModel" "members" "[I" ∈ wsX6_family := List.mem_of_getElem? (i := 4) rfl
theorem k_X6_family_5 : Cond.fieldLink RX6 34 "DodgingHangmanModel" "fresh" "[I" ∈ wsX6_family := List.mem_of_getElem? (i := 5) rfl
theorem nd_X6_family : yX6_family.cls ≠ "java/lang/invoke/MethodHandle" ∧ yX6_family.cls ≠ "java/lang/invoke/VarHandle" ∧ (parseMethodDescriptor yX6_family.desc).map (fun d => d.parameters.length) = some 3 := by decide +kernel
set_option maxHeartbeats 4000000 in
set_option maxRecDepth 100000 in
theorem c_X6_family (l : Launch) (g : Gv) (aM : A10) (zM : Md) (p1 : Int32) (p2 : Int32) (p3 : Int32) (o : Int32 × Md) (h : f_X6_family zM p1 p2 p3 = some o) : Ct l g yX6_family wsX6_family rm_X6_family [.ref aM.1, .int p1, .int p2, .int p3] (wM g aM zM) (Qi g o.1 (fun _ : Unit => wM g aM o.2) (fun _ => True)) := by
  refine enter (ret := (some .int)) (X := wM g aM zM) (pl := []) pn_X6 rfl (Nat.le_of_ble_eq_true rfl) ((List.append_nil _).symm) ?_
  intro p e s m args below meth c A Q C Cr hin hQ
  unfold f_X6_family at h
  refine v_aload_n (pc' := 1) C 0 dX6_family_0 rfl rfl ?_
  refine v_iload_n (pc' := 2) C 1 dX6_family_1 rfl rfl ?_
  refine v_calli (pc' := 5) C h (rf := fun r9 => r9) ([]) (fun r9 (u9 : Unit) => wM g aM zM) (fun r hr => run_V C (c_X6_bar l g aM _ _ r hr) gX6_family_X6_bar rfl nd_X6_bar rfl rfl rfl rfl ⟨Nat.le_of_ble_eq_true rfl, Nat.le_of_ble_eq_true rfl⟩ ⟨Nat.le_of_ble_eq_true rfl, Nat.le_of_ble_eq_true rfl⟩ (Nat.le_of_ble_eq_true rfl) dX6_family_2 rfl) [0, 1, 2, 3, 4, 5, 6, 7, 8, 9] [] [0, 1, 2, 3, 4, 5, 6, 7, 8, 9] rfl rfl rfl rfl (by decide) rfl (fun _ _ => rfl) (k' := 0) (n' := 0) rfl rfl rfl (fun r_1 _ _ h => ?_)
  refine v_if_eq C 14 8 h dX6_family_5 (by decide) rfl (fun _ h => ?_) (fun _ h => ?_)
  · refine v_aload_n (pc' := 15) C 0 dX6_family_14 rfl rfl ?_
    refine v_iload_n (pc' := 16) C 1 dX6_family_15 rfl rfl ?_
    refine v_callv (pc' := 19) C h ([]) (fun r9 (u9 : Unit) => wM g aM r9) (fun r hr => run_V C (c_X6_laysFamilies l g aM _ _ r hr) gX6_family_X6_laysFamilies rfl nd_X6_laysFamilies rfl rfl rfl rfl ⟨Nat.le_of_ble_eq_true rfl, Nat.le_of_ble_eq_true rfl⟩ ⟨Nat.le_of_ble_eq_true rfl, Nat.le_of_ble_eq_true rfl⟩ (Nat.le_of_ble_eq_true rfl) dX6_family_16 rfl) [0, 1, 2, 3, 4, 5, 6, 7, 8, 9] [] [0, 1, 2, 3, 4, 5, 6, 7, 8, 9] rfl rfl rfl rfl (by decide) rfl (fun _ _ => rfl) (k' := 0) (n' := 0) rfl rfl rfl (fun r_2 _ _ h => ?_)
    refine v_iload_n (pc' := 20) C 2 dX6_family_19 rfl rfl ?_
    refine v_iconst (pc' := 21) C (0) dX6_family_20 ic_0 rfl ?_
    refine v_aload_n (pc' := 22) C 0 dX6_family_21 rfl rfl ?_
    refine g_M_many (pc' := 25) C 0 in_X6_family_6 rfl k_X6_family_1 rfl dX6_family_22 rfl ?_
    refine v_iconst (pc' := 26) C (1) dX6_family_25 ic_1 rfl ?_
    refine v_isub (pc' := 27) C dX6_family_26 rfl ?_
    refine v_purei (pc' := 30) C h (rf := fun r9 => r9) (fun r hr => run_S C (c_X6_in l g _ _ _ r hr) gX6_family_X6_in rfl nd_X6_in ⟨Nat.le_of_ble_eq_true rfl, Nat.le_of_ble_eq_true rfl⟩ ⟨Nat.le_of_ble_eq_true rfl, Nat.le_of_ble_eq_true rfl⟩ (Nat.le_of_ble_eq_true rfl) dX6_family_27 rfl) rfl (fun r_3 h => ?_)
    refine v_if_ne C 35 33 h dX6_family_30 (by decide) rfl (fun _ h => ?_) (fun _ h => ?_)
    · refine v_aload_n (pc' := 36) C 0 dX6_family_35 rfl rfl ?_
      refine v_iload_n (pc' := 37) C 2 dX6_family_36 rfl rfl ?_
      refine v_calli (pc' := 40) C h (rf := fun r9 => r9) ([]) (fun r9 (u9 : Unit) => wM g aM r_2) (fun r hr => run_V C (c_X6_ranked l g aM _ _ r hr) gX6_family_X6_ranked rfl nd_X6_ranked rfl rfl rfl rfl ⟨Nat.le_of_ble_eq_true rfl, Nat.le_of_ble_eq_true rfl⟩ ⟨Nat.le_of_ble_eq_true rfl, Nat.le_of_ble_eq_true rfl⟩ (Nat.le_of_ble_eq_true rfl) dX6_family_37 rfl) [0, 1, 2, 3, 4, 5, 6, 7, 8, 9] [] [0, 1, 2, 3, 4, 5, 6, 7, 8, 9] rfl rfl rfl rfl (by decide) rfl (fun _ _ => rfl) (k' := 0) (n' := 0) rfl rfl rfl (fun r_4 _ _ h => ?_)
      refine v_istore (pc' := 42) C [1, 2, 3, 4, 0] (lv' := [(0, .ref aM.1), (1, .int p1), (2, .int p2), (3, .int p3), (4, .int r_4)]) dX6_family_40 (Nat.le_of_ble_eq_true rfl) rfl rfl ?_
      refine v_iload_n (pc' := 43) C 3 dX6_family_42 rfl rfl ?_
      refine v_case C (0) 72 h dX6_family_43 (by decide) (by decide) rfl (by decide) (fun h => ?_) (fun hc0 h => ?_)
      · refine v_aload_n (pc' := 73) C 0 dX6_family_72 rfl rfl ?_
        refine g_M_size (pc' := 76) C 0 in_X6_family_6 rfl k_X6_family_2 rfl dX6_family_73 rfl ?_
        refine v_iload (pc' := 78) C 4 dX6_family_76 rfl rfl ?_
        refine v_iald (pc' := 79) C h 7 rfl dX6_family_78 rfl (fun e_5 h => ?_)
        exact v_iret (rf := fun (o9 : Int32 × Md) => o9.1) (Wf := fun (o9 : Int32 × Md) (u9 : Unit) => wM g aM o9.2) (ok := fun (o9 : Int32 × Md) (u9 : Unit) => True) C Cr h hQ () trivial rfl rfl dX6_family_79
      refine v_case C (1) 80 h dX6_family_43 (by decide) (by decide) rfl (by decide) (fun h => ?_) (fun hc1 h => ?_)
      · refine v_aload_n (pc' := 81) C 0 dX6_family_80 rfl rfl ?_
        refine g_M_mask (pc' := 84) C 0 in_X6_family_6 rfl k_X6_family_3 rfl dX6_family_81 rfl ?_
        refine v_iload (pc' := 86) C 4 dX6_family_84 rfl rfl ?_
        refine v_iald (pc' := 87) C h 5 rfl dX6_family_86 rfl (fun e_6 h => ?_)
        exact v_iret (rf := fun (o9 : Int32 × Md) => o9.1) (Wf := fun (o9 : Int32 × Md) (u9 : Unit) => wM g aM o9.2) (ok := fun (o9 : Int32 × Md) (u9 : Unit) => True) C Cr h hQ () trivial rfl rfl dX6_family_87
      refine v_case C (2) 88 h dX6_family_43 (by decide) (by decide) rfl (by decide) (fun h => ?_) (fun hc2 h => ?_)
      · refine v_aload_n (pc' := 89) C 0 dX6_family_88 rfl rfl ?_
        refine g_M_members (pc' := 92) C 0 in_X6_family_6 rfl k_X6_family_4 rfl dX6_family_89 rfl ?_
        refine v_iload (pc' := 94) C 4 dX6_family_92 rfl rfl ?_
        refine v_iald (pc' := 95) C h 6 rfl dX6_family_94 rfl (fun e_7 h => ?_)
        refine v_purei (pc' := 98) C h (rf := fun r9 => r9) (fun r hr => run_S C (c_X6_lowest l g _ r hr) gX6_family_X6_lowest rfl nd_X6_lowest ⟨Nat.le_of_ble_eq_true rfl, Nat.le_of_ble_eq_true rfl⟩ ⟨Nat.le_of_ble_eq_true rfl, Nat.le_of_ble_eq_true rfl⟩ (Nat.le_of_ble_eq_true rfl) dX6_family_95 rfl) rfl (fun r_8 h => ?_)
        exact v_iret (rf := fun (o9 : Int32 × Md) => o9.1) (Wf := fun (o9 : Int32 × Md) (u9 : Unit) => wM g aM o9.2) (ok := fun (o9 : Int32 × Md) (u9 : Unit) => True) C Cr h hQ () trivial rfl rfl dX6_family_98
      refine v_case C (3) 99 h dX6_family_43 (by decide) (by decide) rfl (by decide) (fun h => ?_) (fun hc3 h => ?_)
      · refine v_aload_n (pc' := 100) C 0 dX6_family_99 rfl rfl ?_
        refine g_M_fresh (pc' := 103) C 0 in_X6_family_6 rfl k_X6_family_5 rfl dX6_family_100 rfl ?_
        refine v_iload (pc' := 105) C 4 dX6_family_103 rfl rfl ?_
        refine v_iald (pc' := 106) C h 9 rfl dX6_family_105 rfl (fun e_9 h => ?_)
        exact v_iret (rf := fun (o9 : Int32 × Md) => o9.1) (Wf := fun (o9 : Int32 × Md) (u9 : Unit) => wM g aM o9.2) (ok := fun (o9 : Int32 × Md) (u9 : Unit) => True) C Cr h hQ () trivial rfl rfl dX6_family_106
      refine v_dflt C 107 dX6_family_43 (sw_out p3 0 4 (by decide) (by intro i hi; match i, hi with | 0, _ => exact hc0 | 1, _ => exact hc1 | 2, _ => exact hc2 | 3, _ => exact hc3 | i + 4, hi => exact absurd hi (by omega))) (by decide) ?_
      refine v_bipush (pc' := 109) C (-2) dX6_family_107 bc_m2 rfl ?_
      exact v_iret (rf := fun (o9 : Int32 × Md) => o9.1) (Wf := fun (o9 : Int32 × Md) (u9 : Unit) => wM g aM o9.2) (ok := fun (o9 : Int32 × Md) (u9 : Unit) => True) C Cr h hQ () trivial rfl rfl dX6_family_109
    · refine v_iconst (pc' := 34) C (-1) dX6_family_33 ic_m1 rfl ?_
      exact v_iret (rf := fun (o9 : Int32 × Md) => o9.1) (Wf := fun (o9 : Int32 × Md) (u9 : Unit) => wM g aM o9.2) (ok := fun (o9 : Int32 × Md) (u9 : Unit) => True) C Cr h hQ () trivial rfl rfl dX6_family_34
  · refine v_aload_n (pc' := 9) C 0 dX6_family_8 rfl rfl ?_
    refine v_iload_n (pc' := 10) C 1 dX6_family_9 rfl rfl ?_
    refine v_calli (pc' := 13) C h (rf := fun r9 => r9) ([]) (fun r9 (u9 : Unit) => wM g aM zM) (fun r hr => run_V C (c_X6_bar l g aM _ _ r hr) gX6_family_X6_bar rfl nd_X6_bar rfl rfl rfl rfl ⟨Nat.le_of_ble_eq_true rfl, Nat.le_of_ble_eq_true rfl⟩ ⟨Nat.le_of_ble_eq_true rfl, Nat.le_of_ble_eq_true rfl⟩ (Nat.le_of_ble_eq_true rfl) dX6_family_10 rfl) [0, 1, 2, 3, 4, 5, 6, 7, 8, 9] [] [0, 1, 2, 3, 4, 5, 6, 7, 8, 9] rfl rfl rfl rfl (by decide) rfl (fun _ _ => rfl) (k' := 0) (n' := 0) rfl rfl rfl (fun r_10 _ _ h => ?_)
    exact v_iret (rf := fun (o9 : Int32 × Md) => o9.1) (Wf := fun (o9 : Int32 × Md) (u9 : Unit) => wM g aM o9.2) (ok := fun (o9 : Int32 × Md) (u9 : Unit) => True) C Cr h hQ () trivial rfl rfl dX6_family_13
def f_X6_spread_J53  (v2_5 : Int32) (zM_6 : Md) : Option (Int32 × Md) :=
  getA (M_s zM_6) 319 (7 : Int32) fun e_7 =>
  Option.bind (f_X6_bits e_7) fun r_8 =>
  divI ((1000 : Int32) * v2_5) r_8 fun q_9 =>
  some (q_9, zM_6)
def f_X6_spread_L23 (r_2 : Md) (re23 : Int32 → Int32 → Option (Int32 × Md)) (v2_3 : Int32) (v3_4 : Int32) : Option (Int32 × Md) :=
  if v3_4 < (M_many r_2) then getA (M_size r_2) 30 v3_4 fun e_10 =>
  getA (M_size r_2) 30 v3_4 fun e_11 =>
  lett (v2_3 + (e_10 * e_11)) fun v2_12 =>
  lett (v3_4 + (1 : Int32)) fun v3_13 =>
  re23 v2_12 v3_13
  else f_X6_spread_J53  v2_3 r_2
def f_X6_spread (zM : Md) (p1 : Int32) : Option (Int32 × Md) :=
  Option.bind (f_X6_bar zM p1) fun r_1 =>
  if r_1 = 0 then Option.bind (f_X6_laysFamilies zM p1) fun r_2 =>
  loop2 (f_X6_spread_L23 r_2) FU (0 : Int32) (0 : Int32)
  else Option.bind (f_X6_bar zM p1) fun r_14 =>
  some (r_14, zM)
abbrev rm_X6_spread : Room := { frames := 3, cells := 0, slots := 0, locals := 70 }
theorem in_X6_spread_6 : ∀ w ∈ wsX60, w ∈ wsX6_spread := fun _ h => List.mem_cons_of_mem _ (List.mem_append_right _ h)
theorem k_X6_spread_1 : Cond.fieldLink RX6 37 "DodgingHangmanModel" "many" "I" ∈ wsX6_spread := List.mem_of_getElem? (i := 1) rfl
theorem k_X6_spread_3 : Cond.fieldLink RX6 7 "DodgingHangmanModel" "s" "[I" ∈ wsX6_spread := List.mem_of_getElem? (i := 3) rfl
theorem k_X6_spread_2 : Cond.fieldLink RX6 28 "DodgingHangmanModel" "size" "[I" ∈ wsX6_spread := List.mem_of_getElem? (i := 2) rfl
theorem nd_X6_spread : yX6_spread.cls ≠ "java/lang/invoke/MethodHandle" ∧ yX6_spread.cls ≠ "java/lang/invoke/VarHandle" ∧ (parseMethodDescriptor yX6_spread.desc).map (fun d => d.parameters.length) = some 1 := by decide +kernel
set_option maxHeartbeats 4000000 in
set_option maxRecDepth 100000 in
theorem c_X6_spread (l : Launch) (g : Gv) (aM : A10) (zM : Md) (p1 : Int32) (o : Int32 × Md) (h : f_X6_spread zM p1 = some o) : Ct l g yX6_spread wsX6_spread rm_X6_spread [.ref aM.1, .int p1] (wM g aM zM) (Qi g o.1 (fun _ : Unit => wM g aM o.2) (fun _ => True)) := by
  refine enter (ret := (some .int)) (X := wM g aM zM) (pl := []) pn_X6 rfl (Nat.le_of_ble_eq_true rfl) ((List.append_nil _).symm) ?_
  intro p e s m args below meth c A Q C Cr hin hQ
  unfold f_X6_spread at h
  have J53 : ∀ (v2_5 : Int32) (zM_6 : Md), f_X6_spread_J53  v2_5 zM_6 = some o → V p l e rm_X6_spread s m args below meth c g 4 A 0 0 Q (wM g aM zM_6) [] [(0, .ref aM.1), (2, .int v2_5)] 53 [] := by
    intro v2_5 zM_6 h
    unfold f_X6_spread_J53 at h
    refine v_sipush (pc' := 56) C (1000) dX6_spread_53 sc_1000 rfl ?_
    refine v_iload_n (pc' := 57) C 1 dX6_spread_56 rfl rfl ?_
    refine v_imul (pc' := 58) C dX6_spread_57 rfl ?_
    refine v_aload_n (pc' := 59) C 0 dX6_spread_58 rfl rfl ?_
    refine g_M_s (pc' := 62) C 0 in_X6_spread_6 rfl k_X6_spread_3 rfl dX6_spread_59 rfl ?_
    refine v_bipush (pc' := 64) C (7) dX6_spread_62 bc_7 rfl ?_
    refine v_iald (pc' := 65) C h 1 rfl dX6_spread_64 rfl (fun e_7 h => ?_)
    refine v_purei (pc' := 68) C h (rf := fun r9 => r9) (fun r hr => run_S C (c_X6_bits l g _ r hr) gX6_spread_X6_bits rfl nd_X6_bits ⟨Nat.le_of_ble_eq_true rfl, Nat.le_of_ble_eq_true rfl⟩ ⟨Nat.le_of_ble_eq_true rfl, Nat.le_of_ble_eq_true rfl⟩ (Nat.le_of_ble_eq_true rfl) dX6_spread_65 rfl) rfl (fun r_8 h => ?_)
    refine v_idiv (pc' := 69) C h dX6_spread_68 rfl (fun q_9 h => ?_)
    exact v_iret (rf := fun (o9 : Int32 × Md) => o9.1) (Wf := fun (o9 : Int32 × Md) (u9 : Unit) => wM g aM o9.2) (ok := fun (o9 : Int32 × Md) (u9 : Unit) => True) C Cr h hQ () trivial rfl rfl dX6_spread_69
  refine v_aload_n (pc' := 1) C 0 dX6_spread_0 rfl rfl ?_
  refine v_iload_n (pc' := 2) C 1 dX6_spread_1 rfl rfl ?_
  refine v_calli (pc' := 5) C h (rf := fun r9 => r9) ([]) (fun r9 (u9 : Unit) => wM g aM zM) (fun r hr => run_V C (c_X6_bar l g aM _ _ r hr) gX6_spread_X6_bar rfl nd_X6_bar rfl rfl rfl rfl ⟨Nat.le_of_ble_eq_true rfl, Nat.le_of_ble_eq_true rfl⟩ ⟨Nat.le_of_ble_eq_true rfl, Nat.le_of_ble_eq_true rfl⟩ (Nat.le_of_ble_eq_true rfl) dX6_spread_2 rfl) [0, 1, 2, 3, 4, 5, 6, 7, 8, 9] [] [0, 1, 2, 3, 4, 5, 6, 7, 8, 9] rfl rfl rfl rfl (by decide) rfl (fun _ _ => rfl) (k' := 0) (n' := 0) rfl rfl rfl (fun r_1 _ _ h => ?_)
  refine v_if_eq C 14 8 h dX6_spread_5 (by decide) rfl (fun _ h => ?_) (fun _ h => ?_)
  · refine v_aload_n (pc' := 15) C 0 dX6_spread_14 rfl rfl ?_
    refine v_iload_n (pc' := 16) C 1 dX6_spread_15 rfl rfl ?_
    refine v_callv (pc' := 19) C h ([]) (fun r9 (u9 : Unit) => wM g aM r9) (fun r hr => run_V C (c_X6_laysFamilies l g aM _ _ r hr) gX6_spread_X6_laysFamilies rfl nd_X6_laysFamilies rfl rfl rfl rfl ⟨Nat.le_of_ble_eq_true rfl, Nat.le_of_ble_eq_true rfl⟩ ⟨Nat.le_of_ble_eq_true rfl, Nat.le_of_ble_eq_true rfl⟩ (Nat.le_of_ble_eq_true rfl) dX6_spread_16 rfl) [0, 1, 2, 3, 4, 5, 6, 7, 8, 9] [] [0, 1, 2, 3, 4, 5, 6, 7, 8, 9] rfl rfl rfl rfl (by decide) rfl (fun _ _ => rfl) (k' := 0) (n' := 0) rfl rfl rfl (fun r_2 _ _ h => ?_)
    refine v_iconst (pc' := 20) C (0) dX6_spread_19 ic_0 rfl ?_
    refine v_istore_n (pc' := 21) C [1, 2, 0] (lv' := [(0, .ref aM.1), (1, .int p1), (2, .int (0 : Int32))]) dX6_spread_20 (Nat.le_of_ble_eq_true rfl) rfl rfl ?_
    refine v_iconst (pc' := 22) C (0) dX6_spread_21 ic_0 rfl ?_
    refine v_istore_n (pc' := 23) C [1, 2, 3, 0] (lv' := [(0, .ref aM.1), (1, .int p1), (2, .int (0 : Int32)), (3, .int (0 : Int32))]) dX6_spread_22 (Nat.le_of_ble_eq_true rfl) rfl rfl ?_
    refine v_lv [0, 2, 3] (lv' := [(0, .ref aM.1), (2, .int (0 : Int32)), (3, .int (0 : Int32))]) rfl ?_
    refine v_loop2 (fun (v2_3 : Int32) (v3_4 : Int32) => V p l e rm_X6_spread s m args below meth c g 4 A 0 0 Q (wM g aM r_2) [] [(0, .ref aM.1), (2, .int v2_3), (3, .int v3_4)] 23 []) (fun re23 ih23 v2_3 v3_4 h => ?_) (0 : Int32) (0 : Int32) h
    unfold f_X6_spread_L23 at h
    refine v_iload_n (pc' := 24) C 2 dX6_spread_23 rfl rfl ?_
    refine v_aload_n (pc' := 25) C 0 dX6_spread_24 rfl rfl ?_
    refine g_M_many (pc' := 28) C 0 in_X6_spread_6 rfl k_X6_spread_1 rfl dX6_spread_25 rfl ?_
    refine v_icmp_ge C 53 31 h dX6_spread_28 (by decide) rfl (fun _ h => ?_) (fun _ h => ?_)
    · refine v_lv [0, 1] (lv' := [(0, .ref aM.1), (2, .int v2_3)]) rfl ?_
      exact J53 v2_3 r_2 h
    · refine v_iload_n (pc' := 32) C 1 dX6_spread_31 rfl rfl ?_
      refine v_aload_n (pc' := 33) C 0 dX6_spread_32 rfl rfl ?_
      refine g_M_size (pc' := 36) C 0 in_X6_spread_6 rfl k_X6_spread_2 rfl dX6_spread_33 rfl ?_
      refine v_iload_n (pc' := 37) C 2 dX6_spread_36 rfl rfl ?_
      refine v_iald (pc' := 38) C h 7 rfl dX6_spread_37 rfl (fun e_10 h => ?_)
      refine v_aload_n (pc' := 39) C 0 dX6_spread_38 rfl rfl ?_
      refine g_M_size (pc' := 42) C 0 in_X6_spread_6 rfl k_X6_spread_2 rfl dX6_spread_39 rfl ?_
      refine v_iload_n (pc' := 43) C 2 dX6_spread_42 rfl rfl ?_
      refine v_iald (pc' := 44) C h 7 rfl dX6_spread_43 rfl (fun e_11 h => ?_)
      refine v_imul (pc' := 45) C dX6_spread_44 rfl ?_
      refine v_iadd (pc' := 46) C dX6_spread_45 rfl ?_
      refine v_leti h (fun v2_12 h => ?_)
      refine v_istore_n (pc' := 47) C [1, 0, 2] (lv' := [(0, .ref aM.1), (2, .int v2_12), (3, .int v3_4)]) dX6_spread_46 (Nat.le_of_ble_eq_true rfl) rfl rfl ?_
      refine v_iinc (pc' := 50) C 2 [1, 2, 0] (1) dX6_spread_47 rfl ic_1 (Nat.le_of_ble_eq_true rfl) h (lw := fun v9 => [(0, .ref aM.1), (2, .int v2_12), (3, .int v9)]) (fun _ => rfl) rfl (fun v3_13 h => ?_)
      refine v_goto C (pc' := 23) dX6_spread_50 (by decide) ?_
      exact ih23 v2_12 v3_13 h
  · refine v_aload_n (pc' := 9) C 0 dX6_spread_8 rfl rfl ?_
    refine v_iload_n (pc' := 10) C 1 dX6_spread_9 rfl rfl ?_
    refine v_calli (pc' := 13) C h (rf := fun r9 => r9) ([]) (fun r9 (u9 : Unit) => wM g aM zM) (fun r hr => run_V C (c_X6_bar l g aM _ _ r hr) gX6_spread_X6_bar rfl nd_X6_bar rfl rfl rfl rfl ⟨Nat.le_of_ble_eq_true rfl, Nat.le_of_ble_eq_true rfl⟩ ⟨Nat.le_of_ble_eq_true rfl, Nat.le_of_ble_eq_true rfl⟩ (Nat.le_of_ble_eq_true rfl) dX6_spread_10 rfl) [0, 1, 2, 3, 4, 5, 6, 7, 8, 9] [] [0, 1, 2, 3, 4, 5, 6, 7, 8, 9] rfl rfl rfl rfl (by decide) rfl (fun _ _ => rfl) (k' := 0) (n' := 0) rfl rfl rfl (fun r_14 _ _ h => ?_)
    exact v_iret (rf := fun (o9 : Int32 × Md) => o9.1) (Wf := fun (o9 : Int32 × Md) (u9 : Unit) => wM g aM o9.2) (ok := fun (o9 : Int32 × Md) (u9 : Unit) => True) C Cr h hQ () trivial rfl rfl dX6_spread_13
def f_X6_having_L26 (zM : Md) (p1 : Int32) (re26 : Int32 → Int32 → Option (Int32)) (v2_3 : Int32) (v3_4 : Int32) : Option (Int32) :=
  getA (M_s zM) 319 (0 : Int32) fun e_5 =>
  if v3_4 < e_5 then Option.bind (f_X6_isCandidate zM v3_4) fun r_6 =>
  if r_6 = 0 then lett (v2_3 + (0 : Int32)) fun v2_7 =>
  lett (v3_4 + (1 : Int32)) fun v3_8 =>
  re26 v2_7 v3_8
  else Option.bind (f_X6_maskOf zM v3_4 p1) fun r_9 =>
  if r_9 = 0 then lett (v2_3 + (0 : Int32)) fun v2_10 =>
  lett (v3_4 + (1 : Int32)) fun v3_11 =>
  re26 v2_10 v3_11
  else lett (v2_3 + (1 : Int32)) fun v2_12 =>
  lett (v3_4 + (1 : Int32)) fun v3_13 =>
  re26 v2_12 v3_13
  else some v2_3
def f_X6_having (zM : Md) (p1 : Int32) : Option (Int32) :=
  Option.bind (f_X6_isLetter p1) fun r_1 =>
  if r_1 = 0 then some (-2 : Int32)
  else getA (M_s zM) 319 (2 : Int32) fun e_2 =>
  if e_2 = 0 then some (-3 : Int32)
  else loop2 (f_X6_having_L26 zM p1) FU (0 : Int32) (0 : Int32)
abbrev rm_X6_having : Room := { frames := 2, cells := 0, slots := 0, locals := 46 }
theorem in_X6_having_6 : ∀ w ∈ wsX60, w ∈ wsX6_having := fun _ h => List.mem_cons_of_mem _ (List.mem_append_right _ h)
theorem k_X6_having_1 : Cond.fieldLink RX6 7 "DodgingHangmanModel" "s" "[I" ∈ wsX6_having := List.mem_of_getElem? (i := 1) rfl
theorem nd_X6_having : yX6_having.cls ≠ "java/lang/invoke/MethodHandle" ∧ yX6_having.cls ≠ "java/lang/invoke/VarHandle" ∧ (parseMethodDescriptor yX6_having.desc).map (fun d => d.parameters.length) = some 1 := by decide +kernel
set_option maxHeartbeats 4000000 in
set_option maxRecDepth 100000 in
theorem c_X6_having (l : Launch) (g : Gv) (aM : A10) (zM : Md) (p1 : Int32) (o : Int32) (h : f_X6_having zM p1 = some o) : Ct l g yX6_having wsX6_having rm_X6_having [.ref aM.1, .int p1] (wM g aM zM) (Qi g o (fun _ : Unit => wM g aM zM) (fun _ => True)) := by
  refine enter (ret := (some .int)) (X := wM g aM zM) (pl := []) pn_X6 rfl (Nat.le_of_ble_eq_true rfl) ((List.append_nil _).symm) ?_
  intro p e s m args below meth c A Q C Cr hin hQ
  unfold f_X6_having at h
  refine v_iload_n (pc' := 1) C 1 dX6_having_0 rfl rfl ?_
  refine v_purei (pc' := 4) C h (rf := fun r9 => r9) (fun r hr => run_S C (c_X6_isLetter l g _ r hr) gX6_having_X6_isLetter rfl nd_X6_isLetter ⟨Nat.le_of_ble_eq_true rfl, Nat.le_of_ble_eq_true rfl⟩ ⟨Nat.le_of_ble_eq_true rfl, Nat.le_of_ble_eq_true rfl⟩ (Nat.le_of_ble_eq_true rfl) dX6_having_1 rfl) rfl (fun r_1 h => ?_)
  refine v_if_ne C 10 7 h dX6_having_4 (by decide) rfl (fun _ h => ?_) (fun _ h => ?_)
  · refine v_aload_n (pc' := 11) C 0 dX6_having_10 rfl rfl ?_
    refine g_M_s (pc' := 14) C 0 in_X6_having_6 rfl k_X6_having_1 rfl dX6_having_11 rfl ?_
    refine v_iconst (pc' := 15) C (2) dX6_having_14 ic_2 rfl ?_
    refine v_iald (pc' := 16) C h 1 rfl dX6_having_15 rfl (fun e_2 h => ?_)
    refine v_if_ne C 22 19 h dX6_having_16 (by decide) rfl (fun _ h => ?_) (fun _ h => ?_)
    · refine v_iconst (pc' := 23) C (0) dX6_having_22 ic_0 rfl ?_
      refine v_istore_n (pc' := 24) C [1, 2, 0] (lv' := [(0, .ref aM.1), (1, .int p1), (2, .int (0 : Int32))]) dX6_having_23 (Nat.le_of_ble_eq_true rfl) rfl rfl ?_
      refine v_iconst (pc' := 25) C (0) dX6_having_24 ic_0 rfl ?_
      refine v_istore_n (pc' := 26) C [1, 2, 3, 0] (lv' := [(0, .ref aM.1), (1, .int p1), (2, .int (0 : Int32)), (3, .int (0 : Int32))]) dX6_having_25 (Nat.le_of_ble_eq_true rfl) rfl rfl ?_
      refine v_loop2 (fun (v2_3 : Int32) (v3_4 : Int32) => V p l e rm_X6_having s m args below meth c g 4 A 0 0 Q (wM g aM zM) [] [(0, .ref aM.1), (1, .int p1), (2, .int v2_3), (3, .int v3_4)] 26 []) (fun re26 ih26 v2_3 v3_4 h => ?_) (0 : Int32) (0 : Int32) h
      unfold f_X6_having_L26 at h
      refine v_iload_n (pc' := 27) C 3 dX6_having_26 rfl rfl ?_
      refine v_aload_n (pc' := 28) C 0 dX6_having_27 rfl rfl ?_
      refine g_M_s (pc' := 31) C 0 in_X6_having_6 rfl k_X6_having_1 rfl dX6_having_28 rfl ?_
      refine v_iconst (pc' := 32) C (0) dX6_having_31 ic_0 rfl ?_
      refine v_iald (pc' := 33) C h 1 rfl dX6_having_32 rfl (fun e_5 h => ?_)
      refine v_icmp_ge C 67 36 h dX6_having_33 (by decide) rfl (fun _ h => ?_) (fun _ h => ?_)
      · refine v_iload_n (pc' := 68) C 2 dX6_having_67 rfl rfl ?_
        exact v_iret (rf := fun (o9 : Int32) => o9) (Wf := fun (o9 : Int32) (u9 : Unit) => wM g aM zM) (ok := fun (o9 : Int32) (u9 : Unit) => True) C Cr h hQ () trivial rfl rfl dX6_having_68
      · refine v_iload_n (pc' := 37) C 2 dX6_having_36 rfl rfl ?_
        refine v_aload_n (pc' := 38) C 0 dX6_having_37 rfl rfl ?_
        refine v_iload_n (pc' := 39) C 3 dX6_having_38 rfl rfl ?_
        refine v_calli (pc' := 42) C h (rf := fun r9 => r9) ([]) (fun r9 (u9 : Unit) => wM g aM zM) (fun r hr => run_V C (c_X6_isCandidate l g aM _ _ r hr) gX6_having_X6_isCandidate rfl nd_X6_isCandidate rfl rfl rfl rfl ⟨Nat.le_of_ble_eq_true rfl, Nat.le_of_ble_eq_true rfl⟩ ⟨Nat.le_of_ble_eq_true rfl, Nat.le_of_ble_eq_true rfl⟩ (Nat.le_of_ble_eq_true rfl) dX6_having_39 rfl) [0, 1, 2, 3, 4, 5, 6, 7, 8, 9] [] [0, 1, 2, 3, 4, 5, 6, 7, 8, 9] rfl rfl rfl rfl (by decide) rfl (fun _ _ => rfl) (k' := 0) (n' := 0) rfl rfl rfl (fun r_6 _ _ h => ?_)
        refine v_if_eq C 58 45 h dX6_having_42 (by decide) rfl (fun _ h => ?_) (fun _ h => ?_)
        · refine v_iconst (pc' := 59) C (0) dX6_having_58 ic_0 rfl ?_
          refine v_iadd (pc' := 60) C dX6_having_59 rfl ?_
          refine v_leti h (fun v2_7 h => ?_)
          refine v_istore_n (pc' := 61) C [1, 2, 0, 3] (lv' := [(0, .ref aM.1), (1, .int p1), (2, .int v2_7), (3, .int v3_4)]) dX6_having_60 (Nat.le_of_ble_eq_true rfl) rfl rfl ?_
          refine v_iinc (pc' := 64) C 3 [1, 2, 3, 0] (1) dX6_having_61 rfl ic_1 (Nat.le_of_ble_eq_true rfl) h (lw := fun v9 => [(0, .ref aM.1), (1, .int p1), (2, .int v2_7), (3, .int v9)]) (fun _ => rfl) rfl (fun v3_8 h => ?_)
          refine v_goto C (pc' := 26) dX6_having_64 (by decide) ?_
          exact ih26 v2_7 v3_8 h
        · refine v_aload_n (pc' := 46) C 0 dX6_having_45 rfl rfl ?_
          refine v_iload_n (pc' := 47) C 3 dX6_having_46 rfl rfl ?_
          refine v_iload_n (pc' := 48) C 1 dX6_having_47 rfl rfl ?_
          refine v_calli (pc' := 51) C h (rf := fun r9 => r9) ([]) (fun r9 (u9 : Unit) => wM g aM zM) (fun r hr => run_V C (c_X6_maskOf l g aM _ _ _ r hr) gX6_having_X6_maskOf rfl nd_X6_maskOf rfl rfl rfl rfl ⟨Nat.le_of_ble_eq_true rfl, Nat.le_of_ble_eq_true rfl⟩ ⟨Nat.le_of_ble_eq_true rfl, Nat.le_of_ble_eq_true rfl⟩ (Nat.le_of_ble_eq_true rfl) dX6_having_48 rfl) [0, 1, 2, 3, 4, 5, 6, 7, 8, 9] [] [0, 1, 2, 3, 4, 5, 6, 7, 8, 9] rfl rfl rfl rfl (by decide) rfl (fun _ _ => rfl) (k' := 0) (n' := 0) rfl rfl rfl (fun r_9 _ _ h => ?_)
          refine v_if_eq C 58 54 h dX6_having_51 (by decide) rfl (fun _ h => ?_) (fun _ h => ?_)
          · refine v_iconst (pc' := 59) C (0) dX6_having_58 ic_0 rfl ?_
            refine v_iadd (pc' := 60) C dX6_having_59 rfl ?_
            refine v_leti h (fun v2_10 h => ?_)
            refine v_istore_n (pc' := 61) C [1, 2, 0, 3] (lv' := [(0, .ref aM.1), (1, .int p1), (2, .int v2_10), (3, .int v3_4)]) dX6_having_60 (Nat.le_of_ble_eq_true rfl) rfl rfl ?_
            refine v_iinc (pc' := 64) C 3 [1, 2, 3, 0] (1) dX6_having_61 rfl ic_1 (Nat.le_of_ble_eq_true rfl) h (lw := fun v9 => [(0, .ref aM.1), (1, .int p1), (2, .int v2_10), (3, .int v9)]) (fun _ => rfl) rfl (fun v3_11 h => ?_)
            refine v_goto C (pc' := 26) dX6_having_64 (by decide) ?_
            exact ih26 v2_10 v3_11 h
          · refine v_iconst (pc' := 55) C (1) dX6_having_54 ic_1 rfl ?_
            refine v_goto C (pc' := 59) dX6_having_55 (by decide) ?_
            refine v_iadd (pc' := 60) C dX6_having_59 rfl ?_
            refine v_leti h (fun v2_12 h => ?_)
            refine v_istore_n (pc' := 61) C [1, 2, 0, 3] (lv' := [(0, .ref aM.1), (1, .int p1), (2, .int v2_12), (3, .int v3_4)]) dX6_having_60 (Nat.le_of_ble_eq_true rfl) rfl rfl ?_
            refine v_iinc (pc' := 64) C 3 [1, 2, 3, 0] (1) dX6_having_61 rfl ic_1 (Nat.le_of_ble_eq_true rfl) h (lw := fun v9 => [(0, .ref aM.1), (1, .int p1), (2, .int v2_12), (3, .int v9)]) (fun _ => rfl) rfl (fun v3_13 h => ?_)
            refine v_goto C (pc' := 26) dX6_having_64 (by decide) ?_
            exact ih26 v2_12 v3_13 h
    · refine v_bipush (pc' := 21) C (-3) dX6_having_19 bc_m3 rfl ?_
      exact v_iret (rf := fun (o9 : Int32) => o9) (Wf := fun (o9 : Int32) (u9 : Unit) => wM g aM zM) (ok := fun (o9 : Int32) (u9 : Unit) => True) C Cr h hQ () trivial rfl rfl dX6_having_21
  · refine v_bipush (pc' := 9) C (-2) dX6_having_7 bc_m2 rfl ?_
    exact v_iret (rf := fun (o9 : Int32) => o9) (Wf := fun (o9 : Int32) (u9 : Unit) => wM g aM zM) (ok := fun (o9 : Int32) (u9 : Unit) => True) C Cr h hQ () trivial rfl rfl dX6_having_9
def f_X6_sure_L14 (zM : Md) (re14 : Int32 → Int32 → Option (Int32)) (v1_3 : Int32) (v2_4 : Int32) : Option (Int32) :=
  getA (M_s zM) 319 (0 : Int32) fun e_5 =>
  if v2_4 < e_5 then Option.bind (f_X6_isCandidate zM v2_4) fun r_6 =>
  if r_6 = 0 then lett (v1_3 &&& (-1 : Int32)) fun v1_7 =>
  lett (v2_4 + (1 : Int32)) fun v2_8 =>
  re14 v1_7 v2_8
  else Option.bind (f_X6_lettersOf zM v2_4) fun r_9 =>
  lett (v1_3 &&& r_9) fun v1_10 =>
  lett (v2_4 + (1 : Int32)) fun v2_11 =>
  re14 v1_10 v2_11
  else some v1_3
def f_X6_sure (zM : Md)  : Option (Int32) :=
  getA (M_s zM) 319 (5 : Int32) fun e_1 =>
  lett ((e_1 ^^^ (-1 : Int32)) &&& (67108863 : Int32)) fun v1_2 =>
  loop2 (f_X6_sure_L14 zM) FU v1_2 (0 : Int32)
abbrev rm_X6_sure : Room := { frames := 2, cells := 0, slots := 0, locals := 45 }
theorem in_X6_sure_6 : ∀ w ∈ wsX60, w ∈ wsX6_sure := fun _ h => List.mem_cons_of_mem _ (List.mem_append_right _ h)
theorem k_X6_sure_1 : Cond.fieldLink RX6 7 "DodgingHangmanModel" "s" "[I" ∈ wsX6_sure := List.mem_of_getElem? (i := 1) rfl
theorem k_X6_sure_2 : Cond.constant RX6 151 (67108863) ∈ wsX6_sure := List.mem_of_getElem? (i := 2) rfl
theorem nd_X6_sure : yX6_sure.cls ≠ "java/lang/invoke/MethodHandle" ∧ yX6_sure.cls ≠ "java/lang/invoke/VarHandle" ∧ (parseMethodDescriptor yX6_sure.desc).map (fun d => d.parameters.length) = some 0 := by decide +kernel
set_option maxHeartbeats 4000000 in
set_option maxRecDepth 100000 in
theorem c_X6_sure (l : Launch) (g : Gv) (aM : A10) (zM : Md)  (o : Int32) (h : f_X6_sure zM  = some o) : Ct l g yX6_sure wsX6_sure rm_X6_sure [.ref aM.1] (wM g aM zM) (Qi g o (fun _ : Unit => wM g aM zM) (fun _ => True)) := by
  refine enter (ret := (some .int)) (X := wM g aM zM) (pl := []) pn_X6 rfl (Nat.le_of_ble_eq_true rfl) ((List.append_nil _).symm) ?_
  intro p e s m args below meth c A Q C Cr hin hQ
  unfold f_X6_sure at h
  refine v_aload_n (pc' := 1) C 0 dX6_sure_0 rfl rfl ?_
  refine g_M_s (pc' := 4) C 0 in_X6_sure_6 rfl k_X6_sure_1 rfl dX6_sure_1 rfl ?_
  refine v_iconst (pc' := 5) C (5) dX6_sure_4 ic_5 rfl ?_
  refine v_iald (pc' := 6) C h 1 rfl dX6_sure_5 rfl (fun e_1 h => ?_)
  refine v_iconst (pc' := 7) C (-1) dX6_sure_6 ic_m1 rfl ?_
  refine v_ixor (pc' := 8) C dX6_sure_7 rfl ?_
  refine v_ldc (pc' := 10) C (67108863) dX6_sure_8 k_X6_sure_2 rfl ?_
  refine v_iand (pc' := 11) C dX6_sure_10 rfl ?_
  refine v_leti h (fun v1_2 h => ?_)
  refine v_istore_n (pc' := 12) C [1, 0] (lv' := [(0, .ref aM.1), (1, .int v1_2)]) dX6_sure_11 (Nat.le_of_ble_eq_true rfl) rfl rfl ?_
  refine v_iconst (pc' := 13) C (0) dX6_sure_12 ic_0 rfl ?_
  refine v_istore_n (pc' := 14) C [1, 2, 0] (lv' := [(0, .ref aM.1), (1, .int v1_2), (2, .int (0 : Int32))]) dX6_sure_13 (Nat.le_of_ble_eq_true rfl) rfl rfl ?_
  refine v_loop2 (fun (v1_3 : Int32) (v2_4 : Int32) => V p l e rm_X6_sure s m args below meth c g 3 A 0 0 Q (wM g aM zM) [] [(0, .ref aM.1), (1, .int v1_3), (2, .int v2_4)] 14 []) (fun re14 ih14 v1_3 v2_4 h => ?_) v1_2 (0 : Int32) h
  unfold f_X6_sure_L14 at h
  refine v_iload_n (pc' := 15) C 2 dX6_sure_14 rfl rfl ?_
  refine v_aload_n (pc' := 16) C 0 dX6_sure_15 rfl rfl ?_
  refine g_M_s (pc' := 19) C 0 in_X6_sure_6 rfl k_X6_sure_1 rfl dX6_sure_16 rfl ?_
  refine v_iconst (pc' := 20) C (0) dX6_sure_19 ic_0 rfl ?_
  refine v_iald (pc' := 21) C h 1 rfl dX6_sure_20 rfl (fun e_5 h => ?_)
  refine v_icmp_ge C 50 24 h dX6_sure_21 (by decide) rfl (fun _ h => ?_) (fun _ h => ?_)
  · refine v_iload_n (pc' := 51) C 1 dX6_sure_50 rfl rfl ?_
    exact v_iret (rf := fun (o9 : Int32) => o9) (Wf := fun (o9 : Int32) (u9 : Unit) => wM g aM zM) (ok := fun (o9 : Int32) (u9 : Unit) => True) C Cr h hQ () trivial rfl rfl dX6_sure_51
  · refine v_iload_n (pc' := 25) C 1 dX6_sure_24 rfl rfl ?_
    refine v_aload_n (pc' := 26) C 0 dX6_sure_25 rfl rfl ?_
    refine v_iload_n (pc' := 27) C 2 dX6_sure_26 rfl rfl ?_
    refine v_calli (pc' := 30) C h (rf := fun r9 => r9) ([]) (fun r9 (u9 : Unit) => wM g aM zM) (fun r hr => run_V C (c_X6_isCandidate l g aM _ _ r hr) gX6_sure_X6_isCandidate rfl nd_X6_isCandidate rfl rfl rfl rfl ⟨Nat.le_of_ble_eq_true rfl, Nat.le_of_ble_eq_true rfl⟩ ⟨Nat.le_of_ble_eq_true rfl, Nat.le_of_ble_eq_true rfl⟩ (Nat.le_of_ble_eq_true rfl) dX6_sure_27 rfl) [0, 1, 2, 3, 4, 5, 6, 7, 8, 9] [] [0, 1, 2, 3, 4, 5, 6, 7, 8, 9] rfl rfl rfl rfl (by decide) rfl (fun _ _ => rfl) (k' := 0) (n' := 0) rfl rfl rfl (fun r_6 _ _ h => ?_)
    refine v_if_eq C 41 33 h dX6_sure_30 (by decide) rfl (fun _ h => ?_) (fun _ h => ?_)
    · refine v_iconst (pc' := 42) C (-1) dX6_sure_41 ic_m1 rfl ?_
      refine v_iand (pc' := 43) C dX6_sure_42 rfl ?_
      refine v_leti h (fun v1_7 h => ?_)
      refine v_istore_n (pc' := 44) C [1, 0, 2] (lv' := [(0, .ref aM.1), (1, .int v1_7), (2, .int v2_4)]) dX6_sure_43 (Nat.le_of_ble_eq_true rfl) rfl rfl ?_
      refine v_iinc (pc' := 47) C 2 [1, 2, 0] (1) dX6_sure_44 rfl ic_1 (Nat.le_of_ble_eq_true rfl) h (lw := fun v9 => [(0, .ref aM.1), (1, .int v1_7), (2, .int v9)]) (fun _ => rfl) rfl (fun v2_8 h => ?_)
      refine v_goto C (pc' := 14) dX6_sure_47 (by decide) ?_
      exact ih14 v1_7 v2_8 h
    · refine v_aload_n (pc' := 34) C 0 dX6_sure_33 rfl rfl ?_
      refine v_iload_n (pc' := 35) C 2 dX6_sure_34 rfl rfl ?_
      refine v_calli (pc' := 38) C h (rf := fun r9 => r9) ([]) (fun r9 (u9 : Unit) => wM g aM zM) (fun r hr => run_V C (c_X6_lettersOf l g aM _ _ r hr) gX6_sure_X6_lettersOf rfl nd_X6_lettersOf rfl rfl rfl rfl ⟨Nat.le_of_ble_eq_true rfl, Nat.le_of_ble_eq_true rfl⟩ ⟨Nat.le_of_ble_eq_true rfl, Nat.le_of_ble_eq_true rfl⟩ (Nat.le_of_ble_eq_true rfl) dX6_sure_35 rfl) [0, 1, 2, 3, 4, 5, 6, 7, 8, 9] [] [0, 1, 2, 3, 4, 5, 6, 7, 8, 9] rfl rfl rfl rfl (by decide) rfl (fun _ _ => rfl) (k' := 0) (n' := 0) rfl rfl rfl (fun r_9 _ _ h => ?_)
      refine v_goto C (pc' := 42) dX6_sure_38 (by decide) ?_
      refine v_iand (pc' := 43) C dX6_sure_42 rfl ?_
      refine v_leti h (fun v1_10 h => ?_)
      refine v_istore_n (pc' := 44) C [1, 0, 2] (lv' := [(0, .ref aM.1), (1, .int v1_10), (2, .int v2_4)]) dX6_sure_43 (Nat.le_of_ble_eq_true rfl) rfl rfl ?_
      refine v_iinc (pc' := 47) C 2 [1, 2, 0] (1) dX6_sure_44 rfl ic_1 (Nat.le_of_ble_eq_true rfl) h (lw := fun v9 => [(0, .ref aM.1), (1, .int v1_10), (2, .int v9)]) (fun _ => rfl) rfl (fun v2_11 h => ?_)
      refine v_goto C (pc' := 14) dX6_sure_47 (by decide) ?_
      exact ih14 v1_10 v2_11 h
def f_X6_sureLetters (zM : Md)  : Option (Int32) :=
  Option.bind (f_X6_runs zM) fun r_1 =>
  if r_1 = 0 then some (-3 : Int32)
  else Option.bind (f_X6_sure zM) fun r_2 =>
  some r_2
abbrev rm_X6_sureLetters : Room := { frames := 3, cells := 0, slots := 0, locals := 67 }
theorem nd_X6_sureLetters : yX6_sureLetters.cls ≠ "java/lang/invoke/MethodHandle" ∧ yX6_sureLetters.cls ≠ "java/lang/invoke/VarHandle" ∧ (parseMethodDescriptor yX6_sureLetters.desc).map (fun d => d.parameters.length) = some 0 := by decide +kernel
set_option maxHeartbeats 4000000 in
set_option maxRecDepth 100000 in
theorem c_X6_sureLetters (l : Launch) (g : Gv) (aM : A10) (zM : Md)  (o : Int32) (h : f_X6_sureLetters zM  = some o) : Ct l g yX6_sureLetters wsX6_sureLetters rm_X6_sureLetters [.ref aM.1] (wM g aM zM) (Qi g o (fun _ : Unit => wM g aM zM) (fun _ => True)) := by
  refine enter (ret := (some .int)) (X := wM g aM zM) (pl := []) pn_X6 rfl (Nat.le_of_ble_eq_true rfl) ((List.append_nil _).symm) ?_
  intro p e s m args below meth c A Q C Cr hin hQ
  unfold f_X6_sureLetters at h
  refine v_aload_n (pc' := 1) C 0 dX6_sureLetters_0 rfl rfl ?_
  refine v_calli (pc' := 4) C h (rf := fun r9 => r9) ([]) (fun r9 (u9 : Unit) => wM g aM zM) (fun r hr => run_V C (c_X6_runs l g aM _ r hr) gX6_sureLetters_X6_runs rfl nd_X6_runs rfl rfl rfl rfl ⟨Nat.le_of_ble_eq_true rfl, Nat.le_of_ble_eq_true rfl⟩ ⟨Nat.le_of_ble_eq_true rfl, Nat.le_of_ble_eq_true rfl⟩ (Nat.le_of_ble_eq_true rfl) dX6_sureLetters_1 rfl) [0, 1, 2, 3, 4, 5, 6, 7, 8, 9] [] [0, 1, 2, 3, 4, 5, 6, 7, 8, 9] rfl rfl rfl rfl (by decide) rfl (fun _ _ => rfl) (k' := 0) (n' := 0) rfl rfl rfl (fun r_1 _ _ h => ?_)
  refine v_if_eq C 14 7 h dX6_sureLetters_4 (by decide) rfl (fun _ h => ?_) (fun _ h => ?_)
  · refine v_bipush (pc' := 16) C (-3) dX6_sureLetters_14 bc_m3 rfl ?_
    exact v_iret (rf := fun (o9 : Int32) => o9) (Wf := fun (o9 : Int32) (u9 : Unit) => wM g aM zM) (ok := fun (o9 : Int32) (u9 : Unit) => True) C Cr h hQ () trivial rfl rfl dX6_sureLetters_16
  · refine v_aload_n (pc' := 8) C 0 dX6_sureLetters_7 rfl rfl ?_
    refine v_calli (pc' := 11) C h (rf := fun r9 => r9) ([]) (fun r9 (u9 : Unit) => wM g aM zM) (fun r hr => run_V C (c_X6_sure l g aM _ r hr) gX6_sureLetters_X6_sure rfl nd_X6_sure rfl rfl rfl rfl ⟨Nat.le_of_ble_eq_true rfl, Nat.le_of_ble_eq_true rfl⟩ ⟨Nat.le_of_ble_eq_true rfl, Nat.le_of_ble_eq_true rfl⟩ (Nat.le_of_ble_eq_true rfl) dX6_sureLetters_8 rfl) [0, 1, 2, 3, 4, 5, 6, 7, 8, 9] [] [0, 1, 2, 3, 4, 5, 6, 7, 8, 9] rfl rfl rfl rfl (by decide) rfl (fun _ _ => rfl) (k' := 0) (n' := 0) rfl rfl rfl (fun r_2 _ _ h => ?_)
    refine v_goto C (pc' := 16) dX6_sureLetters_11 (by decide) ?_
    exact v_iret (rf := fun (o9 : Int32) => o9) (Wf := fun (o9 : Int32) (u9 : Unit) => wM g aM zM) (ok := fun (o9 : Int32) (u9 : Unit) => True) C Cr h hQ () trivial rfl rfl dX6_sureLetters_16
def f_X6_best_J79 (re11 : Int32 → Int32 → Int32 → Int32 → Md → Option (Int32 × Md)) (v4_10 : Int32) (v5_11 : Int32) (zM_12 : Md) : Option (Int32 × Md) :=
  getA (M_size zM_12) 30 v5_11 fun e_13 =>
  getA (M_places zM_12) 30 v5_11 fun e_14 =>
  lett (v4_10 + (1 : Int32)) fun v4_15 =>
  re11 v4_10 e_13 e_14 v4_15 zM_12
def f_X6_best_L11  (re11 : Int32 → Int32 → Int32 → Int32 → Md → Option (Int32 × Md)) (v1_1 : Int32) (v2_2 : Int32) (v3_3 : Int32) (v4_4 : Int32) (zM_5 : Md) : Option (Int32 × Md) :=
  if (122 : Int32) < v4_4 then some (v1_1, zM_5)
  else Option.bind (f_X6_isGuessed zM_5 v4_4) fun r_6 =>
  if r_6 = 0 then Option.bind (f_X6_laysFamilies zM_5 v4_4) fun r_8 =>
  Option.bind (f_X6_ranked r_8 (0 : Int32)) fun r_9 =>
  if v1_1 = (-6 : Int32) then f_X6_best_J79 re11 v4_4 r_9 r_8
  else getA (M_size r_8) 30 r_9 fun e_16 =>
  if e_16 < v2_2 then f_X6_best_J79 re11 v4_4 r_9 r_8
  else getA (M_size r_8) 30 r_9 fun e_17 =>
  if e_17 = v2_2 then getA (M_places r_8) 30 r_9 fun e_19 =>
  if v3_3 < e_19 then f_X6_best_J79 re11 v4_4 r_9 r_8
  else lett (v4_4 + (1 : Int32)) fun v4_20 =>
  re11 v1_1 v2_2 v3_3 v4_20 r_8
  else lett (v4_4 + (1 : Int32)) fun v4_18 =>
  re11 v1_1 v2_2 v3_3 v4_18 r_8
  else lett (v4_4 + (1 : Int32)) fun v4_7 =>
  re11 v1_1 v2_2 v3_3 v4_7 zM_5
def f_X6_best (zM : Md)  : Option (Int32 × Md) :=
  loop5 (f_X6_best_L11 ) FU (-6 : Int32) (0 : Int32) (0 : Int32) (97 : Int32) zM
abbrev rm_X6_best : Room := { frames := 3, cells := 0, slots := 0, locals := 70 }
theorem in_X6_best_6 : ∀ w ∈ wsX60, w ∈ wsX6_best := fun _ h => List.mem_cons_of_mem _ (List.mem_append_right _ h)
theorem k_X6_best_1 : Cond.fieldLink RX6 28 "DodgingHangmanModel" "size" "[I" ∈ wsX6_best := List.mem_of_getElem? (i := 1) rfl
theorem k_X6_best_2 : Cond.fieldLink RX6 31 "DodgingHangmanModel" "places" "[I" ∈ wsX6_best := List.mem_of_getElem? (i := 2) rfl
theorem nd_X6_best : yX6_best.cls ≠ "java/lang/invoke/MethodHandle" ∧ yX6_best.cls ≠ "java/lang/invoke/VarHandle" ∧ (parseMethodDescriptor yX6_best.desc).map (fun d => d.parameters.length) = some 0 := by decide +kernel
set_option maxHeartbeats 4000000 in
set_option maxRecDepth 100000 in
theorem c_X6_best (l : Launch) (g : Gv) (aM : A10) (zM : Md)  (o : Int32 × Md) (h : f_X6_best zM  = some o) : Ct l g yX6_best wsX6_best rm_X6_best [.ref aM.1] (wM g aM zM) (Qi g o.1 (fun _ : Unit => wM g aM o.2) (fun _ => True)) := by
  refine enter (ret := (some .int)) (X := wM g aM zM) (pl := []) pn_X6 rfl (Nat.le_of_ble_eq_true rfl) ((List.append_nil _).symm) ?_
  intro p e s m args below meth c A Q C Cr hin hQ
  unfold f_X6_best at h
  refine v_bipush (pc' := 2) C (-6) dX6_best_0 bc_m6 rfl ?_
  refine v_istore_n (pc' := 3) C [1, 0] (lv' := [(0, .ref aM.1), (1, .int (-6 : Int32))]) dX6_best_2 (Nat.le_of_ble_eq_true rfl) rfl rfl ?_
  refine v_iconst (pc' := 4) C (0) dX6_best_3 ic_0 rfl ?_
  refine v_istore_n (pc' := 5) C [1, 2, 0] (lv' := [(0, .ref aM.1), (1, .int (-6 : Int32)), (2, .int (0 : Int32))]) dX6_best_4 (Nat.le_of_ble_eq_true rfl) rfl rfl ?_
  refine v_iconst (pc' := 6) C (0) dX6_best_5 ic_0 rfl ?_
  refine v_istore_n (pc' := 7) C [1, 2, 3, 0] (lv' := [(0, .ref aM.1), (1, .int (-6 : Int32)), (2, .int (0 : Int32)), (3, .int (0 : Int32))]) dX6_best_6 (Nat.le_of_ble_eq_true rfl) rfl rfl ?_
  refine v_bipush (pc' := 9) C (97) dX6_best_7 bc_97 rfl ?_
  refine v_istore (pc' := 11) C [1, 2, 3, 4, 0] (lv' := [(0, .ref aM.1), (1, .int (-6 : Int32)), (2, .int (0 : Int32)), (3, .int (0 : Int32)), (4, .int (97 : Int32))]) dX6_best_9 (Nat.le_of_ble_eq_true rfl) rfl rfl ?_
  refine v_loop5 (fun (v1_1 : Int32) (v2_2 : Int32) (v3_3 : Int32) (v4_4 : Int32) (zM_5 : Md) => V p l e rm_X6_best s m args below meth c g 6 A 0 0 Q (wM g aM zM_5) [] [(0, .ref aM.1), (1, .int v1_1), (2, .int v2_2), (3, .int v3_3), (4, .int v4_4)] 11 []) (fun re11 ih11 v1_1 v2_2 v3_3 v4_4 zM_5 h => ?_) (-6 : Int32) (0 : Int32) (0 : Int32) (97 : Int32) zM h
  unfold f_X6_best_L11 at h
  have J79 : ∀ (v4_10 : Int32) (v5_11 : Int32) (zM_12 : Md), f_X6_best_J79 re11 v4_10 v5_11 zM_12 = some o → V p l e rm_X6_best s m args below meth c g 6 A 0 0 Q (wM g aM zM_12) [] [(0, .ref aM.1), (4, .int v4_10), (5, .int v5_11)] 79 [] := by
    intro v4_10 v5_11 zM_12 h
    unfold f_X6_best_J79 at h
    refine v_iload (pc' := 81) C 1 dX6_best_79 rfl rfl ?_
    refine v_istore_n (pc' := 82) C [1, 0, 2, 3] (lv' := [(0, .ref aM.1), (1, .int v4_10), (4, .int v4_10), (5, .int v5_11)]) dX6_best_81 (Nat.le_of_ble_eq_true rfl) rfl rfl ?_
    refine v_aload_n (pc' := 83) C 0 dX6_best_82 rfl rfl ?_
    refine g_M_size (pc' := 86) C 0 in_X6_best_6 rfl k_X6_best_1 rfl dX6_best_83 rfl ?_
    refine v_iload (pc' := 88) C 3 dX6_best_86 rfl rfl ?_
    refine v_iald (pc' := 89) C h 7 rfl dX6_best_88 rfl (fun e_13 h => ?_)
    refine v_istore_n (pc' := 90) C [1, 2, 0, 3, 4] (lv' := [(0, .ref aM.1), (1, .int v4_10), (2, .int e_13), (4, .int v4_10), (5, .int v5_11)]) dX6_best_89 (Nat.le_of_ble_eq_true rfl) rfl rfl ?_
    refine v_aload_n (pc' := 91) C 0 dX6_best_90 rfl rfl ?_
    refine g_M_places (pc' := 94) C 0 in_X6_best_6 rfl k_X6_best_2 rfl dX6_best_91 rfl ?_
    refine v_iload (pc' := 96) C 4 dX6_best_94 rfl rfl ?_
    refine v_iald (pc' := 97) C h 8 rfl dX6_best_96 rfl (fun e_14 h => ?_)
    refine v_istore_n (pc' := 98) C [1, 2, 3, 0, 4, 5] (lv' := [(0, .ref aM.1), (1, .int v4_10), (2, .int e_13), (3, .int e_14), (4, .int v4_10), (5, .int v5_11)]) dX6_best_97 (Nat.le_of_ble_eq_true rfl) rfl rfl ?_
    refine v_iinc (pc' := 101) C 4 [1, 2, 3, 4, 0, 5] (1) dX6_best_98 rfl ic_1 (Nat.le_of_ble_eq_true rfl) h (lw := fun v9 => [(0, .ref aM.1), (1, .int v4_10), (2, .int e_13), (3, .int e_14), (4, .int v9), (5, .int v5_11)]) (fun _ => rfl) rfl (fun v4_15 h => ?_)
    refine v_goto C (pc' := 11) dX6_best_101 (by decide) ?_
    refine v_lv [0, 1, 2, 3, 4] (lv' := [(0, .ref aM.1), (1, .int v4_10), (2, .int e_13), (3, .int e_14), (4, .int v4_15)]) rfl ?_
    exact ih11 v4_10 e_13 e_14 v4_15 zM_12 h
  refine v_iload (pc' := 13) C 4 dX6_best_11 rfl rfl ?_
  refine v_bipush (pc' := 15) C (122) dX6_best_13 bc_122 rfl ?_
  refine v_icmp_gt C 104 18 h dX6_best_15 (by decide) rfl (fun _ h => ?_) (fun _ h => ?_)
  · refine v_iload_n (pc' := 105) C 1 dX6_best_104 rfl rfl ?_
    exact v_iret (rf := fun (o9 : Int32 × Md) => o9.1) (Wf := fun (o9 : Int32 × Md) (u9 : Unit) => wM g aM o9.2) (ok := fun (o9 : Int32 × Md) (u9 : Unit) => True) C Cr h hQ () trivial rfl rfl dX6_best_105
  · refine v_aload_n (pc' := 19) C 0 dX6_best_18 rfl rfl ?_
    refine v_iload (pc' := 21) C 4 dX6_best_19 rfl rfl ?_
    refine v_calli (pc' := 24) C h (rf := fun r9 => r9) ([]) (fun r9 (u9 : Unit) => wM g aM zM_5) (fun r hr => run_V C (c_X6_isGuessed l g aM _ _ r hr) gX6_best_X6_isGuessed rfl nd_X6_isGuessed rfl rfl rfl rfl ⟨Nat.le_of_ble_eq_true rfl, Nat.le_of_ble_eq_true rfl⟩ ⟨Nat.le_of_ble_eq_true rfl, Nat.le_of_ble_eq_true rfl⟩ (Nat.le_of_ble_eq_true rfl) dX6_best_21 rfl) [0, 1, 2, 3, 4, 5, 6, 7, 8, 9] [] [0, 1, 2, 3, 4, 5, 6, 7, 8, 9] rfl rfl rfl rfl (by decide) rfl (fun _ _ => rfl) (k' := 0) (n' := 0) rfl rfl rfl (fun r_6 _ _ h => ?_)
    refine v_if_ne C 98 27 h dX6_best_24 (by decide) rfl (fun _ h => ?_) (fun _ h => ?_)
    · refine v_iinc (pc' := 101) C 4 [1, 2, 3, 4, 0] (1) dX6_best_98 rfl ic_1 (Nat.le_of_ble_eq_true rfl) h (lw := fun v9 => [(0, .ref aM.1), (1, .int v1_1), (2, .int v2_2), (3, .int v3_3), (4, .int v9)]) (fun _ => rfl) rfl (fun v4_7 h => ?_)
      refine v_goto C (pc' := 11) dX6_best_101 (by decide) ?_
      exact ih11 v1_1 v2_2 v3_3 v4_7 zM_5 h
    · refine v_aload_n (pc' := 28) C 0 dX6_best_27 rfl rfl ?_
      refine v_iload (pc' := 30) C 4 dX6_best_28 rfl rfl ?_
      refine v_callv (pc' := 33) C h ([]) (fun r9 (u9 : Unit) => wM g aM r9) (fun r hr => run_V C (c_X6_laysFamilies l g aM _ _ r hr) gX6_best_X6_laysFamilies rfl nd_X6_laysFamilies rfl rfl rfl rfl ⟨Nat.le_of_ble_eq_true rfl, Nat.le_of_ble_eq_true rfl⟩ ⟨Nat.le_of_ble_eq_true rfl, Nat.le_of_ble_eq_true rfl⟩ (Nat.le_of_ble_eq_true rfl) dX6_best_30 rfl) [0, 1, 2, 3, 4, 5, 6, 7, 8, 9] [] [0, 1, 2, 3, 4, 5, 6, 7, 8, 9] rfl rfl rfl rfl (by decide) rfl (fun _ _ => rfl) (k' := 0) (n' := 0) rfl rfl rfl (fun r_8 _ _ h => ?_)
      refine v_aload_n (pc' := 34) C 0 dX6_best_33 rfl rfl ?_
      refine v_iconst (pc' := 35) C (0) dX6_best_34 ic_0 rfl ?_
      refine v_calli (pc' := 38) C h (rf := fun r9 => r9) ([]) (fun r9 (u9 : Unit) => wM g aM r_8) (fun r hr => run_V C (c_X6_ranked l g aM _ _ r hr) gX6_best_X6_ranked rfl nd_X6_ranked rfl rfl rfl rfl ⟨Nat.le_of_ble_eq_true rfl, Nat.le_of_ble_eq_true rfl⟩ ⟨Nat.le_of_ble_eq_true rfl, Nat.le_of_ble_eq_true rfl⟩ (Nat.le_of_ble_eq_true rfl) dX6_best_35 rfl) [0, 1, 2, 3, 4, 5, 6, 7, 8, 9] [] [0, 1, 2, 3, 4, 5, 6, 7, 8, 9] rfl rfl rfl rfl (by decide) rfl (fun _ _ => rfl) (k' := 0) (n' := 0) rfl rfl rfl (fun r_9 _ _ h => ?_)
      refine v_istore (pc' := 40) C [1, 2, 3, 4, 5, 0] (lv' := [(0, .ref aM.1), (1, .int v1_1), (2, .int v2_2), (3, .int v3_3), (4, .int v4_4), (5, .int r_9)]) dX6_best_38 (Nat.le_of_ble_eq_true rfl) rfl rfl ?_
      refine v_iload_n (pc' := 41) C 1 dX6_best_40 rfl rfl ?_
      refine v_bipush (pc' := 43) C (-6) dX6_best_41 bc_m6 rfl ?_
      refine v_icmp_eq C 79 46 h dX6_best_43 (by decide) rfl (fun _ h => ?_) (fun _ h => ?_)
      · refine v_lv [0, 4, 5] (lv' := [(0, .ref aM.1), (4, .int v4_4), (5, .int r_9)]) rfl ?_
        exact J79 v4_4 r_9 r_8 h
      · refine v_aload_n (pc' := 47) C 0 dX6_best_46 rfl rfl ?_
        refine g_M_size (pc' := 50) C 0 in_X6_best_6 rfl k_X6_best_1 rfl dX6_best_47 rfl ?_
        refine v_iload (pc' := 52) C 5 dX6_best_50 rfl rfl ?_
        refine v_iald (pc' := 53) C h 7 rfl dX6_best_52 rfl (fun e_16 h => ?_)
        refine v_iload_n (pc' := 54) C 2 dX6_best_53 rfl rfl ?_
        refine v_icmp_lt C 79 57 h dX6_best_54 (by decide) rfl (fun _ h => ?_) (fun _ h => ?_)
        · refine v_lv [0, 4, 5] (lv' := [(0, .ref aM.1), (4, .int v4_4), (5, .int r_9)]) rfl ?_
          exact J79 v4_4 r_9 r_8 h
        · refine v_aload_n (pc' := 58) C 0 dX6_best_57 rfl rfl ?_
          refine g_M_size (pc' := 61) C 0 in_X6_best_6 rfl k_X6_best_1 rfl dX6_best_58 rfl ?_
          refine v_iload (pc' := 63) C 5 dX6_best_61 rfl rfl ?_
          refine v_iald (pc' := 64) C h 7 rfl dX6_best_63 rfl (fun e_17 h => ?_)
          refine v_iload_n (pc' := 65) C 2 dX6_best_64 rfl rfl ?_
          refine v_icmp_ne C 98 68 h dX6_best_65 (by decide) rfl (fun _ h => ?_) (fun _ h => ?_)
          · refine v_iinc (pc' := 101) C 4 [1, 2, 3, 4, 0, 5] (1) dX6_best_98 rfl ic_1 (Nat.le_of_ble_eq_true rfl) h (lw := fun v9 => [(0, .ref aM.1), (1, .int v1_1), (2, .int v2_2), (3, .int v3_3), (4, .int v9), (5, .int r_9)]) (fun _ => rfl) rfl (fun v4_18 h => ?_)
            refine v_goto C (pc' := 11) dX6_best_101 (by decide) ?_
            refine v_lv [0, 1, 2, 3, 4] (lv' := [(0, .ref aM.1), (1, .int v1_1), (2, .int v2_2), (3, .int v3_3), (4, .int v4_18)]) rfl ?_
            exact ih11 v1_1 v2_2 v3_3 v4_18 r_8 h
          · refine v_aload_n (pc' := 69) C 0 dX6_best_68 rfl rfl ?_
            refine g_M_places (pc' := 72) C 0 in_X6_best_6 rfl k_X6_best_2 rfl dX6_best_69 rfl ?_
            refine v_iload (pc' := 74) C 5 dX6_best_72 rfl rfl ?_
            refine v_iald (pc' := 75) C h 8 rfl dX6_best_74 rfl (fun e_19 h => ?_)
            refine v_iload_n (pc' := 76) C 3 dX6_best_75 rfl rfl ?_
            refine v_icmp_le C 98 79 h dX6_best_76 (by decide) rfl (fun _ h => ?_) (fun _ h => ?_)
            · refine v_iinc (pc' := 101) C 4 [1, 2, 3, 4, 0, 5] (1) dX6_best_98 rfl ic_1 (Nat.le_of_ble_eq_true rfl) h (lw := fun v9 => [(0, .ref aM.1), (1, .int v1_1), (2, .int v2_2), (3, .int v3_3), (4, .int v9), (5, .int r_9)]) (fun _ => rfl) rfl (fun v4_20 h => ?_)
              refine v_goto C (pc' := 11) dX6_best_101 (by decide) ?_
              refine v_lv [0, 1, 2, 3, 4] (lv' := [(0, .ref aM.1), (1, .int v1_1), (2, .int v2_2), (3, .int v3_3), (4, .int v4_20)]) rfl ?_
              exact ih11 v1_1 v2_2 v3_3 v4_20 r_8 h
            · refine v_lv [0, 4, 5] (lv' := [(0, .ref aM.1), (4, .int v4_4), (5, .int r_9)]) rfl ?_
              exact J79 v4_4 r_9 r_8 h
def f_X6_bestGuess (zM : Md)  : Option (Int32 × Md) :=
  Option.bind (f_X6_runs zM) fun r_1 =>
  if r_1 = 0 then some ((-3 : Int32), zM)
  else Option.bind (f_X6_best zM) fun r_2 =>
  some (r_2.1, r_2.2)
abbrev rm_X6_bestGuess : Room := { frames := 4, cells := 0, slots := 0, locals := 95 }
theorem nd_X6_bestGuess : yX6_bestGuess.cls ≠ "java/lang/invoke/MethodHandle" ∧ yX6_bestGuess.cls ≠ "java/lang/invoke/VarHandle" ∧ (parseMethodDescriptor yX6_bestGuess.desc).map (fun d => d.parameters.length) = some 0 := by decide +kernel
set_option maxHeartbeats 4000000 in
set_option maxRecDepth 100000 in
theorem c_X6_bestGuess (l : Launch) (g : Gv) (aM : A10) (zM : Md)  (o : Int32 × Md) (h : f_X6_bestGuess zM  = some o) : Ct l g yX6_bestGuess wsX6_bestGuess rm_X6_bestGuess [.ref aM.1] (wM g aM zM) (Qi g o.1 (fun _ : Unit => wM g aM o.2) (fun _ => True)) := by
  refine enter (ret := (some .int)) (X := wM g aM zM) (pl := []) pn_X6 rfl (Nat.le_of_ble_eq_true rfl) ((List.append_nil _).symm) ?_
  intro p e s m args below meth c A Q C Cr hin hQ
  unfold f_X6_bestGuess at h
  refine v_aload_n (pc' := 1) C 0 dX6_bestGuess_0 rfl rfl ?_
  refine v_calli (pc' := 4) C h (rf := fun r9 => r9) ([]) (fun r9 (u9 : Unit) => wM g aM zM) (fun r hr => run_V C (c_X6_runs l g aM _ r hr) gX6_bestGuess_X6_runs rfl nd_X6_runs rfl rfl rfl rfl ⟨Nat.le_of_ble_eq_true rfl, Nat.le_of_ble_eq_true rfl⟩ ⟨Nat.le_of_ble_eq_true rfl, Nat.le_of_ble_eq_true rfl⟩ (Nat.le_of_ble_eq_true rfl) dX6_bestGuess_1 rfl) [0, 1, 2, 3, 4, 5, 6, 7, 8, 9] [] [0, 1, 2, 3, 4, 5, 6, 7, 8, 9] rfl rfl rfl rfl (by decide) rfl (fun _ _ => rfl) (k' := 0) (n' := 0) rfl rfl rfl (fun r_1 _ _ h => ?_)
  refine v_if_eq C 14 7 h dX6_bestGuess_4 (by decide) rfl (fun _ h => ?_) (fun _ h => ?_)
  · refine v_bipush (pc' := 16) C (-3) dX6_bestGuess_14 bc_m3 rfl ?_
    exact v_iret (rf := fun (o9 : Int32 × Md) => o9.1) (Wf := fun (o9 : Int32 × Md) (u9 : Unit) => wM g aM o9.2) (ok := fun (o9 : Int32 × Md) (u9 : Unit) => True) C Cr h hQ () trivial rfl rfl dX6_bestGuess_16
  · refine v_aload_n (pc' := 8) C 0 dX6_bestGuess_7 rfl rfl ?_
    refine v_calli (pc' := 11) C h (rf := fun r9 => r9.1) ([]) (fun r9 (u9 : Unit) => wM g aM r9.2) (fun r hr => run_V C (c_X6_best l g aM _ r hr) gX6_bestGuess_X6_best rfl nd_X6_best rfl rfl rfl rfl ⟨Nat.le_of_ble_eq_true rfl, Nat.le_of_ble_eq_true rfl⟩ ⟨Nat.le_of_ble_eq_true rfl, Nat.le_of_ble_eq_true rfl⟩ (Nat.le_of_ble_eq_true rfl) dX6_bestGuess_8 rfl) [0, 1, 2, 3, 4, 5, 6, 7, 8, 9] [] [0, 1, 2, 3, 4, 5, 6, 7, 8, 9] rfl rfl rfl rfl (by decide) rfl (fun _ _ => rfl) (k' := 0) (n' := 0) rfl rfl rfl (fun r_2 _ _ h => ?_)
    refine v_goto C (pc' := 16) dX6_bestGuess_11 (by decide) ?_
    exact v_iret (rf := fun (o9 : Int32 × Md) => o9.1) (Wf := fun (o9 : Int32 × Md) (u9 : Unit) => wM g aM o9.2) (ok := fun (o9 : Int32 × Md) (u9 : Unit) => True) C Cr h hQ () trivial rfl rfl dX6_bestGuess_16
def f_X6_missesAhead_J46  (zM_7 : Md) : Option (Int32 × Md) :=
  getA (M_s zM_7) 319 (13 : Int32) fun e_8 =>
  getA (M_aside zM_7) 319 (13 : Int32) fun e_9 =>
  lett (e_8 - e_9) fun v2_10 =>
  Option.bind (f_X6_putBack zM_7) fun r_11 =>
  some (v2_10, r_11)
def f_X6_missesAhead_L19  (re19 : Int32 → Md → Option (Int32 × Md)) (v1_4 : Int32) (zM_5 : Md) : Option (Int32 × Md) :=
  Option.bind (f_X6_runs zM_5) fun r_6 =>
  if r_6 = 0 then f_X6_missesAhead_J46  zM_5
  else if v1_4 = (-6 : Int32) then f_X6_missesAhead_J46  zM_5
  else Option.bind (f_X6_guessesOn zM_5 v1_4) fun r_12 =>
  Option.bind (f_X6_best r_12.2) fun r_13 =>
  re19 r_13.1 r_13.2
def f_X6_missesAhead (zM : Md)  : Option (Int32 × Md) :=
  Option.bind (f_X6_runs zM) fun r_1 =>
  if r_1 = 0 then some ((-3 : Int32), zM)
  else Option.bind (f_X6_putAside zM) fun r_2 =>
  Option.bind (f_X6_best r_2) fun r_3 =>
  loop2 (f_X6_missesAhead_L19 ) FU r_3.1 r_3.2
abbrev rm_X6_missesAhead : Room := { frames := 4, cells := 0, slots := 0, locals := 95 }
theorem in_X6_missesAhead_6 : ∀ w ∈ wsX60, w ∈ wsX6_missesAhead := fun _ h => List.mem_cons_of_mem _ (List.mem_append_right _ h)
theorem k_X6_missesAhead_1 : Cond.fieldLink RX6 7 "DodgingHangmanModel" "s" "[I" ∈ wsX6_missesAhead := List.mem_of_getElem? (i := 1) rfl
theorem k_X6_missesAhead_2 : Cond.fieldLink RX6 13 "DodgingHangmanModel" "aside" "[I" ∈ wsX6_missesAhead := List.mem_of_getElem? (i := 2) rfl
theorem nd_X6_missesAhead : yX6_missesAhead.cls ≠ "java/lang/invoke/MethodHandle" ∧ yX6_missesAhead.cls ≠ "java/lang/invoke/VarHandle" ∧ (parseMethodDescriptor yX6_missesAhead.desc).map (fun d => d.parameters.length) = some 0 := by decide +kernel
set_option maxHeartbeats 4000000 in
set_option maxRecDepth 100000 in
theorem c_X6_missesAhead (l : Launch) (g : Gv) (aM : A10) (zM : Md)  (o : Int32 × Md) (h : f_X6_missesAhead zM  = some o) : Ct l g yX6_missesAhead wsX6_missesAhead rm_X6_missesAhead [.ref aM.1] (wM g aM zM) (Qi g o.1 (fun _ : Unit => wM g aM o.2) (fun _ => True)) := by
  refine enter (ret := (some .int)) (X := wM g aM zM) (pl := []) pn_X6 rfl (Nat.le_of_ble_eq_true rfl) ((List.append_nil _).symm) ?_
  intro p e s m args below meth c A Q C Cr hin hQ
  unfold f_X6_missesAhead at h
  have J46 : ∀ (zM_7 : Md), f_X6_missesAhead_J46  zM_7 = some o → V p l e rm_X6_missesAhead s m args below meth c g 3 A 0 0 Q (wM g aM zM_7) [] [(0, .ref aM.1)] 46 [] := by
    intro zM_7 h
    unfold f_X6_missesAhead_J46 at h
    refine v_aload_n (pc' := 47) C 0 dX6_missesAhead_46 rfl rfl ?_
    refine g_M_s (pc' := 50) C 0 in_X6_missesAhead_6 rfl k_X6_missesAhead_1 rfl dX6_missesAhead_47 rfl ?_
    refine v_bipush (pc' := 52) C (13) dX6_missesAhead_50 bc_13 rfl ?_
    refine v_iald (pc' := 53) C h 1 rfl dX6_missesAhead_52 rfl (fun e_8 h => ?_)
    refine v_aload_n (pc' := 54) C 0 dX6_missesAhead_53 rfl rfl ?_
    refine g_M_aside (pc' := 57) C 0 in_X6_missesAhead_6 rfl k_X6_missesAhead_2 rfl dX6_missesAhead_54 rfl ?_
    refine v_bipush (pc' := 59) C (13) dX6_missesAhead_57 bc_13 rfl ?_
    refine v_iald (pc' := 60) C h 2 rfl dX6_missesAhead_59 rfl (fun e_9 h => ?_)
    refine v_isub (pc' := 61) C dX6_missesAhead_60 rfl ?_
    refine v_leti h (fun v2_10 h => ?_)
    refine v_istore_n (pc' := 62) C [1, 0] (lv' := [(0, .ref aM.1), (2, .int v2_10)]) dX6_missesAhead_61 (Nat.le_of_ble_eq_true rfl) rfl rfl ?_
    refine v_aload_n (pc' := 63) C 0 dX6_missesAhead_62 rfl rfl ?_
    refine v_callv (pc' := 66) C h ([]) (fun r9 (u9 : Unit) => wM g aM r9) (fun r hr => run_V C (c_X6_putBack l g aM _ r hr) gX6_missesAhead_X6_putBack rfl nd_X6_putBack rfl rfl rfl rfl ⟨Nat.le_of_ble_eq_true rfl, Nat.le_of_ble_eq_true rfl⟩ ⟨Nat.le_of_ble_eq_true rfl, Nat.le_of_ble_eq_true rfl⟩ (Nat.le_of_ble_eq_true rfl) dX6_missesAhead_63 rfl) [0, 1, 2, 3, 4, 5, 6, 7, 8, 9] [] [0, 1, 2, 3, 4, 5, 6, 7, 8, 9] rfl rfl rfl rfl (by decide) rfl (fun _ _ => rfl) (k' := 0) (n' := 0) rfl rfl rfl (fun r_11 _ _ h => ?_)
    refine v_iload_n (pc' := 67) C 1 dX6_missesAhead_66 rfl rfl ?_
    exact v_iret (rf := fun (o9 : Int32 × Md) => o9.1) (Wf := fun (o9 : Int32 × Md) (u9 : Unit) => wM g aM o9.2) (ok := fun (o9 : Int32 × Md) (u9 : Unit) => True) C Cr h hQ () trivial rfl rfl dX6_missesAhead_67
  refine v_aload_n (pc' := 1) C 0 dX6_missesAhead_0 rfl rfl ?_
  refine v_calli (pc' := 4) C h (rf := fun r9 => r9) ([]) (fun r9 (u9 : Unit) => wM g aM zM) (fun r hr => run_V C (c_X6_runs l g aM _ r hr) gX6_missesAhead_X6_runs rfl nd_X6_runs rfl rfl rfl rfl ⟨Nat.le_of_ble_eq_true rfl, Nat.le_of_ble_eq_true rfl⟩ ⟨Nat.le_of_ble_eq_true rfl, Nat.le_of_ble_eq_true rfl⟩ (Nat.le_of_ble_eq_true rfl) dX6_missesAhead_1 rfl) [0, 1, 2, 3, 4, 5, 6, 7, 8, 9] [] [0, 1, 2, 3, 4, 5, 6, 7, 8, 9] rfl rfl rfl rfl (by decide) rfl (fun _ _ => rfl) (k' := 0) (n' := 0) rfl rfl rfl (fun r_1 _ _ h => ?_)
  refine v_if_ne C 10 7 h dX6_missesAhead_4 (by decide) rfl (fun _ h => ?_) (fun _ h => ?_)
  · refine v_aload_n (pc' := 11) C 0 dX6_missesAhead_10 rfl rfl ?_
    refine v_callv (pc' := 14) C h ([]) (fun r9 (u9 : Unit) => wM g aM r9) (fun r hr => run_V C (c_X6_putAside l g aM _ r hr) gX6_missesAhead_X6_putAside rfl nd_X6_putAside rfl rfl rfl rfl ⟨Nat.le_of_ble_eq_true rfl, Nat.le_of_ble_eq_true rfl⟩ ⟨Nat.le_of_ble_eq_true rfl, Nat.le_of_ble_eq_true rfl⟩ (Nat.le_of_ble_eq_true rfl) dX6_missesAhead_11 rfl) [0, 1, 2, 3, 4, 5, 6, 7, 8, 9] [] [0, 1, 2, 3, 4, 5, 6, 7, 8, 9] rfl rfl rfl rfl (by decide) rfl (fun _ _ => rfl) (k' := 0) (n' := 0) rfl rfl rfl (fun r_2 _ _ h => ?_)
    refine v_aload_n (pc' := 15) C 0 dX6_missesAhead_14 rfl rfl ?_
    refine v_calli (pc' := 18) C h (rf := fun r9 => r9.1) ([]) (fun r9 (u9 : Unit) => wM g aM r9.2) (fun r hr => run_V C (c_X6_best l g aM _ r hr) gX6_missesAhead_X6_best rfl nd_X6_best rfl rfl rfl rfl ⟨Nat.le_of_ble_eq_true rfl, Nat.le_of_ble_eq_true rfl⟩ ⟨Nat.le_of_ble_eq_true rfl, Nat.le_of_ble_eq_true rfl⟩ (Nat.le_of_ble_eq_true rfl) dX6_missesAhead_15 rfl) [0, 1, 2, 3, 4, 5, 6, 7, 8, 9] [] [0, 1, 2, 3, 4, 5, 6, 7, 8, 9] rfl rfl rfl rfl (by decide) rfl (fun _ _ => rfl) (k' := 0) (n' := 0) rfl rfl rfl (fun r_3 _ _ h => ?_)
    refine v_istore_n (pc' := 19) C [1, 0] (lv' := [(0, .ref aM.1), (1, .int r_3.1)]) dX6_missesAhead_18 (Nat.le_of_ble_eq_true rfl) rfl rfl ?_
    refine v_loop2 (fun (v1_4 : Int32) (zM_5 : Md) => V p l e rm_X6_missesAhead s m args below meth c g 3 A 0 0 Q (wM g aM zM_5) [] [(0, .ref aM.1), (1, .int v1_4)] 19 []) (fun re19 ih19 v1_4 zM_5 h => ?_) r_3.1 r_3.2 h
    unfold f_X6_missesAhead_L19 at h
    refine v_aload_n (pc' := 20) C 0 dX6_missesAhead_19 rfl rfl ?_
    refine v_calli (pc' := 23) C h (rf := fun r9 => r9) ([]) (fun r9 (u9 : Unit) => wM g aM zM_5) (fun r hr => run_V C (c_X6_runs l g aM _ r hr) gX6_missesAhead_X6_runs rfl nd_X6_runs rfl rfl rfl rfl ⟨Nat.le_of_ble_eq_true rfl, Nat.le_of_ble_eq_true rfl⟩ ⟨Nat.le_of_ble_eq_true rfl, Nat.le_of_ble_eq_true rfl⟩ (Nat.le_of_ble_eq_true rfl) dX6_missesAhead_20 rfl) [0, 1, 2, 3, 4, 5, 6, 7, 8, 9] [] [0, 1, 2, 3, 4, 5, 6, 7, 8, 9] rfl rfl rfl rfl (by decide) rfl (fun _ _ => rfl) (k' := 0) (n' := 0) rfl rfl rfl (fun r_6 _ _ h => ?_)
    refine v_if_eq C 46 26 h dX6_missesAhead_23 (by decide) rfl (fun _ h => ?_) (fun _ h => ?_)
    · refine v_lv [0] (lv' := [(0, .ref aM.1)]) rfl ?_
      exact J46 zM_5 h
    · refine v_iload_n (pc' := 27) C 1 dX6_missesAhead_26 rfl rfl ?_
      refine v_bipush (pc' := 29) C (-6) dX6_missesAhead_27 bc_m6 rfl ?_
      refine v_icmp_eq C 46 32 h dX6_missesAhead_29 (by decide) rfl (fun _ h => ?_) (fun _ h => ?_)
      · refine v_lv [0] (lv' := [(0, .ref aM.1)]) rfl ?_
        exact J46 zM_5 h
      · refine v_aload_n (pc' := 33) C 0 dX6_missesAhead_32 rfl rfl ?_
        refine v_iload_n (pc' := 34) C 1 dX6_missesAhead_33 rfl rfl ?_
        refine v_calli (pc' := 37) C h (rf := fun r9 => r9.1) ([]) (fun r9 (u9 : Unit) => wM g aM r9.2) (fun r hr => run_V C (c_X6_guessesOn l g aM _ _ r hr) gX6_missesAhead_X6_guessesOn rfl nd_X6_guessesOn rfl rfl rfl rfl ⟨Nat.le_of_ble_eq_true rfl, Nat.le_of_ble_eq_true rfl⟩ ⟨Nat.le_of_ble_eq_true rfl, Nat.le_of_ble_eq_true rfl⟩ (Nat.le_of_ble_eq_true rfl) dX6_missesAhead_34 rfl) [0, 1, 2, 3, 4, 5, 6, 7, 8, 9] [] [0, 1, 2, 3, 4, 5, 6, 7, 8, 9] rfl rfl rfl rfl (by decide) rfl (fun _ _ => rfl) (k' := 0) (n' := 0) rfl rfl rfl (fun r_12 _ _ h => ?_)
        refine v_istore_n (pc' := 38) C [1, 2, 0] (lv' := [(0, .ref aM.1), (1, .int v1_4), (2, .int r_12.1)]) dX6_missesAhead_37 (Nat.le_of_ble_eq_true rfl) rfl rfl ?_
        refine v_aload_n (pc' := 39) C 0 dX6_missesAhead_38 rfl rfl ?_
        refine v_calli (pc' := 42) C h (rf := fun r9 => r9.1) ([]) (fun r9 (u9 : Unit) => wM g aM r9.2) (fun r hr => run_V C (c_X6_best l g aM _ r hr) gX6_missesAhead_X6_best rfl nd_X6_best rfl rfl rfl rfl ⟨Nat.le_of_ble_eq_true rfl, Nat.le_of_ble_eq_true rfl⟩ ⟨Nat.le_of_ble_eq_true rfl, Nat.le_of_ble_eq_true rfl⟩ (Nat.le_of_ble_eq_true rfl) dX6_missesAhead_39 rfl) [0, 1, 2, 3, 4, 5, 6, 7, 8, 9] [] [0, 1, 2, 3, 4, 5, 6, 7, 8, 9] rfl rfl rfl rfl (by decide) rfl (fun _ _ => rfl) (k' := 0) (n' := 0) rfl rfl rfl (fun r_13 _ _ h => ?_)
        refine v_istore_n (pc' := 43) C [1, 0, 2] (lv' := [(0, .ref aM.1), (1, .int r_13.1), (2, .int r_12.1)]) dX6_missesAhead_42 (Nat.le_of_ble_eq_true rfl) rfl rfl ?_
        refine v_goto C (pc' := 19) dX6_missesAhead_43 (by decide) ?_
        refine v_lv [0, 1] (lv' := [(0, .ref aM.1), (1, .int r_13.1)]) rfl ?_
        exact ih19 r_13.1 r_13.2 h
  · refine v_bipush (pc' := 9) C (-3) dX6_missesAhead_7 bc_m3 rfl ?_
    exact v_iret (rf := fun (o9 : Int32 × Md) => o9.1) (Wf := fun (o9 : Int32 × Md) (u9 : Unit) => wM g aM o9.2) (ok := fun (o9 : Int32 × Md) (u9 : Unit) => True) C Cr h hQ () trivial rfl rfl dX6_missesAhead_9
def f_X6_total (zM : Md) (p1 : Int32) : Option (Int32) :=
  Option.bind (f_X6_in p1 (0 : Int32) (6 : Int32)) fun r_1 =>
  if r_1 = 0 then some (-2 : Int32)
  else getA (M_s zM) 319 ((8 : Int32) + p1) fun e_2 =>
  some e_2
abbrev rm_X6_total : Room := { frames := 1, cells := 0, slots := 0, locals := 22 }
theorem in_X6_total_6 : ∀ w ∈ wsX60, w ∈ wsX6_total := fun _ h => List.mem_cons_of_mem _ (List.mem_append_right _ h)
theorem k_X6_total_1 : Cond.fieldLink RX6 7 "DodgingHangmanModel" "s" "[I" ∈ wsX6_total := List.mem_of_getElem? (i := 1) rfl
theorem nd_X6_total : yX6_total.cls ≠ "java/lang/invoke/MethodHandle" ∧ yX6_total.cls ≠ "java/lang/invoke/VarHandle" ∧ (parseMethodDescriptor yX6_total.desc).map (fun d => d.parameters.length) = some 1 := by decide +kernel
set_option maxHeartbeats 4000000 in
set_option maxRecDepth 100000 in
theorem c_X6_total (l : Launch) (g : Gv) (aM : A10) (zM : Md) (p1 : Int32) (o : Int32) (h : f_X6_total zM p1 = some o) : Ct l g yX6_total wsX6_total rm_X6_total [.ref aM.1, .int p1] (wM g aM zM) (Qi g o (fun _ : Unit => wM g aM zM) (fun _ => True)) := by
  refine enter (ret := (some .int)) (X := wM g aM zM) (pl := []) pn_X6 rfl (Nat.le_of_ble_eq_true rfl) ((List.append_nil _).symm) ?_
  intro p e s m args below meth c A Q C Cr hin hQ
  unfold f_X6_total at h
  refine v_iload_n (pc' := 1) C 1 dX6_total_0 rfl rfl ?_
  refine v_iconst (pc' := 2) C (0) dX6_total_1 ic_0 rfl ?_
  refine v_bipush (pc' := 4) C (6) dX6_total_2 bc_6 rfl ?_
  refine v_purei (pc' := 7) C h (rf := fun r9 => r9) (fun r hr => run_S C (c_X6_in l g _ _ _ r hr) gX6_total_X6_in rfl nd_X6_in ⟨Nat.le_of_ble_eq_true rfl, Nat.le_of_ble_eq_true rfl⟩ ⟨Nat.le_of_ble_eq_true rfl, Nat.le_of_ble_eq_true rfl⟩ (Nat.le_of_ble_eq_true rfl) dX6_total_4 rfl) rfl (fun r_1 h => ?_)
  refine v_if_eq C 22 10 h dX6_total_7 (by decide) rfl (fun _ h => ?_) (fun _ h => ?_)
  · refine v_bipush (pc' := 24) C (-2) dX6_total_22 bc_m2 rfl ?_
    exact v_iret (rf := fun (o9 : Int32) => o9) (Wf := fun (o9 : Int32) (u9 : Unit) => wM g aM zM) (ok := fun (o9 : Int32) (u9 : Unit) => True) C Cr h hQ () trivial rfl rfl dX6_total_24
  · refine v_aload_n (pc' := 11) C 0 dX6_total_10 rfl rfl ?_
    refine g_M_s (pc' := 14) C 0 in_X6_total_6 rfl k_X6_total_1 rfl dX6_total_11 rfl ?_
    refine v_bipush (pc' := 16) C (8) dX6_total_14 bc_8 rfl ?_
    refine v_iload_n (pc' := 17) C 1 dX6_total_16 rfl rfl ?_
    refine v_iadd (pc' := 18) C dX6_total_17 rfl ?_
    refine v_iald (pc' := 19) C h 1 rfl dX6_total_18 rfl (fun e_2 h => ?_)
    refine v_goto C (pc' := 24) dX6_total_19 (by decide) ?_
    exact v_iret (rf := fun (o9 : Int32) => o9) (Wf := fun (o9 : Int32) (u9 : Unit) => wM g aM zM) (ok := fun (o9 : Int32) (u9 : Unit) => True) C Cr h hQ () trivial rfl rfl dX6_total_24
def f_X6_undo_L22  (re22 : Int32 → Md → Option (Int32 × Md)) (v1_2 : Int32) (zM_3 : Md) : Option (Int32 × Md) :=
  if v1_2 < (319 : Int32) then getA (M_before zM_3) 1914 (((319 : Int32) * (M_saved zM_3)) + v1_2) fun e_4 =>
  chkA 319 v1_2 (lett (M_s_set zM_3 (upd (M_s zM_3) (v1_2).toNatClampNeg e_4)) fun zM_5 =>
  lett (v1_2 + (1 : Int32)) fun v1_6 =>
  re22 v1_6 zM_5)
  else some ((M_saved zM_3), zM_3)
def f_X6_undo (zM : Md)  : Option (Int32 × Md) :=
  if (M_saved zM) = 0 then some ((-3 : Int32), zM)
  else lett (M_saved_set zM ((M_saved zM) - (1 : Int32))) fun zM_1 =>
  loop2 (f_X6_undo_L22 ) FU (0 : Int32) zM_1
abbrev rm_X6_undo : Room := { frames := 0, cells := 0, slots := 0, locals := 0 }
theorem in_X6_undo_6 : ∀ w ∈ wsX60, w ∈ wsX6_undo := fun _ h => List.mem_cons_of_mem _ (List.mem_append_right _ h)
theorem k_X6_undo_1 : Cond.fieldLink RX6 45 "DodgingHangmanModel" "saved" "I" ∈ wsX6_undo := List.mem_of_getElem? (i := 1) rfl
theorem k_X6_undo_2 : Cond.fieldLink RX6 7 "DodgingHangmanModel" "s" "[I" ∈ wsX6_undo := List.mem_of_getElem? (i := 2) rfl
theorem k_X6_undo_3 : Cond.fieldLink RX6 16 "DodgingHangmanModel" "before" "[I" ∈ wsX6_undo := List.mem_of_getElem? (i := 3) rfl
theorem nd_X6_undo : yX6_undo.cls ≠ "java/lang/invoke/MethodHandle" ∧ yX6_undo.cls ≠ "java/lang/invoke/VarHandle" ∧ (parseMethodDescriptor yX6_undo.desc).map (fun d => d.parameters.length) = some 0 := by decide +kernel
set_option maxHeartbeats 4000000 in
set_option maxRecDepth 100000 in
theorem c_X6_undo (l : Launch) (g : Gv) (aM : A10) (zM : Md)  (o : Int32 × Md) (h : f_X6_undo zM  = some o) : Ct l g yX6_undo wsX6_undo rm_X6_undo [.ref aM.1] (wM g aM zM) (Qi g o.1 (fun _ : Unit => wM g aM o.2) (fun _ => True)) := by
  refine enter (ret := (some .int)) (X := wM g aM zM) (pl := []) pn_X6 rfl (Nat.le_of_ble_eq_true rfl) ((List.append_nil _).symm) ?_
  intro p e s m args below meth c A Q C Cr hin hQ
  unfold f_X6_undo at h
  refine v_aload_n (pc' := 1) C 0 dX6_undo_0 rfl rfl ?_
  refine g_M_saved (pc' := 4) C 0 in_X6_undo_6 rfl k_X6_undo_1 rfl dX6_undo_1 rfl ?_
  refine v_if_ne C 10 7 h dX6_undo_4 (by decide) rfl (fun _ h => ?_) (fun _ h => ?_)
  · refine v_aload_n (pc' := 11) C 0 dX6_undo_10 rfl rfl ?_
    refine v_dup (pc' := 12) C dX6_undo_11 rfl rfl ?_
    refine g_M_saved (pc' := 15) C 0 in_X6_undo_6 rfl k_X6_undo_1 rfl dX6_undo_12 rfl ?_
    refine v_iconst (pc' := 16) C (1) dX6_undo_15 ic_1 rfl ?_
    refine v_isub (pc' := 17) C dX6_undo_16 rfl ?_
    refine p_M_saved (pc' := 20) C h 0 (fun z9 => wM g aM z9) in_X6_undo_6 rfl k_X6_undo_1 rfl dX6_undo_17 (Nat.le_of_ble_eq_true rfl) rfl (fun zM_1 h => ?_)
    refine v_iconst (pc' := 21) C (0) dX6_undo_20 ic_0 rfl ?_
    refine v_istore_n (pc' := 22) C [1, 0] (lv' := [(0, .ref aM.1), (1, .int (0 : Int32))]) dX6_undo_21 (Nat.le_of_ble_eq_true rfl) rfl rfl ?_
    refine v_loop2 (fun (v1_2 : Int32) (zM_3 : Md) => V p l e rm_X6_undo s m args below meth c g 2 A 0 0 Q (wM g aM zM_3) [] [(0, .ref aM.1), (1, .int v1_2)] 22 []) (fun re22 ih22 v1_2 zM_3 h => ?_) (0 : Int32) zM_1 h
    unfold f_X6_undo_L22 at h
    refine v_iload_n (pc' := 23) C 1 dX6_undo_22 rfl rfl ?_
    refine v_sipush (pc' := 26) C (319) dX6_undo_23 sc_319 rfl ?_
    refine v_icmp_ge C 56 29 h dX6_undo_26 (by decide) rfl (fun _ h => ?_) (fun _ h => ?_)
    · refine v_aload_n (pc' := 57) C 0 dX6_undo_56 rfl rfl ?_
      refine g_M_saved (pc' := 60) C 0 in_X6_undo_6 rfl k_X6_undo_1 rfl dX6_undo_57 rfl ?_
      exact v_iret (rf := fun (o9 : Int32 × Md) => o9.1) (Wf := fun (o9 : Int32 × Md) (u9 : Unit) => wM g aM o9.2) (ok := fun (o9 : Int32 × Md) (u9 : Unit) => True) C Cr h hQ () trivial rfl rfl dX6_undo_60
    · refine v_aload_n (pc' := 30) C 0 dX6_undo_29 rfl rfl ?_
      refine g_M_s (pc' := 33) C 0 in_X6_undo_6 rfl k_X6_undo_2 rfl dX6_undo_30 rfl ?_
      refine v_iload_n (pc' := 34) C 1 dX6_undo_33 rfl rfl ?_
      refine v_aload_n (pc' := 35) C 0 dX6_undo_34 rfl rfl ?_
      refine g_M_before (pc' := 38) C 0 in_X6_undo_6 rfl k_X6_undo_3 rfl dX6_undo_35 rfl ?_
      refine v_sipush (pc' := 41) C (319) dX6_undo_38 sc_319 rfl ?_
      refine v_aload_n (pc' := 42) C 0 dX6_undo_41 rfl rfl ?_
      refine g_M_saved (pc' := 45) C 0 in_X6_undo_6 rfl k_X6_undo_1 rfl dX6_undo_42 rfl ?_
      refine v_imul (pc' := 46) C dX6_undo_45 rfl ?_
      refine v_iload_n (pc' := 47) C 1 dX6_undo_46 rfl rfl ?_
      refine v_iadd (pc' := 48) C dX6_undo_47 rfl ?_
      refine v_iald (pc' := 49) C h 3 rfl dX6_undo_48 rfl (fun e_4 h => ?_)
      refine v_iast (pc' := 50) C h 1 (fun z9 => wM g aM z9) rfl rfl dX6_undo_49 rfl (fun zM_5 h => ?_)
      refine v_iinc (pc' := 53) C 1 [1, 0] (1) dX6_undo_50 rfl ic_1 (Nat.le_of_ble_eq_true rfl) h (lw := fun v9 => [(0, .ref aM.1), (1, .int v9)]) (fun _ => rfl) rfl (fun v1_6 h => ?_)
      refine v_goto C (pc' := 22) dX6_undo_53 (by decide) ?_
      exact ih22 v1_6 zM_5 h
  · refine v_bipush (pc' := 9) C (-3) dX6_undo_7 bc_m3 rfl ?_
    exact v_iret (rf := fun (o9 : Int32 × Md) => o9.1) (Wf := fun (o9 : Int32 × Md) (u9 : Unit) => wM g aM o9.2) (ok := fun (o9 : Int32 × Md) (u9 : Unit) => True) C Cr h hQ () trivial rfl rfl dX6_undo_9
def f_X6_digest_L279 (zM_33 : Md) (re279 : Int64 → Int32 → Option (Int64 × Md)) (v1_34 : Int64) (v3_35 : Int32) : Option (Int64 × Md) :=
  if (6 : Int32) < v3_35 then some (v1_34, zM_33)
  else getA (M_s zM_33) 319 ((8 : Int32) + v3_35) fun e_36 =>
  lett (((31 : Int64) * v1_34) + ((e_36).toInt64)) fun v1_37 =>
  lett (v3_35 + (1 : Int32)) fun v3_38 =>
  re279 v1_37 v3_38
def f_X6_digest_J277  (v1_32 : Int64) (zM_33 : Md) : Option (Int64 × Md) :=
  loop2 (f_X6_digest_L279 zM_33) FU v1_32 (0 : Int32)
def f_X6_digest_J246  (v1_29 : Int64) (zM_30 : Md) : Option (Int64 × Md) :=
  Option.bind (f_X6_runs zM_30) fun r_31 =>
  if r_31 = 0 then f_X6_digest_J277  v1_29 zM_30
  else Option.bind (f_X6_sure zM_30) fun r_39 =>
  lett (((31 : Int64) * v1_29) + ((r_39).toInt64)) fun v1_40 =>
  Option.bind (f_X6_best zM_30) fun r_41 =>
  lett (((31 : Int64) * v1_40) + ((r_41.1).toInt64)) fun v1_42 =>
  f_X6_digest_J277  v1_42 r_41.2
def f_X6_digest_L212 (zM_23 : Md) (re212 : Int64 → Int32 → Option (Int64 × Md)) (v1_26 : Int64) (v3_27 : Int32) : Option (Int64 × Md) :=
  getA (M_s zM_23) 319 (6 : Int32) fun e_28 =>
  if v3_27 < e_28 then getA (M_s zM_23) 319 ((15 : Int32) + v3_27) fun e_43 =>
  lett (((31 : Int64) * v1_26) + ((e_43).toInt64)) fun v1_44 =>
  lett (v3_27 + (1 : Int32)) fun v3_45 =>
  re212 v1_44 v3_45
  else f_X6_digest_J246  v1_26 zM_23
def f_X6_digest_J195  (v1_22 : Int64) (zM_23 : Md) : Option (Int64 × Md) :=
  getA (M_s zM_23) 319 (6 : Int32) fun e_24 =>
  lett (((31 : Int64) * v1_22) + ((e_24).toInt64)) fun v1_25 =>
  loop2 (f_X6_digest_L212 zM_23) FU v1_25 (0 : Int32)
def f_X6_digest_L158 (zM_16 : Md) (re158 : Int64 → Int32 → Option (Int64 × Md)) (v1_19 : Int64) (v3_20 : Int32) : Option (Int64 × Md) :=
  getA (M_s zM_16) 319 (0 : Int32) fun e_21 =>
  if v3_20 < e_21 then Option.bind (f_X6_isCandidate zM_16 v3_20) fun r_46 =>
  if r_46 = 0 then lett (v3_20 + (1 : Int32)) fun v3_47 =>
  re158 v1_19 v3_47
  else lett (((31 : Int64) * v1_19) + ((v3_20).toInt64)) fun v1_48 =>
  lett (v3_20 + (1 : Int32)) fun v3_49 =>
  re158 v1_48 v3_49
  else f_X6_digest_J195  v1_19 zM_16
def f_X6_digest_J144  (v1_15 : Int64) (zM_16 : Md) : Option (Int64 × Md) :=
  Option.bind (f_X6_candidates zM_16) fun r_17 =>
  lett (((31 : Int64) * v1_15) + ((r_17).toInt64)) fun v1_18 =>
  loop2 (f_X6_digest_L158 zM_16) FU v1_18 (0 : Int32)
def f_X6_digest_L115 (zM_7 : Md) (re115 : Int64 → Int32 → Option (Int64 × Md)) (v1_12 : Int64) (v3_13 : Int32) : Option (Int64 × Md) :=
  getA (M_s zM_7) 319 (3 : Int32) fun e_14 =>
  if v3_13 < e_14 then Option.bind (f_X6_shown zM_7 v3_13) fun r_50 =>
  lett (((31 : Int64) * v1_12) + ((r_50).toInt64)) fun v1_51 =>
  lett (v3_13 + (1 : Int32)) fun v3_52 =>
  re115 v1_51 v3_52
  else f_X6_digest_J144  v1_12 zM_7
def f_X6_digest_J85  (v1_6 : Int64) (zM_7 : Md) : Option (Int64 × Md) :=
  getA (M_s zM_7) 319 (2 : Int32) fun e_8 =>
  lett (((31 : Int64) * v1_6) + ((e_8).toInt64)) fun v1_9 =>
  getA (M_s zM_7) 319 (4 : Int32) fun e_10 =>
  lett (((31 : Int64) * v1_9) + ((e_10).toInt64)) fun v1_11 =>
  loop2 (f_X6_digest_L115 zM_7) FU v1_11 (0 : Int32)
def f_X6_digest_L44 (zM : Md) (v3_4 : Int32) (re14 : Int64 → Int32 → Option (Int64 × Md)) (re44 : Int64 → Int32 → Option (Int64 × Md)) (v1_55 : Int64) (v4_56 : Int32) : Option (Int64 × Md) :=
  getA (M_s zM) 319 ((49 : Int32) + v3_4) fun e_57 =>
  if v4_56 < e_57 then Option.bind (f_X6_letter zM v3_4 v4_56) fun r_59 =>
  lett (((31 : Int64) * v1_55) + ((r_59).toInt64)) fun v1_60 =>
  lett (v4_56 + (1 : Int32)) fun v4_61 =>
  re44 v1_60 v4_61
  else lett (v3_4 + (1 : Int32)) fun v3_58 =>
  re14 v1_55 v3_58
def f_X6_digest_L14 (zM : Md) (re14 : Int64 → Int32 → Option (Int64 × Md)) (v1_3 : Int64) (v3_4 : Int32) : Option (Int64 × Md) :=
  getA (M_s zM) 319 (0 : Int32) fun e_5 =>
  if v3_4 < e_5 then getA (M_s zM) 319 ((49 : Int32) + v3_4) fun e_53 =>
  lett (((31 : Int64) * v1_3) + ((e_53).toInt64)) fun v1_54 =>
  loop2 (f_X6_digest_L44 zM v3_4 re14) FU v1_54 (0 : Int32)
  else f_X6_digest_J85  v1_3 zM
def f_X6_digest (zM : Md)  : Option (Int64 × Md) :=
  getA (M_s zM) 319 (0 : Int32) fun e_1 =>
  lett ((4061 : Int64) + ((e_1).toInt64)) fun v1_2 =>
  loop2 (f_X6_digest_L14 zM) FU v1_2 (0 : Int32)
abbrev rm_X6_digest : Room := { frames := 4, cells := 0, slots := 0, locals := 95 }
theorem in_X6_digest_6 : ∀ w ∈ wsX60, w ∈ wsX6_digest := fun _ h => List.mem_cons_of_mem _ (List.mem_append_right _ h)
theorem k_X6_digest_1 : Cond.constantLong RX6 158 (4061) ∈ wsX6_digest := List.mem_of_getElem? (i := 1) rfl
theorem k_X6_digest_2 : Cond.fieldLink RX6 7 "DodgingHangmanModel" "s" "[I" ∈ wsX6_digest := List.mem_of_getElem? (i := 2) rfl
theorem k_X6_digest_3 : Cond.constantLong RX6 160 (31) ∈ wsX6_digest := List.mem_of_getElem? (i := 3) rfl
theorem nd_X6_digest : yX6_digest.cls ≠ "java/lang/invoke/MethodHandle" ∧ yX6_digest.cls ≠ "java/lang/invoke/VarHandle" ∧ (parseMethodDescriptor yX6_digest.desc).map (fun d => d.parameters.length) = some 0 := by decide +kernel
set_option maxHeartbeats 4000000 in
set_option maxRecDepth 100000 in
theorem c_X6_digest (l : Launch) (g : Gv) (aM : A10) (zM : Md)  (o : Int64 × Md) (h : f_X6_digest zM  = some o) : Ct l g yX6_digest wsX6_digest rm_X6_digest [.ref aM.1] (wM g aM zM) (Ql g o.1 (fun _ : Unit => wM g aM o.2) (fun _ => True)) := by
  refine enter (ret := (some .long)) (X := wM g aM zM) (pl := []) pn_X6 rfl (Nat.le_of_ble_eq_true rfl) ((List.append_nil _).symm) ?_
  intro p e s m args below meth c A Q C Cr hin hQ
  unfold f_X6_digest at h
  have J277 : ∀ (v1_32 : Int64) (zM_33 : Md), f_X6_digest_J277  v1_32 zM_33 = some o → V p l e rm_X6_digest s m args below meth c g 5 A 0 0 Q (wM g aM zM_33) [] [(0, .ref aM.1), (1, .long v1_32)] 277 [] := by
    intro v1_32 zM_33 h
    unfold f_X6_digest_J277 at h
    refine v_iconst (pc' := 278) C (0) dX6_digest_277 ic_0 rfl ?_
    refine v_istore_n (pc' := 279) C [1, 2, 0] (lv' := [(0, .ref aM.1), (1, .long v1_32), (3, .int (0 : Int32))]) dX6_digest_278 (Nat.le_of_ble_eq_true rfl) rfl rfl ?_
    refine v_loop2 (fun (v1_34 : Int64) (v3_35 : Int32) => V p l e rm_X6_digest s m args below meth c g 5 A 0 0 Q (wM g aM zM_33) [] [(0, .ref aM.1), (1, .long v1_34), (3, .int v3_35)] 279 []) (fun re279 ih279 v1_34 v3_35 h => ?_) v1_32 (0 : Int32) h
    unfold f_X6_digest_L279 at h
    refine v_iload_n (pc' := 280) C 2 dX6_digest_279 rfl rfl ?_
    refine v_bipush (pc' := 282) C (6) dX6_digest_280 bc_6 rfl ?_
    refine v_icmp_gt C 308 285 h dX6_digest_282 (by decide) rfl (fun _ h => ?_) (fun _ h => ?_)
    · refine v_lload_n (pc' := 309) C 1 dX6_digest_308 rfl rfl ?_
      exact v_lret (rf := fun (o9 : Int64 × Md) => o9.1) (Wf := fun (o9 : Int64 × Md) (u9 : Unit) => wM g aM o9.2) (ok := fun (o9 : Int64 × Md) (u9 : Unit) => True) C Cr h hQ () trivial rfl rfl dX6_digest_309
    · refine v_ldc2 (pc' := 288) C (31) dX6_digest_285 k_X6_digest_3 rfl ?_
      refine v_lload_n (pc' := 289) C 1 dX6_digest_288 rfl rfl ?_
      refine v_lmul (pc' := 290) C dX6_digest_289 rfl ?_
      refine v_aload_n (pc' := 291) C 0 dX6_digest_290 rfl rfl ?_
      refine g_M_s (pc' := 294) C 0 in_X6_digest_6 rfl k_X6_digest_2 rfl dX6_digest_291 rfl ?_
      refine v_bipush (pc' := 296) C (8) dX6_digest_294 bc_8 rfl ?_
      refine v_iload_n (pc' := 297) C 2 dX6_digest_296 rfl rfl ?_
      refine v_iadd (pc' := 298) C dX6_digest_297 rfl ?_
      refine v_iald (pc' := 299) C h 1 rfl dX6_digest_298 rfl (fun e_36 h => ?_)
      refine v_i2l (pc' := 300) C dX6_digest_299 rfl ?_
      refine v_ladd (pc' := 301) C dX6_digest_300 rfl ?_
      refine v_letl h (fun v1_37 h => ?_)
      refine v_lstore_n (pc' := 302) C [1, 0, 2] (lv' := [(0, .ref aM.1), (1, .long v1_37), (3, .int v3_35)]) dX6_digest_301 (Nat.le_of_ble_eq_true rfl) rfl rfl ?_
      refine v_iinc (pc' := 305) C 2 [1, 2, 0] (1) dX6_digest_302 rfl ic_1 (Nat.le_of_ble_eq_true rfl) h (lw := fun v9 => [(0, .ref aM.1), (1, .long v1_37), (3, .int v9)]) (fun _ => rfl) rfl (fun v3_38 h => ?_)
      refine v_goto C (pc' := 279) dX6_digest_305 (by decide) ?_
      exact ih279 v1_37 v3_38 h
  have J246 : ∀ (v1_29 : Int64) (zM_30 : Md), f_X6_digest_J246  v1_29 zM_30 = some o → V p l e rm_X6_digest s m args below meth c g 5 A 0 0 Q (wM g aM zM_30) [] [(0, .ref aM.1), (1, .long v1_29)] 246 [] := by
    intro v1_29 zM_30 h
    unfold f_X6_digest_J246 at h
    refine v_aload_n (pc' := 247) C 0 dX6_digest_246 rfl rfl ?_
    refine v_calli (pc' := 250) C h (rf := fun r9 => r9) ([]) (fun r9 (u9 : Unit) => wM g aM zM_30) (fun r hr => run_V C (c_X6_runs l g aM _ r hr) gX6_digest_X6_runs rfl nd_X6_runs rfl rfl rfl rfl ⟨Nat.le_of_ble_eq_true rfl, Nat.le_of_ble_eq_true rfl⟩ ⟨Nat.le_of_ble_eq_true rfl, Nat.le_of_ble_eq_true rfl⟩ (Nat.le_of_ble_eq_true rfl) dX6_digest_247 rfl) [0, 1, 2, 3, 4, 5, 6, 7, 8, 9] [] [0, 1, 2, 3, 4, 5, 6, 7, 8, 9] rfl rfl rfl rfl (by decide) rfl (fun _ _ => rfl) (k' := 0) (n' := 0) rfl rfl rfl (fun r_31 _ _ h => ?_)
    refine v_if_eq C 277 253 h dX6_digest_250 (by decide) rfl (fun _ h => ?_) (fun _ h => ?_)
    · exact J277 v1_29 zM_30 h
    · refine v_ldc2 (pc' := 256) C (31) dX6_digest_253 k_X6_digest_3 rfl ?_
      refine v_lload_n (pc' := 257) C 1 dX6_digest_256 rfl rfl ?_
      refine v_lmul (pc' := 258) C dX6_digest_257 rfl ?_
      refine v_aload_n (pc' := 259) C 0 dX6_digest_258 rfl rfl ?_
      refine v_calli (pc' := 262) C h (rf := fun r9 => r9) ([]) (fun r9 (u9 : Unit) => wM g aM zM_30) (fun r hr => run_V C (c_X6_sure l g aM _ r hr) gX6_digest_X6_sure rfl nd_X6_sure rfl rfl rfl rfl ⟨Nat.le_of_ble_eq_true rfl, Nat.le_of_ble_eq_true rfl⟩ ⟨Nat.le_of_ble_eq_true rfl, Nat.le_of_ble_eq_true rfl⟩ (Nat.le_of_ble_eq_true rfl) dX6_digest_259 rfl) [0, 1, 2, 3, 4, 5, 6, 7, 8, 9] [] [0, 1, 2, 3, 4, 5, 6, 7, 8, 9] rfl rfl rfl rfl (by decide) rfl (fun _ _ => rfl) (k' := 0) (n' := 0) rfl rfl rfl (fun r_39 _ _ h => ?_)
      refine v_i2l (pc' := 263) C dX6_digest_262 rfl ?_
      refine v_ladd (pc' := 264) C dX6_digest_263 rfl ?_
      refine v_letl h (fun v1_40 h => ?_)
      refine v_lstore_n (pc' := 265) C [1, 0] (lv' := [(0, .ref aM.1), (1, .long v1_40)]) dX6_digest_264 (Nat.le_of_ble_eq_true rfl) rfl rfl ?_
      refine v_ldc2 (pc' := 268) C (31) dX6_digest_265 k_X6_digest_3 rfl ?_
      refine v_lload_n (pc' := 269) C 1 dX6_digest_268 rfl rfl ?_
      refine v_lmul (pc' := 270) C dX6_digest_269 rfl ?_
      refine v_aload_n (pc' := 271) C 0 dX6_digest_270 rfl rfl ?_
      refine v_calli (pc' := 274) C h (rf := fun r9 => r9.1) ([]) (fun r9 (u9 : Unit) => wM g aM r9.2) (fun r hr => run_V C (c_X6_best l g aM _ r hr) gX6_digest_X6_best rfl nd_X6_best rfl rfl rfl rfl ⟨Nat.le_of_ble_eq_true rfl, Nat.le_of_ble_eq_true rfl⟩ ⟨Nat.le_of_ble_eq_true rfl, Nat.le_of_ble_eq_true rfl⟩ (Nat.le_of_ble_eq_true rfl) dX6_digest_271 rfl) [0, 1, 2, 3, 4, 5, 6, 7, 8, 9] [] [0, 1, 2, 3, 4, 5, 6, 7, 8, 9] rfl rfl rfl rfl (by decide) rfl (fun _ _ => rfl) (k' := 0) (n' := 0) rfl rfl rfl (fun r_41 _ _ h => ?_)
      refine v_i2l (pc' := 275) C dX6_digest_274 rfl ?_
      refine v_ladd (pc' := 276) C dX6_digest_275 rfl ?_
      refine v_letl h (fun v1_42 h => ?_)
      refine v_lstore_n (pc' := 277) C [1, 0] (lv' := [(0, .ref aM.1), (1, .long v1_42)]) dX6_digest_276 (Nat.le_of_ble_eq_true rfl) rfl rfl ?_
      exact J277 v1_42 r_41.2 h
  have J195 : ∀ (v1_22 : Int64) (zM_23 : Md), f_X6_digest_J195  v1_22 zM_23 = some o → V p l e rm_X6_digest s m args below meth c g 5 A 0 0 Q (wM g aM zM_23) [] [(0, .ref aM.1), (1, .long v1_22)] 195 [] := by
    intro v1_22 zM_23 h
    unfold f_X6_digest_J195 at h
    refine v_ldc2 (pc' := 198) C (31) dX6_digest_195 k_X6_digest_3 rfl ?_
    refine v_lload_n (pc' := 199) C 1 dX6_digest_198 rfl rfl ?_
    refine v_lmul (pc' := 200) C dX6_digest_199 rfl ?_
    refine v_aload_n (pc' := 201) C 0 dX6_digest_200 rfl rfl ?_
    refine g_M_s (pc' := 204) C 0 in_X6_digest_6 rfl k_X6_digest_2 rfl dX6_digest_201 rfl ?_
    refine v_bipush (pc' := 206) C (6) dX6_digest_204 bc_6 rfl ?_
    refine v_iald (pc' := 207) C h 1 rfl dX6_digest_206 rfl (fun e_24 h => ?_)
    refine v_i2l (pc' := 208) C dX6_digest_207 rfl ?_
    refine v_ladd (pc' := 209) C dX6_digest_208 rfl ?_
    refine v_letl h (fun v1_25 h => ?_)
    refine v_lstore_n (pc' := 210) C [1, 0] (lv' := [(0, .ref aM.1), (1, .long v1_25)]) dX6_digest_209 (Nat.le_of_ble_eq_true rfl) rfl rfl ?_
    refine v_iconst (pc' := 211) C (0) dX6_digest_210 ic_0 rfl ?_
    refine v_istore_n (pc' := 212) C [1, 2, 0] (lv' := [(0, .ref aM.1), (1, .long v1_25), (3, .int (0 : Int32))]) dX6_digest_211 (Nat.le_of_ble_eq_true rfl) rfl rfl ?_
    refine v_loop2 (fun (v1_26 : Int64) (v3_27 : Int32) => V p l e rm_X6_digest s m args below meth c g 5 A 0 0 Q (wM g aM zM_23) [] [(0, .ref aM.1), (1, .long v1_26), (3, .int v3_27)] 212 []) (fun re212 ih212 v1_26 v3_27 h => ?_) v1_25 (0 : Int32) h
    unfold f_X6_digest_L212 at h
    refine v_iload_n (pc' := 213) C 2 dX6_digest_212 rfl rfl ?_
    refine v_aload_n (pc' := 214) C 0 dX6_digest_213 rfl rfl ?_
    refine g_M_s (pc' := 217) C 0 in_X6_digest_6 rfl k_X6_digest_2 rfl dX6_digest_214 rfl ?_
    refine v_bipush (pc' := 219) C (6) dX6_digest_217 bc_6 rfl ?_
    refine v_iald (pc' := 220) C h 1 rfl dX6_digest_219 rfl (fun e_28 h => ?_)
    refine v_icmp_ge C 246 223 h dX6_digest_220 (by decide) rfl (fun _ h => ?_) (fun _ h => ?_)
    · refine v_lv [0, 1] (lv' := [(0, .ref aM.1), (1, .long v1_26)]) rfl ?_
      exact J246 v1_26 zM_23 h
    · refine v_ldc2 (pc' := 226) C (31) dX6_digest_223 k_X6_digest_3 rfl ?_
      refine v_lload_n (pc' := 227) C 1 dX6_digest_226 rfl rfl ?_
      refine v_lmul (pc' := 228) C dX6_digest_227 rfl ?_
      refine v_aload_n (pc' := 229) C 0 dX6_digest_228 rfl rfl ?_
      refine g_M_s (pc' := 232) C 0 in_X6_digest_6 rfl k_X6_digest_2 rfl dX6_digest_229 rfl ?_
      refine v_bipush (pc' := 234) C (15) dX6_digest_232 bc_15 rfl ?_
      refine v_iload_n (pc' := 235) C 2 dX6_digest_234 rfl rfl ?_
      refine v_iadd (pc' := 236) C dX6_digest_235 rfl ?_
      refine v_iald (pc' := 237) C h 1 rfl dX6_digest_236 rfl (fun e_43 h => ?_)
      refine v_i2l (pc' := 238) C dX6_digest_237 rfl ?_
      refine v_ladd (pc' := 239) C dX6_digest_238 rfl ?_
      refine v_letl h (fun v1_44 h => ?_)
      refine v_lstore_n (pc' := 240) C [1, 0, 2] (lv' := [(0, .ref aM.1), (1, .long v1_44), (3, .int v3_27)]) dX6_digest_239 (Nat.le_of_ble_eq_true rfl) rfl rfl ?_
      refine v_iinc (pc' := 243) C 2 [1, 2, 0] (1) dX6_digest_240 rfl ic_1 (Nat.le_of_ble_eq_true rfl) h (lw := fun v9 => [(0, .ref aM.1), (1, .long v1_44), (3, .int v9)]) (fun _ => rfl) rfl (fun v3_45 h => ?_)
      refine v_goto C (pc' := 212) dX6_digest_243 (by decide) ?_
      exact ih212 v1_44 v3_45 h
  have J144 : ∀ (v1_15 : Int64) (zM_16 : Md), f_X6_digest_J144  v1_15 zM_16 = some o → V p l e rm_X6_digest s m args below meth c g 5 A 0 0 Q (wM g aM zM_16) [] [(0, .ref aM.1), (1, .long v1_15)] 144 [] := by
    intro v1_15 zM_16 h
    unfold f_X6_digest_J144 at h
    refine v_ldc2 (pc' := 147) C (31) dX6_digest_144 k_X6_digest_3 rfl ?_
    refine v_lload_n (pc' := 148) C 1 dX6_digest_147 rfl rfl ?_
    refine v_lmul (pc' := 149) C dX6_digest_148 rfl ?_
    refine v_aload_n (pc' := 150) C 0 dX6_digest_149 rfl rfl ?_
    refine v_calli (pc' := 153) C h (rf := fun r9 => r9) ([]) (fun r9 (u9 : Unit) => wM g aM zM_16) (fun r hr => run_V C (c_X6_candidates l g aM _ r hr) gX6_digest_X6_candidates rfl nd_X6_candidates rfl rfl rfl rfl ⟨Nat.le_of_ble_eq_true rfl, Nat.le_of_ble_eq_true rfl⟩ ⟨Nat.le_of_ble_eq_true rfl, Nat.le_of_ble_eq_true rfl⟩ (Nat.le_of_ble_eq_true rfl) dX6_digest_150 rfl) [0, 1, 2, 3, 4, 5, 6, 7, 8, 9] [] [0, 1, 2, 3, 4, 5, 6, 7, 8, 9] rfl rfl rfl rfl (by decide) rfl (fun _ _ => rfl) (k' := 0) (n' := 0) rfl rfl rfl (fun r_17 _ _ h => ?_)
    refine v_i2l (pc' := 154) C dX6_digest_153 rfl ?_
    refine v_ladd (pc' := 155) C dX6_digest_154 rfl ?_
    refine v_letl h (fun v1_18 h => ?_)
    refine v_lstore_n (pc' := 156) C [1, 0] (lv' := [(0, .ref aM.1), (1, .long v1_18)]) dX6_digest_155 (Nat.le_of_ble_eq_true rfl) rfl rfl ?_
    refine v_iconst (pc' := 157) C (0) dX6_digest_156 ic_0 rfl ?_
    refine v_istore_n (pc' := 158) C [1, 2, 0] (lv' := [(0, .ref aM.1), (1, .long v1_18), (3, .int (0 : Int32))]) dX6_digest_157 (Nat.le_of_ble_eq_true rfl) rfl rfl ?_
    refine v_loop2 (fun (v1_19 : Int64) (v3_20 : Int32) => V p l e rm_X6_digest s m args below meth c g 5 A 0 0 Q (wM g aM zM_16) [] [(0, .ref aM.1), (1, .long v1_19), (3, .int v3_20)] 158 []) (fun re158 ih158 v1_19 v3_20 h => ?_) v1_18 (0 : Int32) h
    unfold f_X6_digest_L158 at h
    refine v_iload_n (pc' := 159) C 2 dX6_digest_158 rfl rfl ?_
    refine v_aload_n (pc' := 160) C 0 dX6_digest_159 rfl rfl ?_
    refine g_M_s (pc' := 163) C 0 in_X6_digest_6 rfl k_X6_digest_2 rfl dX6_digest_160 rfl ?_
    refine v_iconst (pc' := 164) C (0) dX6_digest_163 ic_0 rfl ?_
    refine v_iald (pc' := 165) C h 1 rfl dX6_digest_164 rfl (fun e_21 h => ?_)
    refine v_icmp_ge C 195 168 h dX6_digest_165 (by decide) rfl (fun _ h => ?_) (fun _ h => ?_)
    · refine v_lv [0, 1] (lv' := [(0, .ref aM.1), (1, .long v1_19)]) rfl ?_
      exact J195 v1_19 zM_16 h
    · refine v_aload_n (pc' := 169) C 0 dX6_digest_168 rfl rfl ?_
      refine v_iload_n (pc' := 170) C 2 dX6_digest_169 rfl rfl ?_
      refine v_calli (pc' := 173) C h (rf := fun r9 => r9) ([]) (fun r9 (u9 : Unit) => wM g aM zM_16) (fun r hr => run_V C (c_X6_isCandidate l g aM _ _ r hr) gX6_digest_X6_isCandidate rfl nd_X6_isCandidate rfl rfl rfl rfl ⟨Nat.le_of_ble_eq_true rfl, Nat.le_of_ble_eq_true rfl⟩ ⟨Nat.le_of_ble_eq_true rfl, Nat.le_of_ble_eq_true rfl⟩ (Nat.le_of_ble_eq_true rfl) dX6_digest_170 rfl) [0, 1, 2, 3, 4, 5, 6, 7, 8, 9] [] [0, 1, 2, 3, 4, 5, 6, 7, 8, 9] rfl rfl rfl rfl (by decide) rfl (fun _ _ => rfl) (k' := 0) (n' := 0) rfl rfl rfl (fun r_46 _ _ h => ?_)
      refine v_if_eq C 187 176 h dX6_digest_173 (by decide) rfl (fun _ h => ?_) (fun _ h => ?_)
      · refine v_lload_n (pc' := 188) C 1 dX6_digest_187 rfl rfl ?_
        refine v_lstore_n (pc' := 189) C [1, 0, 2] (lv' := [(0, .ref aM.1), (1, .long v1_19), (3, .int v3_20)]) dX6_digest_188 (Nat.le_of_ble_eq_true rfl) rfl rfl ?_
        refine v_iinc (pc' := 192) C 2 [1, 2, 0] (1) dX6_digest_189 rfl ic_1 (Nat.le_of_ble_eq_true rfl) h (lw := fun v9 => [(0, .ref aM.1), (1, .long v1_19), (3, .int v9)]) (fun _ => rfl) rfl (fun v3_47 h => ?_)
        refine v_goto C (pc' := 158) dX6_digest_192 (by decide) ?_
        exact ih158 v1_19 v3_47 h
      · refine v_ldc2 (pc' := 179) C (31) dX6_digest_176 k_X6_digest_3 rfl ?_
        refine v_lload_n (pc' := 180) C 1 dX6_digest_179 rfl rfl ?_
        refine v_lmul (pc' := 181) C dX6_digest_180 rfl ?_
        refine v_iload_n (pc' := 182) C 2 dX6_digest_181 rfl rfl ?_
        refine v_i2l (pc' := 183) C dX6_digest_182 rfl ?_
        refine v_ladd (pc' := 184) C dX6_digest_183 rfl ?_
        refine v_goto C (pc' := 188) dX6_digest_184 (by decide) ?_
        refine v_letl h (fun v1_48 h => ?_)
        refine v_lstore_n (pc' := 189) C [1, 0, 2] (lv' := [(0, .ref aM.1), (1, .long v1_48), (3, .int v3_20)]) dX6_digest_188 (Nat.le_of_ble_eq_true rfl) rfl rfl ?_
        refine v_iinc (pc' := 192) C 2 [1, 2, 0] (1) dX6_digest_189 rfl ic_1 (Nat.le_of_ble_eq_true rfl) h (lw := fun v9 => [(0, .ref aM.1), (1, .long v1_48), (3, .int v9)]) (fun _ => rfl) rfl (fun v3_49 h => ?_)
        refine v_goto C (pc' := 158) dX6_digest_192 (by decide) ?_
        exact ih158 v1_48 v3_49 h
  have J85 : ∀ (v1_6 : Int64) (zM_7 : Md), f_X6_digest_J85  v1_6 zM_7 = some o → V p l e rm_X6_digest s m args below meth c g 5 A 0 0 Q (wM g aM zM_7) [] [(0, .ref aM.1), (1, .long v1_6)] 85 [] := by
    intro v1_6 zM_7 h
    unfold f_X6_digest_J85 at h
    refine v_ldc2 (pc' := 88) C (31) dX6_digest_85 k_X6_digest_3 rfl ?_
    refine v_lload_n (pc' := 89) C 1 dX6_digest_88 rfl rfl ?_
    refine v_lmul (pc' := 90) C dX6_digest_89 rfl ?_
    refine v_aload_n (pc' := 91) C 0 dX6_digest_90 rfl rfl ?_
    refine g_M_s (pc' := 94) C 0 in_X6_digest_6 rfl k_X6_digest_2 rfl dX6_digest_91 rfl ?_
    refine v_iconst (pc' := 95) C (2) dX6_digest_94 ic_2 rfl ?_
    refine v_iald (pc' := 96) C h 1 rfl dX6_digest_95 rfl (fun e_8 h => ?_)
    refine v_i2l (pc' := 97) C dX6_digest_96 rfl ?_
    refine v_ladd (pc' := 98) C dX6_digest_97 rfl ?_
    refine v_letl h (fun v1_9 h => ?_)
    refine v_lstore_n (pc' := 99) C [1, 0] (lv' := [(0, .ref aM.1), (1, .long v1_9)]) dX6_digest_98 (Nat.le_of_ble_eq_true rfl) rfl rfl ?_
    refine v_ldc2 (pc' := 102) C (31) dX6_digest_99 k_X6_digest_3 rfl ?_
    refine v_lload_n (pc' := 103) C 1 dX6_digest_102 rfl rfl ?_
    refine v_lmul (pc' := 104) C dX6_digest_103 rfl ?_
    refine v_aload_n (pc' := 105) C 0 dX6_digest_104 rfl rfl ?_
    refine g_M_s (pc' := 108) C 0 in_X6_digest_6 rfl k_X6_digest_2 rfl dX6_digest_105 rfl ?_
    refine v_iconst (pc' := 109) C (4) dX6_digest_108 ic_4 rfl ?_
    refine v_iald (pc' := 110) C h 1 rfl dX6_digest_109 rfl (fun e_10 h => ?_)
    refine v_i2l (pc' := 111) C dX6_digest_110 rfl ?_
    refine v_ladd (pc' := 112) C dX6_digest_111 rfl ?_
    refine v_letl h (fun v1_11 h => ?_)
    refine v_lstore_n (pc' := 113) C [1, 0] (lv' := [(0, .ref aM.1), (1, .long v1_11)]) dX6_digest_112 (Nat.le_of_ble_eq_true rfl) rfl rfl ?_
    refine v_iconst (pc' := 114) C (0) dX6_digest_113 ic_0 rfl ?_
    refine v_istore_n (pc' := 115) C [1, 2, 0] (lv' := [(0, .ref aM.1), (1, .long v1_11), (3, .int (0 : Int32))]) dX6_digest_114 (Nat.le_of_ble_eq_true rfl) rfl rfl ?_
    refine v_loop2 (fun (v1_12 : Int64) (v3_13 : Int32) => V p l e rm_X6_digest s m args below meth c g 5 A 0 0 Q (wM g aM zM_7) [] [(0, .ref aM.1), (1, .long v1_12), (3, .int v3_13)] 115 []) (fun re115 ih115 v1_12 v3_13 h => ?_) v1_11 (0 : Int32) h
    unfold f_X6_digest_L115 at h
    refine v_iload_n (pc' := 116) C 2 dX6_digest_115 rfl rfl ?_
    refine v_aload_n (pc' := 117) C 0 dX6_digest_116 rfl rfl ?_
    refine g_M_s (pc' := 120) C 0 in_X6_digest_6 rfl k_X6_digest_2 rfl dX6_digest_117 rfl ?_
    refine v_iconst (pc' := 121) C (3) dX6_digest_120 ic_3 rfl ?_
    refine v_iald (pc' := 122) C h 1 rfl dX6_digest_121 rfl (fun e_14 h => ?_)
    refine v_icmp_ge C 144 125 h dX6_digest_122 (by decide) rfl (fun _ h => ?_) (fun _ h => ?_)
    · refine v_lv [0, 1] (lv' := [(0, .ref aM.1), (1, .long v1_12)]) rfl ?_
      exact J144 v1_12 zM_7 h
    · refine v_ldc2 (pc' := 128) C (31) dX6_digest_125 k_X6_digest_3 rfl ?_
      refine v_lload_n (pc' := 129) C 1 dX6_digest_128 rfl rfl ?_
      refine v_lmul (pc' := 130) C dX6_digest_129 rfl ?_
      refine v_aload_n (pc' := 131) C 0 dX6_digest_130 rfl rfl ?_
      refine v_iload_n (pc' := 132) C 2 dX6_digest_131 rfl rfl ?_
      refine v_calli (pc' := 135) C h (rf := fun r9 => r9) ([]) (fun r9 (u9 : Unit) => wM g aM zM_7) (fun r hr => run_V C (c_X6_shown l g aM _ _ r hr) gX6_digest_X6_shown rfl nd_X6_shown rfl rfl rfl rfl ⟨Nat.le_of_ble_eq_true rfl, Nat.le_of_ble_eq_true rfl⟩ ⟨Nat.le_of_ble_eq_true rfl, Nat.le_of_ble_eq_true rfl⟩ (Nat.le_of_ble_eq_true rfl) dX6_digest_132 rfl) [0, 1, 2, 3, 4, 5, 6, 7, 8, 9] [] [0, 1, 2, 3, 4, 5, 6, 7, 8, 9] rfl rfl rfl rfl (by decide) rfl (fun _ _ => rfl) (k' := 0) (n' := 0) rfl rfl rfl (fun r_50 _ _ h => ?_)
      refine v_i2l (pc' := 136) C dX6_digest_135 rfl ?_
      refine v_ladd (pc' := 137) C dX6_digest_136 rfl ?_
      refine v_letl h (fun v1_51 h => ?_)
      refine v_lstore_n (pc' := 138) C [1, 0, 2] (lv' := [(0, .ref aM.1), (1, .long v1_51), (3, .int v3_13)]) dX6_digest_137 (Nat.le_of_ble_eq_true rfl) rfl rfl ?_
      refine v_iinc (pc' := 141) C 2 [1, 2, 0] (1) dX6_digest_138 rfl ic_1 (Nat.le_of_ble_eq_true rfl) h (lw := fun v9 => [(0, .ref aM.1), (1, .long v1_51), (3, .int v9)]) (fun _ => rfl) rfl (fun v3_52 h => ?_)
      refine v_goto C (pc' := 115) dX6_digest_141 (by decide) ?_
      exact ih115 v1_51 v3_52 h
  refine v_ldc2 (pc' := 3) C (4061) dX6_digest_0 k_X6_digest_1 rfl ?_
  refine v_aload_n (pc' := 4) C 0 dX6_digest_3 rfl rfl ?_
  refine g_M_s (pc' := 7) C 0 in_X6_digest_6 rfl k_X6_digest_2 rfl dX6_digest_4 rfl ?_
  refine v_iconst (pc' := 8) C (0) dX6_digest_7 ic_0 rfl ?_
  refine v_iald (pc' := 9) C h 1 rfl dX6_digest_8 rfl (fun e_1 h => ?_)
  refine v_i2l (pc' := 10) C dX6_digest_9 rfl ?_
  refine v_ladd (pc' := 11) C dX6_digest_10 rfl ?_
  refine v_letl h (fun v1_2 h => ?_)
  refine v_lstore_n (pc' := 12) C [1, 0] (lv' := [(0, .ref aM.1), (1, .long v1_2)]) dX6_digest_11 (Nat.le_of_ble_eq_true rfl) rfl rfl ?_
  refine v_iconst (pc' := 13) C (0) dX6_digest_12 ic_0 rfl ?_
  refine v_istore_n (pc' := 14) C [1, 2, 0] (lv' := [(0, .ref aM.1), (1, .long v1_2), (3, .int (0 : Int32))]) dX6_digest_13 (Nat.le_of_ble_eq_true rfl) rfl rfl ?_
  refine v_loop2 (fun (v1_3 : Int64) (v3_4 : Int32) => V p l e rm_X6_digest s m args below meth c g 5 A 0 0 Q (wM g aM zM) [] [(0, .ref aM.1), (1, .long v1_3), (3, .int v3_4)] 14 []) (fun re14 ih14 v1_3 v3_4 h => ?_) v1_2 (0 : Int32) h
  unfold f_X6_digest_L14 at h
  refine v_iload_n (pc' := 15) C 2 dX6_digest_14 rfl rfl ?_
  refine v_aload_n (pc' := 16) C 0 dX6_digest_15 rfl rfl ?_
  refine g_M_s (pc' := 19) C 0 in_X6_digest_6 rfl k_X6_digest_2 rfl dX6_digest_16 rfl ?_
  refine v_iconst (pc' := 20) C (0) dX6_digest_19 ic_0 rfl ?_
  refine v_iald (pc' := 21) C h 1 rfl dX6_digest_20 rfl (fun e_5 h => ?_)
  refine v_icmp_ge C 85 24 h dX6_digest_21 (by decide) rfl (fun _ h => ?_) (fun _ h => ?_)
  · refine v_lv [0, 1] (lv' := [(0, .ref aM.1), (1, .long v1_3)]) rfl ?_
    exact J85 v1_3 zM h
  · refine v_ldc2 (pc' := 27) C (31) dX6_digest_24 k_X6_digest_3 rfl ?_
    refine v_lload_n (pc' := 28) C 1 dX6_digest_27 rfl rfl ?_
    refine v_lmul (pc' := 29) C dX6_digest_28 rfl ?_
    refine v_aload_n (pc' := 30) C 0 dX6_digest_29 rfl rfl ?_
    refine g_M_s (pc' := 33) C 0 in_X6_digest_6 rfl k_X6_digest_2 rfl dX6_digest_30 rfl ?_
    refine v_bipush (pc' := 35) C (49) dX6_digest_33 bc_49 rfl ?_
    refine v_iload_n (pc' := 36) C 2 dX6_digest_35 rfl rfl ?_
    refine v_iadd (pc' := 37) C dX6_digest_36 rfl ?_
    refine v_iald (pc' := 38) C h 1 rfl dX6_digest_37 rfl (fun e_53 h => ?_)
    refine v_i2l (pc' := 39) C dX6_digest_38 rfl ?_
    refine v_ladd (pc' := 40) C dX6_digest_39 rfl ?_
    refine v_letl h (fun v1_54 h => ?_)
    refine v_lstore_n (pc' := 41) C [1, 0, 2] (lv' := [(0, .ref aM.1), (1, .long v1_54), (3, .int v3_4)]) dX6_digest_40 (Nat.le_of_ble_eq_true rfl) rfl rfl ?_
    refine v_iconst (pc' := 42) C (0) dX6_digest_41 ic_0 rfl ?_
    refine v_istore (pc' := 44) C [1, 2, 3, 0] (lv' := [(0, .ref aM.1), (1, .long v1_54), (3, .int v3_4), (4, .int (0 : Int32))]) dX6_digest_42 (Nat.le_of_ble_eq_true rfl) rfl rfl ?_
    refine v_loop2 (fun (v1_55 : Int64) (v4_56 : Int32) => V p l e rm_X6_digest s m args below meth c g 5 A 0 0 Q (wM g aM zM) [] [(0, .ref aM.1), (1, .long v1_55), (3, .int v3_4), (4, .int v4_56)] 44 []) (fun re44 ih44 v1_55 v4_56 h => ?_) v1_54 (0 : Int32) h
    unfold f_X6_digest_L44 at h
    refine v_iload (pc' := 46) C 3 dX6_digest_44 rfl rfl ?_
    refine v_aload_n (pc' := 47) C 0 dX6_digest_46 rfl rfl ?_
    refine g_M_s (pc' := 50) C 0 in_X6_digest_6 rfl k_X6_digest_2 rfl dX6_digest_47 rfl ?_
    refine v_bipush (pc' := 52) C (49) dX6_digest_50 bc_49 rfl ?_
    refine v_iload_n (pc' := 53) C 2 dX6_digest_52 rfl rfl ?_
    refine v_iadd (pc' := 54) C dX6_digest_53 rfl ?_
    refine v_iald (pc' := 55) C h 1 rfl dX6_digest_54 rfl (fun e_57 h => ?_)
    refine v_icmp_ge C 79 58 h dX6_digest_55 (by decide) rfl (fun _ h => ?_) (fun _ h => ?_)
    · refine v_iinc (pc' := 82) C 2 [1, 2, 0, 3] (1) dX6_digest_79 rfl ic_1 (Nat.le_of_ble_eq_true rfl) h (lw := fun v9 => [(0, .ref aM.1), (1, .long v1_55), (3, .int v9), (4, .int v4_56)]) (fun _ => rfl) rfl (fun v3_58 h => ?_)
      refine v_goto C (pc' := 14) dX6_digest_82 (by decide) ?_
      refine v_lv [0, 1, 2] (lv' := [(0, .ref aM.1), (1, .long v1_55), (3, .int v3_58)]) rfl ?_
      exact ih14 v1_55 v3_58 h
    · refine v_ldc2 (pc' := 61) C (31) dX6_digest_58 k_X6_digest_3 rfl ?_
      refine v_lload_n (pc' := 62) C 1 dX6_digest_61 rfl rfl ?_
      refine v_lmul (pc' := 63) C dX6_digest_62 rfl ?_
      refine v_aload_n (pc' := 64) C 0 dX6_digest_63 rfl rfl ?_
      refine v_iload_n (pc' := 65) C 2 dX6_digest_64 rfl rfl ?_
      refine v_iload (pc' := 67) C 3 dX6_digest_65 rfl rfl ?_
      refine v_calli (pc' := 70) C h (rf := fun r9 => r9) ([]) (fun r9 (u9 : Unit) => wM g aM zM) (fun r hr => run_V C (c_X6_letter l g aM _ _ _ r hr) gX6_digest_X6_letter rfl nd_X6_letter rfl rfl rfl rfl ⟨Nat.le_of_ble_eq_true rfl, Nat.le_of_ble_eq_true rfl⟩ ⟨Nat.le_of_ble_eq_true rfl, Nat.le_of_ble_eq_true rfl⟩ (Nat.le_of_ble_eq_true rfl) dX6_digest_67 rfl) [0, 1, 2, 3, 4, 5, 6, 7, 8, 9] [] [0, 1, 2, 3, 4, 5, 6, 7, 8, 9] rfl rfl rfl rfl (by decide) rfl (fun _ _ => rfl) (k' := 0) (n' := 0) rfl rfl rfl (fun r_59 _ _ h => ?_)
      refine v_i2l (pc' := 71) C dX6_digest_70 rfl ?_
      refine v_ladd (pc' := 72) C dX6_digest_71 rfl ?_
      refine v_letl h (fun v1_60 h => ?_)
      refine v_lstore_n (pc' := 73) C [1, 0, 2, 3] (lv' := [(0, .ref aM.1), (1, .long v1_60), (3, .int v3_4), (4, .int v4_56)]) dX6_digest_72 (Nat.le_of_ble_eq_true rfl) rfl rfl ?_
      refine v_iinc (pc' := 76) C 3 [1, 2, 3, 0] (1) dX6_digest_73 rfl ic_1 (Nat.le_of_ble_eq_true rfl) h (lw := fun v9 => [(0, .ref aM.1), (1, .long v1_60), (3, .int v3_4), (4, .int v9)]) (fun _ => rfl) rfl (fun v4_61 h => ?_)
      refine v_goto C (pc' := 44) dX6_digest_76 (by decide) ?_
      exact ih44 v1_60 v4_61 h
