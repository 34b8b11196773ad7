/-! ===== constructors; the ring of saved states ===== -/
def ini_S : St := ((fun _ => 0), (fun _ => 0), (fun _ => 0), 0, 0, 0, 0, 0, 0, 0, 0, 0)
def ini_T : Tx := ((fun _ => 0), (fun _ => 0), 0)
def ini_F : Fm := ((fun _ => 0), (fun _ => 0), (fun _ => 0), 0, 0)
def ini_V : Sv := ([], 0, 0)
abbrev rm_X2_init : Room := { frames := 1, cells := 3, slots := 63, locals := 20 }
theorem in_X2_init_2 : ∀ w ∈ wsX20, w ∈ wsX2_init := fun _ h => List.mem_cons_of_mem _ (List.mem_append_right _ h)
theorem k_X2_init_1 : Cond.methodLink RX2 3 objectInit ∈ wsX2_init := List.mem_of_getElem? (i := 1) rfl
theorem k_X2_init_2 : Cond.instanceMethod objectInit ∈ wsX2_init := List.mem_of_getElem? (i := 2) rfl
theorem k_X2_init_3 : Cond.code objectInit ⟨#[0xb1]⟩ 1 none ∈ wsX2_init := List.mem_of_getElem? (i := 3) rfl
theorem k_X2_init_4 : Cond.arrayClass .long ∈ wsX2_init := List.mem_of_getElem? (i := 4) rfl
theorem k_X2_init_5 : Cond.fieldLink RX2 9 "DodgingHangman$State" "list" "[J" ∈ wsX2_init := List.mem_of_getElem? (i := 5) rfl
theorem k_X2_init_6 : Cond.arrayClass .int ∈ wsX2_init := List.mem_of_getElem? (i := 6) rfl
theorem k_X2_init_7 : Cond.fieldLink RX2 15 "DodgingHangman$State" "lettersInOrder" "[I" ∈ wsX2_init := List.mem_of_getElem? (i := 7) rfl
theorem k_X2_init_8 : Cond.fieldLink RX2 19 "DodgingHangman$State" "totals" "[I" ∈ wsX2_init := List.mem_of_getElem? (i := 8) rfl
theorem nd_X2_init : yX2_init.cls ≠ "java/lang/invoke/MethodHandle" ∧ yX2_init.cls ≠ "java/lang/invoke/VarHandle" ∧ (parseMethodDescriptor yX2_init.desc).map (fun d => d.parameters.length) = some 0 := by decide +kernel
set_option maxHeartbeats 4000000 in
set_option maxRecDepth 100000 in
theorem c_X2_init (l : Launch) (g : Gv) (h0 : Nat) : Ct l g yX2_init wsX2_init rm_X2_init [.ref h0] [(h0, .inr (2, [.null, .null, .null, .int 0, .int 0, .int 0, .int 0, .int 0, .int 0, .int 0, .int 0, .long 0]))] (Qv g (fun u9 : A3 => wS g (h0, u9) ini_S) (fun _ => True)) := by
  refine enter (ret := none) (X := [(h0, .inr (2, [.null, .null, .null, .int 0, .int 0, .int 0, .int 0, .int 0, .int 0, .int 0, .int 0, .long 0]))]) (pl := []) pn_X2 rfl (Nat.le_of_ble_eq_true rfl) ((List.append_nil _).symm) ?_
  intro p e s m args below meth c A Q C Cr hin hQ
  refine v_aload_n (pc' := 1) C 0 dX2_init_0 rfl rfl ?_
  refine v_objInit (pc' := 4) C k_X2_init_1 k_X2_init_2 k_X2_init_3 (Nat.le_of_ble_eq_true rfl) (Nat.le_of_ble_eq_true rfl) dX2_init_1 rfl ?_
  refine v_aload_n (pc' := 5) C 0 dX2_init_4 rfl rfl ?_
  refine v_bipush (pc' := 7) C (30) dX2_init_5 bc_30 rfl ?_
  refine v_newl (pc' := 9) C 30 k_X2_init_4 (by decide) (by decide) (Nat.le_of_ble_eq_true rfl) (Nat.le_of_ble_eq_true rfl) (Nat.le_of_ble_eq_true rfl) dX2_init_7 rfl (fun q1 => ?_)
  refine v_world (X' := [(h0, .inr (2, [.null, .null, .null, .int 0, .int 0, .int 0, .int 0, .int 0, .int 0, .int 0, .int 0, .long 0])), (q1, .inl (g.2.2.2.1, 30, .inr (.inl (fun _ => 0))))]) (pl' := []) rfl ?_
  refine v_putF (pc' := 12) C (T := TX2) (ty := tyX2 0) 0 0 in_X2_init_2 tyX2 tyX2_ok nmX2 rfl rfl (by decide) k_X2_init_5 rfl rfl hin rfl (tyX2_ok 0 (by decide)) rfl rfl (Nat.le_of_ble_eq_true rfl) (X' := [(h0, .inr (2, [.ref q1, .null, .null, .int 0, .int 0, .int 0, .int 0, .int 0, .int 0, .int 0, .int 0, .long 0])), (q1, .inl (g.2.2.2.1, 30, .inr (.inl (fun _ => 0))))]) rfl dX2_init_9 rfl ?_
  refine v_aload_n (pc' := 13) C 0 dX2_init_12 rfl rfl ?_
  refine v_bipush (pc' := 15) C (26) dX2_init_13 bc_26 rfl ?_
  refine v_newi (pc' := 17) C 26 k_X2_init_6 (by decide) (by decide) (Nat.le_of_ble_eq_true rfl) (Nat.le_of_ble_eq_true rfl) (Nat.le_of_ble_eq_true rfl) dX2_init_15 rfl (fun q2 => ?_)
  refine v_world (X' := [(h0, .inr (2, [.ref q1, .null, .null, .int 0, .int 0, .int 0, .int 0, .int 0, .int 0, .int 0, .int 0, .long 0])), (q1, .inl (g.2.2.2.1, 30, .inr (.inl (fun _ => 0)))), (q2, .inl (g.2.2.1, 26, .inl (fun _ => 0)))]) (pl' := []) rfl ?_
  refine v_putF (pc' := 20) C (T := TX2) (ty := tyX2 1) 0 1 in_X2_init_2 tyX2 tyX2_ok nmX2 rfl rfl (by decide) k_X2_init_7 rfl rfl hin rfl (tyX2_ok 1 (by decide)) rfl rfl (Nat.le_of_ble_eq_true rfl) (X' := [(h0, .inr (2, [.ref q1, .ref q2, .null, .int 0, .int 0, .int 0, .int 0, .int 0, .int 0, .int 0, .int 0, .long 0])), (q1, .inl (g.2.2.2.1, 30, .inr (.inl (fun _ => 0)))), (q2, .inl (g.2.2.1, 26, .inl (fun _ => 0)))]) rfl dX2_init_17 rfl ?_
  refine v_aload_n (pc' := 21) C 0 dX2_init_20 rfl rfl ?_
  refine v_bipush (pc' := 23) C (7) dX2_init_21 bc_7 rfl ?_
  refine v_newi (pc' := 25) C 7 k_X2_init_6 (by decide) (by decide) (Nat.le_of_ble_eq_true rfl) (Nat.le_of_ble_eq_true rfl) (Nat.le_of_ble_eq_true rfl) dX2_init_23 rfl (fun q3 => ?_)
  refine v_world (X' := [(h0, .inr (2, [.ref q1, .ref q2, .null, .int 0, .int 0, .int 0, .int 0, .int 0, .int 0, .int 0, .int 0, .long 0])), (q1, .inl (g.2.2.2.1, 30, .inr (.inl (fun _ => 0)))), (q2, .inl (g.2.2.1, 26, .inl (fun _ => 0))), (q3, .inl (g.2.2.1, 7, .inl (fun _ => 0)))]) (pl' := []) rfl ?_
  refine v_putF (pc' := 28) C (T := TX2) (ty := tyX2 2) 0 2 in_X2_init_2 tyX2 tyX2_ok nmX2 rfl rfl (by decide) k_X2_init_8 rfl rfl hin rfl (tyX2_ok 2 (by decide)) rfl rfl (Nat.le_of_ble_eq_true rfl) (X' := [(h0, .inr (2, [.ref q1, .ref q2, .ref q3, .int 0, .int 0, .int 0, .int 0, .int 0, .int 0, .int 0, .int 0, .long 0])), (q1, .inl (g.2.2.2.1, 30, .inr (.inl (fun _ => 0)))), (q2, .inl (g.2.2.1, 26, .inl (fun _ => 0))), (q3, .inl (g.2.2.1, 7, .inl (fun _ => 0)))]) rfl dX2_init_25 rfl ?_
  exact v_vret (Wf := fun (_ : Unit) (u9 : A3) => wS g (h0, u9) ini_S) (ok := fun _ _ => True) C Cr (out := ()) (o := ()) rfl hQ (q1, q2, q3) trivial rfl dX2_init_28
abbrev rm_X3_init : Room := { frames := 1, cells := 2, slots := 107, locals := 20 }
theorem in_X3_init_3 : ∀ w ∈ wsX30, w ∈ wsX3_init := fun _ h => List.mem_cons_of_mem _ (List.mem_append_right _ h)
theorem k_X3_init_1 : Cond.methodLink RX3 3 objectInit ∈ wsX3_init := List.mem_of_getElem? (i := 1) rfl
theorem k_X3_init_2 : Cond.instanceMethod objectInit ∈ wsX3_init := List.mem_of_getElem? (i := 2) rfl
theorem k_X3_init_3 : Cond.code objectInit ⟨#[0xb1]⟩ 1 none ∈ wsX3_init := List.mem_of_getElem? (i := 3) rfl
theorem k_X3_init_4 : Cond.arrayClass .char ∈ wsX3_init := List.mem_of_getElem? (i := 4) rfl
theorem k_X3_init_5 : Cond.fieldLink RX3 9 "DodgingHangman$Text" "signs" "[C" ∈ wsX3_init := List.mem_of_getElem? (i := 5) rfl
theorem k_X3_init_6 : Cond.arrayClass .long ∈ wsX3_init := List.mem_of_getElem? (i := 6) rfl
theorem k_X3_init_7 : Cond.fieldLink RX3 15 "DodgingHangman$Text" "wordsRead" "[J" ∈ wsX3_init := List.mem_of_getElem? (i := 7) rfl
theorem nd_X3_init : yX3_init.cls ≠ "java/lang/invoke/MethodHandle" ∧ yX3_init.cls ≠ "java/lang/invoke/VarHandle" ∧ (parseMethodDescriptor yX3_init.desc).map (fun d => d.parameters.length) = some 0 := by decide +kernel
set_option maxHeartbeats 4000000 in
set_option maxRecDepth 100000 in
theorem c_X3_init (l : Launch) (g : Gv) (h0 : Nat) : Ct l g yX3_init wsX3_init rm_X3_init [.ref h0] [(h0, .inr (3, [.null, .null, .int 0]))] (Qv g (fun u9 : A2 => wT g (h0, u9) ini_T) (fun _ => True)) := by
  refine enter (ret := none) (X := [(h0, .inr (3, [.null, .null, .int 0]))]) (pl := []) pn_X3 rfl (Nat.le_of_ble_eq_true rfl) ((List.append_nil _).symm) ?_
  intro p e s m args below meth c A Q C Cr hin hQ
  refine v_aload_n (pc' := 1) C 0 dX3_init_0 rfl rfl ?_
  refine v_objInit (pc' := 4) C k_X3_init_1 k_X3_init_2 k_X3_init_3 (Nat.le_of_ble_eq_true rfl) (Nat.le_of_ble_eq_true rfl) dX3_init_1 rfl ?_
  refine v_aload_n (pc' := 5) C 0 dX3_init_4 rfl rfl ?_
  refine v_bipush (pc' := 7) C (80) dX3_init_5 bc_80 rfl ?_
  refine v_newc (pc' := 9) C 80 k_X3_init_4 (by decide) (by decide) (Nat.le_of_ble_eq_true rfl) (Nat.le_of_ble_eq_true rfl) (Nat.le_of_ble_eq_true rfl) dX3_init_7 rfl (fun q1 => ?_)
  refine v_world (X' := [(h0, .inr (3, [.null, .null, .int 0])), (q1, .inl (g.2.1, 80, .inl (fun _ => 0)))]) (pl' := []) rfl ?_
  refine v_putF (pc' := 12) C (T := TX3) (ty := tyX3 0) 0 0 in_X3_init_3 tyX3 tyX3_ok nmX3 rfl rfl (by decide) k_X3_init_5 rfl rfl hin rfl (tyX3_ok 0 (by decide)) rfl rfl (Nat.le_of_ble_eq_true rfl) (X' := [(h0, .inr (3, [.ref q1, .null, .int 0])), (q1, .inl (g.2.1, 80, .inl (fun _ => 0)))]) rfl dX3_init_9 rfl ?_
  refine v_aload_n (pc' := 13) C 0 dX3_init_12 rfl rfl ?_
  refine v_bipush (pc' := 15) C (27) dX3_init_13 bc_27 rfl ?_
  refine v_newl (pc' := 17) C 27 k_X3_init_6 (by decide) (by decide) (Nat.le_of_ble_eq_true rfl) (Nat.le_of_ble_eq_true rfl) (Nat.le_of_ble_eq_true rfl) dX3_init_15 rfl (fun q2 => ?_)
  refine v_world (X' := [(h0, .inr (3, [.ref q1, .null, .int 0])), (q1, .inl (g.2.1, 80, .inl (fun _ => 0))), (q2, .inl (g.2.2.2.1, 27, .inr (.inl (fun _ => 0))))]) (pl' := []) rfl ?_
  refine v_putF (pc' := 20) C (T := TX3) (ty := tyX3 1) 0 1 in_X3_init_3 tyX3 tyX3_ok nmX3 rfl rfl (by decide) k_X3_init_7 rfl rfl hin rfl (tyX3_ok 1 (by decide)) rfl rfl (Nat.le_of_ble_eq_true rfl) (X' := [(h0, .inr (3, [.ref q1, .ref q2, .int 0])), (q1, .inl (g.2.1, 80, .inl (fun _ => 0))), (q2, .inl (g.2.2.2.1, 27, .inr (.inl (fun _ => 0))))]) rfl dX3_init_17 rfl ?_
  exact v_vret (Wf := fun (_ : Unit) (u9 : A2) => wT g (h0, u9) ini_T) (ok := fun _ _ => True) C Cr (out := ()) (o := ()) rfl hQ (q1, q2) trivial rfl dX3_init_20
abbrev rm_X0_init : Room := { frames := 1, cells := 3, slots := 90, locals := 20 }
theorem in_X0_init_0 : ∀ w ∈ wsX00, w ∈ wsX0_init := fun _ h => List.mem_cons_of_mem _ (List.mem_append_right _ h)
theorem k_X0_init_1 : Cond.methodLink RX0 3 objectInit ∈ wsX0_init := List.mem_of_getElem? (i := 1) rfl
theorem k_X0_init_2 : Cond.instanceMethod objectInit ∈ wsX0_init := List.mem_of_getElem? (i := 2) rfl
theorem k_X0_init_3 : Cond.code objectInit ⟨#[0xb1]⟩ 1 none ∈ wsX0_init := List.mem_of_getElem? (i := 3) rfl
theorem k_X0_init_4 : Cond.arrayClass .int ∈ wsX0_init := List.mem_of_getElem? (i := 4) rfl
theorem k_X0_init_5 : Cond.fieldLink RX0 9 "DodgingHangman$Families" "masks" "[I" ∈ wsX0_init := List.mem_of_getElem? (i := 5) rfl
theorem k_X0_init_6 : Cond.fieldLink RX0 15 "DodgingHangman$Families" "members" "[I" ∈ wsX0_init := List.mem_of_getElem? (i := 6) rfl
theorem k_X0_init_7 : Cond.fieldLink RX0 18 "DodgingHangman$Families" "freshLetters" "[I" ∈ wsX0_init := List.mem_of_getElem? (i := 7) rfl
theorem nd_X0_init : yX0_init.cls ≠ "java/lang/invoke/MethodHandle" ∧ yX0_init.cls ≠ "java/lang/invoke/VarHandle" ∧ (parseMethodDescriptor yX0_init.desc).map (fun d => d.parameters.length) = some 0 := by decide +kernel
set_option maxHeartbeats 4000000 in
set_option maxRecDepth 100000 in
theorem c_X0_init (l : Launch) (g : Gv) (h0 : Nat) : Ct l g yX0_init wsX0_init rm_X0_init [.ref h0] [(h0, .inr (0, [.null, .null, .null, .int 0, .int 0]))] (Qv g (fun u9 : A3 => wF g (h0, u9) ini_F) (fun _ => True)) := by
  refine enter (ret := none) (X := [(h0, .inr (0, [.null, .null, .null, .int 0, .int 0]))]) (pl := []) pn_X0 rfl (Nat.le_of_ble_eq_true rfl) ((List.append_nil _).symm) ?_
  intro p e s m args below meth c A Q C Cr hin hQ
  refine v_aload_n (pc' := 1) C 0 dX0_init_0 rfl rfl ?_
  refine v_objInit (pc' := 4) C k_X0_init_1 k_X0_init_2 k_X0_init_3 (Nat.le_of_ble_eq_true rfl) (Nat.le_of_ble_eq_true rfl) dX0_init_1 rfl ?_
  refine v_aload_n (pc' := 5) C 0 dX0_init_4 rfl rfl ?_
  refine v_bipush (pc' := 7) C (30) dX0_init_5 bc_30 rfl ?_
  refine v_newi (pc' := 9) C 30 k_X0_init_4 (by decide) (by decide) (Nat.le_of_ble_eq_true rfl) (Nat.le_of_ble_eq_true rfl) (Nat.le_of_ble_eq_true rfl) dX0_init_7 rfl (fun q1 => ?_)
  refine v_world (X' := [(h0, .inr (0, [.null, .null, .null, .int 0, .int 0])), (q1, .inl (g.2.2.1, 30, .inl (fun _ => 0)))]) (pl' := []) rfl ?_
  refine v_putF (pc' := 12) C (T := TX0) (ty := tyX0 0) 0 0 in_X0_init_0 tyX0 tyX0_ok nmX0 rfl rfl (by decide) k_X0_init_5 rfl rfl hin rfl (tyX0_ok 0 (by decide)) rfl rfl (Nat.le_of_ble_eq_true rfl) (X' := [(h0, .inr (0, [.ref q1, .null, .null, .int 0, .int 0])), (q1, .inl (g.2.2.1, 30, .inl (fun _ => 0)))]) rfl dX0_init_9 rfl ?_
  refine v_aload_n (pc' := 13) C 0 dX0_init_12 rfl rfl ?_
  refine v_bipush (pc' := 15) C (30) dX0_init_13 bc_30 rfl ?_
  refine v_newi (pc' := 17) C 30 k_X0_init_4 (by decide) (by decide) (Nat.le_of_ble_eq_true rfl) (Nat.le_of_ble_eq_true rfl) (Nat.le_of_ble_eq_true rfl) dX0_init_15 rfl (fun q2 => ?_)
  refine v_world (X' := [(h0, .inr (0, [.ref q1, .null, .null, .int 0, .int 0])), (q1, .inl (g.2.2.1, 30, .inl (fun _ => 0))), (q2, .inl (g.2.2.1, 30, .inl (fun _ => 0)))]) (pl' := []) rfl ?_
  refine v_putF (pc' := 20) C (T := TX0) (ty := tyX0 1) 0 1 in_X0_init_0 tyX0 tyX0_ok nmX0 rfl rfl (by decide) k_X0_init_6 rfl rfl hin rfl (tyX0_ok 1 (by decide)) rfl rfl (Nat.le_of_ble_eq_true rfl) (X' := [(h0, .inr (0, [.ref q1, .ref q2, .null, .int 0, .int 0])), (q1, .inl (g.2.2.1, 30, .inl (fun _ => 0))), (q2, .inl (g.2.2.1, 30, .inl (fun _ => 0)))]) rfl dX0_init_17 rfl ?_
  refine v_aload_n (pc' := 21) C 0 dX0_init_20 rfl rfl ?_
  refine v_bipush (pc' := 23) C (30) dX0_init_21 bc_30 rfl ?_
  refine v_newi (pc' := 25) C 30 k_X0_init_4 (by decide) (by decide) (Nat.le_of_ble_eq_true rfl) (Nat.le_of_ble_eq_true rfl) (Nat.le_of_ble_eq_true rfl) dX0_init_23 rfl (fun q3 => ?_)
  refine v_world (X' := [(h0, .inr (0, [.ref q1, .ref q2, .null, .int 0, .int 0])), (q1, .inl (g.2.2.1, 30, .inl (fun _ => 0))), (q2, .inl (g.2.2.1, 30, .inl (fun _ => 0))), (q3, .inl (g.2.2.1, 30, .inl (fun _ => 0)))]) (pl' := []) rfl ?_
  refine v_putF (pc' := 28) C (T := TX0) (ty := tyX0 2) 0 2 in_X0_init_0 tyX0 tyX0_ok nmX0 rfl rfl (by decide) k_X0_init_7 rfl rfl hin rfl (tyX0_ok 2 (by decide)) rfl rfl (Nat.le_of_ble_eq_true rfl) (X' := [(h0, .inr (0, [.ref q1, .ref q2, .ref q3, .int 0, .int 0])), (q1, .inl (g.2.2.1, 30, .inl (fun _ => 0))), (q2, .inl (g.2.2.1, 30, .inl (fun _ => 0))), (q3, .inl (g.2.2.1, 30, .inl (fun _ => 0)))]) rfl dX0_init_25 rfl ?_
  exact v_vret (Wf := fun (_ : Unit) (u9 : A3) => wF g (h0, u9) ini_F) (ok := fun _ _ => True) C Cr (out := ()) (o := ()) rfl hQ (q1, q2, q3) trivial rfl dX0_init_28
abbrev rm_X1_init : Room := { frames := 1, cells := 1, slots := 6, locals := 20 }
theorem in_X1_init_1 : ∀ w ∈ wsX10, w ∈ wsX1_init := fun _ h => List.mem_cons_of_mem _ (List.mem_append_right _ h)
theorem k_X1_init_1 : Cond.methodLink RX1 3 objectInit ∈ wsX1_init := List.mem_of_getElem? (i := 1) rfl
theorem k_X1_init_2 : Cond.instanceMethod objectInit ∈ wsX1_init := List.mem_of_getElem? (i := 2) rfl
theorem k_X1_init_3 : Cond.code objectInit ⟨#[0xb1]⟩ 1 none ∈ wsX1_init := List.mem_of_getElem? (i := 3) rfl
theorem k_X1_init_4 : Cond.classLink RX1 9 RX2 ∈ wsX1_init := List.mem_of_getElem? (i := 4) rfl
theorem k_X1_init_5 : Cond.fieldLink RX1 11 "DodgingHangman$SavedStates" "ring" "[LDodgingHangman$State;" ∈ wsX1_init := List.mem_of_getElem? (i := 5) rfl
theorem nd_X1_init : yX1_init.cls ≠ "java/lang/invoke/MethodHandle" ∧ yX1_init.cls ≠ "java/lang/invoke/VarHandle" ∧ (parseMethodDescriptor yX1_init.desc).map (fun d => d.parameters.length) = some 0 := by decide +kernel
set_option maxHeartbeats 4000000 in
set_option maxRecDepth 100000 in
theorem c_X1_init (l : Launch) (g : Gv) (h0 : Nat) : Ct l g yX1_init wsX1_init rm_X1_init [.ref h0] [(h0, .inr (1, [.null, .int 0, .int 0]))] (Qv g (fun u9 : Nat => wV g (h0, u9) [] ini_V) (fun _ => True)) := by
  refine enter (ret := none) (X := [(h0, .inr (1, [.null, .int 0, .int 0]))]) (pl := []) pn_X1 rfl (Nat.le_of_ble_eq_true rfl) ((List.append_nil _).symm) ?_
  intro p e s m args below meth c A Q C Cr hin hQ
  refine v_aload_n (pc' := 1) C 0 dX1_init_0 rfl rfl ?_
  refine v_objInit (pc' := 4) C k_X1_init_1 k_X1_init_2 k_X1_init_3 (Nat.le_of_ble_eq_true rfl) (Nat.le_of_ble_eq_true rfl) dX1_init_1 rfl ?_
  refine v_aload_n (pc' := 5) C 0 dX1_init_4 rfl rfl ?_
  refine v_bipush (pc' := 7) C (6) dX1_init_5 bc_6 rfl ?_
  refine v_newo (pc' := 10) C 6 k_X1_init_4 (by decide) (by decide) (Nat.le_of_ble_eq_true rfl) (Nat.le_of_ble_eq_true rfl) (Nat.le_of_ble_eq_true rfl) dX1_init_7 rfl (fun q1 => ?_)
  refine v_world (X' := [(h0, .inr (1, [.null, .int 0, .int 0])), (q1, .inl (g.2.2.2.2, 6, .inr (.inr (.inr (.inr (fun _ => none))))))]) (pl' := []) rfl ?_
  refine v_putF (pc' := 13) C (T := TX1) (ty := tyX1 0) 0 0 in_X1_init_1 tyX1 tyX1_ok nmX1 rfl rfl (by decide) k_X1_init_5 rfl rfl hin rfl (tyX1_ok 0 (by decide)) rfl rfl (Nat.le_of_ble_eq_true rfl) (X' := [(h0, .inr (1, [.ref q1, .int 0, .int 0])), (q1, .inl (g.2.2.2.2, 6, .inr (.inr (.inr (.inr (fun _ => none))))))]) rfl dX1_init_10 rfl ?_
  exact v_vret (Wf := fun (_ : Unit) (u9 : Nat) => wV g (h0, u9) [] ini_V) (ok := fun _ _ => True) C Cr (out := ()) (o := ()) rfl hQ q1 trivial rfl dX1_init_13
abbrev rm_X5_init : Room := { frames := 2, cells := 17, slots := 364, locals := 40 }
theorem in_X5_init_0 : ∀ w ∈ wsX00, w ∈ wsX5_init := fun _ h => List.mem_cons_of_mem _ (List.mem_append_right _ h)
theorem in_X5_init_1 : ∀ w ∈ wsX10, w ∈ wsX5_init := fun _ h => List.mem_cons_of_mem _ (List.mem_append_left _ (List.mem_append_right _ h))
theorem in_X5_init_2 : ∀ w ∈ wsX20, w ∈ wsX5_init := fun _ h => List.mem_cons_of_mem _ (List.mem_append_left _ (List.mem_append_left _ (List.mem_append_right _ h)))
theorem in_X5_init_3 : ∀ w ∈ wsX30, w ∈ wsX5_init := fun _ h => List.mem_cons_of_mem _ (List.mem_append_left _ (List.mem_append_left _ (List.mem_append_left _ (List.mem_append_left _ (List.mem_append_right _ h)))))
theorem in_X5_init_5 : ∀ w ∈ wsX50, w ∈ wsX5_init := fun _ h => List.mem_cons_of_mem _ (List.mem_append_left _ (List.mem_append_left _ (List.mem_append_left _ (List.mem_append_right _ h))))
theorem k_X5_init_1 : Cond.methodLink RX5 1 objectInit ∈ wsX5_init := List.mem_of_getElem? (i := 1) rfl
theorem k_X5_init_2 : Cond.instanceMethod objectInit ∈ wsX5_init := List.mem_of_getElem? (i := 2) rfl
theorem k_X5_init_3 : Cond.code objectInit ⟨#[0xb1]⟩ 1 none ∈ wsX5_init := List.mem_of_getElem? (i := 3) rfl
theorem k_X5_init_4 : Cond.classLink RX5 7 RX3 ∈ wsX5_init := List.mem_of_getElem? (i := 4) rfl
theorem k_X5_init_5 : Cond.instantiable RX3 3 ∈ wsX5_init := List.mem_of_getElem? (i := 5) rfl
theorem k_X5_init_6 : Cond.initialized RX3 ∈ wsX5_init := List.mem_of_getElem? (i := 6) rfl
theorem k_X5_init_21 : Cond.instanceMethod yX3_init ∈ wsX5_init := List.mem_of_getElem? (i := 21) rfl
theorem k_X5_init_7 : Cond.fieldLink RX5 10 "DodgingHangman" "text" "LDodgingHangman$Text;" ∈ wsX5_init := List.mem_of_getElem? (i := 7) rfl
theorem k_X5_init_8 : Cond.classLink RX5 16 RX2 ∈ wsX5_init := List.mem_of_getElem? (i := 8) rfl
theorem k_X5_init_9 : Cond.instantiable RX2 12 ∈ wsX5_init := List.mem_of_getElem? (i := 9) rfl
theorem k_X5_init_10 : Cond.initialized RX2 ∈ wsX5_init := List.mem_of_getElem? (i := 10) rfl
theorem k_X5_init_28 : Cond.instanceMethod yX2_init ∈ wsX5_init := List.mem_of_getElem? (i := 28) rfl
theorem k_X5_init_11 : Cond.fieldLink RX5 19 "DodgingHangman" "now" "LDodgingHangman$State;" ∈ wsX5_init := List.mem_of_getElem? (i := 11) rfl
theorem k_X5_init_12 : Cond.classLink RX5 23 RX1 ∈ wsX5_init := List.mem_of_getElem? (i := 12) rfl
theorem k_X5_init_13 : Cond.instantiable RX1 3 ∈ wsX5_init := List.mem_of_getElem? (i := 13) rfl
theorem k_X5_init_14 : Cond.initialized RX1 ∈ wsX5_init := List.mem_of_getElem? (i := 14) rfl
theorem k_X5_init_35 : Cond.instanceMethod yX1_init ∈ wsX5_init := List.mem_of_getElem? (i := 35) rfl
theorem k_X5_init_15 : Cond.fieldLink RX5 26 "DodgingHangman" "saved" "LDodgingHangman$SavedStates;" ∈ wsX5_init := List.mem_of_getElem? (i := 15) rfl
theorem k_X5_init_16 : Cond.fieldLink RX5 30 "DodgingHangman" "draft" "LDodgingHangman$State;" ∈ wsX5_init := List.mem_of_getElem? (i := 16) rfl
theorem k_X5_init_17 : Cond.classLink RX5 33 RX0 ∈ wsX5_init := List.mem_of_getElem? (i := 17) rfl
theorem k_X5_init_18 : Cond.instantiable RX0 5 ∈ wsX5_init := List.mem_of_getElem? (i := 18) rfl
theorem k_X5_init_19 : Cond.initialized RX0 ∈ wsX5_init := List.mem_of_getElem? (i := 19) rfl
theorem k_X5_init_40 : Cond.instanceMethod yX0_init ∈ wsX5_init := List.mem_of_getElem? (i := 40) rfl
theorem k_X5_init_20 : Cond.fieldLink RX5 36 "DodgingHangman" "split" "LDodgingHangman$Families;" ∈ wsX5_init := List.mem_of_getElem? (i := 20) rfl
theorem nd_X5_init : yX5_init.cls ≠ "java/lang/invoke/MethodHandle" ∧ yX5_init.cls ≠ "java/lang/invoke/VarHandle" ∧ (parseMethodDescriptor yX5_init.desc).map (fun d => d.parameters.length) = some 0 := by decide +kernel
set_option maxHeartbeats 4000000 in
set_option maxRecDepth 100000 in
theorem c_X5_init (l : Launch) (g : Gv) (h0 : Nat) : Ct l g yX5_init wsX5_init rm_X5_init [.ref h0] [(h0, .inr (4, [.null, .null, .null, .null, .null]))] (Qv g (fun u9 : A3 × RA × A2 × RA × RA => wQ h0 u9.1 u9.2.1 u9.2.2.1 u9.2.2.2.1 u9.2.2.2.2 ++ wT g u9.1 ini_T ++ wS g u9.2.1 ini_S ++ wV g u9.2.2.1 [] ini_V ++ wS g u9.2.2.2.1 ini_S ++ wF g u9.2.2.2.2 ini_F) (fun _ => True)) := by
  refine enter (ret := none) (X := [(h0, .inr (4, [.null, .null, .null, .null, .null]))]) (pl := []) pn_X5 rfl (Nat.le_of_ble_eq_true rfl) ((List.append_nil _).symm) ?_
  intro p e s m args below meth c A Q C Cr hin hQ
  refine v_aload_n (pc' := 1) C 0 dX5_init_0 rfl rfl ?_
  refine v_objInit (pc' := 4) C k_X5_init_1 k_X5_init_2 k_X5_init_3 (Nat.le_of_ble_eq_true rfl) (Nat.le_of_ble_eq_true rfl) dX5_init_1 rfl ?_
  refine v_aload_n (pc' := 5) C 0 dX5_init_4 rfl rfl ?_
  refine v_new (pc' := 8) C (T := TX3) (ci := 3) [.null, .null, .int 0] in_X5_init_3 tyX3 tyX3_ok k_X5_init_4 k_X5_init_5 k_X5_init_6 rfl (fun j hj => match j, hj with | 0, _ => rfl | 1, _ => rfl | 2, _ => rfl | j + 3, hj => absurd hj (by omega)) (Nat.le_of_ble_eq_true rfl) (Nat.le_of_ble_eq_true rfl) dX5_init_5 rfl (fun q1 => ?_)
  refine v_world (X' := [(h0, .inr (4, [.null, .null, .null, .null, .null])), (q1, .inr (3, [.null, .null, .int 0]))]) (pl' := []) rfl ?_
  refine v_dup (pc' := 9) C dX5_init_8 rfl rfl ?_
  refine v_callv (pc' := 12) C (x := some ()) (kx := fun _ => some ()) (o := ()) rfl ([(h0, .inr (4, [.null, .null, .null, .null, .null]))]) (fun _ (uu : A2) => [(h0, .inr (4, [.null, .null, .null, .null, .null])), (q1, .inr (3, [.ref uu.1, .ref uu.2, .int 0])), (uu.1, .inl (g.2.1, 80, .inl (fun _ => 0))), (uu.2, .inl (g.2.2.2.1, 27, .inr (.inl (fun _ => 0))))]) (fun r hr => run_IN C (c_X3_init l g q1) gX5_init_X3_init_n9 rfl nd_X3_init (List.mem_of_getElem? (i := 0) rfl) k_X5_init_6 k_X5_init_21 rfl ⟨Nat.le_of_ble_eq_true rfl, Nat.le_of_ble_eq_true rfl⟩ ⟨Nat.le_of_ble_eq_true rfl, Nat.le_of_ble_eq_true rfl⟩ (Nat.le_of_ble_eq_true rfl) dX5_init_9 rfl) [1] [0] [0, 1, 2, 3] rfl rfl rfl rfl (by decide) rfl (fun _ _ => rfl) (k' := 3) (n' := 110) rfl rfl rfl (fun _ u9 _ _ => ?_)
  refine v_putF (pc' := 15) C (T := TX5) (ty := tyX5 0) 0 0 in_X5_init_5 tyX5 tyX5_ok nmX5 rfl rfl (by decide) k_X5_init_7 rfl rfl hin rfl (tyX5_ok 0 (by decide)) rfl rfl (Nat.le_of_ble_eq_true rfl) (X' := [(h0, .inr (4, [.ref q1, .null, .null, .null, .null])), (q1, .inr (3, [.ref u9.1, .ref u9.2, .int 0])), (u9.1, .inl (g.2.1, 80, .inl (fun _ => 0))), (u9.2, .inl (g.2.2.2.1, 27, .inr (.inl (fun _ => 0))))]) rfl dX5_init_12 rfl ?_
  refine v_aload_n (pc' := 16) C 0 dX5_init_15 rfl rfl ?_
  refine v_new (pc' := 19) C (T := TX2) (ci := 2) [.null, .null, .null, .int 0, .int 0, .int 0, .int 0, .int 0, .int 0, .int 0, .int 0, .long 0] in_X5_init_2 tyX2 tyX2_ok k_X5_init_8 k_X5_init_9 k_X5_init_10 rfl (fun j hj => match j, hj with | 0, _ => rfl | 1, _ => rfl | 2, _ => rfl | 3, _ => rfl | 4, _ => rfl | 5, _ => rfl | 6, _ => rfl | 7, _ => rfl | 8, _ => rfl | 9, _ => rfl | 10, _ => rfl | 11, _ => rfl | j + 12, hj => absurd hj (by omega)) (Nat.le_of_ble_eq_true rfl) (Nat.le_of_ble_eq_true rfl) dX5_init_16 rfl (fun q2 => ?_)
  refine v_world (X' := [(h0, .inr (4, [.ref q1, .null, .null, .null, .null])), (q1, .inr (3, [.ref u9.1, .ref u9.2, .int 0])), (u9.1, .inl (g.2.1, 80, .inl (fun _ => 0))), (u9.2, .inl (g.2.2.2.1, 27, .inr (.inl (fun _ => 0)))), (q2, .inr (2, [.null, .null, .null, .int 0, .int 0, .int 0, .int 0, .int 0, .int 0, .int 0, .int 0, .long 0]))]) (pl' := []) rfl ?_
  refine v_dup (pc' := 20) C dX5_init_19 rfl rfl ?_
  refine v_callv (pc' := 23) C (x := some ()) (kx := fun _ => some ()) (o := ()) rfl ([(h0, .inr (4, [.ref q1, .null, .null, .null, .null])), (q1, .inr (3, [.ref u9.1, .ref u9.2, .int 0])), (u9.1, .inl (g.2.1, 80, .inl (fun _ => 0))), (u9.2, .inl (g.2.2.2.1, 27, .inr (.inl (fun _ => 0))))]) (fun _ (uu : A3) => [(h0, .inr (4, [.ref q1, .null, .null, .null, .null])), (q1, .inr (3, [.ref u9.1, .ref u9.2, .int 0])), (u9.1, .inl (g.2.1, 80, .inl (fun _ => 0))), (u9.2, .inl (g.2.2.2.1, 27, .inr (.inl (fun _ => 0)))), (q2, .inr (2, [.ref uu.1, .ref uu.2.1, .ref uu.2.2, .int 0, .int 0, .int 0, .int 0, .int 0, .int 0, .int 0, .int 0, .long 0])), (uu.1, .inl (g.2.2.2.1, 30, .inr (.inl (fun _ => 0)))), (uu.2.1, .inl (g.2.2.1, 26, .inl (fun _ => 0))), (uu.2.2, .inl (g.2.2.1, 7, .inl (fun _ => 0)))]) (fun r hr => run_IN C (c_X2_init l g q2) gX5_init_X2_init_n18 rfl nd_X2_init (List.mem_of_getElem? (i := 1) rfl) k_X5_init_10 k_X5_init_28 rfl ⟨Nat.le_of_ble_eq_true rfl, Nat.le_of_ble_eq_true rfl⟩ ⟨Nat.le_of_ble_eq_true rfl, Nat.le_of_ble_eq_true rfl⟩ (Nat.le_of_ble_eq_true rfl) dX5_init_20 rfl) [4] [0, 1, 2, 3] [0, 1, 2, 3, 4, 5, 6, 7] rfl rfl rfl rfl (by decide) rfl (fun _ _ => rfl) (k' := 7) (n' := 185) rfl rfl rfl (fun _ u20 _ _ => ?_)
  refine v_putF (pc' := 26) C (T := TX5) (ty := tyX5 1) 0 1 in_X5_init_5 tyX5 tyX5_ok nmX5 rfl rfl (by decide) k_X5_init_11 rfl rfl hin rfl (tyX5_ok 1 (by decide)) rfl rfl (Nat.le_of_ble_eq_true rfl) (X' := [(h0, .inr (4, [.ref q1, .ref q2, .null, .null, .null])), (q1, .inr (3, [.ref u9.1, .ref u9.2, .int 0])), (u9.1, .inl (g.2.1, 80, .inl (fun _ => 0))), (u9.2, .inl (g.2.2.2.1, 27, .inr (.inl (fun _ => 0)))), (q2, .inr (2, [.ref u20.1, .ref u20.2.1, .ref u20.2.2, .int 0, .int 0, .int 0, .int 0, .int 0, .int 0, .int 0, .int 0, .long 0])), (u20.1, .inl (g.2.2.2.1, 30, .inr (.inl (fun _ => 0)))), (u20.2.1, .inl (g.2.2.1, 26, .inl (fun _ => 0))), (u20.2.2, .inl (g.2.2.1, 7, .inl (fun _ => 0)))]) rfl dX5_init_23 rfl ?_
  refine v_aload_n (pc' := 27) C 0 dX5_init_26 rfl rfl ?_
  refine v_new (pc' := 30) C (T := TX1) (ci := 1) [.null, .int 0, .int 0] in_X5_init_1 tyX1 tyX1_ok k_X5_init_12 k_X5_init_13 k_X5_init_14 rfl (fun j hj => match j, hj with | 0, _ => rfl | 1, _ => rfl | 2, _ => rfl | j + 3, hj => absurd hj (by omega)) (Nat.le_of_ble_eq_true rfl) (Nat.le_of_ble_eq_true rfl) dX5_init_27 rfl (fun q3 => ?_)
  refine v_world (X' := [(h0, .inr (4, [.ref q1, .ref q2, .null, .null, .null])), (q1, .inr (3, [.ref u9.1, .ref u9.2, .int 0])), (u9.1, .inl (g.2.1, 80, .inl (fun _ => 0))), (u9.2, .inl (g.2.2.2.1, 27, .inr (.inl (fun _ => 0)))), (q2, .inr (2, [.ref u20.1, .ref u20.2.1, .ref u20.2.2, .int 0, .int 0, .int 0, .int 0, .int 0, .int 0, .int 0, .int 0, .long 0])), (u20.1, .inl (g.2.2.2.1, 30, .inr (.inl (fun _ => 0)))), (u20.2.1, .inl (g.2.2.1, 26, .inl (fun _ => 0))), (u20.2.2, .inl (g.2.2.1, 7, .inl (fun _ => 0))), (q3, .inr (1, [.null, .int 0, .int 0]))]) (pl' := []) rfl ?_
  refine v_dup (pc' := 31) C dX5_init_30 rfl rfl ?_
  refine v_callv (pc' := 34) C (x := some ()) (kx := fun _ => some ()) (o := ()) rfl ([(h0, .inr (4, [.ref q1, .ref q2, .null, .null, .null])), (q1, .inr (3, [.ref u9.1, .ref u9.2, .int 0])), (u9.1, .inl (g.2.1, 80, .inl (fun _ => 0))), (u9.2, .inl (g.2.2.2.1, 27, .inr (.inl (fun _ => 0)))), (q2, .inr (2, [.ref u20.1, .ref u20.2.1, .ref u20.2.2, .int 0, .int 0, .int 0, .int 0, .int 0, .int 0, .int 0, .int 0, .long 0])), (u20.1, .inl (g.2.2.2.1, 30, .inr (.inl (fun _ => 0)))), (u20.2.1, .inl (g.2.2.1, 26, .inl (fun _ => 0))), (u20.2.2, .inl (g.2.2.1, 7, .inl (fun _ => 0)))]) (fun _ (uu : Nat) => [(h0, .inr (4, [.ref q1, .ref q2, .null, .null, .null])), (q1, .inr (3, [.ref u9.1, .ref u9.2, .int 0])), (u9.1, .inl (g.2.1, 80, .inl (fun _ => 0))), (u9.2, .inl (g.2.2.2.1, 27, .inr (.inl (fun _ => 0)))), (q2, .inr (2, [.ref u20.1, .ref u20.2.1, .ref u20.2.2, .int 0, .int 0, .int 0, .int 0, .int 0, .int 0, .int 0, .int 0, .long 0])), (u20.1, .inl (g.2.2.2.1, 30, .inr (.inl (fun _ => 0)))), (u20.2.1, .inl (g.2.2.1, 26, .inl (fun _ => 0))), (u20.2.2, .inl (g.2.2.1, 7, .inl (fun _ => 0))), (q3, .inr (1, [.ref uu, .int 0, .int 0])), (uu, .inl (g.2.2.2.2, 6, .inr (.inr (.inr (.inr (fun _ => none))))))]) (fun r hr => run_IN C (c_X1_init l g q3) gX5_init_X1_init_n25 rfl nd_X1_init (List.mem_of_getElem? (i := 2) rfl) k_X5_init_14 k_X5_init_35 rfl ⟨Nat.le_of_ble_eq_true rfl, Nat.le_of_ble_eq_true rfl⟩ ⟨Nat.le_of_ble_eq_true rfl, Nat.le_of_ble_eq_true rfl⟩ (Nat.le_of_ble_eq_true rfl) dX5_init_31 rfl) [8] [0, 1, 2, 3, 4, 5, 6, 7] [0, 1, 2, 3, 4, 5, 6, 7, 8, 9] rfl rfl rfl rfl (by decide) rfl (fun _ _ => rfl) (k' := 9) (n' := 194) rfl rfl rfl (fun _ u31 _ _ => ?_)
  refine v_putF (pc' := 37) C (T := TX5) (ty := tyX5 2) 0 2 in_X5_init_5 tyX5 tyX5_ok nmX5 rfl rfl (by decide) k_X5_init_15 rfl rfl hin rfl (tyX5_ok 2 (by decide)) rfl rfl (Nat.le_of_ble_eq_true rfl) (X' := [(h0, .inr (4, [.ref q1, .ref q2, .ref q3, .null, .null])), (q1, .inr (3, [.ref u9.1, .ref u9.2, .int 0])), (u9.1, .inl (g.2.1, 80, .inl (fun _ => 0))), (u9.2, .inl (g.2.2.2.1, 27, .inr (.inl (fun _ => 0)))), (q2, .inr (2, [.ref u20.1, .ref u20.2.1, .ref u20.2.2, .int 0, .int 0, .int 0, .int 0, .int 0, .int 0, .int 0, .int 0, .long 0])), (u20.1, .inl (g.2.2.2.1, 30, .inr (.inl (fun _ => 0)))), (u20.2.1, .inl (g.2.2.1, 26, .inl (fun _ => 0))), (u20.2.2, .inl (g.2.2.1, 7, .inl (fun _ => 0))), (q3, .inr (1, [.ref u31, .int 0, .int 0])), (u31, .inl (g.2.2.2.2, 6, .inr (.inr (.inr (.inr (fun _ => none))))))]) rfl dX5_init_34 rfl ?_
  refine v_aload_n (pc' := 38) C 0 dX5_init_37 rfl rfl ?_
  refine v_new (pc' := 41) C (T := TX2) (ci := 2) [.null, .null, .null, .int 0, .int 0, .int 0, .int 0, .int 0, .int 0, .int 0, .int 0, .long 0] in_X5_init_2 tyX2 tyX2_ok k_X5_init_8 k_X5_init_9 k_X5_init_10 rfl (fun j hj => match j, hj with | 0, _ => rfl | 1, _ => rfl | 2, _ => rfl | 3, _ => rfl | 4, _ => rfl | 5, _ => rfl | 6, _ => rfl | 7, _ => rfl | 8, _ => rfl | 9, _ => rfl | 10, _ => rfl | 11, _ => rfl | j + 12, hj => absurd hj (by omega)) (Nat.le_of_ble_eq_true rfl) (Nat.le_of_ble_eq_true rfl) dX5_init_38 rfl (fun q4 => ?_)
  refine v_world (X' := [(h0, .inr (4, [.ref q1, .ref q2, .ref q3, .null, .null])), (q1, .inr (3, [.ref u9.1, .ref u9.2, .int 0])), (u9.1, .inl (g.2.1, 80, .inl (fun _ => 0))), (u9.2, .inl (g.2.2.2.1, 27, .inr (.inl (fun _ => 0)))), (q2, .inr (2, [.ref u20.1, .ref u20.2.1, .ref u20.2.2, .int 0, .int 0, .int 0, .int 0, .int 0, .int 0, .int 0, .int 0, .long 0])), (u20.1, .inl (g.2.2.2.1, 30, .inr (.inl (fun _ => 0)))), (u20.2.1, .inl (g.2.2.1, 26, .inl (fun _ => 0))), (u20.2.2, .inl (g.2.2.1, 7, .inl (fun _ => 0))), (q3, .inr (1, [.ref u31, .int 0, .int 0])), (u31, .inl (g.2.2.2.2, 6, .inr (.inr (.inr (.inr (fun _ => none)))))), (q4, .inr (2, [.null, .null, .null, .int 0, .int 0, .int 0, .int 0, .int 0, .int 0, .int 0, .int 0, .long 0]))]) (pl' := []) rfl ?_
  refine v_dup (pc' := 42) C dX5_init_41 rfl rfl ?_
  refine v_callv (pc' := 45) C (x := some ()) (kx := fun _ => some ()) (o := ()) rfl ([(h0, .inr (4, [.ref q1, .ref q2, .ref q3, .null, .null])), (q1, .inr (3, [.ref u9.1, .ref u9.2, .int 0])), (u9.1, .inl (g.2.1, 80, .inl (fun _ => 0))), (u9.2, .inl (g.2.2.2.1, 27, .inr (.inl (fun _ => 0)))), (q2, .inr (2, [.ref u20.1, .ref u20.2.1, .ref u20.2.2, .int 0, .int 0, .int 0, .int 0, .int 0, .int 0, .int 0, .int 0, .long 0])), (u20.1, .inl (g.2.2.2.1, 30, .inr (.inl (fun _ => 0)))), (u20.2.1, .inl (g.2.2.1, 26, .inl (fun _ => 0))), (u20.2.2, .inl (g.2.2.1, 7, .inl (fun _ => 0))), (q3, .inr (1, [.ref u31, .int 0, .int 0])), (u31, .inl (g.2.2.2.2, 6, .inr (.inr (.inr (.inr (fun _ => none))))))]) (fun _ (uu : A3) => [(h0, .inr (4, [.ref q1, .ref q2, .ref q3, .null, .null])), (q1, .inr (3, [.ref u9.1, .ref u9.2, .int 0])), (u9.1, .inl (g.2.1, 80, .inl (fun _ => 0))), (u9.2, .inl (g.2.2.2.1, 27, .inr (.inl (fun _ => 0)))), (q2, .inr (2, [.ref u20.1, .ref u20.2.1, .ref u20.2.2, .int 0, .int 0, .int 0, .int 0, .int 0, .int 0, .int 0, .int 0, .long 0])), (u20.1, .inl (g.2.2.2.1, 30, .inr (.inl (fun _ => 0)))), (u20.2.1, .inl (g.2.2.1, 26, .inl (fun _ => 0))), (u20.2.2, .inl (g.2.2.1, 7, .inl (fun _ => 0))), (q3, .inr (1, [.ref u31, .int 0, .int 0])), (u31, .inl (g.2.2.2.2, 6, .inr (.inr (.inr (.inr (fun _ => none)))))), (q4, .inr (2, [.ref uu.1, .ref uu.2.1, .ref uu.2.2, .int 0, .int 0, .int 0, .int 0, .int 0, .int 0, .int 0, .int 0, .long 0])), (uu.1, .inl (g.2.2.2.1, 30, .inr (.inl (fun _ => 0)))), (uu.2.1, .inl (g.2.2.1, 26, .inl (fun _ => 0))), (uu.2.2, .inl (g.2.2.1, 7, .inl (fun _ => 0)))]) (fun r hr => run_IN C (c_X2_init l g q4) gX5_init_X2_init_n18 rfl nd_X2_init (List.mem_of_getElem? (i := 1) rfl) k_X5_init_10 k_X5_init_28 rfl ⟨Nat.le_of_ble_eq_true rfl, Nat.le_of_ble_eq_true rfl⟩ ⟨Nat.le_of_ble_eq_true rfl, Nat.le_of_ble_eq_true rfl⟩ (Nat.le_of_ble_eq_true rfl) dX5_init_42 rfl) [10] [0, 1, 2, 3, 4, 5, 6, 7, 8, 9] [0, 1, 2, 3, 4, 5, 6, 7, 8, 9, 10, 11, 12, 13] rfl rfl rfl rfl (by decide) rfl (fun _ _ => rfl) (k' := 13) (n' := 269) rfl rfl rfl (fun _ u42 _ _ => ?_)
  refine v_putF (pc' := 48) C (T := TX5) (ty := tyX5 3) 0 3 in_X5_init_5 tyX5 tyX5_ok nmX5 rfl rfl (by decide) k_X5_init_16 rfl rfl hin rfl (tyX5_ok 3 (by decide)) rfl rfl (Nat.le_of_ble_eq_true rfl) (X' := [(h0, .inr (4, [.ref q1, .ref q2, .ref q3, .ref q4, .null])), (q1, .inr (3, [.ref u9.1, .ref u9.2, .int 0])), (u9.1, .inl (g.2.1, 80, .inl (fun _ => 0))), (u9.2, .inl (g.2.2.2.1, 27, .inr (.inl (fun _ => 0)))), (q2, .inr (2, [.ref u20.1, .ref u20.2.1, .ref u20.2.2, .int 0, .int 0, .int 0, .int 0, .int 0, .int 0, .int 0, .int 0, .long 0])), (u20.1, .inl (g.2.2.2.1, 30, .inr (.inl (fun _ => 0)))), (u20.2.1, .inl (g.2.2.1, 26, .inl (fun _ => 0))), (u20.2.2, .inl (g.2.2.1, 7, .inl (fun _ => 0))), (q3, .inr (1, [.ref u31, .int 0, .int 0])), (u31, .inl (g.2.2.2.2, 6, .inr (.inr (.inr (.inr (fun _ => none)))))), (q4, .inr (2, [.ref u42.1, .ref u42.2.1, .ref u42.2.2, .int 0, .int 0, .int 0, .int 0, .int 0, .int 0, .int 0, .int 0, .long 0])), (u42.1, .inl (g.2.2.2.1, 30, .inr (.inl (fun _ => 0)))), (u42.2.1, .inl (g.2.2.1, 26, .inl (fun _ => 0))), (u42.2.2, .inl (g.2.2.1, 7, .inl (fun _ => 0)))]) rfl dX5_init_45 rfl ?_
  refine v_aload_n (pc' := 49) C 0 dX5_init_48 rfl rfl ?_
  refine v_new (pc' := 52) C (T := TX0) (ci := 0) [.null, .null, .null, .int 0, .int 0] in_X5_init_0 tyX0 tyX0_ok k_X5_init_17 k_X5_init_18 k_X5_init_19 rfl (fun j hj => match j, hj with | 0, _ => rfl | 1, _ => rfl | 2, _ => rfl | 3, _ => rfl | 4, _ => rfl | j + 5, hj => absurd hj (by omega)) (Nat.le_of_ble_eq_true rfl) (Nat.le_of_ble_eq_true rfl) dX5_init_49 rfl (fun q5 => ?_)
  refine v_world (X' := [(h0, .inr (4, [.ref q1, .ref q2, .ref q3, .ref q4, .null])), (q1, .inr (3, [.ref u9.1, .ref u9.2, .int 0])), (u9.1, .inl (g.2.1, 80, .inl (fun _ => 0))), (u9.2, .inl (g.2.2.2.1, 27, .inr (.inl (fun _ => 0)))), (q2, .inr (2, [.ref u20.1, .ref u20.2.1, .ref u20.2.2, .int 0, .int 0, .int 0, .int 0, .int 0, .int 0, .int 0, .int 0, .long 0])), (u20.1, .inl (g.2.2.2.1, 30, .inr (.inl (fun _ => 0)))), (u20.2.1, .inl (g.2.2.1, 26, .inl (fun _ => 0))), (u20.2.2, .inl (g.2.2.1, 7, .inl (fun _ => 0))), (q3, .inr (1, [.ref u31, .int 0, .int 0])), (u31, .inl (g.2.2.2.2, 6, .inr (.inr (.inr (.inr (fun _ => none)))))), (q4, .inr (2, [.ref u42.1, .ref u42.2.1, .ref u42.2.2, .int 0, .int 0, .int 0, .int 0, .int 0, .int 0, .int 0, .int 0, .long 0])), (u42.1, .inl (g.2.2.2.1, 30, .inr (.inl (fun _ => 0)))), (u42.2.1, .inl (g.2.2.1, 26, .inl (fun _ => 0))), (u42.2.2, .inl (g.2.2.1, 7, .inl (fun _ => 0))), (q5, .inr (0, [.null, .null, .null, .int 0, .int 0]))]) (pl' := []) rfl ?_
  refine v_dup (pc' := 53) C dX5_init_52 rfl rfl ?_
  refine v_callv (pc' := 56) C (x := some ()) (kx := fun _ => some ()) (o := ()) rfl ([(h0, .inr (4, [.ref q1, .ref q2, .ref q3, .ref q4, .null])), (q1, .inr (3, [.ref u9.1, .ref u9.2, .int 0])), (u9.1, .inl (g.2.1, 80, .inl (fun _ => 0))), (u9.2, .inl (g.2.2.2.1, 27, .inr (.inl (fun _ => 0)))), (q2, .inr (2, [.ref u20.1, .ref u20.2.1, .ref u20.2.2, .int 0, .int 0, .int 0, .int 0, .int 0, .int 0, .int 0, .int 0, .long 0])), (u20.1, .inl (g.2.2.2.1, 30, .inr (.inl (fun _ => 0)))), (u20.2.1, .inl (g.2.2.1, 26, .inl (fun _ => 0))), (u20.2.2, .inl (g.2.2.1, 7, .inl (fun _ => 0))), (q3, .inr (1, [.ref u31, .int 0, .int 0])), (u31, .inl (g.2.2.2.2, 6, .inr (.inr (.inr (.inr (fun _ => none)))))), (q4, .inr (2, [.ref u42.1, .ref u42.2.1, .ref u42.2.2, .int 0, .int 0, .int 0, .int 0, .int 0, .int 0, .int 0, .int 0, .long 0])), (u42.1, .inl (g.2.2.2.1, 30, .inr (.inl (fun _ => 0)))), (u42.2.1, .inl (g.2.2.1, 26, .inl (fun _ => 0))), (u42.2.2, .inl (g.2.2.1, 7, .inl (fun _ => 0)))]) (fun _ (uu : A3) => [(h0, .inr (4, [.ref q1, .ref q2, .ref q3, .ref q4, .null])), (q1, .inr (3, [.ref u9.1, .ref u9.2, .int 0])), (u9.1, .inl (g.2.1, 80, .inl (fun _ => 0))), (u9.2, .inl (g.2.2.2.1, 27, .inr (.inl (fun _ => 0)))), (q2, .inr (2, [.ref u20.1, .ref u20.2.1, .ref u20.2.2, .int 0, .int 0, .int 0, .int 0, .int 0, .int 0, .int 0, .int 0, .long 0])), (u20.1, .inl (g.2.2.2.1, 30, .inr (.inl (fun _ => 0)))), (u20.2.1, .inl (g.2.2.1, 26, .inl (fun _ => 0))), (u20.2.2, .inl (g.2.2.1, 7, .inl (fun _ => 0))), (q3, .inr (1, [.ref u31, .int 0, .int 0])), (u31, .inl (g.2.2.2.2, 6, .inr (.inr (.inr (.inr (fun _ => none)))))), (q4, .inr (2, [.ref u42.1, .ref u42.2.1, .ref u42.2.2, .int 0, .int 0, .int 0, .int 0, .int 0, .int 0, .int 0, .int 0, .long 0])), (u42.1, .inl (g.2.2.2.1, 30, .inr (.inl (fun _ => 0)))), (u42.2.1, .inl (g.2.2.1, 26, .inl (fun _ => 0))), (u42.2.2, .inl (g.2.2.1, 7, .inl (fun _ => 0))), (q5, .inr (0, [.ref uu.1, .ref uu.2.1, .ref uu.2.2, .int 0, .int 0])), (uu.1, .inl (g.2.2.1, 30, .inl (fun _ => 0))), (uu.2.1, .inl (g.2.2.1, 30, .inl (fun _ => 0))), (uu.2.2, .inl (g.2.2.1, 30, .inl (fun _ => 0)))]) (fun r hr => run_IN C (c_X0_init l g q5) gX5_init_X0_init_n35 rfl nd_X0_init (List.mem_of_getElem? (i := 3) rfl) k_X5_init_19 k_X5_init_40 rfl ⟨Nat.le_of_ble_eq_true rfl, Nat.le_of_ble_eq_true rfl⟩ ⟨Nat.le_of_ble_eq_true rfl, Nat.le_of_ble_eq_true rfl⟩ (Nat.le_of_ble_eq_true rfl) dX5_init_53 rfl) [14] [0, 1, 2, 3, 4, 5, 6, 7, 8, 9, 10, 11, 12, 13] [0, 1, 2, 3, 4, 5, 6, 7, 8, 9, 10, 11, 12, 13, 14, 15, 16, 17] rfl rfl rfl rfl (by decide) rfl (fun _ _ => rfl) (k' := 17) (n' := 364) rfl rfl rfl (fun _ u53 _ _ => ?_)
  refine v_putF (pc' := 59) C (T := TX5) (ty := tyX5 4) 0 4 in_X5_init_5 tyX5 tyX5_ok nmX5 rfl rfl (by decide) k_X5_init_20 rfl rfl hin rfl (tyX5_ok 4 (by decide)) rfl rfl (Nat.le_of_ble_eq_true rfl) (X' := [(h0, .inr (4, [.ref q1, .ref q2, .ref q3, .ref q4, .ref q5])), (q1, .inr (3, [.ref u9.1, .ref u9.2, .int 0])), (u9.1, .inl (g.2.1, 80, .inl (fun _ => 0))), (u9.2, .inl (g.2.2.2.1, 27, .inr (.inl (fun _ => 0)))), (q2, .inr (2, [.ref u20.1, .ref u20.2.1, .ref u20.2.2, .int 0, .int 0, .int 0, .int 0, .int 0, .int 0, .int 0, .int 0, .long 0])), (u20.1, .inl (g.2.2.2.1, 30, .inr (.inl (fun _ => 0)))), (u20.2.1, .inl (g.2.2.1, 26, .inl (fun _ => 0))), (u20.2.2, .inl (g.2.2.1, 7, .inl (fun _ => 0))), (q3, .inr (1, [.ref u31, .int 0, .int 0])), (u31, .inl (g.2.2.2.2, 6, .inr (.inr (.inr (.inr (fun _ => none)))))), (q4, .inr (2, [.ref u42.1, .ref u42.2.1, .ref u42.2.2, .int 0, .int 0, .int 0, .int 0, .int 0, .int 0, .int 0, .int 0, .long 0])), (u42.1, .inl (g.2.2.2.1, 30, .inr (.inl (fun _ => 0)))), (u42.2.1, .inl (g.2.2.1, 26, .inl (fun _ => 0))), (u42.2.2, .inl (g.2.2.1, 7, .inl (fun _ => 0))), (q5, .inr (0, [.ref u53.1, .ref u53.2.1, .ref u53.2.2, .int 0, .int 0])), (u53.1, .inl (g.2.2.1, 30, .inl (fun _ => 0))), (u53.2.1, .inl (g.2.2.1, 30, .inl (fun _ => 0))), (u53.2.2, .inl (g.2.2.1, 30, .inl (fun _ => 0)))]) rfl dX5_init_56 rfl ?_
  exact v_vret (Wf := fun (_ : Unit) (u9 : A3 × RA × A2 × RA × RA) => wQ h0 u9.1 u9.2.1 u9.2.2.1 u9.2.2.2.1 u9.2.2.2.2 ++ wT g u9.1 ini_T ++ wS g u9.2.1 ini_S ++ wV g u9.2.2.1 [] ini_V ++ wS g u9.2.2.2.1 ini_S ++ wF g u9.2.2.2.2 ini_F) (ok := fun _ _ => True) C Cr (out := ()) (o := ()) rfl hQ ((q1, u9), (q2, u20), (q3, u31), (q4, u42), (q5, u53)) trivial rfl dX5_init_59
/-- a saved state taken out of the ring -/
theorem ring_focus (g : Gv) : ∀ (ra : List RA) (rs : List St) (i : Nat) (r : RA) (z : St), ra[i]? = some r → rs[i]? = some z → (wRing g ra rs).Perm (wS g r z ++ wRing g (ra.eraseIdx i) (rs.eraseIdx i))
  | [], _, _, _, _, h, _ => by simp at h
  | _ :: _, [], _, _, _, _, h => by simp at h
  | a :: ra, b :: rs, 0, r, z, h1, h2 => by
    rw [List.getElem?_cons_zero] at h1 h2
    cases h1; cases h2
    exact List.Perm.refl _
  | a :: ra, b :: rs, i + 1, r, z, h1, h2 => by
    rw [List.getElem?_cons_succ] at h1 h2
    have ih := ring_focus g ra rs i r z h1 h2
    show (wS g a b ++ wRing g ra rs).Perm (wS g r z ++ (wS g a b ++ wRing g (ra.eraseIdx i) (rs.eraseIdx i)))
    exact (ih.append_left _).trans (List.perm_append_comm_assoc _ _ _)
theorem ring_add (g : Gv) : ∀ (ra : List RA) (rs : List St) (r : RA) (z : St), ra.length = rs.length → wRing g (ra ++ [r]) (rs ++ [z]) = wRing g ra rs ++ wS g r z
  | [], [], r, z, _ => by simp [wRing]
  | [], _ :: _, _, _, h => by simp at h
  | _ :: _, [], _, _, h => by simp at h
  | a :: ra, b :: rs, r, z, h => by
    have ih := ring_add g ra rs r z (by simpa using h)
    show wS g a b ++ wRing g (ra ++ [r]) (rs ++ [z]) = (wS g a b ++ wRing g ra rs) ++ wS g r z
    rw [ih, List.append_assoc]
theorem ring_back (g : Gv) (ra : List RA) (rs : List St) (i : Nat) (r : RA) (z z2 : St) (h1 : ra[i]? = some r) (h2 : rs[i]? = some z) : (wS g r z2 ++ wRing g (ra.eraseIdx i) (rs.eraseIdx i)).Perm (wRing g ra (rs.set i z2)) := by
  have hl : i < rs.length := (List.getElem?_eq_some_iff.mp h2).1
  have h := ring_focus g ra (rs.set i z2) i r z2 h1 (by rw [List.getElem?_set_self hl])
  rw [List.eraseIdx_set_eq] at h
  exact h.symm
theorem perm_out {α : Type} {X p w q : List α} (h : p.Perm (w ++ q)) : (X ++ p).Perm ((X ++ w) ++ q) := by
  rw [List.append_assoc]
  exact h.append_left _
theorem perm_in {α : Type} {X p w q : List α} (h : (w ++ q).Perm p) : ((X ++ w) ++ q).Perm (X ++ p) := by
  rw [List.append_assoc]
  exact h.append_left _
def f_X1_push_copy (rs : List St) (i : Nat) (zS : St) : Option (List St) :=
  match rs[i]? with
  | some z => Option.bind (f_X2_copyFrom z zS) fun z2 => some (rs.set i z2)
  | none => if i = rs.length then Option.bind (f_X2_copyFrom ini_S zS) fun z2 => some (rs ++ [z2]) else none
def f_X1_push_J54  (zV_1 : Sv) : Option (Sv) :=
  if (zV_1.2.1) = (5 : Int32) then lett (V_next_set zV_1 (0 : Int32)) fun zV_6 =>
  lett (if (6 : Int32) < ((zV_6.2.2) + (1 : Int32)) then (6 : Int32) else ((zV_6.2.2) + (1 : Int32))) fun mn_7 =>
  lett (V_count_set zV_6 mn_7) fun zV_8 =>
  some zV_8
  else lett (V_next_set zV_1 ((zV_1.2.1) + (1 : Int32))) fun zV_3 =>
  lett (if (6 : Int32) < ((zV_3.2.2) + (1 : Int32)) then (6 : Int32) else ((zV_3.2.2) + (1 : Int32))) fun mn_4 =>
  lett (V_count_set zV_3 mn_4) fun zV_5 =>
  some zV_5
def f_X1_push_J17 (zS : St) (zV : Sv) : Option Sv :=
  chkA 6 zV.2.1 (Option.bind (f_X1_push_copy zV.1 zV.2.1.toNatClampNeg zS) fun rs =>
  f_X1_push_J54 (rs, zV.2))
def f_X1_push (zV : Sv) (zS : St) : Option Sv :=
  if (zV.2.1) < 0 then some zV
  else if (zV.2.1) < (6 : Int32) then f_X1_push_J17 zS zV
  else some zV
theorem in_X1_push_1 : ∀ w ∈ wsX10, w ∈ wsX1_push := fun _ h => List.mem_cons_of_mem _ (List.mem_append_left _ (List.mem_append_right _ h))
theorem in_X1_push_2 : ∀ w ∈ wsX20, w ∈ wsX1_push := fun _ h => List.mem_cons_of_mem _ (List.mem_append_right _ h)
theorem k_X1_push_1 : Cond.fieldLink RX1 17 "DodgingHangman$SavedStates" "next" "I" ∈ wsX1_push := List.mem_of_getElem? (i := 1) rfl
theorem k_X1_push_6 : Cond.fieldLink RX1 26 "DodgingHangman$SavedStates" "count" "I" ∈ wsX1_push := List.mem_of_getElem? (i := 6) rfl
theorem k_X1_push_7 : Cond.methodLink RX1 29 Lib.Math.min.name ∈ wsX1_push := List.mem_of_getElem? (i := 7) rfl
theorem k_X1_push_8 : Cond.static Lib.Math.min.name ∈ wsX1_push := List.mem_of_getElem? (i := 8) rfl
theorem k_X1_push_9 : Cond.initialized "java/lang/Math" ∈ wsX1_push := List.mem_of_getElem? (i := 9) rfl
theorem k_X1_push_10 : Cond.code Lib.Math.min.name Lib.Math.min.code 2 (some .int) ∈ wsX1_push := List.mem_of_getElem? (i := 10) rfl
theorem k_X1_push_2 : Cond.fieldLink RX1 11 "DodgingHangman$SavedStates" "ring" "[LDodgingHangman$State;" ∈ wsX1_push := List.mem_of_getElem? (i := 2) rfl
theorem k_X1_push_3 : Cond.classLink RX1 9 RX2 ∈ wsX1_push := List.mem_of_getElem? (i := 3) rfl
theorem k_X1_push_4 : Cond.instantiable RX2 12 ∈ wsX1_push := List.mem_of_getElem? (i := 4) rfl
theorem k_X1_push_5 : Cond.initialized RX2 ∈ wsX1_push := List.mem_of_getElem? (i := 5) rfl
theorem k_X1_push_11 : Cond.instanceMethod yX2_init ∈ wsX1_push := List.mem_of_getElem? (i := 11) rfl
theorem nd_X1_push : yX1_push.cls ≠ "java/lang/invoke/MethodHandle" ∧ yX1_push.cls ≠ "java/lang/invoke/VarHandle" ∧ (parseMethodDescriptor yX1_push.desc).map (fun d => d.parameters.length) = some 1 := by decide +kernel
abbrev rm_X1_push : Room := { frames := 2, cells := 4, slots := 75, locals := 47 }
set_option maxHeartbeats 4000000 in
set_option maxRecDepth 100000 in
theorem c_X1_push (l : Launch) (g : Gv) (aV : A2) (aS : RA) (ra : List RA) (zV : Sv) (zS : St) (o : Sv) (h : f_X1_push zV zS = some o) (hra : ra.length = zV.1.length) : Ct l g yX1_push wsX1_push rm_X1_push [.ref aV.1, .ref aS.1] ((wV g aV ra zV ++ wS g aS zS) ++ wRing g ra zV.1) (Qv g (fun u : List RA => (wV g aV u o ++ wS g aS zS) ++ wRing g u o.1) (fun u => u.length = o.1.length)) := by
  refine enter (ret := none) (X := wV g aV ra zV ++ wS g aS zS) (pl := wRing g ra zV.1) pn_X1 rfl (Nat.le_of_ble_eq_true rfl) rfl ?_
  intro p e s m args below meth c A Q C Cr hin hQ
  unfold f_X1_push at h
  have J54 : ∀ (zV_1 : Sv) (ra_2 : List RA) (hra : ra_2.length = (zV_1.1).length), f_X1_push_J54  zV_1 = some o → V p l e rm_X1_push s m args below meth c g 3 A 0 0 Q (wV g aV ra_2 zV_1 ++ wS g aS zS) (wRing g ra_2 zV_1.1) [(0, .ref aV.1)] 54 [] := by
    intro zV_1 ra_2 hra h
    unfold f_X1_push_J54 at h
    refine v_aload_n (pc' := 55) C 0 dX1_push_54 rfl rfl ?_
    refine v_aload_n (pc' := 56) C 0 dX1_push_55 rfl rfl ?_
    refine g_V_next (pc' := 59) C 0 in_X1_push_1 rfl k_X1_push_1 rfl dX1_push_56 rfl ?_
    refine v_iconst (pc' := 60) C (5) dX1_push_59 ic_5 rfl ?_
    refine v_icmp_ne C 67 63 h dX1_push_60 (by decide) rfl (fun _ h => ?_) (fun _ h => ?_)
    · refine v_aload_n (pc' := 68) C 0 dX1_push_67 rfl rfl ?_
      refine g_V_next (pc' := 71) C 0 in_X1_push_1 rfl k_X1_push_1 rfl dX1_push_68 rfl ?_
      refine v_iconst (pc' := 72) C (1) dX1_push_71 ic_1 rfl ?_
      refine v_iadd (pc' := 73) C dX1_push_72 rfl ?_
      refine p_V_next (pc' := 76) C h 0 (fun z9 => wV g aV ra_2 z9 ++ wS g aS zS) in_X1_push_1 rfl k_X1_push_1 rfl dX1_push_73 (Nat.le_of_ble_eq_true rfl) rfl (fun zV_3 ez h => ?_)
      have hra : ra_2.length = zV_3.1.length := by rw [ez]; exact hra
      refine v_world (X' := wV g aV ra_2 zV_3 ++ wS g aS zS) (pl' := wRing g ra_2 zV_3.1) (by rw [ez]; rfl) ?_
      refine v_aload_n (pc' := 77) C 0 dX1_push_76 rfl rfl ?_
      refine v_aload_n (pc' := 78) C 0 dX1_push_77 rfl rfl ?_
      refine g_V_count (pc' := 81) C 0 in_X1_push_1 rfl k_X1_push_6 rfl dX1_push_78 rfl ?_
      refine v_iconst (pc' := 82) C (1) dX1_push_81 ic_1 rfl ?_
      refine v_iadd (pc' := 83) C dX1_push_82 rfl ?_
      refine v_bipush (pc' := 85) C (6) dX1_push_83 bc_6 rfl ?_
      refine v_min (pc' := 88) C h k_X1_push_7 k_X1_push_8 k_X1_push_9 k_X1_push_10 (Nat.le_of_ble_eq_true rfl) (Nat.le_of_ble_eq_true rfl) (Nat.le_of_ble_eq_true rfl) (Nat.le_of_ble_eq_true rfl) dX1_push_85 rfl (fun mn_4 h => ?_)
      refine p_V_count (pc' := 91) C h 0 (fun z9 => wV g aV ra_2 z9 ++ wS g aS zS) in_X1_push_1 rfl k_X1_push_6 rfl dX1_push_88 (Nat.le_of_ble_eq_true rfl) rfl (fun zV_5 ez h => ?_)
      have hra : ra_2.length = zV_5.1.length := by rw [ez]; exact hra
      refine v_world (X' := wV g aV ra_2 zV_5 ++ wS g aS zS) (pl' := wRing g ra_2 zV_5.1) (by rw [ez]; rfl) ?_
      refine v_widen (k' := 4) (n' := 75) (Nat.le_of_ble_eq_true rfl) (Nat.le_of_ble_eq_true rfl) ?_
      exact v_vret (Wf := fun (o9 : Sv) (u9 : List RA) => (wV g aV u9 o9 ++ wS g aS zS) ++ wRing g u9 o9.1) (ok := fun (o9 : Sv) (u9 : List RA) => u9.length = (o9.1).length) C Cr h hQ ra_2 hra rfl dX1_push_91
    · refine v_iconst (pc' := 64) C (0) dX1_push_63 ic_0 rfl ?_
      refine v_goto C (pc' := 73) dX1_push_64 (by decide) ?_
      refine p_V_next (pc' := 76) C h 0 (fun z9 => wV g aV ra_2 z9 ++ wS g aS zS) in_X1_push_1 rfl k_X1_push_1 rfl dX1_push_73 (Nat.le_of_ble_eq_true rfl) rfl (fun zV_6 ez h => ?_)
      have hra : ra_2.length = zV_6.1.length := by rw [ez]; exact hra
      refine v_world (X' := wV g aV ra_2 zV_6 ++ wS g aS zS) (pl' := wRing g ra_2 zV_6.1) (by rw [ez]; rfl) ?_
      refine v_aload_n (pc' := 77) C 0 dX1_push_76 rfl rfl ?_
      refine v_aload_n (pc' := 78) C 0 dX1_push_77 rfl rfl ?_
      refine g_V_count (pc' := 81) C 0 in_X1_push_1 rfl k_X1_push_6 rfl dX1_push_78 rfl ?_
      refine v_iconst (pc' := 82) C (1) dX1_push_81 ic_1 rfl ?_
      refine v_iadd (pc' := 83) C dX1_push_82 rfl ?_
      refine v_bipush (pc' := 85) C (6) dX1_push_83 bc_6 rfl ?_
      refine v_min (pc' := 88) C h k_X1_push_7 k_X1_push_8 k_X1_push_9 k_X1_push_10 (Nat.le_of_ble_eq_true rfl) (Nat.le_of_ble_eq_true rfl) (Nat.le_of_ble_eq_true rfl) (Nat.le_of_ble_eq_true rfl) dX1_push_85 rfl (fun mn_7 h => ?_)
      refine p_V_count (pc' := 91) C h 0 (fun z9 => wV g aV ra_2 z9 ++ wS g aS zS) in_X1_push_1 rfl k_X1_push_6 rfl dX1_push_88 (Nat.le_of_ble_eq_true rfl) rfl (fun zV_8 ez h => ?_)
      have hra : ra_2.length = zV_8.1.length := by rw [ez]; exact hra
      refine v_world (X' := wV g aV ra_2 zV_8 ++ wS g aS zS) (pl' := wRing g ra_2 zV_8.1) (by rw [ez]; rfl) ?_
      refine v_widen (k' := 4) (n' := 75) (Nat.le_of_ble_eq_true rfl) (Nat.le_of_ble_eq_true rfl) ?_
      exact v_vret (Wf := fun (o9 : Sv) (u9 : List RA) => (wV g aV u9 o9 ++ wS g aS zS) ++ wRing g u9 o9.1) (ok := fun (o9 : Sv) (u9 : List RA) => u9.length = (o9.1).length) C Cr h hQ ra_2 hra rfl dX1_push_91
  have K54 : ∀ (zV_1 : Sv) (ra_2 : List RA) (hra : ra_2.length = (zV_1.1).length), f_X1_push_J54  zV_1 = some o → V p l e rm_X1_push s m args below meth c g 3 A 4 75 Q (wV g aV ra_2 zV_1 ++ wS g aS zS) (wRing g ra_2 zV_1.1) [(0, .ref aV.1)] 54 [] := by
    intro zV_1 ra_2 hra h
    unfold f_X1_push_J54 at h
    refine v_aload_n (pc' := 55) C 0 dX1_push_54 rfl rfl ?_
    refine v_aload_n (pc' := 56) C 0 dX1_push_55 rfl rfl ?_
    refine g_V_next (pc' := 59) C 0 in_X1_push_1 rfl k_X1_push_1 rfl dX1_push_56 rfl ?_
    refine v_iconst (pc' := 60) C (5) dX1_push_59 ic_5 rfl ?_
    refine v_icmp_ne C 67 63 h dX1_push_60 (by decide) rfl (fun _ h => ?_) (fun _ h => ?_)
    · refine v_aload_n (pc' := 68) C 0 dX1_push_67 rfl rfl ?_
      refine g_V_next (pc' := 71) C 0 in_X1_push_1 rfl k_X1_push_1 rfl dX1_push_68 rfl ?_
      refine v_iconst (pc' := 72) C (1) dX1_push_71 ic_1 rfl ?_
      refine v_iadd (pc' := 73) C dX1_push_72 rfl ?_
      refine p_V_next (pc' := 76) C h 0 (fun z9 => wV g aV ra_2 z9 ++ wS g aS zS) in_X1_push_1 rfl k_X1_push_1 rfl dX1_push_73 (Nat.le_of_ble_eq_true rfl) rfl (fun zV_3 ez h => ?_)
      have hra : ra_2.length = zV_3.1.length := by rw [ez]; exact hra
      refine v_world (X' := wV g aV ra_2 zV_3 ++ wS g aS zS) (pl' := wRing g ra_2 zV_3.1) (by rw [ez]; rfl) ?_
      refine v_aload_n (pc' := 77) C 0 dX1_push_76 rfl rfl ?_
      refine v_aload_n (pc' := 78) C 0 dX1_push_77 rfl rfl ?_
      refine g_V_count (pc' := 81) C 0 in_X1_push_1 rfl k_X1_push_6 rfl dX1_push_78 rfl ?_
      refine v_iconst (pc' := 82) C (1) dX1_push_81 ic_1 rfl ?_
      refine v_iadd (pc' := 83) C dX1_push_82 rfl ?_
      refine v_bipush (pc' := 85) C (6) dX1_push_83 bc_6 rfl ?_
      refine v_min (pc' := 88) C h k_X1_push_7 k_X1_push_8 k_X1_push_9 k_X1_push_10 (Nat.le_of_ble_eq_true rfl) (Nat.le_of_ble_eq_true rfl) (Nat.le_of_ble_eq_true rfl) (Nat.le_of_ble_eq_true rfl) dX1_push_85 rfl (fun mn_4 h => ?_)
      refine p_V_count (pc' := 91) C h 0 (fun z9 => wV g aV ra_2 z9 ++ wS g aS zS) in_X1_push_1 rfl k_X1_push_6 rfl dX1_push_88 (Nat.le_of_ble_eq_true rfl) rfl (fun zV_5 ez h => ?_)
      have hra : ra_2.length = zV_5.1.length := by rw [ez]; exact hra
      refine v_world (X' := wV g aV ra_2 zV_5 ++ wS g aS zS) (pl' := wRing g ra_2 zV_5.1) (by rw [ez]; rfl) ?_
      exact v_vret (Wf := fun (o9 : Sv) (u9 : List RA) => (wV g aV u9 o9 ++ wS g aS zS) ++ wRing g u9 o9.1) (ok := fun (o9 : Sv) (u9 : List RA) => u9.length = (o9.1).length) C Cr h hQ ra_2 hra rfl dX1_push_91
    · refine v_iconst (pc' := 64) C (0) dX1_push_63 ic_0 rfl ?_
      refine v_goto C (pc' := 73) dX1_push_64 (by decide) ?_
      refine p_V_next (pc' := 76) C h 0 (fun z9 => wV g aV ra_2 z9 ++ wS g aS zS) in_X1_push_1 rfl k_X1_push_1 rfl dX1_push_73 (Nat.le_of_ble_eq_true rfl) rfl (fun zV_6 ez h => ?_)
      have hra : ra_2.length = zV_6.1.length := by rw [ez]; exact hra
      refine v_world (X' := wV g aV ra_2 zV_6 ++ wS g aS zS) (pl' := wRing g ra_2 zV_6.1) (by rw [ez]; rfl) ?_
      refine v_aload_n (pc' := 77) C 0 dX1_push_76 rfl rfl ?_
      refine v_aload_n (pc' := 78) C 0 dX1_push_77 rfl rfl ?_
      refine g_V_count (pc' := 81) C 0 in_X1_push_1 rfl k_X1_push_6 rfl dX1_push_78 rfl ?_
      refine v_iconst (pc' := 82) C (1) dX1_push_81 ic_1 rfl ?_
      refine v_iadd (pc' := 83) C dX1_push_82 rfl ?_
      refine v_bipush (pc' := 85) C (6) dX1_push_83 bc_6 rfl ?_
      refine v_min (pc' := 88) C h k_X1_push_7 k_X1_push_8 k_X1_push_9 k_X1_push_10 (Nat.le_of_ble_eq_true rfl) (Nat.le_of_ble_eq_true rfl) (Nat.le_of_ble_eq_true rfl) (Nat.le_of_ble_eq_true rfl) dX1_push_85 rfl (fun mn_7 h => ?_)
      refine p_V_count (pc' := 91) C h 0 (fun z9 => wV g aV ra_2 z9 ++ wS g aS zS) in_X1_push_1 rfl k_X1_push_6 rfl dX1_push_88 (Nat.le_of_ble_eq_true rfl) rfl (fun zV_8 ez h => ?_)
      have hra : ra_2.length = zV_8.1.length := by rw [ez]; exact hra
      refine v_world (X' := wV g aV ra_2 zV_8 ++ wS g aS zS) (pl' := wRing g ra_2 zV_8.1) (by rw [ez]; rfl) ?_
      exact v_vret (Wf := fun (o9 : Sv) (u9 : List RA) => (wV g aV u9 o9 ++ wS g aS zS) ++ wRing g u9 o9.1) (ok := fun (o9 : Sv) (u9 : List RA) => u9.length = (o9.1).length) C Cr h hQ ra_2 hra rfl dX1_push_91
  have J17 : ∀ (zV : Sv) (ra : List RA) (hra : ra.length = zV.1.length), f_X1_push_J17 zS zV = some o → V p l e rm_X1_push s m args below meth c g 3 A 0 0 Q (wV g aV ra zV ++ wS g aS zS) (wRing g ra zV.1) [(0, .ref aV.1), (1, .ref aS.1)] 17 [] := by
    intro zV ra hra h
    unfold f_X1_push_J17 at h
    refine v_aload_n (pc' := 18) C 0 dX1_push_17 rfl rfl ?_
    refine g_V_ring (pc' := 21) C 0 in_X1_push_1 rfl k_X1_push_2 rfl dX1_push_18 rfl ?_
    refine v_aload_n (pc' := 22) C 0 dX1_push_21 rfl rfl ?_
    refine g_V_next (pc' := 25) C 0 in_X1_push_1 rfl k_X1_push_1 rfl dX1_push_22 rfl ?_
    have hin6 : vp_in zV.2.1 6 := by
      unfold chkA at h
      by_cases hb9 : inB zV.2.1 6 = true
      · exact inB_in hb9
      · rw [if_neg hb9] at h; cases h
    refine v_aald (pc' := 26) C h 1 rfl dX1_push_25 rfl (fun h => ?_)
    obtain ⟨rs2, hrs2, h⟩ := Option.bind_eq_some_iff.mp h
    generalize hi9 : zV.2.1.toNatClampNeg = i9 at hrs2 ⊢
    cases hr9 : ra[i9]? with
    | some r9 =>
      have hlt : i9 < zV.1.length := by rw [← hra]; exact (List.getElem?_eq_some_iff.mp hr9).1
      obtain ⟨z9, hz9⟩ : ∃ z9, zV.1[i9]? = some z9 := ⟨_, List.getElem?_eq_getElem hlt⟩
      have hrs3 : Option.bind (f_X2_copyFrom z9 zS) (fun z2 => some (zV.1.set i9 z2)) = some rs2 := by unfold f_X1_push_copy at hrs2; rw [hz9] at hrs2; exact hrs2
      refine v_astore_n (pc' := 27) C [1, 2, 0] (x := r9.1) (lv' := [(0, .ref aV.1), (1, .ref aS.1), (2, .ref r9.1)]) dX1_push_26 (Nat.le_of_ble_eq_true rfl) rfl rfl ?_
      refine v_aload_n (pc' := 28) C 2 dX1_push_27 rfl rfl ?_
      refine v_ifnonnull C 49 dX1_push_28 (by decide) ?_
      refine v_aload_n (pc' := 50) C 2 dX1_push_49 rfl rfl ?_
      refine v_aload_n (pc' := 51) C 1 dX1_push_50 rfl rfl ?_
      refine v_perm (X' := (wV g aV ra zV ++ wS g aS zS) ++ wS g r9 z9) (pl' := wRing g (ra.eraseIdx i9) (zV.1.eraseIdx i9)) (perm_out (ring_focus g ra zV.1 i9 r9 z9 hr9 hz9)) ?_
      refine v_callv (pc' := 54) C hrs3 (wV g aV ra zV) (fun z2 (u9 : Unit) => (wV g aV ra zV ++ wS g aS zS) ++ wS g r9 z2) (fun r hr => run_V C (c_X2_copyFrom l g r9 aS _ _ r hr) gX1_push_X2_copyFrom rfl nd_X2_copyFrom rfl rfl rfl rfl ⟨Nat.le_of_ble_eq_true rfl, Nat.le_of_ble_eq_true rfl⟩ ⟨Nat.le_of_ble_eq_true rfl, Nat.le_of_ble_eq_true rfl⟩ (Nat.le_of_ble_eq_true rfl) dX1_push_51 rfl) [6, 7, 8, 9, 2, 3, 4, 5] [0, 1] [0, 1, 6, 7, 8, 9, 2, 3, 4, 5] rfl rfl rfl rfl (by decide) rfl (fun _ _ => rfl) (k' := 0) (n' := 0) rfl rfl rfl (fun z2 _ _ hz2 => ?_)
      cases hz2
      refine v_perm (X' := wV g aV ra (zV.1.set i9 z2, zV.2) ++ wS g aS zS) (pl' := wRing g ra (zV.1.set i9 z2)) (perm_in (ring_back g ra zV.1 i9 r9 z9 z2 hr9 hz9)) ?_
      refine v_lv [0] (lv' := [(0, .ref aV.1)]) rfl ?_
      exact J54 (zV.1.set i9 z2, zV.2) ra (by rw [List.length_set]; exact hra) h
    | none =>
      have hz9 : zV.1[i9]? = none := by rw [List.getElem?_eq_none_iff] at hr9 ⊢; omega
      have hrs3 : (if i9 = zV.1.length then Option.bind (f_X2_copyFrom ini_S zS) (fun z2 => some (zV.1 ++ [z2])) else none) = some rs2 := by unfold f_X1_push_copy at hrs2; rw [hz9] at hrs2; exact hrs2
      by_cases hlen : i9 = zV.1.length
      · rw [if_pos hlen] at hrs3
        refine v_astore_nN (pc' := 27) C [1, 2, 0] (lv' := [(0, .ref aV.1), (1, .ref aS.1), (2, .null)]) dX1_push_26 (Nat.le_of_ble_eq_true rfl) rfl rfl ?_
        refine v_aload_nN (pc' := 28) C 2 dX1_push_27 rfl rfl ?_
        refine v_ifnonnullN (pc' := 31) C dX1_push_28 rfl ?_
        refine v_new (pc' := 34) C (T := TX2) (ci := 2) [.null, .null, .null, .int 0, .int 0, .int 0, .int 0, .int 0, .int 0, .int 0, .int 0, .long 0] in_X1_push_2 tyX2 tyX2_ok k_X1_push_3 k_X1_push_4 k_X1_push_5 rfl (fun j hj => match j, hj with | 0, _ => rfl | 1, _ => rfl | 2, _ => rfl | 3, _ => rfl | 4, _ => rfl | 5, _ => rfl | 6, _ => rfl | 7, _ => rfl | 8, _ => rfl | 9, _ => rfl | 10, _ => rfl | 11, _ => rfl | j + 12, hj => absurd hj (by omega)) (Nat.le_of_ble_eq_true rfl) (Nat.le_of_ble_eq_true rfl) dX1_push_31 rfl (fun q => ?_)
        refine v_dup (pc' := 35) C dX1_push_34 rfl rfl ?_
        refine v_callv (pc' := 38) C (x := some ()) (kx := fun _ => some ()) (o := ()) rfl (wV g aV ra zV ++ wS g aS zS) (fun _ (u9 : A3) => (wV g aV ra zV ++ wS g aS zS) ++ wS g (q, u9) ini_S) (fun r hr => run_IN C (c_X2_init l g q) gX1_push_X2_init_n21 rfl nd_X2_init (List.mem_of_getElem? (i := 6) rfl) k_X1_push_5 k_X1_push_11 rfl ⟨Nat.le_of_ble_eq_true rfl, Nat.le_of_ble_eq_true rfl⟩ ⟨Nat.le_of_ble_eq_true rfl, Nat.le_of_ble_eq_true rfl⟩ (Nat.le_of_ble_eq_true rfl) dX1_push_35 rfl) [6] [0, 1, 2, 3, 4, 5] [0, 1, 2, 3, 4, 5, 6, 7, 8, 9] rfl rfl rfl rfl (by decide) rfl (fun _ _ => rfl) (k' := 4) (n' := 75) rfl rfl rfl (fun _ u _ _ => ?_)
        refine v_astore_n (pc' := 39) C [1, 2, 0] (lv' := [(0, .ref aV.1), (1, .ref aS.1), (2, .ref q)]) dX1_push_38 (Nat.le_of_ble_eq_true rfl) rfl rfl ?_
        refine v_aload_n (pc' := 40) C 0 dX1_push_39 rfl rfl ?_
        refine g_V_ring (pc' := 43) C 0 in_X1_push_1 rfl k_X1_push_2 rfl dX1_push_40 rfl ?_
        refine v_aload_n (pc' := 44) C 0 dX1_push_43 rfl rfl ?_
        refine g_V_next (pc' := 47) C 0 in_X1_push_1 rfl k_X1_push_1 rfl dX1_push_44 rfl ?_
        refine v_aload_n (pc' := 48) C 2 dX1_push_47 rfl rfl ?_
        refine v_aast (pc' := 49) C (ci := 2) 1 6 rfl (r := (RX2, TX2, 12)) rfl rfl rfl hin6 (X' := (wV g aV (ra ++ [(q, u)]) zV ++ wS g aS zS) ++ wS g (q, u) ini_S) ?_ dX1_push_48 rfl ?_
        · have e9 : va_up (fun i => (ra[i]?).map (fun r : RA => r.1)) zV.2.1.toNatClampNeg (some q) = fun i => ((ra ++ [(q, u)])[i]?).map (fun r : RA => r.1) := by
            funext j
            rw [hi9, hlen, ← hra]
            by_cases hj : j = ra.length
            · subst hj; rw [va_up_self]; simp
            · rw [va_up_ne _ _ hj]
              rcases Nat.lt_or_ge j ra.length with q9 | q9
              · rw [List.getElem?_append_left q9]
              · rw [List.getElem?_eq_none_iff.mpr q9, List.getElem?_eq_none_iff.mpr (by simp; omega)]
          rw [e9]
          rfl
        refine v_aload_n (pc' := 50) C 2 dX1_push_49 rfl rfl ?_
        refine v_aload_n (pc' := 51) C 1 dX1_push_50 rfl rfl ?_
        refine v_callv (pc' := 54) C hrs3 (wV g aV (ra ++ [(q, u)]) zV) (fun z2 (u9 : Unit) => (wV g aV (ra ++ [(q, u)]) zV ++ wS g aS zS) ++ wS g (q, u) z2) (fun r hr => run_V C (c_X2_copyFrom l g (q, u) aS _ _ r hr) gX1_push_X2_copyFrom rfl nd_X2_copyFrom rfl rfl rfl rfl ⟨Nat.le_of_ble_eq_true rfl, Nat.le_of_ble_eq_true rfl⟩ ⟨Nat.le_of_ble_eq_true rfl, Nat.le_of_ble_eq_true rfl⟩ (Nat.le_of_ble_eq_true rfl) dX1_push_51 rfl) [6, 7, 8, 9, 2, 3, 4, 5] [0, 1] [0, 1, 6, 7, 8, 9, 2, 3, 4, 5] rfl rfl rfl rfl (by decide) rfl (fun _ _ => rfl) (k' := 4) (n' := 75) rfl rfl rfl (fun z2 _ _ hz2 => ?_)
        cases hz2
        refine v_perm (X' := wV g aV (ra ++ [(q, u)]) (zV.1 ++ [z2], zV.2) ++ wS g aS zS) (pl' := wRing g (ra ++ [(q, u)]) (zV.1 ++ [z2])) ?_ ?_
        · rw [ring_add g ra zV.1 (q, u) z2 hra]
          exact perm_in List.perm_append_comm
        refine v_lv [0] (lv' := [(0, .ref aV.1)]) rfl ?_
        exact K54 (zV.1 ++ [z2], zV.2) (ra ++ [(q, u)]) (by simp [hra]) h
      · rw [if_neg hlen] at hrs3; cases hrs3
  refine v_aload_n (pc' := 1) C 0 dX1_push_0 rfl rfl ?_
  refine g_V_next (pc' := 4) C 0 in_X1_push_1 rfl k_X1_push_1 rfl dX1_push_1 rfl ?_
  refine v_if_lt C 16 7 h dX1_push_4 (by decide) rfl (fun _ h => ?_) (fun _ h => ?_)
  · refine v_widen (k' := 4) (n' := 75) (Nat.le_of_ble_eq_true rfl) (Nat.le_of_ble_eq_true rfl) ?_
    exact v_vret (Wf := fun (o9 : Sv) (u9 : List RA) => (wV g aV u9 o9 ++ wS g aS zS) ++ wRing g u9 o9.1) (ok := fun (o9 : Sv) (u9 : List RA) => u9.length = (o9.1).length) C Cr h hQ ra hra rfl dX1_push_16
  · refine v_aload_n (pc' := 8) C 0 dX1_push_7 rfl rfl ?_
    refine g_V_next (pc' := 11) C 0 in_X1_push_1 rfl k_X1_push_1 rfl dX1_push_8 rfl ?_
    refine v_bipush (pc' := 13) C (6) dX1_push_11 bc_6 rfl ?_
    refine v_icmp_lt C 17 16 h dX1_push_13 (by decide) rfl (fun _ h => ?_) (fun _ h => ?_)
    · exact J17 zV ra hra h
    · refine v_widen (k' := 4) (n' := 75) (Nat.le_of_ble_eq_true rfl) (Nat.le_of_ble_eq_true rfl) ?_
      exact v_vret (Wf := fun (o9 : Sv) (u9 : List RA) => (wV g aV u9 o9 ++ wS g aS zS) ++ wRing g u9 o9.1) (ok := fun (o9 : Sv) (u9 : List RA) => u9.length = (o9.1).length) C Cr h hQ ra hra rfl dX1_push_16
def f_X1_popInto_J55  (v2_5 : Int32) (zV_6 : Sv) (zS_7 : St) : Option (Int32 × Sv × St) :=
  lett (V_next_set zV_6 v2_5) fun zV_9 =>
  lett (V_count_set zV_9 ((zV_9.2.2) - (1 : Int32))) fun zV_10 =>
  some ((1 : Int32), zV_10, zS_7)
def f_X1_popInto_J37 (v2 : Int32) (zV : Sv) (zS : St) : Option (Int32 × Sv × St) :=
  chkA 6 v2 (match zV.1[v2.toNatClampNeg]? with
  | some z => Option.bind (f_X2_copyFrom zS z) fun z2 => f_X1_popInto_J55 v2 zV z2
  | none => some (0, zV, zS))
def f_X1_popInto_J17  (zV_1 : Sv) (zS_2 : St) (s0_4 : Int32) : Option (Int32 × Sv × St) :=
  if (zV_1.2.2) = 0 then some ((0 : Int32), zV_1, zS_2)
  else if s0_4 < 0 then some ((0 : Int32), zV_1, zS_2)
  else if s0_4 < (6 : Int32) then f_X1_popInto_J37  s0_4 zV_1 zS_2
  else some ((0 : Int32), zV_1, zS_2)
def f_X1_popInto (zV : Sv) (zS : St) : Option (Int32 × Sv × St) :=
  if (zV.2.1) = 0 then f_X1_popInto_J17  zV zS (5 : Int32)
  else f_X1_popInto_J17  zV zS ((zV.2.1) - (1 : Int32))
theorem in_X1_popInto_1 : ∀ w ∈ wsX10, w ∈ wsX1_popInto := fun _ h => List.mem_cons_of_mem _ (List.mem_append_left _ (List.mem_append_right _ h))
theorem k_X1_popInto_1 : Cond.fieldLink RX1 17 "DodgingHangman$SavedStates" "next" "I" ∈ wsX1_popInto := List.mem_of_getElem? (i := 1) rfl
theorem k_X1_popInto_2 : Cond.fieldLink RX1 26 "DodgingHangman$SavedStates" "count" "I" ∈ wsX1_popInto := List.mem_of_getElem? (i := 2) rfl
theorem k_X1_popInto_3 : Cond.fieldLink RX1 11 "DodgingHangman$SavedStates" "ring" "[LDodgingHangman$State;" ∈ wsX1_popInto := List.mem_of_getElem? (i := 3) rfl
theorem nd_X1_popInto : yX1_popInto.cls ≠ "java/lang/invoke/MethodHandle" ∧ yX1_popInto.cls ≠ "java/lang/invoke/VarHandle" ∧ (parseMethodDescriptor yX1_popInto.desc).map (fun d => d.parameters.length) = some 1 := by decide +kernel
abbrev rm_X1_popInto : Room := { frames := 2, cells := 0, slots := 0, locals := 47 }
set_option maxHeartbeats 4000000 in
set_option maxRecDepth 100000 in
theorem c_X1_popInto (l : Launch) (g : Gv) (aV : A2) (aS : RA) (ra : List RA) (zV : Sv) (zS : St) (o : Int32 × Sv × St) (h : f_X1_popInto zV zS = some o) (hra : ra.length = zV.1.length) : Ct l g yX1_popInto wsX1_popInto rm_X1_popInto [.ref aV.1, .ref aS.1] ((wV g aV ra zV ++ wS g aS zS) ++ wRing g ra zV.1) (Qi g o.1 (fun u : List RA => (wV g aV u o.2.1 ++ wS g aS o.2.2) ++ wRing g u o.2.1.1) (fun u => u.length = o.2.1.1.length)) := by
  refine enter (ret := (some .boolean)) (X := wV g aV ra zV ++ wS g aS zS) (pl := wRing g ra zV.1) pn_X1 rfl (Nat.le_of_ble_eq_true rfl) rfl ?_
  intro p e s m args below meth c A Q C Cr hin hQ
  unfold f_X1_popInto at h
  have J55 : ∀ (v2_5 : Int32) (zV_6 : Sv) (zS_7 : St) (ra_8 : List RA) (hra : ra_8.length = (zV_6.1).length), f_X1_popInto_J55  v2_5 zV_6 zS_7 = some o → V p l e rm_X1_popInto s m args below meth c g 4 A 0 0 Q (wV g aV ra_8 zV_6 ++ wS g aS zS_7) (wRing g ra_8 zV_6.1) [(0, .ref aV.1), (2, .int v2_5)] 55 [] := by
    intro v2_5 zV_6 zS_7 ra_8 hra h
    unfold f_X1_popInto_J55 at h
    refine v_aload_n (pc' := 56) C 0 dX1_popInto_55 rfl rfl ?_
    refine v_iload_n (pc' := 57) C 1 dX1_popInto_56 rfl rfl ?_
    refine p_V_next (pc' := 60) C h 0 (fun z9 => wV g aV ra_8 z9 ++ wS g aS zS_7) in_X1_popInto_1 rfl k_X1_popInto_1 rfl dX1_popInto_57 (Nat.le_of_ble_eq_true rfl) rfl (fun zV_9 ez h => ?_)
    have hra : ra_8.length = zV_9.1.length := by rw [ez]; exact hra
    refine v_world (X' := wV g aV ra_8 zV_9 ++ wS g aS zS_7) (pl' := wRing g ra_8 zV_9.1) (by rw [ez]; rfl) ?_
    refine v_aload_n (pc' := 61) C 0 dX1_popInto_60 rfl rfl ?_
    refine v_dup (pc' := 62) C dX1_popInto_61 rfl rfl ?_
    refine g_V_count (pc' := 65) C 0 in_X1_popInto_1 rfl k_X1_popInto_2 rfl dX1_popInto_62 rfl ?_
    refine v_iconst (pc' := 66) C (1) dX1_popInto_65 ic_1 rfl ?_
    refine v_isub (pc' := 67) C dX1_popInto_66 rfl ?_
    refine p_V_count (pc' := 70) C h 0 (fun z9 => wV g aV ra_8 z9 ++ wS g aS zS_7) in_X1_popInto_1 rfl k_X1_popInto_2 rfl dX1_popInto_67 (Nat.le_of_ble_eq_true rfl) rfl (fun zV_10 ez h => ?_)
    have hra : ra_8.length = zV_10.1.length := by rw [ez]; exact hra
    refine v_world (X' := wV g aV ra_8 zV_10 ++ wS g aS zS_7) (pl' := wRing g ra_8 zV_10.1) (by rw [ez]; rfl) ?_
    refine v_iconst (pc' := 71) C (1) dX1_popInto_70 ic_1 rfl ?_
    exact v_zret (rf := fun (o9 : Int32 × Sv × St) => o9.1) (Wf := fun (o9 : Int32 × Sv × St) (u9 : List RA) => (wV g aV u9 o9.2.1 ++ wS g aS o9.2.2) ++ wRing g u9 o9.2.1.1) (ok := fun (o9 : Int32 × Sv × St) (u9 : List RA) => u9.length = (o9.2.1.1).length) C Cr h hQ ra_8 hra rfl rfl (Or.inr rfl) dX1_popInto_71
  have J37 : ∀ (v2 : Int32) (zV : Sv) (zS : St) (ra : List RA) (hra : ra.length = zV.1.length), f_X1_popInto_J37 v2 zV zS = some o → V p l e rm_X1_popInto s m args below meth c g 4 A 0 0 Q (wV g aV ra zV ++ wS g aS zS) (wRing g ra zV.1) [(0, .ref aV.1), (1, .ref aS.1), (2, .int v2)] 37 [] := by
    intro v2 zV zS ra hra h
    unfold f_X1_popInto_J37 at h
    refine v_aload_n (pc' := 38) C 0 dX1_popInto_37 rfl rfl ?_
    refine g_V_ring (pc' := 41) C 0 in_X1_popInto_1 rfl k_X1_popInto_3 rfl dX1_popInto_38 rfl ?_
    refine v_iload_n (pc' := 42) C 2 dX1_popInto_41 rfl rfl ?_
    refine v_aald (pc' := 43) C h 1 rfl dX1_popInto_42 rfl (fun h => ?_)
    generalize hi9 : v2.toNatClampNeg = i9 at h ⊢
    cases hr9 : ra[i9]? with
    | some r9 =>
      have hlt : i9 < zV.1.length := by rw [← hra]; exact (List.getElem?_eq_some_iff.mp hr9).1
      obtain ⟨z9, hz9⟩ : ∃ z9, zV.1[i9]? = some z9 := ⟨_, List.getElem?_eq_getElem hlt⟩
      rw [hz9] at h
      have h : Option.bind (f_X2_copyFrom zS z9) (fun z2 => f_X1_popInto_J55 v2 zV z2) = some o := h
      refine v_astore_n (pc' := 44) C [1, 2, 3, 0] (x := r9.1) (lv' := [(0, .ref aV.1), (1, .ref aS.1), (2, .int v2), (3, .ref r9.1)]) dX1_popInto_43 (Nat.le_of_ble_eq_true rfl) rfl rfl ?_
      refine v_aload_n (pc' := 45) C 3 dX1_popInto_44 rfl rfl ?_
      refine v_ifnonnull C 50 dX1_popInto_45 (by decide) ?_
      refine v_aload_n (pc' := 51) C 1 dX1_popInto_50 rfl rfl ?_
      refine v_aload_n (pc' := 52) C 3 dX1_popInto_51 rfl rfl ?_
      refine v_perm (X' := (wV g aV ra zV ++ wS g aS zS) ++ wS g r9 z9) (pl' := wRing g (ra.eraseIdx i9) (zV.1.eraseIdx i9)) (perm_out (ring_focus g ra zV.1 i9 r9 z9 hr9 hz9)) ?_
      refine v_callv (pc' := 55) C h (wV g aV ra zV) (fun z2 (u9 : Unit) => (wV g aV ra zV ++ wS g aS z2) ++ wS g r9 z9) (fun r hr => run_V C (c_X2_copyFrom l g aS r9 _ _ r hr) gX1_popInto_X2_copyFrom rfl nd_X2_copyFrom rfl rfl rfl rfl ⟨Nat.le_of_ble_eq_true rfl, Nat.le_of_ble_eq_true rfl⟩ ⟨Nat.le_of_ble_eq_true rfl, Nat.le_of_ble_eq_true rfl⟩ (Nat.le_of_ble_eq_true rfl) dX1_popInto_52 rfl) [2, 3, 4, 5, 6, 7, 8, 9] [0, 1] [0, 1, 2, 3, 4, 5, 6, 7, 8, 9] rfl rfl rfl rfl (by decide) rfl (fun _ _ => rfl) (k' := 0) (n' := 0) rfl rfl rfl (fun z2 _ _ h => ?_)
      refine v_perm (X' := wV g aV ra zV ++ wS g aS z2) (pl' := wRing g ra zV.1) (perm_in (ring_focus g ra zV.1 i9 r9 z9 hr9 hz9).symm) ?_
      refine v_lv [0, 2] (lv' := [(0, .ref aV.1), (2, .int v2)]) rfl ?_
      exact J55 v2 zV z2 ra hra h
    | none =>
      have hz9 : zV.1[i9]? = none := by rw [List.getElem?_eq_none_iff] at hr9 ⊢; omega
      rw [hz9] at h
      have h : some ((0 : Int32), zV, zS) = some o := h
      refine v_astore_nN (pc' := 44) C [1, 2, 3, 0] (lv' := [(0, .ref aV.1), (1, .ref aS.1), (2, .int v2), (3, .null)]) dX1_popInto_43 (Nat.le_of_ble_eq_true rfl) rfl rfl ?_
      refine v_aload_nN (pc' := 45) C 3 dX1_popInto_44 rfl rfl ?_
      refine v_ifnonnullN (pc' := 48) C dX1_popInto_45 rfl ?_
      refine v_iconst (pc' := 49) C (0) dX1_popInto_48 ic_0 rfl ?_
      exact v_zret (rf := fun (o9 : Int32 × Sv × St) => o9.1) (Wf := fun (o9 : Int32 × Sv × St) (u9 : List RA) => (wV g aV u9 o9.2.1 ++ wS g aS o9.2.2) ++ wRing g u9 o9.2.1.1) (ok := fun (o9 : Int32 × Sv × St) (u9 : List RA) => u9.length = o9.2.1.1.length) C Cr h hQ ra hra rfl rfl (Or.inl rfl) dX1_popInto_49
  have J17 : ∀ (zV_1 : Sv) (zS_2 : St) (s0_4 : Int32) (ra_3 : List RA) (hra : ra_3.length = (zV_1.1).length), f_X1_popInto_J17  zV_1 zS_2 s0_4 = some o → V p l e rm_X1_popInto s m args below meth c g 4 A 0 0 Q (wV g aV ra_3 zV_1 ++ wS g aS zS_2) (wRing g ra_3 zV_1.1) [(0, .ref aV.1), (1, .ref aS.1)] 17 [.int s0_4] := by
    intro zV_1 zS_2 s0_4 ra_3 hra h
    unfold f_X1_popInto_J17 at h
    refine v_istore_n (pc' := 18) C [1, 2, 0] (lv' := [(0, .ref aV.1), (1, .ref aS.1), (2, .int s0_4)]) dX1_popInto_17 (Nat.le_of_ble_eq_true rfl) rfl rfl ?_
    refine v_aload_n (pc' := 19) C 0 dX1_popInto_18 rfl rfl ?_
    refine g_V_count (pc' := 22) C 0 in_X1_popInto_1 rfl k_X1_popInto_2 rfl dX1_popInto_19 rfl ?_
    refine v_if_eq C 35 25 h dX1_popInto_22 (by decide) rfl (fun _ h => ?_) (fun _ h => ?_)
    · refine v_iconst (pc' := 36) C (0) dX1_popInto_35 ic_0 rfl ?_
      exact v_zret (rf := fun (o9 : Int32 × Sv × St) => o9.1) (Wf := fun (o9 : Int32 × Sv × St) (u9 : List RA) => (wV g aV u9 o9.2.1 ++ wS g aS o9.2.2) ++ wRing g u9 o9.2.1.1) (ok := fun (o9 : Int32 × Sv × St) (u9 : List RA) => u9.length = (o9.2.1.1).length) C Cr h hQ ra_3 hra rfl rfl (Or.inl rfl) dX1_popInto_36
    · refine v_iload_n (pc' := 26) C 2 dX1_popInto_25 rfl rfl ?_
      refine v_if_lt C 35 29 h dX1_popInto_26 (by decide) rfl (fun _ h => ?_) (fun _ h => ?_)
      · refine v_iconst (pc' := 36) C (0) dX1_popInto_35 ic_0 rfl ?_
        exact v_zret (rf := fun (o9 : Int32 × Sv × St) => o9.1) (Wf := fun (o9 : Int32 × Sv × St) (u9 : List RA) => (wV g aV u9 o9.2.1 ++ wS g aS o9.2.2) ++ wRing g u9 o9.2.1.1) (ok := fun (o9 : Int32 × Sv × St) (u9 : List RA) => u9.length = (o9.2.1.1).length) C Cr h hQ ra_3 hra rfl rfl (Or.inl rfl) dX1_popInto_36
      · refine v_iload_n (pc' := 30) C 2 dX1_popInto_29 rfl rfl ?_
        refine v_bipush (pc' := 32) C (6) dX1_popInto_30 bc_6 rfl ?_
        refine v_icmp_lt C 37 35 h dX1_popInto_32 (by decide) rfl (fun _ h => ?_) (fun _ h => ?_)
        · exact J37 s0_4 zV_1 zS_2 ra_3 hra h
        · refine v_iconst (pc' := 36) C (0) dX1_popInto_35 ic_0 rfl ?_
          exact v_zret (rf := fun (o9 : Int32 × Sv × St) => o9.1) (Wf := fun (o9 : Int32 × Sv × St) (u9 : List RA) => (wV g aV u9 o9.2.1 ++ wS g aS o9.2.2) ++ wRing g u9 o9.2.1.1) (ok := fun (o9 : Int32 × Sv × St) (u9 : List RA) => u9.length = (o9.2.1.1).length) C Cr h hQ ra_3 hra rfl rfl (Or.inl rfl) dX1_popInto_36
  refine v_aload_n (pc' := 1) C 0 dX1_popInto_0 rfl rfl ?_
  refine g_V_next (pc' := 4) C 0 in_X1_popInto_1 rfl k_X1_popInto_1 rfl dX1_popInto_1 rfl ?_
  refine v_if_ne C 11 7 h dX1_popInto_4 (by decide) rfl (fun _ h => ?_) (fun _ h => ?_)
  · refine v_aload_n (pc' := 12) C 0 dX1_popInto_11 rfl rfl ?_
    refine g_V_next (pc' := 15) C 0 in_X1_popInto_1 rfl k_X1_popInto_1 rfl dX1_popInto_12 rfl ?_
    refine v_iconst (pc' := 16) C (1) dX1_popInto_15 ic_1 rfl ?_
    refine v_isub (pc' := 17) C dX1_popInto_16 rfl ?_
    exact J17 zV zS ((zV.2.1) - (1 : Int32)) ra hra h
  · refine v_iconst (pc' := 8) C (5) dX1_popInto_7 ic_5 rfl ?_
    refine v_goto C (pc' := 17) dX1_popInto_8 (by decide) ?_
    exact J17 zV zS (5 : Int32) ra hra h
