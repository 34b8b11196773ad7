def f_X5_isLetter  (p0 : Int32) : Option (Int32) :=
  if p0 < (97 : Int32) then some (0 : Int32)
  else if p0 < (123 : Int32) then some (1 : Int32)
  else some (0 : Int32)
abbrev rm_X5_isLetter : Room := { frames := 0, cells := 0, slots := 0, locals := 0 }
theorem nd_X5_isLetter : yX5_isLetter.cls ≠ "java/lang/invoke/MethodHandle" ∧ yX5_isLetter.cls ≠ "java/lang/invoke/VarHandle" ∧ (parseMethodDescriptor yX5_isLetter.desc).map (fun d => d.parameters.length) = some 1 := by decide +kernel
set_option maxHeartbeats 4000000 in
set_option maxRecDepth 100000 in
theorem c_X5_isLetter (l : Launch) (g : Gv)   (p0 : Int32) (o : Int32) (h : f_X5_isLetter  p0 = some o) : Ct l g yX5_isLetter wsX5_isLetter rm_X5_isLetter [.int p0] ([]) (Qi g o (fun _ : Unit => []) (fun _ => True)) := by
  refine enter (ret := (some .boolean)) (X := []) (pl := []) pn_X5 rfl (Nat.le_of_ble_eq_true rfl) ((List.append_nil _).symm) ?_
  intro p e s m args below meth c A Q C Cr hin hQ
  unfold f_X5_isLetter at h
  refine v_iload_n (pc' := 1) C 0 dX5_isLetter_0 rfl rfl ?_
  refine v_bipush (pc' := 3) C (97) dX5_isLetter_1 bc_97 rfl ?_
  refine v_icmp_lt C 16 6 h dX5_isLetter_3 (by decide) rfl (fun _ h => ?_) (fun _ h => ?_)
  · refine v_iconst (pc' := 17) C (0) dX5_isLetter_16 ic_0 rfl ?_
    exact v_zret (rf := fun (o9 : Int32) => o9) (Wf := fun (o9 : Int32) (u9 : Unit) => []) (ok := fun (o9 : Int32) (u9 : Unit) => True) C Cr h hQ () trivial rfl rfl (Or.inl rfl) dX5_isLetter_17
  · refine v_iload_n (pc' := 7) C 0 dX5_isLetter_6 rfl rfl ?_
    refine v_bipush (pc' := 9) C (123) dX5_isLetter_7 bc_123 rfl ?_
    refine v_icmp_ge C 16 12 h dX5_isLetter_9 (by decide) rfl (fun _ h => ?_) (fun _ h => ?_)
    · refine v_iconst (pc' := 17) C (0) dX5_isLetter_16 ic_0 rfl ?_
      exact v_zret (rf := fun (o9 : Int32) => o9) (Wf := fun (o9 : Int32) (u9 : Unit) => []) (ok := fun (o9 : Int32) (u9 : Unit) => True) C Cr h hQ () trivial rfl rfl (Or.inl rfl) dX5_isLetter_17
    · refine v_iconst (pc' := 13) C (1) dX5_isLetter_12 ic_1 rfl ?_
      refine v_goto C (pc' := 17) dX5_isLetter_13 (by decide) ?_
      exact v_zret (rf := fun (o9 : Int32) => o9) (Wf := fun (o9 : Int32) (u9 : Unit) => []) (ok := fun (o9 : Int32) (u9 : Unit) => True) C Cr h hQ () trivial rfl rfl (Or.inr rfl) dX5_isLetter_17
def f_X2_isRunning (zS : St)  : Option (Int32) :=
  if (S_status zS) = (1 : Int32) then some (1 : Int32)
  else some (0 : Int32)
abbrev rm_X2_isRunning : Room := { frames := 0, cells := 0, slots := 0, locals := 0 }
theorem in_X2_isRunning_2 : ∀ w ∈ wsX20, w ∈ wsX2_isRunning := fun _ h => List.mem_cons_of_mem _ (List.mem_append_right _ h)
theorem k_X2_isRunning_1 : Cond.fieldLink RX2 35 "DodgingHangman$State" "status" "I" ∈ wsX2_isRunning := List.mem_of_getElem? (i := 1) rfl
theorem nd_X2_isRunning : yX2_isRunning.cls ≠ "java/lang/invoke/MethodHandle" ∧ yX2_isRunning.cls ≠ "java/lang/invoke/VarHandle" ∧ (parseMethodDescriptor yX2_isRunning.desc).map (fun d => d.parameters.length) = some 0 := by decide +kernel
set_option maxHeartbeats 4000000 in
set_option maxRecDepth 100000 in
theorem c_X2_isRunning (l : Launch) (g : Gv) (aS : RA) (zS : St)  (o : Int32) (h : f_X2_isRunning zS  = some o) : Ct l g yX2_isRunning wsX2_isRunning rm_X2_isRunning [.ref aS.1] (wS g aS zS) (Qi g o (fun _ : Unit => wS g aS zS) (fun _ => True)) := by
  refine enter (ret := (some .boolean)) (X := wS g aS zS) (pl := []) pn_X2 rfl (Nat.le_of_ble_eq_true rfl) ((List.append_nil _).symm) ?_
  intro p e s m args below meth c A Q C Cr hin hQ
  unfold f_X2_isRunning at h
  refine v_aload_n (pc' := 1) C 0 dX2_isRunning_0 rfl rfl ?_
  refine g_S_status (pc' := 4) C 0 in_X2_isRunning_2 rfl k_X2_isRunning_1 rfl dX2_isRunning_1 rfl ?_
  refine v_iconst (pc' := 5) C (1) dX2_isRunning_4 ic_1 rfl ?_
  refine v_icmp_ne C 12 8 h dX2_isRunning_5 (by decide) rfl (fun _ h => ?_) (fun _ h => ?_)
  · refine v_iconst (pc' := 13) C (0) dX2_isRunning_12 ic_0 rfl ?_
    exact v_zret (rf := fun (o9 : Int32) => o9) (Wf := fun (o9 : Int32) (u9 : Unit) => wS g aS zS) (ok := fun (o9 : Int32) (u9 : Unit) => True) C Cr h hQ () trivial rfl rfl (Or.inl rfl) dX2_isRunning_13
  · refine v_iconst (pc' := 9) C (1) dX2_isRunning_8 ic_1 rfl ?_
    refine v_goto C (pc' := 13) dX2_isRunning_9 (by decide) ?_
    exact v_zret (rf := fun (o9 : Int32) => o9) (Wf := fun (o9 : Int32) (u9 : Unit) => wS g aS zS) (ok := fun (o9 : Int32) (u9 : Unit) => True) C Cr h hQ () trivial rfl rfl (Or.inr rfl) dX2_isRunning_13
def f_X2_copyFrom (zS : St) (zO : St)  : Option (St) :=
  lett (S_list_set zS (va_cpy (S_list zO) (S_list zS) 0 0 30)) fun zS_1 =>
  lett (S_lettersInOrder_set zS_1 (va_cpy (S_lettersInOrder zO) (S_lettersInOrder zS_1) 0 0 26)) fun zS_2 =>
  lett (S_totals_set zS_2 (va_cpy (S_totals zO) (S_totals zS_2) 0 0 7)) fun zS_3 =>
  lett (S_wordCount_set zS_3 (S_wordCount zO)) fun zS_4 =>
  lett (S_policy_set zS_4 (S_policy zO)) fun zS_5 =>
  lett (S_status_set zS_5 (S_status zO)) fun zS_6 =>
  lett (S_length_set zS_6 (S_length zO)) fun zS_7 =>
  lett (S_lives_set zS_7 (S_lives zO)) fun zS_8 =>
  lett (S_candidates_set zS_8 (S_candidates zO)) fun zS_9 =>
  lett (S_guessed_set zS_9 (S_guessed zO)) fun zS_10 =>
  lett (S_guessCount_set zS_10 (S_guessCount zO)) fun zS_11 =>
  lett (S_pattern_set zS_11 (S_pattern zO)) fun zS_12 =>
  some zS_12
abbrev rm_X2_copyFrom : Room := { frames := 1, cells := 0, slots := 0, locals := 26 }
theorem in_X2_copyFrom_2 : ∀ w ∈ wsX20, w ∈ wsX2_copyFrom := fun _ h => List.mem_cons_of_mem _ (List.mem_append_right _ h)
theorem k_X2_copyFrom_1 : Cond.fieldLink RX2 9 "DodgingHangman$State" "list" "[J" ∈ wsX2_copyFrom := List.mem_of_getElem? (i := 1) rfl
theorem k_X2_copyFrom_6 : Cond.fieldLink RX2 15 "DodgingHangman$State" "lettersInOrder" "[I" ∈ wsX2_copyFrom := List.mem_of_getElem? (i := 6) rfl
theorem k_X2_copyFrom_7 : Cond.fieldLink RX2 19 "DodgingHangman$State" "totals" "[I" ∈ wsX2_copyFrom := List.mem_of_getElem? (i := 7) rfl
theorem k_X2_copyFrom_8 : Cond.fieldLink RX2 28 "DodgingHangman$State" "wordCount" "I" ∈ wsX2_copyFrom := List.mem_of_getElem? (i := 8) rfl
theorem k_X2_copyFrom_9 : Cond.fieldLink RX2 32 "DodgingHangman$State" "policy" "I" ∈ wsX2_copyFrom := List.mem_of_getElem? (i := 9) rfl
theorem k_X2_copyFrom_10 : Cond.fieldLink RX2 35 "DodgingHangman$State" "status" "I" ∈ wsX2_copyFrom := List.mem_of_getElem? (i := 10) rfl
theorem k_X2_copyFrom_11 : Cond.fieldLink RX2 38 "DodgingHangman$State" "length" "I" ∈ wsX2_copyFrom := List.mem_of_getElem? (i := 11) rfl
theorem k_X2_copyFrom_12 : Cond.fieldLink RX2 41 "DodgingHangman$State" "lives" "I" ∈ wsX2_copyFrom := List.mem_of_getElem? (i := 12) rfl
theorem k_X2_copyFrom_13 : Cond.fieldLink RX2 44 "DodgingHangman$State" "candidates" "I" ∈ wsX2_copyFrom := List.mem_of_getElem? (i := 13) rfl
theorem k_X2_copyFrom_14 : Cond.fieldLink RX2 47 "DodgingHangman$State" "guessed" "I" ∈ wsX2_copyFrom := List.mem_of_getElem? (i := 14) rfl
theorem k_X2_copyFrom_15 : Cond.fieldLink RX2 50 "DodgingHangman$State" "guessCount" "I" ∈ wsX2_copyFrom := List.mem_of_getElem? (i := 15) rfl
theorem k_X2_copyFrom_16 : Cond.fieldLink RX2 53 "DodgingHangman$State" "pattern" "J" ∈ wsX2_copyFrom := List.mem_of_getElem? (i := 16) rfl
theorem k_X2_copyFrom_2 : Cond.methodLink RX2 22 arraycopyName ∈ wsX2_copyFrom := List.mem_of_getElem? (i := 2) rfl
theorem k_X2_copyFrom_3 : Cond.native arraycopyName ∈ wsX2_copyFrom := List.mem_of_getElem? (i := 3) rfl
theorem k_X2_copyFrom_4 : Cond.static arraycopyName ∈ wsX2_copyFrom := List.mem_of_getElem? (i := 4) rfl
theorem k_X2_copyFrom_5 : Cond.initialized "java/lang/System" ∈ wsX2_copyFrom := List.mem_of_getElem? (i := 5) rfl
theorem nd_X2_copyFrom : yX2_copyFrom.cls ≠ "java/lang/invoke/MethodHandle" ∧ yX2_copyFrom.cls ≠ "java/lang/invoke/VarHandle" ∧ (parseMethodDescriptor yX2_copyFrom.desc).map (fun d => d.parameters.length) = some 1 := by decide +kernel
set_option maxHeartbeats 4000000 in
set_option maxRecDepth 100000 in
theorem c_X2_copyFrom (l : Launch) (g : Gv) (aS : RA) (aO : RA) (zS : St) (zO : St)  (o : St) (h : f_X2_copyFrom zS zO  = some o) : Ct l g yX2_copyFrom wsX2_copyFrom rm_X2_copyFrom [.ref aS.1, .ref aO.1] (wS g aS zS ++ wS g aO zO) (Qv g (fun _ : Unit => wS g aS o ++ wS g aO zO) (fun _ => True)) := by
  refine enter (ret := none) (X := wS g aS zS ++ wS g aO zO) (pl := []) pn_X2 rfl (Nat.le_of_ble_eq_true rfl) ((List.append_nil _).symm) ?_
  intro p e s m args below meth c A Q C Cr hin hQ
  unfold f_X2_copyFrom at h
  refine v_aload_n (pc' := 1) C 1 dX2_copyFrom_0 rfl rfl ?_
  refine g_S_list (pc' := 4) C 4 in_X2_copyFrom_2 rfl k_X2_copyFrom_1 rfl dX2_copyFrom_1 rfl ?_
  refine v_iconst (pc' := 5) C (0) dX2_copyFrom_4 ic_0 rfl ?_
  refine v_aload_n (pc' := 6) C 0 dX2_copyFrom_5 rfl rfl ?_
  refine g_S_list (pc' := 9) C 0 in_X2_copyFrom_2 rfl k_X2_copyFrom_1 rfl dX2_copyFrom_6 rfl ?_
  refine v_iconst (pc' := 10) C (0) dX2_copyFrom_9 ic_0 rfl ?_
  refine v_bipush (pc' := 12) C (30) dX2_copyFrom_10 bc_30 rfl ?_
  refine v_copyl (pc' := 15) C h 5 1 (fun z9 => wS g aS z9 ++ wS g aO zO) rfl rfl k_X2_copyFrom_2 k_X2_copyFrom_3 k_X2_copyFrom_4 k_X2_copyFrom_5 (by decide) (by decide) (by decide) (Nat.le_of_ble_eq_true rfl) (Nat.le_of_ble_eq_true rfl) (Nat.le_of_ble_eq_true rfl) (Nat.le_of_ble_eq_true rfl) rfl dX2_copyFrom_12 rfl (fun zS_1 h => ?_)
  refine v_aload_n (pc' := 16) C 1 dX2_copyFrom_15 rfl rfl ?_
  refine g_S_lettersInOrder (pc' := 19) C 4 in_X2_copyFrom_2 rfl k_X2_copyFrom_6 rfl dX2_copyFrom_16 rfl ?_
  refine v_iconst (pc' := 20) C (0) dX2_copyFrom_19 ic_0 rfl ?_
  refine v_aload_n (pc' := 21) C 0 dX2_copyFrom_20 rfl rfl ?_
  refine g_S_lettersInOrder (pc' := 24) C 0 in_X2_copyFrom_2 rfl k_X2_copyFrom_6 rfl dX2_copyFrom_21 rfl ?_
  refine v_iconst (pc' := 25) C (0) dX2_copyFrom_24 ic_0 rfl ?_
  refine v_bipush (pc' := 27) C (26) dX2_copyFrom_25 bc_26 rfl ?_
  refine v_copyi (pc' := 30) C h 6 2 (fun z9 => wS g aS z9 ++ wS g aO zO) rfl rfl k_X2_copyFrom_2 k_X2_copyFrom_3 k_X2_copyFrom_4 k_X2_copyFrom_5 (by decide) (by decide) (by decide) (Nat.le_of_ble_eq_true rfl) (Nat.le_of_ble_eq_true rfl) (Nat.le_of_ble_eq_true rfl) (Nat.le_of_ble_eq_true rfl) rfl dX2_copyFrom_27 rfl (fun zS_2 h => ?_)
  refine v_aload_n (pc' := 31) C 1 dX2_copyFrom_30 rfl rfl ?_
  refine g_S_totals (pc' := 34) C 4 in_X2_copyFrom_2 rfl k_X2_copyFrom_7 rfl dX2_copyFrom_31 rfl ?_
  refine v_iconst (pc' := 35) C (0) dX2_copyFrom_34 ic_0 rfl ?_
  refine v_aload_n (pc' := 36) C 0 dX2_copyFrom_35 rfl rfl ?_
  refine g_S_totals (pc' := 39) C 0 in_X2_copyFrom_2 rfl k_X2_copyFrom_7 rfl dX2_copyFrom_36 rfl ?_
  refine v_iconst (pc' := 40) C (0) dX2_copyFrom_39 ic_0 rfl ?_
  refine v_bipush (pc' := 42) C (7) dX2_copyFrom_40 bc_7 rfl ?_
  refine v_copyi (pc' := 45) C h 7 3 (fun z9 => wS g aS z9 ++ wS g aO zO) rfl rfl k_X2_copyFrom_2 k_X2_copyFrom_3 k_X2_copyFrom_4 k_X2_copyFrom_5 (by decide) (by decide) (by decide) (Nat.le_of_ble_eq_true rfl) (Nat.le_of_ble_eq_true rfl) (Nat.le_of_ble_eq_true rfl) (Nat.le_of_ble_eq_true rfl) rfl dX2_copyFrom_42 rfl (fun zS_3 h => ?_)
  refine v_aload_n (pc' := 46) C 0 dX2_copyFrom_45 rfl rfl ?_
  refine v_aload_n (pc' := 47) C 1 dX2_copyFrom_46 rfl rfl ?_
  refine g_S_wordCount (pc' := 50) C 4 in_X2_copyFrom_2 rfl k_X2_copyFrom_8 rfl dX2_copyFrom_47 rfl ?_
  refine p_S_wordCount (pc' := 53) C h 0 (fun z9 => wS g aS z9 ++ wS g aO zO) in_X2_copyFrom_2 rfl k_X2_copyFrom_8 rfl dX2_copyFrom_50 (Nat.le_of_ble_eq_true rfl) rfl (fun zS_4 h => ?_)
  refine v_aload_n (pc' := 54) C 0 dX2_copyFrom_53 rfl rfl ?_
  refine v_aload_n (pc' := 55) C 1 dX2_copyFrom_54 rfl rfl ?_
  refine g_S_policy (pc' := 58) C 4 in_X2_copyFrom_2 rfl k_X2_copyFrom_9 rfl dX2_copyFrom_55 rfl ?_
  refine p_S_policy (pc' := 61) C h 0 (fun z9 => wS g aS z9 ++ wS g aO zO) in_X2_copyFrom_2 rfl k_X2_copyFrom_9 rfl dX2_copyFrom_58 (Nat.le_of_ble_eq_true rfl) rfl (fun zS_5 h => ?_)
  refine v_aload_n (pc' := 62) C 0 dX2_copyFrom_61 rfl rfl ?_
  refine v_aload_n (pc' := 63) C 1 dX2_copyFrom_62 rfl rfl ?_
  refine g_S_status (pc' := 66) C 4 in_X2_copyFrom_2 rfl k_X2_copyFrom_10 rfl dX2_copyFrom_63 rfl ?_
  refine p_S_status (pc' := 69) C h 0 (fun z9 => wS g aS z9 ++ wS g aO zO) in_X2_copyFrom_2 rfl k_X2_copyFrom_10 rfl dX2_copyFrom_66 (Nat.le_of_ble_eq_true rfl) rfl (fun zS_6 h => ?_)
  refine v_aload_n (pc' := 70) C 0 dX2_copyFrom_69 rfl rfl ?_
  refine v_aload_n (pc' := 71) C 1 dX2_copyFrom_70 rfl rfl ?_
  refine g_S_length (pc' := 74) C 4 in_X2_copyFrom_2 rfl k_X2_copyFrom_11 rfl dX2_copyFrom_71 rfl ?_
  refine p_S_length (pc' := 77) C h 0 (fun z9 => wS g aS z9 ++ wS g aO zO) in_X2_copyFrom_2 rfl k_X2_copyFrom_11 rfl dX2_copyFrom_74 (Nat.le_of_ble_eq_true rfl) rfl (fun zS_7 h => ?_)
  refine v_aload_n (pc' := 78) C 0 dX2_copyFrom_77 rfl rfl ?_
  refine v_aload_n (pc' := 79) C 1 dX2_copyFrom_78 rfl rfl ?_
  refine g_S_lives (pc' := 82) C 4 in_X2_copyFrom_2 rfl k_X2_copyFrom_12 rfl dX2_copyFrom_79 rfl ?_
  refine p_S_lives (pc' := 85) C h 0 (fun z9 => wS g aS z9 ++ wS g aO zO) in_X2_copyFrom_2 rfl k_X2_copyFrom_12 rfl dX2_copyFrom_82 (Nat.le_of_ble_eq_true rfl) rfl (fun zS_8 h => ?_)
  refine v_aload_n (pc' := 86) C 0 dX2_copyFrom_85 rfl rfl ?_
  refine v_aload_n (pc' := 87) C 1 dX2_copyFrom_86 rfl rfl ?_
  refine g_S_candidates (pc' := 90) C 4 in_X2_copyFrom_2 rfl k_X2_copyFrom_13 rfl dX2_copyFrom_87 rfl ?_
  refine p_S_candidates (pc' := 93) C h 0 (fun z9 => wS g aS z9 ++ wS g aO zO) in_X2_copyFrom_2 rfl k_X2_copyFrom_13 rfl dX2_copyFrom_90 (Nat.le_of_ble_eq_true rfl) rfl (fun zS_9 h => ?_)
  refine v_aload_n (pc' := 94) C 0 dX2_copyFrom_93 rfl rfl ?_
  refine v_aload_n (pc' := 95) C 1 dX2_copyFrom_94 rfl rfl ?_
  refine g_S_guessed (pc' := 98) C 4 in_X2_copyFrom_2 rfl k_X2_copyFrom_14 rfl dX2_copyFrom_95 rfl ?_
  refine p_S_guessed (pc' := 101) C h 0 (fun z9 => wS g aS z9 ++ wS g aO zO) in_X2_copyFrom_2 rfl k_X2_copyFrom_14 rfl dX2_copyFrom_98 (Nat.le_of_ble_eq_true rfl) rfl (fun zS_10 h => ?_)
  refine v_aload_n (pc' := 102) C 0 dX2_copyFrom_101 rfl rfl ?_
  refine v_aload_n (pc' := 103) C 1 dX2_copyFrom_102 rfl rfl ?_
  refine g_S_guessCount (pc' := 106) C 4 in_X2_copyFrom_2 rfl k_X2_copyFrom_15 rfl dX2_copyFrom_103 rfl ?_
  refine p_S_guessCount (pc' := 109) C h 0 (fun z9 => wS g aS z9 ++ wS g aO zO) in_X2_copyFrom_2 rfl k_X2_copyFrom_15 rfl dX2_copyFrom_106 (Nat.le_of_ble_eq_true rfl) rfl (fun zS_11 h => ?_)
  refine v_aload_n (pc' := 110) C 0 dX2_copyFrom_109 rfl rfl ?_
  refine v_aload_n (pc' := 111) C 1 dX2_copyFrom_110 rfl rfl ?_
  refine g_S_pattern (pc' := 114) C 4 in_X2_copyFrom_2 rfl k_X2_copyFrom_16 rfl dX2_copyFrom_111 rfl ?_
  refine p_S_pattern (pc' := 117) C h 0 (fun z9 => wS g aS z9 ++ wS g aO zO) in_X2_copyFrom_2 rfl k_X2_copyFrom_16 rfl dX2_copyFrom_114 (Nat.le_of_ble_eq_true rfl) rfl (fun zS_12 h => ?_)
  exact v_vret (Wf := fun (o9 : St) (u9 : Unit) => wS g aS o9 ++ wS g aO zO) (ok := fun (o9 : St) (u9 : Unit) => True) C Cr h hQ () trivial rfl dX2_copyFrom_117
def f_X4_shiftOf  (p0 : Int32) : Option (Int32) :=
  some ((5 : Int32) * ((7 : Int32) - p0))
abbrev rm_X4_shiftOf : Room := { frames := 0, cells := 0, slots := 0, locals := 0 }
theorem nd_X4_shiftOf : yX4_shiftOf.cls ≠ "java/lang/invoke/MethodHandle" ∧ yX4_shiftOf.cls ≠ "java/lang/invoke/VarHandle" ∧ (parseMethodDescriptor yX4_shiftOf.desc).map (fun d => d.parameters.length) = some 1 := by decide +kernel
set_option maxHeartbeats 4000000 in
set_option maxRecDepth 100000 in
theorem c_X4_shiftOf (l : Launch) (g : Gv)   (p0 : Int32) (o : Int32) (h : f_X4_shiftOf  p0 = some o) : Ct l g yX4_shiftOf wsX4_shiftOf rm_X4_shiftOf [.int p0] ([]) (Qi g o (fun _ : Unit => []) (fun _ => True)) := by
  refine enter (ret := (some .int)) (X := []) (pl := []) pn_X4 rfl (Nat.le_of_ble_eq_true rfl) ((List.append_nil _).symm) ?_
  intro p e s m args below meth c A Q C Cr hin hQ
  unfold f_X4_shiftOf at h
  refine v_iconst (pc' := 1) C (5) dX4_shiftOf_0 ic_5 rfl ?_
  refine v_bipush (pc' := 3) C (7) dX4_shiftOf_1 bc_7 rfl ?_
  refine v_iload_n (pc' := 4) C 0 dX4_shiftOf_3 rfl rfl ?_
  refine v_isub (pc' := 5) C dX4_shiftOf_4 rfl ?_
  refine v_imul (pc' := 6) C dX4_shiftOf_5 rfl ?_
  exact v_iret (rf := fun (o9 : Int32) => o9) (Wf := fun (o9 : Int32) (u9 : Unit) => []) (ok := fun (o9 : Int32) (u9 : Unit) => True) C Cr h hQ () trivial rfl rfl dX4_shiftOf_6
def f_X4_withLetter  (p0 : Int64) (p2 : Int32) (p3 : Int32) : Option (Int64) :=
  if p2 < 0 then some p0
  else if p2 < (8 : Int32) then Option.bind (f_X5_isLetter p3) fun r_1 =>
  if r_1 = 0 then some p0
  else Option.bind (f_X4_shiftOf p2) fun r_2 =>
  some (p0 ||| ((((p3 - (96 : Int32))).toInt64) <<< ((r_2).toInt64 &&& 63)))
  else some p0
abbrev rm_X4_withLetter : Room := { frames := 1, cells := 0, slots := 0, locals := 20 }
theorem k_X4_withLetter_2 : Cond.initialized RX5 ∈ wsX4_withLetter := List.mem_of_getElem? (i := 2) rfl
theorem k_X4_withLetter_1 : Cond.static yX5_isLetter ∈ wsX4_withLetter := List.mem_of_getElem? (i := 1) rfl
theorem nd_X4_withLetter : yX4_withLetter.cls ≠ "java/lang/invoke/MethodHandle" ∧ yX4_withLetter.cls ≠ "java/lang/invoke/VarHandle" ∧ (parseMethodDescriptor yX4_withLetter.desc).map (fun d => d.parameters.length) = some 3 := by decide +kernel
set_option maxHeartbeats 4000000 in
set_option maxRecDepth 100000 in
theorem c_X4_withLetter (l : Launch) (g : Gv)   (p0 : Int64) (p2 : Int32) (p3 : Int32) (o : Int64) (h : f_X4_withLetter  p0 p2 p3 = some o) : Ct l g yX4_withLetter wsX4_withLetter rm_X4_withLetter [.long p0, .int p2, .int p3] ([]) (Ql g o (fun _ : Unit => []) (fun _ => True)) := by
  refine enter (ret := (some .long)) (X := []) (pl := []) pn_X4 rfl (Nat.le_of_ble_eq_true rfl) ((List.append_nil _).symm) ?_
  intro p e s m args below meth c A Q C Cr hin hQ
  unfold f_X4_withLetter at h
  refine v_iload_n (pc' := 1) C 1 dX4_withLetter_0 rfl rfl ?_
  refine v_if_lt C 17 4 h dX4_withLetter_1 (by decide) rfl (fun _ h => ?_) (fun _ h => ?_)
  · refine v_lload_n (pc' := 18) C 0 dX4_withLetter_17 rfl rfl ?_
    exact v_lret (rf := fun (o9 : Int64) => o9) (Wf := fun (o9 : Int64) (u9 : Unit) => []) (ok := fun (o9 : Int64) (u9 : Unit) => True) C Cr h hQ () trivial rfl rfl dX4_withLetter_18
  · refine v_iload_n (pc' := 5) C 1 dX4_withLetter_4 rfl rfl ?_
    refine v_bipush (pc' := 7) C (8) dX4_withLetter_5 bc_8 rfl ?_
    refine v_icmp_ge C 17 10 h dX4_withLetter_7 (by decide) rfl (fun _ h => ?_) (fun _ h => ?_)
    · refine v_lload_n (pc' := 18) C 0 dX4_withLetter_17 rfl rfl ?_
      exact v_lret (rf := fun (o9 : Int64) => o9) (Wf := fun (o9 : Int64) (u9 : Unit) => []) (ok := fun (o9 : Int64) (u9 : Unit) => True) C Cr h hQ () trivial rfl rfl dX4_withLetter_18
    · refine v_iload_n (pc' := 11) C 2 dX4_withLetter_10 rfl rfl ?_
      refine v_purei (pc' := 14) C h (rf := fun r9 => r9) (fun r hr => run_SN C (c_X5_isLetter l g _ r hr) gX4_withLetter_X5_isLetter_n15 rfl nd_X5_isLetter (List.mem_of_getElem? (i := 5) rfl) k_X4_withLetter_2 k_X4_withLetter_1 ⟨Nat.le_of_ble_eq_true rfl, Nat.le_of_ble_eq_true rfl⟩ ⟨Nat.le_of_ble_eq_true rfl, Nat.le_of_ble_eq_true rfl⟩ (Nat.le_of_ble_eq_true rfl) dX4_withLetter_11 rfl) rfl (fun r_1 h => ?_)
      refine v_if_ne C 19 17 h dX4_withLetter_14 (by decide) rfl (fun _ h => ?_) (fun _ h => ?_)
      · refine v_lload_n (pc' := 20) C 0 dX4_withLetter_19 rfl rfl ?_
        refine v_iload_n (pc' := 21) C 2 dX4_withLetter_20 rfl rfl ?_
        refine v_bipush (pc' := 23) C (96) dX4_withLetter_21 bc_96 rfl ?_
        refine v_isub (pc' := 24) C dX4_withLetter_23 rfl ?_
        refine v_i2l (pc' := 25) C dX4_withLetter_24 rfl ?_
        refine v_iload_n (pc' := 26) C 1 dX4_withLetter_25 rfl rfl ?_
        refine v_purei (pc' := 29) C h (rf := fun r9 => r9) (fun r hr => run_S C (c_X4_shiftOf l g _ r hr) gX4_withLetter_X4_shiftOf rfl nd_X4_shiftOf ⟨Nat.le_of_ble_eq_true rfl, Nat.le_of_ble_eq_true rfl⟩ ⟨Nat.le_of_ble_eq_true rfl, Nat.le_of_ble_eq_true rfl⟩ (Nat.le_of_ble_eq_true rfl) dX4_withLetter_26 rfl) rfl (fun r_2 h => ?_)
        refine v_lshl (pc' := 30) C dX4_withLetter_29 rfl ?_
        refine v_lor (pc' := 31) C dX4_withLetter_30 rfl ?_
        exact v_lret (rf := fun (o9 : Int64) => o9) (Wf := fun (o9 : Int64) (u9 : Unit) => []) (ok := fun (o9 : Int64) (u9 : Unit) => True) C Cr h hQ () trivial rfl rfl dX4_withLetter_31
      · refine v_lload_n (pc' := 18) C 0 dX4_withLetter_17 rfl rfl ?_
        exact v_lret (rf := fun (o9 : Int64) => o9) (Wf := fun (o9 : Int64) (u9 : Unit) => []) (ok := fun (o9 : Int64) (u9 : Unit) => True) C Cr h hQ () trivial rfl rfl dX4_withLetter_18
def f_X2_hasWord (zS : St) (p1 : Int32) : Option (Int32) :=
  if p1 < 0 then some (0 : Int32)
  else if p1 < (S_wordCount zS) then if p1 < (30 : Int32) then some (1 : Int32)
  else some (0 : Int32)
  else some (0 : Int32)
abbrev rm_X2_hasWord : Room := { frames := 0, cells := 0, slots := 0, locals := 0 }
theorem in_X2_hasWord_2 : ∀ w ∈ wsX20, w ∈ wsX2_hasWord := fun _ h => List.mem_cons_of_mem _ (List.mem_append_right _ h)
theorem k_X2_hasWord_1 : Cond.fieldLink RX2 28 "DodgingHangman$State" "wordCount" "I" ∈ wsX2_hasWord := List.mem_of_getElem? (i := 1) rfl
theorem nd_X2_hasWord : yX2_hasWord.cls ≠ "java/lang/invoke/MethodHandle" ∧ yX2_hasWord.cls ≠ "java/lang/invoke/VarHandle" ∧ (parseMethodDescriptor yX2_hasWord.desc).map (fun d => d.parameters.length) = some 1 := by decide +kernel
set_option maxHeartbeats 4000000 in
set_option maxRecDepth 100000 in
theorem c_X2_hasWord (l : Launch) (g : Gv) (aS : RA) (zS : St) (p1 : Int32) (o : Int32) (h : f_X2_hasWord zS p1 = some o) : Ct l g yX2_hasWord wsX2_hasWord rm_X2_hasWord [.ref aS.1, .int p1] (wS g aS zS) (Qi g o (fun _ : Unit => wS g aS zS) (fun _ => True)) := by
  refine enter (ret := (some .boolean)) (X := wS g aS zS) (pl := []) pn_X2 rfl (Nat.le_of_ble_eq_true rfl) ((List.append_nil _).symm) ?_
  intro p e s m args below meth c A Q C Cr hin hQ
  unfold f_X2_hasWord at h
  refine v_iload_n (pc' := 1) C 1 dX2_hasWord_0 rfl rfl ?_
  refine v_if_lt C 22 4 h dX2_hasWord_1 (by decide) rfl (fun _ h => ?_) (fun _ h => ?_)
  · refine v_iconst (pc' := 23) C (0) dX2_hasWord_22 ic_0 rfl ?_
    exact v_zret (rf := fun (o9 : Int32) => o9) (Wf := fun (o9 : Int32) (u9 : Unit) => wS g aS zS) (ok := fun (o9 : Int32) (u9 : Unit) => True) C Cr h hQ () trivial rfl rfl (Or.inl rfl) dX2_hasWord_23
  · refine v_iload_n (pc' := 5) C 1 dX2_hasWord_4 rfl rfl ?_
    refine v_aload_n (pc' := 6) C 0 dX2_hasWord_5 rfl rfl ?_
    refine g_S_wordCount (pc' := 9) C 0 in_X2_hasWord_2 rfl k_X2_hasWord_1 rfl dX2_hasWord_6 rfl ?_
    refine v_icmp_ge C 22 12 h dX2_hasWord_9 (by decide) rfl (fun _ h => ?_) (fun _ h => ?_)
    · refine v_iconst (pc' := 23) C (0) dX2_hasWord_22 ic_0 rfl ?_
      exact v_zret (rf := fun (o9 : Int32) => o9) (Wf := fun (o9 : Int32) (u9 : Unit) => wS g aS zS) (ok := fun (o9 : Int32) (u9 : Unit) => True) C Cr h hQ () trivial rfl rfl (Or.inl rfl) dX2_hasWord_23
    · refine v_iload_n (pc' := 13) C 1 dX2_hasWord_12 rfl rfl ?_
      refine v_bipush (pc' := 15) C (30) dX2_hasWord_13 bc_30 rfl ?_
      refine v_icmp_ge C 22 18 h dX2_hasWord_15 (by decide) rfl (fun _ h => ?_) (fun _ h => ?_)
      · refine v_iconst (pc' := 23) C (0) dX2_hasWord_22 ic_0 rfl ?_
        exact v_zret (rf := fun (o9 : Int32) => o9) (Wf := fun (o9 : Int32) (u9 : Unit) => wS g aS zS) (ok := fun (o9 : Int32) (u9 : Unit) => True) C Cr h hQ () trivial rfl rfl (Or.inl rfl) dX2_hasWord_23
      · refine v_iconst (pc' := 19) C (1) dX2_hasWord_18 ic_1 rfl ?_
        refine v_goto C (pc' := 23) dX2_hasWord_19 (by decide) ?_
        exact v_zret (rf := fun (o9 : Int32) => o9) (Wf := fun (o9 : Int32) (u9 : Unit) => wS g aS zS) (ok := fun (o9 : Int32) (u9 : Unit) => True) C Cr h hQ () trivial rfl rfl (Or.inr rfl) dX2_hasWord_23
def f_X2_wordAt (zS : St) (p1 : Int32) : Option (Int64) :=
  Option.bind (f_X2_hasWord zS p1) fun r_1 =>
  if r_1 = 0 then some (0 : Int64)
  else getA (S_list zS) 30 p1 fun e_2 =>
  some e_2
abbrev rm_X2_wordAt : Room := { frames := 1, cells := 0, slots := 0, locals := 21 }
theorem in_X2_wordAt_2 : ∀ w ∈ wsX20, w ∈ wsX2_wordAt := fun _ h => List.mem_cons_of_mem _ (List.mem_append_right _ h)
theorem k_X2_wordAt_1 : Cond.fieldLink RX2 9 "DodgingHangman$State" "list" "[J" ∈ wsX2_wordAt := List.mem_of_getElem? (i := 1) rfl
theorem nd_X2_wordAt : yX2_wordAt.cls ≠ "java/lang/invoke/MethodHandle" ∧ yX2_wordAt.cls ≠ "java/lang/invoke/VarHandle" ∧ (parseMethodDescriptor yX2_wordAt.desc).map (fun d => d.parameters.length) = some 1 := by decide +kernel
set_option maxHeartbeats 4000000 in
set_option maxRecDepth 100000 in
theorem c_X2_wordAt (l : Launch) (g : Gv) (aS : RA) (zS : St) (p1 : Int32) (o : Int64) (h : f_X2_wordAt zS p1 = some o) : Ct l g yX2_wordAt wsX2_wordAt rm_X2_wordAt [.ref aS.1, .int p1] (wS g aS zS) (Ql g o (fun _ : Unit => wS g aS zS) (fun _ => True)) := by
  refine enter (ret := (some .long)) (X := wS g aS zS) (pl := []) pn_X2 rfl (Nat.le_of_ble_eq_true rfl) ((List.append_nil _).symm) ?_
  intro p e s m args below meth c A Q C Cr hin hQ
  unfold f_X2_wordAt at h
  refine v_aload_n (pc' := 1) C 0 dX2_wordAt_0 rfl rfl ?_
  refine v_iload_n (pc' := 2) C 1 dX2_wordAt_1 rfl rfl ?_
  refine v_calli (pc' := 5) C h (rf := fun r9 => r9) ([]) (fun r9 (u9 : Unit) => wS g aS zS) (fun r hr => run_V C (c_X2_hasWord l g aS _ _ r hr) gX2_wordAt_X2_hasWord rfl nd_X2_hasWord rfl rfl rfl rfl ⟨Nat.le_of_ble_eq_true rfl, Nat.le_of_ble_eq_true rfl⟩ ⟨Nat.le_of_ble_eq_true rfl, Nat.le_of_ble_eq_true rfl⟩ (Nat.le_of_ble_eq_true rfl) dX2_wordAt_2 rfl) [0, 1, 2, 3] [] [0, 1, 2, 3] rfl rfl rfl rfl (by decide) rfl (fun _ _ => rfl) (k' := 0) (n' := 0) rfl rfl rfl (fun r_1 _ _ h => ?_)
  refine v_if_eq C 17 8 h dX2_wordAt_5 (by decide) rfl (fun _ h => ?_) (fun _ h => ?_)
  · refine v_lconst (pc' := 18) C (0) dX2_wordAt_17 lc_0 rfl ?_
    exact v_lret (rf := fun (o9 : Int64) => o9) (Wf := fun (o9 : Int64) (u9 : Unit) => wS g aS zS) (ok := fun (o9 : Int64) (u9 : Unit) => True) C Cr h hQ () trivial rfl rfl dX2_wordAt_18
  · refine v_aload_n (pc' := 9) C 0 dX2_wordAt_8 rfl rfl ?_
    refine g_S_list (pc' := 12) C 0 in_X2_wordAt_2 rfl k_X2_wordAt_1 rfl dX2_wordAt_9 rfl ?_
    refine v_iload_n (pc' := 13) C 1 dX2_wordAt_12 rfl rfl ?_
    refine v_lald (pc' := 14) C h 1 rfl dX2_wordAt_13 rfl (fun e_2 h => ?_)
    refine v_goto C (pc' := 18) dX2_wordAt_14 (by decide) ?_
    exact v_lret (rf := fun (o9 : Int64) => o9) (Wf := fun (o9 : Int64) (u9 : Unit) => wS g aS zS) (ok := fun (o9 : Int64) (u9 : Unit) => True) C Cr h hQ () trivial rfl rfl dX2_wordAt_18
def f_X2_numberOf_L2 (zS : St) (p1 : Int64) (re2 : Int32 → Option (Int32)) (v3_1 : Int32) : Option (Int32) :=
  if v3_1 < (S_wordCount zS) then Option.bind (f_X2_wordAt zS v3_1) fun r_2 =>
  if r_2 = p1 then some v3_1
  else lett (v3_1 + (1 : Int32)) fun v3_3 =>
  re2 v3_3
  else some (-1 : Int32)
def f_X2_numberOf (zS : St) (p1 : Int64) : Option (Int32) :=
  loop1 (f_X2_numberOf_L2 zS p1) FU (0 : Int32)
abbrev rm_X2_numberOf : Room := { frames := 2, cells := 0, slots := 0, locals := 42 }
theorem in_X2_numberOf_2 : ∀ w ∈ wsX20, w ∈ wsX2_numberOf := fun _ h => List.mem_cons_of_mem _ (List.mem_append_right _ h)
theorem k_X2_numberOf_1 : Cond.fieldLink RX2 28 "DodgingHangman$State" "wordCount" "I" ∈ wsX2_numberOf := List.mem_of_getElem? (i := 1) rfl
theorem nd_X2_numberOf : yX2_numberOf.cls ≠ "java/lang/invoke/MethodHandle" ∧ yX2_numberOf.cls ≠ "java/lang/invoke/VarHandle" ∧ (parseMethodDescriptor yX2_numberOf.desc).map (fun d => d.parameters.length) = some 1 := by decide +kernel
set_option maxHeartbeats 4000000 in
set_option maxRecDepth 100000 in
theorem c_X2_numberOf (l : Launch) (g : Gv) (aS : RA) (zS : St) (p1 : Int64) (o : Int32) (h : f_X2_numberOf zS p1 = some o) : Ct l g yX2_numberOf wsX2_numberOf rm_X2_numberOf [.ref aS.1, .long p1] (wS g aS zS) (Qi g o (fun _ : Unit => wS g aS zS) (fun _ => True)) := by
  refine enter (ret := (some .int)) (X := wS g aS zS) (pl := []) pn_X2 rfl (Nat.le_of_ble_eq_true rfl) ((List.append_nil _).symm) ?_
  intro p e s m args below meth c A Q C Cr hin hQ
  unfold f_X2_numberOf at h
  refine v_iconst (pc' := 1) C (0) dX2_numberOf_0 ic_0 rfl ?_
  refine v_istore_n (pc' := 2) C [1, 2, 0] (lv' := [(0, .ref aS.1), (1, .long p1), (3, .int (0 : Int32))]) dX2_numberOf_1 (Nat.le_of_ble_eq_true rfl) rfl rfl ?_
  refine v_loop1 (fun (v3_1 : Int32) => V p l e rm_X2_numberOf s m args below meth c g 4 A 0 0 Q (wS g aS zS) [] [(0, .ref aS.1), (1, .long p1), (3, .int v3_1)] 2 []) (fun re2 ih2 v3_1 h => ?_) (0 : Int32) h
  unfold f_X2_numberOf_L2 at h
  refine v_iload_n (pc' := 3) C 2 dX2_numberOf_2 rfl rfl ?_
  refine v_aload_n (pc' := 4) C 0 dX2_numberOf_3 rfl rfl ?_
  refine g_S_wordCount (pc' := 7) C 0 in_X2_numberOf_2 rfl k_X2_numberOf_1 rfl dX2_numberOf_4 rfl ?_
  refine v_icmp_ge C 28 10 h dX2_numberOf_7 (by decide) rfl (fun _ h => ?_) (fun _ h => ?_)
  · refine v_iconst (pc' := 29) C (-1) dX2_numberOf_28 ic_m1 rfl ?_
    exact v_iret (rf := fun (o9 : Int32) => o9) (Wf := fun (o9 : Int32) (u9 : Unit) => wS g aS zS) (ok := fun (o9 : Int32) (u9 : Unit) => True) C Cr h hQ () trivial rfl rfl dX2_numberOf_29
  · refine v_aload_n (pc' := 11) C 0 dX2_numberOf_10 rfl rfl ?_
    refine v_iload_n (pc' := 12) C 2 dX2_numberOf_11 rfl rfl ?_
    refine v_calll (pc' := 15) C h (rf := fun r9 => r9) ([]) (fun r9 (u9 : Unit) => wS g aS zS) (fun r hr => run_V C (c_X2_wordAt l g aS _ _ r hr) gX2_numberOf_X2_wordAt rfl nd_X2_wordAt rfl rfl rfl rfl ⟨Nat.le_of_ble_eq_true rfl, Nat.le_of_ble_eq_true rfl⟩ ⟨Nat.le_of_ble_eq_true rfl, Nat.le_of_ble_eq_true rfl⟩ (Nat.le_of_ble_eq_true rfl) dX2_numberOf_12 rfl) [0, 1, 2, 3] [] [0, 1, 2, 3] rfl rfl rfl rfl (by decide) rfl (fun _ _ => rfl) (k' := 0) (n' := 0) rfl rfl rfl (fun r_2 _ _ h => ?_)
    refine v_lload_n (pc' := 16) C 1 dX2_numberOf_15 rfl rfl ?_
    refine v_lcmp_ne C 22 20 h dX2_numberOf_16 dX2_numberOf_17 rfl (by decide) rfl (fun _ h => ?_) (fun _ h => ?_)
    · refine v_iinc (pc' := 25) C 2 [1, 2, 0] (1) dX2_numberOf_22 rfl ic_1 (Nat.le_of_ble_eq_true rfl) h (lw := fun v9 => [(0, .ref aS.1), (1, .long p1), (3, .int v9)]) (fun _ => rfl) rfl (fun v3_3 h => ?_)
      refine v_goto C (pc' := 2) dX2_numberOf_25 (by decide) ?_
      exact ih2 v3_3 h
    · refine v_iload_n (pc' := 21) C 2 dX2_numberOf_20 rfl rfl ?_
      exact v_iret (rf := fun (o9 : Int32) => o9) (Wf := fun (o9 : Int32) (u9 : Unit) => wS g aS zS) (ok := fun (o9 : Int32) (u9 : Unit) => True) C Cr h hQ () trivial rfl rfl dX2_numberOf_21
def f_X2_isInList (zS : St) (p1 : Int64) : Option (Int32) :=
  Option.bind (f_X2_numberOf zS p1) fun r_1 =>
  if r_1 = (-1 : Int32) then some (0 : Int32)
  else some (1 : Int32)
abbrev rm_X2_isInList : Room := { frames := 3, cells := 0, slots := 0, locals := 65 }
theorem nd_X2_isInList : yX2_isInList.cls ≠ "java/lang/invoke/MethodHandle" ∧ yX2_isInList.cls ≠ "java/lang/invoke/VarHandle" ∧ (parseMethodDescriptor yX2_isInList.desc).map (fun d => d.parameters.length) = some 1 := by decide +kernel
set_option maxHeartbeats 4000000 in
set_option maxRecDepth 100000 in
theorem c_X2_isInList (l : Launch) (g : Gv) (aS : RA) (zS : St) (p1 : Int64) (o : Int32) (h : f_X2_isInList zS p1 = some o) : Ct l g yX2_isInList wsX2_isInList rm_X2_isInList [.ref aS.1, .long p1] (wS g aS zS) (Qi g o (fun _ : Unit => wS g aS zS) (fun _ => True)) := by
  refine enter (ret := (some .boolean)) (X := wS g aS zS) (pl := []) pn_X2 rfl (Nat.le_of_ble_eq_true rfl) ((List.append_nil _).symm) ?_
  intro p e s m args below meth c A Q C Cr hin hQ
  unfold f_X2_isInList at h
  refine v_aload_n (pc' := 1) C 0 dX2_isInList_0 rfl rfl ?_
  refine v_lload_n (pc' := 2) C 1 dX2_isInList_1 rfl rfl ?_
  refine v_calli (pc' := 5) C h (rf := fun r9 => r9) ([]) (fun r9 (u9 : Unit) => wS g aS zS) (fun r hr => run_V C (c_X2_numberOf l g aS _ _ r hr) gX2_isInList_X2_numberOf rfl nd_X2_numberOf rfl rfl rfl rfl ⟨Nat.le_of_ble_eq_true rfl, Nat.le_of_ble_eq_true rfl⟩ ⟨Nat.le_of_ble_eq_true rfl, Nat.le_of_ble_eq_true rfl⟩ (Nat.le_of_ble_eq_true rfl) dX2_isInList_2 rfl) [0, 1, 2, 3] [] [0, 1, 2, 3] rfl rfl rfl rfl (by decide) rfl (fun _ _ => rfl) (k' := 0) (n' := 0) rfl rfl rfl (fun r_1 _ _ h => ?_)
  refine v_iconst (pc' := 6) C (-1) dX2_isInList_5 ic_m1 rfl ?_
  refine v_icmp_eq C 13 9 h dX2_isInList_6 (by decide) rfl (fun _ h => ?_) (fun _ h => ?_)
  · refine v_iconst (pc' := 14) C (0) dX2_isInList_13 ic_0 rfl ?_
    exact v_zret (rf := fun (o9 : Int32) => o9) (Wf := fun (o9 : Int32) (u9 : Unit) => wS g aS zS) (ok := fun (o9 : Int32) (u9 : Unit) => True) C Cr h hQ () trivial rfl rfl (Or.inl rfl) dX2_isInList_14
  · refine v_iconst (pc' := 10) C (1) dX2_isInList_9 ic_1 rfl ?_
    refine v_goto C (pc' := 14) dX2_isInList_10 (by decide) ?_
    exact v_zret (rf := fun (o9 : Int32) => o9) (Wf := fun (o9 : Int32) (u9 : Unit) => wS g aS zS) (ok := fun (o9 : Int32) (u9 : Unit) => True) C Cr h hQ () trivial rfl rfl (Or.inr rfl) dX2_isInList_14
def f_X2_insert_J60 (p1 : Int64) (v3_4 : Int32) (zS_5 : St) : Option (Int32 × St) :=
  chkA 30 v3_4 (lett (S_list_set zS_5 (vp_updL (S_list zS_5) (v3_4).toNatClampNeg p1)) fun zS_6 =>
  lett (S_wordCount_set zS_6 ((S_wordCount zS_6) + (1 : Int32))) fun zS_7 =>
  some ((1 : Int32), zS_7))
def f_X2_insert_L23 (p1 : Int64) (re23 : Int32 → St → Option (Int32 × St)) (v3_2 : Int32) (zS_3 : St) : Option (Int32 × St) :=
  if 0 < v3_2 then getA (S_list zS_3) 30 (v3_2 - (1 : Int32)) fun e_8 =>
  if p1 < e_8 then getA (S_list zS_3) 30 (v3_2 - (1 : Int32)) fun e_9 =>
  chkA 30 v3_2 (lett (S_list_set zS_3 (vp_updL (S_list zS_3) (v3_2).toNatClampNeg e_9)) fun zS_10 =>
  lett (v3_2 + (-1 : Int32)) fun v3_11 =>
  re23 v3_11 zS_10)
  else f_X2_insert_J60 p1 v3_2 zS_3
  else f_X2_insert_J60 p1 v3_2 zS_3
def f_X2_insert (zS : St) (p1 : Int64) : Option (Int32 × St) :=
  if (S_wordCount zS) < 0 then some ((0 : Int32), zS)
  else if (S_wordCount zS) < (30 : Int32) then lett (S_wordCount zS) fun v3_1 =>
  loop2 (f_X2_insert_L23 p1) FU v3_1 zS
  else some ((0 : Int32), zS)
abbrev rm_X2_insert : Room := { frames := 0, cells := 0, slots := 0, locals := 0 }
theorem in_X2_insert_2 : ∀ w ∈ wsX20, w ∈ wsX2_insert := fun _ h => List.mem_cons_of_mem _ (List.mem_append_right _ h)
theorem k_X2_insert_1 : Cond.fieldLink RX2 28 "DodgingHangman$State" "wordCount" "I" ∈ wsX2_insert := List.mem_of_getElem? (i := 1) rfl
theorem k_X2_insert_2 : Cond.fieldLink RX2 9 "DodgingHangman$State" "list" "[J" ∈ wsX2_insert := List.mem_of_getElem? (i := 2) rfl
theorem nd_X2_insert : yX2_insert.cls ≠ "java/lang/invoke/MethodHandle" ∧ yX2_insert.cls ≠ "java/lang/invoke/VarHandle" ∧ (parseMethodDescriptor yX2_insert.desc).map (fun d => d.parameters.length) = some 1 := by decide +kernel
set_option maxHeartbeats 4000000 in
set_option maxRecDepth 100000 in
theorem c_X2_insert (l : Launch) (g : Gv) (aS : RA) (zS : St) (p1 : Int64) (o : Int32 × St) (h : f_X2_insert zS p1 = some o) : Ct l g yX2_insert wsX2_insert rm_X2_insert [.ref aS.1, .long p1] (wS g aS zS) (Qi g o.1 (fun _ : Unit => wS g aS o.2) (fun _ => True)) := by
  refine enter (ret := (some .boolean)) (X := wS g aS zS) (pl := []) pn_X2 rfl (Nat.le_of_ble_eq_true rfl) ((List.append_nil _).symm) ?_
  intro p e s m args below meth c A Q C Cr hin hQ
  unfold f_X2_insert at h
  have J60 : ∀ (v3_4 : Int32) (zS_5 : St), f_X2_insert_J60 p1 v3_4 zS_5 = some o → V p l e rm_X2_insert s m args below meth c g 4 A 0 0 Q (wS g aS zS_5) [] [(0, .ref aS.1), (1, .long p1), (3, .int v3_4)] 60 [] := by
    intro v3_4 zS_5 h
    unfold f_X2_insert_J60 at h
    refine v_aload_n (pc' := 61) C 0 dX2_insert_60 rfl rfl ?_
    refine g_S_list (pc' := 64) C 0 in_X2_insert_2 rfl k_X2_insert_2 rfl dX2_insert_61 rfl ?_
    refine v_iload_n (pc' := 65) C 2 dX2_insert_64 rfl rfl ?_
    refine v_lload_n (pc' := 66) C 1 dX2_insert_65 rfl rfl ?_
    refine v_last (pc' := 67) C h 1 (fun z9 => wS g aS z9) rfl rfl dX2_insert_66 rfl (fun zS_6 h => ?_)
    refine v_aload_n (pc' := 68) C 0 dX2_insert_67 rfl rfl ?_
    refine v_dup (pc' := 69) C dX2_insert_68 rfl rfl ?_
    refine g_S_wordCount (pc' := 72) C 0 in_X2_insert_2 rfl k_X2_insert_1 rfl dX2_insert_69 rfl ?_
    refine v_iconst (pc' := 73) C (1) dX2_insert_72 ic_1 rfl ?_
    refine v_iadd (pc' := 74) C dX2_insert_73 rfl ?_
    refine p_S_wordCount (pc' := 77) C h 0 (fun z9 => wS g aS z9) in_X2_insert_2 rfl k_X2_insert_1 rfl dX2_insert_74 (Nat.le_of_ble_eq_true rfl) rfl (fun zS_7 h => ?_)
    refine v_iconst (pc' := 78) C (1) dX2_insert_77 ic_1 rfl ?_
    exact v_zret (rf := fun (o9 : Int32 × St) => o9.1) (Wf := fun (o9 : Int32 × St) (u9 : Unit) => wS g aS o9.2) (ok := fun (o9 : Int32 × St) (u9 : Unit) => True) C Cr h hQ () trivial rfl rfl (Or.inr rfl) dX2_insert_78
  refine v_aload_n (pc' := 1) C 0 dX2_insert_0 rfl rfl ?_
  refine g_S_wordCount (pc' := 4) C 0 in_X2_insert_2 rfl k_X2_insert_1 rfl dX2_insert_1 rfl ?_
  refine v_if_lt C 16 7 h dX2_insert_4 (by decide) rfl (fun _ h => ?_) (fun _ h => ?_)
  · refine v_iconst (pc' := 17) C (0) dX2_insert_16 ic_0 rfl ?_
    exact v_zret (rf := fun (o9 : Int32 × St) => o9.1) (Wf := fun (o9 : Int32 × St) (u9 : Unit) => wS g aS o9.2) (ok := fun (o9 : Int32 × St) (u9 : Unit) => True) C Cr h hQ () trivial rfl rfl (Or.inl rfl) dX2_insert_17
  · refine v_aload_n (pc' := 8) C 0 dX2_insert_7 rfl rfl ?_
    refine g_S_wordCount (pc' := 11) C 0 in_X2_insert_2 rfl k_X2_insert_1 rfl dX2_insert_8 rfl ?_
    refine v_bipush (pc' := 13) C (30) dX2_insert_11 bc_30 rfl ?_
    refine v_icmp_lt C 18 16 h dX2_insert_13 (by decide) rfl (fun _ h => ?_) (fun _ h => ?_)
    · refine v_aload_n (pc' := 19) C 0 dX2_insert_18 rfl rfl ?_
      refine g_S_wordCount (pc' := 22) C 0 in_X2_insert_2 rfl k_X2_insert_1 rfl dX2_insert_19 rfl ?_
      refine v_leti h (fun v3_1 h => ?_)
      refine v_istore_n (pc' := 23) C [1, 2, 0] (lv' := [(0, .ref aS.1), (1, .long p1), (3, .int v3_1)]) dX2_insert_22 (Nat.le_of_ble_eq_true rfl) rfl rfl ?_
      refine v_loop2 (fun (v3_2 : Int32) (zS_3 : St) => V p l e rm_X2_insert s m args below meth c g 4 A 0 0 Q (wS g aS zS_3) [] [(0, .ref aS.1), (1, .long p1), (3, .int v3_2)] 23 []) (fun re23 ih23 v3_2 zS_3 h => ?_) v3_1 zS h
      unfold f_X2_insert_L23 at h
      refine v_iload_n (pc' := 24) C 2 dX2_insert_23 rfl rfl ?_
      refine v_if_le C 60 27 h dX2_insert_24 (by decide) rfl (fun _ h => ?_) (fun _ h => ?_)
      · exact J60 v3_2 zS_3 h
      · refine v_aload_n (pc' := 28) C 0 dX2_insert_27 rfl rfl ?_
        refine g_S_list (pc' := 31) C 0 in_X2_insert_2 rfl k_X2_insert_2 rfl dX2_insert_28 rfl ?_
        refine v_iload_n (pc' := 32) C 2 dX2_insert_31 rfl rfl ?_
        refine v_iconst (pc' := 33) C (1) dX2_insert_32 ic_1 rfl ?_
        refine v_isub (pc' := 34) C dX2_insert_33 rfl ?_
        refine v_lald (pc' := 35) C h 1 rfl dX2_insert_34 rfl (fun e_8 h => ?_)
        refine v_lload_n (pc' := 36) C 1 dX2_insert_35 rfl rfl ?_
        refine v_lcmp_le C 60 40 h dX2_insert_36 dX2_insert_37 rfl (by decide) rfl (fun _ h => ?_) (fun _ h => ?_)
        · exact J60 v3_2 zS_3 h
        · refine v_aload_n (pc' := 41) C 0 dX2_insert_40 rfl rfl ?_
          refine g_S_list (pc' := 44) C 0 in_X2_insert_2 rfl k_X2_insert_2 rfl dX2_insert_41 rfl ?_
          refine v_iload_n (pc' := 45) C 2 dX2_insert_44 rfl rfl ?_
          refine v_aload_n (pc' := 46) C 0 dX2_insert_45 rfl rfl ?_
          refine g_S_list (pc' := 49) C 0 in_X2_insert_2 rfl k_X2_insert_2 rfl dX2_insert_46 rfl ?_
          refine v_iload_n (pc' := 50) C 2 dX2_insert_49 rfl rfl ?_
          refine v_iconst (pc' := 51) C (1) dX2_insert_50 ic_1 rfl ?_
          refine v_isub (pc' := 52) C dX2_insert_51 rfl ?_
          refine v_lald (pc' := 53) C h 1 rfl dX2_insert_52 rfl (fun e_9 h => ?_)
          refine v_last (pc' := 54) C h 1 (fun z9 => wS g aS z9) rfl rfl dX2_insert_53 rfl (fun zS_10 h => ?_)
          refine v_iinc (pc' := 57) C 2 [1, 2, 0] (-1) dX2_insert_54 rfl ic_m1 (Nat.le_of_ble_eq_true rfl) h (lw := fun v9 => [(0, .ref aS.1), (1, .long p1), (3, .int v9)]) (fun _ => rfl) rfl (fun v3_11 h => ?_)
          refine v_goto C (pc' := 23) dX2_insert_57 (by decide) ?_
          exact ih23 v3_11 zS_10 h
    · refine v_iconst (pc' := 17) C (0) dX2_insert_16 ic_0 rfl ?_
      exact v_zret (rf := fun (o9 : Int32 × St) => o9.1) (Wf := fun (o9 : Int32 × St) (u9 : Unit) => wS g aS o9.2) (ok := fun (o9 : Int32 × St) (u9 : Unit) => True) C Cr h hQ () trivial rfl rfl (Or.inl rfl) dX2_insert_17
def f_X2_endWithoutGame (zS : St)  : Option (St) :=
  lett (S_status_set zS (0 : Int32)) fun zS_1 =>
  lett (S_length_set zS_1 (0 : Int32)) fun zS_2 =>
  lett (S_lives_set zS_2 (0 : Int32)) fun zS_3 =>
  lett (S_candidates_set zS_3 (0 : Int32)) fun zS_4 =>
  lett (S_guessed_set zS_4 (0 : Int32)) fun zS_5 =>
  lett (S_guessCount_set zS_5 (0 : Int32)) fun zS_6 =>
  lett (S_pattern_set zS_6 (0 : Int64)) fun zS_7 =>
  some zS_7
abbrev rm_X2_endWithoutGame : Room := { frames := 0, cells := 0, slots := 0, locals := 0 }
theorem in_X2_endWithoutGame_2 : ∀ w ∈ wsX20, w ∈ wsX2_endWithoutGame := fun _ h => List.mem_cons_of_mem _ (List.mem_append_right _ h)
theorem k_X2_endWithoutGame_1 : Cond.fieldLink RX2 35 "DodgingHangman$State" "status" "I" ∈ wsX2_endWithoutGame := List.mem_of_getElem? (i := 1) rfl
theorem k_X2_endWithoutGame_2 : Cond.fieldLink RX2 38 "DodgingHangman$State" "length" "I" ∈ wsX2_endWithoutGame := List.mem_of_getElem? (i := 2) rfl
theorem k_X2_endWithoutGame_3 : Cond.fieldLink RX2 41 "DodgingHangman$State" "lives" "I" ∈ wsX2_endWithoutGame := List.mem_of_getElem? (i := 3) rfl
theorem k_X2_endWithoutGame_4 : Cond.fieldLink RX2 44 "DodgingHangman$State" "candidates" "I" ∈ wsX2_endWithoutGame := List.mem_of_getElem? (i := 4) rfl
theorem k_X2_endWithoutGame_5 : Cond.fieldLink RX2 47 "DodgingHangman$State" "guessed" "I" ∈ wsX2_endWithoutGame := List.mem_of_getElem? (i := 5) rfl
theorem k_X2_endWithoutGame_6 : Cond.fieldLink RX2 50 "DodgingHangman$State" "guessCount" "I" ∈ wsX2_endWithoutGame := List.mem_of_getElem? (i := 6) rfl
theorem k_X2_endWithoutGame_7 : Cond.fieldLink RX2 53 "DodgingHangman$State" "pattern" "J" ∈ wsX2_endWithoutGame := List.mem_of_getElem? (i := 7) rfl
theorem nd_X2_endWithoutGame : yX2_endWithoutGame.cls ≠ "java/lang/invoke/MethodHandle" ∧ yX2_endWithoutGame.cls ≠ "java/lang/invoke/VarHandle" ∧ (parseMethodDescriptor yX2_endWithoutGame.desc).map (fun d => d.parameters.length) = some 0 := by decide +kernel
set_option maxHeartbeats 4000000 in
set_option maxRecDepth 100000 in
theorem c_X2_endWithoutGame (l : Launch) (g : Gv) (aS : RA) (zS : St)  (o : St) (h : f_X2_endWithoutGame zS  = some o) : Ct l g yX2_endWithoutGame wsX2_endWithoutGame rm_X2_endWithoutGame [.ref aS.1] (wS g aS zS) (Qv g (fun _ : Unit => wS g aS o) (fun _ => True)) := by
  refine enter (ret := none) (X := wS g aS zS) (pl := []) pn_X2 rfl (Nat.le_of_ble_eq_true rfl) ((List.append_nil _).symm) ?_
  intro p e s m args below meth c A Q C Cr hin hQ
  unfold f_X2_endWithoutGame at h
  refine v_aload_n (pc' := 1) C 0 dX2_endWithoutGame_0 rfl rfl ?_
  refine v_iconst (pc' := 2) C (0) dX2_endWithoutGame_1 ic_0 rfl ?_
  refine p_S_status (pc' := 5) C h 0 (fun z9 => wS g aS z9) in_X2_endWithoutGame_2 rfl k_X2_endWithoutGame_1 rfl dX2_endWithoutGame_2 (Nat.le_of_ble_eq_true rfl) rfl (fun zS_1 h => ?_)
  refine v_aload_n (pc' := 6) C 0 dX2_endWithoutGame_5 rfl rfl ?_
  refine v_iconst (pc' := 7) C (0) dX2_endWithoutGame_6 ic_0 rfl ?_
  refine p_S_length (pc' := 10) C h 0 (fun z9 => wS g aS z9) in_X2_endWithoutGame_2 rfl k_X2_endWithoutGame_2 rfl dX2_endWithoutGame_7 (Nat.le_of_ble_eq_true rfl) rfl (fun zS_2 h => ?_)
  refine v_aload_n (pc' := 11) C 0 dX2_endWithoutGame_10 rfl rfl ?_
  refine v_iconst (pc' := 12) C (0) dX2_endWithoutGame_11 ic_0 rfl ?_
  refine p_S_lives (pc' := 15) C h 0 (fun z9 => wS g aS z9) in_X2_endWithoutGame_2 rfl k_X2_endWithoutGame_3 rfl dX2_endWithoutGame_12 (Nat.le_of_ble_eq_true rfl) rfl (fun zS_3 h => ?_)
  refine v_aload_n (pc' := 16) C 0 dX2_endWithoutGame_15 rfl rfl ?_
  refine v_iconst (pc' := 17) C (0) dX2_endWithoutGame_16 ic_0 rfl ?_
  refine p_S_candidates (pc' := 20) C h 0 (fun z9 => wS g aS z9) in_X2_endWithoutGame_2 rfl k_X2_endWithoutGame_4 rfl dX2_endWithoutGame_17 (Nat.le_of_ble_eq_true rfl) rfl (fun zS_4 h => ?_)
  refine v_aload_n (pc' := 21) C 0 dX2_endWithoutGame_20 rfl rfl ?_
  refine v_iconst (pc' := 22) C (0) dX2_endWithoutGame_21 ic_0 rfl ?_
  refine p_S_guessed (pc' := 25) C h 0 (fun z9 => wS g aS z9) in_X2_endWithoutGame_2 rfl k_X2_endWithoutGame_5 rfl dX2_endWithoutGame_22 (Nat.le_of_ble_eq_true rfl) rfl (fun zS_5 h => ?_)
  refine v_aload_n (pc' := 26) C 0 dX2_endWithoutGame_25 rfl rfl ?_
  refine v_iconst (pc' := 27) C (0) dX2_endWithoutGame_26 ic_0 rfl ?_
  refine p_S_guessCount (pc' := 30) C h 0 (fun z9 => wS g aS z9) in_X2_endWithoutGame_2 rfl k_X2_endWithoutGame_6 rfl dX2_endWithoutGame_27 (Nat.le_of_ble_eq_true rfl) rfl (fun zS_6 h => ?_)
  refine v_aload_n (pc' := 31) C 0 dX2_endWithoutGame_30 rfl rfl ?_
  refine v_lconst (pc' := 32) C (0) dX2_endWithoutGame_31 lc_0 rfl ?_
  refine p_S_pattern (pc' := 35) C h 0 (fun z9 => wS g aS z9) in_X2_endWithoutGame_2 rfl k_X2_endWithoutGame_7 rfl dX2_endWithoutGame_32 (Nat.le_of_ble_eq_true rfl) rfl (fun zS_7 h => ?_)
  exact v_vret (Wf := fun (o9 : St) (u9 : Unit) => wS g aS o9) (ok := fun (o9 : St) (u9 : Unit) => True) C Cr h hQ () trivial rfl dX2_endWithoutGame_35
def f_X2_remove_L11  (re11 : Int32 → St → Option (St)) (v2_2 : Int32) (zS_3 : St) : Option (St) :=
  if v2_2 < (29 : Int32) then getA (S_list zS_3) 30 (v2_2 + (1 : Int32)) fun e_5 =>
  chkA 30 v2_2 (lett (S_list_set zS_3 (vp_updL (S_list zS_3) (v2_2).toNatClampNeg e_5)) fun zS_6 =>
  lett (v2_2 + (1 : Int32)) fun v2_7 =>
  re11 v2_7 zS_6)
  else lett (S_wordCount_set zS_3 ((S_wordCount zS_3) - (1 : Int32))) fun zS_4 =>
  some zS_4
def f_X2_remove (zS : St) (p1 : Int32) : Option (St) :=
  Option.bind (f_X2_hasWord zS p1) fun r_1 =>
  if r_1 = 0 then some zS
  else loop2 (f_X2_remove_L11 ) FU p1 zS
abbrev rm_X2_remove : Room := { frames := 1, cells := 0, slots := 0, locals := 21 }
theorem in_X2_remove_2 : ∀ w ∈ wsX20, w ∈ wsX2_remove := fun _ h => List.mem_cons_of_mem _ (List.mem_append_right _ h)
theorem k_X2_remove_2 : Cond.fieldLink RX2 28 "DodgingHangman$State" "wordCount" "I" ∈ wsX2_remove := List.mem_of_getElem? (i := 2) rfl
theorem k_X2_remove_1 : Cond.fieldLink RX2 9 "DodgingHangman$State" "list" "[J" ∈ wsX2_remove := List.mem_of_getElem? (i := 1) rfl
theorem nd_X2_remove : yX2_remove.cls ≠ "java/lang/invoke/MethodHandle" ∧ yX2_remove.cls ≠ "java/lang/invoke/VarHandle" ∧ (parseMethodDescriptor yX2_remove.desc).map (fun d => d.parameters.length) = some 1 := by decide +kernel
set_option maxHeartbeats 4000000 in
set_option maxRecDepth 100000 in
theorem c_X2_remove (l : Launch) (g : Gv) (aS : RA) (zS : St) (p1 : Int32) (o : St) (h : f_X2_remove zS p1 = some o) : Ct l g yX2_remove wsX2_remove rm_X2_remove [.ref aS.1, .int p1] (wS g aS zS) (Qv g (fun _ : Unit => wS g aS o) (fun _ => True)) := by
  refine enter (ret := none) (X := wS g aS zS) (pl := []) pn_X2 rfl (Nat.le_of_ble_eq_true rfl) ((List.append_nil _).symm) ?_
  intro p e s m args below meth c A Q C Cr hin hQ
  unfold f_X2_remove at h
  refine v_aload_n (pc' := 1) C 0 dX2_remove_0 rfl rfl ?_
  refine v_iload_n (pc' := 2) C 1 dX2_remove_1 rfl rfl ?_
  refine v_calli (pc' := 5) C h (rf := fun r9 => r9) ([]) (fun r9 (u9 : Unit) => wS g aS zS) (fun r hr => run_V C (c_X2_hasWord l g aS _ _ r hr) gX2_remove_X2_hasWord rfl nd_X2_hasWord rfl rfl rfl rfl ⟨Nat.le_of_ble_eq_true rfl, Nat.le_of_ble_eq_true rfl⟩ ⟨Nat.le_of_ble_eq_true rfl, Nat.le_of_ble_eq_true rfl⟩ (Nat.le_of_ble_eq_true rfl) dX2_remove_2 rfl) [0, 1, 2, 3] [] [0, 1, 2, 3] rfl rfl rfl rfl (by decide) rfl (fun _ _ => rfl) (k' := 0) (n' := 0) rfl rfl rfl (fun r_1 _ _ h => ?_)
  refine v_if_ne C 9 8 h dX2_remove_5 (by decide) rfl (fun _ h => ?_) (fun _ h => ?_)
  · refine v_iload_n (pc' := 10) C 1 dX2_remove_9 rfl rfl ?_
    refine v_istore_n (pc' := 11) C [1, 2, 0] (lv' := [(0, .ref aS.1), (1, .int p1), (2, .int p1)]) dX2_remove_10 (Nat.le_of_ble_eq_true rfl) rfl rfl ?_
    refine v_lv [0, 2] (lv' := [(0, .ref aS.1), (2, .int p1)]) rfl ?_
    refine v_loop2 (fun (v2_2 : Int32) (zS_3 : St) => V p l e rm_X2_remove s m args below meth c g 3 A 0 0 Q (wS g aS zS_3) [] [(0, .ref aS.1), (2, .int v2_2)] 11 []) (fun re11 ih11 v2_2 zS_3 h => ?_) p1 zS h
    unfold f_X2_remove_L11 at h
    refine v_iload_n (pc' := 12) C 1 dX2_remove_11 rfl rfl ?_
    refine v_bipush (pc' := 14) C (29) dX2_remove_12 bc_29 rfl ?_
    refine v_icmp_ge C 37 17 h dX2_remove_14 (by decide) rfl (fun _ h => ?_) (fun _ h => ?_)
    · refine v_aload_n (pc' := 38) C 0 dX2_remove_37 rfl rfl ?_
      refine v_dup (pc' := 39) C dX2_remove_38 rfl rfl ?_
      refine g_S_wordCount (pc' := 42) C 0 in_X2_remove_2 rfl k_X2_remove_2 rfl dX2_remove_39 rfl ?_
      refine v_iconst (pc' := 43) C (1) dX2_remove_42 ic_1 rfl ?_
      refine v_isub (pc' := 44) C dX2_remove_43 rfl ?_
      refine p_S_wordCount (pc' := 47) C h 0 (fun z9 => wS g aS z9) in_X2_remove_2 rfl k_X2_remove_2 rfl dX2_remove_44 (Nat.le_of_ble_eq_true rfl) rfl (fun zS_4 h => ?_)
      exact v_vret (Wf := fun (o9 : St) (u9 : Unit) => wS g aS o9) (ok := fun (o9 : St) (u9 : Unit) => True) C Cr h hQ () trivial rfl dX2_remove_47
    · refine v_aload_n (pc' := 18) C 0 dX2_remove_17 rfl rfl ?_
      refine g_S_list (pc' := 21) C 0 in_X2_remove_2 rfl k_X2_remove_1 rfl dX2_remove_18 rfl ?_
      refine v_iload_n (pc' := 22) C 1 dX2_remove_21 rfl rfl ?_
      refine v_aload_n (pc' := 23) C 0 dX2_remove_22 rfl rfl ?_
      refine g_S_list (pc' := 26) C 0 in_X2_remove_2 rfl k_X2_remove_1 rfl dX2_remove_23 rfl ?_
      refine v_iload_n (pc' := 27) C 1 dX2_remove_26 rfl rfl ?_
      refine v_iconst (pc' := 28) C (1) dX2_remove_27 ic_1 rfl ?_
      refine v_iadd (pc' := 29) C dX2_remove_28 rfl ?_
      refine v_lald (pc' := 30) C h 1 rfl dX2_remove_29 rfl (fun e_5 h => ?_)
      refine v_last (pc' := 31) C h 1 (fun z9 => wS g aS z9) rfl rfl dX2_remove_30 rfl (fun zS_6 h => ?_)
      refine v_iinc (pc' := 34) C 1 [1, 0] (1) dX2_remove_31 rfl ic_1 (Nat.le_of_ble_eq_true rfl) h (lw := fun v9 => [(0, .ref aS.1), (2, .int v9)]) (fun _ => rfl) rfl (fun v2_7 h => ?_)
      refine v_goto C (pc' := 11) dX2_remove_34 (by decide) ?_
      exact ih11 v2_7 zS_6 h
  · exact v_vret (Wf := fun (o9 : St) (u9 : Unit) => wS g aS o9) (ok := fun (o9 : St) (u9 : Unit) => True) C Cr h hQ () trivial rfl dX2_remove_8
def f_X4_letterAt  (p0 : Int64) (p2 : Int32) : Option (Int32) :=
  if p2 < 0 then some (0 : Int32)
  else if p2 < (8 : Int32) then Option.bind (f_X4_shiftOf p2) fun r_1 =>
  lett ((((p0 >>> ((r_1).toInt64 &&& 63))).toInt32) &&& (31 : Int32)) fun v3_2 =>
  if v3_2 = 0 then some (0 : Int32)
  else some ((96 : Int32) + v3_2)
  else some (0 : Int32)
abbrev rm_X4_letterAt : Room := { frames := 1, cells := 0, slots := 0, locals := 20 }
theorem nd_X4_letterAt : yX4_letterAt.cls ≠ "java/lang/invoke/MethodHandle" ∧ yX4_letterAt.cls ≠ "java/lang/invoke/VarHandle" ∧ (parseMethodDescriptor yX4_letterAt.desc).map (fun d => d.parameters.length) = some 2 := by decide +kernel
set_option maxHeartbeats 4000000 in
set_option maxRecDepth 100000 in
theorem c_X4_letterAt (l : Launch) (g : Gv)   (p0 : Int64) (p2 : Int32) (o : Int32) (h : f_X4_letterAt  p0 p2 = some o) : Ct l g yX4_letterAt wsX4_letterAt rm_X4_letterAt [.long p0, .int p2] ([]) (Qi g o (fun _ : Unit => []) (fun _ => True)) := by
  refine enter (ret := (some .int)) (X := []) (pl := []) pn_X4 rfl (Nat.le_of_ble_eq_true rfl) ((List.append_nil _).symm) ?_
  intro p e s m args below meth c A Q C Cr hin hQ
  unfold f_X4_letterAt at h
  refine v_iload_n (pc' := 1) C 1 dX4_letterAt_0 rfl rfl ?_
  refine v_if_lt C 10 4 h dX4_letterAt_1 (by decide) rfl (fun _ h => ?_) (fun _ h => ?_)
  · refine v_iconst (pc' := 11) C (0) dX4_letterAt_10 ic_0 rfl ?_
    exact v_iret (rf := fun (o9 : Int32) => o9) (Wf := fun (o9 : Int32) (u9 : Unit) => []) (ok := fun (o9 : Int32) (u9 : Unit) => True) C Cr h hQ () trivial rfl rfl dX4_letterAt_11
  · refine v_iload_n (pc' := 5) C 1 dX4_letterAt_4 rfl rfl ?_
    refine v_bipush (pc' := 7) C (8) dX4_letterAt_5 bc_8 rfl ?_
    refine v_icmp_lt C 12 10 h dX4_letterAt_7 (by decide) rfl (fun _ h => ?_) (fun _ h => ?_)
    · refine v_lload_n (pc' := 13) C 0 dX4_letterAt_12 rfl rfl ?_
      refine v_iload_n (pc' := 14) C 1 dX4_letterAt_13 rfl rfl ?_
      refine v_purei (pc' := 17) C h (rf := fun r9 => r9) (fun r hr => run_S C (c_X4_shiftOf l g _ r hr) gX4_letterAt_X4_shiftOf rfl nd_X4_shiftOf ⟨Nat.le_of_ble_eq_true rfl, Nat.le_of_ble_eq_true rfl⟩ ⟨Nat.le_of_ble_eq_true rfl, Nat.le_of_ble_eq_true rfl⟩ (Nat.le_of_ble_eq_true rfl) dX4_letterAt_14 rfl) rfl (fun r_1 h => ?_)
      refine v_lshr (pc' := 18) C dX4_letterAt_17 rfl ?_
      refine v_l2i (pc' := 19) C dX4_letterAt_18 rfl ?_
      refine v_bipush (pc' := 21) C (31) dX4_letterAt_19 bc_31 rfl ?_
      refine v_iand (pc' := 22) C dX4_letterAt_21 rfl ?_
      refine v_leti h (fun v3_2 h => ?_)
      refine v_istore_n (pc' := 23) C [1, 2, 0] (lv' := [(0, .long p0), (2, .int p2), (3, .int v3_2)]) dX4_letterAt_22 (Nat.le_of_ble_eq_true rfl) rfl rfl ?_
      refine v_iload_n (pc' := 24) C 2 dX4_letterAt_23 rfl rfl ?_
      refine v_if_ne C 31 27 h dX4_letterAt_24 (by decide) rfl (fun _ h => ?_) (fun _ h => ?_)
      · refine v_bipush (pc' := 33) C (96) dX4_letterAt_31 bc_96 rfl ?_
        refine v_iload_n (pc' := 34) C 2 dX4_letterAt_33 rfl rfl ?_
        refine v_iadd (pc' := 35) C dX4_letterAt_34 rfl ?_
        exact v_iret (rf := fun (o9 : Int32) => o9) (Wf := fun (o9 : Int32) (u9 : Unit) => []) (ok := fun (o9 : Int32) (u9 : Unit) => True) C Cr h hQ () trivial rfl rfl dX4_letterAt_35
      · refine v_iconst (pc' := 28) C (0) dX4_letterAt_27 ic_0 rfl ?_
        refine v_goto C (pc' := 35) dX4_letterAt_28 (by decide) ?_
        exact v_iret (rf := fun (o9 : Int32) => o9) (Wf := fun (o9 : Int32) (u9 : Unit) => []) (ok := fun (o9 : Int32) (u9 : Unit) => True) C Cr h hQ () trivial rfl rfl dX4_letterAt_35
    · refine v_iconst (pc' := 11) C (0) dX4_letterAt_10 ic_0 rfl ?_
      exact v_iret (rf := fun (o9 : Int32) => o9) (Wf := fun (o9 : Int32) (u9 : Unit) => []) (ok := fun (o9 : Int32) (u9 : Unit) => True) C Cr h hQ () trivial rfl rfl dX4_letterAt_11
def f_X4_lengthOf_L4 (p0 : Int64) (re4 : Int32 → Int32 → Option (Int32)) (v2_1 : Int32) (v3_2 : Int32) : Option (Int32) :=
  if v3_2 < (8 : Int32) then Option.bind (f_X4_letterAt p0 v3_2) fun r_3 =>
  if r_3 = 0 then lett (v3_2 + (1 : Int32)) fun v3_4 =>
  re4 v2_1 v3_4
  else lett (v2_1 + (1 : Int32)) fun v2_5 =>
  lett (v3_2 + (1 : Int32)) fun v3_6 =>
  re4 v2_5 v3_6
  else some v2_1
def f_X4_lengthOf  (p0 : Int64) : Option (Int32) :=
  loop2 (f_X4_lengthOf_L4 p0) FU (0 : Int32) (0 : Int32)
abbrev rm_X4_lengthOf : Room := { frames := 2, cells := 0, slots := 0, locals := 43 }
theorem nd_X4_lengthOf : yX4_lengthOf.cls ≠ "java/lang/invoke/MethodHandle" ∧ yX4_lengthOf.cls ≠ "java/lang/invoke/VarHandle" ∧ (parseMethodDescriptor yX4_lengthOf.desc).map (fun d => d.parameters.length) = some 1 := by decide +kernel
set_option maxHeartbeats 4000000 in
set_option maxRecDepth 100000 in
theorem c_X4_lengthOf (l : Launch) (g : Gv)   (p0 : Int64) (o : Int32) (h : f_X4_lengthOf  p0 = some o) : Ct l g yX4_lengthOf wsX4_lengthOf rm_X4_lengthOf [.long p0] ([]) (Qi g o (fun _ : Unit => []) (fun _ => True)) := by
  refine enter (ret := (some .int)) (X := []) (pl := []) pn_X4 rfl (Nat.le_of_ble_eq_true rfl) ((List.append_nil _).symm) ?_
  intro p e s m args below meth c A Q C Cr hin hQ
  unfold f_X4_lengthOf at h
  refine v_iconst (pc' := 1) C (0) dX4_lengthOf_0 ic_0 rfl ?_
  refine v_istore_n (pc' := 2) C [1, 0] (lv' := [(0, .long p0), (2, .int (0 : Int32))]) dX4_lengthOf_1 (Nat.le_of_ble_eq_true rfl) rfl rfl ?_
  refine v_iconst (pc' := 3) C (0) dX4_lengthOf_2 ic_0 rfl ?_
  refine v_istore_n (pc' := 4) C [1, 2, 0] (lv' := [(0, .long p0), (2, .int (0 : Int32)), (3, .int (0 : Int32))]) dX4_lengthOf_3 (Nat.le_of_ble_eq_true rfl) rfl rfl ?_
  refine v_loop2 (fun (v2_1 : Int32) (v3_2 : Int32) => V p l e rm_X4_lengthOf s m args below meth c g 4 A 0 0 Q ([]) [] [(0, .long p0), (2, .int v2_1), (3, .int v3_2)] 4 []) (fun re4 ih4 v2_1 v3_2 h => ?_) (0 : Int32) (0 : Int32) h
  unfold f_X4_lengthOf_L4 at h
  refine v_iload_n (pc' := 5) C 2 dX4_lengthOf_4 rfl rfl ?_
  refine v_bipush (pc' := 7) C (8) dX4_lengthOf_5 bc_8 rfl ?_
  refine v_icmp_ge C 27 10 h dX4_lengthOf_7 (by decide) rfl (fun _ h => ?_) (fun _ h => ?_)
  · refine v_iload_n (pc' := 28) C 1 dX4_lengthOf_27 rfl rfl ?_
    exact v_iret (rf := fun (o9 : Int32) => o9) (Wf := fun (o9 : Int32) (u9 : Unit) => []) (ok := fun (o9 : Int32) (u9 : Unit) => True) C Cr h hQ () trivial rfl rfl dX4_lengthOf_28
  · refine v_lload_n (pc' := 11) C 0 dX4_lengthOf_10 rfl rfl ?_
    refine v_iload_n (pc' := 12) C 2 dX4_lengthOf_11 rfl rfl ?_
    refine v_purei (pc' := 15) C h (rf := fun r9 => r9) (fun r hr => run_S C (c_X4_letterAt l g _ _ r hr) gX4_lengthOf_X4_letterAt rfl nd_X4_letterAt ⟨Nat.le_of_ble_eq_true rfl, Nat.le_of_ble_eq_true rfl⟩ ⟨Nat.le_of_ble_eq_true rfl, Nat.le_of_ble_eq_true rfl⟩ (Nat.le_of_ble_eq_true rfl) dX4_lengthOf_12 rfl) rfl (fun r_3 h => ?_)
    refine v_if_eq C 21 18 h dX4_lengthOf_15 (by decide) rfl (fun _ h => ?_) (fun _ h => ?_)
    · refine v_iinc (pc' := 24) C 2 [1, 2, 0] (1) dX4_lengthOf_21 rfl ic_1 (Nat.le_of_ble_eq_true rfl) h (lw := fun v9 => [(0, .long p0), (2, .int v2_1), (3, .int v9)]) (fun _ => rfl) rfl (fun v3_4 h => ?_)
      refine v_goto C (pc' := 4) dX4_lengthOf_24 (by decide) ?_
      exact ih4 v2_1 v3_4 h
    · refine v_iinc (pc' := 21) C 1 [1, 0, 2] (1) dX4_lengthOf_18 rfl ic_1 (Nat.le_of_ble_eq_true rfl) h (lw := fun v9 => [(0, .long p0), (2, .int v9), (3, .int v3_2)]) (fun _ => rfl) rfl (fun v2_5 h => ?_)
      refine v_iinc (pc' := 24) C 2 [1, 2, 0] (1) dX4_lengthOf_21 rfl ic_1 (Nat.le_of_ble_eq_true rfl) h (lw := fun v9 => [(0, .long p0), (2, .int v2_5), (3, .int v9)]) (fun _ => rfl) rfl (fun v3_6 h => ?_)
      refine v_goto C (pc' := 4) dX4_lengthOf_24 (by decide) ?_
      exact ih4 v2_5 v3_6 h
def f_X2_wordsOfLength_L4 (zS : St) (p1 : Int32) (re4 : Int32 → Int32 → Option (Int32)) (v2_1 : Int32) (v3_2 : Int32) : Option (Int32) :=
  if v3_2 < (S_wordCount zS) then Option.bind (f_X2_wordAt zS v3_2) fun r_3 =>
  Option.bind (f_X4_lengthOf r_3) fun r_4 =>
  if r_4 = p1 then lett (v2_1 ||| ((1 : Int32) <<< (v3_2 &&& 31))) fun v2_6 =>
  lett (v3_2 + (1 : Int32)) fun v3_7 =>
  re4 v2_6 v3_7
  else lett (v3_2 + (1 : Int32)) fun v3_5 =>
  re4 v2_1 v3_5
  else some v2_1
def f_X2_wordsOfLength (zS : St) (p1 : Int32) : Option (Int32) :=
  loop2 (f_X2_wordsOfLength_L4 zS p1) FU (0 : Int32) (0 : Int32)
abbrev rm_X2_wordsOfLength : Room := { frames := 3, cells := 0, slots := 0, locals := 66 }
theorem in_X2_wordsOfLength_2 : ∀ w ∈ wsX20, w ∈ wsX2_wordsOfLength := fun _ h => List.mem_cons_of_mem _ (List.mem_append_right _ h)
theorem k_X2_wordsOfLength_1 : Cond.fieldLink RX2 28 "DodgingHangman$State" "wordCount" "I" ∈ wsX2_wordsOfLength := List.mem_of_getElem? (i := 1) rfl
theorem nd_X2_wordsOfLength : yX2_wordsOfLength.cls ≠ "java/lang/invoke/MethodHandle" ∧ yX2_wordsOfLength.cls ≠ "java/lang/invoke/VarHandle" ∧ (parseMethodDescriptor yX2_wordsOfLength.desc).map (fun d => d.parameters.length) = some 1 := by decide +kernel
set_option maxHeartbeats 4000000 in
set_option maxRecDepth 100000 in
theorem c_X2_wordsOfLength (l : Launch) (g : Gv) (aS : RA) (zS : St) (p1 : Int32) (o : Int32) (h : f_X2_wordsOfLength zS p1 = some o) : Ct l g yX2_wordsOfLength wsX2_wordsOfLength rm_X2_wordsOfLength [.ref aS.1, .int p1] (wS g aS zS) (Qi g o (fun _ : Unit => wS g aS zS) (fun _ => True)) := by
  refine enter (ret := (some .int)) (X := wS g aS zS) (pl := []) pn_X2 rfl (Nat.le_of_ble_eq_true rfl) ((List.append_nil _).symm) ?_
  intro p e s m args below meth c A Q C Cr hin hQ
  unfold f_X2_wordsOfLength at h
  refine v_iconst (pc' := 1) C (0) dX2_wordsOfLength_0 ic_0 rfl ?_
  refine v_istore_n (pc' := 2) C [1, 2, 0] (lv' := [(0, .ref aS.1), (1, .int p1), (2, .int (0 : Int32))]) dX2_wordsOfLength_1 (Nat.le_of_ble_eq_true rfl) rfl rfl ?_
  refine v_iconst (pc' := 3) C (0) dX2_wordsOfLength_2 ic_0 rfl ?_
  refine v_istore_n (pc' := 4) C [1, 2, 3, 0] (lv' := [(0, .ref aS.1), (1, .int p1), (2, .int (0 : Int32)), (3, .int (0 : Int32))]) dX2_wordsOfLength_3 (Nat.le_of_ble_eq_true rfl) rfl rfl ?_
  refine v_loop2 (fun (v2_1 : Int32) (v3_2 : Int32) => V p l e rm_X2_wordsOfLength s m args below meth c g 4 A 0 0 Q (wS g aS zS) [] [(0, .ref aS.1), (1, .int p1), (2, .int v2_1), (3, .int v3_2)] 4 []) (fun re4 ih4 v2_1 v3_2 h => ?_) (0 : Int32) (0 : Int32) h
  unfold f_X2_wordsOfLength_L4 at h
  refine v_iload_n (pc' := 5) C 3 dX2_wordsOfLength_4 rfl rfl ?_
  refine v_aload_n (pc' := 6) C 0 dX2_wordsOfLength_5 rfl rfl ?_
  refine g_S_wordCount (pc' := 9) C 0 in_X2_wordsOfLength_2 rfl k_X2_wordsOfLength_1 rfl dX2_wordsOfLength_6 rfl ?_
  refine v_icmp_ge C 36 12 h dX2_wordsOfLength_9 (by decide) rfl (fun _ h => ?_) (fun _ h => ?_)
  · refine v_iload_n (pc' := 37) C 2 dX2_wordsOfLength_36 rfl rfl ?_
    exact v_iret (rf := fun (o9 : Int32) => o9) (Wf := fun (o9 : Int32) (u9 : Unit) => wS g aS zS) (ok := fun (o9 : Int32) (u9 : Unit) => True) C Cr h hQ () trivial rfl rfl dX2_wordsOfLength_37
  · refine v_aload_n (pc' := 13) C 0 dX2_wordsOfLength_12 rfl rfl ?_
    refine v_iload_n (pc' := 14) C 3 dX2_wordsOfLength_13 rfl rfl ?_
    refine v_calll (pc' := 17) C h (rf := fun r9 => r9) ([]) (fun r9 (u9 : Unit) => wS g aS zS) (fun r hr => run_V C (c_X2_wordAt l g aS _ _ r hr) gX2_wordsOfLength_X2_wordAt rfl nd_X2_wordAt rfl rfl rfl rfl ⟨Nat.le_of_ble_eq_true rfl, Nat.le_of_ble_eq_true rfl⟩ ⟨Nat.le_of_ble_eq_true rfl, Nat.le_of_ble_eq_true rfl⟩ (Nat.le_of_ble_eq_true rfl) dX2_wordsOfLength_14 rfl) [0, 1, 2, 3] [] [0, 1, 2, 3] rfl rfl rfl rfl (by decide) rfl (fun _ _ => rfl) (k' := 0) (n' := 0) rfl rfl rfl (fun r_3 _ _ h => ?_)
    refine v_purei (pc' := 20) C h (rf := fun r9 => r9) (fun r hr => run_S C (c_X4_lengthOf l g _ r hr) gX2_wordsOfLength_X4_lengthOf rfl nd_X4_lengthOf ⟨Nat.le_of_ble_eq_true rfl, Nat.le_of_ble_eq_true rfl⟩ ⟨Nat.le_of_ble_eq_true rfl, Nat.le_of_ble_eq_true rfl⟩ (Nat.le_of_ble_eq_true rfl) dX2_wordsOfLength_17 rfl) rfl (fun r_4 h => ?_)
    refine v_iload_n (pc' := 21) C 1 dX2_wordsOfLength_20 rfl rfl ?_
    refine v_icmp_ne C 30 24 h dX2_wordsOfLength_21 (by decide) rfl (fun _ h => ?_) (fun _ h => ?_)
    · refine v_iinc (pc' := 33) C 3 [1, 2, 3, 0] (1) dX2_wordsOfLength_30 rfl ic_1 (Nat.le_of_ble_eq_true rfl) h (lw := fun v9 => [(0, .ref aS.1), (1, .int p1), (2, .int v2_1), (3, .int v9)]) (fun _ => rfl) rfl (fun v3_5 h => ?_)
      refine v_goto C (pc' := 4) dX2_wordsOfLength_33 (by decide) ?_
      exact ih4 v2_1 v3_5 h
    · refine v_iload_n (pc' := 25) C 2 dX2_wordsOfLength_24 rfl rfl ?_
      refine v_iconst (pc' := 26) C (1) dX2_wordsOfLength_25 ic_1 rfl ?_
      refine v_iload_n (pc' := 27) C 3 dX2_wordsOfLength_26 rfl rfl ?_
      refine v_ishl (pc' := 28) C dX2_wordsOfLength_27 rfl ?_
      refine v_ior (pc' := 29) C dX2_wordsOfLength_28 rfl ?_
      refine v_leti h (fun v2_6 h => ?_)
      refine v_istore_n (pc' := 30) C [1, 2, 0, 3] (lv' := [(0, .ref aS.1), (1, .int p1), (2, .int v2_6), (3, .int v3_2)]) dX2_wordsOfLength_29 (Nat.le_of_ble_eq_true rfl) rfl rfl ?_
      refine v_iinc (pc' := 33) C 3 [1, 2, 3, 0] (1) dX2_wordsOfLength_30 rfl ic_1 (Nat.le_of_ble_eq_true rfl) h (lw := fun v9 => [(0, .ref aS.1), (1, .int p1), (2, .int v2_6), (3, .int v9)]) (fun _ => rfl) rfl (fun v3_7 h => ?_)
      refine v_goto C (pc' := 4) dX2_wordsOfLength_33 (by decide) ?_
      exact ih4 v2_6 v3_7 h
def f_X2_count (zS : St) (p1 : Int32) : Option (St) :=
  if p1 < 0 then some zS
  else if p1 < (7 : Int32) then getA (S_totals zS) 7 p1 fun e_1 =>
  chkA 7 p1 (lett (S_totals_set zS (upd (S_totals zS) (p1).toNatClampNeg (e_1 + (1 : Int32)))) fun zS_2 =>
  some zS_2)
  else some zS
abbrev rm_X2_count : Room := { frames := 0, cells := 0, slots := 0, locals := 0 }
theorem in_X2_count_2 : ∀ w ∈ wsX20, w ∈ wsX2_count := fun _ h => List.mem_cons_of_mem _ (List.mem_append_right _ h)
theorem k_X2_count_1 : Cond.fieldLink RX2 19 "DodgingHangman$State" "totals" "[I" ∈ wsX2_count := List.mem_of_getElem? (i := 1) rfl
theorem nd_X2_count : yX2_count.cls ≠ "java/lang/invoke/MethodHandle" ∧ yX2_count.cls ≠ "java/lang/invoke/VarHandle" ∧ (parseMethodDescriptor yX2_count.desc).map (fun d => d.parameters.length) = some 1 := by decide +kernel
set_option maxHeartbeats 4000000 in
set_option maxRecDepth 100000 in
theorem c_X2_count (l : Launch) (g : Gv) (aS : RA) (zS : St) (p1 : Int32) (o : St) (h : f_X2_count zS p1 = some o) : Ct l g yX2_count wsX2_count rm_X2_count [.ref aS.1, .int p1] (wS g aS zS) (Qv g (fun _ : Unit => wS g aS o) (fun _ => True)) := by
  refine enter (ret := none) (X := wS g aS zS) (pl := []) pn_X2 rfl (Nat.le_of_ble_eq_true rfl) ((List.append_nil _).symm) ?_
  intro p e s m args below meth c A Q C Cr hin hQ
  unfold f_X2_count at h
  refine v_iload_n (pc' := 1) C 1 dX2_count_0 rfl rfl ?_
  refine v_if_lt C 20 4 h dX2_count_1 (by decide) rfl (fun _ h => ?_) (fun _ h => ?_)
  · exact v_vret (Wf := fun (o9 : St) (u9 : Unit) => wS g aS o9) (ok := fun (o9 : St) (u9 : Unit) => True) C Cr h hQ () trivial rfl dX2_count_20
  · refine v_iload_n (pc' := 5) C 1 dX2_count_4 rfl rfl ?_
    refine v_bipush (pc' := 7) C (7) dX2_count_5 bc_7 rfl ?_
    refine v_icmp_ge C 20 10 h dX2_count_7 (by decide) rfl (fun _ h => ?_) (fun _ h => ?_)
    · exact v_vret (Wf := fun (o9 : St) (u9 : Unit) => wS g aS o9) (ok := fun (o9 : St) (u9 : Unit) => True) C Cr h hQ () trivial rfl dX2_count_20
    · refine v_aload_n (pc' := 11) C 0 dX2_count_10 rfl rfl ?_
      refine g_S_totals (pc' := 14) C 0 in_X2_count_2 rfl k_X2_count_1 rfl dX2_count_11 rfl ?_
      refine v_iload_n (pc' := 15) C 1 dX2_count_14 rfl rfl ?_
      refine v_dup2 (pc' := 16) C dX2_count_15 rfl rfl rfl ?_
      refine v_iald (pc' := 17) C h 3 rfl dX2_count_16 rfl (fun e_1 h => ?_)
      refine v_iconst (pc' := 18) C (1) dX2_count_17 ic_1 rfl ?_
      refine v_iadd (pc' := 19) C dX2_count_18 rfl ?_
      refine v_iast (pc' := 20) C h 3 (fun z9 => wS g aS z9) rfl rfl dX2_count_19 rfl (fun zS_2 h => ?_)
      exact v_vret (Wf := fun (o9 : St) (u9 : Unit) => wS g aS o9) (ok := fun (o9 : St) (u9 : Unit) => True) C Cr h hQ () trivial rfl dX2_count_20
def f_X2_begin (zS : St) (p1 : Int32) (p2 : Int32) (p3 : Int32) : Option (St) :=
  Option.bind (f_X2_endWithoutGame zS) fun r_1 =>
  lett (S_status_set r_1 (1 : Int32)) fun zS_2 =>
  lett (S_length_set zS_2 p1) fun zS_3 =>
  lett (S_lives_set zS_3 p2) fun zS_4 =>
  lett (S_candidates_set zS_4 p3) fun zS_5 =>
  Option.bind (f_X2_count zS_5 (0 : Int32)) fun r_6 =>
  some r_6
abbrev rm_X2_begin : Room := { frames := 1, cells := 0, slots := 0, locals := 21 }
theorem in_X2_begin_2 : ∀ w ∈ wsX20, w ∈ wsX2_begin := fun _ h => List.mem_cons_of_mem _ (List.mem_append_right _ h)
theorem k_X2_begin_1 : Cond.fieldLink RX2 35 "DodgingHangman$State" "status" "I" ∈ wsX2_begin := List.mem_of_getElem? (i := 1) rfl
theorem k_X2_begin_2 : Cond.fieldLink RX2 38 "DodgingHangman$State" "length" "I" ∈ wsX2_begin := List.mem_of_getElem? (i := 2) rfl
theorem k_X2_begin_3 : Cond.fieldLink RX2 41 "DodgingHangman$State" "lives" "I" ∈ wsX2_begin := List.mem_of_getElem? (i := 3) rfl
theorem k_X2_begin_4 : Cond.fieldLink RX2 44 "DodgingHangman$State" "candidates" "I" ∈ wsX2_begin := List.mem_of_getElem? (i := 4) rfl
theorem nd_X2_begin : yX2_begin.cls ≠ "java/lang/invoke/MethodHandle" ∧ yX2_begin.cls ≠ "java/lang/invoke/VarHandle" ∧ (parseMethodDescriptor yX2_begin.desc).map (fun d => d.parameters.length) = some 3 := by decide +kernel
set_option maxHeartbeats 4000000 in
set_option maxRecDepth 100000 in
theorem c_X2_begin (l : Launch) (g : Gv) (aS : RA) (zS : St) (p1 : Int32) (p2 : Int32) (p3 : Int32) (o : St) (h : f_X2_begin zS p1 p2 p3 = some o) : Ct l g yX2_begin wsX2_begin rm_X2_begin [.ref aS.1, .int p1, .int p2, .int p3] (wS g aS zS) (Qv g (fun _ : Unit => wS g aS o) (fun _ => True)) := by
  refine enter (ret := none) (X := wS g aS zS) (pl := []) pn_X2 rfl (Nat.le_of_ble_eq_true rfl) ((List.append_nil _).symm) ?_
  intro p e s m args below meth c A Q C Cr hin hQ
  unfold f_X2_begin at h
  refine v_aload_n (pc' := 1) C 0 dX2_begin_0 rfl rfl ?_
  refine v_callv (pc' := 4) C h ([]) (fun r9 (u9 : Unit) => wS g aS r9) (fun r hr => run_V C (c_X2_endWithoutGame l g aS _ r hr) gX2_begin_X2_endWithoutGame rfl nd_X2_endWithoutGame rfl rfl rfl rfl ⟨Nat.le_of_ble_eq_true rfl, Nat.le_of_ble_eq_true rfl⟩ ⟨Nat.le_of_ble_eq_true rfl, Nat.le_of_ble_eq_true rfl⟩ (Nat.le_of_ble_eq_true rfl) dX2_begin_1 rfl) [0, 1, 2, 3] [] [0, 1, 2, 3] rfl rfl rfl rfl (by decide) rfl (fun _ _ => rfl) (k' := 0) (n' := 0) rfl rfl rfl (fun r_1 _ _ h => ?_)
  refine v_aload_n (pc' := 5) C 0 dX2_begin_4 rfl rfl ?_
  refine v_iconst (pc' := 6) C (1) dX2_begin_5 ic_1 rfl ?_
  refine p_S_status (pc' := 9) C h 0 (fun z9 => wS g aS z9) in_X2_begin_2 rfl k_X2_begin_1 rfl dX2_begin_6 (Nat.le_of_ble_eq_true rfl) rfl (fun zS_2 h => ?_)
  refine v_aload_n (pc' := 10) C 0 dX2_begin_9 rfl rfl ?_
  refine v_iload_n (pc' := 11) C 1 dX2_begin_10 rfl rfl ?_
  refine p_S_length (pc' := 14) C h 0 (fun z9 => wS g aS z9) in_X2_begin_2 rfl k_X2_begin_2 rfl dX2_begin_11 (Nat.le_of_ble_eq_true rfl) rfl (fun zS_3 h => ?_)
  refine v_aload_n (pc' := 15) C 0 dX2_begin_14 rfl rfl ?_
  refine v_iload_n (pc' := 16) C 2 dX2_begin_15 rfl rfl ?_
  refine p_S_lives (pc' := 19) C h 0 (fun z9 => wS g aS z9) in_X2_begin_2 rfl k_X2_begin_3 rfl dX2_begin_16 (Nat.le_of_ble_eq_true rfl) rfl (fun zS_4 h => ?_)
  refine v_aload_n (pc' := 20) C 0 dX2_begin_19 rfl rfl ?_
  refine v_iload_n (pc' := 21) C 3 dX2_begin_20 rfl rfl ?_
  refine p_S_candidates (pc' := 24) C h 0 (fun z9 => wS g aS z9) in_X2_begin_2 rfl k_X2_begin_4 rfl dX2_begin_21 (Nat.le_of_ble_eq_true rfl) rfl (fun zS_5 h => ?_)
  refine v_aload_n (pc' := 25) C 0 dX2_begin_24 rfl rfl ?_
  refine v_iconst (pc' := 26) C (0) dX2_begin_25 ic_0 rfl ?_
  refine v_callv (pc' := 29) C h ([]) (fun r9 (u9 : Unit) => wS g aS r9) (fun r hr => run_V C (c_X2_count l g aS _ _ r hr) gX2_begin_X2_count rfl nd_X2_count rfl rfl rfl rfl ⟨Nat.le_of_ble_eq_true rfl, Nat.le_of_ble_eq_true rfl⟩ ⟨Nat.le_of_ble_eq_true rfl, Nat.le_of_ble_eq_true rfl⟩ (Nat.le_of_ble_eq_true rfl) dX2_begin_26 rfl) [0, 1, 2, 3] [] [0, 1, 2, 3] rfl rfl rfl rfl (by decide) rfl (fun _ _ => rfl) (k' := 0) (n' := 0) rfl rfl rfl (fun r_6 _ _ h => ?_)
  exact v_vret (Wf := fun (o9 : St) (u9 : Unit) => wS g aS o9) (ok := fun (o9 : St) (u9 : Unit) => True) C Cr h hQ () trivial rfl dX2_begin_29
def f_J6_bitCount_0f7a4  (p0 : Int32) : Option (Int32) :=
  lett (p0 - ((((p0).toUInt32 >>> (((1 : Int32)).toUInt32 &&& Int32.toUInt32 31)).toInt32) &&& (1431655765 : Int32))) fun v0_1 =>
  lett ((v0_1 &&& (858993459 : Int32)) + ((((v0_1).toUInt32 >>> (((2 : Int32)).toUInt32 &&& Int32.toUInt32 31)).toInt32) &&& (858993459 : Int32))) fun v0_2 =>
  lett ((v0_2 + (((v0_2).toUInt32 >>> (((4 : Int32)).toUInt32 &&& Int32.toUInt32 31)).toInt32)) &&& (252645135 : Int32)) fun v0_3 =>
  lett (v0_3 + (((v0_3).toUInt32 >>> (((8 : Int32)).toUInt32 &&& Int32.toUInt32 31)).toInt32)) fun v0_4 =>
  lett (v0_4 + (((v0_4).toUInt32 >>> (((16 : Int32)).toUInt32 &&& Int32.toUInt32 31)).toInt32)) fun v0_5 =>
  some (v0_5 &&& (63 : Int32))
abbrev rm_J6_bitCount_0f7a4 : Room := { frames := 0, cells := 0, slots := 0, locals := 0 }
theorem k_J6_bitCount_0f7a4_1 : Cond.constant RJ6 265 (1431655765) ∈ wsJ6_bitCount_0f7a4 := List.mem_of_getElem? (i := 1) rfl
theorem k_J6_bitCount_0f7a4_2 : Cond.constant RJ6 266 (858993459) ∈ wsJ6_bitCount_0f7a4 := List.mem_of_getElem? (i := 2) rfl
theorem k_J6_bitCount_0f7a4_3 : Cond.constant RJ6 267 (252645135) ∈ wsJ6_bitCount_0f7a4 := List.mem_of_getElem? (i := 3) rfl
theorem nd_J6_bitCount_0f7a4 : yJ6_bitCount_0f7a4.cls ≠ "java/lang/invoke/MethodHandle" ∧ yJ6_bitCount_0f7a4.cls ≠ "java/lang/invoke/VarHandle" ∧ (parseMethodDescriptor yJ6_bitCount_0f7a4.desc).map (fun d => d.parameters.length) = some 1 := by decide +kernel
set_option maxHeartbeats 4000000 in
set_option maxRecDepth 100000 in
theorem c_J6_bitCount_0f7a4 (l : Launch) (g : Gv)   (p0 : Int32) (o : Int32) (h : f_J6_bitCount_0f7a4  p0 = some o) : Ct l g yJ6_bitCount_0f7a4 wsJ6_bitCount_0f7a4 rm_J6_bitCount_0f7a4 [.int p0] ([]) (Qi g o (fun _ : Unit => []) (fun _ => True)) := by
  refine enter (ret := (some .int)) (X := []) (pl := []) pn_J6 rfl (Nat.le_of_ble_eq_true rfl) ((List.append_nil _).symm) ?_
  intro p e s m args below meth c A Q C Cr hin hQ
  unfold f_J6_bitCount_0f7a4 at h
  refine v_iload_n (pc' := 1) C 0 dJ6_bitCount_0f7a4_0 rfl rfl ?_
  refine v_iload_n (pc' := 2) C 0 dJ6_bitCount_0f7a4_1 rfl rfl ?_
  refine v_iconst (pc' := 3) C (1) dJ6_bitCount_0f7a4_2 ic_1 rfl ?_
  refine v_iushr (pc' := 4) C dJ6_bitCount_0f7a4_3 rfl ?_
  refine v_ldcw (pc' := 7) C (1431655765) dJ6_bitCount_0f7a4_4 k_J6_bitCount_0f7a4_1 rfl ?_
  refine v_iand (pc' := 8) C dJ6_bitCount_0f7a4_7 rfl ?_
  refine v_isub (pc' := 9) C dJ6_bitCount_0f7a4_8 rfl ?_
  refine v_leti h (fun v0_1 h => ?_)
  refine v_istore_n (pc' := 10) C [0] (lv' := [(0, .int v0_1)]) dJ6_bitCount_0f7a4_9 (Nat.le_of_ble_eq_true rfl) rfl rfl ?_
  refine v_iload_n (pc' := 11) C 0 dJ6_bitCount_0f7a4_10 rfl rfl ?_
  refine v_ldcw (pc' := 14) C (858993459) dJ6_bitCount_0f7a4_11 k_J6_bitCount_0f7a4_2 rfl ?_
  refine v_iand (pc' := 15) C dJ6_bitCount_0f7a4_14 rfl ?_
  refine v_iload_n (pc' := 16) C 0 dJ6_bitCount_0f7a4_15 rfl rfl ?_
  refine v_iconst (pc' := 17) C (2) dJ6_bitCount_0f7a4_16 ic_2 rfl ?_
  refine v_iushr (pc' := 18) C dJ6_bitCount_0f7a4_17 rfl ?_
  refine v_ldcw (pc' := 21) C (858993459) dJ6_bitCount_0f7a4_18 k_J6_bitCount_0f7a4_2 rfl ?_
  refine v_iand (pc' := 22) C dJ6_bitCount_0f7a4_21 rfl ?_
  refine v_iadd (pc' := 23) C dJ6_bitCount_0f7a4_22 rfl ?_
  refine v_leti h (fun v0_2 h => ?_)
  refine v_istore_n (pc' := 24) C [0] (lv' := [(0, .int v0_2)]) dJ6_bitCount_0f7a4_23 (Nat.le_of_ble_eq_true rfl) rfl rfl ?_
  refine v_iload_n (pc' := 25) C 0 dJ6_bitCount_0f7a4_24 rfl rfl ?_
  refine v_iload_n (pc' := 26) C 0 dJ6_bitCount_0f7a4_25 rfl rfl ?_
  refine v_iconst (pc' := 27) C (4) dJ6_bitCount_0f7a4_26 ic_4 rfl ?_
  refine v_iushr (pc' := 28) C dJ6_bitCount_0f7a4_27 rfl ?_
  refine v_iadd (pc' := 29) C dJ6_bitCount_0f7a4_28 rfl ?_
  refine v_ldcw (pc' := 32) C (252645135) dJ6_bitCount_0f7a4_29 k_J6_bitCount_0f7a4_3 rfl ?_
  refine v_iand (pc' := 33) C dJ6_bitCount_0f7a4_32 rfl ?_
  refine v_leti h (fun v0_3 h => ?_)
  refine v_istore_n (pc' := 34) C [0] (lv' := [(0, .int v0_3)]) dJ6_bitCount_0f7a4_33 (Nat.le_of_ble_eq_true rfl) rfl rfl ?_
  refine v_iload_n (pc' := 35) C 0 dJ6_bitCount_0f7a4_34 rfl rfl ?_
  refine v_iload_n (pc' := 36) C 0 dJ6_bitCount_0f7a4_35 rfl rfl ?_
  refine v_bipush (pc' := 38) C (8) dJ6_bitCount_0f7a4_36 bc_8 rfl ?_
  refine v_iushr (pc' := 39) C dJ6_bitCount_0f7a4_38 rfl ?_
  refine v_iadd (pc' := 40) C dJ6_bitCount_0f7a4_39 rfl ?_
  refine v_leti h (fun v0_4 h => ?_)
  refine v_istore_n (pc' := 41) C [0] (lv' := [(0, .int v0_4)]) dJ6_bitCount_0f7a4_40 (Nat.le_of_ble_eq_true rfl) rfl rfl ?_
  refine v_iload_n (pc' := 42) C 0 dJ6_bitCount_0f7a4_41 rfl rfl ?_
  refine v_iload_n (pc' := 43) C 0 dJ6_bitCount_0f7a4_42 rfl rfl ?_
  refine v_bipush (pc' := 45) C (16) dJ6_bitCount_0f7a4_43 bc_16 rfl ?_
  refine v_iushr (pc' := 46) C dJ6_bitCount_0f7a4_45 rfl ?_
  refine v_iadd (pc' := 47) C dJ6_bitCount_0f7a4_46 rfl ?_
  refine v_leti h (fun v0_5 h => ?_)
  refine v_istore_n (pc' := 48) C [0] (lv' := [(0, .int v0_5)]) dJ6_bitCount_0f7a4_47 (Nat.le_of_ble_eq_true rfl) rfl rfl ?_
  refine v_iload_n (pc' := 49) C 0 dJ6_bitCount_0f7a4_48 rfl rfl ?_
  refine v_bipush (pc' := 51) C (63) dJ6_bitCount_0f7a4_49 bc_63 rfl ?_
  refine v_iand (pc' := 52) C dJ6_bitCount_0f7a4_51 rfl ?_
  exact v_iret (rf := fun (o9 : Int32) => o9) (Wf := fun (o9 : Int32) (u9 : Unit) => []) (ok := fun (o9 : Int32) (u9 : Unit) => True) C Cr h hQ () trivial rfl rfl dJ6_bitCount_0f7a4_52
def f_X5_bitOf  (p0 : Int32) : Option (Int32) :=
  Option.bind (f_X5_isLetter p0) fun r_1 =>
  if r_1 = 0 then some (0 : Int32)
  else some ((1 : Int32) <<< ((p0 - (97 : Int32)) &&& 31))
abbrev rm_X5_bitOf : Room := { frames := 1, cells := 0, slots := 0, locals := 20 }
theorem nd_X5_bitOf : yX5_bitOf.cls ≠ "java/lang/invoke/MethodHandle" ∧ yX5_bitOf.cls ≠ "java/lang/invoke/VarHandle" ∧ (parseMethodDescriptor yX5_bitOf.desc).map (fun d => d.parameters.length) = some 1 := by decide +kernel
set_option maxHeartbeats 4000000 in
set_option maxRecDepth 100000 in
theorem c_X5_bitOf (l : Launch) (g : Gv)   (p0 : Int32) (o : Int32) (h : f_X5_bitOf  p0 = some o) : Ct l g yX5_bitOf wsX5_bitOf rm_X5_bitOf [.int p0] ([]) (Qi g o (fun _ : Unit => []) (fun _ => True)) := by
  refine enter (ret := (some .int)) (X := []) (pl := []) pn_X5 rfl (Nat.le_of_ble_eq_true rfl) ((List.append_nil _).symm) ?_
  intro p e s m args below meth c A Q C Cr hin hQ
  unfold f_X5_bitOf at h
  refine v_iload_n (pc' := 1) C 0 dX5_bitOf_0 rfl rfl ?_
  refine v_purei (pc' := 4) C h (rf := fun r9 => r9) (fun r hr => run_S C (c_X5_isLetter l g _ r hr) gX5_bitOf_X5_isLetter rfl nd_X5_isLetter ⟨Nat.le_of_ble_eq_true rfl, Nat.le_of_ble_eq_true rfl⟩ ⟨Nat.le_of_ble_eq_true rfl, Nat.le_of_ble_eq_true rfl⟩ (Nat.le_of_ble_eq_true rfl) dX5_bitOf_1 rfl) rfl (fun r_1 h => ?_)
  refine v_if_eq C 16 7 h dX5_bitOf_4 (by decide) rfl (fun _ h => ?_) (fun _ h => ?_)
  · refine v_iconst (pc' := 17) C (0) dX5_bitOf_16 ic_0 rfl ?_
    exact v_iret (rf := fun (o9 : Int32) => o9) (Wf := fun (o9 : Int32) (u9 : Unit) => []) (ok := fun (o9 : Int32) (u9 : Unit) => True) C Cr h hQ () trivial rfl rfl dX5_bitOf_17
  · refine v_iconst (pc' := 8) C (1) dX5_bitOf_7 ic_1 rfl ?_
    refine v_iload_n (pc' := 9) C 0 dX5_bitOf_8 rfl rfl ?_
    refine v_bipush (pc' := 11) C (97) dX5_bitOf_9 bc_97 rfl ?_
    refine v_isub (pc' := 12) C dX5_bitOf_11 rfl ?_
    refine v_ishl (pc' := 13) C dX5_bitOf_12 rfl ?_
    refine v_goto C (pc' := 17) dX5_bitOf_13 (by decide) ?_
    exact v_iret (rf := fun (o9 : Int32) => o9) (Wf := fun (o9 : Int32) (u9 : Unit) => []) (ok := fun (o9 : Int32) (u9 : Unit) => True) C Cr h hQ () trivial rfl rfl dX5_bitOf_17
def f_X2_wasGuessed (zS : St) (p1 : Int32) : Option (Int32) :=
  Option.bind (f_X5_bitOf p1) fun r_1 =>
  if ((S_guessed zS) &&& r_1) = 0 then some (0 : Int32)
  else some (1 : Int32)
abbrev rm_X2_wasGuessed : Room := { frames := 2, cells := 0, slots := 0, locals := 40 }
theorem in_X2_wasGuessed_2 : ∀ w ∈ wsX20, w ∈ wsX2_wasGuessed := fun _ h => List.mem_cons_of_mem _ (List.mem_append_right _ h)
theorem k_X2_wasGuessed_1 : Cond.fieldLink RX2 47 "DodgingHangman$State" "guessed" "I" ∈ wsX2_wasGuessed := List.mem_of_getElem? (i := 1) rfl
theorem k_X2_wasGuessed_3 : Cond.initialized RX5 ∈ wsX2_wasGuessed := List.mem_of_getElem? (i := 3) rfl
theorem k_X2_wasGuessed_2 : Cond.static yX5_bitOf ∈ wsX2_wasGuessed := List.mem_of_getElem? (i := 2) rfl
theorem nd_X2_wasGuessed : yX2_wasGuessed.cls ≠ "java/lang/invoke/MethodHandle" ∧ yX2_wasGuessed.cls ≠ "java/lang/invoke/VarHandle" ∧ (parseMethodDescriptor yX2_wasGuessed.desc).map (fun d => d.parameters.length) = some 1 := by decide +kernel
set_option maxHeartbeats 4000000 in
set_option maxRecDepth 100000 in
theorem c_X2_wasGuessed (l : Launch) (g : Gv) (aS : RA) (zS : St) (p1 : Int32) (o : Int32) (h : f_X2_wasGuessed zS p1 = some o) : Ct l g yX2_wasGuessed wsX2_wasGuessed rm_X2_wasGuessed [.ref aS.1, .int p1] (wS g aS zS) (Qi g o (fun _ : Unit => wS g aS zS) (fun _ => True)) := by
  refine enter (ret := (some .boolean)) (X := wS g aS zS) (pl := []) pn_X2 rfl (Nat.le_of_ble_eq_true rfl) ((List.append_nil _).symm) ?_
  intro p e s m args below meth c A Q C Cr hin hQ
  unfold f_X2_wasGuessed at h
  refine v_aload_n (pc' := 1) C 0 dX2_wasGuessed_0 rfl rfl ?_
  refine g_S_guessed (pc' := 4) C 0 in_X2_wasGuessed_2 rfl k_X2_wasGuessed_1 rfl dX2_wasGuessed_1 rfl ?_
  refine v_iload_n (pc' := 5) C 1 dX2_wasGuessed_4 rfl rfl ?_
  refine v_purei (pc' := 8) C h (rf := fun r9 => r9) (fun r hr => run_SN C (c_X5_bitOf l g _ r hr) gX2_wasGuessed_X5_bitOf_n74 rfl nd_X5_bitOf (List.mem_of_getElem? (i := 8) rfl) k_X2_wasGuessed_3 k_X2_wasGuessed_2 ⟨Nat.le_of_ble_eq_true rfl, Nat.le_of_ble_eq_true rfl⟩ ⟨Nat.le_of_ble_eq_true rfl, Nat.le_of_ble_eq_true rfl⟩ (Nat.le_of_ble_eq_true rfl) dX2_wasGuessed_5 rfl) rfl (fun r_1 h => ?_)
  refine v_iand (pc' := 9) C dX2_wasGuessed_8 rfl ?_
  refine v_if_eq C 16 12 h dX2_wasGuessed_9 (by decide) rfl (fun _ h => ?_) (fun _ h => ?_)
  · refine v_iconst (pc' := 17) C (0) dX2_wasGuessed_16 ic_0 rfl ?_
    exact v_zret (rf := fun (o9 : Int32) => o9) (Wf := fun (o9 : Int32) (u9 : Unit) => wS g aS zS) (ok := fun (o9 : Int32) (u9 : Unit) => True) C Cr h hQ () trivial rfl rfl (Or.inl rfl) dX2_wasGuessed_17
  · refine v_iconst (pc' := 13) C (1) dX2_wasGuessed_12 ic_1 rfl ?_
    refine v_goto C (pc' := 17) dX2_wasGuessed_13 (by decide) ?_
    exact v_zret (rf := fun (o9 : Int32) => o9) (Wf := fun (o9 : Int32) (u9 : Unit) => wS g aS zS) (ok := fun (o9 : Int32) (u9 : Unit) => True) C Cr h hQ () trivial rfl rfl (Or.inr rfl) dX2_wasGuessed_17
def f_X2_isCandidate (zS : St) (p1 : Int32) : Option (Int32) :=
  Option.bind (f_X2_hasWord zS p1) fun r_1 =>
  if r_1 = 0 then some (0 : Int32)
  else if (((S_candidates zS) >>> (p1 &&& 31)) &&& (1 : Int32)) = 0 then some (0 : Int32)
  else some (1 : Int32)
abbrev rm_X2_isCandidate : Room := { frames := 1, cells := 0, slots := 0, locals := 21 }
theorem in_X2_isCandidate_2 : ∀ w ∈ wsX20, w ∈ wsX2_isCandidate := fun _ h => List.mem_cons_of_mem _ (List.mem_append_right _ h)
theorem k_X2_isCandidate_1 : Cond.fieldLink RX2 44 "DodgingHangman$State" "candidates" "I" ∈ wsX2_isCandidate := List.mem_of_getElem? (i := 1) rfl
theorem nd_X2_isCandidate : yX2_isCandidate.cls ≠ "java/lang/invoke/MethodHandle" ∧ yX2_isCandidate.cls ≠ "java/lang/invoke/VarHandle" ∧ (parseMethodDescriptor yX2_isCandidate.desc).map (fun d => d.parameters.length) = some 1 := by decide +kernel
set_option maxHeartbeats 4000000 in
set_option maxRecDepth 100000 in
theorem c_X2_isCandidate (l : Launch) (g : Gv) (aS : RA) (zS : St) (p1 : Int32) (o : Int32) (h : f_X2_isCandidate zS p1 = some o) : Ct l g yX2_isCandidate wsX2_isCandidate rm_X2_isCandidate [.ref aS.1, .int p1] (wS g aS zS) (Qi g o (fun _ : Unit => wS g aS zS) (fun _ => True)) := by
  refine enter (ret := (some .boolean)) (X := wS g aS zS) (pl := []) pn_X2 rfl (Nat.le_of_ble_eq_true rfl) ((List.append_nil _).symm) ?_
  intro p e s m args below meth c A Q C Cr hin hQ
  unfold f_X2_isCandidate at h
  refine v_aload_n (pc' := 1) C 0 dX2_isCandidate_0 rfl rfl ?_
  refine v_iload_n (pc' := 2) C 1 dX2_isCandidate_1 rfl rfl ?_
  refine v_calli (pc' := 5) C h (rf := fun r9 => r9) ([]) (fun r9 (u9 : Unit) => wS g aS zS) (fun r hr => run_V C (c_X2_hasWord l g aS _ _ r hr) gX2_isCandidate_X2_hasWord rfl nd_X2_hasWord rfl rfl rfl rfl ⟨Nat.le_of_ble_eq_true rfl, Nat.le_of_ble_eq_true rfl⟩ ⟨Nat.le_of_ble_eq_true rfl, Nat.le_of_ble_eq_true rfl⟩ (Nat.le_of_ble_eq_true rfl) dX2_isCandidate_2 rfl) [0, 1, 2, 3] [] [0, 1, 2, 3] rfl rfl rfl rfl (by decide) rfl (fun _ _ => rfl) (k' := 0) (n' := 0) rfl rfl rfl (fun r_1 _ _ h => ?_)
  refine v_if_eq C 23 8 h dX2_isCandidate_5 (by decide) rfl (fun _ h => ?_) (fun _ h => ?_)
  · refine v_iconst (pc' := 24) C (0) dX2_isCandidate_23 ic_0 rfl ?_
    exact v_zret (rf := fun (o9 : Int32) => o9) (Wf := fun (o9 : Int32) (u9 : Unit) => wS g aS zS) (ok := fun (o9 : Int32) (u9 : Unit) => True) C Cr h hQ () trivial rfl rfl (Or.inl rfl) dX2_isCandidate_24
  · refine v_aload_n (pc' := 9) C 0 dX2_isCandidate_8 rfl rfl ?_
    refine g_S_candidates (pc' := 12) C 0 in_X2_isCandidate_2 rfl k_X2_isCandidate_1 rfl dX2_isCandidate_9 rfl ?_
    refine v_iload_n (pc' := 13) C 1 dX2_isCandidate_12 rfl rfl ?_
    refine v_ishr (pc' := 14) C dX2_isCandidate_13 rfl ?_
    refine v_iconst (pc' := 15) C (1) dX2_isCandidate_14 ic_1 rfl ?_
    refine v_iand (pc' := 16) C dX2_isCandidate_15 rfl ?_
    refine v_if_eq C 23 19 h dX2_isCandidate_16 (by decide) rfl (fun _ h => ?_) (fun _ h => ?_)
    · refine v_iconst (pc' := 24) C (0) dX2_isCandidate_23 ic_0 rfl ?_
      exact v_zret (rf := fun (o9 : Int32) => o9) (Wf := fun (o9 : Int32) (u9 : Unit) => wS g aS zS) (ok := fun (o9 : Int32) (u9 : Unit) => True) C Cr h hQ () trivial rfl rfl (Or.inl rfl) dX2_isCandidate_24
    · refine v_iconst (pc' := 20) C (1) dX2_isCandidate_19 ic_1 rfl ?_
      refine v_goto C (pc' := 24) dX2_isCandidate_20 (by decide) ?_
      exact v_zret (rf := fun (o9 : Int32) => o9) (Wf := fun (o9 : Int32) (u9 : Unit) => wS g aS zS) (ok := fun (o9 : Int32) (u9 : Unit) => True) C Cr h hQ () trivial rfl rfl (Or.inr rfl) dX2_isCandidate_24
def f_X4_maskOf_L5 (p0 : Int64) (p2 : Int32) (re5 : Int32 → Int32 → Option (Int32)) (v3_1 : Int32) (v4_2 : Int32) : Option (Int32) :=
  if v4_2 < (8 : Int32) then Option.bind (f_X4_letterAt p0 v4_2) fun r_3 =>
  if r_3 = p2 then lett (v3_1 ||| ((1 : Int32) <<< (v4_2 &&& 31))) fun v3_5 =>
  lett (v4_2 + (1 : Int32)) fun v4_6 =>
  re5 v3_5 v4_6
  else lett (v4_2 + (1 : Int32)) fun v4_4 =>
  re5 v3_1 v4_4
  else some v3_1
def f_X4_maskOf  (p0 : Int64) (p2 : Int32) : Option (Int32) :=
  loop2 (f_X4_maskOf_L5 p0 p2) FU (0 : Int32) (0 : Int32)
abbrev rm_X4_maskOf : Room := { frames := 2, cells := 0, slots := 0, locals := 43 }
theorem nd_X4_maskOf : yX4_maskOf.cls ≠ "java/lang/invoke/MethodHandle" ∧ yX4_maskOf.cls ≠ "java/lang/invoke/VarHandle" ∧ (parseMethodDescriptor yX4_maskOf.desc).map (fun d => d.parameters.length) = some 2 := by decide +kernel
set_option maxHeartbeats 4000000 in
set_option maxRecDepth 100000 in
theorem c_X4_maskOf (l : Launch) (g : Gv)   (p0 : Int64) (p2 : Int32) (o : Int32) (h : f_X4_maskOf  p0 p2 = some o) : Ct l g yX4_maskOf wsX4_maskOf rm_X4_maskOf [.long p0, .int p2] ([]) (Qi g o (fun _ : Unit => []) (fun _ => True)) := by
  refine enter (ret := (some .int)) (X := []) (pl := []) pn_X4 rfl (Nat.le_of_ble_eq_true rfl) ((List.append_nil _).symm) ?_
  intro p e s m args below meth c A Q C Cr hin hQ
  unfold f_X4_maskOf at h
  refine v_iconst (pc' := 1) C (0) dX4_maskOf_0 ic_0 rfl ?_
  refine v_istore_n (pc' := 2) C [1, 2, 0] (lv' := [(0, .long p0), (2, .int p2), (3, .int (0 : Int32))]) dX4_maskOf_1 (Nat.le_of_ble_eq_true rfl) rfl rfl ?_
  refine v_iconst (pc' := 3) C (0) dX4_maskOf_2 ic_0 rfl ?_
  refine v_istore (pc' := 5) C [1, 2, 3, 0] (lv' := [(0, .long p0), (2, .int p2), (3, .int (0 : Int32)), (4, .int (0 : Int32))]) dX4_maskOf_3 (Nat.le_of_ble_eq_true rfl) rfl rfl ?_
  refine v_loop2 (fun (v3_1 : Int32) (v4_2 : Int32) => V p l e rm_X4_maskOf s m args below meth c g 5 A 0 0 Q ([]) [] [(0, .long p0), (2, .int p2), (3, .int v3_1), (4, .int v4_2)] 5 []) (fun re5 ih5 v3_1 v4_2 h => ?_) (0 : Int32) (0 : Int32) h
  unfold f_X4_maskOf_L5 at h
  refine v_iload (pc' := 7) C 3 dX4_maskOf_5 rfl rfl ?_
  refine v_bipush (pc' := 9) C (8) dX4_maskOf_7 bc_8 rfl ?_
  refine v_icmp_ge C 35 12 h dX4_maskOf_9 (by decide) rfl (fun _ h => ?_) (fun _ h => ?_)
  · refine v_iload_n (pc' := 36) C 2 dX4_maskOf_35 rfl rfl ?_
    exact v_iret (rf := fun (o9 : Int32) => o9) (Wf := fun (o9 : Int32) (u9 : Unit) => []) (ok := fun (o9 : Int32) (u9 : Unit) => True) C Cr h hQ () trivial rfl rfl dX4_maskOf_36
  · refine v_lload_n (pc' := 13) C 0 dX4_maskOf_12 rfl rfl ?_
    refine v_iload (pc' := 15) C 3 dX4_maskOf_13 rfl rfl ?_
    refine v_purei (pc' := 18) C h (rf := fun r9 => r9) (fun r hr => run_S C (c_X4_letterAt l g _ _ r hr) gX4_maskOf_X4_letterAt rfl nd_X4_letterAt ⟨Nat.le_of_ble_eq_true rfl, Nat.le_of_ble_eq_true rfl⟩ ⟨Nat.le_of_ble_eq_true rfl, Nat.le_of_ble_eq_true rfl⟩ (Nat.le_of_ble_eq_true rfl) dX4_maskOf_15 rfl) rfl (fun r_3 h => ?_)
    refine v_iload_n (pc' := 19) C 1 dX4_maskOf_18 rfl rfl ?_
    refine v_icmp_ne C 29 22 h dX4_maskOf_19 (by decide) rfl (fun _ h => ?_) (fun _ h => ?_)
    · refine v_iinc (pc' := 32) C 3 [1, 2, 3, 0] (1) dX4_maskOf_29 rfl ic_1 (Nat.le_of_ble_eq_true rfl) h (lw := fun v9 => [(0, .long p0), (2, .int p2), (3, .int v3_1), (4, .int v9)]) (fun _ => rfl) rfl (fun v4_4 h => ?_)
      refine v_goto C (pc' := 5) dX4_maskOf_32 (by decide) ?_
      exact ih5 v3_1 v4_4 h
    · refine v_iload_n (pc' := 23) C 2 dX4_maskOf_22 rfl rfl ?_
      refine v_iconst (pc' := 24) C (1) dX4_maskOf_23 ic_1 rfl ?_
      refine v_iload (pc' := 26) C 3 dX4_maskOf_24 rfl rfl ?_
      refine v_ishl (pc' := 27) C dX4_maskOf_26 rfl ?_
      refine v_ior (pc' := 28) C dX4_maskOf_27 rfl ?_
      refine v_leti h (fun v3_5 h => ?_)
      refine v_istore_n (pc' := 29) C [1, 2, 0, 3] (lv' := [(0, .long p0), (2, .int p2), (3, .int v3_5), (4, .int v4_2)]) dX4_maskOf_28 (Nat.le_of_ble_eq_true rfl) rfl rfl ?_
      refine v_iinc (pc' := 32) C 3 [1, 2, 3, 0] (1) dX4_maskOf_29 rfl ic_1 (Nat.le_of_ble_eq_true rfl) h (lw := fun v9 => [(0, .long p0), (2, .int p2), (3, .int v3_5), (4, .int v9)]) (fun _ => rfl) rfl (fun v4_6 h => ?_)
      refine v_goto C (pc' := 5) dX4_maskOf_32 (by decide) ?_
      exact ih5 v3_5 v4_6 h
def f_X4_lettersOf_L4 (p0 : Int64) (re4 : Int32 → Int32 → Option (Int32)) (v2_1 : Int32) (v3_2 : Int32) : Option (Int32) :=
  if v3_2 < (8 : Int32) then Option.bind (f_X4_letterAt p0 v3_2) fun r_3 =>
  Option.bind (f_X5_bitOf r_3) fun r_4 =>
  lett (v2_1 ||| r_4) fun v2_5 =>
  lett (v3_2 + (1 : Int32)) fun v3_6 =>
  re4 v2_5 v3_6
  else some v2_1
def f_X4_lettersOf  (p0 : Int64) : Option (Int32) :=
  loop2 (f_X4_lettersOf_L4 p0) FU (0 : Int32) (0 : Int32)
abbrev rm_X4_lettersOf : Room := { frames := 2, cells := 0, slots := 0, locals := 43 }
theorem k_X4_lettersOf_9 : Cond.initialized RX5 ∈ wsX4_lettersOf := List.mem_of_getElem? (i := 9) rfl
theorem k_X4_lettersOf_8 : Cond.static yX5_bitOf ∈ wsX4_lettersOf := List.mem_of_getElem? (i := 8) rfl
theorem nd_X4_lettersOf : yX4_lettersOf.cls ≠ "java/lang/invoke/MethodHandle" ∧ yX4_lettersOf.cls ≠ "java/lang/invoke/VarHandle" ∧ (parseMethodDescriptor yX4_lettersOf.desc).map (fun d => d.parameters.length) = some 1 := by decide +kernel
set_option maxHeartbeats 4000000 in
set_option maxRecDepth 100000 in
theorem c_X4_lettersOf (l : Launch) (g : Gv)   (p0 : Int64) (o : Int32) (h : f_X4_lettersOf  p0 = some o) : Ct l g yX4_lettersOf wsX4_lettersOf rm_X4_lettersOf [.long p0] ([]) (Qi g o (fun _ : Unit => []) (fun _ => True)) := by
  refine enter (ret := (some .int)) (X := []) (pl := []) pn_X4 rfl (Nat.le_of_ble_eq_true rfl) ((List.append_nil _).symm) ?_
  intro p e s m args below meth c A Q C Cr hin hQ
  unfold f_X4_lettersOf at h
  refine v_iconst (pc' := 1) C (0) dX4_lettersOf_0 ic_0 rfl ?_
  refine v_istore_n (pc' := 2) C [1, 0] (lv' := [(0, .long p0), (2, .int (0 : Int32))]) dX4_lettersOf_1 (Nat.le_of_ble_eq_true rfl) rfl rfl ?_
  refine v_iconst (pc' := 3) C (0) dX4_lettersOf_2 ic_0 rfl ?_
  refine v_istore_n (pc' := 4) C [1, 2, 0] (lv' := [(0, .long p0), (2, .int (0 : Int32)), (3, .int (0 : Int32))]) dX4_lettersOf_3 (Nat.le_of_ble_eq_true rfl) rfl rfl ?_
  refine v_loop2 (fun (v2_1 : Int32) (v3_2 : Int32) => V p l e rm_X4_lettersOf s m args below meth c g 4 A 0 0 Q ([]) [] [(0, .long p0), (2, .int v2_1), (3, .int v3_2)] 4 []) (fun re4 ih4 v2_1 v3_2 h => ?_) (0 : Int32) (0 : Int32) h
  unfold f_X4_lettersOf_L4 at h
  refine v_iload_n (pc' := 5) C 2 dX4_lettersOf_4 rfl rfl ?_
  refine v_bipush (pc' := 7) C (8) dX4_lettersOf_5 bc_8 rfl ?_
  refine v_icmp_ge C 27 10 h dX4_lettersOf_7 (by decide) rfl (fun _ h => ?_) (fun _ h => ?_)
  · refine v_iload_n (pc' := 28) C 1 dX4_lettersOf_27 rfl rfl ?_
    exact v_iret (rf := fun (o9 : Int32) => o9) (Wf := fun (o9 : Int32) (u9 : Unit) => []) (ok := fun (o9 : Int32) (u9 : Unit) => True) C Cr h hQ () trivial rfl rfl dX4_lettersOf_28
  · refine v_iload_n (pc' := 11) C 1 dX4_lettersOf_10 rfl rfl ?_
    refine v_lload_n (pc' := 12) C 0 dX4_lettersOf_11 rfl rfl ?_
    refine v_iload_n (pc' := 13) C 2 dX4_lettersOf_12 rfl rfl ?_
    refine v_purei (pc' := 16) C h (rf := fun r9 => r9) (fun r hr => run_S C (c_X4_letterAt l g _ _ r hr) gX4_lettersOf_X4_letterAt rfl nd_X4_letterAt ⟨Nat.le_of_ble_eq_true rfl, Nat.le_of_ble_eq_true rfl⟩ ⟨Nat.le_of_ble_eq_true rfl, Nat.le_of_ble_eq_true rfl⟩ (Nat.le_of_ble_eq_true rfl) dX4_lettersOf_13 rfl) rfl (fun r_3 h => ?_)
    refine v_purei (pc' := 19) C h (rf := fun r9 => r9) (fun r hr => run_SN C (c_X5_bitOf l g _ r hr) gX4_lettersOf_X5_bitOf_n23 rfl nd_X5_bitOf (List.mem_of_getElem? (i := 7) rfl) k_X4_lettersOf_9 k_X4_lettersOf_8 ⟨Nat.le_of_ble_eq_true rfl, Nat.le_of_ble_eq_true rfl⟩ ⟨Nat.le_of_ble_eq_true rfl, Nat.le_of_ble_eq_true rfl⟩ (Nat.le_of_ble_eq_true rfl) dX4_lettersOf_16 rfl) rfl (fun r_4 h => ?_)
    refine v_ior (pc' := 20) C dX4_lettersOf_19 rfl ?_
    refine v_leti h (fun v2_5 h => ?_)
    refine v_istore_n (pc' := 21) C [1, 0, 2] (lv' := [(0, .long p0), (2, .int v2_5), (3, .int v3_2)]) dX4_lettersOf_20 (Nat.le_of_ble_eq_true rfl) rfl rfl ?_
    refine v_iinc (pc' := 24) C 2 [1, 2, 0] (1) dX4_lettersOf_21 rfl ic_1 (Nat.le_of_ble_eq_true rfl) h (lw := fun v9 => [(0, .long p0), (2, .int v2_5), (3, .int v9)]) (fun _ => rfl) rfl (fun v3_6 h => ?_)
    refine v_goto C (pc' := 4) dX4_lettersOf_24 (by decide) ?_
    exact ih4 v2_5 v3_6 h
def f_X2_noteGuess_J36 (p1 : Int32) (zS_1 : St) : Option (St) :=
  Option.bind (f_X5_bitOf p1) fun r_2 =>
  lett (S_guessed_set zS_1 ((S_guessed zS_1) ||| r_2)) fun zS_3 =>
  Option.bind (f_X2_count zS_3 (3 : Int32)) fun r_4 =>
  some r_4
def f_X2_noteGuess (zS : St) (p1 : Int32) : Option (St) :=
  if (S_guessCount zS) < 0 then f_X2_noteGuess_J36 p1 zS
  else if (S_guessCount zS) < (26 : Int32) then chkA 26 (S_guessCount zS) (lett (S_lettersInOrder_set zS (upd (S_lettersInOrder zS) ((S_guessCount zS)).toNatClampNeg p1)) fun zS_5 =>
  lett (S_guessCount_set zS_5 ((S_guessCount zS_5) + (1 : Int32))) fun zS_6 =>
  f_X2_noteGuess_J36 p1 zS_6)
  else f_X2_noteGuess_J36 p1 zS
abbrev rm_X2_noteGuess : Room := { frames := 2, cells := 0, slots := 0, locals := 40 }
theorem in_X2_noteGuess_2 : ∀ w ∈ wsX20, w ∈ wsX2_noteGuess := fun _ h => List.mem_cons_of_mem _ (List.mem_append_right _ h)
theorem k_X2_noteGuess_1 : Cond.fieldLink RX2 50 "DodgingHangman$State" "guessCount" "I" ∈ wsX2_noteGuess := List.mem_of_getElem? (i := 1) rfl
theorem k_X2_noteGuess_3 : Cond.fieldLink RX2 47 "DodgingHangman$State" "guessed" "I" ∈ wsX2_noteGuess := List.mem_of_getElem? (i := 3) rfl
theorem k_X2_noteGuess_5 : Cond.initialized RX5 ∈ wsX2_noteGuess := List.mem_of_getElem? (i := 5) rfl
theorem k_X2_noteGuess_4 : Cond.static yX5_bitOf ∈ wsX2_noteGuess := List.mem_of_getElem? (i := 4) rfl
theorem k_X2_noteGuess_2 : Cond.fieldLink RX2 15 "DodgingHangman$State" "lettersInOrder" "[I" ∈ wsX2_noteGuess := List.mem_of_getElem? (i := 2) rfl
theorem nd_X2_noteGuess : yX2_noteGuess.cls ≠ "java/lang/invoke/MethodHandle" ∧ yX2_noteGuess.cls ≠ "java/lang/invoke/VarHandle" ∧ (parseMethodDescriptor yX2_noteGuess.desc).map (fun d => d.parameters.length) = some 1 := by decide +kernel
set_option maxHeartbeats 4000000 in
set_option maxRecDepth 100000 in
theorem c_X2_noteGuess (l : Launch) (g : Gv) (aS : RA) (zS : St) (p1 : Int32) (o : St) (h : f_X2_noteGuess zS p1 = some o) : Ct l g yX2_noteGuess wsX2_noteGuess rm_X2_noteGuess [.ref aS.1, .int p1] (wS g aS zS) (Qv g (fun _ : Unit => wS g aS o) (fun _ => True)) := by
  refine enter (ret := none) (X := wS g aS zS) (pl := []) pn_X2 rfl (Nat.le_of_ble_eq_true rfl) ((List.append_nil _).symm) ?_
  intro p e s m args below meth c A Q C Cr hin hQ
  unfold f_X2_noteGuess at h
  have J36 : ∀ (zS_1 : St), f_X2_noteGuess_J36 p1 zS_1 = some o → V p l e rm_X2_noteGuess s m args below meth c g 2 A 0 0 Q (wS g aS zS_1) [] [(0, .ref aS.1), (1, .int p1)] 36 [] := by
    intro zS_1 h
    unfold f_X2_noteGuess_J36 at h
    refine v_aload_n (pc' := 37) C 0 dX2_noteGuess_36 rfl rfl ?_
    refine v_dup (pc' := 38) C dX2_noteGuess_37 rfl rfl ?_
    refine g_S_guessed (pc' := 41) C 0 in_X2_noteGuess_2 rfl k_X2_noteGuess_3 rfl dX2_noteGuess_38 rfl ?_
    refine v_iload_n (pc' := 42) C 1 dX2_noteGuess_41 rfl rfl ?_
    refine v_purei (pc' := 45) C h (rf := fun r9 => r9) (fun r hr => run_SN C (c_X5_bitOf l g _ r hr) gX2_noteGuess_X5_bitOf_n74 rfl nd_X5_bitOf (List.mem_of_getElem? (i := 8) rfl) k_X2_noteGuess_5 k_X2_noteGuess_4 ⟨Nat.le_of_ble_eq_true rfl, Nat.le_of_ble_eq_true rfl⟩ ⟨Nat.le_of_ble_eq_true rfl, Nat.le_of_ble_eq_true rfl⟩ (Nat.le_of_ble_eq_true rfl) dX2_noteGuess_42 rfl) rfl (fun r_2 h => ?_)
    refine v_ior (pc' := 46) C dX2_noteGuess_45 rfl ?_
    refine p_S_guessed (pc' := 49) C h 0 (fun z9 => wS g aS z9) in_X2_noteGuess_2 rfl k_X2_noteGuess_3 rfl dX2_noteGuess_46 (Nat.le_of_ble_eq_true rfl) rfl (fun zS_3 h => ?_)
    refine v_aload_n (pc' := 50) C 0 dX2_noteGuess_49 rfl rfl ?_
    refine v_iconst (pc' := 51) C (3) dX2_noteGuess_50 ic_3 rfl ?_
    refine v_callv (pc' := 54) C h ([]) (fun r9 (u9 : Unit) => wS g aS r9) (fun r hr => run_V C (c_X2_count l g aS _ _ r hr) gX2_noteGuess_X2_count rfl nd_X2_count rfl rfl rfl rfl ⟨Nat.le_of_ble_eq_true rfl, Nat.le_of_ble_eq_true rfl⟩ ⟨Nat.le_of_ble_eq_true rfl, Nat.le_of_ble_eq_true rfl⟩ (Nat.le_of_ble_eq_true rfl) dX2_noteGuess_51 rfl) [0, 1, 2, 3] [] [0, 1, 2, 3] rfl rfl rfl rfl (by decide) rfl (fun _ _ => rfl) (k' := 0) (n' := 0) rfl rfl rfl (fun r_4 _ _ h => ?_)
    exact v_vret (Wf := fun (o9 : St) (u9 : Unit) => wS g aS o9) (ok := fun (o9 : St) (u9 : Unit) => True) C Cr h hQ () trivial rfl dX2_noteGuess_54
  refine v_aload_n (pc' := 1) C 0 dX2_noteGuess_0 rfl rfl ?_
  refine g_S_guessCount (pc' := 4) C 0 in_X2_noteGuess_2 rfl k_X2_noteGuess_1 rfl dX2_noteGuess_1 rfl ?_
  refine v_if_lt C 36 7 h dX2_noteGuess_4 (by decide) rfl (fun _ h => ?_) (fun _ h => ?_)
  · exact J36 zS h
  · refine v_aload_n (pc' := 8) C 0 dX2_noteGuess_7 rfl rfl ?_
    refine g_S_guessCount (pc' := 11) C 0 in_X2_noteGuess_2 rfl k_X2_noteGuess_1 rfl dX2_noteGuess_8 rfl ?_
    refine v_bipush (pc' := 13) C (26) dX2_noteGuess_11 bc_26 rfl ?_
    refine v_icmp_ge C 36 16 h dX2_noteGuess_13 (by decide) rfl (fun _ h => ?_) (fun _ h => ?_)
    · exact J36 zS h
    · refine v_aload_n (pc' := 17) C 0 dX2_noteGuess_16 rfl rfl ?_
      refine g_S_lettersInOrder (pc' := 20) C 0 in_X2_noteGuess_2 rfl k_X2_noteGuess_2 rfl dX2_noteGuess_17 rfl ?_
      refine v_aload_n (pc' := 21) C 0 dX2_noteGuess_20 rfl rfl ?_
      refine g_S_guessCount (pc' := 24) C 0 in_X2_noteGuess_2 rfl k_X2_noteGuess_1 rfl dX2_noteGuess_21 rfl ?_
      refine v_iload_n (pc' := 25) C 1 dX2_noteGuess_24 rfl rfl ?_
      refine v_iast (pc' := 26) C h 2 (fun z9 => wS g aS z9) rfl rfl dX2_noteGuess_25 rfl (fun zS_5 h => ?_)
      refine v_aload_n (pc' := 27) C 0 dX2_noteGuess_26 rfl rfl ?_
      refine v_dup (pc' := 28) C dX2_noteGuess_27 rfl rfl ?_
      refine g_S_guessCount (pc' := 31) C 0 in_X2_noteGuess_2 rfl k_X2_noteGuess_1 rfl dX2_noteGuess_28 rfl ?_
      refine v_iconst (pc' := 32) C (1) dX2_noteGuess_31 ic_1 rfl ?_
      refine v_iadd (pc' := 33) C dX2_noteGuess_32 rfl ?_
      refine p_S_guessCount (pc' := 36) C h 0 (fun z9 => wS g aS z9) in_X2_noteGuess_2 rfl k_X2_noteGuess_1 rfl dX2_noteGuess_33 (Nat.le_of_ble_eq_true rfl) rfl (fun zS_6 h => ?_)
      exact J36 zS_6 h
def f_X2_lose (zS : St)  : Option (St) :=
  lett (S_status_set zS (3 : Int32)) fun zS_1 =>
  Option.bind (f_X2_count zS_1 (2 : Int32)) fun r_2 =>
  some r_2
abbrev rm_X2_lose : Room := { frames := 1, cells := 0, slots := 0, locals := 21 }
theorem in_X2_lose_2 : ∀ w ∈ wsX20, w ∈ wsX2_lose := fun _ h => List.mem_cons_of_mem _ (List.mem_append_right _ h)
theorem k_X2_lose_1 : Cond.fieldLink RX2 35 "DodgingHangman$State" "status" "I" ∈ wsX2_lose := List.mem_of_getElem? (i := 1) rfl
theorem nd_X2_lose : yX2_lose.cls ≠ "java/lang/invoke/MethodHandle" ∧ yX2_lose.cls ≠ "java/lang/invoke/VarHandle" ∧ (parseMethodDescriptor yX2_lose.desc).map (fun d => d.parameters.length) = some 0 := by decide +kernel
set_option maxHeartbeats 4000000 in
set_option maxRecDepth 100000 in
theorem c_X2_lose (l : Launch) (g : Gv) (aS : RA) (zS : St)  (o : St) (h : f_X2_lose zS  = some o) : Ct l g yX2_lose wsX2_lose rm_X2_lose [.ref aS.1] (wS g aS zS) (Qv g (fun _ : Unit => wS g aS o) (fun _ => True)) := by
  refine enter (ret := none) (X := wS g aS zS) (pl := []) pn_X2 rfl (Nat.le_of_ble_eq_true rfl) ((List.append_nil _).symm) ?_
  intro p e s m args below meth c A Q C Cr hin hQ
  unfold f_X2_lose at h
  refine v_aload_n (pc' := 1) C 0 dX2_lose_0 rfl rfl ?_
  refine v_iconst (pc' := 2) C (3) dX2_lose_1 ic_3 rfl ?_
  refine p_S_status (pc' := 5) C h 0 (fun z9 => wS g aS z9) in_X2_lose_2 rfl k_X2_lose_1 rfl dX2_lose_2 (Nat.le_of_ble_eq_true rfl) rfl (fun zS_1 h => ?_)
  refine v_aload_n (pc' := 6) C 0 dX2_lose_5 rfl rfl ?_
  refine v_iconst (pc' := 7) C (2) dX2_lose_6 ic_2 rfl ?_
  refine v_callv (pc' := 10) C h ([]) (fun r9 (u9 : Unit) => wS g aS r9) (fun r hr => run_V C (c_X2_count l g aS _ _ r hr) gX2_lose_X2_count rfl nd_X2_count rfl rfl rfl rfl ⟨Nat.le_of_ble_eq_true rfl, Nat.le_of_ble_eq_true rfl⟩ ⟨Nat.le_of_ble_eq_true rfl, Nat.le_of_ble_eq_true rfl⟩ (Nat.le_of_ble_eq_true rfl) dX2_lose_7 rfl) [0, 1, 2, 3] [] [0, 1, 2, 3] rfl rfl rfl rfl (by decide) rfl (fun _ _ => rfl) (k' := 0) (n' := 0) rfl rfl rfl (fun r_2 _ _ h => ?_)
  exact v_vret (Wf := fun (o9 : St) (u9 : Unit) => wS g aS o9) (ok := fun (o9 : St) (u9 : Unit) => True) C Cr h hQ () trivial rfl dX2_lose_10
def f_X2_miss (zS : St) (p1 : Int32) : Option (St) :=
  Option.bind (f_X2_count zS (5 : Int32)) fun r_1 =>
  if p1 = 0 then lett (S_lives_set r_1 ((S_lives r_1) - (1 : Int32))) fun zS_2 =>
  if (S_lives zS_2) = 0 then Option.bind (f_X2_lose zS_2) fun r_3 =>
  some r_3
  else some zS_2
  else Option.bind (f_X2_count r_1 (6 : Int32)) fun r_4 =>
  lett (S_lives_set r_4 ((S_lives r_4) - (1 : Int32))) fun zS_5 =>
  if (S_lives zS_5) = 0 then Option.bind (f_X2_lose zS_5) fun r_6 =>
  some r_6
  else some zS_5
abbrev rm_X2_miss : Room := { frames := 2, cells := 0, slots := 0, locals := 41 }
theorem in_X2_miss_2 : ∀ w ∈ wsX20, w ∈ wsX2_miss := fun _ h => List.mem_cons_of_mem _ (List.mem_append_right _ h)
theorem k_X2_miss_1 : Cond.fieldLink RX2 41 "DodgingHangman$State" "lives" "I" ∈ wsX2_miss := List.mem_of_getElem? (i := 1) rfl
theorem nd_X2_miss : yX2_miss.cls ≠ "java/lang/invoke/MethodHandle" ∧ yX2_miss.cls ≠ "java/lang/invoke/VarHandle" ∧ (parseMethodDescriptor yX2_miss.desc).map (fun d => d.parameters.length) = some 1 := by decide +kernel
set_option maxHeartbeats 4000000 in
set_option maxRecDepth 100000 in
theorem c_X2_miss (l : Launch) (g : Gv) (aS : RA) (zS : St) (p1 : Int32) (o : St) (h : f_X2_miss zS p1 = some o) : Ct l g yX2_miss wsX2_miss rm_X2_miss [.ref aS.1, .int p1] (wS g aS zS) (Qv g (fun _ : Unit => wS g aS o) (fun _ => True)) := by
  refine enter (ret := none) (X := wS g aS zS) (pl := []) pn_X2 rfl (Nat.le_of_ble_eq_true rfl) ((List.append_nil _).symm) ?_
  intro p e s m args below meth c A Q C Cr hin hQ
  unfold f_X2_miss at h
  refine v_aload_n (pc' := 1) C 0 dX2_miss_0 rfl rfl ?_
  refine v_iconst (pc' := 2) C (5) dX2_miss_1 ic_5 rfl ?_
  refine v_callv (pc' := 5) C h ([]) (fun r9 (u9 : Unit) => wS g aS r9) (fun r hr => run_V C (c_X2_count l g aS _ _ r hr) gX2_miss_X2_count rfl nd_X2_count rfl rfl rfl rfl ⟨Nat.le_of_ble_eq_true rfl, Nat.le_of_ble_eq_true rfl⟩ ⟨Nat.le_of_ble_eq_true rfl, Nat.le_of_ble_eq_true rfl⟩ (Nat.le_of_ble_eq_true rfl) dX2_miss_2 rfl) [0, 1, 2, 3] [] [0, 1, 2, 3] rfl rfl rfl rfl (by decide) rfl (fun _ _ => rfl) (k' := 0) (n' := 0) rfl rfl rfl (fun r_1 _ _ h => ?_)
  refine v_iload_n (pc' := 6) C 1 dX2_miss_5 rfl rfl ?_
  refine v_if_eq C 15 9 h dX2_miss_6 (by decide) rfl (fun _ h => ?_) (fun _ h => ?_)
  · refine v_aload_n (pc' := 16) C 0 dX2_miss_15 rfl rfl ?_
    refine v_dup (pc' := 17) C dX2_miss_16 rfl rfl ?_
    refine g_S_lives (pc' := 20) C 0 in_X2_miss_2 rfl k_X2_miss_1 rfl dX2_miss_17 rfl ?_
    refine v_iconst (pc' := 21) C (1) dX2_miss_20 ic_1 rfl ?_
    refine v_isub (pc' := 22) C dX2_miss_21 rfl ?_
    refine p_S_lives (pc' := 25) C h 0 (fun z9 => wS g aS z9) in_X2_miss_2 rfl k_X2_miss_1 rfl dX2_miss_22 (Nat.le_of_ble_eq_true rfl) rfl (fun zS_2 h => ?_)
    refine v_aload_n (pc' := 26) C 0 dX2_miss_25 rfl rfl ?_
    refine g_S_lives (pc' := 29) C 0 in_X2_miss_2 rfl k_X2_miss_1 rfl dX2_miss_26 rfl ?_
    refine v_if_ne C 36 32 h dX2_miss_29 (by decide) rfl (fun _ h => ?_) (fun _ h => ?_)
    · exact v_vret (Wf := fun (o9 : St) (u9 : Unit) => wS g aS o9) (ok := fun (o9 : St) (u9 : Unit) => True) C Cr h hQ () trivial rfl dX2_miss_36
    · refine v_aload_n (pc' := 33) C 0 dX2_miss_32 rfl rfl ?_
      refine v_callv (pc' := 36) C h ([]) (fun r9 (u9 : Unit) => wS g aS r9) (fun r hr => run_V C (c_X2_lose l g aS _ r hr) gX2_miss_X2_lose rfl nd_X2_lose rfl rfl rfl rfl ⟨Nat.le_of_ble_eq_true rfl, Nat.le_of_ble_eq_true rfl⟩ ⟨Nat.le_of_ble_eq_true rfl, Nat.le_of_ble_eq_true rfl⟩ (Nat.le_of_ble_eq_true rfl) dX2_miss_33 rfl) [0, 1, 2, 3] [] [0, 1, 2, 3] rfl rfl rfl rfl (by decide) rfl (fun _ _ => rfl) (k' := 0) (n' := 0) rfl rfl rfl (fun r_3 _ _ h => ?_)
      exact v_vret (Wf := fun (o9 : St) (u9 : Unit) => wS g aS o9) (ok := fun (o9 : St) (u9 : Unit) => True) C Cr h hQ () trivial rfl dX2_miss_36
  · refine v_aload_n (pc' := 10) C 0 dX2_miss_9 rfl rfl ?_
    refine v_bipush (pc' := 12) C (6) dX2_miss_10 bc_6 rfl ?_
    refine v_callv (pc' := 15) C h ([]) (fun r9 (u9 : Unit) => wS g aS r9) (fun r hr => run_V C (c_X2_count l g aS _ _ r hr) gX2_miss_X2_count rfl nd_X2_count rfl rfl rfl rfl ⟨Nat.le_of_ble_eq_true rfl, Nat.le_of_ble_eq_true rfl⟩ ⟨Nat.le_of_ble_eq_true rfl, Nat.le_of_ble_eq_true rfl⟩ (Nat.le_of_ble_eq_true rfl) dX2_miss_12 rfl) [0, 1, 2, 3] [] [0, 1, 2, 3] rfl rfl rfl rfl (by decide) rfl (fun _ _ => rfl) (k' := 0) (n' := 0) rfl rfl rfl (fun r_4 _ _ h => ?_)
    refine v_aload_n (pc' := 16) C 0 dX2_miss_15 rfl rfl ?_
    refine v_dup (pc' := 17) C dX2_miss_16 rfl rfl ?_
    refine g_S_lives (pc' := 20) C 0 in_X2_miss_2 rfl k_X2_miss_1 rfl dX2_miss_17 rfl ?_
    refine v_iconst (pc' := 21) C (1) dX2_miss_20 ic_1 rfl ?_
    refine v_isub (pc' := 22) C dX2_miss_21 rfl ?_
    refine p_S_lives (pc' := 25) C h 0 (fun z9 => wS g aS z9) in_X2_miss_2 rfl k_X2_miss_1 rfl dX2_miss_22 (Nat.le_of_ble_eq_true rfl) rfl (fun zS_5 h => ?_)
    refine v_aload_n (pc' := 26) C 0 dX2_miss_25 rfl rfl ?_
    refine g_S_lives (pc' := 29) C 0 in_X2_miss_2 rfl k_X2_miss_1 rfl dX2_miss_26 rfl ?_
    refine v_if_ne C 36 32 h dX2_miss_29 (by decide) rfl (fun _ h => ?_) (fun _ h => ?_)
    · exact v_vret (Wf := fun (o9 : St) (u9 : Unit) => wS g aS o9) (ok := fun (o9 : St) (u9 : Unit) => True) C Cr h hQ () trivial rfl dX2_miss_36
    · refine v_aload_n (pc' := 33) C 0 dX2_miss_32 rfl rfl ?_
      refine v_callv (pc' := 36) C h ([]) (fun r9 (u9 : Unit) => wS g aS r9) (fun r hr => run_V C (c_X2_lose l g aS _ r hr) gX2_miss_X2_lose rfl nd_X2_lose rfl rfl rfl rfl ⟨Nat.le_of_ble_eq_true rfl, Nat.le_of_ble_eq_true rfl⟩ ⟨Nat.le_of_ble_eq_true rfl, Nat.le_of_ble_eq_true rfl⟩ (Nat.le_of_ble_eq_true rfl) dX2_miss_33 rfl) [0, 1, 2, 3] [] [0, 1, 2, 3] rfl rfl rfl rfl (by decide) rfl (fun _ _ => rfl) (k' := 0) (n' := 0) rfl rfl rfl (fun r_6 _ _ h => ?_)
      exact v_vret (Wf := fun (o9 : St) (u9 : Unit) => wS g aS o9) (ok := fun (o9 : St) (u9 : Unit) => True) C Cr h hQ () trivial rfl dX2_miss_36
def f_X2_win (zS : St)  : Option (St) :=
  lett (S_status_set zS (2 : Int32)) fun zS_1 =>
  Option.bind (f_X2_count zS_1 (1 : Int32)) fun r_2 =>
  some r_2
abbrev rm_X2_win : Room := { frames := 1, cells := 0, slots := 0, locals := 21 }
theorem in_X2_win_2 : ∀ w ∈ wsX20, w ∈ wsX2_win := fun _ h => List.mem_cons_of_mem _ (List.mem_append_right _ h)
theorem k_X2_win_1 : Cond.fieldLink RX2 35 "DodgingHangman$State" "status" "I" ∈ wsX2_win := List.mem_of_getElem? (i := 1) rfl
theorem nd_X2_win : yX2_win.cls ≠ "java/lang/invoke/MethodHandle" ∧ yX2_win.cls ≠ "java/lang/invoke/VarHandle" ∧ (parseMethodDescriptor yX2_win.desc).map (fun d => d.parameters.length) = some 0 := by decide +kernel
set_option maxHeartbeats 4000000 in
set_option maxRecDepth 100000 in
theorem c_X2_win (l : Launch) (g : Gv) (aS : RA) (zS : St)  (o : St) (h : f_X2_win zS  = some o) : Ct l g yX2_win wsX2_win rm_X2_win [.ref aS.1] (wS g aS zS) (Qv g (fun _ : Unit => wS g aS o) (fun _ => True)) := by
  refine enter (ret := none) (X := wS g aS zS) (pl := []) pn_X2 rfl (Nat.le_of_ble_eq_true rfl) ((List.append_nil _).symm) ?_
  intro p e s m args below meth c A Q C Cr hin hQ
  unfold f_X2_win at h
  refine v_aload_n (pc' := 1) C 0 dX2_win_0 rfl rfl ?_
  refine v_iconst (pc' := 2) C (2) dX2_win_1 ic_2 rfl ?_
  refine p_S_status (pc' := 5) C h 0 (fun z9 => wS g aS z9) in_X2_win_2 rfl k_X2_win_1 rfl dX2_win_2 (Nat.le_of_ble_eq_true rfl) rfl (fun zS_1 h => ?_)
  refine v_aload_n (pc' := 6) C 0 dX2_win_5 rfl rfl ?_
  refine v_iconst (pc' := 7) C (1) dX2_win_6 ic_1 rfl ?_
  refine v_callv (pc' := 10) C h ([]) (fun r9 (u9 : Unit) => wS g aS r9) (fun r hr => run_V C (c_X2_count l g aS _ _ r hr) gX2_win_X2_count rfl nd_X2_count rfl rfl rfl rfl ⟨Nat.le_of_ble_eq_true rfl, Nat.le_of_ble_eq_true rfl⟩ ⟨Nat.le_of_ble_eq_true rfl, Nat.le_of_ble_eq_true rfl⟩ (Nat.le_of_ble_eq_true rfl) dX2_win_7 rfl) [0, 1, 2, 3] [] [0, 1, 2, 3] rfl rfl rfl rfl (by decide) rfl (fun _ _ => rfl) (k' := 0) (n' := 0) rfl rfl rfl (fun r_2 _ _ h => ?_)
  exact v_vret (Wf := fun (o9 : St) (u9 : Unit) => wS g aS o9) (ok := fun (o9 : St) (u9 : Unit) => True) C Cr h hQ () trivial rfl dX2_win_10
def f_X2_takeLetter_J77  (zS_7 : St) : Option (St) :=
  Option.bind (f_X4_lengthOf (S_pattern zS_7)) fun r_8 =>
  if r_8 = (S_length zS_7) then Option.bind (f_X2_win zS_7) fun r_9 =>
  some r_9
  else some zS_7
def f_X2_takeLetter_L39 (p2 : Int32) (p1 : Int32) (re39 : Int32 → St → Option (St)) (v5_5 : Int32) (zS_6 : St) : Option (St) :=
  if v5_5 < (S_length zS_6) then if ((p2 >>> (v5_5 &&& 31)) &&& (1 : Int32)) = 0 then lett (v5_5 + (1 : Int32)) fun v5_10 =>
  re39 v5_10 zS_6
  else Option.bind (f_X4_withLetter (S_pattern zS_6) v5_5 p1) fun r_11 =>
  lett (S_pattern_set zS_6 r_11) fun zS_12 =>
  lett (v5_5 + (1 : Int32)) fun v5_13 =>
  re39 v5_13 zS_12
  else f_X2_takeLetter_J77  zS_6
def f_X2_takeLetter_J18 (p3 : Int32) (p2 : Int32) (p1 : Int32) (zS_2 : St) (s0_3 : Int32) : Option (St) :=
  lett (S_candidates_set zS_2 p3) fun zS_4 =>
  if p2 = 0 then Option.bind (f_X2_miss zS_4 s0_3) fun r_14 =>
  some r_14
  else loop2 (f_X2_takeLetter_L39 p2 p1) FU (0 : Int32) zS_4
def f_X2_takeLetter (zS : St) (p1 : Int32) (p2 : Int32) (p3 : Int32) : Option (St) :=
  Option.bind (f_X2_noteGuess zS p1) fun r_1 =>
  if p3 = (S_candidates r_1) then f_X2_takeLetter_J18 p3 p2 p1 r_1 (0 : Int32)
  else f_X2_takeLetter_J18 p3 p2 p1 r_1 (1 : Int32)
abbrev rm_X2_takeLetter : Room := { frames := 3, cells := 0, slots := 0, locals := 66 }
theorem in_X2_takeLetter_2 : ∀ w ∈ wsX20, w ∈ wsX2_takeLetter := fun _ h => List.mem_cons_of_mem _ (List.mem_append_right _ h)
theorem k_X2_takeLetter_1 : Cond.fieldLink RX2 44 "DodgingHangman$State" "candidates" "I" ∈ wsX2_takeLetter := List.mem_of_getElem? (i := 1) rfl
theorem k_X2_takeLetter_2 : Cond.fieldLink RX2 38 "DodgingHangman$State" "length" "I" ∈ wsX2_takeLetter := List.mem_of_getElem? (i := 2) rfl
theorem k_X2_takeLetter_3 : Cond.fieldLink RX2 53 "DodgingHangman$State" "pattern" "J" ∈ wsX2_takeLetter := List.mem_of_getElem? (i := 3) rfl
theorem nd_X2_takeLetter : yX2_takeLetter.cls ≠ "java/lang/invoke/MethodHandle" ∧ yX2_takeLetter.cls ≠ "java/lang/invoke/VarHandle" ∧ (parseMethodDescriptor yX2_takeLetter.desc).map (fun d => d.parameters.length) = some 3 := by decide +kernel
set_option maxHeartbeats 4000000 in
set_option maxRecDepth 100000 in
theorem c_X2_takeLetter (l : Launch) (g : Gv) (aS : RA) (zS : St) (p1 : Int32) (p2 : Int32) (p3 : Int32) (o : St) (h : f_X2_takeLetter zS p1 p2 p3 = some o) : Ct l g yX2_takeLetter wsX2_takeLetter rm_X2_takeLetter [.ref aS.1, .int p1, .int p2, .int p3] (wS g aS zS) (Qv g (fun _ : Unit => wS g aS o) (fun _ => True)) := by
  refine enter (ret := none) (X := wS g aS zS) (pl := []) pn_X2 rfl (Nat.le_of_ble_eq_true rfl) ((List.append_nil _).symm) ?_
  intro p e s m args below meth c A Q C Cr hin hQ
  unfold f_X2_takeLetter at h
  have J77 : ∀ (zS_7 : St), f_X2_takeLetter_J77  zS_7 = some o → V p l e rm_X2_takeLetter s m args below meth c g 6 A 0 0 Q (wS g aS zS_7) [] [(0, .ref aS.1)] 77 [] := by
    intro zS_7 h
    unfold f_X2_takeLetter_J77 at h
    refine v_aload_n (pc' := 78) C 0 dX2_takeLetter_77 rfl rfl ?_
    refine g_S_pattern (pc' := 81) C 0 in_X2_takeLetter_2 rfl k_X2_takeLetter_3 rfl dX2_takeLetter_78 rfl ?_
    refine v_purei (pc' := 84) C h (rf := fun r9 => r9) (fun r hr => run_S C (c_X4_lengthOf l g _ r hr) gX2_takeLetter_X4_lengthOf rfl nd_X4_lengthOf ⟨Nat.le_of_ble_eq_true rfl, Nat.le_of_ble_eq_true rfl⟩ ⟨Nat.le_of_ble_eq_true rfl, Nat.le_of_ble_eq_true rfl⟩ (Nat.le_of_ble_eq_true rfl) dX2_takeLetter_81 rfl) rfl (fun r_8 h => ?_)
    refine v_aload_n (pc' := 85) C 0 dX2_takeLetter_84 rfl rfl ?_
    refine g_S_length (pc' := 88) C 0 in_X2_takeLetter_2 rfl k_X2_takeLetter_2 rfl dX2_takeLetter_85 rfl ?_
    refine v_icmp_ne C 95 91 h dX2_takeLetter_88 (by decide) rfl (fun _ h => ?_) (fun _ h => ?_)
    · exact v_vret (Wf := fun (o9 : St) (u9 : Unit) => wS g aS o9) (ok := fun (o9 : St) (u9 : Unit) => True) C Cr h hQ () trivial rfl dX2_takeLetter_95
    · refine v_aload_n (pc' := 92) C 0 dX2_takeLetter_91 rfl rfl ?_
      refine v_callv (pc' := 95) C h ([]) (fun r9 (u9 : Unit) => wS g aS r9) (fun r hr => run_V C (c_X2_win l g aS _ r hr) gX2_takeLetter_X2_win rfl nd_X2_win rfl rfl rfl rfl ⟨Nat.le_of_ble_eq_true rfl, Nat.le_of_ble_eq_true rfl⟩ ⟨Nat.le_of_ble_eq_true rfl, Nat.le_of_ble_eq_true rfl⟩ (Nat.le_of_ble_eq_true rfl) dX2_takeLetter_92 rfl) [0, 1, 2, 3] [] [0, 1, 2, 3] rfl rfl rfl rfl (by decide) rfl (fun _ _ => rfl) (k' := 0) (n' := 0) rfl rfl rfl (fun r_9 _ _ h => ?_)
      exact v_vret (Wf := fun (o9 : St) (u9 : Unit) => wS g aS o9) (ok := fun (o9 : St) (u9 : Unit) => True) C Cr h hQ () trivial rfl dX2_takeLetter_95
  have J18 : ∀ (zS_2 : St) (s0_3 : Int32), f_X2_takeLetter_J18 p3 p2 p1 zS_2 s0_3 = some o → V p l e rm_X2_takeLetter s m args below meth c g 6 A 0 0 Q (wS g aS zS_2) [] [(0, .ref aS.1), (1, .int p1), (2, .int p2), (3, .int p3)] 18 [.int s0_3] := by
    intro zS_2 s0_3 h
    unfold f_X2_takeLetter_J18 at h
    refine v_istore (pc' := 20) C [1, 2, 3, 4, 0] (lv' := [(0, .ref aS.1), (1, .int p1), (2, .int p2), (3, .int p3), (4, .int s0_3)]) dX2_takeLetter_18 (Nat.le_of_ble_eq_true rfl) rfl rfl ?_
    refine v_aload_n (pc' := 21) C 0 dX2_takeLetter_20 rfl rfl ?_
    refine v_iload_n (pc' := 22) C 3 dX2_takeLetter_21 rfl rfl ?_
    refine p_S_candidates (pc' := 25) C h 0 (fun z9 => wS g aS z9) in_X2_takeLetter_2 rfl k_X2_takeLetter_1 rfl dX2_takeLetter_22 (Nat.le_of_ble_eq_true rfl) rfl (fun zS_4 h => ?_)
    refine v_iload_n (pc' := 26) C 2 dX2_takeLetter_25 rfl rfl ?_
    refine v_if_ne C 36 29 h dX2_takeLetter_26 (by decide) rfl (fun _ h => ?_) (fun _ h => ?_)
    · refine v_iconst (pc' := 37) C (0) dX2_takeLetter_36 ic_0 rfl ?_
      refine v_istore (pc' := 39) C [1, 2, 3, 4, 5, 0] (lv' := [(0, .ref aS.1), (1, .int p1), (2, .int p2), (3, .int p3), (4, .int s0_3), (5, .int (0 : Int32))]) dX2_takeLetter_37 (Nat.le_of_ble_eq_true rfl) rfl rfl ?_
      refine v_lv [0, 1, 2, 5] (lv' := [(0, .ref aS.1), (1, .int p1), (2, .int p2), (5, .int (0 : Int32))]) rfl ?_
      refine v_loop2 (fun (v5_5 : Int32) (zS_6 : St) => V p l e rm_X2_takeLetter s m args below meth c g 6 A 0 0 Q (wS g aS zS_6) [] [(0, .ref aS.1), (1, .int p1), (2, .int p2), (5, .int v5_5)] 39 []) (fun re39 ih39 v5_5 zS_6 h => ?_) (0 : Int32) zS_4 h
      unfold f_X2_takeLetter_L39 at h
      refine v_iload (pc' := 41) C 3 dX2_takeLetter_39 rfl rfl ?_
      refine v_aload_n (pc' := 42) C 0 dX2_takeLetter_41 rfl rfl ?_
      refine g_S_length (pc' := 45) C 0 in_X2_takeLetter_2 rfl k_X2_takeLetter_2 rfl dX2_takeLetter_42 rfl ?_
      refine v_icmp_ge C 77 48 h dX2_takeLetter_45 (by decide) rfl (fun _ h => ?_) (fun _ h => ?_)
      · refine v_lv [0] (lv' := [(0, .ref aS.1)]) rfl ?_
        exact J77 zS_6 h
      · refine v_iload_n (pc' := 49) C 2 dX2_takeLetter_48 rfl rfl ?_
        refine v_iload (pc' := 51) C 3 dX2_takeLetter_49 rfl rfl ?_
        refine v_ishr (pc' := 52) C dX2_takeLetter_51 rfl ?_
        refine v_iconst (pc' := 53) C (1) dX2_takeLetter_52 ic_1 rfl ?_
        refine v_iand (pc' := 54) C dX2_takeLetter_53 rfl ?_
        refine v_if_eq C 71 57 h dX2_takeLetter_54 (by decide) rfl (fun _ h => ?_) (fun _ h => ?_)
        · refine v_iinc (pc' := 74) C 3 [1, 2, 3, 0] (1) dX2_takeLetter_71 rfl ic_1 (Nat.le_of_ble_eq_true rfl) h (lw := fun v9 => [(0, .ref aS.1), (1, .int p1), (2, .int p2), (5, .int v9)]) (fun _ => rfl) rfl (fun v5_10 h => ?_)
          refine v_goto C (pc' := 39) dX2_takeLetter_74 (by decide) ?_
          exact ih39 v5_10 zS_6 h
        · refine v_aload_n (pc' := 58) C 0 dX2_takeLetter_57 rfl rfl ?_
          refine v_aload_n (pc' := 59) C 0 dX2_takeLetter_58 rfl rfl ?_
          refine g_S_pattern (pc' := 62) C 0 in_X2_takeLetter_2 rfl k_X2_takeLetter_3 rfl dX2_takeLetter_59 rfl ?_
          refine v_iload (pc' := 64) C 3 dX2_takeLetter_62 rfl rfl ?_
          refine v_iload_n (pc' := 65) C 1 dX2_takeLetter_64 rfl rfl ?_
          refine v_purel (pc' := 68) C h (rf := fun r9 => r9) (fun r hr => run_S C (c_X4_withLetter l g _ _ _ r hr) gX2_takeLetter_X4_withLetter rfl nd_X4_withLetter ⟨Nat.le_of_ble_eq_true rfl, Nat.le_of_ble_eq_true rfl⟩ ⟨Nat.le_of_ble_eq_true rfl, Nat.le_of_ble_eq_true rfl⟩ (Nat.le_of_ble_eq_true rfl) dX2_takeLetter_65 rfl) rfl (fun r_11 h => ?_)
          refine p_S_pattern (pc' := 71) C h 0 (fun z9 => wS g aS z9) in_X2_takeLetter_2 rfl k_X2_takeLetter_3 rfl dX2_takeLetter_68 (Nat.le_of_ble_eq_true rfl) rfl (fun zS_12 h => ?_)
          refine v_iinc (pc' := 74) C 3 [1, 2, 3, 0] (1) dX2_takeLetter_71 rfl ic_1 (Nat.le_of_ble_eq_true rfl) h (lw := fun v9 => [(0, .ref aS.1), (1, .int p1), (2, .int p2), (5, .int v9)]) (fun _ => rfl) rfl (fun v5_13 h => ?_)
          refine v_goto C (pc' := 39) dX2_takeLetter_74 (by decide) ?_
          exact ih39 v5_13 zS_12 h
    · refine v_aload_n (pc' := 30) C 0 dX2_takeLetter_29 rfl rfl ?_
      refine v_iload (pc' := 32) C 4 dX2_takeLetter_30 rfl rfl ?_
      refine v_callv (pc' := 35) C h ([]) (fun r9 (u9 : Unit) => wS g aS r9) (fun r hr => run_V C (c_X2_miss l g aS _ _ r hr) gX2_takeLetter_X2_miss rfl nd_X2_miss rfl rfl rfl rfl ⟨Nat.le_of_ble_eq_true rfl, Nat.le_of_ble_eq_true rfl⟩ ⟨Nat.le_of_ble_eq_true rfl, Nat.le_of_ble_eq_true rfl⟩ (Nat.le_of_ble_eq_true rfl) dX2_takeLetter_32 rfl) [0, 1, 2, 3] [] [0, 1, 2, 3] rfl rfl rfl rfl (by decide) rfl (fun _ _ => rfl) (k' := 0) (n' := 0) rfl rfl rfl (fun r_14 _ _ h => ?_)
      exact v_vret (Wf := fun (o9 : St) (u9 : Unit) => wS g aS o9) (ok := fun (o9 : St) (u9 : Unit) => True) C Cr h hQ () trivial rfl dX2_takeLetter_35
  refine v_aload_n (pc' := 1) C 0 dX2_takeLetter_0 rfl rfl ?_
  refine v_iload_n (pc' := 2) C 1 dX2_takeLetter_1 rfl rfl ?_
  refine v_callv (pc' := 5) C h ([]) (fun r9 (u9 : Unit) => wS g aS r9) (fun r hr => run_V C (c_X2_noteGuess l g aS _ _ r hr) gX2_takeLetter_X2_noteGuess rfl nd_X2_noteGuess rfl rfl rfl rfl ⟨Nat.le_of_ble_eq_true rfl, Nat.le_of_ble_eq_true rfl⟩ ⟨Nat.le_of_ble_eq_true rfl, Nat.le_of_ble_eq_true rfl⟩ (Nat.le_of_ble_eq_true rfl) dX2_takeLetter_2 rfl) [0, 1, 2, 3] [] [0, 1, 2, 3] rfl rfl rfl rfl (by decide) rfl (fun _ _ => rfl) (k' := 0) (n' := 0) rfl rfl rfl (fun r_1 _ _ h => ?_)
  refine v_iload_n (pc' := 6) C 3 dX2_takeLetter_5 rfl rfl ?_
  refine v_aload_n (pc' := 7) C 0 dX2_takeLetter_6 rfl rfl ?_
  refine g_S_candidates (pc' := 10) C 0 in_X2_takeLetter_2 rfl k_X2_takeLetter_1 rfl dX2_takeLetter_7 rfl ?_
  refine v_icmp_eq C 17 13 h dX2_takeLetter_10 (by decide) rfl (fun _ h => ?_) (fun _ h => ?_)
  · refine v_iconst (pc' := 18) C (0) dX2_takeLetter_17 ic_0 rfl ?_
    exact J18 r_1 (0 : Int32) h
  · refine v_iconst (pc' := 14) C (1) dX2_takeLetter_13 ic_1 rfl ?_
    refine v_goto C (pc' := 18) dX2_takeLetter_14 (by decide) ?_
    exact J18 r_1 (1 : Int32) h
def f_X2_takeWord_J54  (v4_6 : Int32) (zS_7 : St) : Option (St) :=
  lett (S_candidates_set zS_7 ((S_candidates zS_7) &&& (v4_6 ^^^ (-1 : Int32)))) fun zS_8 =>
  if v4_6 = 0 then Option.bind (f_X2_miss zS_8 (0 : Int32)) fun r_9 =>
  some r_9
  else Option.bind (f_X2_miss zS_8 (1 : Int32)) fun r_10 =>
  some r_10
def f_X2_takeWord_J26 (p1 : Int64) (zS_4 : St) (s0_5 : Int32) : Option (St) :=
  if s0_5 = 0 then f_X2_takeWord_J54  s0_5 zS_4
  else if s0_5 = (S_candidates zS_4) then lett (S_pattern_set zS_4 p1) fun zS_11 =>
  Option.bind (f_X2_win zS_11) fun r_12 =>
  some r_12
  else f_X2_takeWord_J54  s0_5 zS_4
def f_X2_takeWord (zS : St) (p1 : Int64) : Option (St) :=
  Option.bind (f_X2_count zS (4 : Int32)) fun r_1 =>
  Option.bind (f_X2_numberOf r_1 p1) fun r_2 =>
  Option.bind (f_X2_isCandidate r_1 r_2) fun r_3 =>
  if r_3 = 0 then f_X2_takeWord_J26 p1 r_1 (0 : Int32)
  else f_X2_takeWord_J26 p1 r_1 ((1 : Int32) <<< (r_2 &&& 31))
abbrev rm_X2_takeWord : Room := { frames := 3, cells := 0, slots := 0, locals := 65 }
theorem in_X2_takeWord_2 : ∀ w ∈ wsX20, w ∈ wsX2_takeWord := fun _ h => List.mem_cons_of_mem _ (List.mem_append_right _ h)
theorem k_X2_takeWord_1 : Cond.fieldLink RX2 44 "DodgingHangman$State" "candidates" "I" ∈ wsX2_takeWord := List.mem_of_getElem? (i := 1) rfl
theorem k_X2_takeWord_2 : Cond.fieldLink RX2 53 "DodgingHangman$State" "pattern" "J" ∈ wsX2_takeWord := List.mem_of_getElem? (i := 2) rfl
theorem nd_X2_takeWord : yX2_takeWord.cls ≠ "java/lang/invoke/MethodHandle" ∧ yX2_takeWord.cls ≠ "java/lang/invoke/VarHandle" ∧ (parseMethodDescriptor yX2_takeWord.desc).map (fun d => d.parameters.length) = some 1 := by decide +kernel
set_option maxHeartbeats 4000000 in
set_option maxRecDepth 100000 in
theorem c_X2_takeWord (l : Launch) (g : Gv) (aS : RA) (zS : St) (p1 : Int64) (o : St) (h : f_X2_takeWord zS p1 = some o) : Ct l g yX2_takeWord wsX2_takeWord rm_X2_takeWord [.ref aS.1, .long p1] (wS g aS zS) (Qv g (fun _ : Unit => wS g aS o) (fun _ => True)) := by
  refine enter (ret := none) (X := wS g aS zS) (pl := []) pn_X2 rfl (Nat.le_of_ble_eq_true rfl) ((List.append_nil _).symm) ?_
  intro p e s m args below meth c A Q C Cr hin hQ
  unfold f_X2_takeWord at h
  have J54 : ∀ (v4_6 : Int32) (zS_7 : St), f_X2_takeWord_J54  v4_6 zS_7 = some o → V p l e rm_X2_takeWord s m args below meth c g 5 A 0 0 Q (wS g aS zS_7) [] [(0, .ref aS.1), (4, .int v4_6)] 54 [] := by
    intro v4_6 zS_7 h
    unfold f_X2_takeWord_J54 at h
    refine v_aload_n (pc' := 55) C 0 dX2_takeWord_54 rfl rfl ?_
    refine v_dup (pc' := 56) C dX2_takeWord_55 rfl rfl ?_
    refine g_S_candidates (pc' := 59) C 0 in_X2_takeWord_2 rfl k_X2_takeWord_1 rfl dX2_takeWord_56 rfl ?_
    refine v_iload (pc' := 61) C 1 dX2_takeWord_59 rfl rfl ?_
    refine v_iconst (pc' := 62) C (-1) dX2_takeWord_61 ic_m1 rfl ?_
    refine v_ixor (pc' := 63) C dX2_takeWord_62 rfl ?_
    refine v_iand (pc' := 64) C dX2_takeWord_63 rfl ?_
    refine p_S_candidates (pc' := 67) C h 0 (fun z9 => wS g aS z9) in_X2_takeWord_2 rfl k_X2_takeWord_1 rfl dX2_takeWord_64 (Nat.le_of_ble_eq_true rfl) rfl (fun zS_8 h => ?_)
    refine v_aload_n (pc' := 68) C 0 dX2_takeWord_67 rfl rfl ?_
    refine v_iload (pc' := 70) C 1 dX2_takeWord_68 rfl rfl ?_
    refine v_if_eq C 77 73 h dX2_takeWord_70 (by decide) rfl (fun _ h => ?_) (fun _ h => ?_)
    · refine v_iconst (pc' := 78) C (0) dX2_takeWord_77 ic_0 rfl ?_
      refine v_callv (pc' := 81) C h ([]) (fun r9 (u9 : Unit) => wS g aS r9) (fun r hr => run_V C (c_X2_miss l g aS _ _ r hr) gX2_takeWord_X2_miss rfl nd_X2_miss rfl rfl rfl rfl ⟨Nat.le_of_ble_eq_true rfl, Nat.le_of_ble_eq_true rfl⟩ ⟨Nat.le_of_ble_eq_true rfl, Nat.le_of_ble_eq_true rfl⟩ (Nat.le_of_ble_eq_true rfl) dX2_takeWord_78 rfl) [0, 1, 2, 3] [] [0, 1, 2, 3] rfl rfl rfl rfl (by decide) rfl (fun _ _ => rfl) (k' := 0) (n' := 0) rfl rfl rfl (fun r_9 _ _ h => ?_)
      exact v_vret (Wf := fun (o9 : St) (u9 : Unit) => wS g aS o9) (ok := fun (o9 : St) (u9 : Unit) => True) C Cr h hQ () trivial rfl dX2_takeWord_81
    · refine v_iconst (pc' := 74) C (1) dX2_takeWord_73 ic_1 rfl ?_
      refine v_goto C (pc' := 78) dX2_takeWord_74 (by decide) ?_
      refine v_callv (pc' := 81) C h ([]) (fun r9 (u9 : Unit) => wS g aS r9) (fun r hr => run_V C (c_X2_miss l g aS _ _ r hr) gX2_takeWord_X2_miss rfl nd_X2_miss rfl rfl rfl rfl ⟨Nat.le_of_ble_eq_true rfl, Nat.le_of_ble_eq_true rfl⟩ ⟨Nat.le_of_ble_eq_true rfl, Nat.le_of_ble_eq_true rfl⟩ (Nat.le_of_ble_eq_true rfl) dX2_takeWord_78 rfl) [0, 1, 2, 3] [] [0, 1, 2, 3] rfl rfl rfl rfl (by decide) rfl (fun _ _ => rfl) (k' := 0) (n' := 0) rfl rfl rfl (fun r_10 _ _ h => ?_)
      exact v_vret (Wf := fun (o9 : St) (u9 : Unit) => wS g aS o9) (ok := fun (o9 : St) (u9 : Unit) => True) C Cr h hQ () trivial rfl dX2_takeWord_81
  have J26 : ∀ (zS_4 : St) (s0_5 : Int32), f_X2_takeWord_J26 p1 zS_4 s0_5 = some o → V p l e rm_X2_takeWord s m args below meth c g 5 A 0 0 Q (wS g aS zS_4) [] [(0, .ref aS.1), (1, .long p1)] 26 [.int s0_5] := by
    intro zS_4 s0_5 h
    unfold f_X2_takeWord_J26 at h
    refine v_istore (pc' := 28) C [1, 2, 0] (lv' := [(0, .ref aS.1), (1, .long p1), (4, .int s0_5)]) dX2_takeWord_26 (Nat.le_of_ble_eq_true rfl) rfl rfl ?_
    refine v_iload (pc' := 30) C 2 dX2_takeWord_28 rfl rfl ?_
    refine v_if_eq C 54 33 h dX2_takeWord_30 (by decide) rfl (fun _ h => ?_) (fun _ h => ?_)
    · refine v_lv [0, 2] (lv' := [(0, .ref aS.1), (4, .int s0_5)]) rfl ?_
      exact J54 s0_5 zS_4 h
    · refine v_iload (pc' := 35) C 2 dX2_takeWord_33 rfl rfl ?_
      refine v_aload_n (pc' := 36) C 0 dX2_takeWord_35 rfl rfl ?_
      refine g_S_candidates (pc' := 39) C 0 in_X2_takeWord_2 rfl k_X2_takeWord_1 rfl dX2_takeWord_36 rfl ?_
      refine v_icmp_ne C 54 42 h dX2_takeWord_39 (by decide) rfl (fun _ h => ?_) (fun _ h => ?_)
      · refine v_lv [0, 2] (lv' := [(0, .ref aS.1), (4, .int s0_5)]) rfl ?_
        exact J54 s0_5 zS_4 h
      · refine v_aload_n (pc' := 43) C 0 dX2_takeWord_42 rfl rfl ?_
        refine v_lload_n (pc' := 44) C 1 dX2_takeWord_43 rfl rfl ?_
        refine p_S_pattern (pc' := 47) C h 0 (fun z9 => wS g aS z9) in_X2_takeWord_2 rfl k_X2_takeWord_2 rfl dX2_takeWord_44 (Nat.le_of_ble_eq_true rfl) rfl (fun zS_11 h => ?_)
        refine v_aload_n (pc' := 48) C 0 dX2_takeWord_47 rfl rfl ?_
        refine v_callv (pc' := 51) C h ([]) (fun r9 (u9 : Unit) => wS g aS r9) (fun r hr => run_V C (c_X2_win l g aS _ r hr) gX2_takeWord_X2_win rfl nd_X2_win rfl rfl rfl rfl ⟨Nat.le_of_ble_eq_true rfl, Nat.le_of_ble_eq_true rfl⟩ ⟨Nat.le_of_ble_eq_true rfl, Nat.le_of_ble_eq_true rfl⟩ (Nat.le_of_ble_eq_true rfl) dX2_takeWord_48 rfl) [0, 1, 2, 3] [] [0, 1, 2, 3] rfl rfl rfl rfl (by decide) rfl (fun _ _ => rfl) (k' := 0) (n' := 0) rfl rfl rfl (fun r_12 _ _ h => ?_)
        refine v_goto C (pc' := 81) dX2_takeWord_51 (by decide) ?_
        exact v_vret (Wf := fun (o9 : St) (u9 : Unit) => wS g aS o9) (ok := fun (o9 : St) (u9 : Unit) => True) C Cr h hQ () trivial rfl dX2_takeWord_81
  refine v_aload_n (pc' := 1) C 0 dX2_takeWord_0 rfl rfl ?_
  refine v_iconst (pc' := 2) C (4) dX2_takeWord_1 ic_4 rfl ?_
  refine v_callv (pc' := 5) C h ([]) (fun r9 (u9 : Unit) => wS g aS r9) (fun r hr => run_V C (c_X2_count l g aS _ _ r hr) gX2_takeWord_X2_count rfl nd_X2_count rfl rfl rfl rfl ⟨Nat.le_of_ble_eq_true rfl, Nat.le_of_ble_eq_true rfl⟩ ⟨Nat.le_of_ble_eq_true rfl, Nat.le_of_ble_eq_true rfl⟩ (Nat.le_of_ble_eq_true rfl) dX2_takeWord_2 rfl) [0, 1, 2, 3] [] [0, 1, 2, 3] rfl rfl rfl rfl (by decide) rfl (fun _ _ => rfl) (k' := 0) (n' := 0) rfl rfl rfl (fun r_1 _ _ h => ?_)
  refine v_aload_n (pc' := 6) C 0 dX2_takeWord_5 rfl rfl ?_
  refine v_lload_n (pc' := 7) C 1 dX2_takeWord_6 rfl rfl ?_
  refine v_calli (pc' := 10) C h (rf := fun r9 => r9) ([]) (fun r9 (u9 : Unit) => wS g aS r_1) (fun r hr => run_V C (c_X2_numberOf l g aS _ _ r hr) gX2_takeWord_X2_numberOf rfl nd_X2_numberOf rfl rfl rfl rfl ⟨Nat.le_of_ble_eq_true rfl, Nat.le_of_ble_eq_true rfl⟩ ⟨Nat.le_of_ble_eq_true rfl, Nat.le_of_ble_eq_true rfl⟩ (Nat.le_of_ble_eq_true rfl) dX2_takeWord_7 rfl) [0, 1, 2, 3] [] [0, 1, 2, 3] rfl rfl rfl rfl (by decide) rfl (fun _ _ => rfl) (k' := 0) (n' := 0) rfl rfl rfl (fun r_2 _ _ h => ?_)
  refine v_istore_n (pc' := 11) C [1, 2, 0] (lv' := [(0, .ref aS.1), (1, .long p1), (3, .int r_2)]) dX2_takeWord_10 (Nat.le_of_ble_eq_true rfl) rfl rfl ?_
  refine v_aload_n (pc' := 12) C 0 dX2_takeWord_11 rfl rfl ?_
  refine v_iload_n (pc' := 13) C 2 dX2_takeWord_12 rfl rfl ?_
  refine v_calli (pc' := 16) C h (rf := fun r9 => r9) ([]) (fun r9 (u9 : Unit) => wS g aS r_1) (fun r hr => run_V C (c_X2_isCandidate l g aS _ _ r hr) gX2_takeWord_X2_isCandidate rfl nd_X2_isCandidate rfl rfl rfl rfl ⟨Nat.le_of_ble_eq_true rfl, Nat.le_of_ble_eq_true rfl⟩ ⟨Nat.le_of_ble_eq_true rfl, Nat.le_of_ble_eq_true rfl⟩ (Nat.le_of_ble_eq_true rfl) dX2_takeWord_13 rfl) [0, 1, 2, 3] [] [0, 1, 2, 3] rfl rfl rfl rfl (by decide) rfl (fun _ _ => rfl) (k' := 0) (n' := 0) rfl rfl rfl (fun r_3 _ _ h => ?_)
  refine v_if_eq C 25 19 h dX2_takeWord_16 (by decide) rfl (fun _ h => ?_) (fun _ h => ?_)
  · refine v_iconst (pc' := 26) C (0) dX2_takeWord_25 ic_0 rfl ?_
    refine v_lv [0, 1] (lv' := [(0, .ref aS.1), (1, .long p1)]) rfl ?_
    exact J26 r_1 (0 : Int32) h
  · refine v_iconst (pc' := 20) C (1) dX2_takeWord_19 ic_1 rfl ?_
    refine v_iload_n (pc' := 21) C 2 dX2_takeWord_20 rfl rfl ?_
    refine v_ishl (pc' := 22) C dX2_takeWord_21 rfl ?_
    refine v_goto C (pc' := 26) dX2_takeWord_22 (by decide) ?_
    refine v_lv [0, 1] (lv' := [(0, .ref aS.1), (1, .long p1)]) rfl ?_
    exact J26 r_1 ((1 : Int32) <<< (r_2 &&& 31)) h
def f_X5_memberAt_L4 (p0 : Int32) (p1 : Int32) (re4 : Int32 → Int32 → Option (Int32)) (v2_1 : Int32) (v3_2 : Int32) : Option (Int32) :=
  if v3_2 < (30 : Int32) then if ((p0 >>> (v3_2 &&& 31)) &&& (1 : Int32)) = 0 then lett (v3_2 + (1 : Int32)) fun v3_3 =>
  re4 v2_1 v3_3
  else if v2_1 = p1 then some v3_2
  else lett (v2_1 + (1 : Int32)) fun v2_4 =>
  lett (v3_2 + (1 : Int32)) fun v3_5 =>
  re4 v2_4 v3_5
  else some (-1 : Int32)
def f_X5_memberAt  (p0 : Int32) (p1 : Int32) : Option (Int32) :=
  loop2 (f_X5_memberAt_L4 p0 p1) FU (0 : Int32) (0 : Int32)
abbrev rm_X5_memberAt : Room := { frames := 0, cells := 0, slots := 0, locals := 0 }
theorem nd_X5_memberAt : yX5_memberAt.cls ≠ "java/lang/invoke/MethodHandle" ∧ yX5_memberAt.cls ≠ "java/lang/invoke/VarHandle" ∧ (parseMethodDescriptor yX5_memberAt.desc).map (fun d => d.parameters.length) = some 2 := by decide +kernel
set_option maxHeartbeats 4000000 in
set_option maxRecDepth 100000 in
theorem c_X5_memberAt (l : Launch) (g : Gv)   (p0 : Int32) (p1 : Int32) (o : Int32) (h : f_X5_memberAt  p0 p1 = some o) : Ct l g yX5_memberAt wsX5_memberAt rm_X5_memberAt [.int p0, .int p1] ([]) (Qi g o (fun _ : Unit => []) (fun _ => True)) := by
  refine enter (ret := (some .int)) (X := []) (pl := []) pn_X5 rfl (Nat.le_of_ble_eq_true rfl) ((List.append_nil _).symm) ?_
  intro p e s m args below meth c A Q C Cr hin hQ
  unfold f_X5_memberAt at h
  refine v_iconst (pc' := 1) C (0) dX5_memberAt_0 ic_0 rfl ?_
  refine v_istore_n (pc' := 2) C [1, 2, 0] (lv' := [(0, .int p0), (1, .int p1), (2, .int (0 : Int32))]) dX5_memberAt_1 (Nat.le_of_ble_eq_true rfl) rfl rfl ?_
  refine v_iconst (pc' := 3) C (0) dX5_memberAt_2 ic_0 rfl ?_
  refine v_istore_n (pc' := 4) C [1, 2, 3, 0] (lv' := [(0, .int p0), (1, .int p1), (2, .int (0 : Int32)), (3, .int (0 : Int32))]) dX5_memberAt_3 (Nat.le_of_ble_eq_true rfl) rfl rfl ?_
  refine v_loop2 (fun (v2_1 : Int32) (v3_2 : Int32) => V p l e rm_X5_memberAt s m args below meth c g 4 A 0 0 Q ([]) [] [(0, .int p0), (1, .int p1), (2, .int v2_1), (3, .int v3_2)] 4 []) (fun re4 ih4 v2_1 v3_2 h => ?_) (0 : Int32) (0 : Int32) h
  unfold f_X5_memberAt_L4 at h
  refine v_iload_n (pc' := 5) C 3 dX5_memberAt_4 rfl rfl ?_
  refine v_bipush (pc' := 7) C (30) dX5_memberAt_5 bc_30 rfl ?_
  refine v_icmp_ge C 34 10 h dX5_memberAt_7 (by decide) rfl (fun _ h => ?_) (fun _ h => ?_)
  · refine v_iconst (pc' := 35) C (-1) dX5_memberAt_34 ic_m1 rfl ?_
    exact v_iret (rf := fun (o9 : Int32) => o9) (Wf := fun (o9 : Int32) (u9 : Unit) => []) (ok := fun (o9 : Int32) (u9 : Unit) => True) C Cr h hQ () trivial rfl rfl dX5_memberAt_35
  · refine v_iload_n (pc' := 11) C 0 dX5_memberAt_10 rfl rfl ?_
    refine v_iload_n (pc' := 12) C 3 dX5_memberAt_11 rfl rfl ?_
    refine v_ishr (pc' := 13) C dX5_memberAt_12 rfl ?_
    refine v_iconst (pc' := 14) C (1) dX5_memberAt_13 ic_1 rfl ?_
    refine v_iand (pc' := 15) C dX5_memberAt_14 rfl ?_
    refine v_if_eq C 28 18 h dX5_memberAt_15 (by decide) rfl (fun _ h => ?_) (fun _ h => ?_)
    · refine v_iinc (pc' := 31) C 3 [1, 2, 3, 0] (1) dX5_memberAt_28 rfl ic_1 (Nat.le_of_ble_eq_true rfl) h (lw := fun v9 => [(0, .int p0), (1, .int p1), (2, .int v2_1), (3, .int v9)]) (fun _ => rfl) rfl (fun v3_3 h => ?_)
      refine v_goto C (pc' := 4) dX5_memberAt_31 (by decide) ?_
      exact ih4 v2_1 v3_3 h
    · refine v_iload_n (pc' := 19) C 2 dX5_memberAt_18 rfl rfl ?_
      refine v_iload_n (pc' := 20) C 1 dX5_memberAt_19 rfl rfl ?_
      refine v_icmp_ne C 25 23 h dX5_memberAt_20 (by decide) rfl (fun _ h => ?_) (fun _ h => ?_)
      · refine v_iinc (pc' := 28) C 2 [1, 2, 0, 3] (1) dX5_memberAt_25 rfl ic_1 (Nat.le_of_ble_eq_true rfl) h (lw := fun v9 => [(0, .int p0), (1, .int p1), (2, .int v9), (3, .int v3_2)]) (fun _ => rfl) rfl (fun v2_4 h => ?_)
        refine v_iinc (pc' := 31) C 3 [1, 2, 3, 0] (1) dX5_memberAt_28 rfl ic_1 (Nat.le_of_ble_eq_true rfl) h (lw := fun v9 => [(0, .int p0), (1, .int p1), (2, .int v2_4), (3, .int v9)]) (fun _ => rfl) rfl (fun v3_5 h => ?_)
        refine v_goto C (pc' := 4) dX5_memberAt_31 (by decide) ?_
        exact ih4 v2_4 v3_5 h
      · refine v_iload_n (pc' := 24) C 3 dX5_memberAt_23 rfl rfl ?_
        exact v_iret (rf := fun (o9 : Int32) => o9) (Wf := fun (o9 : Int32) (u9 : Unit) => []) (ok := fun (o9 : Int32) (u9 : Unit) => True) C Cr h hQ () trivial rfl rfl dX5_memberAt_24
def f_X2_guessedAt (zS : St) (p1 : Int32) : Option (Int32) :=
  if p1 < 0 then some (-1 : Int32)
  else if p1 < (S_guessCount zS) then if p1 < (26 : Int32) then getA (S_lettersInOrder zS) 26 p1 fun e_1 =>
  some e_1
  else some (-1 : Int32)
  else some (-1 : Int32)
abbrev rm_X2_guessedAt : Room := { frames := 0, cells := 0, slots := 0, locals := 0 }
theorem in_X2_guessedAt_2 : ∀ w ∈ wsX20, w ∈ wsX2_guessedAt := fun _ h => List.mem_cons_of_mem _ (List.mem_append_right _ h)
theorem k_X2_guessedAt_1 : Cond.fieldLink RX2 50 "DodgingHangman$State" "guessCount" "I" ∈ wsX2_guessedAt := List.mem_of_getElem? (i := 1) rfl
theorem k_X2_guessedAt_2 : Cond.fieldLink RX2 15 "DodgingHangman$State" "lettersInOrder" "[I" ∈ wsX2_guessedAt := List.mem_of_getElem? (i := 2) rfl
theorem nd_X2_guessedAt : yX2_guessedAt.cls ≠ "java/lang/invoke/MethodHandle" ∧ yX2_guessedAt.cls ≠ "java/lang/invoke/VarHandle" ∧ (parseMethodDescriptor yX2_guessedAt.desc).map (fun d => d.parameters.length) = some 1 := by decide +kernel
set_option maxHeartbeats 4000000 in
set_option maxRecDepth 100000 in
theorem c_X2_guessedAt (l : Launch) (g : Gv) (aS : RA) (zS : St) (p1 : Int32) (o : Int32) (h : f_X2_guessedAt zS p1 = some o) : Ct l g yX2_guessedAt wsX2_guessedAt rm_X2_guessedAt [.ref aS.1, .int p1] (wS g aS zS) (Qi g o (fun _ : Unit => wS g aS zS) (fun _ => True)) := by
  refine enter (ret := (some .int)) (X := wS g aS zS) (pl := []) pn_X2 rfl (Nat.le_of_ble_eq_true rfl) ((List.append_nil _).symm) ?_
  intro p e s m args below meth c A Q C Cr hin hQ
  unfold f_X2_guessedAt at h
  refine v_iload_n (pc' := 1) C 1 dX2_guessedAt_0 rfl rfl ?_
  refine v_if_lt C 27 4 h dX2_guessedAt_1 (by decide) rfl (fun _ h => ?_) (fun _ h => ?_)
  · refine v_iconst (pc' := 28) C (-1) dX2_guessedAt_27 ic_m1 rfl ?_
    exact v_iret (rf := fun (o9 : Int32) => o9) (Wf := fun (o9 : Int32) (u9 : Unit) => wS g aS zS) (ok := fun (o9 : Int32) (u9 : Unit) => True) C Cr h hQ () trivial rfl rfl dX2_guessedAt_28
  · refine v_iload_n (pc' := 5) C 1 dX2_guessedAt_4 rfl rfl ?_
    refine v_aload_n (pc' := 6) C 0 dX2_guessedAt_5 rfl rfl ?_
    refine g_S_guessCount (pc' := 9) C 0 in_X2_guessedAt_2 rfl k_X2_guessedAt_1 rfl dX2_guessedAt_6 rfl ?_
    refine v_icmp_ge C 27 12 h dX2_guessedAt_9 (by decide) rfl (fun _ h => ?_) (fun _ h => ?_)
    · refine v_iconst (pc' := 28) C (-1) dX2_guessedAt_27 ic_m1 rfl ?_
      exact v_iret (rf := fun (o9 : Int32) => o9) (Wf := fun (o9 : Int32) (u9 : Unit) => wS g aS zS) (ok := fun (o9 : Int32) (u9 : Unit) => True) C Cr h hQ () trivial rfl rfl dX2_guessedAt_28
    · refine v_iload_n (pc' := 13) C 1 dX2_guessedAt_12 rfl rfl ?_
      refine v_bipush (pc' := 15) C (26) dX2_guessedAt_13 bc_26 rfl ?_
      refine v_icmp_ge C 27 18 h dX2_guessedAt_15 (by decide) rfl (fun _ h => ?_) (fun _ h => ?_)
      · refine v_iconst (pc' := 28) C (-1) dX2_guessedAt_27 ic_m1 rfl ?_
        exact v_iret (rf := fun (o9 : Int32) => o9) (Wf := fun (o9 : Int32) (u9 : Unit) => wS g aS zS) (ok := fun (o9 : Int32) (u9 : Unit) => True) C Cr h hQ () trivial rfl rfl dX2_guessedAt_28
      · refine v_aload_n (pc' := 19) C 0 dX2_guessedAt_18 rfl rfl ?_
        refine g_S_lettersInOrder (pc' := 22) C 0 in_X2_guessedAt_2 rfl k_X2_guessedAt_2 rfl dX2_guessedAt_19 rfl ?_
        refine v_iload_n (pc' := 23) C 1 dX2_guessedAt_22 rfl rfl ?_
        refine v_iald (pc' := 24) C h 2 rfl dX2_guessedAt_23 rfl (fun e_1 h => ?_)
        refine v_goto C (pc' := 28) dX2_guessedAt_24 (by decide) ?_
        exact v_iret (rf := fun (o9 : Int32) => o9) (Wf := fun (o9 : Int32) (u9 : Unit) => wS g aS zS) (ok := fun (o9 : Int32) (u9 : Unit) => True) C Cr h hQ () trivial rfl rfl dX2_guessedAt_28
def f_X2_candidatesWith_L4 (zS : St) (p1 : Int32) (re4 : Int32 → Int32 → Option (Int32)) (v2_1 : Int32) (v3_2 : Int32) : Option (Int32) :=
  if v3_2 < (S_wordCount zS) then Option.bind (f_X2_isCandidate zS v3_2) fun r_3 =>
  if r_3 = 0 then lett (v3_2 + (1 : Int32)) fun v3_4 =>
  re4 v2_1 v3_4
  else Option.bind (f_X2_wordAt zS v3_2) fun r_5 =>
  Option.bind (f_X4_maskOf r_5 p1) fun r_6 =>
  if r_6 = 0 then lett (v3_2 + (1 : Int32)) fun v3_7 =>
  re4 v2_1 v3_7
  else lett (v2_1 + (1 : Int32)) fun v2_8 =>
  lett (v3_2 + (1 : Int32)) fun v3_9 =>
  re4 v2_8 v3_9
  else some v2_1
def f_X2_candidatesWith (zS : St) (p1 : Int32) : Option (Int32) :=
  loop2 (f_X2_candidatesWith_L4 zS p1) FU (0 : Int32) (0 : Int32)
abbrev rm_X2_candidatesWith : Room := { frames := 3, cells := 0, slots := 0, locals := 67 }
theorem in_X2_candidatesWith_2 : ∀ w ∈ wsX20, w ∈ wsX2_candidatesWith := fun _ h => List.mem_cons_of_mem _ (List.mem_append_right _ h)
theorem k_X2_candidatesWith_1 : Cond.fieldLink RX2 28 "DodgingHangman$State" "wordCount" "I" ∈ wsX2_candidatesWith := List.mem_of_getElem? (i := 1) rfl
theorem nd_X2_candidatesWith : yX2_candidatesWith.cls ≠ "java/lang/invoke/MethodHandle" ∧ yX2_candidatesWith.cls ≠ "java/lang/invoke/VarHandle" ∧ (parseMethodDescriptor yX2_candidatesWith.desc).map (fun d => d.parameters.length) = some 1 := by decide +kernel
set_option maxHeartbeats 4000000 in
set_option maxRecDepth 100000 in
theorem c_X2_candidatesWith (l : Launch) (g : Gv) (aS : RA) (zS : St) (p1 : Int32) (o : Int32) (h : f_X2_candidatesWith zS p1 = some o) : Ct l g yX2_candidatesWith wsX2_candidatesWith rm_X2_candidatesWith [.ref aS.1, .int p1] (wS g aS zS) (Qi g o (fun _ : Unit => wS g aS zS) (fun _ => True)) := by
  refine enter (ret := (some .int)) (X := wS g aS zS) (pl := []) pn_X2 rfl (Nat.le_of_ble_eq_true rfl) ((List.append_nil _).symm) ?_
  intro p e s m args below meth c A Q C Cr hin hQ
  unfold f_X2_candidatesWith at h
  refine v_iconst (pc' := 1) C (0) dX2_candidatesWith_0 ic_0 rfl ?_
  refine v_istore_n (pc' := 2) C [1, 2, 0] (lv' := [(0, .ref aS.1), (1, .int p1), (2, .int (0 : Int32))]) dX2_candidatesWith_1 (Nat.le_of_ble_eq_true rfl) rfl rfl ?_
  refine v_iconst (pc' := 3) C (0) dX2_candidatesWith_2 ic_0 rfl ?_
  refine v_istore_n (pc' := 4) C [1, 2, 3, 0] (lv' := [(0, .ref aS.1), (1, .int p1), (2, .int (0 : Int32)), (3, .int (0 : Int32))]) dX2_candidatesWith_3 (Nat.le_of_ble_eq_true rfl) rfl rfl ?_
  refine v_loop2 (fun (v2_1 : Int32) (v3_2 : Int32) => V p l e rm_X2_candidatesWith s m args below meth c g 4 A 0 0 Q (wS g aS zS) [] [(0, .ref aS.1), (1, .int p1), (2, .int v2_1), (3, .int v3_2)] 4 []) (fun re4 ih4 v2_1 v3_2 h => ?_) (0 : Int32) (0 : Int32) h
  unfold f_X2_candidatesWith_L4 at h
  refine v_iload_n (pc' := 5) C 3 dX2_candidatesWith_4 rfl rfl ?_
  refine v_aload_n (pc' := 6) C 0 dX2_candidatesWith_5 rfl rfl ?_
  refine g_S_wordCount (pc' := 9) C 0 in_X2_candidatesWith_2 rfl k_X2_candidatesWith_1 rfl dX2_candidatesWith_6 rfl ?_
  refine v_icmp_ge C 41 12 h dX2_candidatesWith_9 (by decide) rfl (fun _ h => ?_) (fun _ h => ?_)
  · refine v_iload_n (pc' := 42) C 2 dX2_candidatesWith_41 rfl rfl ?_
    exact v_iret (rf := fun (o9 : Int32) => o9) (Wf := fun (o9 : Int32) (u9 : Unit) => wS g aS zS) (ok := fun (o9 : Int32) (u9 : Unit) => True) C Cr h hQ () trivial rfl rfl dX2_candidatesWith_42
  · refine v_aload_n (pc' := 13) C 0 dX2_candidatesWith_12 rfl rfl ?_
    refine v_iload_n (pc' := 14) C 3 dX2_candidatesWith_13 rfl rfl ?_
    refine v_calli (pc' := 17) C h (rf := fun r9 => r9) ([]) (fun r9 (u9 : Unit) => wS g aS zS) (fun r hr => run_V C (c_X2_isCandidate l g aS _ _ r hr) gX2_candidatesWith_X2_isCandidate rfl nd_X2_isCandidate rfl rfl rfl rfl ⟨Nat.le_of_ble_eq_true rfl, Nat.le_of_ble_eq_true rfl⟩ ⟨Nat.le_of_ble_eq_true rfl, Nat.le_of_ble_eq_true rfl⟩ (Nat.le_of_ble_eq_true rfl) dX2_candidatesWith_14 rfl) [0, 1, 2, 3] [] [0, 1, 2, 3] rfl rfl rfl rfl (by decide) rfl (fun _ _ => rfl) (k' := 0) (n' := 0) rfl rfl rfl (fun r_3 _ _ h => ?_)
    refine v_if_eq C 35 20 h dX2_candidatesWith_17 (by decide) rfl (fun _ h => ?_) (fun _ h => ?_)
    · refine v_iinc (pc' := 38) C 3 [1, 2, 3, 0] (1) dX2_candidatesWith_35 rfl ic_1 (Nat.le_of_ble_eq_true rfl) h (lw := fun v9 => [(0, .ref aS.1), (1, .int p1), (2, .int v2_1), (3, .int v9)]) (fun _ => rfl) rfl (fun v3_4 h => ?_)
      refine v_goto C (pc' := 4) dX2_candidatesWith_38 (by decide) ?_
      exact ih4 v2_1 v3_4 h
    · refine v_aload_n (pc' := 21) C 0 dX2_candidatesWith_20 rfl rfl ?_
      refine v_iload_n (pc' := 22) C 3 dX2_candidatesWith_21 rfl rfl ?_
      refine v_calll (pc' := 25) C h (rf := fun r9 => r9) ([]) (fun r9 (u9 : Unit) => wS g aS zS) (fun r hr => run_V C (c_X2_wordAt l g aS _ _ r hr) gX2_candidatesWith_X2_wordAt rfl nd_X2_wordAt rfl rfl rfl rfl ⟨Nat.le_of_ble_eq_true rfl, Nat.le_of_ble_eq_true rfl⟩ ⟨Nat.le_of_ble_eq_true rfl, Nat.le_of_ble_eq_true rfl⟩ (Nat.le_of_ble_eq_true rfl) dX2_candidatesWith_22 rfl) [0, 1, 2, 3] [] [0, 1, 2, 3] rfl rfl rfl rfl (by decide) rfl (fun _ _ => rfl) (k' := 0) (n' := 0) rfl rfl rfl (fun r_5 _ _ h => ?_)
      refine v_iload_n (pc' := 26) C 1 dX2_candidatesWith_25 rfl rfl ?_
      refine v_purei (pc' := 29) C h (rf := fun r9 => r9) (fun r hr => run_S C (c_X4_maskOf l g _ _ r hr) gX2_candidatesWith_X4_maskOf rfl nd_X4_maskOf ⟨Nat.le_of_ble_eq_true rfl, Nat.le_of_ble_eq_true rfl⟩ ⟨Nat.le_of_ble_eq_true rfl, Nat.le_of_ble_eq_true rfl⟩ (Nat.le_of_ble_eq_true rfl) dX2_candidatesWith_26 rfl) rfl (fun r_6 h => ?_)
      refine v_if_eq C 35 32 h dX2_candidatesWith_29 (by decide) rfl (fun _ h => ?_) (fun _ h => ?_)
      · refine v_iinc (pc' := 38) C 3 [1, 2, 3, 0] (1) dX2_candidatesWith_35 rfl ic_1 (Nat.le_of_ble_eq_true rfl) h (lw := fun v9 => [(0, .ref aS.1), (1, .int p1), (2, .int v2_1), (3, .int v9)]) (fun _ => rfl) rfl (fun v3_7 h => ?_)
        refine v_goto C (pc' := 4) dX2_candidatesWith_38 (by decide) ?_
        exact ih4 v2_1 v3_7 h
      · refine v_iinc (pc' := 35) C 2 [1, 2, 0, 3] (1) dX2_candidatesWith_32 rfl ic_1 (Nat.le_of_ble_eq_true rfl) h (lw := fun v9 => [(0, .ref aS.1), (1, .int p1), (2, .int v9), (3, .int v3_2)]) (fun _ => rfl) rfl (fun v2_8 h => ?_)
        refine v_iinc (pc' := 38) C 3 [1, 2, 3, 0] (1) dX2_candidatesWith_35 rfl ic_1 (Nat.le_of_ble_eq_true rfl) h (lw := fun v9 => [(0, .ref aS.1), (1, .int p1), (2, .int v2_8), (3, .int v9)]) (fun _ => rfl) rfl (fun v3_9 h => ?_)
        refine v_goto C (pc' := 4) dX2_candidatesWith_38 (by decide) ?_
        exact ih4 v2_8 v3_9 h
def f_X2_lettersOfAll_L5 (zS : St) (re5 : Int32 → Int32 → Option (Int32)) (v1_1 : Int32) (v2_2 : Int32) : Option (Int32) :=
  if v2_2 < (S_wordCount zS) then Option.bind (f_X2_isCandidate zS v2_2) fun r_3 =>
  if r_3 = 0 then lett (v2_2 + (1 : Int32)) fun v2_4 =>
  re5 v1_1 v2_4
  else Option.bind (f_X2_wordAt zS v2_2) fun r_5 =>
  Option.bind (f_X4_lettersOf r_5) fun r_6 =>
  lett (v1_1 &&& r_6) fun v1_7 =>
  lett (v2_2 + (1 : Int32)) fun v2_8 =>
  re5 v1_7 v2_8
  else some v1_1
def f_X2_lettersOfAll (zS : St)  : Option (Int32) :=
  loop2 (f_X2_lettersOfAll_L5 zS) FU (67108863 : Int32) (0 : Int32)
abbrev rm_X2_lettersOfAll : Room := { frames := 3, cells := 0, slots := 0, locals := 66 }
theorem in_X2_lettersOfAll_2 : ∀ w ∈ wsX20, w ∈ wsX2_lettersOfAll := fun _ h => List.mem_cons_of_mem _ (List.mem_append_right _ h)
theorem k_X2_lettersOfAll_1 : Cond.constant RX2 85 (67108863) ∈ wsX2_lettersOfAll := List.mem_of_getElem? (i := 1) rfl
theorem k_X2_lettersOfAll_2 : Cond.fieldLink RX2 28 "DodgingHangman$State" "wordCount" "I" ∈ wsX2_lettersOfAll := List.mem_of_getElem? (i := 2) rfl
theorem nd_X2_lettersOfAll : yX2_lettersOfAll.cls ≠ "java/lang/invoke/MethodHandle" ∧ yX2_lettersOfAll.cls ≠ "java/lang/invoke/VarHandle" ∧ (parseMethodDescriptor yX2_lettersOfAll.desc).map (fun d => d.parameters.length) = some 0 := by decide +kernel
set_option maxHeartbeats 4000000 in
set_option maxRecDepth 100000 in
theorem c_X2_lettersOfAll (l : Launch) (g : Gv) (aS : RA) (zS : St)  (o : Int32) (h : f_X2_lettersOfAll zS  = some o) : Ct l g yX2_lettersOfAll wsX2_lettersOfAll rm_X2_lettersOfAll [.ref aS.1] (wS g aS zS) (Qi g o (fun _ : Unit => wS g aS zS) (fun _ => True)) := by
  refine enter (ret := (some .int)) (X := wS g aS zS) (pl := []) pn_X2 rfl (Nat.le_of_ble_eq_true rfl) ((List.append_nil _).symm) ?_
  intro p e s m args below meth c A Q C Cr hin hQ
  unfold f_X2_lettersOfAll at h
  refine v_ldc (pc' := 2) C (67108863) dX2_lettersOfAll_0 k_X2_lettersOfAll_1 rfl ?_
  refine v_istore_n (pc' := 3) C [1, 0] (lv' := [(0, .ref aS.1), (1, .int (67108863 : Int32))]) dX2_lettersOfAll_2 (Nat.le_of_ble_eq_true rfl) rfl rfl ?_
  refine v_iconst (pc' := 4) C (0) dX2_lettersOfAll_3 ic_0 rfl ?_
  refine v_istore_n (pc' := 5) C [1, 2, 0] (lv' := [(0, .ref aS.1), (1, .int (67108863 : Int32)), (2, .int (0 : Int32))]) dX2_lettersOfAll_4 (Nat.le_of_ble_eq_true rfl) rfl rfl ?_
  refine v_loop2 (fun (v1_1 : Int32) (v2_2 : Int32) => V p l e rm_X2_lettersOfAll s m args below meth c g 3 A 0 0 Q (wS g aS zS) [] [(0, .ref aS.1), (1, .int v1_1), (2, .int v2_2)] 5 []) (fun re5 ih5 v1_1 v2_2 h => ?_) (67108863 : Int32) (0 : Int32) h
  unfold f_X2_lettersOfAll_L5 at h
  refine v_iload_n (pc' := 6) C 2 dX2_lettersOfAll_5 rfl rfl ?_
  refine v_aload_n (pc' := 7) C 0 dX2_lettersOfAll_6 rfl rfl ?_
  refine g_S_wordCount (pc' := 10) C 0 in_X2_lettersOfAll_2 rfl k_X2_lettersOfAll_2 rfl dX2_lettersOfAll_7 rfl ?_
  refine v_icmp_ge C 38 13 h dX2_lettersOfAll_10 (by decide) rfl (fun _ h => ?_) (fun _ h => ?_)
  · refine v_iload_n (pc' := 39) C 1 dX2_lettersOfAll_38 rfl rfl ?_
    exact v_iret (rf := fun (o9 : Int32) => o9) (Wf := fun (o9 : Int32) (u9 : Unit) => wS g aS zS) (ok := fun (o9 : Int32) (u9 : Unit) => True) C Cr h hQ () trivial rfl rfl dX2_lettersOfAll_39
  · refine v_aload_n (pc' := 14) C 0 dX2_lettersOfAll_13 rfl rfl ?_
    refine v_iload_n (pc' := 15) C 2 dX2_lettersOfAll_14 rfl rfl ?_
    refine v_calli (pc' := 18) C h (rf := fun r9 => r9) ([]) (fun r9 (u9 : Unit) => wS g aS zS) (fun r hr => run_V C (c_X2_isCandidate l g aS _ _ r hr) gX2_lettersOfAll_X2_isCandidate rfl nd_X2_isCandidate rfl rfl rfl rfl ⟨Nat.le_of_ble_eq_true rfl, Nat.le_of_ble_eq_true rfl⟩ ⟨Nat.le_of_ble_eq_true rfl, Nat.le_of_ble_eq_true rfl⟩ (Nat.le_of_ble_eq_true rfl) dX2_lettersOfAll_15 rfl) [0, 1, 2, 3] [] [0, 1, 2, 3] rfl rfl rfl rfl (by decide) rfl (fun _ _ => rfl) (k' := 0) (n' := 0) rfl rfl rfl (fun r_3 _ _ h => ?_)
    refine v_if_eq C 32 21 h dX2_lettersOfAll_18 (by decide) rfl (fun _ h => ?_) (fun _ h => ?_)
    · refine v_iinc (pc' := 35) C 2 [1, 2, 0] (1) dX2_lettersOfAll_32 rfl ic_1 (Nat.le_of_ble_eq_true rfl) h (lw := fun v9 => [(0, .ref aS.1), (1, .int v1_1), (2, .int v9)]) (fun _ => rfl) rfl (fun v2_4 h => ?_)
      refine v_goto C (pc' := 5) dX2_lettersOfAll_35 (by decide) ?_
      exact ih5 v1_1 v2_4 h
    · refine v_iload_n (pc' := 22) C 1 dX2_lettersOfAll_21 rfl rfl ?_
      refine v_aload_n (pc' := 23) C 0 dX2_lettersOfAll_22 rfl rfl ?_
      refine v_iload_n (pc' := 24) C 2 dX2_lettersOfAll_23 rfl rfl ?_
      refine v_calll (pc' := 27) C h (rf := fun r9 => r9) ([]) (fun r9 (u9 : Unit) => wS g aS zS) (fun r hr => run_V C (c_X2_wordAt l g aS _ _ r hr) gX2_lettersOfAll_X2_wordAt rfl nd_X2_wordAt rfl rfl rfl rfl ⟨Nat.le_of_ble_eq_true rfl, Nat.le_of_ble_eq_true rfl⟩ ⟨Nat.le_of_ble_eq_true rfl, Nat.le_of_ble_eq_true rfl⟩ (Nat.le_of_ble_eq_true rfl) dX2_lettersOfAll_24 rfl) [0, 1, 2, 3] [] [0, 1, 2, 3] rfl rfl rfl rfl (by decide) rfl (fun _ _ => rfl) (k' := 0) (n' := 0) rfl rfl rfl (fun r_5 _ _ h => ?_)
      refine v_purei (pc' := 30) C h (rf := fun r9 => r9) (fun r hr => run_S C (c_X4_lettersOf l g _ r hr) gX2_lettersOfAll_X4_lettersOf rfl nd_X4_lettersOf ⟨Nat.le_of_ble_eq_true rfl, Nat.le_of_ble_eq_true rfl⟩ ⟨Nat.le_of_ble_eq_true rfl, Nat.le_of_ble_eq_true rfl⟩ (Nat.le_of_ble_eq_true rfl) dX2_lettersOfAll_27 rfl) rfl (fun r_6 h => ?_)
      refine v_iand (pc' := 31) C dX2_lettersOfAll_30 rfl ?_
      refine v_leti h (fun v1_7 h => ?_)
      refine v_istore_n (pc' := 32) C [1, 0, 2] (lv' := [(0, .ref aS.1), (1, .int v1_7), (2, .int v2_2)]) dX2_lettersOfAll_31 (Nat.le_of_ble_eq_true rfl) rfl rfl ?_
      refine v_iinc (pc' := 35) C 2 [1, 2, 0] (1) dX2_lettersOfAll_32 rfl ic_1 (Nat.le_of_ble_eq_true rfl) h (lw := fun v9 => [(0, .ref aS.1), (1, .int v1_7), (2, .int v9)]) (fun _ => rfl) rfl (fun v2_8 h => ?_)
      refine v_goto C (pc' := 5) dX2_lettersOfAll_35 (by decide) ?_
      exact ih5 v1_7 v2_8 h
def f_X2_totalOf (zS : St) (p1 : Int32) : Option (Int32) :=
  if p1 < 0 then some (0 : Int32)
  else if p1 < (7 : Int32) then getA (S_totals zS) 7 p1 fun e_1 =>
  some e_1
  else some (0 : Int32)
abbrev rm_X2_totalOf : Room := { frames := 0, cells := 0, slots := 0, locals := 0 }
theorem in_X2_totalOf_2 : ∀ w ∈ wsX20, w ∈ wsX2_totalOf := fun _ h => List.mem_cons_of_mem _ (List.mem_append_right _ h)
theorem k_X2_totalOf_1 : Cond.fieldLink RX2 19 "DodgingHangman$State" "totals" "[I" ∈ wsX2_totalOf := List.mem_of_getElem? (i := 1) rfl
theorem nd_X2_totalOf : yX2_totalOf.cls ≠ "java/lang/invoke/MethodHandle" ∧ yX2_totalOf.cls ≠ "java/lang/invoke/VarHandle" ∧ (parseMethodDescriptor yX2_totalOf.desc).map (fun d => d.parameters.length) = some 1 := by decide +kernel
set_option maxHeartbeats 4000000 in
set_option maxRecDepth 100000 in
theorem c_X2_totalOf (l : Launch) (g : Gv) (aS : RA) (zS : St) (p1 : Int32) (o : Int32) (h : f_X2_totalOf zS p1 = some o) : Ct l g yX2_totalOf wsX2_totalOf rm_X2_totalOf [.ref aS.1, .int p1] (wS g aS zS) (Qi g o (fun _ : Unit => wS g aS zS) (fun _ => True)) := by
  refine enter (ret := (some .int)) (X := wS g aS zS) (pl := []) pn_X2 rfl (Nat.le_of_ble_eq_true rfl) ((List.append_nil _).symm) ?_
  intro p e s m args below meth c A Q C Cr hin hQ
  unfold f_X2_totalOf at h
  refine v_iload_n (pc' := 1) C 1 dX2_totalOf_0 rfl rfl ?_
  refine v_if_lt C 19 4 h dX2_totalOf_1 (by decide) rfl (fun _ h => ?_) (fun _ h => ?_)
  · refine v_iconst (pc' := 20) C (0) dX2_totalOf_19 ic_0 rfl ?_
    exact v_iret (rf := fun (o9 : Int32) => o9) (Wf := fun (o9 : Int32) (u9 : Unit) => wS g aS zS) (ok := fun (o9 : Int32) (u9 : Unit) => True) C Cr h hQ () trivial rfl rfl dX2_totalOf_20
  · refine v_iload_n (pc' := 5) C 1 dX2_totalOf_4 rfl rfl ?_
    refine v_bipush (pc' := 7) C (7) dX2_totalOf_5 bc_7 rfl ?_
    refine v_icmp_ge C 19 10 h dX2_totalOf_7 (by decide) rfl (fun _ h => ?_) (fun _ h => ?_)
    · refine v_iconst (pc' := 20) C (0) dX2_totalOf_19 ic_0 rfl ?_
      exact v_iret (rf := fun (o9 : Int32) => o9) (Wf := fun (o9 : Int32) (u9 : Unit) => wS g aS zS) (ok := fun (o9 : Int32) (u9 : Unit) => True) C Cr h hQ () trivial rfl rfl dX2_totalOf_20
    · refine v_aload_n (pc' := 11) C 0 dX2_totalOf_10 rfl rfl ?_
      refine g_S_totals (pc' := 14) C 0 in_X2_totalOf_2 rfl k_X2_totalOf_1 rfl dX2_totalOf_11 rfl ?_
      refine v_iload_n (pc' := 15) C 1 dX2_totalOf_14 rfl rfl ?_
      refine v_iald (pc' := 16) C h 3 rfl dX2_totalOf_15 rfl (fun e_1 h => ?_)
      refine v_goto C (pc' := 20) dX2_totalOf_16 (by decide) ?_
      exact v_iret (rf := fun (o9 : Int32) => o9) (Wf := fun (o9 : Int32) (u9 : Unit) => wS g aS zS) (ok := fun (o9 : Int32) (u9 : Unit) => True) C Cr h hQ () trivial rfl rfl dX2_totalOf_20
def f_X5_mixed  (p0 : Int64) (p2 : Int64) : Option (Int64) :=
  some (((31 : Int64) * p0) + p2)
abbrev rm_X5_mixed : Room := { frames := 0, cells := 0, slots := 0, locals := 0 }
theorem k_X5_mixed_1 : Cond.constantLong RX5 258 (31) ∈ wsX5_mixed := List.mem_of_getElem? (i := 1) rfl
theorem nd_X5_mixed : yX5_mixed.cls ≠ "java/lang/invoke/MethodHandle" ∧ yX5_mixed.cls ≠ "java/lang/invoke/VarHandle" ∧ (parseMethodDescriptor yX5_mixed.desc).map (fun d => d.parameters.length) = some 2 := by decide +kernel
set_option maxHeartbeats 4000000 in
set_option maxRecDepth 100000 in
theorem c_X5_mixed (l : Launch) (g : Gv)   (p0 : Int64) (p2 : Int64) (o : Int64) (h : f_X5_mixed  p0 p2 = some o) : Ct l g yX5_mixed wsX5_mixed rm_X5_mixed [.long p0, .long p2] ([]) (Ql g o (fun _ : Unit => []) (fun _ => True)) := by
  refine enter (ret := (some .long)) (X := []) (pl := []) pn_X5 rfl (Nat.le_of_ble_eq_true rfl) ((List.append_nil _).symm) ?_
  intro p e s m args below meth c A Q C Cr hin hQ
  unfold f_X5_mixed at h
  refine v_ldc2 (pc' := 3) C (31) dX5_mixed_0 k_X5_mixed_1 rfl ?_
  refine v_lload_n (pc' := 4) C 0 dX5_mixed_3 rfl rfl ?_
  refine v_lmul (pc' := 5) C dX5_mixed_4 rfl ?_
  refine v_lload_n (pc' := 6) C 1 dX5_mixed_5 rfl rfl ?_
  refine v_ladd (pc' := 7) C dX5_mixed_6 rfl ?_
  exact v_lret (rf := fun (o9 : Int64) => o9) (Wf := fun (o9 : Int64) (u9 : Unit) => []) (ok := fun (o9 : Int64) (u9 : Unit) => True) C Cr h hQ () trivial rfl rfl dX5_mixed_7
