def f_L_isWord_J160 (p1 : Int32) (v2_4 : Int32) : Option (Int32) :=
  if p1 = 0 then some (1 : Int32)
  else if v2_4 = (1 : Int32) then some (1 : Int32)
  else some (0 : Int32)
def f_L_isWord_J116 (p1 : Int32) (re7 : Int32 → Int32 → Int32 → Option (Int32)) (v2_13 : Int32) (v3_14 : Int32) (v4_15 : Int32) (v5_16 : Int32) (s0_17 : Int32) : Option (Int32) :=
  if v2_13 = 0 then if p1 = 0 then lett (v4_15 + (1 : Int32)) fun v4_22 =>
  re7 v2_13 v3_14 v4_22
  else if s0_17 < v5_16 then lett (v4_15 + (1 : Int32)) fun v4_21 =>
  re7 (1 : Int32) v3_14 v4_21
  else if v5_16 < s0_17 then lett (v4_15 + (1 : Int32)) fun v4_20 =>
  re7 (-1 : Int32) v3_14 v4_20
  else lett (v4_15 + (1 : Int32)) fun v4_19 =>
  re7 (0 : Int32) v3_14 v4_19
  else lett (v4_15 + (1 : Int32)) fun v4_18 =>
  re7 v2_13 v3_14 v4_18
def f_L_isWord_J75 (p1 : Int32) (re7 : Int32 → Int32 → Int32 → Option (Int32)) (zN : St) (v2_6 : Int32) (v3_7 : Int32) (v4_8 : Int32) (v5_9 : Int32) (s0_10 : Int32) : Option (Int32) :=
  if s0_10 = 0 then some (0 : Int32)
  else if v5_9 = (-1 : Int32) then lett (v3_7 + (0 : Int32)) fun v3_23 =>
  if p1 = 0 then f_L_isWord_J116 p1 re7 v2_6 v3_23 v4_8 v5_9 (-2 : Int32)
  else Option.bind (f_X5_letterOf zN (p1 - (1 : Int32)) v4_8) fun r_24 =>
  f_L_isWord_J116 p1 re7 v2_6 v3_23 v4_8 v5_9 r_24
  else lett (v3_7 + (1 : Int32)) fun v3_11 =>
  if p1 = 0 then f_L_isWord_J116 p1 re7 v2_6 v3_11 v4_8 v5_9 (-2 : Int32)
  else Option.bind (f_X5_letterOf zN (p1 - (1 : Int32)) v4_8) fun r_12 =>
  f_L_isWord_J116 p1 re7 v2_6 v3_11 v4_8 v5_9 r_12
def f_L_isWord_L7 (zN : St) (p1 : Int32) (re7 : Int32 → Int32 → Int32 → Option (Int32)) (v2_1 : Int32) (v3_2 : Int32) (v4_3 : Int32) : Option (Int32) :=
  if v4_3 < (9 : Int32) then Option.bind (f_X5_letterOf zN p1 v4_3) fun r_5 =>
  if r_5 = (-1 : Int32) then if (1 : Int32) < v4_3 then f_L_isWord_J75 p1 re7 zN v2_1 v3_2 v4_3 r_5 (1 : Int32)
  else f_L_isWord_J75 p1 re7 zN v2_1 v3_2 v4_3 r_5 (0 : Int32)
  else if (96 : Int32) < r_5 then if r_5 < (123 : Int32) then if v3_2 = v4_3 then if v4_3 < (8 : Int32) then f_L_isWord_J75 p1 re7 zN v2_1 v3_2 v4_3 r_5 (1 : Int32)
  else f_L_isWord_J75 p1 re7 zN v2_1 v3_2 v4_3 r_5 (0 : Int32)
  else f_L_isWord_J75 p1 re7 zN v2_1 v3_2 v4_3 r_5 (0 : Int32)
  else f_L_isWord_J75 p1 re7 zN v2_1 v3_2 v4_3 r_5 (0 : Int32)
  else f_L_isWord_J75 p1 re7 zN v2_1 v3_2 v4_3 r_5 (0 : Int32)
  else f_L_isWord_J160 p1 v2_1
def f_L_isWord (zN : St) (p1 : Int32) : Option (Int32) :=
  loop3 (f_L_isWord_L7 zN p1) FU (0 : Int32) (0 : Int32) (0 : Int32)
abbrev rm_L_isWord : Room := { frames := 3, cells := 0, slots := 0, locals := 66 }
theorem nd_L_isWord : yL_isWord.cls ≠ "java/lang/invoke/MethodHandle" ∧ yL_isWord.cls ≠ "java/lang/invoke/VarHandle" ∧ (parseMethodDescriptor yL_isWord.desc).map (fun d => d.parameters.length) = some 2 := by decide +kernel
set_option maxHeartbeats 4000000 in
set_option maxRecDepth 100000 in
theorem c_L_isWord (l : Launch) (g : Gv) (aQ : Nat) (aT : A3) (aN : RA) (aV : A2) (aD aF : RA) (zN : St) (p1 : Int32) (o : Int32) (h : f_L_isWord zN p1 = some o) : Ct l g yL_isWord wsL_isWord rm_L_isWord [.ref aQ, .int p1] (wQ aQ aT aN aV aD aF ++ wS g aN zN) (Qi g o (fun _ : Unit => wQ aQ aT aN aV aD aF ++ wS g aN zN) (fun _ => True)) := by
  refine enter (ret := (some .boolean)) (X := wQ aQ aT aN aV aD aF ++ wS g aN zN) (pl := []) pn_L rfl (Nat.le_of_ble_eq_true rfl) ((List.append_nil _).symm) ?_
  intro p e s m args below meth c A Q C Cr hin hQ
  unfold f_L_isWord at h
  have J160 : ∀ (v2_4 : Int32), f_L_isWord_J160 p1 v2_4 = some o → V p l e rm_L_isWord s m args below meth c g 8 A 0 0 Q (wQ aQ aT aN aV aD aF ++ wS g aN zN) [] [(1, .int p1), (2, .int v2_4)] 160 [] := by
    intro v2_4 h
    unfold f_L_isWord_J160 at h
    refine v_iload_n (pc' := 161) C 0 dL_isWord_160 rfl rfl ?_
    refine v_if_eq C 169 164 h dL_isWord_161 (by decide) rfl (fun _ h => ?_) (fun _ h => ?_)
    · refine v_iconst (pc' := 170) C (1) dL_isWord_169 ic_1 rfl ?_
      refine v_goto C (pc' := 174) dL_isWord_170 (by decide) ?_
      exact v_zret (rf := fun (o9 : Int32) => o9) (Wf := fun (o9 : Int32) (u9 : Unit) => wQ aQ aT aN aV aD aF ++ wS g aN zN) (ok := fun (o9 : Int32) (u9 : Unit) => True) C Cr h hQ () trivial rfl rfl (Or.inr rfl) dL_isWord_174
    · refine v_iload_n (pc' := 165) C 1 dL_isWord_164 rfl rfl ?_
      refine v_iconst (pc' := 166) C (1) dL_isWord_165 ic_1 rfl ?_
      refine v_icmp_ne C 173 169 h dL_isWord_166 (by decide) rfl (fun _ h => ?_) (fun _ h => ?_)
      · refine v_iconst (pc' := 174) C (0) dL_isWord_173 ic_0 rfl ?_
        exact v_zret (rf := fun (o9 : Int32) => o9) (Wf := fun (o9 : Int32) (u9 : Unit) => wQ aQ aT aN aV aD aF ++ wS g aN zN) (ok := fun (o9 : Int32) (u9 : Unit) => True) C Cr h hQ () trivial rfl rfl (Or.inl rfl) dL_isWord_174
      · refine v_iconst (pc' := 170) C (1) dL_isWord_169 ic_1 rfl ?_
        refine v_goto C (pc' := 174) dL_isWord_170 (by decide) ?_
        exact v_zret (rf := fun (o9 : Int32) => o9) (Wf := fun (o9 : Int32) (u9 : Unit) => wQ aQ aT aN aV aD aF ++ wS g aN zN) (ok := fun (o9 : Int32) (u9 : Unit) => True) C Cr h hQ () trivial rfl rfl (Or.inr rfl) dL_isWord_174
  refine v_iconst (pc' := 1) C (0) dL_isWord_0 ic_0 rfl ?_
  refine v_istore_n (pc' := 2) C [1, 2, 0] (lv' := [(0, .ref aQ), (1, .int p1), (2, .int (0 : Int32))]) dL_isWord_1 (Nat.le_of_ble_eq_true rfl) rfl rfl ?_
  refine v_iconst (pc' := 3) C (0) dL_isWord_2 ic_0 rfl ?_
  refine v_istore_n (pc' := 4) C [1, 2, 3, 0] (lv' := [(0, .ref aQ), (1, .int p1), (2, .int (0 : Int32)), (3, .int (0 : Int32))]) dL_isWord_3 (Nat.le_of_ble_eq_true rfl) rfl rfl ?_
  refine v_iconst (pc' := 5) C (0) dL_isWord_4 ic_0 rfl ?_
  refine v_istore (pc' := 7) C [1, 2, 3, 4, 0] (lv' := [(0, .ref aQ), (1, .int p1), (2, .int (0 : Int32)), (3, .int (0 : Int32)), (4, .int (0 : Int32))]) dL_isWord_5 (Nat.le_of_ble_eq_true rfl) rfl rfl ?_
  refine v_loop3 (fun (v2_1 : Int32) (v3_2 : Int32) (v4_3 : Int32) => V p l e rm_L_isWord s m args below meth c g 8 A 0 0 Q (wQ aQ aT aN aV aD aF ++ wS g aN zN) [] [(0, .ref aQ), (1, .int p1), (2, .int v2_1), (3, .int v3_2), (4, .int v4_3)] 7 []) (fun re7 ih7 v2_1 v3_2 v4_3 h => ?_) (0 : Int32) (0 : Int32) (0 : Int32) h
  unfold f_L_isWord_L7 at h
  have J116 : ∀ (v2_13 : Int32) (v3_14 : Int32) (v4_15 : Int32) (v5_16 : Int32) (s0_17 : Int32), f_L_isWord_J116 p1 re7 v2_13 v3_14 v4_15 v5_16 s0_17 = some o → V p l e rm_L_isWord s m args below meth c g 8 A 0 0 Q (wQ aQ aT aN aV aD aF ++ wS g aN zN) [] [(0, .ref aQ), (1, .int p1), (2, .int v2_13), (3, .int v3_14), (4, .int v4_15), (5, .int v5_16)] 116 [.int s0_17] := by
    intro v2_13 v3_14 v4_15 v5_16 s0_17 h
    unfold f_L_isWord_J116 at h
    refine v_istore (pc' := 118) C [1, 2, 3, 4, 5, 6, 0] (lv' := [(0, .ref aQ), (1, .int p1), (2, .int v2_13), (3, .int v3_14), (4, .int v4_15), (5, .int v5_16), (7, .int s0_17)]) dL_isWord_116 (Nat.le_of_ble_eq_true rfl) rfl rfl ?_
    refine v_iload_n (pc' := 119) C 2 dL_isWord_118 rfl rfl ?_
    refine v_if_ne C 126 122 h dL_isWord_119 (by decide) rfl (fun _ h => ?_) (fun _ h => ?_)
    · refine v_iload_n (pc' := 127) C 2 dL_isWord_126 rfl rfl ?_
      refine v_goto C (pc' := 153) dL_isWord_127 (by decide) ?_
      refine v_istore_n (pc' := 154) C [1, 2, 0, 3, 4, 5, 6] (lv' := [(0, .ref aQ), (1, .int p1), (2, .int v2_13), (3, .int v3_14), (4, .int v4_15), (5, .int v5_16), (7, .int s0_17)]) dL_isWord_153 (Nat.le_of_ble_eq_true rfl) rfl rfl ?_
      refine v_iinc (pc' := 157) C 4 [1, 2, 3, 4, 0, 5, 6] (1) dL_isWord_154 rfl ic_1 (Nat.le_of_ble_eq_true rfl) h (lw := fun v9 => [(0, .ref aQ), (1, .int p1), (2, .int v2_13), (3, .int v3_14), (4, .int v9), (5, .int v5_16), (7, .int s0_17)]) (fun _ => rfl) rfl (fun v4_18 h => ?_)
      refine v_goto C (pc' := 7) dL_isWord_157 (by decide) ?_
      refine v_lv [0, 1, 2, 3, 4] (lv' := [(0, .ref aQ), (1, .int p1), (2, .int v2_13), (3, .int v3_14), (4, .int v4_18)]) rfl ?_
      exact ih7 v2_13 v3_14 v4_18 h
    · refine v_iload_n (pc' := 123) C 1 dL_isWord_122 rfl rfl ?_
      refine v_if_ne C 130 126 h dL_isWord_123 (by decide) rfl (fun _ h => ?_) (fun _ h => ?_)
      · refine v_iload (pc' := 132) C 6 dL_isWord_130 rfl rfl ?_
        refine v_iload (pc' := 134) C 5 dL_isWord_132 rfl rfl ?_
        refine v_icmp_ge C 141 137 h dL_isWord_134 (by decide) rfl (fun _ h => ?_) (fun _ h => ?_)
        · refine v_iload (pc' := 143) C 6 dL_isWord_141 rfl rfl ?_
          refine v_iload (pc' := 145) C 5 dL_isWord_143 rfl rfl ?_
          refine v_icmp_le C 152 148 h dL_isWord_145 (by decide) rfl (fun _ h => ?_) (fun _ h => ?_)
          · refine v_iconst (pc' := 153) C (0) dL_isWord_152 ic_0 rfl ?_
            refine v_istore_n (pc' := 154) C [1, 2, 0, 3, 4, 5, 6] (lv' := [(0, .ref aQ), (1, .int p1), (2, .int (0 : Int32)), (3, .int v3_14), (4, .int v4_15), (5, .int v5_16), (7, .int s0_17)]) dL_isWord_153 (Nat.le_of_ble_eq_true rfl) rfl rfl ?_
            refine v_iinc (pc' := 157) C 4 [1, 2, 3, 4, 0, 5, 6] (1) dL_isWord_154 rfl ic_1 (Nat.le_of_ble_eq_true rfl) h (lw := fun v9 => [(0, .ref aQ), (1, .int p1), (2, .int (0 : Int32)), (3, .int v3_14), (4, .int v9), (5, .int v5_16), (7, .int s0_17)]) (fun _ => rfl) rfl (fun v4_19 h => ?_)
            refine v_goto C (pc' := 7) dL_isWord_157 (by decide) ?_
            refine v_lv [0, 1, 2, 3, 4] (lv' := [(0, .ref aQ), (1, .int p1), (2, .int (0 : Int32)), (3, .int v3_14), (4, .int v4_19)]) rfl ?_
            exact ih7 (0 : Int32) v3_14 v4_19 h
          · refine v_iconst (pc' := 149) C (-1) dL_isWord_148 ic_m1 rfl ?_
            refine v_goto C (pc' := 153) dL_isWord_149 (by decide) ?_
            refine v_istore_n (pc' := 154) C [1, 2, 0, 3, 4, 5, 6] (lv' := [(0, .ref aQ), (1, .int p1), (2, .int (-1 : Int32)), (3, .int v3_14), (4, .int v4_15), (5, .int v5_16), (7, .int s0_17)]) dL_isWord_153 (Nat.le_of_ble_eq_true rfl) rfl rfl ?_
            refine v_iinc (pc' := 157) C 4 [1, 2, 3, 4, 0, 5, 6] (1) dL_isWord_154 rfl ic_1 (Nat.le_of_ble_eq_true rfl) h (lw := fun v9 => [(0, .ref aQ), (1, .int p1), (2, .int (-1 : Int32)), (3, .int v3_14), (4, .int v9), (5, .int v5_16), (7, .int s0_17)]) (fun _ => rfl) rfl (fun v4_20 h => ?_)
            refine v_goto C (pc' := 7) dL_isWord_157 (by decide) ?_
            refine v_lv [0, 1, 2, 3, 4] (lv' := [(0, .ref aQ), (1, .int p1), (2, .int (-1 : Int32)), (3, .int v3_14), (4, .int v4_20)]) rfl ?_
            exact ih7 (-1 : Int32) v3_14 v4_20 h
        · refine v_iconst (pc' := 138) C (1) dL_isWord_137 ic_1 rfl ?_
          refine v_goto C (pc' := 153) dL_isWord_138 (by decide) ?_
          refine v_istore_n (pc' := 154) C [1, 2, 0, 3, 4, 5, 6] (lv' := [(0, .ref aQ), (1, .int p1), (2, .int (1 : Int32)), (3, .int v3_14), (4, .int v4_15), (5, .int v5_16), (7, .int s0_17)]) dL_isWord_153 (Nat.le_of_ble_eq_true rfl) rfl rfl ?_
          refine v_iinc (pc' := 157) C 4 [1, 2, 3, 4, 0, 5, 6] (1) dL_isWord_154 rfl ic_1 (Nat.le_of_ble_eq_true rfl) h (lw := fun v9 => [(0, .ref aQ), (1, .int p1), (2, .int (1 : Int32)), (3, .int v3_14), (4, .int v9), (5, .int v5_16), (7, .int s0_17)]) (fun _ => rfl) rfl (fun v4_21 h => ?_)
          refine v_goto C (pc' := 7) dL_isWord_157 (by decide) ?_
          refine v_lv [0, 1, 2, 3, 4] (lv' := [(0, .ref aQ), (1, .int p1), (2, .int (1 : Int32)), (3, .int v3_14), (4, .int v4_21)]) rfl ?_
          exact ih7 (1 : Int32) v3_14 v4_21 h
      · refine v_iload_n (pc' := 127) C 2 dL_isWord_126 rfl rfl ?_
        refine v_goto C (pc' := 153) dL_isWord_127 (by decide) ?_
        refine v_istore_n (pc' := 154) C [1, 2, 0, 3, 4, 5, 6] (lv' := [(0, .ref aQ), (1, .int p1), (2, .int v2_13), (3, .int v3_14), (4, .int v4_15), (5, .int v5_16), (7, .int s0_17)]) dL_isWord_153 (Nat.le_of_ble_eq_true rfl) rfl rfl ?_
        refine v_iinc (pc' := 157) C 4 [1, 2, 3, 4, 0, 5, 6] (1) dL_isWord_154 rfl ic_1 (Nat.le_of_ble_eq_true rfl) h (lw := fun v9 => [(0, .ref aQ), (1, .int p1), (2, .int v2_13), (3, .int v3_14), (4, .int v9), (5, .int v5_16), (7, .int s0_17)]) (fun _ => rfl) rfl (fun v4_22 h => ?_)
        refine v_goto C (pc' := 7) dL_isWord_157 (by decide) ?_
        refine v_lv [0, 1, 2, 3, 4] (lv' := [(0, .ref aQ), (1, .int p1), (2, .int v2_13), (3, .int v3_14), (4, .int v4_22)]) rfl ?_
        exact ih7 v2_13 v3_14 v4_22 h
  have J75 : ∀ (v2_6 : Int32) (v3_7 : Int32) (v4_8 : Int32) (v5_9 : Int32) (s0_10 : Int32), f_L_isWord_J75 p1 re7 zN v2_6 v3_7 v4_8 v5_9 s0_10 = some o → V p l e rm_L_isWord s m args below meth c g 8 A 0 0 Q (wQ aQ aT aN aV aD aF ++ wS g aN zN) [] [(0, .ref aQ), (1, .int p1), (2, .int v2_6), (3, .int v3_7), (4, .int v4_8), (5, .int v5_9)] 75 [.int s0_10] := by
    intro v2_6 v3_7 v4_8 v5_9 s0_10 h
    unfold f_L_isWord_J75 at h
    refine v_istore (pc' := 77) C [1, 2, 3, 4, 5, 6, 0] (lv' := [(0, .ref aQ), (1, .int p1), (2, .int v2_6), (3, .int v3_7), (4, .int v4_8), (5, .int v5_9), (6, .int s0_10)]) dL_isWord_75 (Nat.le_of_ble_eq_true rfl) rfl rfl ?_
    refine v_iload (pc' := 79) C 6 dL_isWord_77 rfl rfl ?_
    refine v_if_ne C 84 82 h dL_isWord_79 (by decide) rfl (fun _ h => ?_) (fun _ h => ?_)
    · refine v_iload_n (pc' := 85) C 3 dL_isWord_84 rfl rfl ?_
      refine v_iload (pc' := 87) C 5 dL_isWord_85 rfl rfl ?_
      refine v_iconst (pc' := 88) C (-1) dL_isWord_87 ic_m1 rfl ?_
      refine v_icmp_ne C 95 91 h dL_isWord_88 (by decide) rfl (fun _ h => ?_) (fun _ h => ?_)
      · refine v_iconst (pc' := 96) C (1) dL_isWord_95 ic_1 rfl ?_
        refine v_iadd (pc' := 97) C dL_isWord_96 rfl ?_
        refine v_leti h (fun v3_11 h => ?_)
        refine v_istore_n (pc' := 98) C [1, 2, 3, 0, 4, 5, 6] (lv' := [(0, .ref aQ), (1, .int p1), (2, .int v2_6), (3, .int v3_11), (4, .int v4_8), (5, .int v5_9), (6, .int s0_10)]) dL_isWord_97 (Nat.le_of_ble_eq_true rfl) rfl rfl ?_
        refine v_iload_n (pc' := 99) C 1 dL_isWord_98 rfl rfl ?_
        refine v_if_ne C 107 102 h dL_isWord_99 (by decide) rfl (fun _ h => ?_) (fun _ h => ?_)
        · refine v_aload_n (pc' := 108) C 0 dL_isWord_107 rfl rfl ?_
          refine v_iload_n (pc' := 109) C 1 dL_isWord_108 rfl rfl ?_
          refine v_iconst (pc' := 110) C (1) dL_isWord_109 ic_1 rfl ?_
          refine v_isub (pc' := 111) C dL_isWord_110 rfl ?_
          refine v_iload (pc' := 113) C 4 dL_isWord_111 rfl rfl ?_
          refine v_calli (pc' := 116) C h (rf := fun r9 => r9) ([]) (fun r9 (u9 : Unit) => wQ aQ aT aN aV aD aF ++ wS g aN zN) (fun r hr => run_V C (c_X5_letterOf l g aQ aT aN aV aD aF _ _ _ r hr) gL_isWord_X5_letterOf rfl nd_X5_letterOf rfl rfl rfl rfl ⟨Nat.le_of_ble_eq_true rfl, Nat.le_of_ble_eq_true rfl⟩ ⟨Nat.le_of_ble_eq_true rfl, Nat.le_of_ble_eq_true rfl⟩ (Nat.le_of_ble_eq_true rfl) dL_isWord_113 rfl) [0, 1, 2, 3, 4] [] [0, 1, 2, 3, 4] rfl rfl rfl rfl (by decide) rfl (fun _ _ => rfl) (k' := 0) (n' := 0) rfl rfl rfl (fun r_12 _ _ h => ?_)
          refine v_lv [0, 1, 2, 3, 4, 5] (lv' := [(0, .ref aQ), (1, .int p1), (2, .int v2_6), (3, .int v3_11), (4, .int v4_8), (5, .int v5_9)]) rfl ?_
          exact J116 v2_6 v3_11 v4_8 v5_9 r_12 h
        · refine v_bipush (pc' := 104) C (-2) dL_isWord_102 bc_m2 rfl ?_
          refine v_goto C (pc' := 116) dL_isWord_104 (by decide) ?_
          refine v_lv [0, 1, 2, 3, 4, 5] (lv' := [(0, .ref aQ), (1, .int p1), (2, .int v2_6), (3, .int v3_11), (4, .int v4_8), (5, .int v5_9)]) rfl ?_
          exact J116 v2_6 v3_11 v4_8 v5_9 (-2 : Int32) h
      · refine v_iconst (pc' := 92) C (0) dL_isWord_91 ic_0 rfl ?_
        refine v_goto C (pc' := 96) dL_isWord_92 (by decide) ?_
        refine v_iadd (pc' := 97) C dL_isWord_96 rfl ?_
        refine v_leti h (fun v3_23 h => ?_)
        refine v_istore_n (pc' := 98) C [1, 2, 3, 0, 4, 5, 6] (lv' := [(0, .ref aQ), (1, .int p1), (2, .int v2_6), (3, .int v3_23), (4, .int v4_8), (5, .int v5_9), (6, .int s0_10)]) dL_isWord_97 (Nat.le_of_ble_eq_true rfl) rfl rfl ?_
        refine v_iload_n (pc' := 99) C 1 dL_isWord_98 rfl rfl ?_
        refine v_if_ne C 107 102 h dL_isWord_99 (by decide) rfl (fun _ h => ?_) (fun _ h => ?_)
        · refine v_aload_n (pc' := 108) C 0 dL_isWord_107 rfl rfl ?_
          refine v_iload_n (pc' := 109) C 1 dL_isWord_108 rfl rfl ?_
          refine v_iconst (pc' := 110) C (1) dL_isWord_109 ic_1 rfl ?_
          refine v_isub (pc' := 111) C dL_isWord_110 rfl ?_
          refine v_iload (pc' := 113) C 4 dL_isWord_111 rfl rfl ?_
          refine v_calli (pc' := 116) C h (rf := fun r9 => r9) ([]) (fun r9 (u9 : Unit) => wQ aQ aT aN aV aD aF ++ wS g aN zN) (fun r hr => run_V C (c_X5_letterOf l g aQ aT aN aV aD aF _ _ _ r hr) gL_isWord_X5_letterOf rfl nd_X5_letterOf rfl rfl rfl rfl ⟨Nat.le_of_ble_eq_true rfl, Nat.le_of_ble_eq_true rfl⟩ ⟨Nat.le_of_ble_eq_true rfl, Nat.le_of_ble_eq_true rfl⟩ (Nat.le_of_ble_eq_true rfl) dL_isWord_113 rfl) [0, 1, 2, 3, 4] [] [0, 1, 2, 3, 4] rfl rfl rfl rfl (by decide) rfl (fun _ _ => rfl) (k' := 0) (n' := 0) rfl rfl rfl (fun r_24 _ _ h => ?_)
          refine v_lv [0, 1, 2, 3, 4, 5] (lv' := [(0, .ref aQ), (1, .int p1), (2, .int v2_6), (3, .int v3_23), (4, .int v4_8), (5, .int v5_9)]) rfl ?_
          exact J116 v2_6 v3_23 v4_8 v5_9 r_24 h
        · refine v_bipush (pc' := 104) C (-2) dL_isWord_102 bc_m2 rfl ?_
          refine v_goto C (pc' := 116) dL_isWord_104 (by decide) ?_
          refine v_lv [0, 1, 2, 3, 4, 5] (lv' := [(0, .ref aQ), (1, .int p1), (2, .int v2_6), (3, .int v3_23), (4, .int v4_8), (5, .int v5_9)]) rfl ?_
          exact J116 v2_6 v3_23 v4_8 v5_9 (-2 : Int32) h
    · refine v_iconst (pc' := 83) C (0) dL_isWord_82 ic_0 rfl ?_
      exact v_zret (rf := fun (o9 : Int32) => o9) (Wf := fun (o9 : Int32) (u9 : Unit) => wQ aQ aT aN aV aD aF ++ wS g aN zN) (ok := fun (o9 : Int32) (u9 : Unit) => True) C Cr h hQ () trivial rfl rfl (Or.inl rfl) dL_isWord_83
  refine v_iload (pc' := 9) C 4 dL_isWord_7 rfl rfl ?_
  refine v_bipush (pc' := 11) C (9) dL_isWord_9 bc_9 rfl ?_
  refine v_icmp_ge C 160 14 h dL_isWord_11 (by decide) rfl (fun _ h => ?_) (fun _ h => ?_)
  · refine v_lv [1, 2] (lv' := [(1, .int p1), (2, .int v2_1)]) rfl ?_
    exact J160 v2_1 h
  · refine v_aload_n (pc' := 15) C 0 dL_isWord_14 rfl rfl ?_
    refine v_iload_n (pc' := 16) C 1 dL_isWord_15 rfl rfl ?_
    refine v_iload (pc' := 18) C 4 dL_isWord_16 rfl rfl ?_
    refine v_calli (pc' := 21) C h (rf := fun r9 => r9) ([]) (fun r9 (u9 : Unit) => wQ aQ aT aN aV aD aF ++ wS g aN zN) (fun r hr => run_V C (c_X5_letterOf l g aQ aT aN aV aD aF _ _ _ r hr) gL_isWord_X5_letterOf rfl nd_X5_letterOf rfl rfl rfl rfl ⟨Nat.le_of_ble_eq_true rfl, Nat.le_of_ble_eq_true rfl⟩ ⟨Nat.le_of_ble_eq_true rfl, Nat.le_of_ble_eq_true rfl⟩ (Nat.le_of_ble_eq_true rfl) dL_isWord_18 rfl) [0, 1, 2, 3, 4] [] [0, 1, 2, 3, 4] rfl rfl rfl rfl (by decide) rfl (fun _ _ => rfl) (k' := 0) (n' := 0) rfl rfl rfl (fun r_5 _ _ h => ?_)
    refine v_istore (pc' := 23) C [1, 2, 3, 4, 5, 0] (lv' := [(0, .ref aQ), (1, .int p1), (2, .int v2_1), (3, .int v3_2), (4, .int v4_3), (5, .int r_5)]) dL_isWord_21 (Nat.le_of_ble_eq_true rfl) rfl rfl ?_
    refine v_iload (pc' := 25) C 5 dL_isWord_23 rfl rfl ?_
    refine v_iconst (pc' := 26) C (-1) dL_isWord_25 ic_m1 rfl ?_
    refine v_icmp_ne C 43 29 h dL_isWord_26 (by decide) rfl (fun _ h => ?_) (fun _ h => ?_)
    · refine v_iload (pc' := 45) C 5 dL_isWord_43 rfl rfl ?_
      refine v_bipush (pc' := 47) C (96) dL_isWord_45 bc_96 rfl ?_
      refine v_icmp_le C 74 50 h dL_isWord_47 (by decide) rfl (fun _ h => ?_) (fun _ h => ?_)
      · refine v_iconst (pc' := 75) C (0) dL_isWord_74 ic_0 rfl ?_
        exact J75 v2_1 v3_2 v4_3 r_5 (0 : Int32) h
      · refine v_iload (pc' := 52) C 5 dL_isWord_50 rfl rfl ?_
        refine v_bipush (pc' := 54) C (123) dL_isWord_52 bc_123 rfl ?_
        refine v_icmp_ge C 74 57 h dL_isWord_54 (by decide) rfl (fun _ h => ?_) (fun _ h => ?_)
        · refine v_iconst (pc' := 75) C (0) dL_isWord_74 ic_0 rfl ?_
          exact J75 v2_1 v3_2 v4_3 r_5 (0 : Int32) h
        · refine v_iload_n (pc' := 58) C 3 dL_isWord_57 rfl rfl ?_
          refine v_iload (pc' := 60) C 4 dL_isWord_58 rfl rfl ?_
          refine v_icmp_ne C 74 63 h dL_isWord_60 (by decide) rfl (fun _ h => ?_) (fun _ h => ?_)
          · refine v_iconst (pc' := 75) C (0) dL_isWord_74 ic_0 rfl ?_
            exact J75 v2_1 v3_2 v4_3 r_5 (0 : Int32) h
          · refine v_iload (pc' := 65) C 4 dL_isWord_63 rfl rfl ?_
            refine v_bipush (pc' := 67) C (8) dL_isWord_65 bc_8 rfl ?_
            refine v_icmp_ge C 74 70 h dL_isWord_67 (by decide) rfl (fun _ h => ?_) (fun _ h => ?_)
            · refine v_iconst (pc' := 75) C (0) dL_isWord_74 ic_0 rfl ?_
              exact J75 v2_1 v3_2 v4_3 r_5 (0 : Int32) h
            · refine v_iconst (pc' := 71) C (1) dL_isWord_70 ic_1 rfl ?_
              refine v_goto C (pc' := 75) dL_isWord_71 (by decide) ?_
              exact J75 v2_1 v3_2 v4_3 r_5 (1 : Int32) h
    · refine v_iload (pc' := 31) C 4 dL_isWord_29 rfl rfl ?_
      refine v_iconst (pc' := 32) C (1) dL_isWord_31 ic_1 rfl ?_
      refine v_icmp_le C 39 35 h dL_isWord_32 (by decide) rfl (fun _ h => ?_) (fun _ h => ?_)
      · refine v_iconst (pc' := 40) C (0) dL_isWord_39 ic_0 rfl ?_
        refine v_goto C (pc' := 75) dL_isWord_40 (by decide) ?_
        exact J75 v2_1 v3_2 v4_3 r_5 (0 : Int32) h
      · refine v_iconst (pc' := 36) C (1) dL_isWord_35 ic_1 rfl ?_
        refine v_goto C (pc' := 75) dL_isWord_36 (by decide) ?_
        exact J75 v2_1 v3_2 v4_3 r_5 (1 : Int32) h
def f_L_doesAgree_J102 (zN : St) (p1 : Int32) (p2 : Int32)  : Option (Int32) :=
  Option.bind (f_X5_letterOf zN p1 p2) fun r_2 =>
  if r_2 = (-1 : Int32) then some (1 : Int32)
  else some (0 : Int32)
def f_L_doesAgree_J66 (zN : St) (re2 : Int32 → Option (Int32)) (v3_7 : Int32) (v4_8 : Int32) (v5_9 : Int32) : Option (Int32) :=
  Option.bind (f_X5_shown zN v3_7) fun r_10 =>
  if r_10 = (-6 : Int32) then if v5_9 = 0 then lett (v3_7 + (1 : Int32)) fun v3_13 =>
  re2 v3_13
  else some (0 : Int32)
  else Option.bind (f_X5_shown zN v3_7) fun r_11 =>
  if r_11 = v4_8 then lett (v3_7 + (1 : Int32)) fun v3_12 =>
  re2 v3_12
  else some (0 : Int32)
def f_L_doesAgree_L21 (zN : St) (r_3 : Int32) (re2 : Int32 → Option (Int32)) (v3_1 : Int32) (re21 : Int32 → Int32 → Option (Int32)) (v5_4 : Int32) (v6_5 : Int32) : Option (Int32) :=
  Option.bind (f_X5_guesses zN) fun r_6 =>
  if v6_5 < r_6 then if v6_5 < (26 : Int32) then if v5_4 = 0 then Option.bind (f_X5_guessAt zN v6_5) fun r_15 =>
  if r_15 = r_3 then lett (v6_5 + (1 : Int32)) fun v6_17 =>
  re21 (1 : Int32) v6_17
  else lett (v6_5 + (1 : Int32)) fun v6_16 =>
  re21 (0 : Int32) v6_16
  else lett (v6_5 + (1 : Int32)) fun v6_14 =>
  re21 (1 : Int32) v6_14
  else f_L_doesAgree_J66 zN re2 v3_1 r_3 v5_4
  else f_L_doesAgree_J66 zN re2 v3_1 r_3 v5_4
def f_L_doesAgree_L2 (p2 : Int32) (zN : St) (p1 : Int32) (re2 : Int32 → Option (Int32)) (v3_1 : Int32) : Option (Int32) :=
  if v3_1 < p2 then Option.bind (f_X5_letterOf zN p1 v3_1) fun r_3 =>
  loop2 (f_L_doesAgree_L21 zN r_3 re2 v3_1) FU (0 : Int32) (0 : Int32)
  else f_L_doesAgree_J102 zN p1 p2 
def f_L_doesAgree (zN : St) (p1 : Int32) (p2 : Int32) : Option (Int32) :=
  loop1 (f_L_doesAgree_L2 p2 zN p1) FU (0 : Int32)
abbrev rm_L_doesAgree : Room := { frames := 3, cells := 0, slots := 0, locals := 66 }
theorem nd_L_doesAgree : yL_doesAgree.cls ≠ "java/lang/invoke/MethodHandle" ∧ yL_doesAgree.cls ≠ "java/lang/invoke/VarHandle" ∧ (parseMethodDescriptor yL_doesAgree.desc).map (fun d => d.parameters.length) = some 3 := by decide +kernel
set_option maxHeartbeats 4000000 in
set_option maxRecDepth 100000 in
theorem c_L_doesAgree (l : Launch) (g : Gv) (aQ : Nat) (aT : A3) (aN : RA) (aV : A2) (aD aF : RA) (zN : St) (p1 : Int32) (p2 : Int32) (o : Int32) (h : f_L_doesAgree zN p1 p2 = some o) : Ct l g yL_doesAgree wsL_doesAgree rm_L_doesAgree [.ref aQ, .int p1, .int p2] (wQ aQ aT aN aV aD aF ++ wS g aN zN) (Qi g o (fun _ : Unit => wQ aQ aT aN aV aD aF ++ wS g aN zN) (fun _ => True)) := by
  refine enter (ret := (some .boolean)) (X := wQ aQ aT aN aV aD aF ++ wS g aN zN) (pl := []) pn_L rfl (Nat.le_of_ble_eq_true rfl) ((List.append_nil _).symm) ?_
  intro p e s m args below meth c A Q C Cr hin hQ
  unfold f_L_doesAgree at h
  have J102 : f_L_doesAgree_J102 zN p1 p2 = some o → V p l e rm_L_doesAgree s m args below meth c g 7 A 0 0 Q (wQ aQ aT aN aV aD aF ++ wS g aN zN) [] [(0, .ref aQ), (1, .int p1), (2, .int p2)] 102 [] := by
    intro  h
    unfold f_L_doesAgree_J102 at h
    refine v_aload_n (pc' := 103) C 0 dL_doesAgree_102 rfl rfl ?_
    refine v_iload_n (pc' := 104) C 1 dL_doesAgree_103 rfl rfl ?_
    refine v_iload_n (pc' := 105) C 2 dL_doesAgree_104 rfl rfl ?_
    refine v_calli (pc' := 108) C h (rf := fun r9 => r9) ([]) (fun r9 (u9 : Unit) => wQ aQ aT aN aV aD aF ++ wS g aN zN) (fun r hr => run_V C (c_X5_letterOf l g aQ aT aN aV aD aF _ _ _ r hr) gL_doesAgree_X5_letterOf rfl nd_X5_letterOf rfl rfl rfl rfl ⟨Nat.le_of_ble_eq_true rfl, Nat.le_of_ble_eq_true rfl⟩ ⟨Nat.le_of_ble_eq_true rfl, Nat.le_of_ble_eq_true rfl⟩ (Nat.le_of_ble_eq_true rfl) dL_doesAgree_105 rfl) [0, 1, 2, 3, 4] [] [0, 1, 2, 3, 4] rfl rfl rfl rfl (by decide) rfl (fun _ _ => rfl) (k' := 0) (n' := 0) rfl rfl rfl (fun r_2 _ _ h => ?_)
    refine v_iconst (pc' := 109) C (-1) dL_doesAgree_108 ic_m1 rfl ?_
    refine v_icmp_ne C 116 112 h dL_doesAgree_109 (by decide) rfl (fun _ h => ?_) (fun _ h => ?_)
    · refine v_iconst (pc' := 117) C (0) dL_doesAgree_116 ic_0 rfl ?_
      exact v_zret (rf := fun (o9 : Int32) => o9) (Wf := fun (o9 : Int32) (u9 : Unit) => wQ aQ aT aN aV aD aF ++ wS g aN zN) (ok := fun (o9 : Int32) (u9 : Unit) => True) C Cr h hQ () trivial rfl rfl (Or.inl rfl) dL_doesAgree_117
    · refine v_iconst (pc' := 113) C (1) dL_doesAgree_112 ic_1 rfl ?_
      refine v_goto C (pc' := 117) dL_doesAgree_113 (by decide) ?_
      exact v_zret (rf := fun (o9 : Int32) => o9) (Wf := fun (o9 : Int32) (u9 : Unit) => wQ aQ aT aN aV aD aF ++ wS g aN zN) (ok := fun (o9 : Int32) (u9 : Unit) => True) C Cr h hQ () trivial rfl rfl (Or.inr rfl) dL_doesAgree_117
  refine v_iconst (pc' := 1) C (0) dL_doesAgree_0 ic_0 rfl ?_
  refine v_istore_n (pc' := 2) C [1, 2, 3, 0] (lv' := [(0, .ref aQ), (1, .int p1), (2, .int p2), (3, .int (0 : Int32))]) dL_doesAgree_1 (Nat.le_of_ble_eq_true rfl) rfl rfl ?_
  refine v_loop1 (fun (v3_1 : Int32) => V p l e rm_L_doesAgree s m args below meth c g 7 A 0 0 Q (wQ aQ aT aN aV aD aF ++ wS g aN zN) [] [(0, .ref aQ), (1, .int p1), (2, .int p2), (3, .int v3_1)] 2 []) (fun re2 ih2 v3_1 h => ?_) (0 : Int32) h
  unfold f_L_doesAgree_L2 at h
  have J66 : ∀ (v3_7 : Int32) (v4_8 : Int32) (v5_9 : Int32), f_L_doesAgree_J66 zN re2 v3_7 v4_8 v5_9 = some o → V p l e rm_L_doesAgree s m args below meth c g 7 A 0 0 Q (wQ aQ aT aN aV aD aF ++ wS g aN zN) [] [(0, .ref aQ), (1, .int p1), (2, .int p2), (3, .int v3_7), (4, .int v4_8), (5, .int v5_9)] 66 [] := by
    intro v3_7 v4_8 v5_9 h
    unfold f_L_doesAgree_J66 at h
    refine v_aload_n (pc' := 67) C 0 dL_doesAgree_66 rfl rfl ?_
    refine v_iload_n (pc' := 68) C 3 dL_doesAgree_67 rfl rfl ?_
    refine v_calli (pc' := 71) C h (rf := fun r9 => r9) ([]) (fun r9 (u9 : Unit) => wQ aQ aT aN aV aD aF ++ wS g aN zN) (fun r hr => run_V C (c_X5_shown l g aQ aT aN aV aD aF _ _ r hr) gL_doesAgree_X5_shown rfl nd_X5_shown rfl rfl rfl rfl ⟨Nat.le_of_ble_eq_true rfl, Nat.le_of_ble_eq_true rfl⟩ ⟨Nat.le_of_ble_eq_true rfl, Nat.le_of_ble_eq_true rfl⟩ (Nat.le_of_ble_eq_true rfl) dL_doesAgree_68 rfl) [0, 1, 2, 3, 4] [] [0, 1, 2, 3, 4] rfl rfl rfl rfl (by decide) rfl (fun _ _ => rfl) (k' := 0) (n' := 0) rfl rfl rfl (fun r_10 _ _ h => ?_)
    refine v_bipush (pc' := 73) C (-6) dL_doesAgree_71 bc_m6 rfl ?_
    refine v_icmp_ne C 84 76 h dL_doesAgree_73 (by decide) rfl (fun _ h => ?_) (fun _ h => ?_)
    · refine v_aload_n (pc' := 85) C 0 dL_doesAgree_84 rfl rfl ?_
      refine v_iload_n (pc' := 86) C 3 dL_doesAgree_85 rfl rfl ?_
      refine v_calli (pc' := 89) C h (rf := fun r9 => r9) ([]) (fun r9 (u9 : Unit) => wQ aQ aT aN aV aD aF ++ wS g aN zN) (fun r hr => run_V C (c_X5_shown l g aQ aT aN aV aD aF _ _ r hr) gL_doesAgree_X5_shown rfl nd_X5_shown rfl rfl rfl rfl ⟨Nat.le_of_ble_eq_true rfl, Nat.le_of_ble_eq_true rfl⟩ ⟨Nat.le_of_ble_eq_true rfl, Nat.le_of_ble_eq_true rfl⟩ (Nat.le_of_ble_eq_true rfl) dL_doesAgree_86 rfl) [0, 1, 2, 3, 4] [] [0, 1, 2, 3, 4] rfl rfl rfl rfl (by decide) rfl (fun _ _ => rfl) (k' := 0) (n' := 0) rfl rfl rfl (fun r_11 _ _ h => ?_)
      refine v_iload (pc' := 91) C 4 dL_doesAgree_89 rfl rfl ?_
      refine v_icmp_eq C 96 94 h dL_doesAgree_91 (by decide) rfl (fun _ h => ?_) (fun _ h => ?_)
      · refine v_iinc (pc' := 99) C 3 [1, 2, 3, 0, 4, 5] (1) dL_doesAgree_96 rfl ic_1 (Nat.le_of_ble_eq_true rfl) h (lw := fun v9 => [(0, .ref aQ), (1, .int p1), (2, .int p2), (3, .int v9), (4, .int v4_8), (5, .int v5_9)]) (fun _ => rfl) rfl (fun v3_12 h => ?_)
        refine v_goto C (pc' := 2) dL_doesAgree_99 (by decide) ?_
        refine v_lv [0, 1, 2, 3] (lv' := [(0, .ref aQ), (1, .int p1), (2, .int p2), (3, .int v3_12)]) rfl ?_
        exact ih2 v3_12 h
      · refine v_iconst (pc' := 95) C (0) dL_doesAgree_94 ic_0 rfl ?_
        exact v_zret (rf := fun (o9 : Int32) => o9) (Wf := fun (o9 : Int32) (u9 : Unit) => wQ aQ aT aN aV aD aF ++ wS g aN zN) (ok := fun (o9 : Int32) (u9 : Unit) => True) C Cr h hQ () trivial rfl rfl (Or.inl rfl) dL_doesAgree_95
    · refine v_iload (pc' := 78) C 5 dL_doesAgree_76 rfl rfl ?_
      refine v_if_eq C 96 81 h dL_doesAgree_78 (by decide) rfl (fun _ h => ?_) (fun _ h => ?_)
      · refine v_iinc (pc' := 99) C 3 [1, 2, 3, 0, 4, 5] (1) dL_doesAgree_96 rfl ic_1 (Nat.le_of_ble_eq_true rfl) h (lw := fun v9 => [(0, .ref aQ), (1, .int p1), (2, .int p2), (3, .int v9), (4, .int v4_8), (5, .int v5_9)]) (fun _ => rfl) rfl (fun v3_13 h => ?_)
        refine v_goto C (pc' := 2) dL_doesAgree_99 (by decide) ?_
        refine v_lv [0, 1, 2, 3] (lv' := [(0, .ref aQ), (1, .int p1), (2, .int p2), (3, .int v3_13)]) rfl ?_
        exact ih2 v3_13 h
      · refine v_goto C (pc' := 94) dL_doesAgree_81 (by decide) ?_
        refine v_iconst (pc' := 95) C (0) dL_doesAgree_94 ic_0 rfl ?_
        exact v_zret (rf := fun (o9 : Int32) => o9) (Wf := fun (o9 : Int32) (u9 : Unit) => wQ aQ aT aN aV aD aF ++ wS g aN zN) (ok := fun (o9 : Int32) (u9 : Unit) => True) C Cr h hQ () trivial rfl rfl (Or.inl rfl) dL_doesAgree_95
  refine v_iload_n (pc' := 3) C 3 dL_doesAgree_2 rfl rfl ?_
  refine v_iload_n (pc' := 4) C 2 dL_doesAgree_3 rfl rfl ?_
  refine v_icmp_ge C 102 7 h dL_doesAgree_4 (by decide) rfl (fun _ h => ?_) (fun _ h => ?_)
  · refine v_lv [0, 1, 2] (lv' := [(0, .ref aQ), (1, .int p1), (2, .int p2)]) rfl ?_
    exact J102  h
  · refine v_aload_n (pc' := 8) C 0 dL_doesAgree_7 rfl rfl ?_
    refine v_iload_n (pc' := 9) C 1 dL_doesAgree_8 rfl rfl ?_
    refine v_iload_n (pc' := 10) C 3 dL_doesAgree_9 rfl rfl ?_
    refine v_calli (pc' := 13) C h (rf := fun r9 => r9) ([]) (fun r9 (u9 : Unit) => wQ aQ aT aN aV aD aF ++ wS g aN zN) (fun r hr => run_V C (c_X5_letterOf l g aQ aT aN aV aD aF _ _ _ r hr) gL_doesAgree_X5_letterOf rfl nd_X5_letterOf rfl rfl rfl rfl ⟨Nat.le_of_ble_eq_true rfl, Nat.le_of_ble_eq_true rfl⟩ ⟨Nat.le_of_ble_eq_true rfl, Nat.le_of_ble_eq_true rfl⟩ (Nat.le_of_ble_eq_true rfl) dL_doesAgree_10 rfl) [0, 1, 2, 3, 4] [] [0, 1, 2, 3, 4] rfl rfl rfl rfl (by decide) rfl (fun _ _ => rfl) (k' := 0) (n' := 0) rfl rfl rfl (fun r_3 _ _ h => ?_)
    refine v_istore (pc' := 15) C [1, 2, 3, 4, 0] (lv' := [(0, .ref aQ), (1, .int p1), (2, .int p2), (3, .int v3_1), (4, .int r_3)]) dL_doesAgree_13 (Nat.le_of_ble_eq_true rfl) rfl rfl ?_
    refine v_iconst (pc' := 16) C (0) dL_doesAgree_15 ic_0 rfl ?_
    refine v_istore (pc' := 18) C [1, 2, 3, 4, 5, 0] (lv' := [(0, .ref aQ), (1, .int p1), (2, .int p2), (3, .int v3_1), (4, .int r_3), (5, .int (0 : Int32))]) dL_doesAgree_16 (Nat.le_of_ble_eq_true rfl) rfl rfl ?_
    refine v_iconst (pc' := 19) C (0) dL_doesAgree_18 ic_0 rfl ?_
    refine v_istore (pc' := 21) C [1, 2, 3, 4, 5, 6, 0] (lv' := [(0, .ref aQ), (1, .int p1), (2, .int p2), (3, .int v3_1), (4, .int r_3), (5, .int (0 : Int32)), (6, .int (0 : Int32))]) dL_doesAgree_19 (Nat.le_of_ble_eq_true rfl) rfl rfl ?_
    refine v_loop2 (fun (v5_4 : Int32) (v6_5 : Int32) => V p l e rm_L_doesAgree s m args below meth c g 7 A 0 0 Q (wQ aQ aT aN aV aD aF ++ wS g aN zN) [] [(0, .ref aQ), (1, .int p1), (2, .int p2), (3, .int v3_1), (4, .int r_3), (5, .int v5_4), (6, .int v6_5)] 21 []) (fun re21 ih21 v5_4 v6_5 h => ?_) (0 : Int32) (0 : Int32) h
    unfold f_L_doesAgree_L21 at h
    refine v_iload (pc' := 23) C 6 dL_doesAgree_21 rfl rfl ?_
    refine v_aload_n (pc' := 24) C 0 dL_doesAgree_23 rfl rfl ?_
    refine v_calli (pc' := 27) C h (rf := fun r9 => r9) ([]) (fun r9 (u9 : Unit) => wQ aQ aT aN aV aD aF ++ wS g aN zN) (fun r hr => run_V C (c_X5_guesses l g aQ aT aN aV aD aF _ r hr) gL_doesAgree_X5_guesses rfl nd_X5_guesses rfl rfl rfl rfl ⟨Nat.le_of_ble_eq_true rfl, Nat.le_of_ble_eq_true rfl⟩ ⟨Nat.le_of_ble_eq_true rfl, Nat.le_of_ble_eq_true rfl⟩ (Nat.le_of_ble_eq_true rfl) dL_doesAgree_24 rfl) [0, 1, 2, 3, 4] [] [0, 1, 2, 3, 4] rfl rfl rfl rfl (by decide) rfl (fun _ _ => rfl) (k' := 0) (n' := 0) rfl rfl rfl (fun r_6 _ _ h => ?_)
    refine v_icmp_ge C 66 30 h dL_doesAgree_27 (by decide) rfl (fun _ h => ?_) (fun _ h => ?_)
    · refine v_lv [0, 1, 2, 3, 4, 5] (lv' := [(0, .ref aQ), (1, .int p1), (2, .int p2), (3, .int v3_1), (4, .int r_3), (5, .int v5_4)]) rfl ?_
      exact J66 v3_1 r_3 v5_4 h
    · refine v_iload (pc' := 32) C 6 dL_doesAgree_30 rfl rfl ?_
      refine v_bipush (pc' := 34) C (26) dL_doesAgree_32 bc_26 rfl ?_
      refine v_icmp_ge C 66 37 h dL_doesAgree_34 (by decide) rfl (fun _ h => ?_) (fun _ h => ?_)
      · refine v_lv [0, 1, 2, 3, 4, 5] (lv' := [(0, .ref aQ), (1, .int p1), (2, .int p2), (3, .int v3_1), (4, .int r_3), (5, .int v5_4)]) rfl ?_
        exact J66 v3_1 r_3 v5_4 h
      · refine v_iload (pc' := 39) C 5 dL_doesAgree_37 rfl rfl ?_
        refine v_if_ne C 53 42 h dL_doesAgree_39 (by decide) rfl (fun _ h => ?_) (fun _ h => ?_)
        · refine v_iconst (pc' := 54) C (1) dL_doesAgree_53 ic_1 rfl ?_
          refine v_goto C (pc' := 58) dL_doesAgree_54 (by decide) ?_
          refine v_istore (pc' := 60) C [1, 2, 3, 4, 5, 0, 6] (lv' := [(0, .ref aQ), (1, .int p1), (2, .int p2), (3, .int v3_1), (4, .int r_3), (5, .int (1 : Int32)), (6, .int v6_5)]) dL_doesAgree_58 (Nat.le_of_ble_eq_true rfl) rfl rfl ?_
          refine v_iinc (pc' := 63) C 6 [1, 2, 3, 4, 5, 6, 0] (1) dL_doesAgree_60 rfl ic_1 (Nat.le_of_ble_eq_true rfl) h (lw := fun v9 => [(0, .ref aQ), (1, .int p1), (2, .int p2), (3, .int v3_1), (4, .int r_3), (5, .int (1 : Int32)), (6, .int v9)]) (fun _ => rfl) rfl (fun v6_14 h => ?_)
          refine v_goto C (pc' := 21) dL_doesAgree_63 (by decide) ?_
          exact ih21 (1 : Int32) v6_14 h
        · refine v_aload_n (pc' := 43) C 0 dL_doesAgree_42 rfl rfl ?_
          refine v_iload (pc' := 45) C 6 dL_doesAgree_43 rfl rfl ?_
          refine v_calli (pc' := 48) C h (rf := fun r9 => r9) ([]) (fun r9 (u9 : Unit) => wQ aQ aT aN aV aD aF ++ wS g aN zN) (fun r hr => run_V C (c_X5_guessAt l g aQ aT aN aV aD aF _ _ r hr) gL_doesAgree_X5_guessAt rfl nd_X5_guessAt rfl rfl rfl rfl ⟨Nat.le_of_ble_eq_true rfl, Nat.le_of_ble_eq_true rfl⟩ ⟨Nat.le_of_ble_eq_true rfl, Nat.le_of_ble_eq_true rfl⟩ (Nat.le_of_ble_eq_true rfl) dL_doesAgree_45 rfl) [0, 1, 2, 3, 4] [] [0, 1, 2, 3, 4] rfl rfl rfl rfl (by decide) rfl (fun _ _ => rfl) (k' := 0) (n' := 0) rfl rfl rfl (fun r_15 _ _ h => ?_)
          refine v_iload (pc' := 50) C 4 dL_doesAgree_48 rfl rfl ?_
          refine v_icmp_ne C 57 53 h dL_doesAgree_50 (by decide) rfl (fun _ h => ?_) (fun _ h => ?_)
          · refine v_iconst (pc' := 58) C (0) dL_doesAgree_57 ic_0 rfl ?_
            refine v_istore (pc' := 60) C [1, 2, 3, 4, 5, 0, 6] (lv' := [(0, .ref aQ), (1, .int p1), (2, .int p2), (3, .int v3_1), (4, .int r_3), (5, .int (0 : Int32)), (6, .int v6_5)]) dL_doesAgree_58 (Nat.le_of_ble_eq_true rfl) rfl rfl ?_
            refine v_iinc (pc' := 63) C 6 [1, 2, 3, 4, 5, 6, 0] (1) dL_doesAgree_60 rfl ic_1 (Nat.le_of_ble_eq_true rfl) h (lw := fun v9 => [(0, .ref aQ), (1, .int p1), (2, .int p2), (3, .int v3_1), (4, .int r_3), (5, .int (0 : Int32)), (6, .int v9)]) (fun _ => rfl) rfl (fun v6_16 h => ?_)
            refine v_goto C (pc' := 21) dL_doesAgree_63 (by decide) ?_
            exact ih21 (0 : Int32) v6_16 h
          · refine v_iconst (pc' := 54) C (1) dL_doesAgree_53 ic_1 rfl ?_
            refine v_goto C (pc' := 58) dL_doesAgree_54 (by decide) ?_
            refine v_istore (pc' := 60) C [1, 2, 3, 4, 5, 0, 6] (lv' := [(0, .ref aQ), (1, .int p1), (2, .int p2), (3, .int v3_1), (4, .int r_3), (5, .int (1 : Int32)), (6, .int v6_5)]) dL_doesAgree_58 (Nat.le_of_ble_eq_true rfl) rfl rfl ?_
            refine v_iinc (pc' := 63) C 6 [1, 2, 3, 4, 5, 6, 0] (1) dL_doesAgree_60 rfl ic_1 (Nat.le_of_ble_eq_true rfl) h (lw := fun v9 => [(0, .ref aQ), (1, .int p1), (2, .int p2), (3, .int v3_1), (4, .int r_3), (5, .int (1 : Int32)), (6, .int v9)]) (fun _ => rfl) rfl (fun v6_17 h => ?_)
            refine v_goto C (pc' := 21) dL_doesAgree_63 (by decide) ?_
            exact ih21 (1 : Int32) v6_17 h
def f_L_hangs_J564 (zN : St) (v8_55 : Int32) (zD_56 : St) (zF_57 : Fm) (s0_58 : Int32) : Option (Int32 × St × Fm) :=
  if s0_58 = 0 then some ((0 : Int32), zD_56, zF_57)
  else Option.bind (f_X5_total zN (0 : Int32)) fun r_59 =>
  Option.bind (f_X5_total zN (1 : Int32)) fun r_60 =>
  Option.bind (f_X5_total zN (2 : Int32)) fun r_61 =>
  if r_59 < ((r_60 + r_61) + v8_55) then some ((0 : Int32), zD_56, zF_57)
  else Option.bind (f_X5_total zN (3 : Int32)) fun r_62 =>
  Option.bind (f_X5_guesses zN) fun r_63 =>
  if r_62 < r_63 then some ((0 : Int32), zD_56, zF_57)
  else Option.bind (f_X5_total zN (5 : Int32)) fun r_64 =>
  Option.bind (f_X5_total zN (6 : Int32)) fun r_65 =>
  if r_64 < r_65 then some ((0 : Int32), zD_56, zF_57)
  else Option.bind (f_X5_total zN (5 : Int32)) fun r_66 =>
  Option.bind (f_X5_total zN (3 : Int32)) fun r_67 =>
  Option.bind (f_X5_total zN (4 : Int32)) fun r_68 =>
  if (r_67 + r_68) < r_66 then some ((0 : Int32), zD_56, zF_57)
  else some ((1 : Int32), zD_56, zF_57)
def f_L_hangs_J563 (zN : St) (v8_52 : Int32) (zD_53 : St) (zF_54 : Fm) : Option (Int32 × St × Fm) :=
  f_L_hangs_J564 zN v8_52 zD_53 zF_54 (0 : Int32)
def f_L_hangs_J495 (zN : St) (v2_75 : Int32) (v3_76 : Int32) (v8_77 : Int32) (zD_78 : St) (zF_79 : Fm) : Option (Int32 × St × Fm) :=
  if v2_75 = (1 : Int32) then if v2_75 = (2 : Int32) then if v3_76 = (1 : Int32) then f_L_hangs_J564 zN v8_77 zD_78 zF_79 (1 : Int32)
  else f_L_hangs_J563 zN v8_77 zD_78 zF_79
  else f_L_hangs_J564 zN v8_77 zD_78 zF_79 (1 : Int32)
  else Option.bind (f_X5_bestGuess zN zF_79) fun r_80 =>
  if r_80.1 = (-3 : Int32) then Option.bind (f_X5_missesAhead zN zD_78 r_80.2) fun r_81 =>
  if r_81.1 = (-3 : Int32) then Option.bind (f_X5_sureLetters zN) fun r_82 =>
  if r_82 = (-3 : Int32) then Option.bind (f_X5_families zN r_81.2.2 (100 : Int32)) fun r_83 =>
  if r_83.1 = (-3 : Int32) then Option.bind (f_X5_spread zN r_83.2 (100 : Int32)) fun r_84 =>
  if r_84.1 = (-3 : Int32) then if v2_75 = (2 : Int32) then if v3_76 = (1 : Int32) then f_L_hangs_J564 zN v8_77 r_81.2.1 r_84.2 (1 : Int32)
  else f_L_hangs_J563 zN v8_77 r_81.2.1 r_84.2
  else f_L_hangs_J564 zN v8_77 r_81.2.1 r_84.2 (1 : Int32)
  else f_L_hangs_J563 zN v8_77 r_81.2.1 r_84.2
  else f_L_hangs_J563 zN v8_77 r_81.2.1 r_83.2
  else f_L_hangs_J563 zN v8_77 r_81.2.1 r_81.2.2
  else f_L_hangs_J563 zN v8_77 r_81.2.1 r_81.2.2
  else f_L_hangs_J563 zN v8_77 zD_78 r_80.2
def f_L_hangs_J449 (zN : St) (v2_70 : Int32) (v3_71 : Int32) (v8_72 : Int32) (zD_73 : St) (zF_74 : Fm) : Option (Int32 × St × Fm) :=
  if v2_70 = (1 : Int32) then Option.bind (f_X5_lives zN) fun r_85 =>
  if 0 < r_85 then Option.bind (f_X5_bestGuess zN zF_74) fun r_86 =>
  if (96 : Int32) < r_86.1 then Option.bind (f_X5_missesAhead zN zD_73 r_86.2) fun r_87 =>
  Option.bind (f_X5_lives zN) fun r_88 =>
  if r_88 < r_87.1 then f_L_hangs_J563 zN v8_72 r_87.2.1 r_87.2.2
  else Option.bind (f_X5_missesAhead zN r_87.2.1 r_87.2.2) fun r_89 =>
  if r_89.1 < 0 then f_L_hangs_J563 zN v8_72 r_89.2.1 r_89.2.2
  else Option.bind (f_X5_sureLetters zN) fun r_90 =>
  if r_90 < 0 then f_L_hangs_J563 zN v8_72 r_89.2.1 r_89.2.2
  else f_L_hangs_J495 zN v2_70 v3_71 v8_72 r_89.2.1 r_89.2.2
  else f_L_hangs_J563 zN v8_72 zD_73 r_86.2
  else f_L_hangs_J563 zN v8_72 zD_73 zF_74
  else f_L_hangs_J495 zN v2_70 v3_71 v8_72 zD_73 zF_74
def f_L_hangs_J382 (zN : St) (v2_45 : Int32) (v3_46 : Int32) (v4_47 : Int32) (v5_48 : Int32) (zD_49 : St) (zF_50 : Fm) (s0_51 : Int32) : Option (Int32 × St × Fm) :=
  if v4_47 = 0 then f_L_hangs_J563 zN s0_51 zD_49 zF_50
  else if v2_45 = 0 then if v5_48 = 0 then if v3_46 = 0 then Option.bind (f_X5_guesses zN) fun r_91 =>
  if r_91 = 0 then Option.bind (f_X5_lives zN) fun r_92 =>
  if r_92 = 0 then Option.bind (f_X5_having zN (97 : Int32)) fun r_93 =>
  if r_93 = (-3 : Int32) then f_L_hangs_J449 zN v2_45 v3_46 s0_51 zD_49 zF_50
  else f_L_hangs_J563 zN s0_51 zD_49 zF_50
  else f_L_hangs_J563 zN s0_51 zD_49 zF_50
  else f_L_hangs_J563 zN s0_51 zD_49 zF_50
  else f_L_hangs_J563 zN s0_51 zD_49 zF_50
  else f_L_hangs_J563 zN s0_51 zD_49 zF_50
  else if (1 : Int32) < v5_48 then if 0 < v3_46 then Option.bind (f_X5_having zN (97 : Int32)) fun r_69 =>
  if r_69 < 0 then f_L_hangs_J563 zN s0_51 zD_49 zF_50
  else f_L_hangs_J449 zN v2_45 v3_46 s0_51 zD_49 zF_50
  else f_L_hangs_J563 zN s0_51 zD_49 zF_50
  else f_L_hangs_J563 zN s0_51 zD_49 zF_50
def f_L_hangs_J355 (zN : St) (re304 : Int32 → Int32 → Int32 → Option (Int32 × St × Fm)) (v8_95 : Int32) : Option (Int32 × St × Fm) :=
  Option.bind (f_X5_candidate zN v8_95) fun r_96 =>
  lett (v8_95 + (1 : Int32)) fun v8_97 =>
  re304 (0 : Int32) r_96 v8_97
def f_L_hangs_L304 (v3_37 : Int32) (v2_36 : Int32) (zN : St) (v5_39 : Int32) (zD_40 : St) (zF_41 : Fm) (v1_35 : Int32) (re304 : Int32 → Int32 → Int32 → Option (Int32 × St × Fm)) (v4_42 : Int32) (v7_43 : Int32) (v8_44 : Int32) : Option (Int32 × St × Fm) :=
  if v8_44 < v3_37 then if v4_42 = 0 then if v2_36 = (1 : Int32) then f_L_hangs_J382 zN v2_36 v3_37 v4_42 v5_39 zD_40 zF_41 (1 : Int32)
  else f_L_hangs_J382 zN v2_36 v3_37 v4_42 v5_39 zD_40 zF_41 (0 : Int32)
  else Option.bind (f_X5_candidate zN v8_44) fun r_94 =>
  if v7_43 < r_94 then Option.bind (f_X5_candidate zN v8_44) fun r_98 =>
  if r_98 < v1_35 then Option.bind (f_X5_candidate zN v8_44) fun r_99 =>
  Option.bind (f_L_doesAgree zN r_99 v5_39) fun r_100 =>
  if r_100 = 0 then f_L_hangs_J355 zN re304 v8_44
  else Option.bind (f_X5_candidate zN v8_44) fun r_101 =>
  lett (v8_44 + (1 : Int32)) fun v8_102 =>
  re304 (1 : Int32) r_101 v8_102
  else f_L_hangs_J355 zN re304 v8_44
  else f_L_hangs_J355 zN re304 v8_44
  else if v2_36 = (1 : Int32) then f_L_hangs_J382 zN v2_36 v3_37 v4_42 v5_39 zD_40 zF_41 (1 : Int32)
  else f_L_hangs_J382 zN v2_36 v3_37 v4_42 v5_39 zD_40 zF_41 (0 : Int32)
def f_L_hangs_J298 (zN : St) (v1_35 : Int32) (v2_36 : Int32) (v3_37 : Int32) (v4_38 : Int32) (v5_39 : Int32) (zD_40 : St) (zF_41 : Fm) : Option (Int32 × St × Fm) :=
  loop3 (f_L_hangs_L304 v3_37 v2_36 zN v5_39 zD_40 zF_41 v1_35) FU v4_38 (-1 : Int32) (0 : Int32)
def f_L_hangs_J272 (re220 : Int32 → Int32 → Int32 → Option (Int32 × St × Fm)) (v6_105 : Int32) (v7_106 : Int32) (v8_107 : Int32) (s0_108 : Int32) : Option (Int32 × St × Fm) :=
  if s0_108 = 0 then lett (v6_105 ||| (0 : Int32)) fun v6_109 =>
  lett (v7_106 + (1 : Int32)) fun v7_110 =>
  re220 s0_108 v6_109 v7_110
  else lett (v6_105 ||| ((1 : Int32) <<< (v8_107 &&& 31))) fun v6_111 =>
  lett (v7_106 + (1 : Int32)) fun v7_112 =>
  re220 s0_108 v6_111 v7_112
def f_L_hangs_L220 (zN : St) (v1_24 : Int32) (v2_25 : Int32) (v3_26 : Int32) (v5_28 : Int32) (zD_29 : St) (zF_30 : Fm) (re220 : Int32 → Int32 → Int32 → Option (Int32 × St × Fm)) (v4_31 : Int32) (v6_32 : Int32) (v7_33 : Int32) : Option (Int32 × St × Fm) :=
  Option.bind (f_X5_guesses zN) fun r_34 =>
  if v7_33 < r_34 then if v4_31 = 0 then f_L_hangs_J298 zN v1_24 v2_25 v3_26 v4_31 v5_28 zD_29 zF_30
  else Option.bind (f_X5_guessAt zN v7_33) fun r_103 =>
  lett (r_103 - (97 : Int32)) fun v8_104 =>
  if v8_104 < 0 then f_L_hangs_J272 re220 v6_32 v7_33 v8_104 (0 : Int32)
  else if v8_104 < (26 : Int32) then if ((v6_32 >>> (v8_104 &&& 31)) &&& (1 : Int32)) = 0 then f_L_hangs_J272 re220 v6_32 v7_33 v8_104 (1 : Int32)
  else f_L_hangs_J272 re220 v6_32 v7_33 v8_104 (0 : Int32)
  else f_L_hangs_J272 re220 v6_32 v7_33 v8_104 (0 : Int32)
  else f_L_hangs_J298 zN v1_24 v2_25 v3_26 v4_31 v5_28 zD_29 zF_30
def f_L_hangs_J214 (zN : St) (v1_24 : Int32) (v2_25 : Int32) (v3_26 : Int32) (v4_27 : Int32) (v5_28 : Int32) (zD_29 : St) (zF_30 : Fm) : Option (Int32 × St × Fm) :=
  loop3 (f_L_hangs_L220 zN v1_24 v2_25 v3_26 v5_28 zD_29 zF_30) FU v4_27 (0 : Int32) (0 : Int32)
def f_L_hangs_L191 (zN : St) (v1_17 : Int32) (v2_18 : Int32) (v3_19 : Int32) (v4_20 : Int32) (zD_21 : St) (zF_22 : Fm) (re191 : Int32 → Option (Int32 × St × Fm)) (v5_23 : Int32) : Option (Int32 × St × Fm) :=
  if v5_23 < (8 : Int32) then Option.bind (f_X5_shown zN v5_23) fun r_113 =>
  if r_113 = (-1 : Int32) then f_L_hangs_J214 zN v1_17 v2_18 v3_19 v4_20 v5_23 zD_21 zF_22
  else lett (v5_23 + (1 : Int32)) fun v5_114 =>
  re191 v5_114
  else f_L_hangs_J214 zN v1_17 v2_18 v3_19 v4_20 v5_23 zD_21 zF_22
def f_L_hangs_J188 (zN : St) (v1_17 : Int32) (v2_18 : Int32) (v3_19 : Int32) (v4_20 : Int32) (zD_21 : St) (zF_22 : Fm) : Option (Int32 × St × Fm) :=
  loop1 (f_L_hangs_L191 zN v1_17 v2_18 v3_19 v4_20 zD_21 zF_22) FU (0 : Int32)
def f_L_hangs_L163 (v1_9 : Int32) (zN : St) (v2_10 : Int32) (v3_11 : Int32) (zD_12 : St) (zF_13 : Fm) (re163 : Int32 → Int32 → Option (Int32 × St × Fm)) (v4_15 : Int32) (v5_16 : Int32) : Option (Int32 × St × Fm) :=
  if v5_16 < v1_9 then if v4_15 = 0 then f_L_hangs_J188 zN v1_9 v2_10 v3_11 v4_15 zD_12 zF_13
  else Option.bind (f_L_isWord zN v5_16) fun r_115 =>
  lett (v5_16 + (1 : Int32)) fun v5_116 =>
  re163 r_115 v5_116
  else f_L_hangs_J188 zN v1_9 v2_10 v3_11 v4_15 zD_12 zF_13
def f_L_hangs_J158 (zN : St) (v1_9 : Int32) (v2_10 : Int32) (v3_11 : Int32) (zD_12 : St) (zF_13 : Fm) (s0_14 : Int32) : Option (Int32 × St × Fm) :=
  loop2 (f_L_hangs_L163 v1_9 zN v2_10 v3_11 zD_12 zF_13) FU s0_14 (0 : Int32)
def f_L_hangs_J157 (zN : St) (v1_4 : Int32) (v2_5 : Int32) (v3_6 : Int32) (zD_7 : St) (zF_8 : Fm) : Option (Int32 × St × Fm) :=
  f_L_hangs_J158 zN v1_4 v2_5 v3_6 zD_7 zF_8 (0 : Int32)
def f_L_hangs (zN : St) (zD : St) (zF : Fm)  : Option (Int32 × St × Fm) :=
  Option.bind (f_X5_words zN) fun r_1 =>
  Option.bind (f_X5_status zN) fun r_2 =>
  Option.bind (f_X5_candidates zN) fun r_3 =>
  if r_1 < 0 then f_L_hangs_J157 zN r_1 r_2 r_3 zD zF
  else if r_1 < (31 : Int32) then if r_2 < 0 then f_L_hangs_J157 zN r_1 r_2 r_3 zD zF
  else if r_2 < (4 : Int32) then if r_3 < 0 then f_L_hangs_J157 zN r_1 r_2 r_3 zD zF
  else if r_1 < r_3 then f_L_hangs_J157 zN r_1 r_2 r_3 zD zF
  else Option.bind (f_X5_guesses zN) fun r_117 =>
  if r_117 < 0 then f_L_hangs_J157 zN r_1 r_2 r_3 zD zF
  else Option.bind (f_X5_guesses zN) fun r_118 =>
  if r_118 < (27 : Int32) then Option.bind (f_X5_lives zN) fun r_119 =>
  if r_119 < 0 then f_L_hangs_J157 zN r_1 r_2 r_3 zD zF
  else Option.bind (f_X5_lives zN) fun r_120 =>
  if r_120 < (21 : Int32) then Option.bind (f_X5_letterOf zN r_1 (0 : Int32)) fun r_121 =>
  if r_121 = (-1 : Int32) then Option.bind (f_X5_letterOf zN (-1 : Int32) (0 : Int32)) fun r_122 =>
  if r_122 = (-1 : Int32) then Option.bind (f_X5_candidate zN r_3) fun r_123 =>
  if r_123 = (-1 : Int32) then Option.bind (f_X5_candidate zN (-1 : Int32)) fun r_124 =>
  if r_124 = (-1 : Int32) then Option.bind (f_X5_guesses zN) fun r_125 =>
  Option.bind (f_X5_guessAt zN r_125) fun r_126 =>
  if r_126 = (-1 : Int32) then Option.bind (f_X5_guessAt zN (-1 : Int32)) fun r_127 =>
  if r_127 = (-1 : Int32) then Option.bind (f_X5_shown zN (-1 : Int32)) fun r_128 =>
  if r_128 = (-1 : Int32) then Option.bind (f_X5_shown zN (8 : Int32)) fun r_129 =>
  if r_129 = (-1 : Int32) then f_L_hangs_J158 zN r_1 r_2 r_3 zD zF (1 : Int32)
  else f_L_hangs_J157 zN r_1 r_2 r_3 zD zF
  else f_L_hangs_J157 zN r_1 r_2 r_3 zD zF
  else f_L_hangs_J157 zN r_1 r_2 r_3 zD zF
  else f_L_hangs_J157 zN r_1 r_2 r_3 zD zF
  else f_L_hangs_J157 zN r_1 r_2 r_3 zD zF
  else f_L_hangs_J157 zN r_1 r_2 r_3 zD zF
  else f_L_hangs_J157 zN r_1 r_2 r_3 zD zF
  else f_L_hangs_J157 zN r_1 r_2 r_3 zD zF
  else f_L_hangs_J157 zN r_1 r_2 r_3 zD zF
  else f_L_hangs_J157 zN r_1 r_2 r_3 zD zF
  else f_L_hangs_J157 zN r_1 r_2 r_3 zD zF
  else f_L_hangs_J157 zN r_1 r_2 r_3 zD zF
abbrev rm_L_hangs : Room := { frames := 6, cells := 0, slots := 0, locals := 143 }
theorem nd_L_hangs : yL_hangs.cls ≠ "java/lang/invoke/MethodHandle" ∧ yL_hangs.cls ≠ "java/lang/invoke/VarHandle" ∧ (parseMethodDescriptor yL_hangs.desc).map (fun d => d.parameters.length) = some 1 := by decide +kernel
set_option maxHeartbeats 4000000 in
set_option maxRecDepth 100000 in
theorem c_L_hangs (l : Launch) (g : Gv) (aQ : Nat) (aT : A3) (aN : RA) (aV : A2) (aD aF : RA) (zN : St) (zD : St) (zF : Fm)  (o : Int32 × St × Fm) (h : f_L_hangs zN zD zF  = some o) : Ct l g yL_hangs wsL_hangs rm_L_hangs [.ref aQ] (wQ aQ aT aN aV aD aF ++ wS g aN zN ++ wS g aD zD ++ wF g aF zF) (Qi g o.1 (fun _ : Unit => wQ aQ aT aN aV aD aF ++ wS g aN zN ++ wS g aD o.2.1 ++ wF g aF o.2.2) (fun _ => True)) := by
  refine enter (ret := (some .boolean)) (X := wQ aQ aT aN aV aD aF ++ wS g aN zN ++ wS g aD zD ++ wF g aF zF) (pl := []) pn_L rfl (Nat.le_of_ble_eq_true rfl) ((List.append_nil _).symm) ?_
  intro p e s m args below meth c A Q C Cr hin hQ
  unfold f_L_hangs at h
  have J564 : ∀ (v8_55 : Int32) (zD_56 : St) (zF_57 : Fm) (s0_58 : Int32), f_L_hangs_J564 zN v8_55 zD_56 zF_57 s0_58 = some o → V p l e rm_L_hangs s m args below meth c g 9 A 0 0 Q (wQ aQ aT aN aV aD aF ++ wS g aN zN ++ wS g aD zD_56 ++ wF g aF zF_57) [] [(0, .ref aQ), (8, .int v8_55)] 564 [.int s0_58] := by
    intro v8_55 zD_56 zF_57 s0_58 h
    unfold f_L_hangs_J564 at h
    refine v_istore (pc' := 566) C [1, 0, 2] (lv' := [(0, .ref aQ), (4, .int s0_58), (8, .int v8_55)]) dL_hangs_564 (Nat.le_of_ble_eq_true rfl) rfl rfl ?_
    refine v_iload (pc' := 568) C 1 dL_hangs_566 rfl rfl ?_
    refine v_if_eq C 642 571 h dL_hangs_568 (by decide) rfl (fun _ h => ?_) (fun _ h => ?_)
    · refine v_iconst (pc' := 643) C (0) dL_hangs_642 ic_0 rfl ?_
      exact v_zret (rf := fun (o9 : Int32 × St × Fm) => o9.1) (Wf := fun (o9 : Int32 × St × Fm) (u9 : Unit) => wQ aQ aT aN aV aD aF ++ wS g aN zN ++ wS g aD o9.2.1 ++ wF g aF o9.2.2) (ok := fun (o9 : Int32 × St × Fm) (u9 : Unit) => True) C Cr h hQ () trivial rfl rfl (Or.inl rfl) dL_hangs_643
    · refine v_aload_n (pc' := 572) C 0 dL_hangs_571 rfl rfl ?_
      refine v_iconst (pc' := 573) C (0) dL_hangs_572 ic_0 rfl ?_
      refine v_calli (pc' := 576) C h (rf := fun r9 => r9) (wS g aD zD_56 ++ wF g aF zF_57) (fun r9 (u9 : Unit) => wQ aQ aT aN aV aD aF ++ wS g aN zN ++ wS g aD zD_56 ++ wF g aF zF_57) (fun r hr => run_V C (c_X5_total l g aQ aT aN aV aD aF _ _ r hr) gL_hangs_X5_total rfl nd_X5_total rfl rfl rfl rfl ⟨Nat.le_of_ble_eq_true rfl, Nat.le_of_ble_eq_true rfl⟩ ⟨Nat.le_of_ble_eq_true rfl, Nat.le_of_ble_eq_true rfl⟩ (Nat.le_of_ble_eq_true rfl) dL_hangs_573 rfl) [0, 1, 2, 3, 4] [5, 6, 7, 8, 9, 10, 11, 12] [8, 9, 10, 11, 12, 0, 1, 2, 3, 4, 5, 6, 7] rfl rfl rfl rfl (by decide) rfl (fun _ _ => rfl) (k' := 0) (n' := 0) rfl rfl rfl (fun r_59 _ _ h => ?_)
      refine v_aload_n (pc' := 577) C 0 dL_hangs_576 rfl rfl ?_
      refine v_iconst (pc' := 578) C (1) dL_hangs_577 ic_1 rfl ?_
      refine v_calli (pc' := 581) C h (rf := fun r9 => r9) (wS g aD zD_56 ++ wF g aF zF_57) (fun r9 (u9 : Unit) => wQ aQ aT aN aV aD aF ++ wS g aN zN ++ wS g aD zD_56 ++ wF g aF zF_57) (fun r hr => run_V C (c_X5_total l g aQ aT aN aV aD aF _ _ r hr) gL_hangs_X5_total rfl nd_X5_total rfl rfl rfl rfl ⟨Nat.le_of_ble_eq_true rfl, Nat.le_of_ble_eq_true rfl⟩ ⟨Nat.le_of_ble_eq_true rfl, Nat.le_of_ble_eq_true rfl⟩ (Nat.le_of_ble_eq_true rfl) dL_hangs_578 rfl) [0, 1, 2, 3, 4] [5, 6, 7, 8, 9, 10, 11, 12] [8, 9, 10, 11, 12, 0, 1, 2, 3, 4, 5, 6, 7] rfl rfl rfl rfl (by decide) rfl (fun _ _ => rfl) (k' := 0) (n' := 0) rfl rfl rfl (fun r_60 _ _ h => ?_)
      refine v_aload_n (pc' := 582) C 0 dL_hangs_581 rfl rfl ?_
      refine v_iconst (pc' := 583) C (2) dL_hangs_582 ic_2 rfl ?_
      refine v_calli (pc' := 586) C h (rf := fun r9 => r9) (wS g aD zD_56 ++ wF g aF zF_57) (fun r9 (u9 : Unit) => wQ aQ aT aN aV aD aF ++ wS g aN zN ++ wS g aD zD_56 ++ wF g aF zF_57) (fun r hr => run_V C (c_X5_total l g aQ aT aN aV aD aF _ _ r hr) gL_hangs_X5_total rfl nd_X5_total rfl rfl rfl rfl ⟨Nat.le_of_ble_eq_true rfl, Nat.le_of_ble_eq_true rfl⟩ ⟨Nat.le_of_ble_eq_true rfl, Nat.le_of_ble_eq_true rfl⟩ (Nat.le_of_ble_eq_true rfl) dL_hangs_583 rfl) [0, 1, 2, 3, 4] [5, 6, 7, 8, 9, 10, 11, 12] [8, 9, 10, 11, 12, 0, 1, 2, 3, 4, 5, 6, 7] rfl rfl rfl rfl (by decide) rfl (fun _ _ => rfl) (k' := 0) (n' := 0) rfl rfl rfl (fun r_61 _ _ h => ?_)
      refine v_iadd (pc' := 587) C dL_hangs_586 rfl ?_
      refine v_iload (pc' := 589) C 2 dL_hangs_587 rfl rfl ?_
      refine v_iadd (pc' := 590) C dL_hangs_589 rfl ?_
      refine v_icmp_lt C 642 593 h dL_hangs_590 (by decide) rfl (fun _ h => ?_) (fun _ h => ?_)
      · refine v_iconst (pc' := 643) C (0) dL_hangs_642 ic_0 rfl ?_
        exact v_zret (rf := fun (o9 : Int32 × St × Fm) => o9.1) (Wf := fun (o9 : Int32 × St × Fm) (u9 : Unit) => wQ aQ aT aN aV aD aF ++ wS g aN zN ++ wS g aD o9.2.1 ++ wF g aF o9.2.2) (ok := fun (o9 : Int32 × St × Fm) (u9 : Unit) => True) C Cr h hQ () trivial rfl rfl (Or.inl rfl) dL_hangs_643
      · refine v_aload_n (pc' := 594) C 0 dL_hangs_593 rfl rfl ?_
        refine v_iconst (pc' := 595) C (3) dL_hangs_594 ic_3 rfl ?_
        refine v_calli (pc' := 598) C h (rf := fun r9 => r9) (wS g aD zD_56 ++ wF g aF zF_57) (fun r9 (u9 : Unit) => wQ aQ aT aN aV aD aF ++ wS g aN zN ++ wS g aD zD_56 ++ wF g aF zF_57) (fun r hr => run_V C (c_X5_total l g aQ aT aN aV aD aF _ _ r hr) gL_hangs_X5_total rfl nd_X5_total rfl rfl rfl rfl ⟨Nat.le_of_ble_eq_true rfl, Nat.le_of_ble_eq_true rfl⟩ ⟨Nat.le_of_ble_eq_true rfl, Nat.le_of_ble_eq_true rfl⟩ (Nat.le_of_ble_eq_true rfl) dL_hangs_595 rfl) [0, 1, 2, 3, 4] [5, 6, 7, 8, 9, 10, 11, 12] [8, 9, 10, 11, 12, 0, 1, 2, 3, 4, 5, 6, 7] rfl rfl rfl rfl (by decide) rfl (fun _ _ => rfl) (k' := 0) (n' := 0) rfl rfl rfl (fun r_62 _ _ h => ?_)
        refine v_aload_n (pc' := 599) C 0 dL_hangs_598 rfl rfl ?_
        refine v_calli (pc' := 602) C h (rf := fun r9 => r9) (wS g aD zD_56 ++ wF g aF zF_57) (fun r9 (u9 : Unit) => wQ aQ aT aN aV aD aF ++ wS g aN zN ++ wS g aD zD_56 ++ wF g aF zF_57) (fun r hr => run_V C (c_X5_guesses l g aQ aT aN aV aD aF _ r hr) gL_hangs_X5_guesses rfl nd_X5_guesses rfl rfl rfl rfl ⟨Nat.le_of_ble_eq_true rfl, Nat.le_of_ble_eq_true rfl⟩ ⟨Nat.le_of_ble_eq_true rfl, Nat.le_of_ble_eq_true rfl⟩ (Nat.le_of_ble_eq_true rfl) dL_hangs_599 rfl) [0, 1, 2, 3, 4] [5, 6, 7, 8, 9, 10, 11, 12] [8, 9, 10, 11, 12, 0, 1, 2, 3, 4, 5, 6, 7] rfl rfl rfl rfl (by decide) rfl (fun _ _ => rfl) (k' := 0) (n' := 0) rfl rfl rfl (fun r_63 _ _ h => ?_)
        refine v_icmp_lt C 642 605 h dL_hangs_602 (by decide) rfl (fun _ h => ?_) (fun _ h => ?_)
        · refine v_iconst (pc' := 643) C (0) dL_hangs_642 ic_0 rfl ?_
          exact v_zret (rf := fun (o9 : Int32 × St × Fm) => o9.1) (Wf := fun (o9 : Int32 × St × Fm) (u9 : Unit) => wQ aQ aT aN aV aD aF ++ wS g aN zN ++ wS g aD o9.2.1 ++ wF g aF o9.2.2) (ok := fun (o9 : Int32 × St × Fm) (u9 : Unit) => True) C Cr h hQ () trivial rfl rfl (Or.inl rfl) dL_hangs_643
        · refine v_aload_n (pc' := 606) C 0 dL_hangs_605 rfl rfl ?_
          refine v_iconst (pc' := 607) C (5) dL_hangs_606 ic_5 rfl ?_
          refine v_calli (pc' := 610) C h (rf := fun r9 => r9) (wS g aD zD_56 ++ wF g aF zF_57) (fun r9 (u9 : Unit) => wQ aQ aT aN aV aD aF ++ wS g aN zN ++ wS g aD zD_56 ++ wF g aF zF_57) (fun r hr => run_V C (c_X5_total l g aQ aT aN aV aD aF _ _ r hr) gL_hangs_X5_total rfl nd_X5_total rfl rfl rfl rfl ⟨Nat.le_of_ble_eq_true rfl, Nat.le_of_ble_eq_true rfl⟩ ⟨Nat.le_of_ble_eq_true rfl, Nat.le_of_ble_eq_true rfl⟩ (Nat.le_of_ble_eq_true rfl) dL_hangs_607 rfl) [0, 1, 2, 3, 4] [5, 6, 7, 8, 9, 10, 11, 12] [8, 9, 10, 11, 12, 0, 1, 2, 3, 4, 5, 6, 7] rfl rfl rfl rfl (by decide) rfl (fun _ _ => rfl) (k' := 0) (n' := 0) rfl rfl rfl (fun r_64 _ _ h => ?_)
          refine v_aload_n (pc' := 611) C 0 dL_hangs_610 rfl rfl ?_
          refine v_bipush (pc' := 613) C (6) dL_hangs_611 bc_6 rfl ?_
          refine v_calli (pc' := 616) C h (rf := fun r9 => r9) (wS g aD zD_56 ++ wF g aF zF_57) (fun r9 (u9 : Unit) => wQ aQ aT aN aV aD aF ++ wS g aN zN ++ wS g aD zD_56 ++ wF g aF zF_57) (fun r hr => run_V C (c_X5_total l g aQ aT aN aV aD aF _ _ r hr) gL_hangs_X5_total rfl nd_X5_total rfl rfl rfl rfl ⟨Nat.le_of_ble_eq_true rfl, Nat.le_of_ble_eq_true rfl⟩ ⟨Nat.le_of_ble_eq_true rfl, Nat.le_of_ble_eq_true rfl⟩ (Nat.le_of_ble_eq_true rfl) dL_hangs_613 rfl) [0, 1, 2, 3, 4] [5, 6, 7, 8, 9, 10, 11, 12] [8, 9, 10, 11, 12, 0, 1, 2, 3, 4, 5, 6, 7] rfl rfl rfl rfl (by decide) rfl (fun _ _ => rfl) (k' := 0) (n' := 0) rfl rfl rfl (fun r_65 _ _ h => ?_)
          refine v_icmp_lt C 642 619 h dL_hangs_616 (by decide) rfl (fun _ h => ?_) (fun _ h => ?_)
          · refine v_iconst (pc' := 643) C (0) dL_hangs_642 ic_0 rfl ?_
            exact v_zret (rf := fun (o9 : Int32 × St × Fm) => o9.1) (Wf := fun (o9 : Int32 × St × Fm) (u9 : Unit) => wQ aQ aT aN aV aD aF ++ wS g aN zN ++ wS g aD o9.2.1 ++ wF g aF o9.2.2) (ok := fun (o9 : Int32 × St × Fm) (u9 : Unit) => True) C Cr h hQ () trivial rfl rfl (Or.inl rfl) dL_hangs_643
          · refine v_aload_n (pc' := 620) C 0 dL_hangs_619 rfl rfl ?_
            refine v_iconst (pc' := 621) C (5) dL_hangs_620 ic_5 rfl ?_
            refine v_calli (pc' := 624) C h (rf := fun r9 => r9) (wS g aD zD_56 ++ wF g aF zF_57) (fun r9 (u9 : Unit) => wQ aQ aT aN aV aD aF ++ wS g aN zN ++ wS g aD zD_56 ++ wF g aF zF_57) (fun r hr => run_V C (c_X5_total l g aQ aT aN aV aD aF _ _ r hr) gL_hangs_X5_total rfl nd_X5_total rfl rfl rfl rfl ⟨Nat.le_of_ble_eq_true rfl, Nat.le_of_ble_eq_true rfl⟩ ⟨Nat.le_of_ble_eq_true rfl, Nat.le_of_ble_eq_true rfl⟩ (Nat.le_of_ble_eq_true rfl) dL_hangs_621 rfl) [0, 1, 2, 3, 4] [5, 6, 7, 8, 9, 10, 11, 12] [8, 9, 10, 11, 12, 0, 1, 2, 3, 4, 5, 6, 7] rfl rfl rfl rfl (by decide) rfl (fun _ _ => rfl) (k' := 0) (n' := 0) rfl rfl rfl (fun r_66 _ _ h => ?_)
            refine v_aload_n (pc' := 625) C 0 dL_hangs_624 rfl rfl ?_
            refine v_iconst (pc' := 626) C (3) dL_hangs_625 ic_3 rfl ?_
            refine v_calli (pc' := 629) C h (rf := fun r9 => r9) (wS g aD zD_56 ++ wF g aF zF_57) (fun r9 (u9 : Unit) => wQ aQ aT aN aV aD aF ++ wS g aN zN ++ wS g aD zD_56 ++ wF g aF zF_57) (fun r hr => run_V C (c_X5_total l g aQ aT aN aV aD aF _ _ r hr) gL_hangs_X5_total rfl nd_X5_total rfl rfl rfl rfl ⟨Nat.le_of_ble_eq_true rfl, Nat.le_of_ble_eq_true rfl⟩ ⟨Nat.le_of_ble_eq_true rfl, Nat.le_of_ble_eq_true rfl⟩ (Nat.le_of_ble_eq_true rfl) dL_hangs_626 rfl) [0, 1, 2, 3, 4] [5, 6, 7, 8, 9, 10, 11, 12] [8, 9, 10, 11, 12, 0, 1, 2, 3, 4, 5, 6, 7] rfl rfl rfl rfl (by decide) rfl (fun _ _ => rfl) (k' := 0) (n' := 0) rfl rfl rfl (fun r_67 _ _ h => ?_)
            refine v_aload_n (pc' := 630) C 0 dL_hangs_629 rfl rfl ?_
            refine v_iconst (pc' := 631) C (4) dL_hangs_630 ic_4 rfl ?_
            refine v_calli (pc' := 634) C h (rf := fun r9 => r9) (wS g aD zD_56 ++ wF g aF zF_57) (fun r9 (u9 : Unit) => wQ aQ aT aN aV aD aF ++ wS g aN zN ++ wS g aD zD_56 ++ wF g aF zF_57) (fun r hr => run_V C (c_X5_total l g aQ aT aN aV aD aF _ _ r hr) gL_hangs_X5_total rfl nd_X5_total rfl rfl rfl rfl ⟨Nat.le_of_ble_eq_true rfl, Nat.le_of_ble_eq_true rfl⟩ ⟨Nat.le_of_ble_eq_true rfl, Nat.le_of_ble_eq_true rfl⟩ (Nat.le_of_ble_eq_true rfl) dL_hangs_631 rfl) [0, 1, 2, 3, 4] [5, 6, 7, 8, 9, 10, 11, 12] [8, 9, 10, 11, 12, 0, 1, 2, 3, 4, 5, 6, 7] rfl rfl rfl rfl (by decide) rfl (fun _ _ => rfl) (k' := 0) (n' := 0) rfl rfl rfl (fun r_68 _ _ h => ?_)
            refine v_iadd (pc' := 635) C dL_hangs_634 rfl ?_
            refine v_icmp_gt C 642 638 h dL_hangs_635 (by decide) rfl (fun _ h => ?_) (fun _ h => ?_)
            · refine v_iconst (pc' := 643) C (0) dL_hangs_642 ic_0 rfl ?_
              exact v_zret (rf := fun (o9 : Int32 × St × Fm) => o9.1) (Wf := fun (o9 : Int32 × St × Fm) (u9 : Unit) => wQ aQ aT aN aV aD aF ++ wS g aN zN ++ wS g aD o9.2.1 ++ wF g aF o9.2.2) (ok := fun (o9 : Int32 × St × Fm) (u9 : Unit) => True) C Cr h hQ () trivial rfl rfl (Or.inl rfl) dL_hangs_643
            · refine v_iconst (pc' := 639) C (1) dL_hangs_638 ic_1 rfl ?_
              refine v_goto C (pc' := 643) dL_hangs_639 (by decide) ?_
              exact v_zret (rf := fun (o9 : Int32 × St × Fm) => o9.1) (Wf := fun (o9 : Int32 × St × Fm) (u9 : Unit) => wQ aQ aT aN aV aD aF ++ wS g aN zN ++ wS g aD o9.2.1 ++ wF g aF o9.2.2) (ok := fun (o9 : Int32 × St × Fm) (u9 : Unit) => True) C Cr h hQ () trivial rfl rfl (Or.inr rfl) dL_hangs_643
  have J563 : ∀ (v8_52 : Int32) (zD_53 : St) (zF_54 : Fm), f_L_hangs_J563 zN v8_52 zD_53 zF_54 = some o → V p l e rm_L_hangs s m args below meth c g 9 A 0 0 Q (wQ aQ aT aN aV aD aF ++ wS g aN zN ++ wS g aD zD_53 ++ wF g aF zF_54) [] [(0, .ref aQ), (8, .int v8_52)] 563 [] := by
    intro v8_52 zD_53 zF_54 h
    unfold f_L_hangs_J563 at h
    refine v_iconst (pc' := 564) C (0) dL_hangs_563 ic_0 rfl ?_
    exact J564 v8_52 zD_53 zF_54 (0 : Int32) h
  have J495 : ∀ (v2_75 : Int32) (v3_76 : Int32) (v8_77 : Int32) (zD_78 : St) (zF_79 : Fm), f_L_hangs_J495 zN v2_75 v3_76 v8_77 zD_78 zF_79 = some o → V p l e rm_L_hangs s m args below meth c g 9 A 0 0 Q (wQ aQ aT aN aV aD aF ++ wS g aN zN ++ wS g aD zD_78 ++ wF g aF zF_79) [] [(0, .ref aQ), (2, .int v2_75), (3, .int v3_76), (8, .int v8_77)] 495 [] := by
    intro v2_75 v3_76 v8_77 zD_78 zF_79 h
    unfold f_L_hangs_J495 at h
    refine v_iload_n (pc' := 496) C 1 dL_hangs_495 rfl rfl ?_
    refine v_iconst (pc' := 497) C (1) dL_hangs_496 ic_1 rfl ?_
    refine v_icmp_eq C 549 500 h dL_hangs_497 (by decide) rfl (fun _ h => ?_) (fun _ h => ?_)
    · refine v_iload_n (pc' := 550) C 1 dL_hangs_549 rfl rfl ?_
      refine v_iconst (pc' := 551) C (2) dL_hangs_550 ic_2 rfl ?_
      refine v_icmp_ne C 559 554 h dL_hangs_551 (by decide) rfl (fun _ h => ?_) (fun _ h => ?_)
      · refine v_iconst (pc' := 560) C (1) dL_hangs_559 ic_1 rfl ?_
        refine v_goto C (pc' := 564) dL_hangs_560 (by decide) ?_
        refine v_lv [0, 3] (lv' := [(0, .ref aQ), (8, .int v8_77)]) rfl ?_
        exact J564 v8_77 zD_78 zF_79 (1 : Int32) h
      · refine v_iload_n (pc' := 555) C 2 dL_hangs_554 rfl rfl ?_
        refine v_iconst (pc' := 556) C (1) dL_hangs_555 ic_1 rfl ?_
        refine v_icmp_ne C 563 559 h dL_hangs_556 (by decide) rfl (fun _ h => ?_) (fun _ h => ?_)
        · refine v_lv [0, 3] (lv' := [(0, .ref aQ), (8, .int v8_77)]) rfl ?_
          exact J563 v8_77 zD_78 zF_79 h
        · refine v_iconst (pc' := 560) C (1) dL_hangs_559 ic_1 rfl ?_
          refine v_goto C (pc' := 564) dL_hangs_560 (by decide) ?_
          refine v_lv [0, 3] (lv' := [(0, .ref aQ), (8, .int v8_77)]) rfl ?_
          exact J564 v8_77 zD_78 zF_79 (1 : Int32) h
    · refine v_aload_n (pc' := 501) C 0 dL_hangs_500 rfl rfl ?_
      refine v_calli (pc' := 504) C h (rf := fun r9 => r9.1) (wS g aD zD_78) (fun r9 (u9 : Unit) => wQ aQ aT aN aV aD aF ++ wS g aN zN ++ wS g aD zD_78 ++ wF g aF r9.2) (fun r hr => run_V C (c_X5_bestGuess l g aQ aT aN aV aD aF _ _ r hr) gL_hangs_X5_bestGuess rfl nd_X5_bestGuess rfl rfl rfl rfl ⟨Nat.le_of_ble_eq_true rfl, Nat.le_of_ble_eq_true rfl⟩ ⟨Nat.le_of_ble_eq_true rfl, Nat.le_of_ble_eq_true rfl⟩ (Nat.le_of_ble_eq_true rfl) dL_hangs_501 rfl) [0, 1, 2, 3, 4, 9, 10, 11, 12] [5, 6, 7, 8] [4, 5, 6, 7, 8, 0, 1, 2, 3, 9, 10, 11, 12] rfl rfl rfl rfl (by decide) rfl (fun _ _ => rfl) (k' := 0) (n' := 0) rfl rfl rfl (fun r_80 _ _ h => ?_)
      refine v_bipush (pc' := 506) C (-3) dL_hangs_504 bc_m3 rfl ?_
      refine v_icmp_ne C 563 509 h dL_hangs_506 (by decide) rfl (fun _ h => ?_) (fun _ h => ?_)
      · refine v_lv [0, 3] (lv' := [(0, .ref aQ), (8, .int v8_77)]) rfl ?_
        exact J563 v8_77 zD_78 r_80.2 h
      · refine v_aload_n (pc' := 510) C 0 dL_hangs_509 rfl rfl ?_
        refine v_calli (pc' := 513) C h (rf := fun r9 => r9.1) ([]) (fun r9 (u9 : Unit) => wQ aQ aT aN aV aD aF ++ wS g aN zN ++ wS g aD r9.2.1 ++ wF g aF r9.2.2) (fun r hr => run_V C (c_X5_missesAhead l g aQ aT aN aV aD aF _ _ _ r hr) gL_hangs_X5_missesAhead rfl nd_X5_missesAhead rfl rfl rfl rfl ⟨Nat.le_of_ble_eq_true rfl, Nat.le_of_ble_eq_true rfl⟩ ⟨Nat.le_of_ble_eq_true rfl, Nat.le_of_ble_eq_true rfl⟩ (Nat.le_of_ble_eq_true rfl) dL_hangs_510 rfl) [0, 1, 2, 3, 4, 5, 6, 7, 8, 9, 10, 11, 12] [] [0, 1, 2, 3, 4, 5, 6, 7, 8, 9, 10, 11, 12] rfl rfl rfl rfl (by decide) rfl (fun _ _ => rfl) (k' := 0) (n' := 0) rfl rfl rfl (fun r_81 _ _ h => ?_)
        refine v_bipush (pc' := 515) C (-3) dL_hangs_513 bc_m3 rfl ?_
        refine v_icmp_ne C 563 518 h dL_hangs_515 (by decide) rfl (fun _ h => ?_) (fun _ h => ?_)
        · refine v_lv [0, 3] (lv' := [(0, .ref aQ), (8, .int v8_77)]) rfl ?_
          exact J563 v8_77 r_81.2.1 r_81.2.2 h
        · refine v_aload_n (pc' := 519) C 0 dL_hangs_518 rfl rfl ?_
          refine v_calli (pc' := 522) C h (rf := fun r9 => r9) (wS g aD r_81.2.1 ++ wF g aF r_81.2.2) (fun r9 (u9 : Unit) => wQ aQ aT aN aV aD aF ++ wS g aN zN ++ wS g aD r_81.2.1 ++ wF g aF r_81.2.2) (fun r hr => run_V C (c_X5_sureLetters l g aQ aT aN aV aD aF _ r hr) gL_hangs_X5_sureLetters rfl nd_X5_sureLetters rfl rfl rfl rfl ⟨Nat.le_of_ble_eq_true rfl, Nat.le_of_ble_eq_true rfl⟩ ⟨Nat.le_of_ble_eq_true rfl, Nat.le_of_ble_eq_true rfl⟩ (Nat.le_of_ble_eq_true rfl) dL_hangs_519 rfl) [0, 1, 2, 3, 4] [5, 6, 7, 8, 9, 10, 11, 12] [8, 9, 10, 11, 12, 0, 1, 2, 3, 4, 5, 6, 7] rfl rfl rfl rfl (by decide) rfl (fun _ _ => rfl) (k' := 0) (n' := 0) rfl rfl rfl (fun r_82 _ _ h => ?_)
          refine v_bipush (pc' := 524) C (-3) dL_hangs_522 bc_m3 rfl ?_
          refine v_icmp_ne C 563 527 h dL_hangs_524 (by decide) rfl (fun _ h => ?_) (fun _ h => ?_)
          · refine v_lv [0, 3] (lv' := [(0, .ref aQ), (8, .int v8_77)]) rfl ?_
            exact J563 v8_77 r_81.2.1 r_81.2.2 h
          · refine v_aload_n (pc' := 528) C 0 dL_hangs_527 rfl rfl ?_
            refine v_bipush (pc' := 530) C (100) dL_hangs_528 bc_100 rfl ?_
            refine v_calli (pc' := 533) C h (rf := fun r9 => r9.1) (wS g aD r_81.2.1) (fun r9 (u9 : Unit) => wQ aQ aT aN aV aD aF ++ wS g aN zN ++ wS g aD r_81.2.1 ++ wF g aF r9.2) (fun r hr => run_V C (c_X5_families l g aQ aT aN aV aD aF _ _ _ r hr) gL_hangs_X5_families rfl nd_X5_families rfl rfl rfl rfl ⟨Nat.le_of_ble_eq_true rfl, Nat.le_of_ble_eq_true rfl⟩ ⟨Nat.le_of_ble_eq_true rfl, Nat.le_of_ble_eq_true rfl⟩ (Nat.le_of_ble_eq_true rfl) dL_hangs_530 rfl) [0, 1, 2, 3, 4, 9, 10, 11, 12] [5, 6, 7, 8] [4, 5, 6, 7, 8, 0, 1, 2, 3, 9, 10, 11, 12] rfl rfl rfl rfl (by decide) rfl (fun _ _ => rfl) (k' := 0) (n' := 0) rfl rfl rfl (fun r_83 _ _ h => ?_)
            refine v_bipush (pc' := 535) C (-3) dL_hangs_533 bc_m3 rfl ?_
            refine v_icmp_ne C 563 538 h dL_hangs_535 (by decide) rfl (fun _ h => ?_) (fun _ h => ?_)
            · refine v_lv [0, 3] (lv' := [(0, .ref aQ), (8, .int v8_77)]) rfl ?_
              exact J563 v8_77 r_81.2.1 r_83.2 h
            · refine v_aload_n (pc' := 539) C 0 dL_hangs_538 rfl rfl ?_
              refine v_bipush (pc' := 541) C (100) dL_hangs_539 bc_100 rfl ?_
              refine v_calli (pc' := 544) C h (rf := fun r9 => r9.1) (wS g aD r_81.2.1) (fun r9 (u9 : Unit) => wQ aQ aT aN aV aD aF ++ wS g aN zN ++ wS g aD r_81.2.1 ++ wF g aF r9.2) (fun r hr => run_V C (c_X5_spread l g aQ aT aN aV aD aF _ _ _ r hr) gL_hangs_X5_spread rfl nd_X5_spread rfl rfl rfl rfl ⟨Nat.le_of_ble_eq_true rfl, Nat.le_of_ble_eq_true rfl⟩ ⟨Nat.le_of_ble_eq_true rfl, Nat.le_of_ble_eq_true rfl⟩ (Nat.le_of_ble_eq_true rfl) dL_hangs_541 rfl) [0, 1, 2, 3, 4, 9, 10, 11, 12] [5, 6, 7, 8] [4, 5, 6, 7, 8, 0, 1, 2, 3, 9, 10, 11, 12] rfl rfl rfl rfl (by decide) rfl (fun _ _ => rfl) (k' := 0) (n' := 0) rfl rfl rfl (fun r_84 _ _ h => ?_)
              refine v_bipush (pc' := 546) C (-3) dL_hangs_544 bc_m3 rfl ?_
              refine v_icmp_ne C 563 549 h dL_hangs_546 (by decide) rfl (fun _ h => ?_) (fun _ h => ?_)
              · refine v_lv [0, 3] (lv' := [(0, .ref aQ), (8, .int v8_77)]) rfl ?_
                exact J563 v8_77 r_81.2.1 r_84.2 h
              · refine v_iload_n (pc' := 550) C 1 dL_hangs_549 rfl rfl ?_
                refine v_iconst (pc' := 551) C (2) dL_hangs_550 ic_2 rfl ?_
                refine v_icmp_ne C 559 554 h dL_hangs_551 (by decide) rfl (fun _ h => ?_) (fun _ h => ?_)
                · refine v_iconst (pc' := 560) C (1) dL_hangs_559 ic_1 rfl ?_
                  refine v_goto C (pc' := 564) dL_hangs_560 (by decide) ?_
                  refine v_lv [0, 3] (lv' := [(0, .ref aQ), (8, .int v8_77)]) rfl ?_
                  exact J564 v8_77 r_81.2.1 r_84.2 (1 : Int32) h
                · refine v_iload_n (pc' := 555) C 2 dL_hangs_554 rfl rfl ?_
                  refine v_iconst (pc' := 556) C (1) dL_hangs_555 ic_1 rfl ?_
                  refine v_icmp_ne C 563 559 h dL_hangs_556 (by decide) rfl (fun _ h => ?_) (fun _ h => ?_)
                  · refine v_lv [0, 3] (lv' := [(0, .ref aQ), (8, .int v8_77)]) rfl ?_
                    exact J563 v8_77 r_81.2.1 r_84.2 h
                  · refine v_iconst (pc' := 560) C (1) dL_hangs_559 ic_1 rfl ?_
                    refine v_goto C (pc' := 564) dL_hangs_560 (by decide) ?_
                    refine v_lv [0, 3] (lv' := [(0, .ref aQ), (8, .int v8_77)]) rfl ?_
                    exact J564 v8_77 r_81.2.1 r_84.2 (1 : Int32) h
  have J449 : ∀ (v2_70 : Int32) (v3_71 : Int32) (v8_72 : Int32) (zD_73 : St) (zF_74 : Fm), f_L_hangs_J449 zN v2_70 v3_71 v8_72 zD_73 zF_74 = some o → V p l e rm_L_hangs s m args below meth c g 9 A 0 0 Q (wQ aQ aT aN aV aD aF ++ wS g aN zN ++ wS g aD zD_73 ++ wF g aF zF_74) [] [(0, .ref aQ), (2, .int v2_70), (3, .int v3_71), (8, .int v8_72)] 449 [] := by
    intro v2_70 v3_71 v8_72 zD_73 zF_74 h
    unfold f_L_hangs_J449 at h
    refine v_iload_n (pc' := 450) C 1 dL_hangs_449 rfl rfl ?_
    refine v_iconst (pc' := 451) C (1) dL_hangs_450 ic_1 rfl ?_
    refine v_icmp_ne C 495 454 h dL_hangs_451 (by decide) rfl (fun _ h => ?_) (fun _ h => ?_)
    · exact J495 v2_70 v3_71 v8_72 zD_73 zF_74 h
    · refine v_aload_n (pc' := 455) C 0 dL_hangs_454 rfl rfl ?_
      refine v_calli (pc' := 458) C h (rf := fun r9 => r9) (wS g aD zD_73 ++ wF g aF zF_74) (fun r9 (u9 : Unit) => wQ aQ aT aN aV aD aF ++ wS g aN zN ++ wS g aD zD_73 ++ wF g aF zF_74) (fun r hr => run_V C (c_X5_lives l g aQ aT aN aV aD aF _ r hr) gL_hangs_X5_lives rfl nd_X5_lives rfl rfl rfl rfl ⟨Nat.le_of_ble_eq_true rfl, Nat.le_of_ble_eq_true rfl⟩ ⟨Nat.le_of_ble_eq_true rfl, Nat.le_of_ble_eq_true rfl⟩ (Nat.le_of_ble_eq_true rfl) dL_hangs_455 rfl) [0, 1, 2, 3, 4] [5, 6, 7, 8, 9, 10, 11, 12] [8, 9, 10, 11, 12, 0, 1, 2, 3, 4, 5, 6, 7] rfl rfl rfl rfl (by decide) rfl (fun _ _ => rfl) (k' := 0) (n' := 0) rfl rfl rfl (fun r_85 _ _ h => ?_)
      refine v_if_le C 563 461 h dL_hangs_458 (by decide) rfl (fun _ h => ?_) (fun _ h => ?_)
      · refine v_lv [0, 3] (lv' := [(0, .ref aQ), (8, .int v8_72)]) rfl ?_
        exact J563 v8_72 zD_73 zF_74 h
      · refine v_aload_n (pc' := 462) C 0 dL_hangs_461 rfl rfl ?_
        refine v_calli (pc' := 465) C h (rf := fun r9 => r9.1) (wS g aD zD_73) (fun r9 (u9 : Unit) => wQ aQ aT aN aV aD aF ++ wS g aN zN ++ wS g aD zD_73 ++ wF g aF r9.2) (fun r hr => run_V C (c_X5_bestGuess l g aQ aT aN aV aD aF _ _ r hr) gL_hangs_X5_bestGuess rfl nd_X5_bestGuess rfl rfl rfl rfl ⟨Nat.le_of_ble_eq_true rfl, Nat.le_of_ble_eq_true rfl⟩ ⟨Nat.le_of_ble_eq_true rfl, Nat.le_of_ble_eq_true rfl⟩ (Nat.le_of_ble_eq_true rfl) dL_hangs_462 rfl) [0, 1, 2, 3, 4, 9, 10, 11, 12] [5, 6, 7, 8] [4, 5, 6, 7, 8, 0, 1, 2, 3, 9, 10, 11, 12] rfl rfl rfl rfl (by decide) rfl (fun _ _ => rfl) (k' := 0) (n' := 0) rfl rfl rfl (fun r_86 _ _ h => ?_)
        refine v_bipush (pc' := 467) C (96) dL_hangs_465 bc_96 rfl ?_
        refine v_icmp_le C 563 470 h dL_hangs_467 (by decide) rfl (fun _ h => ?_) (fun _ h => ?_)
        · refine v_lv [0, 3] (lv' := [(0, .ref aQ), (8, .int v8_72)]) rfl ?_
          exact J563 v8_72 zD_73 r_86.2 h
        · refine v_aload_n (pc' := 471) C 0 dL_hangs_470 rfl rfl ?_
          refine v_calli (pc' := 474) C h (rf := fun r9 => r9.1) ([]) (fun r9 (u9 : Unit) => wQ aQ aT aN aV aD aF ++ wS g aN zN ++ wS g aD r9.2.1 ++ wF g aF r9.2.2) (fun r hr => run_V C (c_X5_missesAhead l g aQ aT aN aV aD aF _ _ _ r hr) gL_hangs_X5_missesAhead rfl nd_X5_missesAhead rfl rfl rfl rfl ⟨Nat.le_of_ble_eq_true rfl, Nat.le_of_ble_eq_true rfl⟩ ⟨Nat.le_of_ble_eq_true rfl, Nat.le_of_ble_eq_true rfl⟩ (Nat.le_of_ble_eq_true rfl) dL_hangs_471 rfl) [0, 1, 2, 3, 4, 5, 6, 7, 8, 9, 10, 11, 12] [] [0, 1, 2, 3, 4, 5, 6, 7, 8, 9, 10, 11, 12] rfl rfl rfl rfl (by decide) rfl (fun _ _ => rfl) (k' := 0) (n' := 0) rfl rfl rfl (fun r_87 _ _ h => ?_)
          refine v_aload_n (pc' := 475) C 0 dL_hangs_474 rfl rfl ?_
          refine v_calli (pc' := 478) C h (rf := fun r9 => r9) (wS g aD r_87.2.1 ++ wF g aF r_87.2.2) (fun r9 (u9 : Unit) => wQ aQ aT aN aV aD aF ++ wS g aN zN ++ wS g aD r_87.2.1 ++ wF g aF r_87.2.2) (fun r hr => run_V C (c_X5_lives l g aQ aT aN aV aD aF _ r hr) gL_hangs_X5_lives rfl nd_X5_lives rfl rfl rfl rfl ⟨Nat.le_of_ble_eq_true rfl, Nat.le_of_ble_eq_true rfl⟩ ⟨Nat.le_of_ble_eq_true rfl, Nat.le_of_ble_eq_true rfl⟩ (Nat.le_of_ble_eq_true rfl) dL_hangs_475 rfl) [0, 1, 2, 3, 4] [5, 6, 7, 8, 9, 10, 11, 12] [8, 9, 10, 11, 12, 0, 1, 2, 3, 4, 5, 6, 7] rfl rfl rfl rfl (by decide) rfl (fun _ _ => rfl) (k' := 0) (n' := 0) rfl rfl rfl (fun r_88 _ _ h => ?_)
          refine v_icmp_gt C 563 481 h dL_hangs_478 (by decide) rfl (fun _ h => ?_) (fun _ h => ?_)
          · refine v_lv [0, 3] (lv' := [(0, .ref aQ), (8, .int v8_72)]) rfl ?_
            exact J563 v8_72 r_87.2.1 r_87.2.2 h
          · refine v_aload_n (pc' := 482) C 0 dL_hangs_481 rfl rfl ?_
            refine v_calli (pc' := 485) C h (rf := fun r9 => r9.1) ([]) (fun r9 (u9 : Unit) => wQ aQ aT aN aV aD aF ++ wS g aN zN ++ wS g aD r9.2.1 ++ wF g aF r9.2.2) (fun r hr => run_V C (c_X5_missesAhead l g aQ aT aN aV aD aF _ _ _ r hr) gL_hangs_X5_missesAhead rfl nd_X5_missesAhead rfl rfl rfl rfl ⟨Nat.le_of_ble_eq_true rfl, Nat.le_of_ble_eq_true rfl⟩ ⟨Nat.le_of_ble_eq_true rfl, Nat.le_of_ble_eq_true rfl⟩ (Nat.le_of_ble_eq_true rfl) dL_hangs_482 rfl) [0, 1, 2, 3, 4, 5, 6, 7, 8, 9, 10, 11, 12] [] [0, 1, 2, 3, 4, 5, 6, 7, 8, 9, 10, 11, 12] rfl rfl rfl rfl (by decide) rfl (fun _ _ => rfl) (k' := 0) (n' := 0) rfl rfl rfl (fun r_89 _ _ h => ?_)
            refine v_if_lt C 563 488 h dL_hangs_485 (by decide) rfl (fun _ h => ?_) (fun _ h => ?_)
            · refine v_lv [0, 3] (lv' := [(0, .ref aQ), (8, .int v8_72)]) rfl ?_
              exact J563 v8_72 r_89.2.1 r_89.2.2 h
            · refine v_aload_n (pc' := 489) C 0 dL_hangs_488 rfl rfl ?_
              refine v_calli (pc' := 492) C h (rf := fun r9 => r9) (wS g aD r_89.2.1 ++ wF g aF r_89.2.2) (fun r9 (u9 : Unit) => wQ aQ aT aN aV aD aF ++ wS g aN zN ++ wS g aD r_89.2.1 ++ wF g aF r_89.2.2) (fun r hr => run_V C (c_X5_sureLetters l g aQ aT aN aV aD aF _ r hr) gL_hangs_X5_sureLetters rfl nd_X5_sureLetters rfl rfl rfl rfl ⟨Nat.le_of_ble_eq_true rfl, Nat.le_of_ble_eq_true rfl⟩ ⟨Nat.le_of_ble_eq_true rfl, Nat.le_of_ble_eq_true rfl⟩ (Nat.le_of_ble_eq_true rfl) dL_hangs_489 rfl) [0, 1, 2, 3, 4] [5, 6, 7, 8, 9, 10, 11, 12] [8, 9, 10, 11, 12, 0, 1, 2, 3, 4, 5, 6, 7] rfl rfl rfl rfl (by decide) rfl (fun _ _ => rfl) (k' := 0) (n' := 0) rfl rfl rfl (fun r_90 _ _ h => ?_)
              refine v_if_lt C 563 495 h dL_hangs_492 (by decide) rfl (fun _ h => ?_) (fun _ h => ?_)
              · refine v_lv [0, 3] (lv' := [(0, .ref aQ), (8, .int v8_72)]) rfl ?_
                exact J563 v8_72 r_89.2.1 r_89.2.2 h
              · exact J495 v2_70 v3_71 v8_72 r_89.2.1 r_89.2.2 h
  have J382 : ∀ (v2_45 : Int32) (v3_46 : Int32) (v4_47 : Int32) (v5_48 : Int32) (zD_49 : St) (zF_50 : Fm) (s0_51 : Int32), f_L_hangs_J382 zN v2_45 v3_46 v4_47 v5_48 zD_49 zF_50 s0_51 = some o → V p l e rm_L_hangs s m args below meth c g 9 A 0 0 Q (wQ aQ aT aN aV aD aF ++ wS g aN zN ++ wS g aD zD_49 ++ wF g aF zF_50) [] [(0, .ref aQ), (2, .int v2_45), (3, .int v3_46), (4, .int v4_47), (5, .int v5_48)] 382 [.int s0_51] := by
    intro v2_45 v3_46 v4_47 v5_48 zD_49 zF_50 s0_51 h
    unfold f_L_hangs_J382 at h
    refine v_istore (pc' := 384) C [1, 2, 3, 4, 5, 0] (lv' := [(0, .ref aQ), (2, .int v2_45), (3, .int v3_46), (4, .int v4_47), (5, .int v5_48), (8, .int s0_51)]) dL_hangs_382 (Nat.le_of_ble_eq_true rfl) rfl rfl ?_
    refine v_iload (pc' := 386) C 3 dL_hangs_384 rfl rfl ?_
    refine v_if_eq C 563 389 h dL_hangs_386 (by decide) rfl (fun _ h => ?_) (fun _ h => ?_)
    · refine v_lv [0, 5] (lv' := [(0, .ref aQ), (8, .int s0_51)]) rfl ?_
      exact J563 s0_51 zD_49 zF_50 h
    · refine v_iload_n (pc' := 390) C 1 dL_hangs_389 rfl rfl ?_
      refine v_if_ne C 430 393 h dL_hangs_390 (by decide) rfl (fun _ h => ?_) (fun _ h => ?_)
      · refine v_iload (pc' := 432) C 4 dL_hangs_430 rfl rfl ?_
        refine v_iconst (pc' := 433) C (1) dL_hangs_432 ic_1 rfl ?_
        refine v_icmp_le C 563 436 h dL_hangs_433 (by decide) rfl (fun _ h => ?_) (fun _ h => ?_)
        · refine v_lv [0, 5] (lv' := [(0, .ref aQ), (8, .int s0_51)]) rfl ?_
          exact J563 s0_51 zD_49 zF_50 h
        · refine v_iload_n (pc' := 437) C 2 dL_hangs_436 rfl rfl ?_
          refine v_if_le C 563 440 h dL_hangs_437 (by decide) rfl (fun _ h => ?_) (fun _ h => ?_)
          · refine v_lv [0, 5] (lv' := [(0, .ref aQ), (8, .int s0_51)]) rfl ?_
            exact J563 s0_51 zD_49 zF_50 h
          · refine v_aload_n (pc' := 441) C 0 dL_hangs_440 rfl rfl ?_
            refine v_bipush (pc' := 443) C (97) dL_hangs_441 bc_97 rfl ?_
            refine v_calli (pc' := 446) C h (rf := fun r9 => r9) (wS g aD zD_49 ++ wF g aF zF_50) (fun r9 (u9 : Unit) => wQ aQ aT aN aV aD aF ++ wS g aN zN ++ wS g aD zD_49 ++ wF g aF zF_50) (fun r hr => run_V C (c_X5_having l g aQ aT aN aV aD aF _ _ r hr) gL_hangs_X5_having rfl nd_X5_having rfl rfl rfl rfl ⟨Nat.le_of_ble_eq_true rfl, Nat.le_of_ble_eq_true rfl⟩ ⟨Nat.le_of_ble_eq_true rfl, Nat.le_of_ble_eq_true rfl⟩ (Nat.le_of_ble_eq_true rfl) dL_hangs_443 rfl) [0, 1, 2, 3, 4] [5, 6, 7, 8, 9, 10, 11, 12] [8, 9, 10, 11, 12, 0, 1, 2, 3, 4, 5, 6, 7] rfl rfl rfl rfl (by decide) rfl (fun _ _ => rfl) (k' := 0) (n' := 0) rfl rfl rfl (fun r_69 _ _ h => ?_)
            refine v_if_lt C 563 449 h dL_hangs_446 (by decide) rfl (fun _ h => ?_) (fun _ h => ?_)
            · refine v_lv [0, 5] (lv' := [(0, .ref aQ), (8, .int s0_51)]) rfl ?_
              exact J563 s0_51 zD_49 zF_50 h
            · refine v_lv [0, 1, 2, 5] (lv' := [(0, .ref aQ), (2, .int v2_45), (3, .int v3_46), (8, .int s0_51)]) rfl ?_
              exact J449 v2_45 v3_46 s0_51 zD_49 zF_50 h
      · refine v_iload (pc' := 395) C 4 dL_hangs_393 rfl rfl ?_
        refine v_if_ne C 563 398 h dL_hangs_395 (by decide) rfl (fun _ h => ?_) (fun _ h => ?_)
        · refine v_lv [0, 5] (lv' := [(0, .ref aQ), (8, .int s0_51)]) rfl ?_
          exact J563 s0_51 zD_49 zF_50 h
        · refine v_iload_n (pc' := 399) C 2 dL_hangs_398 rfl rfl ?_
          refine v_if_ne C 563 402 h dL_hangs_399 (by decide) rfl (fun _ h => ?_) (fun _ h => ?_)
          · refine v_lv [0, 5] (lv' := [(0, .ref aQ), (8, .int s0_51)]) rfl ?_
            exact J563 s0_51 zD_49 zF_50 h
          · refine v_aload_n (pc' := 403) C 0 dL_hangs_402 rfl rfl ?_
            refine v_calli (pc' := 406) C h (rf := fun r9 => r9) (wS g aD zD_49 ++ wF g aF zF_50) (fun r9 (u9 : Unit) => wQ aQ aT aN aV aD aF ++ wS g aN zN ++ wS g aD zD_49 ++ wF g aF zF_50) (fun r hr => run_V C (c_X5_guesses l g aQ aT aN aV aD aF _ r hr) gL_hangs_X5_guesses rfl nd_X5_guesses rfl rfl rfl rfl ⟨Nat.le_of_ble_eq_true rfl, Nat.le_of_ble_eq_true rfl⟩ ⟨Nat.le_of_ble_eq_true rfl, Nat.le_of_ble_eq_true rfl⟩ (Nat.le_of_ble_eq_true rfl) dL_hangs_403 rfl) [0, 1, 2, 3, 4] [5, 6, 7, 8, 9, 10, 11, 12] [8, 9, 10, 11, 12, 0, 1, 2, 3, 4, 5, 6, 7] rfl rfl rfl rfl (by decide) rfl (fun _ _ => rfl) (k' := 0) (n' := 0) rfl rfl rfl (fun r_91 _ _ h => ?_)
            refine v_if_ne C 563 409 h dL_hangs_406 (by decide) rfl (fun _ h => ?_) (fun _ h => ?_)
            · refine v_lv [0, 5] (lv' := [(0, .ref aQ), (8, .int s0_51)]) rfl ?_
              exact J563 s0_51 zD_49 zF_50 h
            · refine v_aload_n (pc' := 410) C 0 dL_hangs_409 rfl rfl ?_
              refine v_calli (pc' := 413) C h (rf := fun r9 => r9) (wS g aD zD_49 ++ wF g aF zF_50) (fun r9 (u9 : Unit) => wQ aQ aT aN aV aD aF ++ wS g aN zN ++ wS g aD zD_49 ++ wF g aF zF_50) (fun r hr => run_V C (c_X5_lives l g aQ aT aN aV aD aF _ r hr) gL_hangs_X5_lives rfl nd_X5_lives rfl rfl rfl rfl ⟨Nat.le_of_ble_eq_true rfl, Nat.le_of_ble_eq_true rfl⟩ ⟨Nat.le_of_ble_eq_true rfl, Nat.le_of_ble_eq_true rfl⟩ (Nat.le_of_ble_eq_true rfl) dL_hangs_410 rfl) [0, 1, 2, 3, 4] [5, 6, 7, 8, 9, 10, 11, 12] [8, 9, 10, 11, 12, 0, 1, 2, 3, 4, 5, 6, 7] rfl rfl rfl rfl (by decide) rfl (fun _ _ => rfl) (k' := 0) (n' := 0) rfl rfl rfl (fun r_92 _ _ h => ?_)
              refine v_if_ne C 563 416 h dL_hangs_413 (by decide) rfl (fun _ h => ?_) (fun _ h => ?_)
              · refine v_lv [0, 5] (lv' := [(0, .ref aQ), (8, .int s0_51)]) rfl ?_
                exact J563 s0_51 zD_49 zF_50 h
              · refine v_aload_n (pc' := 417) C 0 dL_hangs_416 rfl rfl ?_
                refine v_bipush (pc' := 419) C (97) dL_hangs_417 bc_97 rfl ?_
                refine v_calli (pc' := 422) C h (rf := fun r9 => r9) (wS g aD zD_49 ++ wF g aF zF_50) (fun r9 (u9 : Unit) => wQ aQ aT aN aV aD aF ++ wS g aN zN ++ wS g aD zD_49 ++ wF g aF zF_50) (fun r hr => run_V C (c_X5_having l g aQ aT aN aV aD aF _ _ r hr) gL_hangs_X5_having rfl nd_X5_having rfl rfl rfl rfl ⟨Nat.le_of_ble_eq_true rfl, Nat.le_of_ble_eq_true rfl⟩ ⟨Nat.le_of_ble_eq_true rfl, Nat.le_of_ble_eq_true rfl⟩ (Nat.le_of_ble_eq_true rfl) dL_hangs_419 rfl) [0, 1, 2, 3, 4] [5, 6, 7, 8, 9, 10, 11, 12] [8, 9, 10, 11, 12, 0, 1, 2, 3, 4, 5, 6, 7] rfl rfl rfl rfl (by decide) rfl (fun _ _ => rfl) (k' := 0) (n' := 0) rfl rfl rfl (fun r_93 _ _ h => ?_)
                refine v_bipush (pc' := 424) C (-3) dL_hangs_422 bc_m3 rfl ?_
                refine v_icmp_ne C 563 427 h dL_hangs_424 (by decide) rfl (fun _ h => ?_) (fun _ h => ?_)
                · refine v_lv [0, 5] (lv' := [(0, .ref aQ), (8, .int s0_51)]) rfl ?_
                  exact J563 s0_51 zD_49 zF_50 h
                · refine v_goto C (pc' := 449) dL_hangs_427 (by decide) ?_
                  refine v_lv [0, 1, 2, 5] (lv' := [(0, .ref aQ), (2, .int v2_45), (3, .int v3_46), (8, .int s0_51)]) rfl ?_
                  exact J449 v2_45 v3_46 s0_51 zD_49 zF_50 h
  have J298 : ∀ (v1_35 : Int32) (v2_36 : Int32) (v3_37 : Int32) (v4_38 : Int32) (v5_39 : Int32) (zD_40 : St) (zF_41 : Fm), f_L_hangs_J298 zN v1_35 v2_36 v3_37 v4_38 v5_39 zD_40 zF_41 = some o → V p l e rm_L_hangs s m args below meth c g 9 A 0 0 Q (wQ aQ aT aN aV aD aF ++ wS g aN zN ++ wS g aD zD_40 ++ wF g aF zF_41) [] [(0, .ref aQ), (1, .int v1_35), (2, .int v2_36), (3, .int v3_37), (4, .int v4_38), (5, .int v5_39)] 298 [] := by
    intro v1_35 v2_36 v3_37 v4_38 v5_39 zD_40 zF_41 h
    unfold f_L_hangs_J298 at h
    refine v_iconst (pc' := 299) C (-1) dL_hangs_298 ic_m1 rfl ?_
    refine v_istore (pc' := 301) C [1, 2, 3, 4, 5, 6, 0] (lv' := [(0, .ref aQ), (1, .int v1_35), (2, .int v2_36), (3, .int v3_37), (4, .int v4_38), (5, .int v5_39), (7, .int (-1 : Int32))]) dL_hangs_299 (Nat.le_of_ble_eq_true rfl) rfl rfl ?_
    refine v_iconst (pc' := 302) C (0) dL_hangs_301 ic_0 rfl ?_
    refine v_istore (pc' := 304) C [1, 2, 3, 4, 5, 6, 7, 0] (lv' := [(0, .ref aQ), (1, .int v1_35), (2, .int v2_36), (3, .int v3_37), (4, .int v4_38), (5, .int v5_39), (7, .int (-1 : Int32)), (8, .int (0 : Int32))]) dL_hangs_302 (Nat.le_of_ble_eq_true rfl) rfl rfl ?_
    refine v_loop3 (fun (v4_42 : Int32) (v7_43 : Int32) (v8_44 : Int32) => V p l e rm_L_hangs s m args below meth c g 9 A 0 0 Q (wQ aQ aT aN aV aD aF ++ wS g aN zN ++ wS g aD zD_40 ++ wF g aF zF_41) [] [(0, .ref aQ), (1, .int v1_35), (2, .int v2_36), (3, .int v3_37), (4, .int v4_42), (5, .int v5_39), (7, .int v7_43), (8, .int v8_44)] 304 []) (fun re304 ih304 v4_42 v7_43 v8_44 h => ?_) v4_38 (-1 : Int32) (0 : Int32) h
    unfold f_L_hangs_L304 at h
    have J355 : ∀ (v8_95 : Int32), f_L_hangs_J355 zN re304 v8_95 = some o → V p l e rm_L_hangs s m args below meth c g 9 A 0 0 Q (wQ aQ aT aN aV aD aF ++ wS g aN zN ++ wS g aD zD_40 ++ wF g aF zF_41) [] [(0, .ref aQ), (1, .int v1_35), (2, .int v2_36), (3, .int v3_37), (5, .int v5_39), (8, .int v8_95)] 355 [] := by
      intro v8_95 h
      unfold f_L_hangs_J355 at h
      refine v_iconst (pc' := 356) C (0) dL_hangs_355 ic_0 rfl ?_
      refine v_istore (pc' := 358) C [1, 2, 3, 4, 0, 5, 6] (lv' := [(0, .ref aQ), (1, .int v1_35), (2, .int v2_36), (3, .int v3_37), (4, .int (0 : Int32)), (5, .int v5_39), (8, .int v8_95)]) dL_hangs_356 (Nat.le_of_ble_eq_true rfl) rfl rfl ?_
      refine v_aload_n (pc' := 359) C 0 dL_hangs_358 rfl rfl ?_
      refine v_iload (pc' := 361) C 6 dL_hangs_359 rfl rfl ?_
      refine v_calli (pc' := 364) C h (rf := fun r9 => r9) (wS g aD zD_40 ++ wF g aF zF_41) (fun r9 (u9 : Unit) => wQ aQ aT aN aV aD aF ++ wS g aN zN ++ wS g aD zD_40 ++ wF g aF zF_41) (fun r hr => run_V C (c_X5_candidate l g aQ aT aN aV aD aF _ _ r hr) gL_hangs_X5_candidate rfl nd_X5_candidate rfl rfl rfl rfl ⟨Nat.le_of_ble_eq_true rfl, Nat.le_of_ble_eq_true rfl⟩ ⟨Nat.le_of_ble_eq_true rfl, Nat.le_of_ble_eq_true rfl⟩ (Nat.le_of_ble_eq_true rfl) dL_hangs_361 rfl) [0, 1, 2, 3, 4] [5, 6, 7, 8, 9, 10, 11, 12] [8, 9, 10, 11, 12, 0, 1, 2, 3, 4, 5, 6, 7] rfl rfl rfl rfl (by decide) rfl (fun _ _ => rfl) (k' := 0) (n' := 0) rfl rfl rfl (fun r_96 _ _ h => ?_)
      refine v_istore (pc' := 366) C [1, 2, 3, 4, 5, 6, 0, 7] (lv' := [(0, .ref aQ), (1, .int v1_35), (2, .int v2_36), (3, .int v3_37), (4, .int (0 : Int32)), (5, .int v5_39), (7, .int r_96), (8, .int v8_95)]) dL_hangs_364 (Nat.le_of_ble_eq_true rfl) rfl rfl ?_
      refine v_iinc (pc' := 369) C 7 [1, 2, 3, 4, 5, 6, 7, 0] (1) dL_hangs_366 rfl ic_1 (Nat.le_of_ble_eq_true rfl) h (lw := fun v9 => [(0, .ref aQ), (1, .int v1_35), (2, .int v2_36), (3, .int v3_37), (4, .int (0 : Int32)), (5, .int v5_39), (7, .int r_96), (8, .int v9)]) (fun _ => rfl) rfl (fun v8_97 h => ?_)
      refine v_goto C (pc' := 304) dL_hangs_369 (by decide) ?_
      exact ih304 (0 : Int32) r_96 v8_97 h
    refine v_iload (pc' := 306) C 7 dL_hangs_304 rfl rfl ?_
    refine v_iload_n (pc' := 307) C 3 dL_hangs_306 rfl rfl ?_
    refine v_icmp_ge C 372 310 h dL_hangs_307 (by decide) rfl (fun _ h => ?_) (fun _ h => ?_)
    · refine v_iload_n (pc' := 373) C 2 dL_hangs_372 rfl rfl ?_
      refine v_iconst (pc' := 374) C (1) dL_hangs_373 ic_1 rfl ?_
      refine v_icmp_ne C 381 377 h dL_hangs_374 (by decide) rfl (fun _ h => ?_) (fun _ h => ?_)
      · refine v_iconst (pc' := 382) C (0) dL_hangs_381 ic_0 rfl ?_
        refine v_lv [0, 2, 3, 4, 5] (lv' := [(0, .ref aQ), (2, .int v2_36), (3, .int v3_37), (4, .int v4_42), (5, .int v5_39)]) rfl ?_
        exact J382 v2_36 v3_37 v4_42 v5_39 zD_40 zF_41 (0 : Int32) h
      · refine v_iconst (pc' := 378) C (1) dL_hangs_377 ic_1 rfl ?_
        refine v_goto C (pc' := 382) dL_hangs_378 (by decide) ?_
        refine v_lv [0, 2, 3, 4, 5] (lv' := [(0, .ref aQ), (2, .int v2_36), (3, .int v3_37), (4, .int v4_42), (5, .int v5_39)]) rfl ?_
        exact J382 v2_36 v3_37 v4_42 v5_39 zD_40 zF_41 (1 : Int32) h
    · refine v_iload (pc' := 312) C 4 dL_hangs_310 rfl rfl ?_
      refine v_if_eq C 372 315 h dL_hangs_312 (by decide) rfl (fun _ h => ?_) (fun _ h => ?_)
      · refine v_iload_n (pc' := 373) C 2 dL_hangs_372 rfl rfl ?_
        refine v_iconst (pc' := 374) C (1) dL_hangs_373 ic_1 rfl ?_
        refine v_icmp_ne C 381 377 h dL_hangs_374 (by decide) rfl (fun _ h => ?_) (fun _ h => ?_)
        · refine v_iconst (pc' := 382) C (0) dL_hangs_381 ic_0 rfl ?_
          refine v_lv [0, 2, 3, 4, 5] (lv' := [(0, .ref aQ), (2, .int v2_36), (3, .int v3_37), (4, .int v4_42), (5, .int v5_39)]) rfl ?_
          exact J382 v2_36 v3_37 v4_42 v5_39 zD_40 zF_41 (0 : Int32) h
        · refine v_iconst (pc' := 378) C (1) dL_hangs_377 ic_1 rfl ?_
          refine v_goto C (pc' := 382) dL_hangs_378 (by decide) ?_
          refine v_lv [0, 2, 3, 4, 5] (lv' := [(0, .ref aQ), (2, .int v2_36), (3, .int v3_37), (4, .int v4_42), (5, .int v5_39)]) rfl ?_
          exact J382 v2_36 v3_37 v4_42 v5_39 zD_40 zF_41 (1 : Int32) h
      · refine v_aload_n (pc' := 316) C 0 dL_hangs_315 rfl rfl ?_
        refine v_iload (pc' := 318) C 7 dL_hangs_316 rfl rfl ?_
        refine v_calli (pc' := 321) C h (rf := fun r9 => r9) (wS g aD zD_40 ++ wF g aF zF_41) (fun r9 (u9 : Unit) => wQ aQ aT aN aV aD aF ++ wS g aN zN ++ wS g aD zD_40 ++ wF g aF zF_41) (fun r hr => run_V C (c_X5_candidate l g aQ aT aN aV aD aF _ _ r hr) gL_hangs_X5_candidate rfl nd_X5_candidate rfl rfl rfl rfl ⟨Nat.le_of_ble_eq_true rfl, Nat.le_of_ble_eq_true rfl⟩ ⟨Nat.le_of_ble_eq_true rfl, Nat.le_of_ble_eq_true rfl⟩ (Nat.le_of_ble_eq_true rfl) dL_hangs_318 rfl) [0, 1, 2, 3, 4] [5, 6, 7, 8, 9, 10, 11, 12] [8, 9, 10, 11, 12, 0, 1, 2, 3, 4, 5, 6, 7] rfl rfl rfl rfl (by decide) rfl (fun _ _ => rfl) (k' := 0) (n' := 0) rfl rfl rfl (fun r_94 _ _ h => ?_)
        refine v_iload (pc' := 323) C 6 dL_hangs_321 rfl rfl ?_
        refine v_icmp_le C 355 326 h dL_hangs_323 (by decide) rfl (fun _ h => ?_) (fun _ h => ?_)
        · refine v_lv [0, 1, 2, 3, 5, 7] (lv' := [(0, .ref aQ), (1, .int v1_35), (2, .int v2_36), (3, .int v3_37), (5, .int v5_39), (8, .int v8_44)]) rfl ?_
          exact J355 v8_44 h
        · refine v_aload_n (pc' := 327) C 0 dL_hangs_326 rfl rfl ?_
          refine v_iload (pc' := 329) C 7 dL_hangs_327 rfl rfl ?_
          refine v_calli (pc' := 332) C h (rf := fun r9 => r9) (wS g aD zD_40 ++ wF g aF zF_41) (fun r9 (u9 : Unit) => wQ aQ aT aN aV aD aF ++ wS g aN zN ++ wS g aD zD_40 ++ wF g aF zF_41) (fun r hr => run_V C (c_X5_candidate l g aQ aT aN aV aD aF _ _ r hr) gL_hangs_X5_candidate rfl nd_X5_candidate rfl rfl rfl rfl ⟨Nat.le_of_ble_eq_true rfl, Nat.le_of_ble_eq_true rfl⟩ ⟨Nat.le_of_ble_eq_true rfl, Nat.le_of_ble_eq_true rfl⟩ (Nat.le_of_ble_eq_true rfl) dL_hangs_329 rfl) [0, 1, 2, 3, 4] [5, 6, 7, 8, 9, 10, 11, 12] [8, 9, 10, 11, 12, 0, 1, 2, 3, 4, 5, 6, 7] rfl rfl rfl rfl (by decide) rfl (fun _ _ => rfl) (k' := 0) (n' := 0) rfl rfl rfl (fun r_98 _ _ h => ?_)
          refine v_iload_n (pc' := 333) C 1 dL_hangs_332 rfl rfl ?_
          refine v_icmp_ge C 355 336 h dL_hangs_333 (by decide) rfl (fun _ h => ?_) (fun _ h => ?_)
          · refine v_lv [0, 1, 2, 3, 5, 7] (lv' := [(0, .ref aQ), (1, .int v1_35), (2, .int v2_36), (3, .int v3_37), (5, .int v5_39), (8, .int v8_44)]) rfl ?_
            exact J355 v8_44 h
          · refine v_aload_n (pc' := 337) C 0 dL_hangs_336 rfl rfl ?_
            refine v_aload_n (pc' := 338) C 0 dL_hangs_337 rfl rfl ?_
            refine v_iload (pc' := 340) C 7 dL_hangs_338 rfl rfl ?_
            refine v_calli (pc' := 343) C h (rf := fun r9 => r9) (wS g aD zD_40 ++ wF g aF zF_41) (fun r9 (u9 : Unit) => wQ aQ aT aN aV aD aF ++ wS g aN zN ++ wS g aD zD_40 ++ wF g aF zF_41) (fun r hr => run_V C (c_X5_candidate l g aQ aT aN aV aD aF _ _ r hr) gL_hangs_X5_candidate rfl nd_X5_candidate rfl rfl rfl rfl ⟨Nat.le_of_ble_eq_true rfl, Nat.le_of_ble_eq_true rfl⟩ ⟨Nat.le_of_ble_eq_true rfl, Nat.le_of_ble_eq_true rfl⟩ (Nat.le_of_ble_eq_true rfl) dL_hangs_340 rfl) [0, 1, 2, 3, 4] [5, 6, 7, 8, 9, 10, 11, 12] [8, 9, 10, 11, 12, 0, 1, 2, 3, 4, 5, 6, 7] rfl rfl rfl rfl (by decide) rfl (fun _ _ => rfl) (k' := 0) (n' := 0) rfl rfl rfl (fun r_99 _ _ h => ?_)
            refine v_iload (pc' := 345) C 5 dL_hangs_343 rfl rfl ?_
            refine v_calli (pc' := 348) C h (rf := fun r9 => r9) (wS g aD zD_40 ++ wF g aF zF_41) (fun r9 (u9 : Unit) => wQ aQ aT aN aV aD aF ++ wS g aN zN ++ wS g aD zD_40 ++ wF g aF zF_41) (fun r hr => run_S C (c_L_doesAgree l g aQ aT aN aV aD aF _ _ _ r hr) gL_hangs_L_doesAgree rfl nd_L_doesAgree ⟨Nat.le_of_ble_eq_true rfl, Nat.le_of_ble_eq_true rfl⟩ ⟨Nat.le_of_ble_eq_true rfl, Nat.le_of_ble_eq_true rfl⟩ (Nat.le_of_ble_eq_true rfl) dL_hangs_345 rfl) [0, 1, 2, 3, 4] [5, 6, 7, 8, 9, 10, 11, 12] [8, 9, 10, 11, 12, 0, 1, 2, 3, 4, 5, 6, 7] rfl rfl rfl rfl (by decide) rfl (fun _ _ => rfl) (k' := 0) (n' := 0) rfl rfl rfl (fun r_100 _ _ h => ?_)
            refine v_if_eq C 355 351 h dL_hangs_348 (by decide) rfl (fun _ h => ?_) (fun _ h => ?_)
            · refine v_lv [0, 1, 2, 3, 5, 7] (lv' := [(0, .ref aQ), (1, .int v1_35), (2, .int v2_36), (3, .int v3_37), (5, .int v5_39), (8, .int v8_44)]) rfl ?_
              exact J355 v8_44 h
            · refine v_iconst (pc' := 352) C (1) dL_hangs_351 ic_1 rfl ?_
              refine v_goto C (pc' := 356) dL_hangs_352 (by decide) ?_
              refine v_istore (pc' := 358) C [1, 2, 3, 4, 0, 5, 6, 7] (lv' := [(0, .ref aQ), (1, .int v1_35), (2, .int v2_36), (3, .int v3_37), (4, .int (1 : Int32)), (5, .int v5_39), (7, .int v7_43), (8, .int v8_44)]) dL_hangs_356 (Nat.le_of_ble_eq_true rfl) rfl rfl ?_
              refine v_aload_n (pc' := 359) C 0 dL_hangs_358 rfl rfl ?_
              refine v_iload (pc' := 361) C 7 dL_hangs_359 rfl rfl ?_
              refine v_calli (pc' := 364) C h (rf := fun r9 => r9) (wS g aD zD_40 ++ wF g aF zF_41) (fun r9 (u9 : Unit) => wQ aQ aT aN aV aD aF ++ wS g aN zN ++ wS g aD zD_40 ++ wF g aF zF_41) (fun r hr => run_V C (c_X5_candidate l g aQ aT aN aV aD aF _ _ r hr) gL_hangs_X5_candidate rfl nd_X5_candidate rfl rfl rfl rfl ⟨Nat.le_of_ble_eq_true rfl, Nat.le_of_ble_eq_true rfl⟩ ⟨Nat.le_of_ble_eq_true rfl, Nat.le_of_ble_eq_true rfl⟩ (Nat.le_of_ble_eq_true rfl) dL_hangs_361 rfl) [0, 1, 2, 3, 4] [5, 6, 7, 8, 9, 10, 11, 12] [8, 9, 10, 11, 12, 0, 1, 2, 3, 4, 5, 6, 7] rfl rfl rfl rfl (by decide) rfl (fun _ _ => rfl) (k' := 0) (n' := 0) rfl rfl rfl (fun r_101 _ _ h => ?_)
              refine v_istore (pc' := 366) C [1, 2, 3, 4, 5, 6, 0, 7] (lv' := [(0, .ref aQ), (1, .int v1_35), (2, .int v2_36), (3, .int v3_37), (4, .int (1 : Int32)), (5, .int v5_39), (7, .int r_101), (8, .int v8_44)]) dL_hangs_364 (Nat.le_of_ble_eq_true rfl) rfl rfl ?_
              refine v_iinc (pc' := 369) C 7 [1, 2, 3, 4, 5, 6, 7, 0] (1) dL_hangs_366 rfl ic_1 (Nat.le_of_ble_eq_true rfl) h (lw := fun v9 => [(0, .ref aQ), (1, .int v1_35), (2, .int v2_36), (3, .int v3_37), (4, .int (1 : Int32)), (5, .int v5_39), (7, .int r_101), (8, .int v9)]) (fun _ => rfl) rfl (fun v8_102 h => ?_)
              refine v_goto C (pc' := 304) dL_hangs_369 (by decide) ?_
              exact ih304 (1 : Int32) r_101 v8_102 h
  have J214 : ∀ (v1_24 : Int32) (v2_25 : Int32) (v3_26 : Int32) (v4_27 : Int32) (v5_28 : Int32) (zD_29 : St) (zF_30 : Fm), f_L_hangs_J214 zN v1_24 v2_25 v3_26 v4_27 v5_28 zD_29 zF_30 = some o → V p l e rm_L_hangs s m args below meth c g 9 A 0 0 Q (wQ aQ aT aN aV aD aF ++ wS g aN zN ++ wS g aD zD_29 ++ wF g aF zF_30) [] [(0, .ref aQ), (1, .int v1_24), (2, .int v2_25), (3, .int v3_26), (4, .int v4_27), (5, .int v5_28)] 214 [] := by
    intro v1_24 v2_25 v3_26 v4_27 v5_28 zD_29 zF_30 h
    unfold f_L_hangs_J214 at h
    refine v_iconst (pc' := 215) C (0) dL_hangs_214 ic_0 rfl ?_
    refine v_istore (pc' := 217) C [1, 2, 3, 4, 5, 6, 0] (lv' := [(0, .ref aQ), (1, .int v1_24), (2, .int v2_25), (3, .int v3_26), (4, .int v4_27), (5, .int v5_28), (6, .int (0 : Int32))]) dL_hangs_215 (Nat.le_of_ble_eq_true rfl) rfl rfl ?_
    refine v_iconst (pc' := 218) C (0) dL_hangs_217 ic_0 rfl ?_
    refine v_istore (pc' := 220) C [1, 2, 3, 4, 5, 6, 7, 0] (lv' := [(0, .ref aQ), (1, .int v1_24), (2, .int v2_25), (3, .int v3_26), (4, .int v4_27), (5, .int v5_28), (6, .int (0 : Int32)), (7, .int (0 : Int32))]) dL_hangs_218 (Nat.le_of_ble_eq_true rfl) rfl rfl ?_
    refine v_loop3 (fun (v4_31 : Int32) (v6_32 : Int32) (v7_33 : Int32) => V p l e rm_L_hangs s m args below meth c g 9 A 0 0 Q (wQ aQ aT aN aV aD aF ++ wS g aN zN ++ wS g aD zD_29 ++ wF g aF zF_30) [] [(0, .ref aQ), (1, .int v1_24), (2, .int v2_25), (3, .int v3_26), (4, .int v4_31), (5, .int v5_28), (6, .int v6_32), (7, .int v7_33)] 220 []) (fun re220 ih220 v4_31 v6_32 v7_33 h => ?_) v4_27 (0 : Int32) (0 : Int32) h
    unfold f_L_hangs_L220 at h
    have J272 : ∀ (v6_105 : Int32) (v7_106 : Int32) (v8_107 : Int32) (s0_108 : Int32), f_L_hangs_J272 re220 v6_105 v7_106 v8_107 s0_108 = some o → V p l e rm_L_hangs s m args below meth c g 9 A 0 0 Q (wQ aQ aT aN aV aD aF ++ wS g aN zN ++ wS g aD zD_29 ++ wF g aF zF_30) [] [(0, .ref aQ), (1, .int v1_24), (2, .int v2_25), (3, .int v3_26), (5, .int v5_28), (6, .int v6_105), (7, .int v7_106), (8, .int v8_107)] 272 [.int s0_108] := by
      intro v6_105 v7_106 v8_107 s0_108 h
      unfold f_L_hangs_J272 at h
      refine v_istore (pc' := 274) C [1, 2, 3, 4, 0, 5, 6, 7, 8] (lv' := [(0, .ref aQ), (1, .int v1_24), (2, .int v2_25), (3, .int v3_26), (4, .int s0_108), (5, .int v5_28), (6, .int v6_105), (7, .int v7_106), (8, .int v8_107)]) dL_hangs_272 (Nat.le_of_ble_eq_true rfl) rfl rfl ?_
      refine v_iload (pc' := 276) C 6 dL_hangs_274 rfl rfl ?_
      refine v_iload (pc' := 278) C 4 dL_hangs_276 rfl rfl ?_
      refine v_if_eq C 288 281 h dL_hangs_278 (by decide) rfl (fun _ h => ?_) (fun _ h => ?_)
      · refine v_iconst (pc' := 289) C (0) dL_hangs_288 ic_0 rfl ?_
        refine v_ior (pc' := 290) C dL_hangs_289 rfl ?_
        refine v_leti h (fun v6_109 h => ?_)
        refine v_istore (pc' := 292) C [1, 2, 3, 4, 5, 6, 0, 7, 8] (lv' := [(0, .ref aQ), (1, .int v1_24), (2, .int v2_25), (3, .int v3_26), (4, .int s0_108), (5, .int v5_28), (6, .int v6_109), (7, .int v7_106), (8, .int v8_107)]) dL_hangs_290 (Nat.le_of_ble_eq_true rfl) rfl rfl ?_
        refine v_iinc (pc' := 295) C 7 [1, 2, 3, 4, 5, 6, 7, 0, 8] (1) dL_hangs_292 rfl ic_1 (Nat.le_of_ble_eq_true rfl) h (lw := fun v9 => [(0, .ref aQ), (1, .int v1_24), (2, .int v2_25), (3, .int v3_26), (4, .int s0_108), (5, .int v5_28), (6, .int v6_109), (7, .int v9), (8, .int v8_107)]) (fun _ => rfl) rfl (fun v7_110 h => ?_)
        refine v_goto C (pc' := 220) dL_hangs_295 (by decide) ?_
        refine v_lv [0, 1, 2, 3, 4, 5, 6, 7] (lv' := [(0, .ref aQ), (1, .int v1_24), (2, .int v2_25), (3, .int v3_26), (4, .int s0_108), (5, .int v5_28), (6, .int v6_109), (7, .int v7_110)]) rfl ?_
        exact ih220 s0_108 v6_109 v7_110 h
      · refine v_iconst (pc' := 282) C (1) dL_hangs_281 ic_1 rfl ?_
        refine v_iload (pc' := 284) C 8 dL_hangs_282 rfl rfl ?_
        refine v_ishl (pc' := 285) C dL_hangs_284 rfl ?_
        refine v_goto C (pc' := 289) dL_hangs_285 (by decide) ?_
        refine v_ior (pc' := 290) C dL_hangs_289 rfl ?_
        refine v_leti h (fun v6_111 h => ?_)
        refine v_istore (pc' := 292) C [1, 2, 3, 4, 5, 6, 0, 7, 8] (lv' := [(0, .ref aQ), (1, .int v1_24), (2, .int v2_25), (3, .int v3_26), (4, .int s0_108), (5, .int v5_28), (6, .int v6_111), (7, .int v7_106), (8, .int v8_107)]) dL_hangs_290 (Nat.le_of_ble_eq_true rfl) rfl rfl ?_
        refine v_iinc (pc' := 295) C 7 [1, 2, 3, 4, 5, 6, 7, 0, 8] (1) dL_hangs_292 rfl ic_1 (Nat.le_of_ble_eq_true rfl) h (lw := fun v9 => [(0, .ref aQ), (1, .int v1_24), (2, .int v2_25), (3, .int v3_26), (4, .int s0_108), (5, .int v5_28), (6, .int v6_111), (7, .int v9), (8, .int v8_107)]) (fun _ => rfl) rfl (fun v7_112 h => ?_)
        refine v_goto C (pc' := 220) dL_hangs_295 (by decide) ?_
        refine v_lv [0, 1, 2, 3, 4, 5, 6, 7] (lv' := [(0, .ref aQ), (1, .int v1_24), (2, .int v2_25), (3, .int v3_26), (4, .int s0_108), (5, .int v5_28), (6, .int v6_111), (7, .int v7_112)]) rfl ?_
        exact ih220 s0_108 v6_111 v7_112 h
    refine v_iload (pc' := 222) C 7 dL_hangs_220 rfl rfl ?_
    refine v_aload_n (pc' := 223) C 0 dL_hangs_222 rfl rfl ?_
    refine v_calli (pc' := 226) C h (rf := fun r9 => r9) (wS g aD zD_29 ++ wF g aF zF_30) (fun r9 (u9 : Unit) => wQ aQ aT aN aV aD aF ++ wS g aN zN ++ wS g aD zD_29 ++ wF g aF zF_30) (fun r hr => run_V C (c_X5_guesses l g aQ aT aN aV aD aF _ r hr) gL_hangs_X5_guesses rfl nd_X5_guesses rfl rfl rfl rfl ⟨Nat.le_of_ble_eq_true rfl, Nat.le_of_ble_eq_true rfl⟩ ⟨Nat.le_of_ble_eq_true rfl, Nat.le_of_ble_eq_true rfl⟩ (Nat.le_of_ble_eq_true rfl) dL_hangs_223 rfl) [0, 1, 2, 3, 4] [5, 6, 7, 8, 9, 10, 11, 12] [8, 9, 10, 11, 12, 0, 1, 2, 3, 4, 5, 6, 7] rfl rfl rfl rfl (by decide) rfl (fun _ _ => rfl) (k' := 0) (n' := 0) rfl rfl rfl (fun r_34 _ _ h => ?_)
    refine v_icmp_ge C 298 229 h dL_hangs_226 (by decide) rfl (fun _ h => ?_) (fun _ h => ?_)
    · refine v_lv [0, 1, 2, 3, 4, 5] (lv' := [(0, .ref aQ), (1, .int v1_24), (2, .int v2_25), (3, .int v3_26), (4, .int v4_31), (5, .int v5_28)]) rfl ?_
      exact J298 v1_24 v2_25 v3_26 v4_31 v5_28 zD_29 zF_30 h
    · refine v_iload (pc' := 231) C 4 dL_hangs_229 rfl rfl ?_
      refine v_if_eq C 298 234 h dL_hangs_231 (by decide) rfl (fun _ h => ?_) (fun _ h => ?_)
      · refine v_lv [0, 1, 2, 3, 4, 5] (lv' := [(0, .ref aQ), (1, .int v1_24), (2, .int v2_25), (3, .int v3_26), (4, .int v4_31), (5, .int v5_28)]) rfl ?_
        exact J298 v1_24 v2_25 v3_26 v4_31 v5_28 zD_29 zF_30 h
      · refine v_aload_n (pc' := 235) C 0 dL_hangs_234 rfl rfl ?_
        refine v_iload (pc' := 237) C 7 dL_hangs_235 rfl rfl ?_
        refine v_calli (pc' := 240) C h (rf := fun r9 => r9) (wS g aD zD_29 ++ wF g aF zF_30) (fun r9 (u9 : Unit) => wQ aQ aT aN aV aD aF ++ wS g aN zN ++ wS g aD zD_29 ++ wF g aF zF_30) (fun r hr => run_V C (c_X5_guessAt l g aQ aT aN aV aD aF _ _ r hr) gL_hangs_X5_guessAt rfl nd_X5_guessAt rfl rfl rfl rfl ⟨Nat.le_of_ble_eq_true rfl, Nat.le_of_ble_eq_true rfl⟩ ⟨Nat.le_of_ble_eq_true rfl, Nat.le_of_ble_eq_true rfl⟩ (Nat.le_of_ble_eq_true rfl) dL_hangs_237 rfl) [0, 1, 2, 3, 4] [5, 6, 7, 8, 9, 10, 11, 12] [8, 9, 10, 11, 12, 0, 1, 2, 3, 4, 5, 6, 7] rfl rfl rfl rfl (by decide) rfl (fun _ _ => rfl) (k' := 0) (n' := 0) rfl rfl rfl (fun r_103 _ _ h => ?_)
        refine v_bipush (pc' := 242) C (97) dL_hangs_240 bc_97 rfl ?_
        refine v_isub (pc' := 243) C dL_hangs_242 rfl ?_
        refine v_leti h (fun v8_104 h => ?_)
        refine v_istore (pc' := 245) C [1, 2, 3, 4, 5, 6, 7, 8, 0] (lv' := [(0, .ref aQ), (1, .int v1_24), (2, .int v2_25), (3, .int v3_26), (4, .int v4_31), (5, .int v5_28), (6, .int v6_32), (7, .int v7_33), (8, .int v8_104)]) dL_hangs_243 (Nat.le_of_ble_eq_true rfl) rfl rfl ?_
        refine v_iload (pc' := 247) C 8 dL_hangs_245 rfl rfl ?_
        refine v_if_lt C 271 250 h dL_hangs_247 (by decide) rfl (fun _ h => ?_) (fun _ h => ?_)
        · refine v_iconst (pc' := 272) C (0) dL_hangs_271 ic_0 rfl ?_
          refine v_lv [0, 1, 2, 3, 5, 6, 7, 8] (lv' := [(0, .ref aQ), (1, .int v1_24), (2, .int v2_25), (3, .int v3_26), (5, .int v5_28), (6, .int v6_32), (7, .int v7_33), (8, .int v8_104)]) rfl ?_
          exact J272 v6_32 v7_33 v8_104 (0 : Int32) h
        · refine v_iload (pc' := 252) C 8 dL_hangs_250 rfl rfl ?_
          refine v_bipush (pc' := 254) C (26) dL_hangs_252 bc_26 rfl ?_
          refine v_icmp_ge C 271 257 h dL_hangs_254 (by decide) rfl (fun _ h => ?_) (fun _ h => ?_)
          · refine v_iconst (pc' := 272) C (0) dL_hangs_271 ic_0 rfl ?_
            refine v_lv [0, 1, 2, 3, 5, 6, 7, 8] (lv' := [(0, .ref aQ), (1, .int v1_24), (2, .int v2_25), (3, .int v3_26), (5, .int v5_28), (6, .int v6_32), (7, .int v7_33), (8, .int v8_104)]) rfl ?_
            exact J272 v6_32 v7_33 v8_104 (0 : Int32) h
          · refine v_iload (pc' := 259) C 6 dL_hangs_257 rfl rfl ?_
            refine v_iload (pc' := 261) C 8 dL_hangs_259 rfl rfl ?_
            refine v_ishr (pc' := 262) C dL_hangs_261 rfl ?_
            refine v_iconst (pc' := 263) C (1) dL_hangs_262 ic_1 rfl ?_
            refine v_iand (pc' := 264) C dL_hangs_263 rfl ?_
            refine v_if_ne C 271 267 h dL_hangs_264 (by decide) rfl (fun _ h => ?_) (fun _ h => ?_)
            · refine v_iconst (pc' := 272) C (0) dL_hangs_271 ic_0 rfl ?_
              refine v_lv [0, 1, 2, 3, 5, 6, 7, 8] (lv' := [(0, .ref aQ), (1, .int v1_24), (2, .int v2_25), (3, .int v3_26), (5, .int v5_28), (6, .int v6_32), (7, .int v7_33), (8, .int v8_104)]) rfl ?_
              exact J272 v6_32 v7_33 v8_104 (0 : Int32) h
            · refine v_iconst (pc' := 268) C (1) dL_hangs_267 ic_1 rfl ?_
              refine v_goto C (pc' := 272) dL_hangs_268 (by decide) ?_
              refine v_lv [0, 1, 2, 3, 5, 6, 7, 8] (lv' := [(0, .ref aQ), (1, .int v1_24), (2, .int v2_25), (3, .int v3_26), (5, .int v5_28), (6, .int v6_32), (7, .int v7_33), (8, .int v8_104)]) rfl ?_
              exact J272 v6_32 v7_33 v8_104 (1 : Int32) h
  have J188 : ∀ (v1_17 : Int32) (v2_18 : Int32) (v3_19 : Int32) (v4_20 : Int32) (zD_21 : St) (zF_22 : Fm), f_L_hangs_J188 zN v1_17 v2_18 v3_19 v4_20 zD_21 zF_22 = some o → V p l e rm_L_hangs s m args below meth c g 9 A 0 0 Q (wQ aQ aT aN aV aD aF ++ wS g aN zN ++ wS g aD zD_21 ++ wF g aF zF_22) [] [(0, .ref aQ), (1, .int v1_17), (2, .int v2_18), (3, .int v3_19), (4, .int v4_20)] 188 [] := by
    intro v1_17 v2_18 v3_19 v4_20 zD_21 zF_22 h
    unfold f_L_hangs_J188 at h
    refine v_iconst (pc' := 189) C (0) dL_hangs_188 ic_0 rfl ?_
    refine v_istore (pc' := 191) C [1, 2, 3, 4, 5, 0] (lv' := [(0, .ref aQ), (1, .int v1_17), (2, .int v2_18), (3, .int v3_19), (4, .int v4_20), (5, .int (0 : Int32))]) dL_hangs_189 (Nat.le_of_ble_eq_true rfl) rfl rfl ?_
    refine v_loop1 (fun (v5_23 : Int32) => V p l e rm_L_hangs s m args below meth c g 9 A 0 0 Q (wQ aQ aT aN aV aD aF ++ wS g aN zN ++ wS g aD zD_21 ++ wF g aF zF_22) [] [(0, .ref aQ), (1, .int v1_17), (2, .int v2_18), (3, .int v3_19), (4, .int v4_20), (5, .int v5_23)] 191 []) (fun re191 ih191 v5_23 h => ?_) (0 : Int32) h
    unfold f_L_hangs_L191 at h
    refine v_iload (pc' := 193) C 5 dL_hangs_191 rfl rfl ?_
    refine v_bipush (pc' := 195) C (8) dL_hangs_193 bc_8 rfl ?_
    refine v_icmp_ge C 214 198 h dL_hangs_195 (by decide) rfl (fun _ h => ?_) (fun _ h => ?_)
    · exact J214 v1_17 v2_18 v3_19 v4_20 v5_23 zD_21 zF_22 h
    · refine v_aload_n (pc' := 199) C 0 dL_hangs_198 rfl rfl ?_
      refine v_iload (pc' := 201) C 5 dL_hangs_199 rfl rfl ?_
      refine v_calli (pc' := 204) C h (rf := fun r9 => r9) (wS g aD zD_21 ++ wF g aF zF_22) (fun r9 (u9 : Unit) => wQ aQ aT aN aV aD aF ++ wS g aN zN ++ wS g aD zD_21 ++ wF g aF zF_22) (fun r hr => run_V C (c_X5_shown l g aQ aT aN aV aD aF _ _ r hr) gL_hangs_X5_shown rfl nd_X5_shown rfl rfl rfl rfl ⟨Nat.le_of_ble_eq_true rfl, Nat.le_of_ble_eq_true rfl⟩ ⟨Nat.le_of_ble_eq_true rfl, Nat.le_of_ble_eq_true rfl⟩ (Nat.le_of_ble_eq_true rfl) dL_hangs_201 rfl) [0, 1, 2, 3, 4] [5, 6, 7, 8, 9, 10, 11, 12] [8, 9, 10, 11, 12, 0, 1, 2, 3, 4, 5, 6, 7] rfl rfl rfl rfl (by decide) rfl (fun _ _ => rfl) (k' := 0) (n' := 0) rfl rfl rfl (fun r_113 _ _ h => ?_)
      refine v_iconst (pc' := 205) C (-1) dL_hangs_204 ic_m1 rfl ?_
      refine v_icmp_eq C 214 208 h dL_hangs_205 (by decide) rfl (fun _ h => ?_) (fun _ h => ?_)
      · exact J214 v1_17 v2_18 v3_19 v4_20 v5_23 zD_21 zF_22 h
      · refine v_iinc (pc' := 211) C 5 [1, 2, 3, 4, 5, 0] (1) dL_hangs_208 rfl ic_1 (Nat.le_of_ble_eq_true rfl) h (lw := fun v9 => [(0, .ref aQ), (1, .int v1_17), (2, .int v2_18), (3, .int v3_19), (4, .int v4_20), (5, .int v9)]) (fun _ => rfl) rfl (fun v5_114 h => ?_)
        refine v_goto C (pc' := 191) dL_hangs_211 (by decide) ?_
        exact ih191 v5_114 h
  have J158 : ∀ (v1_9 : Int32) (v2_10 : Int32) (v3_11 : Int32) (zD_12 : St) (zF_13 : Fm) (s0_14 : Int32), f_L_hangs_J158 zN v1_9 v2_10 v3_11 zD_12 zF_13 s0_14 = some o → V p l e rm_L_hangs s m args below meth c g 9 A 0 0 Q (wQ aQ aT aN aV aD aF ++ wS g aN zN ++ wS g aD zD_12 ++ wF g aF zF_13) [] [(0, .ref aQ), (1, .int v1_9), (2, .int v2_10), (3, .int v3_11)] 158 [.int s0_14] := by
    intro v1_9 v2_10 v3_11 zD_12 zF_13 s0_14 h
    unfold f_L_hangs_J158 at h
    refine v_istore (pc' := 160) C [1, 2, 3, 4, 0] (lv' := [(0, .ref aQ), (1, .int v1_9), (2, .int v2_10), (3, .int v3_11), (4, .int s0_14)]) dL_hangs_158 (Nat.le_of_ble_eq_true rfl) rfl rfl ?_
    refine v_iconst (pc' := 161) C (0) dL_hangs_160 ic_0 rfl ?_
    refine v_istore (pc' := 163) C [1, 2, 3, 4, 5, 0] (lv' := [(0, .ref aQ), (1, .int v1_9), (2, .int v2_10), (3, .int v3_11), (4, .int s0_14), (5, .int (0 : Int32))]) dL_hangs_161 (Nat.le_of_ble_eq_true rfl) rfl rfl ?_
    refine v_loop2 (fun (v4_15 : Int32) (v5_16 : Int32) => V p l e rm_L_hangs s m args below meth c g 9 A 0 0 Q (wQ aQ aT aN aV aD aF ++ wS g aN zN ++ wS g aD zD_12 ++ wF g aF zF_13) [] [(0, .ref aQ), (1, .int v1_9), (2, .int v2_10), (3, .int v3_11), (4, .int v4_15), (5, .int v5_16)] 163 []) (fun re163 ih163 v4_15 v5_16 h => ?_) s0_14 (0 : Int32) h
    unfold f_L_hangs_L163 at h
    refine v_iload (pc' := 165) C 5 dL_hangs_163 rfl rfl ?_
    refine v_iload_n (pc' := 166) C 1 dL_hangs_165 rfl rfl ?_
    refine v_icmp_ge C 188 169 h dL_hangs_166 (by decide) rfl (fun _ h => ?_) (fun _ h => ?_)
    · refine v_lv [0, 1, 2, 3, 4] (lv' := [(0, .ref aQ), (1, .int v1_9), (2, .int v2_10), (3, .int v3_11), (4, .int v4_15)]) rfl ?_
      exact J188 v1_9 v2_10 v3_11 v4_15 zD_12 zF_13 h
    · refine v_iload (pc' := 171) C 4 dL_hangs_169 rfl rfl ?_
      refine v_if_eq C 188 174 h dL_hangs_171 (by decide) rfl (fun _ h => ?_) (fun _ h => ?_)
      · refine v_lv [0, 1, 2, 3, 4] (lv' := [(0, .ref aQ), (1, .int v1_9), (2, .int v2_10), (3, .int v3_11), (4, .int v4_15)]) rfl ?_
        exact J188 v1_9 v2_10 v3_11 v4_15 zD_12 zF_13 h
      · refine v_aload_n (pc' := 175) C 0 dL_hangs_174 rfl rfl ?_
        refine v_iload (pc' := 177) C 5 dL_hangs_175 rfl rfl ?_
        refine v_calli (pc' := 180) C h (rf := fun r9 => r9) (wS g aD zD_12 ++ wF g aF zF_13) (fun r9 (u9 : Unit) => wQ aQ aT aN aV aD aF ++ wS g aN zN ++ wS g aD zD_12 ++ wF g aF zF_13) (fun r hr => run_S C (c_L_isWord l g aQ aT aN aV aD aF _ _ r hr) gL_hangs_L_isWord rfl nd_L_isWord ⟨Nat.le_of_ble_eq_true rfl, Nat.le_of_ble_eq_true rfl⟩ ⟨Nat.le_of_ble_eq_true rfl, Nat.le_of_ble_eq_true rfl⟩ (Nat.le_of_ble_eq_true rfl) dL_hangs_177 rfl) [0, 1, 2, 3, 4] [5, 6, 7, 8, 9, 10, 11, 12] [8, 9, 10, 11, 12, 0, 1, 2, 3, 4, 5, 6, 7] rfl rfl rfl rfl (by decide) rfl (fun _ _ => rfl) (k' := 0) (n' := 0) rfl rfl rfl (fun r_115 _ _ h => ?_)
        refine v_istore (pc' := 182) C [1, 2, 3, 4, 0, 5] (lv' := [(0, .ref aQ), (1, .int v1_9), (2, .int v2_10), (3, .int v3_11), (4, .int r_115), (5, .int v5_16)]) dL_hangs_180 (Nat.le_of_ble_eq_true rfl) rfl rfl ?_
        refine v_iinc (pc' := 185) C 5 [1, 2, 3, 4, 5, 0] (1) dL_hangs_182 rfl ic_1 (Nat.le_of_ble_eq_true rfl) h (lw := fun v9 => [(0, .ref aQ), (1, .int v1_9), (2, .int v2_10), (3, .int v3_11), (4, .int r_115), (5, .int v9)]) (fun _ => rfl) rfl (fun v5_116 h => ?_)
        refine v_goto C (pc' := 163) dL_hangs_185 (by decide) ?_
        exact ih163 r_115 v5_116 h
  have J157 : ∀ (v1_4 : Int32) (v2_5 : Int32) (v3_6 : Int32) (zD_7 : St) (zF_8 : Fm), f_L_hangs_J157 zN v1_4 v2_5 v3_6 zD_7 zF_8 = some o → V p l e rm_L_hangs s m args below meth c g 9 A 0 0 Q (wQ aQ aT aN aV aD aF ++ wS g aN zN ++ wS g aD zD_7 ++ wF g aF zF_8) [] [(0, .ref aQ), (1, .int v1_4), (2, .int v2_5), (3, .int v3_6)] 157 [] := by
    intro v1_4 v2_5 v3_6 zD_7 zF_8 h
    unfold f_L_hangs_J157 at h
    refine v_iconst (pc' := 158) C (0) dL_hangs_157 ic_0 rfl ?_
    exact J158 v1_4 v2_5 v3_6 zD_7 zF_8 (0 : Int32) h
  refine v_aload_n (pc' := 1) C 0 dL_hangs_0 rfl rfl ?_
  refine v_calli (pc' := 4) C h (rf := fun r9 => r9) (wS g aD zD ++ wF g aF zF) (fun r9 (u9 : Unit) => wQ aQ aT aN aV aD aF ++ wS g aN zN ++ wS g aD zD ++ wF g aF zF) (fun r hr => run_V C (c_X5_words l g aQ aT aN aV aD aF _ r hr) gL_hangs_X5_words rfl nd_X5_words rfl rfl rfl rfl ⟨Nat.le_of_ble_eq_true rfl, Nat.le_of_ble_eq_true rfl⟩ ⟨Nat.le_of_ble_eq_true rfl, Nat.le_of_ble_eq_true rfl⟩ (Nat.le_of_ble_eq_true rfl) dL_hangs_1 rfl) [0, 1, 2, 3, 4] [5, 6, 7, 8, 9, 10, 11, 12] [8, 9, 10, 11, 12, 0, 1, 2, 3, 4, 5, 6, 7] rfl rfl rfl rfl (by decide) rfl (fun _ _ => rfl) (k' := 0) (n' := 0) rfl rfl rfl (fun r_1 _ _ h => ?_)
  refine v_istore_n (pc' := 5) C [1, 0] (lv' := [(0, .ref aQ), (1, .int r_1)]) dL_hangs_4 (Nat.le_of_ble_eq_true rfl) rfl rfl ?_
  refine v_aload_n (pc' := 6) C 0 dL_hangs_5 rfl rfl ?_
  refine v_calli (pc' := 9) C h (rf := fun r9 => r9) (wS g aD zD ++ wF g aF zF) (fun r9 (u9 : Unit) => wQ aQ aT aN aV aD aF ++ wS g aN zN ++ wS g aD zD ++ wF g aF zF) (fun r hr => run_V C (c_X5_status l g aQ aT aN aV aD aF _ r hr) gL_hangs_X5_status rfl nd_X5_status rfl rfl rfl rfl ⟨Nat.le_of_ble_eq_true rfl, Nat.le_of_ble_eq_true rfl⟩ ⟨Nat.le_of_ble_eq_true rfl, Nat.le_of_ble_eq_true rfl⟩ (Nat.le_of_ble_eq_true rfl) dL_hangs_6 rfl) [0, 1, 2, 3, 4] [5, 6, 7, 8, 9, 10, 11, 12] [8, 9, 10, 11, 12, 0, 1, 2, 3, 4, 5, 6, 7] rfl rfl rfl rfl (by decide) rfl (fun _ _ => rfl) (k' := 0) (n' := 0) rfl rfl rfl (fun r_2 _ _ h => ?_)
  refine v_istore_n (pc' := 10) C [1, 2, 0] (lv' := [(0, .ref aQ), (1, .int r_1), (2, .int r_2)]) dL_hangs_9 (Nat.le_of_ble_eq_true rfl) rfl rfl ?_
  refine v_aload_n (pc' := 11) C 0 dL_hangs_10 rfl rfl ?_
  refine v_calli (pc' := 14) C h (rf := fun r9 => r9) (wS g aD zD ++ wF g aF zF) (fun r9 (u9 : Unit) => wQ aQ aT aN aV aD aF ++ wS g aN zN ++ wS g aD zD ++ wF g aF zF) (fun r hr => run_V C (c_X5_candidates l g aQ aT aN aV aD aF _ r hr) gL_hangs_X5_candidates rfl nd_X5_candidates rfl rfl rfl rfl ⟨Nat.le_of_ble_eq_true rfl, Nat.le_of_ble_eq_true rfl⟩ ⟨Nat.le_of_ble_eq_true rfl, Nat.le_of_ble_eq_true rfl⟩ (Nat.le_of_ble_eq_true rfl) dL_hangs_11 rfl) [0, 1, 2, 3, 4] [5, 6, 7, 8, 9, 10, 11, 12] [8, 9, 10, 11, 12, 0, 1, 2, 3, 4, 5, 6, 7] rfl rfl rfl rfl (by decide) rfl (fun _ _ => rfl) (k' := 0) (n' := 0) rfl rfl rfl (fun r_3 _ _ h => ?_)
  refine v_istore_n (pc' := 15) C [1, 2, 3, 0] (lv' := [(0, .ref aQ), (1, .int r_1), (2, .int r_2), (3, .int r_3)]) dL_hangs_14 (Nat.le_of_ble_eq_true rfl) rfl rfl ?_
  refine v_iload_n (pc' := 16) C 1 dL_hangs_15 rfl rfl ?_
  refine v_if_lt C 157 19 h dL_hangs_16 (by decide) rfl (fun _ h => ?_) (fun _ h => ?_)
  · exact J157 r_1 r_2 r_3 zD zF h
  · refine v_iload_n (pc' := 20) C 1 dL_hangs_19 rfl rfl ?_
    refine v_bipush (pc' := 22) C (31) dL_hangs_20 bc_31 rfl ?_
    refine v_icmp_ge C 157 25 h dL_hangs_22 (by decide) rfl (fun _ h => ?_) (fun _ h => ?_)
    · exact J157 r_1 r_2 r_3 zD zF h
    · refine v_iload_n (pc' := 26) C 2 dL_hangs_25 rfl rfl ?_
      refine v_if_lt C 157 29 h dL_hangs_26 (by decide) rfl (fun _ h => ?_) (fun _ h => ?_)
      · exact J157 r_1 r_2 r_3 zD zF h
      · refine v_iload_n (pc' := 30) C 2 dL_hangs_29 rfl rfl ?_
        refine v_iconst (pc' := 31) C (4) dL_hangs_30 ic_4 rfl ?_
        refine v_icmp_ge C 157 34 h dL_hangs_31 (by decide) rfl (fun _ h => ?_) (fun _ h => ?_)
        · exact J157 r_1 r_2 r_3 zD zF h
        · refine v_iload_n (pc' := 35) C 3 dL_hangs_34 rfl rfl ?_
          refine v_if_lt C 157 38 h dL_hangs_35 (by decide) rfl (fun _ h => ?_) (fun _ h => ?_)
          · exact J157 r_1 r_2 r_3 zD zF h
          · refine v_iload_n (pc' := 39) C 3 dL_hangs_38 rfl rfl ?_
            refine v_iload_n (pc' := 40) C 1 dL_hangs_39 rfl rfl ?_
            refine v_icmp_gt C 157 43 h dL_hangs_40 (by decide) rfl (fun _ h => ?_) (fun _ h => ?_)
            · exact J157 r_1 r_2 r_3 zD zF h
            · refine v_aload_n (pc' := 44) C 0 dL_hangs_43 rfl rfl ?_
              refine v_calli (pc' := 47) C h (rf := fun r9 => r9) (wS g aD zD ++ wF g aF zF) (fun r9 (u9 : Unit) => wQ aQ aT aN aV aD aF ++ wS g aN zN ++ wS g aD zD ++ wF g aF zF) (fun r hr => run_V C (c_X5_guesses l g aQ aT aN aV aD aF _ r hr) gL_hangs_X5_guesses rfl nd_X5_guesses rfl rfl rfl rfl ⟨Nat.le_of_ble_eq_true rfl, Nat.le_of_ble_eq_true rfl⟩ ⟨Nat.le_of_ble_eq_true rfl, Nat.le_of_ble_eq_true rfl⟩ (Nat.le_of_ble_eq_true rfl) dL_hangs_44 rfl) [0, 1, 2, 3, 4] [5, 6, 7, 8, 9, 10, 11, 12] [8, 9, 10, 11, 12, 0, 1, 2, 3, 4, 5, 6, 7] rfl rfl rfl rfl (by decide) rfl (fun _ _ => rfl) (k' := 0) (n' := 0) rfl rfl rfl (fun r_117 _ _ h => ?_)
              refine v_if_lt C 157 50 h dL_hangs_47 (by decide) rfl (fun _ h => ?_) (fun _ h => ?_)
              · exact J157 r_1 r_2 r_3 zD zF h
              · refine v_aload_n (pc' := 51) C 0 dL_hangs_50 rfl rfl ?_
                refine v_calli (pc' := 54) C h (rf := fun r9 => r9) (wS g aD zD ++ wF g aF zF) (fun r9 (u9 : Unit) => wQ aQ aT aN aV aD aF ++ wS g aN zN ++ wS g aD zD ++ wF g aF zF) (fun r hr => run_V C (c_X5_guesses l g aQ aT aN aV aD aF _ r hr) gL_hangs_X5_guesses rfl nd_X5_guesses rfl rfl rfl rfl ⟨Nat.le_of_ble_eq_true rfl, Nat.le_of_ble_eq_true rfl⟩ ⟨Nat.le_of_ble_eq_true rfl, Nat.le_of_ble_eq_true rfl⟩ (Nat.le_of_ble_eq_true rfl) dL_hangs_51 rfl) [0, 1, 2, 3, 4] [5, 6, 7, 8, 9, 10, 11, 12] [8, 9, 10, 11, 12, 0, 1, 2, 3, 4, 5, 6, 7] rfl rfl rfl rfl (by decide) rfl (fun _ _ => rfl) (k' := 0) (n' := 0) rfl rfl rfl (fun r_118 _ _ h => ?_)
                refine v_bipush (pc' := 56) C (27) dL_hangs_54 bc_27 rfl ?_
                refine v_icmp_ge C 157 59 h dL_hangs_56 (by decide) rfl (fun _ h => ?_) (fun _ h => ?_)
                · exact J157 r_1 r_2 r_3 zD zF h
                · refine v_aload_n (pc' := 60) C 0 dL_hangs_59 rfl rfl ?_
                  refine v_calli (pc' := 63) C h (rf := fun r9 => r9) (wS g aD zD ++ wF g aF zF) (fun r9 (u9 : Unit) => wQ aQ aT aN aV aD aF ++ wS g aN zN ++ wS g aD zD ++ wF g aF zF) (fun r hr => run_V C (c_X5_lives l g aQ aT aN aV aD aF _ r hr) gL_hangs_X5_lives rfl nd_X5_lives rfl rfl rfl rfl ⟨Nat.le_of_ble_eq_true rfl, Nat.le_of_ble_eq_true rfl⟩ ⟨Nat.le_of_ble_eq_true rfl, Nat.le_of_ble_eq_true rfl⟩ (Nat.le_of_ble_eq_true rfl) dL_hangs_60 rfl) [0, 1, 2, 3, 4] [5, 6, 7, 8, 9, 10, 11, 12] [8, 9, 10, 11, 12, 0, 1, 2, 3, 4, 5, 6, 7] rfl rfl rfl rfl (by decide) rfl (fun _ _ => rfl) (k' := 0) (n' := 0) rfl rfl rfl (fun r_119 _ _ h => ?_)
                  refine v_if_lt C 157 66 h dL_hangs_63 (by decide) rfl (fun _ h => ?_) (fun _ h => ?_)
                  · exact J157 r_1 r_2 r_3 zD zF h
                  · refine v_aload_n (pc' := 67) C 0 dL_hangs_66 rfl rfl ?_
                    refine v_calli (pc' := 70) C h (rf := fun r9 => r9) (wS g aD zD ++ wF g aF zF) (fun r9 (u9 : Unit) => wQ aQ aT aN aV aD aF ++ wS g aN zN ++ wS g aD zD ++ wF g aF zF) (fun r hr => run_V C (c_X5_lives l g aQ aT aN aV aD aF _ r hr) gL_hangs_X5_lives rfl nd_X5_lives rfl rfl rfl rfl ⟨Nat.le_of_ble_eq_true rfl, Nat.le_of_ble_eq_true rfl⟩ ⟨Nat.le_of_ble_eq_true rfl, Nat.le_of_ble_eq_true rfl⟩ (Nat.le_of_ble_eq_true rfl) dL_hangs_67 rfl) [0, 1, 2, 3, 4] [5, 6, 7, 8, 9, 10, 11, 12] [8, 9, 10, 11, 12, 0, 1, 2, 3, 4, 5, 6, 7] rfl rfl rfl rfl (by decide) rfl (fun _ _ => rfl) (k' := 0) (n' := 0) rfl rfl rfl (fun r_120 _ _ h => ?_)
                    refine v_bipush (pc' := 72) C (21) dL_hangs_70 bc_21 rfl ?_
                    refine v_icmp_ge C 157 75 h dL_hangs_72 (by decide) rfl (fun _ h => ?_) (fun _ h => ?_)
                    · exact J157 r_1 r_2 r_3 zD zF h
                    · refine v_aload_n (pc' := 76) C 0 dL_hangs_75 rfl rfl ?_
                      refine v_iload_n (pc' := 77) C 1 dL_hangs_76 rfl rfl ?_
                      refine v_iconst (pc' := 78) C (0) dL_hangs_77 ic_0 rfl ?_
                      refine v_calli (pc' := 81) C h (rf := fun r9 => r9) (wS g aD zD ++ wF g aF zF) (fun r9 (u9 : Unit) => wQ aQ aT aN aV aD aF ++ wS g aN zN ++ wS g aD zD ++ wF g aF zF) (fun r hr => run_V C (c_X5_letterOf l g aQ aT aN aV aD aF _ _ _ r hr) gL_hangs_X5_letterOf rfl nd_X5_letterOf rfl rfl rfl rfl ⟨Nat.le_of_ble_eq_true rfl, Nat.le_of_ble_eq_true rfl⟩ ⟨Nat.le_of_ble_eq_true rfl, Nat.le_of_ble_eq_true rfl⟩ (Nat.le_of_ble_eq_true rfl) dL_hangs_78 rfl) [0, 1, 2, 3, 4] [5, 6, 7, 8, 9, 10, 11, 12] [8, 9, 10, 11, 12, 0, 1, 2, 3, 4, 5, 6, 7] rfl rfl rfl rfl (by decide) rfl (fun _ _ => rfl) (k' := 0) (n' := 0) rfl rfl rfl (fun r_121 _ _ h => ?_)
                      refine v_iconst (pc' := 82) C (-1) dL_hangs_81 ic_m1 rfl ?_
                      refine v_icmp_ne C 157 85 h dL_hangs_82 (by decide) rfl (fun _ h => ?_) (fun _ h => ?_)
                      · exact J157 r_1 r_2 r_3 zD zF h
                      · refine v_aload_n (pc' := 86) C 0 dL_hangs_85 rfl rfl ?_
                        refine v_iconst (pc' := 87) C (-1) dL_hangs_86 ic_m1 rfl ?_
                        refine v_iconst (pc' := 88) C (0) dL_hangs_87 ic_0 rfl ?_
                        refine v_calli (pc' := 91) C h (rf := fun r9 => r9) (wS g aD zD ++ wF g aF zF) (fun r9 (u9 : Unit) => wQ aQ aT aN aV aD aF ++ wS g aN zN ++ wS g aD zD ++ wF g aF zF) (fun r hr => run_V C (c_X5_letterOf l g aQ aT aN aV aD aF _ _ _ r hr) gL_hangs_X5_letterOf rfl nd_X5_letterOf rfl rfl rfl rfl ⟨Nat.le_of_ble_eq_true rfl, Nat.le_of_ble_eq_true rfl⟩ ⟨Nat.le_of_ble_eq_true rfl, Nat.le_of_ble_eq_true rfl⟩ (Nat.le_of_ble_eq_true rfl) dL_hangs_88 rfl) [0, 1, 2, 3, 4] [5, 6, 7, 8, 9, 10, 11, 12] [8, 9, 10, 11, 12, 0, 1, 2, 3, 4, 5, 6, 7] rfl rfl rfl rfl (by decide) rfl (fun _ _ => rfl) (k' := 0) (n' := 0) rfl rfl rfl (fun r_122 _ _ h => ?_)
                        refine v_iconst (pc' := 92) C (-1) dL_hangs_91 ic_m1 rfl ?_
                        refine v_icmp_ne C 157 95 h dL_hangs_92 (by decide) rfl (fun _ h => ?_) (fun _ h => ?_)
                        · exact J157 r_1 r_2 r_3 zD zF h
                        · refine v_aload_n (pc' := 96) C 0 dL_hangs_95 rfl rfl ?_
                          refine v_iload_n (pc' := 97) C 3 dL_hangs_96 rfl rfl ?_
                          refine v_calli (pc' := 100) C h (rf := fun r9 => r9) (wS g aD zD ++ wF g aF zF) (fun r9 (u9 : Unit) => wQ aQ aT aN aV aD aF ++ wS g aN zN ++ wS g aD zD ++ wF g aF zF) (fun r hr => run_V C (c_X5_candidate l g aQ aT aN aV aD aF _ _ r hr) gL_hangs_X5_candidate rfl nd_X5_candidate rfl rfl rfl rfl ⟨Nat.le_of_ble_eq_true rfl, Nat.le_of_ble_eq_true rfl⟩ ⟨Nat.le_of_ble_eq_true rfl, Nat.le_of_ble_eq_true rfl⟩ (Nat.le_of_ble_eq_true rfl) dL_hangs_97 rfl) [0, 1, 2, 3, 4] [5, 6, 7, 8, 9, 10, 11, 12] [8, 9, 10, 11, 12, 0, 1, 2, 3, 4, 5, 6, 7] rfl rfl rfl rfl (by decide) rfl (fun _ _ => rfl) (k' := 0) (n' := 0) rfl rfl rfl (fun r_123 _ _ h => ?_)
                          refine v_iconst (pc' := 101) C (-1) dL_hangs_100 ic_m1 rfl ?_
                          refine v_icmp_ne C 157 104 h dL_hangs_101 (by decide) rfl (fun _ h => ?_) (fun _ h => ?_)
                          · exact J157 r_1 r_2 r_3 zD zF h
                          · refine v_aload_n (pc' := 105) C 0 dL_hangs_104 rfl rfl ?_
                            refine v_iconst (pc' := 106) C (-1) dL_hangs_105 ic_m1 rfl ?_
                            refine v_calli (pc' := 109) C h (rf := fun r9 => r9) (wS g aD zD ++ wF g aF zF) (fun r9 (u9 : Unit) => wQ aQ aT aN aV aD aF ++ wS g aN zN ++ wS g aD zD ++ wF g aF zF) (fun r hr => run_V C (c_X5_candidate l g aQ aT aN aV aD aF _ _ r hr) gL_hangs_X5_candidate rfl nd_X5_candidate rfl rfl rfl rfl ⟨Nat.le_of_ble_eq_true rfl, Nat.le_of_ble_eq_true rfl⟩ ⟨Nat.le_of_ble_eq_true rfl, Nat.le_of_ble_eq_true rfl⟩ (Nat.le_of_ble_eq_true rfl) dL_hangs_106 rfl) [0, 1, 2, 3, 4] [5, 6, 7, 8, 9, 10, 11, 12] [8, 9, 10, 11, 12, 0, 1, 2, 3, 4, 5, 6, 7] rfl rfl rfl rfl (by decide) rfl (fun _ _ => rfl) (k' := 0) (n' := 0) rfl rfl rfl (fun r_124 _ _ h => ?_)
                            refine v_iconst (pc' := 110) C (-1) dL_hangs_109 ic_m1 rfl ?_
                            refine v_icmp_ne C 157 113 h dL_hangs_110 (by decide) rfl (fun _ h => ?_) (fun _ h => ?_)
                            · exact J157 r_1 r_2 r_3 zD zF h
                            · refine v_aload_n (pc' := 114) C 0 dL_hangs_113 rfl rfl ?_
                              refine v_aload_n (pc' := 115) C 0 dL_hangs_114 rfl rfl ?_
                              refine v_calli (pc' := 118) C h (rf := fun r9 => r9) (wS g aD zD ++ wF g aF zF) (fun r9 (u9 : Unit) => wQ aQ aT aN aV aD aF ++ wS g aN zN ++ wS g aD zD ++ wF g aF zF) (fun r hr => run_V C (c_X5_guesses l g aQ aT aN aV aD aF _ r hr) gL_hangs_X5_guesses rfl nd_X5_guesses rfl rfl rfl rfl ⟨Nat.le_of_ble_eq_true rfl, Nat.le_of_ble_eq_true rfl⟩ ⟨Nat.le_of_ble_eq_true rfl, Nat.le_of_ble_eq_true rfl⟩ (Nat.le_of_ble_eq_true rfl) dL_hangs_115 rfl) [0, 1, 2, 3, 4] [5, 6, 7, 8, 9, 10, 11, 12] [8, 9, 10, 11, 12, 0, 1, 2, 3, 4, 5, 6, 7] rfl rfl rfl rfl (by decide) rfl (fun _ _ => rfl) (k' := 0) (n' := 0) rfl rfl rfl (fun r_125 _ _ h => ?_)
                              refine v_calli (pc' := 121) C h (rf := fun r9 => r9) (wS g aD zD ++ wF g aF zF) (fun r9 (u9 : Unit) => wQ aQ aT aN aV aD aF ++ wS g aN zN ++ wS g aD zD ++ wF g aF zF) (fun r hr => run_V C (c_X5_guessAt l g aQ aT aN aV aD aF _ _ r hr) gL_hangs_X5_guessAt rfl nd_X5_guessAt rfl rfl rfl rfl ⟨Nat.le_of_ble_eq_true rfl, Nat.le_of_ble_eq_true rfl⟩ ⟨Nat.le_of_ble_eq_true rfl, Nat.le_of_ble_eq_true rfl⟩ (Nat.le_of_ble_eq_true rfl) dL_hangs_118 rfl) [0, 1, 2, 3, 4] [5, 6, 7, 8, 9, 10, 11, 12] [8, 9, 10, 11, 12, 0, 1, 2, 3, 4, 5, 6, 7] rfl rfl rfl rfl (by decide) rfl (fun _ _ => rfl) (k' := 0) (n' := 0) rfl rfl rfl (fun r_126 _ _ h => ?_)
                              refine v_iconst (pc' := 122) C (-1) dL_hangs_121 ic_m1 rfl ?_
                              refine v_icmp_ne C 157 125 h dL_hangs_122 (by decide) rfl (fun _ h => ?_) (fun _ h => ?_)
                              · exact J157 r_1 r_2 r_3 zD zF h
                              · refine v_aload_n (pc' := 126) C 0 dL_hangs_125 rfl rfl ?_
                                refine v_iconst (pc' := 127) C (-1) dL_hangs_126 ic_m1 rfl ?_
                                refine v_calli (pc' := 130) C h (rf := fun r9 => r9) (wS g aD zD ++ wF g aF zF) (fun r9 (u9 : Unit) => wQ aQ aT aN aV aD aF ++ wS g aN zN ++ wS g aD zD ++ wF g aF zF) (fun r hr => run_V C (c_X5_guessAt l g aQ aT aN aV aD aF _ _ r hr) gL_hangs_X5_guessAt rfl nd_X5_guessAt rfl rfl rfl rfl ⟨Nat.le_of_ble_eq_true rfl, Nat.le_of_ble_eq_true rfl⟩ ⟨Nat.le_of_ble_eq_true rfl, Nat.le_of_ble_eq_true rfl⟩ (Nat.le_of_ble_eq_true rfl) dL_hangs_127 rfl) [0, 1, 2, 3, 4] [5, 6, 7, 8, 9, 10, 11, 12] [8, 9, 10, 11, 12, 0, 1, 2, 3, 4, 5, 6, 7] rfl rfl rfl rfl (by decide) rfl (fun _ _ => rfl) (k' := 0) (n' := 0) rfl rfl rfl (fun r_127 _ _ h => ?_)
                                refine v_iconst (pc' := 131) C (-1) dL_hangs_130 ic_m1 rfl ?_
                                refine v_icmp_ne C 157 134 h dL_hangs_131 (by decide) rfl (fun _ h => ?_) (fun _ h => ?_)
                                · exact J157 r_1 r_2 r_3 zD zF h
                                · refine v_aload_n (pc' := 135) C 0 dL_hangs_134 rfl rfl ?_
                                  refine v_iconst (pc' := 136) C (-1) dL_hangs_135 ic_m1 rfl ?_
                                  refine v_calli (pc' := 139) C h (rf := fun r9 => r9) (wS g aD zD ++ wF g aF zF) (fun r9 (u9 : Unit) => wQ aQ aT aN aV aD aF ++ wS g aN zN ++ wS g aD zD ++ wF g aF zF) (fun r hr => run_V C (c_X5_shown l g aQ aT aN aV aD aF _ _ r hr) gL_hangs_X5_shown rfl nd_X5_shown rfl rfl rfl rfl ⟨Nat.le_of_ble_eq_true rfl, Nat.le_of_ble_eq_true rfl⟩ ⟨Nat.le_of_ble_eq_true rfl, Nat.le_of_ble_eq_true rfl⟩ (Nat.le_of_ble_eq_true rfl) dL_hangs_136 rfl) [0, 1, 2, 3, 4] [5, 6, 7, 8, 9, 10, 11, 12] [8, 9, 10, 11, 12, 0, 1, 2, 3, 4, 5, 6, 7] rfl rfl rfl rfl (by decide) rfl (fun _ _ => rfl) (k' := 0) (n' := 0) rfl rfl rfl (fun r_128 _ _ h => ?_)
                                  refine v_iconst (pc' := 140) C (-1) dL_hangs_139 ic_m1 rfl ?_
                                  refine v_icmp_ne C 157 143 h dL_hangs_140 (by decide) rfl (fun _ h => ?_) (fun _ h => ?_)
                                  · exact J157 r_1 r_2 r_3 zD zF h
                                  · refine v_aload_n (pc' := 144) C 0 dL_hangs_143 rfl rfl ?_
                                    refine v_bipush (pc' := 146) C (8) dL_hangs_144 bc_8 rfl ?_
                                    refine v_calli (pc' := 149) C h (rf := fun r9 => r9) (wS g aD zD ++ wF g aF zF) (fun r9 (u9 : Unit) => wQ aQ aT aN aV aD aF ++ wS g aN zN ++ wS g aD zD ++ wF g aF zF) (fun r hr => run_V C (c_X5_shown l g aQ aT aN aV aD aF _ _ r hr) gL_hangs_X5_shown rfl nd_X5_shown rfl rfl rfl rfl ⟨Nat.le_of_ble_eq_true rfl, Nat.le_of_ble_eq_true rfl⟩ ⟨Nat.le_of_ble_eq_true rfl, Nat.le_of_ble_eq_true rfl⟩ (Nat.le_of_ble_eq_true rfl) dL_hangs_146 rfl) [0, 1, 2, 3, 4] [5, 6, 7, 8, 9, 10, 11, 12] [8, 9, 10, 11, 12, 0, 1, 2, 3, 4, 5, 6, 7] rfl rfl rfl rfl (by decide) rfl (fun _ _ => rfl) (k' := 0) (n' := 0) rfl rfl rfl (fun r_129 _ _ h => ?_)
                                    refine v_iconst (pc' := 150) C (-1) dL_hangs_149 ic_m1 rfl ?_
                                    refine v_icmp_ne C 157 153 h dL_hangs_150 (by decide) rfl (fun _ h => ?_) (fun _ h => ?_)
                                    · exact J157 r_1 r_2 r_3 zD zF h
                                    · refine v_iconst (pc' := 154) C (1) dL_hangs_153 ic_1 rfl ?_
                                      refine v_goto C (pc' := 158) dL_hangs_154 (by decide) ?_
                                      exact J158 r_1 r_2 r_3 zD zF (1 : Int32) h
