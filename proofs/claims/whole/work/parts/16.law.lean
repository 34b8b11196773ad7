/-! ===== the law's loop ===== -/
section VL
variable {p : Program} {l : Launch} {e : Env} {R : Room} {s : State} {m : MethodId} {args : Array Value} {below : List Frame} {meth : Method} {c : Code} {g : Gv} {nL : Nat} {A : Nat → Prop} {k n : Nat} {Q : State → Prop} {cc : ByteArray} {Ts : List Cond} {own : String} {X X' pl : va_W} {lv lv' : List (Nat × Value)} {pc pc' : Nat} {st : List Value} {β : Type} {o : β} {b L : Nat} {xs : Nat → Int32}
theorem v_slen (C : Cx p s m args c g nL A cc Ts own) (hX : va_X b L xs s s.heap) (hbl : b < s.heap.size) (hbA : ¬ A b) (hdg : decode cc pc = .ok (.arraylength, 1)) (hp : pc + 1 = pc') (kk : V p l e R s m args below meth c g nL A k n Q X pl lv pc' (.int (Int32.ofNat L) :: st)) : V p l e R s m args below meth c g nL A k n Q X pl lv pc (.ref b :: st) := by
  subst hp
  exact fun H locs ls hP hD hS hl => va_slen C.1.1 C.1.2.1 hX hbl hbA hS hdg (kk H locs ls hP hD hS hl)
theorem v_sld (C : Cx p s m args c g nL A cc Ts own) {i : Int32} {kx : Int32 → Option β} (h : getA xs L i kx = some o) (hX : va_X b L xs s s.heap) (hbl : b < s.heap.size) (hbA : ¬ A b) (hdg : decode cc pc = .ok (.iaload, 1)) (hp : pc + 1 = pc') (kk : ∀ v : Int32, kx v = some o → V p l e R s m args below meth c g nL A k n Q X pl lv pc' (.int v :: st)) : V p l e R s m args below meth c g nL A k n Q X pl lv pc (.int i :: .ref b :: st) := by
  subst hp
  unfold getA at h
  by_cases hb9 : inB i L = true
  · rw [if_pos hb9] at h
    exact fun H locs ls hP hD hS hl => va_sld C.1.1 C.1.2.1 hX hbl hbA hS (inB_in hb9) hdg (kk _ h H locs ls hP hD hS hl)
  · rw [if_neg hb9] at h; cases h
end VL
abbrev rm_L_law : Room := room_1
def f_L_law_step (xs : Nat → Int32) (L : Nat) (re18 : Int32 → Tx → St → Sv → St → Fm → Md → Option Int32) (v3 : Int32) (zT : Tx) (zN : St) (zV : Sv) (zD : St) (zF : Fm) (zM : Md) : Option Int32 :=
  if ((Int32.ofNat L) - (4 : Int32)) < v3 then some (1 : Int32)
  else getA xs L v3 fun e_1 =>
  if (e_1 &&& (31 : Int32)) = (0 : Int32) then getA xs L (v3 + (1 : Int32)) fun e_2 =>
  Option.bind (f_X5_type zT e_2) fun r_3 =>
  getA xs L (v3 + (1 : Int32)) fun e_4 =>
  Option.bind (f_X6_type zM e_4) fun r_5 =>
  if r_3.1 = r_5.1 then lett (v3 + (4 : Int32)) fun v3_6 =>
  re18 v3_6 r_3.2 zN zV zD zF r_5.2
  else some (0 : Int32)
  else if (e_1 &&& (31 : Int32)) = (1 : Int32) then Option.bind (f_X5_clearText zT) fun r_7 =>
  Option.bind (f_X6_clearText zM) fun r_8 =>
  if r_7.1 = r_8.1 then lett (v3 + (4 : Int32)) fun v3_9 =>
  re18 v3_9 r_7.2 zN zV zD zF r_8.2
  else some (0 : Int32)
  else if (e_1 &&& (31 : Int32)) = (2 : Int32) then Option.bind (f_X5_syntaxError zT) fun r_10 =>
  Option.bind (f_X6_syntaxError zM) fun r_11 =>
  if r_10 = r_11 then lett (v3 + (4 : Int32)) fun v3_12 =>
  re18 v3_12 zT zN zV zD zF zM
  else some (0 : Int32)
  else if (e_1 &&& (31 : Int32)) = (3 : Int32) then Option.bind (f_X5_addWords zT zN zV zD) fun r_13 =>
  Option.bind (f_X6_addWords zM) fun r_15 =>
  if r_13.1 = r_15.1 then lett (v3 + (4 : Int32)) fun v3_16 =>
  re18 v3_16 r_13.2.1 r_13.2.2.1 r_13.2.2.2.1 r_13.2.2.2.2 zF r_15.2
  else some (0 : Int32)
  else if (e_1 &&& (31 : Int32)) = (4 : Int32) then getA xs L (v3 + (1 : Int32)) fun e_17 =>
  Option.bind (f_X5_removeWord zN zV e_17) fun r_18 =>
  getA xs L (v3 + (1 : Int32)) fun e_20 =>
  Option.bind (f_X6_removeWord zM e_20) fun r_21 =>
  if r_18.1 = r_21.1 then lett (v3 + (4 : Int32)) fun v3_22 =>
  re18 v3_22 zT r_18.2.1 r_18.2.2 zD zF r_21.2
  else some (0 : Int32)
  else if (e_1 &&& (31 : Int32)) = (5 : Int32) then Option.bind (f_X5_words zN) fun r_23 =>
  Option.bind (f_X6_words zM) fun r_24 =>
  if r_23 = r_24 then lett (v3 + (4 : Int32)) fun v3_25 =>
  re18 v3_25 zT zN zV zD zF zM
  else some (0 : Int32)
  else if (e_1 &&& (31 : Int32)) = (6 : Int32) then getA xs L (v3 + (1 : Int32)) fun e_26 =>
  getA xs L (v3 + (2 : Int32)) fun e_27 =>
  Option.bind (f_X5_letterOf zN e_26 e_27) fun r_28 =>
  getA xs L (v3 + (1 : Int32)) fun e_29 =>
  getA xs L (v3 + (2 : Int32)) fun e_30 =>
  Option.bind (f_X6_letterOf zM e_29 e_30) fun r_31 =>
  if r_28 = r_31 then lett (v3 + (4 : Int32)) fun v3_32 =>
  re18 v3_32 zT zN zV zD zF zM
  else some (0 : Int32)
  else if (e_1 &&& (31 : Int32)) = (7 : Int32) then getA xs L (v3 + (1 : Int32)) fun e_33 =>
  Option.bind (f_X5_setPolicy zN zV e_33) fun r_34 =>
  getA xs L (v3 + (1 : Int32)) fun e_36 =>
  Option.bind (f_X6_setPolicy zM e_36) fun r_37 =>
  if r_34.1 = r_37.1 then lett (v3 + (4 : Int32)) fun v3_38 =>
  re18 v3_38 zT r_34.2.1 r_34.2.2 zD zF r_37.2
  else some (0 : Int32)
  else if (e_1 &&& (31 : Int32)) = (8 : Int32) then getA xs L (v3 + (1 : Int32)) fun e_39 =>
  getA xs L (v3 + (2 : Int32)) fun e_40 =>
  Option.bind (f_X5_start zN zV e_39 e_40) fun r_41 =>
  getA xs L (v3 + (1 : Int32)) fun e_43 =>
  getA xs L (v3 + (2 : Int32)) fun e_44 =>
  Option.bind (f_X6_start zM e_43 e_44) fun r_45 =>
  if r_41.1 = r_45.1 then lett (v3 + (4 : Int32)) fun v3_46 =>
  re18 v3_46 zT r_41.2.1 r_41.2.2 zD zF r_45.2
  else some (0 : Int32)
  else if (e_1 &&& (31 : Int32)) = (9 : Int32) then getA xs L (v3 + (1 : Int32)) fun e_47 =>
  Option.bind (f_X5_guess zN zV zF e_47) fun r_48 =>
  getA xs L (v3 + (1 : Int32)) fun e_50 =>
  Option.bind (f_X6_guess zM e_50) fun r_51 =>
  if r_48.1 = r_51.1 then lett (v3 + (4 : Int32)) fun v3_52 =>
  re18 v3_52 zT r_48.2.1 r_48.2.2.1 zD r_48.2.2.2 r_51.2
  else some (0 : Int32)
  else if (e_1 &&& (31 : Int32)) = (10 : Int32) then Option.bind (f_X5_guessWord zT zN zV) fun r_53 =>
  Option.bind (f_X6_guessWord zM) fun r_55 =>
  if r_53.1 = r_55.1 then lett (v3 + (4 : Int32)) fun v3_56 =>
  re18 v3_56 r_53.2.1 r_53.2.2.1 r_53.2.2.2 zD zF r_55.2
  else some (0 : Int32)
  else if (e_1 &&& (31 : Int32)) = (11 : Int32) then Option.bind (f_X5_giveUp zN zV) fun r_57 =>
  Option.bind (f_X6_giveUp zM) fun r_59 =>
  if r_57.1 = r_59.1 then lett (v3 + (4 : Int32)) fun v3_60 =>
  re18 v3_60 zT r_57.2.1 r_57.2.2 zD zF r_59.2
  else some (0 : Int32)
  else if (e_1 &&& (31 : Int32)) = (12 : Int32) then Option.bind (f_X5_status zN) fun r_61 =>
  Option.bind (f_X6_status zM) fun r_62 =>
  if r_61 = r_62 then lett (v3 + (4 : Int32)) fun v3_63 =>
  re18 v3_63 zT zN zV zD zF zM
  else some (0 : Int32)
  else if (e_1 &&& (31 : Int32)) = (13 : Int32) then Option.bind (f_X5_lives zN) fun r_64 =>
  Option.bind (f_X6_lives zM) fun r_65 =>
  if r_64 = r_65 then lett (v3 + (4 : Int32)) fun v3_66 =>
  re18 v3_66 zT zN zV zD zF zM
  else some (0 : Int32)
  else if (e_1 &&& (31 : Int32)) = (14 : Int32) then getA xs L (v3 + (1 : Int32)) fun e_67 =>
  Option.bind (f_X5_shown zN e_67) fun r_68 =>
  getA xs L (v3 + (1 : Int32)) fun e_69 =>
  Option.bind (f_X6_shown zM e_69) fun r_70 =>
  if r_68 = r_70 then lett (v3 + (4 : Int32)) fun v3_71 =>
  re18 v3_71 zT zN zV zD zF zM
  else some (0 : Int32)
  else if (e_1 &&& (31 : Int32)) = (15 : Int32) then Option.bind (f_X5_candidates zN) fun r_72 =>
  Option.bind (f_X6_candidates zM) fun r_73 =>
  if r_72 = r_73 then lett (v3 + (4 : Int32)) fun v3_74 =>
  re18 v3_74 zT zN zV zD zF zM
  else some (0 : Int32)
  else if (e_1 &&& (31 : Int32)) = (16 : Int32) then getA xs L (v3 + (1 : Int32)) fun e_75 =>
  Option.bind (f_X5_candidate zN e_75) fun r_76 =>
  getA xs L (v3 + (1 : Int32)) fun e_77 =>
  Option.bind (f_X6_candidate zM e_77) fun r_78 =>
  if r_76 = r_78 then lett (v3 + (4 : Int32)) fun v3_79 =>
  re18 v3_79 zT zN zV zD zF zM
  else some (0 : Int32)
  else if (e_1 &&& (31 : Int32)) = (17 : Int32) then Option.bind (f_X5_guesses zN) fun r_80 =>
  Option.bind (f_X6_guesses zM) fun r_81 =>
  if r_80 = r_81 then lett (v3 + (4 : Int32)) fun v3_82 =>
  re18 v3_82 zT zN zV zD zF zM
  else some (0 : Int32)
  else if (e_1 &&& (31 : Int32)) = (18 : Int32) then getA xs L (v3 + (1 : Int32)) fun e_83 =>
  Option.bind (f_X5_guessAt zN e_83) fun r_84 =>
  getA xs L (v3 + (1 : Int32)) fun e_85 =>
  Option.bind (f_X6_guessAt zM e_85) fun r_86 =>
  if r_84 = r_86 then lett (v3 + (4 : Int32)) fun v3_87 =>
  re18 v3_87 zT zN zV zD zF zM
  else some (0 : Int32)
  else if (e_1 &&& (31 : Int32)) = (19 : Int32) then getA xs L (v3 + (1 : Int32)) fun e_88 =>
  Option.bind (f_X5_families zN zF e_88) fun r_89 =>
  getA xs L (v3 + (1 : Int32)) fun e_90 =>
  Option.bind (f_X6_families zM e_90) fun r_91 =>
  if r_89.1 = r_91.1 then lett (v3 + (4 : Int32)) fun v3_92 =>
  re18 v3_92 zT zN zV zD r_89.2 r_91.2
  else some (0 : Int32)
  else if (e_1 &&& (31 : Int32)) = (20 : Int32) then getA xs L (v3 + (1 : Int32)) fun e_93 =>
  getA xs L (v3 + (2 : Int32)) fun e_94 =>
  getA xs L (v3 + (3 : Int32)) fun e_95 =>
  Option.bind (f_X5_family zN zF e_93 e_94 e_95) fun r_96 =>
  getA xs L (v3 + (1 : Int32)) fun e_97 =>
  getA xs L (v3 + (2 : Int32)) fun e_98 =>
  getA xs L (v3 + (3 : Int32)) fun e_99 =>
  Option.bind (f_X6_family zM e_97 e_98 e_99) fun r_100 =>
  if r_96.1 = r_100.1 then lett (v3 + (4 : Int32)) fun v3_101 =>
  re18 v3_101 zT zN zV zD r_96.2 r_100.2
  else some (0 : Int32)
  else if (e_1 &&& (31 : Int32)) = (21 : Int32) then getA xs L (v3 + (1 : Int32)) fun e_102 =>
  Option.bind (f_X5_spread zN zF e_102) fun r_103 =>
  getA xs L (v3 + (1 : Int32)) fun e_104 =>
  Option.bind (f_X6_spread zM e_104) fun r_105 =>
  if r_103.1 = r_105.1 then lett (v3 + (4 : Int32)) fun v3_106 =>
  re18 v3_106 zT zN zV zD r_103.2 r_105.2
  else some (0 : Int32)
  else if (e_1 &&& (31 : Int32)) = (22 : Int32) then getA xs L (v3 + (1 : Int32)) fun e_107 =>
  Option.bind (f_X5_having zN e_107) fun r_108 =>
  getA xs L (v3 + (1 : Int32)) fun e_109 =>
  Option.bind (f_X6_having zM e_109) fun r_110 =>
  if r_108 = r_110 then lett (v3 + (4 : Int32)) fun v3_111 =>
  re18 v3_111 zT zN zV zD zF zM
  else some (0 : Int32)
  else if (e_1 &&& (31 : Int32)) = (23 : Int32) then Option.bind (f_X5_sureLetters zN) fun r_112 =>
  Option.bind (f_X6_sureLetters zM) fun r_113 =>
  if r_112 = r_113 then lett (v3 + (4 : Int32)) fun v3_114 =>
  re18 v3_114 zT zN zV zD zF zM
  else some (0 : Int32)
  else if (e_1 &&& (31 : Int32)) = (24 : Int32) then Option.bind (f_X5_bestGuess zN zF) fun r_115 =>
  Option.bind (f_X6_bestGuess zM) fun r_116 =>
  if r_115.1 = r_116.1 then lett (v3 + (4 : Int32)) fun v3_117 =>
  re18 v3_117 zT zN zV zD r_115.2 r_116.2
  else some (0 : Int32)
  else if (e_1 &&& (31 : Int32)) = (25 : Int32) then Option.bind (f_X5_missesAhead zN zD zF) fun r_118 =>
  Option.bind (f_X6_missesAhead zM) fun r_119 =>
  if r_118.1 = r_119.1 then lett (v3 + (4 : Int32)) fun v3_120 =>
  re18 v3_120 zT zN zV r_118.2.1 r_118.2.2 r_119.2
  else some (0 : Int32)
  else if (e_1 &&& (31 : Int32)) = (26 : Int32) then getA xs L (v3 + (1 : Int32)) fun e_121 =>
  Option.bind (f_X5_total zN e_121) fun r_122 =>
  getA xs L (v3 + (1 : Int32)) fun e_123 =>
  Option.bind (f_X6_total zM e_123) fun r_124 =>
  if r_122 = r_124 then lett (v3 + (4 : Int32)) fun v3_125 =>
  re18 v3_125 zT zN zV zD zF zM
  else some (0 : Int32)
  else if (e_1 &&& (31 : Int32)) = (27 : Int32) then Option.bind (f_X5_undo zN zV) fun r_126 =>
  Option.bind (f_X6_undo zM) fun r_128 =>
  if r_126.1 = r_128.1 then lett (v3 + (4 : Int32)) fun v3_129 =>
  re18 v3_129 zT r_126.2.1 r_126.2.2 zD zF r_128.2
  else some (0 : Int32)
  else if (e_1 &&& (31 : Int32)) = (28 : Int32) then Option.bind (f_X5_digest zN zF) fun r_130 =>
  Option.bind (f_X6_digest zM) fun r_131 =>
  if r_130.1 = r_131.1 then lett (v3 + (4 : Int32)) fun v3_132 =>
  re18 v3_132 zT zN zV zD r_130.2 r_131.2
  else some (0 : Int32)
  else lett (v3 + (4 : Int32)) fun v3_133 =>
  re18 v3_133 zT zN zV zD zF zM
def f_L_law (xs : Nat → Int32) (L : Nat) : Option Int32 := loop7 (f_L_law_step xs L) FU 0 ini_T ini_S ini_V ini_S ini_F ini_M
set_option maxHeartbeats 8000000 in
set_option maxRecDepth 100000 in
theorem law_loop {p : Program} {l : Launch} {e : Env} {s : State} {m : MethodId} {args : Array Value} {below : List Frame} {meth : Method} {c : Code} {g : Gv} {A : Nat → Prop} {Q : State → Prop} (C : Cx p s m args c g 4 A cL_law wsL_law RL) {b L : Nat} {xs : Nat → Int32} (hscr : va_X b L xs s s.heap) (hbl : b < s.heap.size) (hbA : ¬ A b) (hret : ∀ (X pl : va_W) (lv : List (Nat × Value)) (k n pc : Nat), decode cL_law pc = .ok (.ireturn, 1) → k ≤ 600000 → n ≤ 7302250 → V p l e rm_L_law s m args below meth c g 4 A k n Q X pl lv pc [.int 1]) (aQ : Nat) (aT : A3) (aN : RA) (aV : A2) (aD aF : RA) (aM : A10) : ∀ (N : Nat) (v3 : Int32) (zT : Tx) (zN : St) (zV : Sv) (zD : St) (zF : Fm) (zM : Md), loop7 (f_L_law_step xs L) N v3 zT zN zV zD zF zM = some 1 → ∀ (ra : List RA) (k9 n9 : Nat), ra.length = zV.1.length → k9 + 4 * N ≤ 400000 → n9 + 75 * N ≤ 7000000 → V p l e rm_L_law s m args below meth c g 4 A k9 n9 Q (wQ aQ aT aN aV aD aF ++ wT g aT zT ++ wS g aN zN ++ wV g aV ra zV ++ wS g aD zD ++ wF g aF zF ++ wM g aM zM) (wRing g ra zV.1) [(0, .ref b), (1, .ref aQ), (2, .ref aM.1), (3, .int v3)] 18 [] := by
  intro N
  induction N with
  | zero => intro v3 zT zN zV zD zF zM h; cases h
  | succ N ih18 =>
    intro v3 zT zN zV zD zF zM h ra k9 n9 hra hk9 hn9
    have h : f_L_law_step xs L (loop7 (f_L_law_step xs L) N) v3 zT zN zV zD zF zM = some 1 := h
    generalize loop7 (f_L_law_step xs L) N = re18 at ih18 h
    unfold f_L_law_step at h
    have hkb : k9 ≤ 400000 := by omega
    have hnb : n9 ≤ 7000000 := by omega
    refine v_iload_n (pc' := 19) C 3 dL_law_18 rfl rfl ?_
    refine v_aload_n (pc' := 20) C 0 dL_law_19 rfl rfl ?_
    refine v_slen (pc' := 21) C hscr hbl hbA dL_law_20 rfl ?_
    refine v_iconst (pc' := 22) C (4) dL_law_21 ic_4 rfl ?_
    refine v_isub (pc' := 23) C dL_law_22 rfl ?_
    refine v_icmp_gt C 728 26 h dL_law_23 (by decide) rfl (fun _ h => ?_) (fun _ h => ?_)
    · refine v_iconst (pc' := 729) C (1) dL_law_728 ic_1 rfl ?_
      exact hret _ _ _ _ _ _ dL_law_729 (Nat.le_trans hkb (Nat.le_of_ble_eq_true rfl)) (Nat.le_trans hnb (Nat.le_of_ble_eq_true rfl))
    · refine v_aload_n (pc' := 27) C 0 dL_law_26 rfl rfl ?_
      refine v_iload_n (pc' := 28) C 3 dL_law_27 rfl rfl ?_
      refine v_sld (pc' := 29) C h hscr hbl hbA dL_law_28 rfl (fun e_1 h => ?_)
      refine v_bipush (pc' := 31) C (31) dL_law_29 bc_31 rfl ?_
      refine v_iand (pc' := 32) C dL_law_31 rfl ?_
      refine v_case C (0) 164 h dL_law_32 (by decide) (by decide) rfl (by decide) (fun h => ?_) (fun hc0 h => ?_)
      · refine v_aload_n (pc' := 165) C 1 dL_law_164 rfl rfl ?_
        refine v_aload_n (pc' := 166) C 0 dL_law_165 rfl rfl ?_
        refine v_iload_n (pc' := 167) C 3 dL_law_166 rfl rfl ?_
        refine v_iconst (pc' := 168) C (1) dL_law_167 ic_1 rfl ?_
        refine v_iadd (pc' := 169) C dL_law_168 rfl ?_
        refine v_sld (pc' := 170) C h hscr hbl hbA dL_law_169 rfl (fun e_2 h => ?_)
        refine v_calli (pc' := 173) C h (rf := fun r9 => r9.1) (wS g aN zN ++ wV g aV ra zV ++ wS g aD zD ++ wF g aF zF ++ wM g aM zM) (fun r9 (u9 : Unit) => wQ aQ aT aN aV aD aF ++ wT g aT r9.2 ++ wS g aN zN ++ wV g aV ra zV ++ wS g aD zD ++ wF g aF zF ++ wM g aM zM) (fun r hr => run_V C (c_X5_type l g aQ aT aN aV aD aF _ _ r hr) gL_law_X5_type rfl nd_X5_type rfl rfl rfl rfl ⟨Nat.le_of_ble_eq_true rfl, Nat.le_of_ble_eq_true rfl⟩ ⟨Nat.le_trans (Nat.add_le_add_right hkb _) (Nat.le_of_ble_eq_true rfl), Nat.le_trans (Nat.add_le_add_right hnb _) (Nat.le_of_ble_eq_true rfl)⟩ (Nat.le_of_ble_eq_true rfl) dL_law_170 rfl) [0, 1, 2, 3] [4, 5, 6, 7, 8, 9, 10, 11, 12, 13, 14, 15, 16, 17, 18, 19, 20, 21, 22, 23, 24, 25, 26, 27] [24, 25, 26, 27, 0, 1, 2, 3, 4, 5, 6, 7, 8, 9, 10, 11, 12, 13, 14, 15, 16, 17, 18, 19, 20, 21, 22, 23] rfl rfl rfl rfl (by decide) rfl (fun _ _ => rfl) (k' := k9) (n' := n9) rfl rfl rfl (fun r_3 _ _ h => ?_)
        refine v_aload_n (pc' := 174) C 2 dL_law_173 rfl rfl ?_
        refine v_aload_n (pc' := 175) C 0 dL_law_174 rfl rfl ?_
        refine v_iload_n (pc' := 176) C 3 dL_law_175 rfl rfl ?_
        refine v_iconst (pc' := 177) C (1) dL_law_176 ic_1 rfl ?_
        refine v_iadd (pc' := 178) C dL_law_177 rfl ?_
        refine v_sld (pc' := 179) C h hscr hbl hbA dL_law_178 rfl (fun e_4 h => ?_)
        refine v_calli (pc' := 182) C h (rf := fun r9 => r9.1) (wQ aQ aT aN aV aD aF ++ wT g aT r_3.2 ++ wS g aN zN ++ wV g aV ra zV ++ wS g aD zD ++ wF g aF zF) (fun r9 (u9 : Unit) => wQ aQ aT aN aV aD aF ++ wT g aT r_3.2 ++ wS g aN zN ++ wV g aV ra zV ++ wS g aD zD ++ wF g aF zF ++ wM g aM r9.2) (fun r hr => run_V C (c_X6_type l g aM _ _ r hr) gL_law_X6_type rfl nd_X6_type rfl rfl rfl rfl ⟨Nat.le_of_ble_eq_true rfl, Nat.le_of_ble_eq_true rfl⟩ ⟨Nat.le_trans (Nat.add_le_add_right hkb _) (Nat.le_of_ble_eq_true rfl), Nat.le_trans (Nat.add_le_add_right hnb _) (Nat.le_of_ble_eq_true rfl)⟩ (Nat.le_of_ble_eq_true rfl) dL_law_179 rfl) [18, 19, 20, 21, 22, 23, 24, 25, 26, 27] [0, 1, 2, 3, 4, 5, 6, 7, 8, 9, 10, 11, 12, 13, 14, 15, 16, 17] [0, 1, 2, 3, 4, 5, 6, 7, 8, 9, 10, 11, 12, 13, 14, 15, 16, 17, 18, 19, 20, 21, 22, 23, 24, 25, 26, 27] rfl rfl rfl rfl (by decide) rfl (fun _ _ => rfl) (k' := k9) (n' := n9) rfl rfl rfl (fun r_5 _ _ h => ?_)
        refine v_icmp_eq C 722 185 h dL_law_182 (by decide) rfl (fun _ h => ?_) (fun _ h => ?_)
        · refine v_iinc (pc' := 725) C 3 [1, 2, 3, 0] (4) dL_law_722 rfl ic_4 (Nat.le_of_ble_eq_true rfl) h (lw := fun v9 => [(0, .ref b), (1, .ref aQ), (2, .ref aM.1), (3, .int v9)]) (fun _ => rfl) rfl (fun v3_6 h => ?_)
          refine v_goto C (pc' := 18) dL_law_725 (by decide) ?_
          exact ih18 v3_6 r_3.2 zN zV zD zF r_5.2 h ra _ _ hra (by omega) (by omega)
        · refine v_iconst (pc' := 186) C (0) dL_law_185 ic_0 rfl ?_
          exact absurd (Option.some.inj h) (by decide)
      refine v_case C (1) 187 h dL_law_32 (by decide) (by decide) rfl (by decide) (fun h => ?_) (fun hc1 h => ?_)
      · refine v_aload_n (pc' := 188) C 1 dL_law_187 rfl rfl ?_
        refine v_calli (pc' := 191) C h (rf := fun r9 => r9.1) (wS g aN zN ++ wV g aV ra zV ++ wS g aD zD ++ wF g aF zF ++ wM g aM zM) (fun r9 (u9 : Unit) => wQ aQ aT aN aV aD aF ++ wT g aT r9.2 ++ wS g aN zN ++ wV g aV ra zV ++ wS g aD zD ++ wF g aF zF ++ wM g aM zM) (fun r hr => run_V C (c_X5_clearText l g aQ aT aN aV aD aF _ r hr) gL_law_X5_clearText rfl nd_X5_clearText rfl rfl rfl rfl ⟨Nat.le_of_ble_eq_true rfl, Nat.le_of_ble_eq_true rfl⟩ ⟨Nat.le_trans (Nat.add_le_add_right hkb _) (Nat.le_of_ble_eq_true rfl), Nat.le_trans (Nat.add_le_add_right hnb _) (Nat.le_of_ble_eq_true rfl)⟩ (Nat.le_of_ble_eq_true rfl) dL_law_188 rfl) [0, 1, 2, 3] [4, 5, 6, 7, 8, 9, 10, 11, 12, 13, 14, 15, 16, 17, 18, 19, 20, 21, 22, 23, 24, 25, 26, 27] [24, 25, 26, 27, 0, 1, 2, 3, 4, 5, 6, 7, 8, 9, 10, 11, 12, 13, 14, 15, 16, 17, 18, 19, 20, 21, 22, 23] rfl rfl rfl rfl (by decide) rfl (fun _ _ => rfl) (k' := k9) (n' := n9) rfl rfl rfl (fun r_7 _ _ h => ?_)
        refine v_aload_n (pc' := 192) C 2 dL_law_191 rfl rfl ?_
        refine v_calli (pc' := 195) C h (rf := fun r9 => r9.1) (wQ aQ aT aN aV aD aF ++ wT g aT r_7.2 ++ wS g aN zN ++ wV g aV ra zV ++ wS g aD zD ++ wF g aF zF) (fun r9 (u9 : Unit) => wQ aQ aT aN aV aD aF ++ wT g aT r_7.2 ++ wS g aN zN ++ wV g aV ra zV ++ wS g aD zD ++ wF g aF zF ++ wM g aM r9.2) (fun r hr => run_V C (c_X6_clearText l g aM _ r hr) gL_law_X6_clearText rfl nd_X6_clearText rfl rfl rfl rfl ⟨Nat.le_of_ble_eq_true rfl, Nat.le_of_ble_eq_true rfl⟩ ⟨Nat.le_trans (Nat.add_le_add_right hkb _) (Nat.le_of_ble_eq_true rfl), Nat.le_trans (Nat.add_le_add_right hnb _) (Nat.le_of_ble_eq_true rfl)⟩ (Nat.le_of_ble_eq_true rfl) dL_law_192 rfl) [18, 19, 20, 21, 22, 23, 24, 25, 26, 27] [0, 1, 2, 3, 4, 5, 6, 7, 8, 9, 10, 11, 12, 13, 14, 15, 16, 17] [0, 1, 2, 3, 4, 5, 6, 7, 8, 9, 10, 11, 12, 13, 14, 15, 16, 17, 18, 19, 20, 21, 22, 23, 24, 25, 26, 27] rfl rfl rfl rfl (by decide) rfl (fun _ _ => rfl) (k' := k9) (n' := n9) rfl rfl rfl (fun r_8 _ _ h => ?_)
        refine v_icmp_eq C 722 198 h dL_law_195 (by decide) rfl (fun _ h => ?_) (fun _ h => ?_)
        · refine v_iinc (pc' := 725) C 3 [1, 2, 3, 0] (4) dL_law_722 rfl ic_4 (Nat.le_of_ble_eq_true rfl) h (lw := fun v9 => [(0, .ref b), (1, .ref aQ), (2, .ref aM.1), (3, .int v9)]) (fun _ => rfl) rfl (fun v3_9 h => ?_)
          refine v_goto C (pc' := 18) dL_law_725 (by decide) ?_
          exact ih18 v3_9 r_7.2 zN zV zD zF r_8.2 h ra _ _ hra (by omega) (by omega)
        · refine v_iconst (pc' := 199) C (0) dL_law_198 ic_0 rfl ?_
          exact absurd (Option.some.inj h) (by decide)
      refine v_case C (2) 200 h dL_law_32 (by decide) (by decide) rfl (by decide) (fun h => ?_) (fun hc2 h => ?_)
      · refine v_aload_n (pc' := 201) C 1 dL_law_200 rfl rfl ?_
        refine v_calli (pc' := 204) C h (rf := fun r9 => r9) (wS g aN zN ++ wV g aV ra zV ++ wS g aD zD ++ wF g aF zF ++ wM g aM zM) (fun r9 (u9 : Unit) => wQ aQ aT aN aV aD aF ++ wT g aT zT ++ wS g aN zN ++ wV g aV ra zV ++ wS g aD zD ++ wF g aF zF ++ wM g aM zM) (fun r hr => run_V C (c_X5_syntaxError l g aQ aT aN aV aD aF _ r hr) gL_law_X5_syntaxError rfl nd_X5_syntaxError rfl rfl rfl rfl ⟨Nat.le_of_ble_eq_true rfl, Nat.le_of_ble_eq_true rfl⟩ ⟨Nat.le_trans (Nat.add_le_add_right hkb _) (Nat.le_of_ble_eq_true rfl), Nat.le_trans (Nat.add_le_add_right hnb _) (Nat.le_of_ble_eq_true rfl)⟩ (Nat.le_of_ble_eq_true rfl) dL_law_201 rfl) [0, 1, 2, 3] [4, 5, 6, 7, 8, 9, 10, 11, 12, 13, 14, 15, 16, 17, 18, 19, 20, 21, 22, 23, 24, 25, 26, 27] [24, 25, 26, 27, 0, 1, 2, 3, 4, 5, 6, 7, 8, 9, 10, 11, 12, 13, 14, 15, 16, 17, 18, 19, 20, 21, 22, 23] rfl rfl rfl rfl (by decide) rfl (fun _ _ => rfl) (k' := k9) (n' := n9) rfl rfl rfl (fun r_10 _ _ h => ?_)
        refine v_aload_n (pc' := 205) C 2 dL_law_204 rfl rfl ?_
        refine v_calli (pc' := 208) C h (rf := fun r9 => r9) (wQ aQ aT aN aV aD aF ++ wT g aT zT ++ wS g aN zN ++ wV g aV ra zV ++ wS g aD zD ++ wF g aF zF) (fun r9 (u9 : Unit) => wQ aQ aT aN aV aD aF ++ wT g aT zT ++ wS g aN zN ++ wV g aV ra zV ++ wS g aD zD ++ wF g aF zF ++ wM g aM zM) (fun r hr => run_V C (c_X6_syntaxError l g aM _ r hr) gL_law_X6_syntaxError rfl nd_X6_syntaxError rfl rfl rfl rfl ⟨Nat.le_of_ble_eq_true rfl, Nat.le_of_ble_eq_true rfl⟩ ⟨Nat.le_trans (Nat.add_le_add_right hkb _) (Nat.le_of_ble_eq_true rfl), Nat.le_trans (Nat.add_le_add_right hnb _) (Nat.le_of_ble_eq_true rfl)⟩ (Nat.le_of_ble_eq_true rfl) dL_law_205 rfl) [18, 19, 20, 21, 22, 23, 24, 25, 26, 27] [0, 1, 2, 3, 4, 5, 6, 7, 8, 9, 10, 11, 12, 13, 14, 15, 16, 17] [0, 1, 2, 3, 4, 5, 6, 7, 8, 9, 10, 11, 12, 13, 14, 15, 16, 17, 18, 19, 20, 21, 22, 23, 24, 25, 26, 27] rfl rfl rfl rfl (by decide) rfl (fun _ _ => rfl) (k' := k9) (n' := n9) rfl rfl rfl (fun r_11 _ _ h => ?_)
        refine v_icmp_eq C 722 211 h dL_law_208 (by decide) rfl (fun _ h => ?_) (fun _ h => ?_)
        · refine v_iinc (pc' := 725) C 3 [1, 2, 3, 0] (4) dL_law_722 rfl ic_4 (Nat.le_of_ble_eq_true rfl) h (lw := fun v9 => [(0, .ref b), (1, .ref aQ), (2, .ref aM.1), (3, .int v9)]) (fun _ => rfl) rfl (fun v3_12 h => ?_)
          refine v_goto C (pc' := 18) dL_law_725 (by decide) ?_
          exact ih18 v3_12 zT zN zV zD zF zM h ra _ _ hra (by omega) (by omega)
        · refine v_iconst (pc' := 212) C (0) dL_law_211 ic_0 rfl ?_
          exact absurd (Option.some.inj h) (by decide)
      refine v_case C (3) 213 h dL_law_32 (by decide) (by decide) rfl (by decide) (fun h => ?_) (fun hc3 h => ?_)
      · refine v_aload_n (pc' := 214) C 1 dL_law_213 rfl rfl ?_
        refine v_callPi (pc' := 217) C h (rf := fun r9 => r9.1) (wF g aF zF ++ wM g aM zM) (fun r9 u9 => wQ aQ aT aN aV aD aF ++ wT g aT r9.2.1 ++ wS g aN r9.2.2.1 ++ wV g aV u9 r9.2.2.2.1 ++ wS g aD r9.2.2.2.2 ++ wF g aF zF ++ wM g aM zM) (fun r hr => run_V C (c_X5_addWords l g aQ aT aN aV aD aF _ _ _ _ _ r hr hra) gL_law_X5_addWords rfl nd_X5_addWords rfl rfl rfl rfl ⟨Nat.le_of_ble_eq_true rfl, Nat.le_of_ble_eq_true rfl⟩ ⟨Nat.le_trans (Nat.add_le_add_right hkb _) (Nat.le_of_ble_eq_true rfl), Nat.le_trans (Nat.add_le_add_right hnb _) (Nat.le_of_ble_eq_true rfl)⟩ (Nat.le_of_ble_eq_true rfl) dL_law_214 rfl) [0, 1, 2, 3, 4, 5, 6, 7, 8, 9, 10, 11, 12, 13] [14, 15, 16, 17, 18, 19, 20, 21, 22, 23, 24, 25, 26, 27] [14, 15, 16, 17, 18, 19, 20, 21, 22, 23, 24, 25, 26, 27, 0, 1, 2, 3, 4, 5, 6, 7, 8, 9, 10, 11, 12, 13] rfl rfl rfl rfl (by decide) rfl (fun _ _ => rfl) (k' := (k9 + 4)) (n' := (n9 + 75)) rfl rfl rfl (fun r_13 ra_14 hra h => ?_)
        refine v_aload_n (pc' := 218) C 2 dL_law_217 rfl rfl ?_
        refine v_calli (pc' := 221) C h (rf := fun r9 => r9.1) (wQ aQ aT aN aV aD aF ++ wT g aT r_13.2.1 ++ wS g aN r_13.2.2.1 ++ wV g aV ra_14 r_13.2.2.2.1 ++ wS g aD r_13.2.2.2.2 ++ wF g aF zF) (fun r9 (u9 : Unit) => wQ aQ aT aN aV aD aF ++ wT g aT r_13.2.1 ++ wS g aN r_13.2.2.1 ++ wV g aV ra_14 r_13.2.2.2.1 ++ wS g aD r_13.2.2.2.2 ++ wF g aF zF ++ wM g aM r9.2) (fun r hr => run_V C (c_X6_addWords l g aM _ r hr) gL_law_X6_addWords rfl nd_X6_addWords rfl rfl rfl rfl ⟨Nat.le_of_ble_eq_true rfl, Nat.le_of_ble_eq_true rfl⟩ ⟨Nat.le_trans (Nat.add_le_add_right (Nat.add_le_add_right hkb 4) _) (Nat.le_of_ble_eq_true rfl), Nat.le_trans (Nat.add_le_add_right (Nat.add_le_add_right hnb 75) _) (Nat.le_of_ble_eq_true rfl)⟩ (Nat.le_of_ble_eq_true rfl) dL_law_218 rfl) [18, 19, 20, 21, 22, 23, 24, 25, 26, 27] [0, 1, 2, 3, 4, 5, 6, 7, 8, 9, 10, 11, 12, 13, 14, 15, 16, 17] [0, 1, 2, 3, 4, 5, 6, 7, 8, 9, 10, 11, 12, 13, 14, 15, 16, 17, 18, 19, 20, 21, 22, 23, 24, 25, 26, 27] rfl rfl rfl rfl (by decide) rfl (fun _ _ => rfl) (k' := (k9 + 4)) (n' := (n9 + 75)) rfl rfl rfl (fun r_15 _ _ h => ?_)
        refine v_icmp_eq C 722 224 h dL_law_221 (by decide) rfl (fun _ h => ?_) (fun _ h => ?_)
        · refine v_iinc (pc' := 725) C 3 [1, 2, 3, 0] (4) dL_law_722 rfl ic_4 (Nat.le_of_ble_eq_true rfl) h (lw := fun v9 => [(0, .ref b), (1, .ref aQ), (2, .ref aM.1), (3, .int v9)]) (fun _ => rfl) rfl (fun v3_16 h => ?_)
          refine v_goto C (pc' := 18) dL_law_725 (by decide) ?_
          exact ih18 v3_16 r_13.2.1 r_13.2.2.1 r_13.2.2.2.1 r_13.2.2.2.2 zF r_15.2 h ra_14 _ _ hra (by omega) (by omega)
        · refine v_iconst (pc' := 225) C (0) dL_law_224 ic_0 rfl ?_
          exact absurd (Option.some.inj h) (by decide)
      refine v_case C (4) 226 h dL_law_32 (by decide) (by decide) rfl (by decide) (fun h => ?_) (fun hc4 h => ?_)
      · refine v_aload_n (pc' := 227) C 1 dL_law_226 rfl rfl ?_
        refine v_aload_n (pc' := 228) C 0 dL_law_227 rfl rfl ?_
        refine v_iload_n (pc' := 229) C 3 dL_law_228 rfl rfl ?_
        refine v_iconst (pc' := 230) C (1) dL_law_229 ic_1 rfl ?_
        refine v_iadd (pc' := 231) C dL_law_230 rfl ?_
        refine v_sld (pc' := 232) C h hscr hbl hbA dL_law_231 rfl (fun e_17 h => ?_)
        refine v_callPi (pc' := 235) C h (rf := fun r9 => r9.1) (wT g aT zT ++ wS g aD zD ++ wF g aF zF ++ wM g aM zM) (fun r9 u9 => wQ aQ aT aN aV aD aF ++ wT g aT zT ++ wS g aN r9.2.1 ++ wV g aV u9 r9.2.2 ++ wS g aD zD ++ wF g aF zF ++ wM g aM zM) (fun r hr => run_V C (c_X5_removeWord l g aQ aT aN aV aD aF _ _ _ _ r hr hra) gL_law_X5_removeWord rfl nd_X5_removeWord rfl rfl rfl rfl ⟨Nat.le_of_ble_eq_true rfl, Nat.le_of_ble_eq_true rfl⟩ ⟨Nat.le_trans (Nat.add_le_add_right hkb _) (Nat.le_of_ble_eq_true rfl), Nat.le_trans (Nat.add_le_add_right hnb _) (Nat.le_of_ble_eq_true rfl)⟩ (Nat.le_of_ble_eq_true rfl) dL_law_232 rfl) [0, 4, 5, 6, 7, 8, 9] [1, 2, 3, 10, 11, 12, 13, 14, 15, 16, 17, 18, 19, 20, 21, 22, 23, 24, 25, 26, 27] [21, 0, 1, 2, 22, 23, 24, 25, 26, 27, 3, 4, 5, 6, 7, 8, 9, 10, 11, 12, 13, 14, 15, 16, 17, 18, 19, 20] rfl rfl rfl rfl (by decide) rfl (fun _ _ => rfl) (k' := (k9 + 4)) (n' := (n9 + 75)) rfl rfl rfl (fun r_18 ra_19 hra h => ?_)
        refine v_aload_n (pc' := 236) C 2 dL_law_235 rfl rfl ?_
        refine v_aload_n (pc' := 237) C 0 dL_law_236 rfl rfl ?_
        refine v_iload_n (pc' := 238) C 3 dL_law_237 rfl rfl ?_
        refine v_iconst (pc' := 239) C (1) dL_law_238 ic_1 rfl ?_
        refine v_iadd (pc' := 240) C dL_law_239 rfl ?_
        refine v_sld (pc' := 241) C h hscr hbl hbA dL_law_240 rfl (fun e_20 h => ?_)
        refine v_calli (pc' := 244) C h (rf := fun r9 => r9.1) (wQ aQ aT aN aV aD aF ++ wT g aT zT ++ wS g aN r_18.2.1 ++ wV g aV ra_19 r_18.2.2 ++ wS g aD zD ++ wF g aF zF) (fun r9 (u9 : Unit) => wQ aQ aT aN aV aD aF ++ wT g aT zT ++ wS g aN r_18.2.1 ++ wV g aV ra_19 r_18.2.2 ++ wS g aD zD ++ wF g aF zF ++ wM g aM r9.2) (fun r hr => run_V C (c_X6_removeWord l g aM _ _ r hr) gL_law_X6_removeWord rfl nd_X6_removeWord rfl rfl rfl rfl ⟨Nat.le_of_ble_eq_true rfl, Nat.le_of_ble_eq_true rfl⟩ ⟨Nat.le_trans (Nat.add_le_add_right (Nat.add_le_add_right hkb 4) _) (Nat.le_of_ble_eq_true rfl), Nat.le_trans (Nat.add_le_add_right (Nat.add_le_add_right hnb 75) _) (Nat.le_of_ble_eq_true rfl)⟩ (Nat.le_of_ble_eq_true rfl) dL_law_241 rfl) [18, 19, 20, 21, 22, 23, 24, 25, 26, 27] [0, 1, 2, 3, 4, 5, 6, 7, 8, 9, 10, 11, 12, 13, 14, 15, 16, 17] [0, 1, 2, 3, 4, 5, 6, 7, 8, 9, 10, 11, 12, 13, 14, 15, 16, 17, 18, 19, 20, 21, 22, 23, 24, 25, 26, 27] rfl rfl rfl rfl (by decide) rfl (fun _ _ => rfl) (k' := (k9 + 4)) (n' := (n9 + 75)) rfl rfl rfl (fun r_21 _ _ h => ?_)
        refine v_icmp_eq C 722 247 h dL_law_244 (by decide) rfl (fun _ h => ?_) (fun _ h => ?_)
        · refine v_iinc (pc' := 725) C 3 [1, 2, 3, 0] (4) dL_law_722 rfl ic_4 (Nat.le_of_ble_eq_true rfl) h (lw := fun v9 => [(0, .ref b), (1, .ref aQ), (2, .ref aM.1), (3, .int v9)]) (fun _ => rfl) rfl (fun v3_22 h => ?_)
          refine v_goto C (pc' := 18) dL_law_725 (by decide) ?_
          exact ih18 v3_22 zT r_18.2.1 r_18.2.2 zD zF r_21.2 h ra_19 _ _ hra (by omega) (by omega)
        · refine v_iconst (pc' := 248) C (0) dL_law_247 ic_0 rfl ?_
          exact absurd (Option.some.inj h) (by decide)
      refine v_case C (5) 249 h dL_law_32 (by decide) (by decide) rfl (by decide) (fun h => ?_) (fun hc5 h => ?_)
      · refine v_aload_n (pc' := 250) C 1 dL_law_249 rfl rfl ?_
        refine v_calli (pc' := 253) C h (rf := fun r9 => r9) (wT g aT zT ++ wV g aV ra zV ++ wS g aD zD ++ wF g aF zF ++ wM g aM zM) (fun r9 (u9 : Unit) => wQ aQ aT aN aV aD aF ++ wT g aT zT ++ wS g aN zN ++ wV g aV ra zV ++ wS g aD zD ++ wF g aF zF ++ wM g aM zM) (fun r hr => run_V C (c_X5_words l g aQ aT aN aV aD aF _ r hr) gL_law_X5_words rfl nd_X5_words rfl rfl rfl rfl ⟨Nat.le_of_ble_eq_true rfl, Nat.le_of_ble_eq_true rfl⟩ ⟨Nat.le_trans (Nat.add_le_add_right hkb _) (Nat.le_of_ble_eq_true rfl), Nat.le_trans (Nat.add_le_add_right hnb _) (Nat.le_of_ble_eq_true rfl)⟩ (Nat.le_of_ble_eq_true rfl) dL_law_250 rfl) [0, 4, 5, 6, 7] [1, 2, 3, 8, 9, 10, 11, 12, 13, 14, 15, 16, 17, 18, 19, 20, 21, 22, 23, 24, 25, 26, 27] [23, 0, 1, 2, 24, 25, 26, 27, 3, 4, 5, 6, 7, 8, 9, 10, 11, 12, 13, 14, 15, 16, 17, 18, 19, 20, 21, 22] rfl rfl rfl rfl (by decide) rfl (fun _ _ => rfl) (k' := k9) (n' := n9) rfl rfl rfl (fun r_23 _ _ h => ?_)
        refine v_aload_n (pc' := 254) C 2 dL_law_253 rfl rfl ?_
        refine v_calli (pc' := 257) C h (rf := fun r9 => r9) (wQ aQ aT aN aV aD aF ++ wT g aT zT ++ wS g aN zN ++ wV g aV ra zV ++ wS g aD zD ++ wF g aF zF) (fun r9 (u9 : Unit) => wQ aQ aT aN aV aD aF ++ wT g aT zT ++ wS g aN zN ++ wV g aV ra zV ++ wS g aD zD ++ wF g aF zF ++ wM g aM zM) (fun r hr => run_V C (c_X6_words l g aM _ r hr) gL_law_X6_words rfl nd_X6_words rfl rfl rfl rfl ⟨Nat.le_of_ble_eq_true rfl, Nat.le_of_ble_eq_true rfl⟩ ⟨Nat.le_trans (Nat.add_le_add_right hkb _) (Nat.le_of_ble_eq_true rfl), Nat.le_trans (Nat.add_le_add_right hnb _) (Nat.le_of_ble_eq_true rfl)⟩ (Nat.le_of_ble_eq_true rfl) dL_law_254 rfl) [18, 19, 20, 21, 22, 23, 24, 25, 26, 27] [0, 1, 2, 3, 4, 5, 6, 7, 8, 9, 10, 11, 12, 13, 14, 15, 16, 17] [0, 1, 2, 3, 4, 5, 6, 7, 8, 9, 10, 11, 12, 13, 14, 15, 16, 17, 18, 19, 20, 21, 22, 23, 24, 25, 26, 27] rfl rfl rfl rfl (by decide) rfl (fun _ _ => rfl) (k' := k9) (n' := n9) rfl rfl rfl (fun r_24 _ _ h => ?_)
        refine v_icmp_eq C 722 260 h dL_law_257 (by decide) rfl (fun _ h => ?_) (fun _ h => ?_)
        · refine v_iinc (pc' := 725) C 3 [1, 2, 3, 0] (4) dL_law_722 rfl ic_4 (Nat.le_of_ble_eq_true rfl) h (lw := fun v9 => [(0, .ref b), (1, .ref aQ), (2, .ref aM.1), (3, .int v9)]) (fun _ => rfl) rfl (fun v3_25 h => ?_)
          refine v_goto C (pc' := 18) dL_law_725 (by decide) ?_
          exact ih18 v3_25 zT zN zV zD zF zM h ra _ _ hra (by omega) (by omega)
        · refine v_iconst (pc' := 261) C (0) dL_law_260 ic_0 rfl ?_
          exact absurd (Option.some.inj h) (by decide)
      refine v_case C (6) 262 h dL_law_32 (by decide) (by decide) rfl (by decide) (fun h => ?_) (fun hc6 h => ?_)
      · refine v_aload_n (pc' := 263) C 1 dL_law_262 rfl rfl ?_
        refine v_aload_n (pc' := 264) C 0 dL_law_263 rfl rfl ?_
        refine v_iload_n (pc' := 265) C 3 dL_law_264 rfl rfl ?_
        refine v_iconst (pc' := 266) C (1) dL_law_265 ic_1 rfl ?_
        refine v_iadd (pc' := 267) C dL_law_266 rfl ?_
        refine v_sld (pc' := 268) C h hscr hbl hbA dL_law_267 rfl (fun e_26 h => ?_)
        refine v_aload_n (pc' := 269) C 0 dL_law_268 rfl rfl ?_
        refine v_iload_n (pc' := 270) C 3 dL_law_269 rfl rfl ?_
        refine v_iconst (pc' := 271) C (2) dL_law_270 ic_2 rfl ?_
        refine v_iadd (pc' := 272) C dL_law_271 rfl ?_
        refine v_sld (pc' := 273) C h hscr hbl hbA dL_law_272 rfl (fun e_27 h => ?_)
        refine v_calli (pc' := 276) C h (rf := fun r9 => r9) (wT g aT zT ++ wV g aV ra zV ++ wS g aD zD ++ wF g aF zF ++ wM g aM zM) (fun r9 (u9 : Unit) => wQ aQ aT aN aV aD aF ++ wT g aT zT ++ wS g aN zN ++ wV g aV ra zV ++ wS g aD zD ++ wF g aF zF ++ wM g aM zM) (fun r hr => run_V C (c_X5_letterOf l g aQ aT aN aV aD aF _ _ _ r hr) gL_law_X5_letterOf rfl nd_X5_letterOf rfl rfl rfl rfl ⟨Nat.le_of_ble_eq_true rfl, Nat.le_of_ble_eq_true rfl⟩ ⟨Nat.le_trans (Nat.add_le_add_right hkb _) (Nat.le_of_ble_eq_true rfl), Nat.le_trans (Nat.add_le_add_right hnb _) (Nat.le_of_ble_eq_true rfl)⟩ (Nat.le_of_ble_eq_true rfl) dL_law_273 rfl) [0, 4, 5, 6, 7] [1, 2, 3, 8, 9, 10, 11, 12, 13, 14, 15, 16, 17, 18, 19, 20, 21, 22, 23, 24, 25, 26, 27] [23, 0, 1, 2, 24, 25, 26, 27, 3, 4, 5, 6, 7, 8, 9, 10, 11, 12, 13, 14, 15, 16, 17, 18, 19, 20, 21, 22] rfl rfl rfl rfl (by decide) rfl (fun _ _ => rfl) (k' := k9) (n' := n9) rfl rfl rfl (fun r_28 _ _ h => ?_)
        refine v_aload_n (pc' := 277) C 2 dL_law_276 rfl rfl ?_
        refine v_aload_n (pc' := 278) C 0 dL_law_277 rfl rfl ?_
        refine v_iload_n (pc' := 279) C 3 dL_law_278 rfl rfl ?_
        refine v_iconst (pc' := 280) C (1) dL_law_279 ic_1 rfl ?_
        refine v_iadd (pc' := 281) C dL_law_280 rfl ?_
        refine v_sld (pc' := 282) C h hscr hbl hbA dL_law_281 rfl (fun e_29 h => ?_)
        refine v_aload_n (pc' := 283) C 0 dL_law_282 rfl rfl ?_
        refine v_iload_n (pc' := 284) C 3 dL_law_283 rfl rfl ?_
        refine v_iconst (pc' := 285) C (2) dL_law_284 ic_2 rfl ?_
        refine v_iadd (pc' := 286) C dL_law_285 rfl ?_
        refine v_sld (pc' := 287) C h hscr hbl hbA dL_law_286 rfl (fun e_30 h => ?_)
        refine v_calli (pc' := 290) C h (rf := fun r9 => r9) (wQ aQ aT aN aV aD aF ++ wT g aT zT ++ wS g aN zN ++ wV g aV ra zV ++ wS g aD zD ++ wF g aF zF) (fun r9 (u9 : Unit) => wQ aQ aT aN aV aD aF ++ wT g aT zT ++ wS g aN zN ++ wV g aV ra zV ++ wS g aD zD ++ wF g aF zF ++ wM g aM zM) (fun r hr => run_V C (c_X6_letterOf l g aM _ _ _ r hr) gL_law_X6_letterOf rfl nd_X6_letterOf rfl rfl rfl rfl ⟨Nat.le_of_ble_eq_true rfl, Nat.le_of_ble_eq_true rfl⟩ ⟨Nat.le_trans (Nat.add_le_add_right hkb _) (Nat.le_of_ble_eq_true rfl), Nat.le_trans (Nat.add_le_add_right hnb _) (Nat.le_of_ble_eq_true rfl)⟩ (Nat.le_of_ble_eq_true rfl) dL_law_287 rfl) [18, 19, 20, 21, 22, 23, 24, 25, 26, 27] [0, 1, 2, 3, 4, 5, 6, 7, 8, 9, 10, 11, 12, 13, 14, 15, 16, 17] [0, 1, 2, 3, 4, 5, 6, 7, 8, 9, 10, 11, 12, 13, 14, 15, 16, 17, 18, 19, 20, 21, 22, 23, 24, 25, 26, 27] rfl rfl rfl rfl (by decide) rfl (fun _ _ => rfl) (k' := k9) (n' := n9) rfl rfl rfl (fun r_31 _ _ h => ?_)
        refine v_icmp_eq C 722 293 h dL_law_290 (by decide) rfl (fun _ h => ?_) (fun _ h => ?_)
        · refine v_iinc (pc' := 725) C 3 [1, 2, 3, 0] (4) dL_law_722 rfl ic_4 (Nat.le_of_ble_eq_true rfl) h (lw := fun v9 => [(0, .ref b), (1, .ref aQ), (2, .ref aM.1), (3, .int v9)]) (fun _ => rfl) rfl (fun v3_32 h => ?_)
          refine v_goto C (pc' := 18) dL_law_725 (by decide) ?_
          exact ih18 v3_32 zT zN zV zD zF zM h ra _ _ hra (by omega) (by omega)
        · refine v_iconst (pc' := 294) C (0) dL_law_293 ic_0 rfl ?_
          exact absurd (Option.some.inj h) (by decide)
      refine v_case C (7) 295 h dL_law_32 (by decide) (by decide) rfl (by decide) (fun h => ?_) (fun hc7 h => ?_)
      · refine v_aload_n (pc' := 296) C 1 dL_law_295 rfl rfl ?_
        refine v_aload_n (pc' := 297) C 0 dL_law_296 rfl rfl ?_
        refine v_iload_n (pc' := 298) C 3 dL_law_297 rfl rfl ?_
        refine v_iconst (pc' := 299) C (1) dL_law_298 ic_1 rfl ?_
        refine v_iadd (pc' := 300) C dL_law_299 rfl ?_
        refine v_sld (pc' := 301) C h hscr hbl hbA dL_law_300 rfl (fun e_33 h => ?_)
        refine v_callPi (pc' := 304) C h (rf := fun r9 => r9.1) (wT g aT zT ++ wS g aD zD ++ wF g aF zF ++ wM g aM zM) (fun r9 u9 => wQ aQ aT aN aV aD aF ++ wT g aT zT ++ wS g aN r9.2.1 ++ wV g aV u9 r9.2.2 ++ wS g aD zD ++ wF g aF zF ++ wM g aM zM) (fun r hr => run_V C (c_X5_setPolicy l g aQ aT aN aV aD aF _ _ _ _ r hr hra) gL_law_X5_setPolicy rfl nd_X5_setPolicy rfl rfl rfl rfl ⟨Nat.le_of_ble_eq_true rfl, Nat.le_of_ble_eq_true rfl⟩ ⟨Nat.le_trans (Nat.add_le_add_right hkb _) (Nat.le_of_ble_eq_true rfl), Nat.le_trans (Nat.add_le_add_right hnb _) (Nat.le_of_ble_eq_true rfl)⟩ (Nat.le_of_ble_eq_true rfl) dL_law_301 rfl) [0, 4, 5, 6, 7, 8, 9] [1, 2, 3, 10, 11, 12, 13, 14, 15, 16, 17, 18, 19, 20, 21, 22, 23, 24, 25, 26, 27] [21, 0, 1, 2, 22, 23, 24, 25, 26, 27, 3, 4, 5, 6, 7, 8, 9, 10, 11, 12, 13, 14, 15, 16, 17, 18, 19, 20] rfl rfl rfl rfl (by decide) rfl (fun _ _ => rfl) (k' := (k9 + 4)) (n' := (n9 + 75)) rfl rfl rfl (fun r_34 ra_35 hra h => ?_)
        refine v_aload_n (pc' := 305) C 2 dL_law_304 rfl rfl ?_
        refine v_aload_n (pc' := 306) C 0 dL_law_305 rfl rfl ?_
        refine v_iload_n (pc' := 307) C 3 dL_law_306 rfl rfl ?_
        refine v_iconst (pc' := 308) C (1) dL_law_307 ic_1 rfl ?_
        refine v_iadd (pc' := 309) C dL_law_308 rfl ?_
        refine v_sld (pc' := 310) C h hscr hbl hbA dL_law_309 rfl (fun e_36 h => ?_)
        refine v_calli (pc' := 313) C h (rf := fun r9 => r9.1) (wQ aQ aT aN aV aD aF ++ wT g aT zT ++ wS g aN r_34.2.1 ++ wV g aV ra_35 r_34.2.2 ++ wS g aD zD ++ wF g aF zF) (fun r9 (u9 : Unit) => wQ aQ aT aN aV aD aF ++ wT g aT zT ++ wS g aN r_34.2.1 ++ wV g aV ra_35 r_34.2.2 ++ wS g aD zD ++ wF g aF zF ++ wM g aM r9.2) (fun r hr => run_V C (c_X6_setPolicy l g aM _ _ r hr) gL_law_X6_setPolicy rfl nd_X6_setPolicy rfl rfl rfl rfl ⟨Nat.le_of_ble_eq_true rfl, Nat.le_of_ble_eq_true rfl⟩ ⟨Nat.le_trans (Nat.add_le_add_right (Nat.add_le_add_right hkb 4) _) (Nat.le_of_ble_eq_true rfl), Nat.le_trans (Nat.add_le_add_right (Nat.add_le_add_right hnb 75) _) (Nat.le_of_ble_eq_true rfl)⟩ (Nat.le_of_ble_eq_true rfl) dL_law_310 rfl) [18, 19, 20, 21, 22, 23, 24, 25, 26, 27] [0, 1, 2, 3, 4, 5, 6, 7, 8, 9, 10, 11, 12, 13, 14, 15, 16, 17] [0, 1, 2, 3, 4, 5, 6, 7, 8, 9, 10, 11, 12, 13, 14, 15, 16, 17, 18, 19, 20, 21, 22, 23, 24, 25, 26, 27] rfl rfl rfl rfl (by decide) rfl (fun _ _ => rfl) (k' := (k9 + 4)) (n' := (n9 + 75)) rfl rfl rfl (fun r_37 _ _ h => ?_)
        refine v_icmp_eq C 722 316 h dL_law_313 (by decide) rfl (fun _ h => ?_) (fun _ h => ?_)
        · refine v_iinc (pc' := 725) C 3 [1, 2, 3, 0] (4) dL_law_722 rfl ic_4 (Nat.le_of_ble_eq_true rfl) h (lw := fun v9 => [(0, .ref b), (1, .ref aQ), (2, .ref aM.1), (3, .int v9)]) (fun _ => rfl) rfl (fun v3_38 h => ?_)
          refine v_goto C (pc' := 18) dL_law_725 (by decide) ?_
          exact ih18 v3_38 zT r_34.2.1 r_34.2.2 zD zF r_37.2 h ra_35 _ _ hra (by omega) (by omega)
        · refine v_iconst (pc' := 317) C (0) dL_law_316 ic_0 rfl ?_
          exact absurd (Option.some.inj h) (by decide)
      refine v_case C (8) 318 h dL_law_32 (by decide) (by decide) rfl (by decide) (fun h => ?_) (fun hc8 h => ?_)
      · refine v_aload_n (pc' := 319) C 1 dL_law_318 rfl rfl ?_
        refine v_aload_n (pc' := 320) C 0 dL_law_319 rfl rfl ?_
        refine v_iload_n (pc' := 321) C 3 dL_law_320 rfl rfl ?_
        refine v_iconst (pc' := 322) C (1) dL_law_321 ic_1 rfl ?_
        refine v_iadd (pc' := 323) C dL_law_322 rfl ?_
        refine v_sld (pc' := 324) C h hscr hbl hbA dL_law_323 rfl (fun e_39 h => ?_)
        refine v_aload_n (pc' := 325) C 0 dL_law_324 rfl rfl ?_
        refine v_iload_n (pc' := 326) C 3 dL_law_325 rfl rfl ?_
        refine v_iconst (pc' := 327) C (2) dL_law_326 ic_2 rfl ?_
        refine v_iadd (pc' := 328) C dL_law_327 rfl ?_
        refine v_sld (pc' := 329) C h hscr hbl hbA dL_law_328 rfl (fun e_40 h => ?_)
        refine v_callPi (pc' := 332) C h (rf := fun r9 => r9.1) (wT g aT zT ++ wS g aD zD ++ wF g aF zF ++ wM g aM zM) (fun r9 u9 => wQ aQ aT aN aV aD aF ++ wT g aT zT ++ wS g aN r9.2.1 ++ wV g aV u9 r9.2.2 ++ wS g aD zD ++ wF g aF zF ++ wM g aM zM) (fun r hr => run_V C (c_X5_start l g aQ aT aN aV aD aF _ _ _ _ _ r hr hra) gL_law_X5_start rfl nd_X5_start rfl rfl rfl rfl ⟨Nat.le_of_ble_eq_true rfl, Nat.le_of_ble_eq_true rfl⟩ ⟨Nat.le_trans (Nat.add_le_add_right hkb _) (Nat.le_of_ble_eq_true rfl), Nat.le_trans (Nat.add_le_add_right hnb _) (Nat.le_of_ble_eq_true rfl)⟩ (Nat.le_of_ble_eq_true rfl) dL_law_329 rfl) [0, 4, 5, 6, 7, 8, 9] [1, 2, 3, 10, 11, 12, 13, 14, 15, 16, 17, 18, 19, 20, 21, 22, 23, 24, 25, 26, 27] [21, 0, 1, 2, 22, 23, 24, 25, 26, 27, 3, 4, 5, 6, 7, 8, 9, 10, 11, 12, 13, 14, 15, 16, 17, 18, 19, 20] rfl rfl rfl rfl (by decide) rfl (fun _ _ => rfl) (k' := (k9 + 4)) (n' := (n9 + 75)) rfl rfl rfl (fun r_41 ra_42 hra h => ?_)
        refine v_aload_n (pc' := 333) C 2 dL_law_332 rfl rfl ?_
        refine v_aload_n (pc' := 334) C 0 dL_law_333 rfl rfl ?_
        refine v_iload_n (pc' := 335) C 3 dL_law_334 rfl rfl ?_
        refine v_iconst (pc' := 336) C (1) dL_law_335 ic_1 rfl ?_
        refine v_iadd (pc' := 337) C dL_law_336 rfl ?_
        refine v_sld (pc' := 338) C h hscr hbl hbA dL_law_337 rfl (fun e_43 h => ?_)
        refine v_aload_n (pc' := 339) C 0 dL_law_338 rfl rfl ?_
        refine v_iload_n (pc' := 340) C 3 dL_law_339 rfl rfl ?_
        refine v_iconst (pc' := 341) C (2) dL_law_340 ic_2 rfl ?_
        refine v_iadd (pc' := 342) C dL_law_341 rfl ?_
        refine v_sld (pc' := 343) C h hscr hbl hbA dL_law_342 rfl (fun e_44 h => ?_)
        refine v_calli (pc' := 346) C h (rf := fun r9 => r9.1) (wQ aQ aT aN aV aD aF ++ wT g aT zT ++ wS g aN r_41.2.1 ++ wV g aV ra_42 r_41.2.2 ++ wS g aD zD ++ wF g aF zF) (fun r9 (u9 : Unit) => wQ aQ aT aN aV aD aF ++ wT g aT zT ++ wS g aN r_41.2.1 ++ wV g aV ra_42 r_41.2.2 ++ wS g aD zD ++ wF g aF zF ++ wM g aM r9.2) (fun r hr => run_V C (c_X6_start l g aM _ _ _ r hr) gL_law_X6_start rfl nd_X6_start rfl rfl rfl rfl ⟨Nat.le_of_ble_eq_true rfl, Nat.le_of_ble_eq_true rfl⟩ ⟨Nat.le_trans (Nat.add_le_add_right (Nat.add_le_add_right hkb 4) _) (Nat.le_of_ble_eq_true rfl), Nat.le_trans (Nat.add_le_add_right (Nat.add_le_add_right hnb 75) _) (Nat.le_of_ble_eq_true rfl)⟩ (Nat.le_of_ble_eq_true rfl) dL_law_343 rfl) [18, 19, 20, 21, 22, 23, 24, 25, 26, 27] [0, 1, 2, 3, 4, 5, 6, 7, 8, 9, 10, 11, 12, 13, 14, 15, 16, 17] [0, 1, 2, 3, 4, 5, 6, 7, 8, 9, 10, 11, 12, 13, 14, 15, 16, 17, 18, 19, 20, 21, 22, 23, 24, 25, 26, 27] rfl rfl rfl rfl (by decide) rfl (fun _ _ => rfl) (k' := (k9 + 4)) (n' := (n9 + 75)) rfl rfl rfl (fun r_45 _ _ h => ?_)
        refine v_icmp_eq C 722 349 h dL_law_346 (by decide) rfl (fun _ h => ?_) (fun _ h => ?_)
        · refine v_iinc (pc' := 725) C 3 [1, 2, 3, 0] (4) dL_law_722 rfl ic_4 (Nat.le_of_ble_eq_true rfl) h (lw := fun v9 => [(0, .ref b), (1, .ref aQ), (2, .ref aM.1), (3, .int v9)]) (fun _ => rfl) rfl (fun v3_46 h => ?_)
          refine v_goto C (pc' := 18) dL_law_725 (by decide) ?_
          exact ih18 v3_46 zT r_41.2.1 r_41.2.2 zD zF r_45.2 h ra_42 _ _ hra (by omega) (by omega)
        · refine v_iconst (pc' := 350) C (0) dL_law_349 ic_0 rfl ?_
          exact absurd (Option.some.inj h) (by decide)
      refine v_case C (9) 351 h dL_law_32 (by decide) (by decide) rfl (by decide) (fun h => ?_) (fun hc9 h => ?_)
      · refine v_aload_n (pc' := 352) C 1 dL_law_351 rfl rfl ?_
        refine v_aload_n (pc' := 353) C 0 dL_law_352 rfl rfl ?_
        refine v_iload_n (pc' := 354) C 3 dL_law_353 rfl rfl ?_
        refine v_iconst (pc' := 355) C (1) dL_law_354 ic_1 rfl ?_
        refine v_iadd (pc' := 356) C dL_law_355 rfl ?_
        refine v_sld (pc' := 357) C h hscr hbl hbA dL_law_356 rfl (fun e_47 h => ?_)
        refine v_callPi (pc' := 360) C h (rf := fun r9 => r9.1) (wT g aT zT ++ wS g aD zD ++ wM g aM zM) (fun r9 u9 => wQ aQ aT aN aV aD aF ++ wT g aT zT ++ wS g aN r9.2.1 ++ wV g aV u9 r9.2.2.1 ++ wS g aD zD ++ wF g aF r9.2.2.2 ++ wM g aM zM) (fun r hr => run_V C (c_X5_guess l g aQ aT aN aV aD aF _ _ _ _ _ r hr hra) gL_law_X5_guess rfl nd_X5_guess rfl rfl rfl rfl ⟨Nat.le_of_ble_eq_true rfl, Nat.le_of_ble_eq_true rfl⟩ ⟨Nat.le_trans (Nat.add_le_add_right hkb _) (Nat.le_of_ble_eq_true rfl), Nat.le_trans (Nat.add_le_add_right hnb _) (Nat.le_of_ble_eq_true rfl)⟩ (Nat.le_of_ble_eq_true rfl) dL_law_357 rfl) [0, 4, 5, 6, 7, 8, 9, 14, 15, 16, 17] [1, 2, 3, 10, 11, 12, 13, 18, 19, 20, 21, 22, 23, 24, 25, 26, 27] [17, 0, 1, 2, 18, 19, 20, 21, 22, 23, 3, 4, 5, 6, 24, 25, 26, 27, 7, 8, 9, 10, 11, 12, 13, 14, 15, 16] rfl rfl rfl rfl (by decide) rfl (fun _ _ => rfl) (k' := (k9 + 4)) (n' := (n9 + 75)) rfl rfl rfl (fun r_48 ra_49 hra h => ?_)
        refine v_aload_n (pc' := 361) C 2 dL_law_360 rfl rfl ?_
        refine v_aload_n (pc' := 362) C 0 dL_law_361 rfl rfl ?_
        refine v_iload_n (pc' := 363) C 3 dL_law_362 rfl rfl ?_
        refine v_iconst (pc' := 364) C (1) dL_law_363 ic_1 rfl ?_
        refine v_iadd (pc' := 365) C dL_law_364 rfl ?_
        refine v_sld (pc' := 366) C h hscr hbl hbA dL_law_365 rfl (fun e_50 h => ?_)
        refine v_calli (pc' := 369) C h (rf := fun r9 => r9.1) (wQ aQ aT aN aV aD aF ++ wT g aT zT ++ wS g aN r_48.2.1 ++ wV g aV ra_49 r_48.2.2.1 ++ wS g aD zD ++ wF g aF r_48.2.2.2) (fun r9 (u9 : Unit) => wQ aQ aT aN aV aD aF ++ wT g aT zT ++ wS g aN r_48.2.1 ++ wV g aV ra_49 r_48.2.2.1 ++ wS g aD zD ++ wF g aF r_48.2.2.2 ++ wM g aM r9.2) (fun r hr => run_V C (c_X6_guess l g aM _ _ r hr) gL_law_X6_guess rfl nd_X6_guess rfl rfl rfl rfl ⟨Nat.le_of_ble_eq_true rfl, Nat.le_of_ble_eq_true rfl⟩ ⟨Nat.le_trans (Nat.add_le_add_right (Nat.add_le_add_right hkb 4) _) (Nat.le_of_ble_eq_true rfl), Nat.le_trans (Nat.add_le_add_right (Nat.add_le_add_right hnb 75) _) (Nat.le_of_ble_eq_true rfl)⟩ (Nat.le_of_ble_eq_true rfl) dL_law_366 rfl) [18, 19, 20, 21, 22, 23, 24, 25, 26, 27] [0, 1, 2, 3, 4, 5, 6, 7, 8, 9, 10, 11, 12, 13, 14, 15, 16, 17] [0, 1, 2, 3, 4, 5, 6, 7, 8, 9, 10, 11, 12, 13, 14, 15, 16, 17, 18, 19, 20, 21, 22, 23, 24, 25, 26, 27] rfl rfl rfl rfl (by decide) rfl (fun _ _ => rfl) (k' := (k9 + 4)) (n' := (n9 + 75)) rfl rfl rfl (fun r_51 _ _ h => ?_)
        refine v_icmp_eq C 722 372 h dL_law_369 (by decide) rfl (fun _ h => ?_) (fun _ h => ?_)
        · refine v_iinc (pc' := 725) C 3 [1, 2, 3, 0] (4) dL_law_722 rfl ic_4 (Nat.le_of_ble_eq_true rfl) h (lw := fun v9 => [(0, .ref b), (1, .ref aQ), (2, .ref aM.1), (3, .int v9)]) (fun _ => rfl) rfl (fun v3_52 h => ?_)
          refine v_goto C (pc' := 18) dL_law_725 (by decide) ?_
          exact ih18 v3_52 zT r_48.2.1 r_48.2.2.1 zD r_48.2.2.2 r_51.2 h ra_49 _ _ hra (by omega) (by omega)
        · refine v_iconst (pc' := 373) C (0) dL_law_372 ic_0 rfl ?_
          exact absurd (Option.some.inj h) (by decide)
      refine v_case C (10) 374 h dL_law_32 (by decide) (by decide) rfl (by decide) (fun h => ?_) (fun hc10 h => ?_)
      · refine v_aload_n (pc' := 375) C 1 dL_law_374 rfl rfl ?_
        refine v_callPi (pc' := 378) C h (rf := fun r9 => r9.1) (wS g aD zD ++ wF g aF zF ++ wM g aM zM) (fun r9 u9 => wQ aQ aT aN aV aD aF ++ wT g aT r9.2.1 ++ wS g aN r9.2.2.1 ++ wV g aV u9 r9.2.2.2 ++ wS g aD zD ++ wF g aF zF ++ wM g aM zM) (fun r hr => run_V C (c_X5_guessWord l g aQ aT aN aV aD aF _ _ _ _ r hr hra) gL_law_X5_guessWord rfl nd_X5_guessWord rfl rfl rfl rfl ⟨Nat.le_of_ble_eq_true rfl, Nat.le_of_ble_eq_true rfl⟩ ⟨Nat.le_trans (Nat.add_le_add_right hkb _) (Nat.le_of_ble_eq_true rfl), Nat.le_trans (Nat.add_le_add_right hnb _) (Nat.le_of_ble_eq_true rfl)⟩ (Nat.le_of_ble_eq_true rfl) dL_law_375 rfl) [0, 1, 2, 3, 4, 5, 6, 7, 8, 9] [10, 11, 12, 13, 14, 15, 16, 17, 18, 19, 20, 21, 22, 23, 24, 25, 26, 27] [18, 19, 20, 21, 22, 23, 24, 25, 26, 27, 0, 1, 2, 3, 4, 5, 6, 7, 8, 9, 10, 11, 12, 13, 14, 15, 16, 17] rfl rfl rfl rfl (by decide) rfl (fun _ _ => rfl) (k' := (k9 + 4)) (n' := (n9 + 75)) rfl rfl rfl (fun r_53 ra_54 hra h => ?_)
        refine v_aload_n (pc' := 379) C 2 dL_law_378 rfl rfl ?_
        refine v_calli (pc' := 382) C h (rf := fun r9 => r9.1) (wQ aQ aT aN aV aD aF ++ wT g aT r_53.2.1 ++ wS g aN r_53.2.2.1 ++ wV g aV ra_54 r_53.2.2.2 ++ wS g aD zD ++ wF g aF zF) (fun r9 (u9 : Unit) => wQ aQ aT aN aV aD aF ++ wT g aT r_53.2.1 ++ wS g aN r_53.2.2.1 ++ wV g aV ra_54 r_53.2.2.2 ++ wS g aD zD ++ wF g aF zF ++ wM g aM r9.2) (fun r hr => run_V C (c_X6_guessWord l g aM _ r hr) gL_law_X6_guessWord rfl nd_X6_guessWord rfl rfl rfl rfl ⟨Nat.le_of_ble_eq_true rfl, Nat.le_of_ble_eq_true rfl⟩ ⟨Nat.le_trans (Nat.add_le_add_right (Nat.add_le_add_right hkb 4) _) (Nat.le_of_ble_eq_true rfl), Nat.le_trans (Nat.add_le_add_right (Nat.add_le_add_right hnb 75) _) (Nat.le_of_ble_eq_true rfl)⟩ (Nat.le_of_ble_eq_true rfl) dL_law_379 rfl) [18, 19, 20, 21, 22, 23, 24, 25, 26, 27] [0, 1, 2, 3, 4, 5, 6, 7, 8, 9, 10, 11, 12, 13, 14, 15, 16, 17] [0, 1, 2, 3, 4, 5, 6, 7, 8, 9, 10, 11, 12, 13, 14, 15, 16, 17, 18, 19, 20, 21, 22, 23, 24, 25, 26, 27] rfl rfl rfl rfl (by decide) rfl (fun _ _ => rfl) (k' := (k9 + 4)) (n' := (n9 + 75)) rfl rfl rfl (fun r_55 _ _ h => ?_)
        refine v_icmp_eq C 722 385 h dL_law_382 (by decide) rfl (fun _ h => ?_) (fun _ h => ?_)
        · refine v_iinc (pc' := 725) C 3 [1, 2, 3, 0] (4) dL_law_722 rfl ic_4 (Nat.le_of_ble_eq_true rfl) h (lw := fun v9 => [(0, .ref b), (1, .ref aQ), (2, .ref aM.1), (3, .int v9)]) (fun _ => rfl) rfl (fun v3_56 h => ?_)
          refine v_goto C (pc' := 18) dL_law_725 (by decide) ?_
          exact ih18 v3_56 r_53.2.1 r_53.2.2.1 r_53.2.2.2 zD zF r_55.2 h ra_54 _ _ hra (by omega) (by omega)
        · refine v_iconst (pc' := 386) C (0) dL_law_385 ic_0 rfl ?_
          exact absurd (Option.some.inj h) (by decide)
      refine v_case C (11) 387 h dL_law_32 (by decide) (by decide) rfl (by decide) (fun h => ?_) (fun hc11 h => ?_)
      · refine v_aload_n (pc' := 388) C 1 dL_law_387 rfl rfl ?_
        refine v_callPi (pc' := 391) C h (rf := fun r9 => r9.1) (wT g aT zT ++ wS g aD zD ++ wF g aF zF ++ wM g aM zM) (fun r9 u9 => wQ aQ aT aN aV aD aF ++ wT g aT zT ++ wS g aN r9.2.1 ++ wV g aV u9 r9.2.2 ++ wS g aD zD ++ wF g aF zF ++ wM g aM zM) (fun r hr => run_V C (c_X5_giveUp l g aQ aT aN aV aD aF _ _ _ r hr hra) gL_law_X5_giveUp rfl nd_X5_giveUp rfl rfl rfl rfl ⟨Nat.le_of_ble_eq_true rfl, Nat.le_of_ble_eq_true rfl⟩ ⟨Nat.le_trans (Nat.add_le_add_right hkb _) (Nat.le_of_ble_eq_true rfl), Nat.le_trans (Nat.add_le_add_right hnb _) (Nat.le_of_ble_eq_true rfl)⟩ (Nat.le_of_ble_eq_true rfl) dL_law_388 rfl) [0, 4, 5, 6, 7, 8, 9] [1, 2, 3, 10, 11, 12, 13, 14, 15, 16, 17, 18, 19, 20, 21, 22, 23, 24, 25, 26, 27] [21, 0, 1, 2, 22, 23, 24, 25, 26, 27, 3, 4, 5, 6, 7, 8, 9, 10, 11, 12, 13, 14, 15, 16, 17, 18, 19, 20] rfl rfl rfl rfl (by decide) rfl (fun _ _ => rfl) (k' := (k9 + 4)) (n' := (n9 + 75)) rfl rfl rfl (fun r_57 ra_58 hra h => ?_)
        refine v_aload_n (pc' := 392) C 2 dL_law_391 rfl rfl ?_
        refine v_calli (pc' := 395) C h (rf := fun r9 => r9.1) (wQ aQ aT aN aV aD aF ++ wT g aT zT ++ wS g aN r_57.2.1 ++ wV g aV ra_58 r_57.2.2 ++ wS g aD zD ++ wF g aF zF) (fun r9 (u9 : Unit) => wQ aQ aT aN aV aD aF ++ wT g aT zT ++ wS g aN r_57.2.1 ++ wV g aV ra_58 r_57.2.2 ++ wS g aD zD ++ wF g aF zF ++ wM g aM r9.2) (fun r hr => run_V C (c_X6_giveUp l g aM _ r hr) gL_law_X6_giveUp rfl nd_X6_giveUp rfl rfl rfl rfl ⟨Nat.le_of_ble_eq_true rfl, Nat.le_of_ble_eq_true rfl⟩ ⟨Nat.le_trans (Nat.add_le_add_right (Nat.add_le_add_right hkb 4) _) (Nat.le_of_ble_eq_true rfl), Nat.le_trans (Nat.add_le_add_right (Nat.add_le_add_right hnb 75) _) (Nat.le_of_ble_eq_true rfl)⟩ (Nat.le_of_ble_eq_true rfl) dL_law_392 rfl) [18, 19, 20, 21, 22, 23, 24, 25, 26, 27] [0, 1, 2, 3, 4, 5, 6, 7, 8, 9, 10, 11, 12, 13, 14, 15, 16, 17] [0, 1, 2, 3, 4, 5, 6, 7, 8, 9, 10, 11, 12, 13, 14, 15, 16, 17, 18, 19, 20, 21, 22, 23, 24, 25, 26, 27] rfl rfl rfl rfl (by decide) rfl (fun _ _ => rfl) (k' := (k9 + 4)) (n' := (n9 + 75)) rfl rfl rfl (fun r_59 _ _ h => ?_)
        refine v_icmp_eq C 722 398 h dL_law_395 (by decide) rfl (fun _ h => ?_) (fun _ h => ?_)
        · refine v_iinc (pc' := 725) C 3 [1, 2, 3, 0] (4) dL_law_722 rfl ic_4 (Nat.le_of_ble_eq_true rfl) h (lw := fun v9 => [(0, .ref b), (1, .ref aQ), (2, .ref aM.1), (3, .int v9)]) (fun _ => rfl) rfl (fun v3_60 h => ?_)
          refine v_goto C (pc' := 18) dL_law_725 (by decide) ?_
          exact ih18 v3_60 zT r_57.2.1 r_57.2.2 zD zF r_59.2 h ra_58 _ _ hra (by omega) (by omega)
        · refine v_iconst (pc' := 399) C (0) dL_law_398 ic_0 rfl ?_
          exact absurd (Option.some.inj h) (by decide)
      refine v_case C (12) 400 h dL_law_32 (by decide) (by decide) rfl (by decide) (fun h => ?_) (fun hc12 h => ?_)
      · refine v_aload_n (pc' := 401) C 1 dL_law_400 rfl rfl ?_
        refine v_calli (pc' := 404) C h (rf := fun r9 => r9) (wT g aT zT ++ wV g aV ra zV ++ wS g aD zD ++ wF g aF zF ++ wM g aM zM) (fun r9 (u9 : Unit) => wQ aQ aT aN aV aD aF ++ wT g aT zT ++ wS g aN zN ++ wV g aV ra zV ++ wS g aD zD ++ wF g aF zF ++ wM g aM zM) (fun r hr => run_V C (c_X5_status l g aQ aT aN aV aD aF _ r hr) gL_law_X5_status rfl nd_X5_status rfl rfl rfl rfl ⟨Nat.le_of_ble_eq_true rfl, Nat.le_of_ble_eq_true rfl⟩ ⟨Nat.le_trans (Nat.add_le_add_right hkb _) (Nat.le_of_ble_eq_true rfl), Nat.le_trans (Nat.add_le_add_right hnb _) (Nat.le_of_ble_eq_true rfl)⟩ (Nat.le_of_ble_eq_true rfl) dL_law_401 rfl) [0, 4, 5, 6, 7] [1, 2, 3, 8, 9, 10, 11, 12, 13, 14, 15, 16, 17, 18, 19, 20, 21, 22, 23, 24, 25, 26, 27] [23, 0, 1, 2, 24, 25, 26, 27, 3, 4, 5, 6, 7, 8, 9, 10, 11, 12, 13, 14, 15, 16, 17, 18, 19, 20, 21, 22] rfl rfl rfl rfl (by decide) rfl (fun _ _ => rfl) (k' := k9) (n' := n9) rfl rfl rfl (fun r_61 _ _ h => ?_)
        refine v_aload_n (pc' := 405) C 2 dL_law_404 rfl rfl ?_
        refine v_calli (pc' := 408) C h (rf := fun r9 => r9) (wQ aQ aT aN aV aD aF ++ wT g aT zT ++ wS g aN zN ++ wV g aV ra zV ++ wS g aD zD ++ wF g aF zF) (fun r9 (u9 : Unit) => wQ aQ aT aN aV aD aF ++ wT g aT zT ++ wS g aN zN ++ wV g aV ra zV ++ wS g aD zD ++ wF g aF zF ++ wM g aM zM) (fun r hr => run_V C (c_X6_status l g aM _ r hr) gL_law_X6_status rfl nd_X6_status rfl rfl rfl rfl ⟨Nat.le_of_ble_eq_true rfl, Nat.le_of_ble_eq_true rfl⟩ ⟨Nat.le_trans (Nat.add_le_add_right hkb _) (Nat.le_of_ble_eq_true rfl), Nat.le_trans (Nat.add_le_add_right hnb _) (Nat.le_of_ble_eq_true rfl)⟩ (Nat.le_of_ble_eq_true rfl) dL_law_405 rfl) [18, 19, 20, 21, 22, 23, 24, 25, 26, 27] [0, 1, 2, 3, 4, 5, 6, 7, 8, 9, 10, 11, 12, 13, 14, 15, 16, 17] [0, 1, 2, 3, 4, 5, 6, 7, 8, 9, 10, 11, 12, 13, 14, 15, 16, 17, 18, 19, 20, 21, 22, 23, 24, 25, 26, 27] rfl rfl rfl rfl (by decide) rfl (fun _ _ => rfl) (k' := k9) (n' := n9) rfl rfl rfl (fun r_62 _ _ h => ?_)
        refine v_icmp_eq C 722 411 h dL_law_408 (by decide) rfl (fun _ h => ?_) (fun _ h => ?_)
        · refine v_iinc (pc' := 725) C 3 [1, 2, 3, 0] (4) dL_law_722 rfl ic_4 (Nat.le_of_ble_eq_true rfl) h (lw := fun v9 => [(0, .ref b), (1, .ref aQ), (2, .ref aM.1), (3, .int v9)]) (fun _ => rfl) rfl (fun v3_63 h => ?_)
          refine v_goto C (pc' := 18) dL_law_725 (by decide) ?_
          exact ih18 v3_63 zT zN zV zD zF zM h ra _ _ hra (by omega) (by omega)
        · refine v_iconst (pc' := 412) C (0) dL_law_411 ic_0 rfl ?_
          exact absurd (Option.some.inj h) (by decide)
      refine v_case C (13) 413 h dL_law_32 (by decide) (by decide) rfl (by decide) (fun h => ?_) (fun hc13 h => ?_)
      · refine v_aload_n (pc' := 414) C 1 dL_law_413 rfl rfl ?_
        refine v_calli (pc' := 417) C h (rf := fun r9 => r9) (wT g aT zT ++ wV g aV ra zV ++ wS g aD zD ++ wF g aF zF ++ wM g aM zM) (fun r9 (u9 : Unit) => wQ aQ aT aN aV aD aF ++ wT g aT zT ++ wS g aN zN ++ wV g aV ra zV ++ wS g aD zD ++ wF g aF zF ++ wM g aM zM) (fun r hr => run_V C (c_X5_lives l g aQ aT aN aV aD aF _ r hr) gL_law_X5_lives rfl nd_X5_lives rfl rfl rfl rfl ⟨Nat.le_of_ble_eq_true rfl, Nat.le_of_ble_eq_true rfl⟩ ⟨Nat.le_trans (Nat.add_le_add_right hkb _) (Nat.le_of_ble_eq_true rfl), Nat.le_trans (Nat.add_le_add_right hnb _) (Nat.le_of_ble_eq_true rfl)⟩ (Nat.le_of_ble_eq_true rfl) dL_law_414 rfl) [0, 4, 5, 6, 7] [1, 2, 3, 8, 9, 10, 11, 12, 13, 14, 15, 16, 17, 18, 19, 20, 21, 22, 23, 24, 25, 26, 27] [23, 0, 1, 2, 24, 25, 26, 27, 3, 4, 5, 6, 7, 8, 9, 10, 11, 12, 13, 14, 15, 16, 17, 18, 19, 20, 21, 22] rfl rfl rfl rfl (by decide) rfl (fun _ _ => rfl) (k' := k9) (n' := n9) rfl rfl rfl (fun r_64 _ _ h => ?_)
        refine v_aload_n (pc' := 418) C 2 dL_law_417 rfl rfl ?_
        refine v_calli (pc' := 421) C h (rf := fun r9 => r9) (wQ aQ aT aN aV aD aF ++ wT g aT zT ++ wS g aN zN ++ wV g aV ra zV ++ wS g aD zD ++ wF g aF zF) (fun r9 (u9 : Unit) => wQ aQ aT aN aV aD aF ++ wT g aT zT ++ wS g aN zN ++ wV g aV ra zV ++ wS g aD zD ++ wF g aF zF ++ wM g aM zM) (fun r hr => run_V C (c_X6_lives l g aM _ r hr) gL_law_X6_lives rfl nd_X6_lives rfl rfl rfl rfl ⟨Nat.le_of_ble_eq_true rfl, Nat.le_of_ble_eq_true rfl⟩ ⟨Nat.le_trans (Nat.add_le_add_right hkb _) (Nat.le_of_ble_eq_true rfl), Nat.le_trans (Nat.add_le_add_right hnb _) (Nat.le_of_ble_eq_true rfl)⟩ (Nat.le_of_ble_eq_true rfl) dL_law_418 rfl) [18, 19, 20, 21, 22, 23, 24, 25, 26, 27] [0, 1, 2, 3, 4, 5, 6, 7, 8, 9, 10, 11, 12, 13, 14, 15, 16, 17] [0, 1, 2, 3, 4, 5, 6, 7, 8, 9, 10, 11, 12, 13, 14, 15, 16, 17, 18, 19, 20, 21, 22, 23, 24, 25, 26, 27] rfl rfl rfl rfl (by decide) rfl (fun _ _ => rfl) (k' := k9) (n' := n9) rfl rfl rfl (fun r_65 _ _ h => ?_)
        refine v_icmp_eq C 722 424 h dL_law_421 (by decide) rfl (fun _ h => ?_) (fun _ h => ?_)
        · refine v_iinc (pc' := 725) C 3 [1, 2, 3, 0] (4) dL_law_722 rfl ic_4 (Nat.le_of_ble_eq_true rfl) h (lw := fun v9 => [(0, .ref b), (1, .ref aQ), (2, .ref aM.1), (3, .int v9)]) (fun _ => rfl) rfl (fun v3_66 h => ?_)
          refine v_goto C (pc' := 18) dL_law_725 (by decide) ?_
          exact ih18 v3_66 zT zN zV zD zF zM h ra _ _ hra (by omega) (by omega)
        · refine v_iconst (pc' := 425) C (0) dL_law_424 ic_0 rfl ?_
          exact absurd (Option.some.inj h) (by decide)
      refine v_case C (14) 426 h dL_law_32 (by decide) (by decide) rfl (by decide) (fun h => ?_) (fun hc14 h => ?_)
      · refine v_aload_n (pc' := 427) C 1 dL_law_426 rfl rfl ?_
        refine v_aload_n (pc' := 428) C 0 dL_law_427 rfl rfl ?_
        refine v_iload_n (pc' := 429) C 3 dL_law_428 rfl rfl ?_
        refine v_iconst (pc' := 430) C (1) dL_law_429 ic_1 rfl ?_
        refine v_iadd (pc' := 431) C dL_law_430 rfl ?_
        refine v_sld (pc' := 432) C h hscr hbl hbA dL_law_431 rfl (fun e_67 h => ?_)
        refine v_calli (pc' := 435) C h (rf := fun r9 => r9) (wT g aT zT ++ wV g aV ra zV ++ wS g aD zD ++ wF g aF zF ++ wM g aM zM) (fun r9 (u9 : Unit) => wQ aQ aT aN aV aD aF ++ wT g aT zT ++ wS g aN zN ++ wV g aV ra zV ++ wS g aD zD ++ wF g aF zF ++ wM g aM zM) (fun r hr => run_V C (c_X5_shown l g aQ aT aN aV aD aF _ _ r hr) gL_law_X5_shown rfl nd_X5_shown rfl rfl rfl rfl ⟨Nat.le_of_ble_eq_true rfl, Nat.le_of_ble_eq_true rfl⟩ ⟨Nat.le_trans (Nat.add_le_add_right hkb _) (Nat.le_of_ble_eq_true rfl), Nat.le_trans (Nat.add_le_add_right hnb _) (Nat.le_of_ble_eq_true rfl)⟩ (Nat.le_of_ble_eq_true rfl) dL_law_432 rfl) [0, 4, 5, 6, 7] [1, 2, 3, 8, 9, 10, 11, 12, 13, 14, 15, 16, 17, 18, 19, 20, 21, 22, 23, 24, 25, 26, 27] [23, 0, 1, 2, 24, 25, 26, 27, 3, 4, 5, 6, 7, 8, 9, 10, 11, 12, 13, 14, 15, 16, 17, 18, 19, 20, 21, 22] rfl rfl rfl rfl (by decide) rfl (fun _ _ => rfl) (k' := k9) (n' := n9) rfl rfl rfl (fun r_68 _ _ h => ?_)
        refine v_aload_n (pc' := 436) C 2 dL_law_435 rfl rfl ?_
        refine v_aload_n (pc' := 437) C 0 dL_law_436 rfl rfl ?_
        refine v_iload_n (pc' := 438) C 3 dL_law_437 rfl rfl ?_
        refine v_iconst (pc' := 439) C (1) dL_law_438 ic_1 rfl ?_
        refine v_iadd (pc' := 440) C dL_law_439 rfl ?_
        refine v_sld (pc' := 441) C h hscr hbl hbA dL_law_440 rfl (fun e_69 h => ?_)
        refine v_calli (pc' := 444) C h (rf := fun r9 => r9) (wQ aQ aT aN aV aD aF ++ wT g aT zT ++ wS g aN zN ++ wV g aV ra zV ++ wS g aD zD ++ wF g aF zF) (fun r9 (u9 : Unit) => wQ aQ aT aN aV aD aF ++ wT g aT zT ++ wS g aN zN ++ wV g aV ra zV ++ wS g aD zD ++ wF g aF zF ++ wM g aM zM) (fun r hr => run_V C (c_X6_shown l g aM _ _ r hr) gL_law_X6_shown rfl nd_X6_shown rfl rfl rfl rfl ⟨Nat.le_of_ble_eq_true rfl, Nat.le_of_ble_eq_true rfl⟩ ⟨Nat.le_trans (Nat.add_le_add_right hkb _) (Nat.le_of_ble_eq_true rfl), Nat.le_trans (Nat.add_le_add_right hnb _) (Nat.le_of_ble_eq_true rfl)⟩ (Nat.le_of_ble_eq_true rfl) dL_law_441 rfl) [18, 19, 20, 21, 22, 23, 24, 25, 26, 27] [0, 1, 2, 3, 4, 5, 6, 7, 8, 9, 10, 11, 12, 13, 14, 15, 16, 17] [0, 1, 2, 3, 4, 5, 6, 7, 8, 9, 10, 11, 12, 13, 14, 15, 16, 17, 18, 19, 20, 21, 22, 23, 24, 25, 26, 27] rfl rfl rfl rfl (by decide) rfl (fun _ _ => rfl) (k' := k9) (n' := n9) rfl rfl rfl (fun r_70 _ _ h => ?_)
        refine v_icmp_eq C 722 447 h dL_law_444 (by decide) rfl (fun _ h => ?_) (fun _ h => ?_)
        · refine v_iinc (pc' := 725) C 3 [1, 2, 3, 0] (4) dL_law_722 rfl ic_4 (Nat.le_of_ble_eq_true rfl) h (lw := fun v9 => [(0, .ref b), (1, .ref aQ), (2, .ref aM.1), (3, .int v9)]) (fun _ => rfl) rfl (fun v3_71 h => ?_)
          refine v_goto C (pc' := 18) dL_law_725 (by decide) ?_
          exact ih18 v3_71 zT zN zV zD zF zM h ra _ _ hra (by omega) (by omega)
        · refine v_iconst (pc' := 448) C (0) dL_law_447 ic_0 rfl ?_
          exact absurd (Option.some.inj h) (by decide)
      refine v_case C (15) 449 h dL_law_32 (by decide) (by decide) rfl (by decide) (fun h => ?_) (fun hc15 h => ?_)
      · refine v_aload_n (pc' := 450) C 1 dL_law_449 rfl rfl ?_
        refine v_calli (pc' := 453) C h (rf := fun r9 => r9) (wT g aT zT ++ wV g aV ra zV ++ wS g aD zD ++ wF g aF zF ++ wM g aM zM) (fun r9 (u9 : Unit) => wQ aQ aT aN aV aD aF ++ wT g aT zT ++ wS g aN zN ++ wV g aV ra zV ++ wS g aD zD ++ wF g aF zF ++ wM g aM zM) (fun r hr => run_V C (c_X5_candidates l g aQ aT aN aV aD aF _ r hr) gL_law_X5_candidates rfl nd_X5_candidates rfl rfl rfl rfl ⟨Nat.le_of_ble_eq_true rfl, Nat.le_of_ble_eq_true rfl⟩ ⟨Nat.le_trans (Nat.add_le_add_right hkb _) (Nat.le_of_ble_eq_true rfl), Nat.le_trans (Nat.add_le_add_right hnb _) (Nat.le_of_ble_eq_true rfl)⟩ (Nat.le_of_ble_eq_true rfl) dL_law_450 rfl) [0, 4, 5, 6, 7] [1, 2, 3, 8, 9, 10, 11, 12, 13, 14, 15, 16, 17, 18, 19, 20, 21, 22, 23, 24, 25, 26, 27] [23, 0, 1, 2, 24, 25, 26, 27, 3, 4, 5, 6, 7, 8, 9, 10, 11, 12, 13, 14, 15, 16, 17, 18, 19, 20, 21, 22] rfl rfl rfl rfl (by decide) rfl (fun _ _ => rfl) (k' := k9) (n' := n9) rfl rfl rfl (fun r_72 _ _ h => ?_)
        refine v_aload_n (pc' := 454) C 2 dL_law_453 rfl rfl ?_
        refine v_calli (pc' := 457) C h (rf := fun r9 => r9) (wQ aQ aT aN aV aD aF ++ wT g aT zT ++ wS g aN zN ++ wV g aV ra zV ++ wS g aD zD ++ wF g aF zF) (fun r9 (u9 : Unit) => wQ aQ aT aN aV aD aF ++ wT g aT zT ++ wS g aN zN ++ wV g aV ra zV ++ wS g aD zD ++ wF g aF zF ++ wM g aM zM) (fun r hr => run_V C (c_X6_candidates l g aM _ r hr) gL_law_X6_candidates rfl nd_X6_candidates rfl rfl rfl rfl ⟨Nat.le_of_ble_eq_true rfl, Nat.le_of_ble_eq_true rfl⟩ ⟨Nat.le_trans (Nat.add_le_add_right hkb _) (Nat.le_of_ble_eq_true rfl), Nat.le_trans (Nat.add_le_add_right hnb _) (Nat.le_of_ble_eq_true rfl)⟩ (Nat.le_of_ble_eq_true rfl) dL_law_454 rfl) [18, 19, 20, 21, 22, 23, 24, 25, 26, 27] [0, 1, 2, 3, 4, 5, 6, 7, 8, 9, 10, 11, 12, 13, 14, 15, 16, 17] [0, 1, 2, 3, 4, 5, 6, 7, 8, 9, 10, 11, 12, 13, 14, 15, 16, 17, 18, 19, 20, 21, 22, 23, 24, 25, 26, 27] rfl rfl rfl rfl (by decide) rfl (fun _ _ => rfl) (k' := k9) (n' := n9) rfl rfl rfl (fun r_73 _ _ h => ?_)
        refine v_icmp_eq C 722 460 h dL_law_457 (by decide) rfl (fun _ h => ?_) (fun _ h => ?_)
        · refine v_iinc (pc' := 725) C 3 [1, 2, 3, 0] (4) dL_law_722 rfl ic_4 (Nat.le_of_ble_eq_true rfl) h (lw := fun v9 => [(0, .ref b), (1, .ref aQ), (2, .ref aM.1), (3, .int v9)]) (fun _ => rfl) rfl (fun v3_74 h => ?_)
          refine v_goto C (pc' := 18) dL_law_725 (by decide) ?_
          exact ih18 v3_74 zT zN zV zD zF zM h ra _ _ hra (by omega) (by omega)
        · refine v_iconst (pc' := 461) C (0) dL_law_460 ic_0 rfl ?_
          exact absurd (Option.some.inj h) (by decide)
      refine v_case C (16) 462 h dL_law_32 (by decide) (by decide) rfl (by decide) (fun h => ?_) (fun hc16 h => ?_)
      · refine v_aload_n (pc' := 463) C 1 dL_law_462 rfl rfl ?_
        refine v_aload_n (pc' := 464) C 0 dL_law_463 rfl rfl ?_
        refine v_iload_n (pc' := 465) C 3 dL_law_464 rfl rfl ?_
        refine v_iconst (pc' := 466) C (1) dL_law_465 ic_1 rfl ?_
        refine v_iadd (pc' := 467) C dL_law_466 rfl ?_
        refine v_sld (pc' := 468) C h hscr hbl hbA dL_law_467 rfl (fun e_75 h => ?_)
        refine v_calli (pc' := 471) C h (rf := fun r9 => r9) (wT g aT zT ++ wV g aV ra zV ++ wS g aD zD ++ wF g aF zF ++ wM g aM zM) (fun r9 (u9 : Unit) => wQ aQ aT aN aV aD aF ++ wT g aT zT ++ wS g aN zN ++ wV g aV ra zV ++ wS g aD zD ++ wF g aF zF ++ wM g aM zM) (fun r hr => run_V C (c_X5_candidate l g aQ aT aN aV aD aF _ _ r hr) gL_law_X5_candidate rfl nd_X5_candidate rfl rfl rfl rfl ⟨Nat.le_of_ble_eq_true rfl, Nat.le_of_ble_eq_true rfl⟩ ⟨Nat.le_trans (Nat.add_le_add_right hkb _) (Nat.le_of_ble_eq_true rfl), Nat.le_trans (Nat.add_le_add_right hnb _) (Nat.le_of_ble_eq_true rfl)⟩ (Nat.le_of_ble_eq_true rfl) dL_law_468 rfl) [0, 4, 5, 6, 7] [1, 2, 3, 8, 9, 10, 11, 12, 13, 14, 15, 16, 17, 18, 19, 20, 21, 22, 23, 24, 25, 26, 27] [23, 0, 1, 2, 24, 25, 26, 27, 3, 4, 5, 6, 7, 8, 9, 10, 11, 12, 13, 14, 15, 16, 17, 18, 19, 20, 21, 22] rfl rfl rfl rfl (by decide) rfl (fun _ _ => rfl) (k' := k9) (n' := n9) rfl rfl rfl (fun r_76 _ _ h => ?_)
        refine v_aload_n (pc' := 472) C 2 dL_law_471 rfl rfl ?_
        refine v_aload_n (pc' := 473) C 0 dL_law_472 rfl rfl ?_
        refine v_iload_n (pc' := 474) C 3 dL_law_473 rfl rfl ?_
        refine v_iconst (pc' := 475) C (1) dL_law_474 ic_1 rfl ?_
        refine v_iadd (pc' := 476) C dL_law_475 rfl ?_
        refine v_sld (pc' := 477) C h hscr hbl hbA dL_law_476 rfl (fun e_77 h => ?_)
        refine v_calli (pc' := 480) C h (rf := fun r9 => r9) (wQ aQ aT aN aV aD aF ++ wT g aT zT ++ wS g aN zN ++ wV g aV ra zV ++ wS g aD zD ++ wF g aF zF) (fun r9 (u9 : Unit) => wQ aQ aT aN aV aD aF ++ wT g aT zT ++ wS g aN zN ++ wV g aV ra zV ++ wS g aD zD ++ wF g aF zF ++ wM g aM zM) (fun r hr => run_V C (c_X6_candidate l g aM _ _ r hr) gL_law_X6_candidate rfl nd_X6_candidate rfl rfl rfl rfl ⟨Nat.le_of_ble_eq_true rfl, Nat.le_of_ble_eq_true rfl⟩ ⟨Nat.le_trans (Nat.add_le_add_right hkb _) (Nat.le_of_ble_eq_true rfl), Nat.le_trans (Nat.add_le_add_right hnb _) (Nat.le_of_ble_eq_true rfl)⟩ (Nat.le_of_ble_eq_true rfl) dL_law_477 rfl) [18, 19, 20, 21, 22, 23, 24, 25, 26, 27] [0, 1, 2, 3, 4, 5, 6, 7, 8, 9, 10, 11, 12, 13, 14, 15, 16, 17] [0, 1, 2, 3, 4, 5, 6, 7, 8, 9, 10, 11, 12, 13, 14, 15, 16, 17, 18, 19, 20, 21, 22, 23, 24, 25, 26, 27] rfl rfl rfl rfl (by decide) rfl (fun _ _ => rfl) (k' := k9) (n' := n9) rfl rfl rfl (fun r_78 _ _ h => ?_)
        refine v_icmp_eq C 722 483 h dL_law_480 (by decide) rfl (fun _ h => ?_) (fun _ h => ?_)
        · refine v_iinc (pc' := 725) C 3 [1, 2, 3, 0] (4) dL_law_722 rfl ic_4 (Nat.le_of_ble_eq_true rfl) h (lw := fun v9 => [(0, .ref b), (1, .ref aQ), (2, .ref aM.1), (3, .int v9)]) (fun _ => rfl) rfl (fun v3_79 h => ?_)
          refine v_goto C (pc' := 18) dL_law_725 (by decide) ?_
          exact ih18 v3_79 zT zN zV zD zF zM h ra _ _ hra (by omega) (by omega)
        · refine v_iconst (pc' := 484) C (0) dL_law_483 ic_0 rfl ?_
          exact absurd (Option.some.inj h) (by decide)
      refine v_case C (17) 485 h dL_law_32 (by decide) (by decide) rfl (by decide) (fun h => ?_) (fun hc17 h => ?_)
      · refine v_aload_n (pc' := 486) C 1 dL_law_485 rfl rfl ?_
        refine v_calli (pc' := 489) C h (rf := fun r9 => r9) (wT g aT zT ++ wV g aV ra zV ++ wS g aD zD ++ wF g aF zF ++ wM g aM zM) (fun r9 (u9 : Unit) => wQ aQ aT aN aV aD aF ++ wT g aT zT ++ wS g aN zN ++ wV g aV ra zV ++ wS g aD zD ++ wF g aF zF ++ wM g aM zM) (fun r hr => run_V C (c_X5_guesses l g aQ aT aN aV aD aF _ r hr) gL_law_X5_guesses rfl nd_X5_guesses rfl rfl rfl rfl ⟨Nat.le_of_ble_eq_true rfl, Nat.le_of_ble_eq_true rfl⟩ ⟨Nat.le_trans (Nat.add_le_add_right hkb _) (Nat.le_of_ble_eq_true rfl), Nat.le_trans (Nat.add_le_add_right hnb _) (Nat.le_of_ble_eq_true rfl)⟩ (Nat.le_of_ble_eq_true rfl) dL_law_486 rfl) [0, 4, 5, 6, 7] [1, 2, 3, 8, 9, 10, 11, 12, 13, 14, 15, 16, 17, 18, 19, 20, 21, 22, 23, 24, 25, 26, 27] [23, 0, 1, 2, 24, 25, 26, 27, 3, 4, 5, 6, 7, 8, 9, 10, 11, 12, 13, 14, 15, 16, 17, 18, 19, 20, 21, 22] rfl rfl rfl rfl (by decide) rfl (fun _ _ => rfl) (k' := k9) (n' := n9) rfl rfl rfl (fun r_80 _ _ h => ?_)
        refine v_aload_n (pc' := 490) C 2 dL_law_489 rfl rfl ?_
        refine v_calli (pc' := 493) C h (rf := fun r9 => r9) (wQ aQ aT aN aV aD aF ++ wT g aT zT ++ wS g aN zN ++ wV g aV ra zV ++ wS g aD zD ++ wF g aF zF) (fun r9 (u9 : Unit) => wQ aQ aT aN aV aD aF ++ wT g aT zT ++ wS g aN zN ++ wV g aV ra zV ++ wS g aD zD ++ wF g aF zF ++ wM g aM zM) (fun r hr => run_V C (c_X6_guesses l g aM _ r hr) gL_law_X6_guesses rfl nd_X6_guesses rfl rfl rfl rfl ⟨Nat.le_of_ble_eq_true rfl, Nat.le_of_ble_eq_true rfl⟩ ⟨Nat.le_trans (Nat.add_le_add_right hkb _) (Nat.le_of_ble_eq_true rfl), Nat.le_trans (Nat.add_le_add_right hnb _) (Nat.le_of_ble_eq_true rfl)⟩ (Nat.le_of_ble_eq_true rfl) dL_law_490 rfl) [18, 19, 20, 21, 22, 23, 24, 25, 26, 27] [0, 1, 2, 3, 4, 5, 6, 7, 8, 9, 10, 11, 12, 13, 14, 15, 16, 17] [0, 1, 2, 3, 4, 5, 6, 7, 8, 9, 10, 11, 12, 13, 14, 15, 16, 17, 18, 19, 20, 21, 22, 23, 24, 25, 26, 27] rfl rfl rfl rfl (by decide) rfl (fun _ _ => rfl) (k' := k9) (n' := n9) rfl rfl rfl (fun r_81 _ _ h => ?_)
        refine v_icmp_eq C 722 496 h dL_law_493 (by decide) rfl (fun _ h => ?_) (fun _ h => ?_)
        · refine v_iinc (pc' := 725) C 3 [1, 2, 3, 0] (4) dL_law_722 rfl ic_4 (Nat.le_of_ble_eq_true rfl) h (lw := fun v9 => [(0, .ref b), (1, .ref aQ), (2, .ref aM.1), (3, .int v9)]) (fun _ => rfl) rfl (fun v3_82 h => ?_)
          refine v_goto C (pc' := 18) dL_law_725 (by decide) ?_
          exact ih18 v3_82 zT zN zV zD zF zM h ra _ _ hra (by omega) (by omega)
        · refine v_iconst (pc' := 497) C (0) dL_law_496 ic_0 rfl ?_
          exact absurd (Option.some.inj h) (by decide)
      refine v_case C (18) 498 h dL_law_32 (by decide) (by decide) rfl (by decide) (fun h => ?_) (fun hc18 h => ?_)
      · refine v_aload_n (pc' := 499) C 1 dL_law_498 rfl rfl ?_
        refine v_aload_n (pc' := 500) C 0 dL_law_499 rfl rfl ?_
        refine v_iload_n (pc' := 501) C 3 dL_law_500 rfl rfl ?_
        refine v_iconst (pc' := 502) C (1) dL_law_501 ic_1 rfl ?_
        refine v_iadd (pc' := 503) C dL_law_502 rfl ?_
        refine v_sld (pc' := 504) C h hscr hbl hbA dL_law_503 rfl (fun e_83 h => ?_)
        refine v_calli (pc' := 507) C h (rf := fun r9 => r9) (wT g aT zT ++ wV g aV ra zV ++ wS g aD zD ++ wF g aF zF ++ wM g aM zM) (fun r9 (u9 : Unit) => wQ aQ aT aN aV aD aF ++ wT g aT zT ++ wS g aN zN ++ wV g aV ra zV ++ wS g aD zD ++ wF g aF zF ++ wM g aM zM) (fun r hr => run_V C (c_X5_guessAt l g aQ aT aN aV aD aF _ _ r hr) gL_law_X5_guessAt rfl nd_X5_guessAt rfl rfl rfl rfl ⟨Nat.le_of_ble_eq_true rfl, Nat.le_of_ble_eq_true rfl⟩ ⟨Nat.le_trans (Nat.add_le_add_right hkb _) (Nat.le_of_ble_eq_true rfl), Nat.le_trans (Nat.add_le_add_right hnb _) (Nat.le_of_ble_eq_true rfl)⟩ (Nat.le_of_ble_eq_true rfl) dL_law_504 rfl) [0, 4, 5, 6, 7] [1, 2, 3, 8, 9, 10, 11, 12, 13, 14, 15, 16, 17, 18, 19, 20, 21, 22, 23, 24, 25, 26, 27] [23, 0, 1, 2, 24, 25, 26, 27, 3, 4, 5, 6, 7, 8, 9, 10, 11, 12, 13, 14, 15, 16, 17, 18, 19, 20, 21, 22] rfl rfl rfl rfl (by decide) rfl (fun _ _ => rfl) (k' := k9) (n' := n9) rfl rfl rfl (fun r_84 _ _ h => ?_)
        refine v_aload_n (pc' := 508) C 2 dL_law_507 rfl rfl ?_
        refine v_aload_n (pc' := 509) C 0 dL_law_508 rfl rfl ?_
        refine v_iload_n (pc' := 510) C 3 dL_law_509 rfl rfl ?_
        refine v_iconst (pc' := 511) C (1) dL_law_510 ic_1 rfl ?_
        refine v_iadd (pc' := 512) C dL_law_511 rfl ?_
        refine v_sld (pc' := 513) C h hscr hbl hbA dL_law_512 rfl (fun e_85 h => ?_)
        refine v_calli (pc' := 516) C h (rf := fun r9 => r9) (wQ aQ aT aN aV aD aF ++ wT g aT zT ++ wS g aN zN ++ wV g aV ra zV ++ wS g aD zD ++ wF g aF zF) (fun r9 (u9 : Unit) => wQ aQ aT aN aV aD aF ++ wT g aT zT ++ wS g aN zN ++ wV g aV ra zV ++ wS g aD zD ++ wF g aF zF ++ wM g aM zM) (fun r hr => run_V C (c_X6_guessAt l g aM _ _ r hr) gL_law_X6_guessAt rfl nd_X6_guessAt rfl rfl rfl rfl ⟨Nat.le_of_ble_eq_true rfl, Nat.le_of_ble_eq_true rfl⟩ ⟨Nat.le_trans (Nat.add_le_add_right hkb _) (Nat.le_of_ble_eq_true rfl), Nat.le_trans (Nat.add_le_add_right hnb _) (Nat.le_of_ble_eq_true rfl)⟩ (Nat.le_of_ble_eq_true rfl) dL_law_513 rfl) [18, 19, 20, 21, 22, 23, 24, 25, 26, 27] [0, 1, 2, 3, 4, 5, 6, 7, 8, 9, 10, 11, 12, 13, 14, 15, 16, 17] [0, 1, 2, 3, 4, 5, 6, 7, 8, 9, 10, 11, 12, 13, 14, 15, 16, 17, 18, 19, 20, 21, 22, 23, 24, 25, 26, 27] rfl rfl rfl rfl (by decide) rfl (fun _ _ => rfl) (k' := k9) (n' := n9) rfl rfl rfl (fun r_86 _ _ h => ?_)
        refine v_icmp_eq C 722 519 h dL_law_516 (by decide) rfl (fun _ h => ?_) (fun _ h => ?_)
        · refine v_iinc (pc' := 725) C 3 [1, 2, 3, 0] (4) dL_law_722 rfl ic_4 (Nat.le_of_ble_eq_true rfl) h (lw := fun v9 => [(0, .ref b), (1, .ref aQ), (2, .ref aM.1), (3, .int v9)]) (fun _ => rfl) rfl (fun v3_87 h => ?_)
          refine v_goto C (pc' := 18) dL_law_725 (by decide) ?_
          exact ih18 v3_87 zT zN zV zD zF zM h ra _ _ hra (by omega) (by omega)
        · refine v_iconst (pc' := 520) C (0) dL_law_519 ic_0 rfl ?_
          exact absurd (Option.some.inj h) (by decide)
      refine v_case C (19) 521 h dL_law_32 (by decide) (by decide) rfl (by decide) (fun h => ?_) (fun hc19 h => ?_)
      · refine v_aload_n (pc' := 522) C 1 dL_law_521 rfl rfl ?_
        refine v_aload_n (pc' := 523) C 0 dL_law_522 rfl rfl ?_
        refine v_iload_n (pc' := 524) C 3 dL_law_523 rfl rfl ?_
        refine v_iconst (pc' := 525) C (1) dL_law_524 ic_1 rfl ?_
        refine v_iadd (pc' := 526) C dL_law_525 rfl ?_
        refine v_sld (pc' := 527) C h hscr hbl hbA dL_law_526 rfl (fun e_88 h => ?_)
        refine v_calli (pc' := 530) C h (rf := fun r9 => r9.1) (wT g aT zT ++ wV g aV ra zV ++ wS g aD zD ++ wM g aM zM) (fun r9 (u9 : Unit) => wQ aQ aT aN aV aD aF ++ wT g aT zT ++ wS g aN zN ++ wV g aV ra zV ++ wS g aD zD ++ wF g aF r9.2 ++ wM g aM zM) (fun r hr => run_V C (c_X5_families l g aQ aT aN aV aD aF _ _ _ r hr) gL_law_X5_families rfl nd_X5_families rfl rfl rfl rfl ⟨Nat.le_of_ble_eq_true rfl, Nat.le_of_ble_eq_true rfl⟩ ⟨Nat.le_trans (Nat.add_le_add_right hkb _) (Nat.le_of_ble_eq_true rfl), Nat.le_trans (Nat.add_le_add_right hnb _) (Nat.le_of_ble_eq_true rfl)⟩ (Nat.le_of_ble_eq_true rfl) dL_law_527 rfl) [0, 4, 5, 6, 7, 14, 15, 16, 17] [1, 2, 3, 8, 9, 10, 11, 12, 13, 18, 19, 20, 21, 22, 23, 24, 25, 26, 27] [19, 0, 1, 2, 20, 21, 22, 23, 3, 4, 5, 6, 7, 8, 24, 25, 26, 27, 9, 10, 11, 12, 13, 14, 15, 16, 17, 18] rfl rfl rfl rfl (by decide) rfl (fun _ _ => rfl) (k' := k9) (n' := n9) rfl rfl rfl (fun r_89 _ _ h => ?_)
        refine v_aload_n (pc' := 531) C 2 dL_law_530 rfl rfl ?_
        refine v_aload_n (pc' := 532) C 0 dL_law_531 rfl rfl ?_
        refine v_iload_n (pc' := 533) C 3 dL_law_532 rfl rfl ?_
        refine v_iconst (pc' := 534) C (1) dL_law_533 ic_1 rfl ?_
        refine v_iadd (pc' := 535) C dL_law_534 rfl ?_
        refine v_sld (pc' := 536) C h hscr hbl hbA dL_law_535 rfl (fun e_90 h => ?_)
        refine v_calli (pc' := 539) C h (rf := fun r9 => r9.1) (wQ aQ aT aN aV aD aF ++ wT g aT zT ++ wS g aN zN ++ wV g aV ra zV ++ wS g aD zD ++ wF g aF r_89.2) (fun r9 (u9 : Unit) => wQ aQ aT aN aV aD aF ++ wT g aT zT ++ wS g aN zN ++ wV g aV ra zV ++ wS g aD zD ++ wF g aF r_89.2 ++ wM g aM r9.2) (fun r hr => run_V C (c_X6_families l g aM _ _ r hr) gL_law_X6_families rfl nd_X6_families rfl rfl rfl rfl ⟨Nat.le_of_ble_eq_true rfl, Nat.le_of_ble_eq_true rfl⟩ ⟨Nat.le_trans (Nat.add_le_add_right hkb _) (Nat.le_of_ble_eq_true rfl), Nat.le_trans (Nat.add_le_add_right hnb _) (Nat.le_of_ble_eq_true rfl)⟩ (Nat.le_of_ble_eq_true rfl) dL_law_536 rfl) [18, 19, 20, 21, 22, 23, 24, 25, 26, 27] [0, 1, 2, 3, 4, 5, 6, 7, 8, 9, 10, 11, 12, 13, 14, 15, 16, 17] [0, 1, 2, 3, 4, 5, 6, 7, 8, 9, 10, 11, 12, 13, 14, 15, 16, 17, 18, 19, 20, 21, 22, 23, 24, 25, 26, 27] rfl rfl rfl rfl (by decide) rfl (fun _ _ => rfl) (k' := k9) (n' := n9) rfl rfl rfl (fun r_91 _ _ h => ?_)
        refine v_icmp_eq C 722 542 h dL_law_539 (by decide) rfl (fun _ h => ?_) (fun _ h => ?_)
        · refine v_iinc (pc' := 725) C 3 [1, 2, 3, 0] (4) dL_law_722 rfl ic_4 (Nat.le_of_ble_eq_true rfl) h (lw := fun v9 => [(0, .ref b), (1, .ref aQ), (2, .ref aM.1), (3, .int v9)]) (fun _ => rfl) rfl (fun v3_92 h => ?_)
          refine v_goto C (pc' := 18) dL_law_725 (by decide) ?_
          exact ih18 v3_92 zT zN zV zD r_89.2 r_91.2 h ra _ _ hra (by omega) (by omega)
        · refine v_iconst (pc' := 543) C (0) dL_law_542 ic_0 rfl ?_
          exact absurd (Option.some.inj h) (by decide)
      refine v_case C (20) 544 h dL_law_32 (by decide) (by decide) rfl (by decide) (fun h => ?_) (fun hc20 h => ?_)
      · refine v_aload_n (pc' := 545) C 1 dL_law_544 rfl rfl ?_
        refine v_aload_n (pc' := 546) C 0 dL_law_545 rfl rfl ?_
        refine v_iload_n (pc' := 547) C 3 dL_law_546 rfl rfl ?_
        refine v_iconst (pc' := 548) C (1) dL_law_547 ic_1 rfl ?_
        refine v_iadd (pc' := 549) C dL_law_548 rfl ?_
        refine v_sld (pc' := 550) C h hscr hbl hbA dL_law_549 rfl (fun e_93 h => ?_)
        refine v_aload_n (pc' := 551) C 0 dL_law_550 rfl rfl ?_
        refine v_iload_n (pc' := 552) C 3 dL_law_551 rfl rfl ?_
        refine v_iconst (pc' := 553) C (2) dL_law_552 ic_2 rfl ?_
        refine v_iadd (pc' := 554) C dL_law_553 rfl ?_
        refine v_sld (pc' := 555) C h hscr hbl hbA dL_law_554 rfl (fun e_94 h => ?_)
        refine v_aload_n (pc' := 556) C 0 dL_law_555 rfl rfl ?_
        refine v_iload_n (pc' := 557) C 3 dL_law_556 rfl rfl ?_
        refine v_iconst (pc' := 558) C (3) dL_law_557 ic_3 rfl ?_
        refine v_iadd (pc' := 559) C dL_law_558 rfl ?_
        refine v_sld (pc' := 560) C h hscr hbl hbA dL_law_559 rfl (fun e_95 h => ?_)
        refine v_calli (pc' := 563) C h (rf := fun r9 => r9.1) (wT g aT zT ++ wV g aV ra zV ++ wS g aD zD ++ wM g aM zM) (fun r9 (u9 : Unit) => wQ aQ aT aN aV aD aF ++ wT g aT zT ++ wS g aN zN ++ wV g aV ra zV ++ wS g aD zD ++ wF g aF r9.2 ++ wM g aM zM) (fun r hr => run_V C (c_X5_family l g aQ aT aN aV aD aF _ _ _ _ _ r hr) gL_law_X5_family rfl nd_X5_family rfl rfl rfl rfl ⟨Nat.le_of_ble_eq_true rfl, Nat.le_of_ble_eq_true rfl⟩ ⟨Nat.le_trans (Nat.add_le_add_right hkb _) (Nat.le_of_ble_eq_true rfl), Nat.le_trans (Nat.add_le_add_right hnb _) (Nat.le_of_ble_eq_true rfl)⟩ (Nat.le_of_ble_eq_true rfl) dL_law_560 rfl) [0, 4, 5, 6, 7, 14, 15, 16, 17] [1, 2, 3, 8, 9, 10, 11, 12, 13, 18, 19, 20, 21, 22, 23, 24, 25, 26, 27] [19, 0, 1, 2, 20, 21, 22, 23, 3, 4, 5, 6, 7, 8, 24, 25, 26, 27, 9, 10, 11, 12, 13, 14, 15, 16, 17, 18] rfl rfl rfl rfl (by decide) rfl (fun _ _ => rfl) (k' := k9) (n' := n9) rfl rfl rfl (fun r_96 _ _ h => ?_)
        refine v_aload_n (pc' := 564) C 2 dL_law_563 rfl rfl ?_
        refine v_aload_n (pc' := 565) C 0 dL_law_564 rfl rfl ?_
        refine v_iload_n (pc' := 566) C 3 dL_law_565 rfl rfl ?_
        refine v_iconst (pc' := 567) C (1) dL_law_566 ic_1 rfl ?_
        refine v_iadd (pc' := 568) C dL_law_567 rfl ?_
        refine v_sld (pc' := 569) C h hscr hbl hbA dL_law_568 rfl (fun e_97 h => ?_)
        refine v_aload_n (pc' := 570) C 0 dL_law_569 rfl rfl ?_
        refine v_iload_n (pc' := 571) C 3 dL_law_570 rfl rfl ?_
        refine v_iconst (pc' := 572) C (2) dL_law_571 ic_2 rfl ?_
        refine v_iadd (pc' := 573) C dL_law_572 rfl ?_
        refine v_sld (pc' := 574) C h hscr hbl hbA dL_law_573 rfl (fun e_98 h => ?_)
        refine v_aload_n (pc' := 575) C 0 dL_law_574 rfl rfl ?_
        refine v_iload_n (pc' := 576) C 3 dL_law_575 rfl rfl ?_
        refine v_iconst (pc' := 577) C (3) dL_law_576 ic_3 rfl ?_
        refine v_iadd (pc' := 578) C dL_law_577 rfl ?_
        refine v_sld (pc' := 579) C h hscr hbl hbA dL_law_578 rfl (fun e_99 h => ?_)
        refine v_calli (pc' := 582) C h (rf := fun r9 => r9.1) (wQ aQ aT aN aV aD aF ++ wT g aT zT ++ wS g aN zN ++ wV g aV ra zV ++ wS g aD zD ++ wF g aF r_96.2) (fun r9 (u9 : Unit) => wQ aQ aT aN aV aD aF ++ wT g aT zT ++ wS g aN zN ++ wV g aV ra zV ++ wS g aD zD ++ wF g aF r_96.2 ++ wM g aM r9.2) (fun r hr => run_V C (c_X6_family l g aM _ _ _ _ r hr) gL_law_X6_family rfl nd_X6_family rfl rfl rfl rfl ⟨Nat.le_of_ble_eq_true rfl, Nat.le_of_ble_eq_true rfl⟩ ⟨Nat.le_trans (Nat.add_le_add_right hkb _) (Nat.le_of_ble_eq_true rfl), Nat.le_trans (Nat.add_le_add_right hnb _) (Nat.le_of_ble_eq_true rfl)⟩ (Nat.le_of_ble_eq_true rfl) dL_law_579 rfl) [18, 19, 20, 21, 22, 23, 24, 25, 26, 27] [0, 1, 2, 3, 4, 5, 6, 7, 8, 9, 10, 11, 12, 13, 14, 15, 16, 17] [0, 1, 2, 3, 4, 5, 6, 7, 8, 9, 10, 11, 12, 13, 14, 15, 16, 17, 18, 19, 20, 21, 22, 23, 24, 25, 26, 27] rfl rfl rfl rfl (by decide) rfl (fun _ _ => rfl) (k' := k9) (n' := n9) rfl rfl rfl (fun r_100 _ _ h => ?_)
        refine v_icmp_eq C 722 585 h dL_law_582 (by decide) rfl (fun _ h => ?_) (fun _ h => ?_)
        · refine v_iinc (pc' := 725) C 3 [1, 2, 3, 0] (4) dL_law_722 rfl ic_4 (Nat.le_of_ble_eq_true rfl) h (lw := fun v9 => [(0, .ref b), (1, .ref aQ), (2, .ref aM.1), (3, .int v9)]) (fun _ => rfl) rfl (fun v3_101 h => ?_)
          refine v_goto C (pc' := 18) dL_law_725 (by decide) ?_
          exact ih18 v3_101 zT zN zV zD r_96.2 r_100.2 h ra _ _ hra (by omega) (by omega)
        · refine v_iconst (pc' := 586) C (0) dL_law_585 ic_0 rfl ?_
          exact absurd (Option.some.inj h) (by decide)
      refine v_case C (21) 587 h dL_law_32 (by decide) (by decide) rfl (by decide) (fun h => ?_) (fun hc21 h => ?_)
      · refine v_aload_n (pc' := 588) C 1 dL_law_587 rfl rfl ?_
        refine v_aload_n (pc' := 589) C 0 dL_law_588 rfl rfl ?_
        refine v_iload_n (pc' := 590) C 3 dL_law_589 rfl rfl ?_
        refine v_iconst (pc' := 591) C (1) dL_law_590 ic_1 rfl ?_
        refine v_iadd (pc' := 592) C dL_law_591 rfl ?_
        refine v_sld (pc' := 593) C h hscr hbl hbA dL_law_592 rfl (fun e_102 h => ?_)
        refine v_calli (pc' := 596) C h (rf := fun r9 => r9.1) (wT g aT zT ++ wV g aV ra zV ++ wS g aD zD ++ wM g aM zM) (fun r9 (u9 : Unit) => wQ aQ aT aN aV aD aF ++ wT g aT zT ++ wS g aN zN ++ wV g aV ra zV ++ wS g aD zD ++ wF g aF r9.2 ++ wM g aM zM) (fun r hr => run_V C (c_X5_spread l g aQ aT aN aV aD aF _ _ _ r hr) gL_law_X5_spread rfl nd_X5_spread rfl rfl rfl rfl ⟨Nat.le_of_ble_eq_true rfl, Nat.le_of_ble_eq_true rfl⟩ ⟨Nat.le_trans (Nat.add_le_add_right hkb _) (Nat.le_of_ble_eq_true rfl), Nat.le_trans (Nat.add_le_add_right hnb _) (Nat.le_of_ble_eq_true rfl)⟩ (Nat.le_of_ble_eq_true rfl) dL_law_593 rfl) [0, 4, 5, 6, 7, 14, 15, 16, 17] [1, 2, 3, 8, 9, 10, 11, 12, 13, 18, 19, 20, 21, 22, 23, 24, 25, 26, 27] [19, 0, 1, 2, 20, 21, 22, 23, 3, 4, 5, 6, 7, 8, 24, 25, 26, 27, 9, 10, 11, 12, 13, 14, 15, 16, 17, 18] rfl rfl rfl rfl (by decide) rfl (fun _ _ => rfl) (k' := k9) (n' := n9) rfl rfl rfl (fun r_103 _ _ h => ?_)
        refine v_aload_n (pc' := 597) C 2 dL_law_596 rfl rfl ?_
        refine v_aload_n (pc' := 598) C 0 dL_law_597 rfl rfl ?_
        refine v_iload_n (pc' := 599) C 3 dL_law_598 rfl rfl ?_
        refine v_iconst (pc' := 600) C (1) dL_law_599 ic_1 rfl ?_
        refine v_iadd (pc' := 601) C dL_law_600 rfl ?_
        refine v_sld (pc' := 602) C h hscr hbl hbA dL_law_601 rfl (fun e_104 h => ?_)
        refine v_calli (pc' := 605) C h (rf := fun r9 => r9.1) (wQ aQ aT aN aV aD aF ++ wT g aT zT ++ wS g aN zN ++ wV g aV ra zV ++ wS g aD zD ++ wF g aF r_103.2) (fun r9 (u9 : Unit) => wQ aQ aT aN aV aD aF ++ wT g aT zT ++ wS g aN zN ++ wV g aV ra zV ++ wS g aD zD ++ wF g aF r_103.2 ++ wM g aM r9.2) (fun r hr => run_V C (c_X6_spread l g aM _ _ r hr) gL_law_X6_spread rfl nd_X6_spread rfl rfl rfl rfl ⟨Nat.le_of_ble_eq_true rfl, Nat.le_of_ble_eq_true rfl⟩ ⟨Nat.le_trans (Nat.add_le_add_right hkb _) (Nat.le_of_ble_eq_true rfl), Nat.le_trans (Nat.add_le_add_right hnb _) (Nat.le_of_ble_eq_true rfl)⟩ (Nat.le_of_ble_eq_true rfl) dL_law_602 rfl) [18, 19, 20, 21, 22, 23, 24, 25, 26, 27] [0, 1, 2, 3, 4, 5, 6, 7, 8, 9, 10, 11, 12, 13, 14, 15, 16, 17] [0, 1, 2, 3, 4, 5, 6, 7, 8, 9, 10, 11, 12, 13, 14, 15, 16, 17, 18, 19, 20, 21, 22, 23, 24, 25, 26, 27] rfl rfl rfl rfl (by decide) rfl (fun _ _ => rfl) (k' := k9) (n' := n9) rfl rfl rfl (fun r_105 _ _ h => ?_)
        refine v_icmp_eq C 722 608 h dL_law_605 (by decide) rfl (fun _ h => ?_) (fun _ h => ?_)
        · refine v_iinc (pc' := 725) C 3 [1, 2, 3, 0] (4) dL_law_722 rfl ic_4 (Nat.le_of_ble_eq_true rfl) h (lw := fun v9 => [(0, .ref b), (1, .ref aQ), (2, .ref aM.1), (3, .int v9)]) (fun _ => rfl) rfl (fun v3_106 h => ?_)
          refine v_goto C (pc' := 18) dL_law_725 (by decide) ?_
          exact ih18 v3_106 zT zN zV zD r_103.2 r_105.2 h ra _ _ hra (by omega) (by omega)
        · refine v_iconst (pc' := 609) C (0) dL_law_608 ic_0 rfl ?_
          exact absurd (Option.some.inj h) (by decide)
      refine v_case C (22) 610 h dL_law_32 (by decide) (by decide) rfl (by decide) (fun h => ?_) (fun hc22 h => ?_)
      · refine v_aload_n (pc' := 611) C 1 dL_law_610 rfl rfl ?_
        refine v_aload_n (pc' := 612) C 0 dL_law_611 rfl rfl ?_
        refine v_iload_n (pc' := 613) C 3 dL_law_612 rfl rfl ?_
        refine v_iconst (pc' := 614) C (1) dL_law_613 ic_1 rfl ?_
        refine v_iadd (pc' := 615) C dL_law_614 rfl ?_
        refine v_sld (pc' := 616) C h hscr hbl hbA dL_law_615 rfl (fun e_107 h => ?_)
        refine v_calli (pc' := 619) C h (rf := fun r9 => r9) (wT g aT zT ++ wV g aV ra zV ++ wS g aD zD ++ wF g aF zF ++ wM g aM zM) (fun r9 (u9 : Unit) => wQ aQ aT aN aV aD aF ++ wT g aT zT ++ wS g aN zN ++ wV g aV ra zV ++ wS g aD zD ++ wF g aF zF ++ wM g aM zM) (fun r hr => run_V C (c_X5_having l g aQ aT aN aV aD aF _ _ r hr) gL_law_X5_having rfl nd_X5_having rfl rfl rfl rfl ⟨Nat.le_of_ble_eq_true rfl, Nat.le_of_ble_eq_true rfl⟩ ⟨Nat.le_trans (Nat.add_le_add_right hkb _) (Nat.le_of_ble_eq_true rfl), Nat.le_trans (Nat.add_le_add_right hnb _) (Nat.le_of_ble_eq_true rfl)⟩ (Nat.le_of_ble_eq_true rfl) dL_law_616 rfl) [0, 4, 5, 6, 7] [1, 2, 3, 8, 9, 10, 11, 12, 13, 14, 15, 16, 17, 18, 19, 20, 21, 22, 23, 24, 25, 26, 27] [23, 0, 1, 2, 24, 25, 26, 27, 3, 4, 5, 6, 7, 8, 9, 10, 11, 12, 13, 14, 15, 16, 17, 18, 19, 20, 21, 22] rfl rfl rfl rfl (by decide) rfl (fun _ _ => rfl) (k' := k9) (n' := n9) rfl rfl rfl (fun r_108 _ _ h => ?_)
        refine v_aload_n (pc' := 620) C 2 dL_law_619 rfl rfl ?_
        refine v_aload_n (pc' := 621) C 0 dL_law_620 rfl rfl ?_
        refine v_iload_n (pc' := 622) C 3 dL_law_621 rfl rfl ?_
        refine v_iconst (pc' := 623) C (1) dL_law_622 ic_1 rfl ?_
        refine v_iadd (pc' := 624) C dL_law_623 rfl ?_
        refine v_sld (pc' := 625) C h hscr hbl hbA dL_law_624 rfl (fun e_109 h => ?_)
        refine v_calli (pc' := 628) C h (rf := fun r9 => r9) (wQ aQ aT aN aV aD aF ++ wT g aT zT ++ wS g aN zN ++ wV g aV ra zV ++ wS g aD zD ++ wF g aF zF) (fun r9 (u9 : Unit) => wQ aQ aT aN aV aD aF ++ wT g aT zT ++ wS g aN zN ++ wV g aV ra zV ++ wS g aD zD ++ wF g aF zF ++ wM g aM zM) (fun r hr => run_V C (c_X6_having l g aM _ _ r hr) gL_law_X6_having rfl nd_X6_having rfl rfl rfl rfl ⟨Nat.le_of_ble_eq_true rfl, Nat.le_of_ble_eq_true rfl⟩ ⟨Nat.le_trans (Nat.add_le_add_right hkb _) (Nat.le_of_ble_eq_true rfl), Nat.le_trans (Nat.add_le_add_right hnb _) (Nat.le_of_ble_eq_true rfl)⟩ (Nat.le_of_ble_eq_true rfl) dL_law_625 rfl) [18, 19, 20, 21, 22, 23, 24, 25, 26, 27] [0, 1, 2, 3, 4, 5, 6, 7, 8, 9, 10, 11, 12, 13, 14, 15, 16, 17] [0, 1, 2, 3, 4, 5, 6, 7, 8, 9, 10, 11, 12, 13, 14, 15, 16, 17, 18, 19, 20, 21, 22, 23, 24, 25, 26, 27] rfl rfl rfl rfl (by decide) rfl (fun _ _ => rfl) (k' := k9) (n' := n9) rfl rfl rfl (fun r_110 _ _ h => ?_)
        refine v_icmp_eq C 722 631 h dL_law_628 (by decide) rfl (fun _ h => ?_) (fun _ h => ?_)
        · refine v_iinc (pc' := 725) C 3 [1, 2, 3, 0] (4) dL_law_722 rfl ic_4 (Nat.le_of_ble_eq_true rfl) h (lw := fun v9 => [(0, .ref b), (1, .ref aQ), (2, .ref aM.1), (3, .int v9)]) (fun _ => rfl) rfl (fun v3_111 h => ?_)
          refine v_goto C (pc' := 18) dL_law_725 (by decide) ?_
          exact ih18 v3_111 zT zN zV zD zF zM h ra _ _ hra (by omega) (by omega)
        · refine v_iconst (pc' := 632) C (0) dL_law_631 ic_0 rfl ?_
          exact absurd (Option.some.inj h) (by decide)
      refine v_case C (23) 633 h dL_law_32 (by decide) (by decide) rfl (by decide) (fun h => ?_) (fun hc23 h => ?_)
      · refine v_aload_n (pc' := 634) C 1 dL_law_633 rfl rfl ?_
        refine v_calli (pc' := 637) C h (rf := fun r9 => r9) (wT g aT zT ++ wV g aV ra zV ++ wS g aD zD ++ wF g aF zF ++ wM g aM zM) (fun r9 (u9 : Unit) => wQ aQ aT aN aV aD aF ++ wT g aT zT ++ wS g aN zN ++ wV g aV ra zV ++ wS g aD zD ++ wF g aF zF ++ wM g aM zM) (fun r hr => run_V C (c_X5_sureLetters l g aQ aT aN aV aD aF _ r hr) gL_law_X5_sureLetters rfl nd_X5_sureLetters rfl rfl rfl rfl ⟨Nat.le_of_ble_eq_true rfl, Nat.le_of_ble_eq_true rfl⟩ ⟨Nat.le_trans (Nat.add_le_add_right hkb _) (Nat.le_of_ble_eq_true rfl), Nat.le_trans (Nat.add_le_add_right hnb _) (Nat.le_of_ble_eq_true rfl)⟩ (Nat.le_of_ble_eq_true rfl) dL_law_634 rfl) [0, 4, 5, 6, 7] [1, 2, 3, 8, 9, 10, 11, 12, 13, 14, 15, 16, 17, 18, 19, 20, 21, 22, 23, 24, 25, 26, 27] [23, 0, 1, 2, 24, 25, 26, 27, 3, 4, 5, 6, 7, 8, 9, 10, 11, 12, 13, 14, 15, 16, 17, 18, 19, 20, 21, 22] rfl rfl rfl rfl (by decide) rfl (fun _ _ => rfl) (k' := k9) (n' := n9) rfl rfl rfl (fun r_112 _ _ h => ?_)
        refine v_aload_n (pc' := 638) C 2 dL_law_637 rfl rfl ?_
        refine v_calli (pc' := 641) C h (rf := fun r9 => r9) (wQ aQ aT aN aV aD aF ++ wT g aT zT ++ wS g aN zN ++ wV g aV ra zV ++ wS g aD zD ++ wF g aF zF) (fun r9 (u9 : Unit) => wQ aQ aT aN aV aD aF ++ wT g aT zT ++ wS g aN zN ++ wV g aV ra zV ++ wS g aD zD ++ wF g aF zF ++ wM g aM zM) (fun r hr => run_V C (c_X6_sureLetters l g aM _ r hr) gL_law_X6_sureLetters rfl nd_X6_sureLetters rfl rfl rfl rfl ⟨Nat.le_of_ble_eq_true rfl, Nat.le_of_ble_eq_true rfl⟩ ⟨Nat.le_trans (Nat.add_le_add_right hkb _) (Nat.le_of_ble_eq_true rfl), Nat.le_trans (Nat.add_le_add_right hnb _) (Nat.le_of_ble_eq_true rfl)⟩ (Nat.le_of_ble_eq_true rfl) dL_law_638 rfl) [18, 19, 20, 21, 22, 23, 24, 25, 26, 27] [0, 1, 2, 3, 4, 5, 6, 7, 8, 9, 10, 11, 12, 13, 14, 15, 16, 17] [0, 1, 2, 3, 4, 5, 6, 7, 8, 9, 10, 11, 12, 13, 14, 15, 16, 17, 18, 19, 20, 21, 22, 23, 24, 25, 26, 27] rfl rfl rfl rfl (by decide) rfl (fun _ _ => rfl) (k' := k9) (n' := n9) rfl rfl rfl (fun r_113 _ _ h => ?_)
        refine v_icmp_eq C 722 644 h dL_law_641 (by decide) rfl (fun _ h => ?_) (fun _ h => ?_)
        · refine v_iinc (pc' := 725) C 3 [1, 2, 3, 0] (4) dL_law_722 rfl ic_4 (Nat.le_of_ble_eq_true rfl) h (lw := fun v9 => [(0, .ref b), (1, .ref aQ), (2, .ref aM.1), (3, .int v9)]) (fun _ => rfl) rfl (fun v3_114 h => ?_)
          refine v_goto C (pc' := 18) dL_law_725 (by decide) ?_
          exact ih18 v3_114 zT zN zV zD zF zM h ra _ _ hra (by omega) (by omega)
        · refine v_iconst (pc' := 645) C (0) dL_law_644 ic_0 rfl ?_
          exact absurd (Option.some.inj h) (by decide)
      refine v_case C (24) 646 h dL_law_32 (by decide) (by decide) rfl (by decide) (fun h => ?_) (fun hc24 h => ?_)
      · refine v_aload_n (pc' := 647) C 1 dL_law_646 rfl rfl ?_
        refine v_calli (pc' := 650) C h (rf := fun r9 => r9.1) (wT g aT zT ++ wV g aV ra zV ++ wS g aD zD ++ wM g aM zM) (fun r9 (u9 : Unit) => wQ aQ aT aN aV aD aF ++ wT g aT zT ++ wS g aN zN ++ wV g aV ra zV ++ wS g aD zD ++ wF g aF r9.2 ++ wM g aM zM) (fun r hr => run_V C (c_X5_bestGuess l g aQ aT aN aV aD aF _ _ r hr) gL_law_X5_bestGuess rfl nd_X5_bestGuess rfl rfl rfl rfl ⟨Nat.le_of_ble_eq_true rfl, Nat.le_of_ble_eq_true rfl⟩ ⟨Nat.le_trans (Nat.add_le_add_right hkb _) (Nat.le_of_ble_eq_true rfl), Nat.le_trans (Nat.add_le_add_right hnb _) (Nat.le_of_ble_eq_true rfl)⟩ (Nat.le_of_ble_eq_true rfl) dL_law_647 rfl) [0, 4, 5, 6, 7, 14, 15, 16, 17] [1, 2, 3, 8, 9, 10, 11, 12, 13, 18, 19, 20, 21, 22, 23, 24, 25, 26, 27] [19, 0, 1, 2, 20, 21, 22, 23, 3, 4, 5, 6, 7, 8, 24, 25, 26, 27, 9, 10, 11, 12, 13, 14, 15, 16, 17, 18] rfl rfl rfl rfl (by decide) rfl (fun _ _ => rfl) (k' := k9) (n' := n9) rfl rfl rfl (fun r_115 _ _ h => ?_)
        refine v_aload_n (pc' := 651) C 2 dL_law_650 rfl rfl ?_
        refine v_calli (pc' := 654) C h (rf := fun r9 => r9.1) (wQ aQ aT aN aV aD aF ++ wT g aT zT ++ wS g aN zN ++ wV g aV ra zV ++ wS g aD zD ++ wF g aF r_115.2) (fun r9 (u9 : Unit) => wQ aQ aT aN aV aD aF ++ wT g aT zT ++ wS g aN zN ++ wV g aV ra zV ++ wS g aD zD ++ wF g aF r_115.2 ++ wM g aM r9.2) (fun r hr => run_V C (c_X6_bestGuess l g aM _ r hr) gL_law_X6_bestGuess rfl nd_X6_bestGuess rfl rfl rfl rfl ⟨Nat.le_of_ble_eq_true rfl, Nat.le_of_ble_eq_true rfl⟩ ⟨Nat.le_trans (Nat.add_le_add_right hkb _) (Nat.le_of_ble_eq_true rfl), Nat.le_trans (Nat.add_le_add_right hnb _) (Nat.le_of_ble_eq_true rfl)⟩ (Nat.le_of_ble_eq_true rfl) dL_law_651 rfl) [18, 19, 20, 21, 22, 23, 24, 25, 26, 27] [0, 1, 2, 3, 4, 5, 6, 7, 8, 9, 10, 11, 12, 13, 14, 15, 16, 17] [0, 1, 2, 3, 4, 5, 6, 7, 8, 9, 10, 11, 12, 13, 14, 15, 16, 17, 18, 19, 20, 21, 22, 23, 24, 25, 26, 27] rfl rfl rfl rfl (by decide) rfl (fun _ _ => rfl) (k' := k9) (n' := n9) rfl rfl rfl (fun r_116 _ _ h => ?_)
        refine v_icmp_eq C 722 657 h dL_law_654 (by decide) rfl (fun _ h => ?_) (fun _ h => ?_)
        · refine v_iinc (pc' := 725) C 3 [1, 2, 3, 0] (4) dL_law_722 rfl ic_4 (Nat.le_of_ble_eq_true rfl) h (lw := fun v9 => [(0, .ref b), (1, .ref aQ), (2, .ref aM.1), (3, .int v9)]) (fun _ => rfl) rfl (fun v3_117 h => ?_)
          refine v_goto C (pc' := 18) dL_law_725 (by decide) ?_
          exact ih18 v3_117 zT zN zV zD r_115.2 r_116.2 h ra _ _ hra (by omega) (by omega)
        · refine v_iconst (pc' := 658) C (0) dL_law_657 ic_0 rfl ?_
          exact absurd (Option.some.inj h) (by decide)
      refine v_case C (25) 659 h dL_law_32 (by decide) (by decide) rfl (by decide) (fun h => ?_) (fun hc25 h => ?_)
      · refine v_aload_n (pc' := 660) C 1 dL_law_659 rfl rfl ?_
        refine v_calli (pc' := 663) C h (rf := fun r9 => r9.1) (wT g aT zT ++ wV g aV ra zV ++ wM g aM zM) (fun r9 (u9 : Unit) => wQ aQ aT aN aV aD aF ++ wT g aT zT ++ wS g aN zN ++ wV g aV ra zV ++ wS g aD r9.2.1 ++ wF g aF r9.2.2 ++ wM g aM zM) (fun r hr => run_V C (c_X5_missesAhead l g aQ aT aN aV aD aF _ _ _ r hr) gL_law_X5_missesAhead rfl nd_X5_missesAhead rfl rfl rfl rfl ⟨Nat.le_of_ble_eq_true rfl, Nat.le_of_ble_eq_true rfl⟩ ⟨Nat.le_trans (Nat.add_le_add_right hkb _) (Nat.le_of_ble_eq_true rfl), Nat.le_trans (Nat.add_le_add_right hnb _) (Nat.le_of_ble_eq_true rfl)⟩ (Nat.le_of_ble_eq_true rfl) dL_law_660 rfl) [0, 4, 5, 6, 7, 10, 11, 12, 13, 14, 15, 16, 17] [1, 2, 3, 8, 9, 18, 19, 20, 21, 22, 23, 24, 25, 26, 27] [15, 0, 1, 2, 16, 17, 18, 19, 3, 4, 20, 21, 22, 23, 24, 25, 26, 27, 5, 6, 7, 8, 9, 10, 11, 12, 13, 14] rfl rfl rfl rfl (by decide) rfl (fun _ _ => rfl) (k' := k9) (n' := n9) rfl rfl rfl (fun r_118 _ _ h => ?_)
        refine v_aload_n (pc' := 664) C 2 dL_law_663 rfl rfl ?_
        refine v_calli (pc' := 667) C h (rf := fun r9 => r9.1) (wQ aQ aT aN aV aD aF ++ wT g aT zT ++ wS g aN zN ++ wV g aV ra zV ++ wS g aD r_118.2.1 ++ wF g aF r_118.2.2) (fun r9 (u9 : Unit) => wQ aQ aT aN aV aD aF ++ wT g aT zT ++ wS g aN zN ++ wV g aV ra zV ++ wS g aD r_118.2.1 ++ wF g aF r_118.2.2 ++ wM g aM r9.2) (fun r hr => run_V C (c_X6_missesAhead l g aM _ r hr) gL_law_X6_missesAhead rfl nd_X6_missesAhead rfl rfl rfl rfl ⟨Nat.le_of_ble_eq_true rfl, Nat.le_of_ble_eq_true rfl⟩ ⟨Nat.le_trans (Nat.add_le_add_right hkb _) (Nat.le_of_ble_eq_true rfl), Nat.le_trans (Nat.add_le_add_right hnb _) (Nat.le_of_ble_eq_true rfl)⟩ (Nat.le_of_ble_eq_true rfl) dL_law_664 rfl) [18, 19, 20, 21, 22, 23, 24, 25, 26, 27] [0, 1, 2, 3, 4, 5, 6, 7, 8, 9, 10, 11, 12, 13, 14, 15, 16, 17] [0, 1, 2, 3, 4, 5, 6, 7, 8, 9, 10, 11, 12, 13, 14, 15, 16, 17, 18, 19, 20, 21, 22, 23, 24, 25, 26, 27] rfl rfl rfl rfl (by decide) rfl (fun _ _ => rfl) (k' := k9) (n' := n9) rfl rfl rfl (fun r_119 _ _ h => ?_)
        refine v_icmp_eq C 722 670 h dL_law_667 (by decide) rfl (fun _ h => ?_) (fun _ h => ?_)
        · refine v_iinc (pc' := 725) C 3 [1, 2, 3, 0] (4) dL_law_722 rfl ic_4 (Nat.le_of_ble_eq_true rfl) h (lw := fun v9 => [(0, .ref b), (1, .ref aQ), (2, .ref aM.1), (3, .int v9)]) (fun _ => rfl) rfl (fun v3_120 h => ?_)
          refine v_goto C (pc' := 18) dL_law_725 (by decide) ?_
          exact ih18 v3_120 zT zN zV r_118.2.1 r_118.2.2 r_119.2 h ra _ _ hra (by omega) (by omega)
        · refine v_iconst (pc' := 671) C (0) dL_law_670 ic_0 rfl ?_
          exact absurd (Option.some.inj h) (by decide)
      refine v_case C (26) 672 h dL_law_32 (by decide) (by decide) rfl (by decide) (fun h => ?_) (fun hc26 h => ?_)
      · refine v_aload_n (pc' := 673) C 1 dL_law_672 rfl rfl ?_
        refine v_aload_n (pc' := 674) C 0 dL_law_673 rfl rfl ?_
        refine v_iload_n (pc' := 675) C 3 dL_law_674 rfl rfl ?_
        refine v_iconst (pc' := 676) C (1) dL_law_675 ic_1 rfl ?_
        refine v_iadd (pc' := 677) C dL_law_676 rfl ?_
        refine v_sld (pc' := 678) C h hscr hbl hbA dL_law_677 rfl (fun e_121 h => ?_)
        refine v_calli (pc' := 681) C h (rf := fun r9 => r9) (wT g aT zT ++ wV g aV ra zV ++ wS g aD zD ++ wF g aF zF ++ wM g aM zM) (fun r9 (u9 : Unit) => wQ aQ aT aN aV aD aF ++ wT g aT zT ++ wS g aN zN ++ wV g aV ra zV ++ wS g aD zD ++ wF g aF zF ++ wM g aM zM) (fun r hr => run_V C (c_X5_total l g aQ aT aN aV aD aF _ _ r hr) gL_law_X5_total rfl nd_X5_total rfl rfl rfl rfl ⟨Nat.le_of_ble_eq_true rfl, Nat.le_of_ble_eq_true rfl⟩ ⟨Nat.le_trans (Nat.add_le_add_right hkb _) (Nat.le_of_ble_eq_true rfl), Nat.le_trans (Nat.add_le_add_right hnb _) (Nat.le_of_ble_eq_true rfl)⟩ (Nat.le_of_ble_eq_true rfl) dL_law_678 rfl) [0, 4, 5, 6, 7] [1, 2, 3, 8, 9, 10, 11, 12, 13, 14, 15, 16, 17, 18, 19, 20, 21, 22, 23, 24, 25, 26, 27] [23, 0, 1, 2, 24, 25, 26, 27, 3, 4, 5, 6, 7, 8, 9, 10, 11, 12, 13, 14, 15, 16, 17, 18, 19, 20, 21, 22] rfl rfl rfl rfl (by decide) rfl (fun _ _ => rfl) (k' := k9) (n' := n9) rfl rfl rfl (fun r_122 _ _ h => ?_)
        refine v_aload_n (pc' := 682) C 2 dL_law_681 rfl rfl ?_
        refine v_aload_n (pc' := 683) C 0 dL_law_682 rfl rfl ?_
        refine v_iload_n (pc' := 684) C 3 dL_law_683 rfl rfl ?_
        refine v_iconst (pc' := 685) C (1) dL_law_684 ic_1 rfl ?_
        refine v_iadd (pc' := 686) C dL_law_685 rfl ?_
        refine v_sld (pc' := 687) C h hscr hbl hbA dL_law_686 rfl (fun e_123 h => ?_)
        refine v_calli (pc' := 690) C h (rf := fun r9 => r9) (wQ aQ aT aN aV aD aF ++ wT g aT zT ++ wS g aN zN ++ wV g aV ra zV ++ wS g aD zD ++ wF g aF zF) (fun r9 (u9 : Unit) => wQ aQ aT aN aV aD aF ++ wT g aT zT ++ wS g aN zN ++ wV g aV ra zV ++ wS g aD zD ++ wF g aF zF ++ wM g aM zM) (fun r hr => run_V C (c_X6_total l g aM _ _ r hr) gL_law_X6_total rfl nd_X6_total rfl rfl rfl rfl ⟨Nat.le_of_ble_eq_true rfl, Nat.le_of_ble_eq_true rfl⟩ ⟨Nat.le_trans (Nat.add_le_add_right hkb _) (Nat.le_of_ble_eq_true rfl), Nat.le_trans (Nat.add_le_add_right hnb _) (Nat.le_of_ble_eq_true rfl)⟩ (Nat.le_of_ble_eq_true rfl) dL_law_687 rfl) [18, 19, 20, 21, 22, 23, 24, 25, 26, 27] [0, 1, 2, 3, 4, 5, 6, 7, 8, 9, 10, 11, 12, 13, 14, 15, 16, 17] [0, 1, 2, 3, 4, 5, 6, 7, 8, 9, 10, 11, 12, 13, 14, 15, 16, 17, 18, 19, 20, 21, 22, 23, 24, 25, 26, 27] rfl rfl rfl rfl (by decide) rfl (fun _ _ => rfl) (k' := k9) (n' := n9) rfl rfl rfl (fun r_124 _ _ h => ?_)
        refine v_icmp_eq C 722 693 h dL_law_690 (by decide) rfl (fun _ h => ?_) (fun _ h => ?_)
        · refine v_iinc (pc' := 725) C 3 [1, 2, 3, 0] (4) dL_law_722 rfl ic_4 (Nat.le_of_ble_eq_true rfl) h (lw := fun v9 => [(0, .ref b), (1, .ref aQ), (2, .ref aM.1), (3, .int v9)]) (fun _ => rfl) rfl (fun v3_125 h => ?_)
          refine v_goto C (pc' := 18) dL_law_725 (by decide) ?_
          exact ih18 v3_125 zT zN zV zD zF zM h ra _ _ hra (by omega) (by omega)
        · refine v_iconst (pc' := 694) C (0) dL_law_693 ic_0 rfl ?_
          exact absurd (Option.some.inj h) (by decide)
      refine v_case C (27) 695 h dL_law_32 (by decide) (by decide) rfl (by decide) (fun h => ?_) (fun hc27 h => ?_)
      · refine v_aload_n (pc' := 696) C 1 dL_law_695 rfl rfl ?_
        refine v_callPi (pc' := 699) C h (rf := fun r9 => r9.1) (wT g aT zT ++ wS g aD zD ++ wF g aF zF ++ wM g aM zM) (fun r9 u9 => wQ aQ aT aN aV aD aF ++ wT g aT zT ++ wS g aN r9.2.1 ++ wV g aV u9 r9.2.2 ++ wS g aD zD ++ wF g aF zF ++ wM g aM zM) (fun r hr => run_V C (c_X5_undo l g aQ aT aN aV aD aF _ _ _ r hr hra) gL_law_X5_undo rfl nd_X5_undo rfl rfl rfl rfl ⟨Nat.le_of_ble_eq_true rfl, Nat.le_of_ble_eq_true rfl⟩ ⟨Nat.le_trans (Nat.add_le_add_right hkb _) (Nat.le_of_ble_eq_true rfl), Nat.le_trans (Nat.add_le_add_right hnb _) (Nat.le_of_ble_eq_true rfl)⟩ (Nat.le_of_ble_eq_true rfl) dL_law_696 rfl) [0, 4, 5, 6, 7, 8, 9] [1, 2, 3, 10, 11, 12, 13, 14, 15, 16, 17, 18, 19, 20, 21, 22, 23, 24, 25, 26, 27] [21, 0, 1, 2, 22, 23, 24, 25, 26, 27, 3, 4, 5, 6, 7, 8, 9, 10, 11, 12, 13, 14, 15, 16, 17, 18, 19, 20] rfl rfl rfl rfl (by decide) rfl (fun _ _ => rfl) (k' := k9) (n' := n9) rfl rfl rfl (fun r_126 ra_127 hra h => ?_)
        refine v_aload_n (pc' := 700) C 2 dL_law_699 rfl rfl ?_
        refine v_calli (pc' := 703) C h (rf := fun r9 => r9.1) (wQ aQ aT aN aV aD aF ++ wT g aT zT ++ wS g aN r_126.2.1 ++ wV g aV ra_127 r_126.2.2 ++ wS g aD zD ++ wF g aF zF) (fun r9 (u9 : Unit) => wQ aQ aT aN aV aD aF ++ wT g aT zT ++ wS g aN r_126.2.1 ++ wV g aV ra_127 r_126.2.2 ++ wS g aD zD ++ wF g aF zF ++ wM g aM r9.2) (fun r hr => run_V C (c_X6_undo l g aM _ r hr) gL_law_X6_undo rfl nd_X6_undo rfl rfl rfl rfl ⟨Nat.le_of_ble_eq_true rfl, Nat.le_of_ble_eq_true rfl⟩ ⟨Nat.le_trans (Nat.add_le_add_right hkb _) (Nat.le_of_ble_eq_true rfl), Nat.le_trans (Nat.add_le_add_right hnb _) (Nat.le_of_ble_eq_true rfl)⟩ (Nat.le_of_ble_eq_true rfl) dL_law_700 rfl) [18, 19, 20, 21, 22, 23, 24, 25, 26, 27] [0, 1, 2, 3, 4, 5, 6, 7, 8, 9, 10, 11, 12, 13, 14, 15, 16, 17] [0, 1, 2, 3, 4, 5, 6, 7, 8, 9, 10, 11, 12, 13, 14, 15, 16, 17, 18, 19, 20, 21, 22, 23, 24, 25, 26, 27] rfl rfl rfl rfl (by decide) rfl (fun _ _ => rfl) (k' := k9) (n' := n9) rfl rfl rfl (fun r_128 _ _ h => ?_)
        refine v_icmp_eq C 722 706 h dL_law_703 (by decide) rfl (fun _ h => ?_) (fun _ h => ?_)
        · refine v_iinc (pc' := 725) C 3 [1, 2, 3, 0] (4) dL_law_722 rfl ic_4 (Nat.le_of_ble_eq_true rfl) h (lw := fun v9 => [(0, .ref b), (1, .ref aQ), (2, .ref aM.1), (3, .int v9)]) (fun _ => rfl) rfl (fun v3_129 h => ?_)
          refine v_goto C (pc' := 18) dL_law_725 (by decide) ?_
          exact ih18 v3_129 zT r_126.2.1 r_126.2.2 zD zF r_128.2 h ra_127 _ _ hra (by omega) (by omega)
        · refine v_iconst (pc' := 707) C (0) dL_law_706 ic_0 rfl ?_
          exact absurd (Option.some.inj h) (by decide)
      refine v_case C (28) 708 h dL_law_32 (by decide) (by decide) rfl (by decide) (fun h => ?_) (fun hc28 h => ?_)
      · refine v_aload_n (pc' := 709) C 1 dL_law_708 rfl rfl ?_
        refine v_calll (pc' := 712) C h (rf := fun r9 => r9.1) (wT g aT zT ++ wV g aV ra zV ++ wS g aD zD ++ wM g aM zM) (fun r9 (u9 : Unit) => wQ aQ aT aN aV aD aF ++ wT g aT zT ++ wS g aN zN ++ wV g aV ra zV ++ wS g aD zD ++ wF g aF r9.2 ++ wM g aM zM) (fun r hr => run_V C (c_X5_digest l g aQ aT aN aV aD aF _ _ r hr) gL_law_X5_digest rfl nd_X5_digest rfl rfl rfl rfl ⟨Nat.le_of_ble_eq_true rfl, Nat.le_of_ble_eq_true rfl⟩ ⟨Nat.le_trans (Nat.add_le_add_right hkb _) (Nat.le_of_ble_eq_true rfl), Nat.le_trans (Nat.add_le_add_right hnb _) (Nat.le_of_ble_eq_true rfl)⟩ (Nat.le_of_ble_eq_true rfl) dL_law_709 rfl) [0, 4, 5, 6, 7, 14, 15, 16, 17] [1, 2, 3, 8, 9, 10, 11, 12, 13, 18, 19, 20, 21, 22, 23, 24, 25, 26, 27] [19, 0, 1, 2, 20, 21, 22, 23, 3, 4, 5, 6, 7, 8, 24, 25, 26, 27, 9, 10, 11, 12, 13, 14, 15, 16, 17, 18] rfl rfl rfl rfl (by decide) rfl (fun _ _ => rfl) (k' := k9) (n' := n9) rfl rfl rfl (fun r_130 _ _ h => ?_)
        refine v_aload_n (pc' := 713) C 2 dL_law_712 rfl rfl ?_
        refine v_calll (pc' := 716) C h (rf := fun r9 => r9.1) (wQ aQ aT aN aV aD aF ++ wT g aT zT ++ wS g aN zN ++ wV g aV ra zV ++ wS g aD zD ++ wF g aF r_130.2) (fun r9 (u9 : Unit) => wQ aQ aT aN aV aD aF ++ wT g aT zT ++ wS g aN zN ++ wV g aV ra zV ++ wS g aD zD ++ wF g aF r_130.2 ++ wM g aM r9.2) (fun r hr => run_V C (c_X6_digest l g aM _ r hr) gL_law_X6_digest rfl nd_X6_digest rfl rfl rfl rfl ⟨Nat.le_of_ble_eq_true rfl, Nat.le_of_ble_eq_true rfl⟩ ⟨Nat.le_trans (Nat.add_le_add_right hkb _) (Nat.le_of_ble_eq_true rfl), Nat.le_trans (Nat.add_le_add_right hnb _) (Nat.le_of_ble_eq_true rfl)⟩ (Nat.le_of_ble_eq_true rfl) dL_law_713 rfl) [18, 19, 20, 21, 22, 23, 24, 25, 26, 27] [0, 1, 2, 3, 4, 5, 6, 7, 8, 9, 10, 11, 12, 13, 14, 15, 16, 17] [0, 1, 2, 3, 4, 5, 6, 7, 8, 9, 10, 11, 12, 13, 14, 15, 16, 17, 18, 19, 20, 21, 22, 23, 24, 25, 26, 27] rfl rfl rfl rfl (by decide) rfl (fun _ _ => rfl) (k' := k9) (n' := n9) rfl rfl rfl (fun r_131 _ _ h => ?_)
        refine v_lcmp_eq C 722 720 h dL_law_716 dL_law_717 rfl (by decide) rfl (fun _ h => ?_) (fun _ h => ?_)
        · refine v_iinc (pc' := 725) C 3 [1, 2, 3, 0] (4) dL_law_722 rfl ic_4 (Nat.le_of_ble_eq_true rfl) h (lw := fun v9 => [(0, .ref b), (1, .ref aQ), (2, .ref aM.1), (3, .int v9)]) (fun _ => rfl) rfl (fun v3_132 h => ?_)
          refine v_goto C (pc' := 18) dL_law_725 (by decide) ?_
          exact ih18 v3_132 zT zN zV zD r_130.2 r_131.2 h ra _ _ hra (by omega) (by omega)
        · refine v_iconst (pc' := 721) C (0) dL_law_720 ic_0 rfl ?_
          exact absurd (Option.some.inj h) (by decide)
      refine v_dflt C 722 dL_law_32 (sw_out (e_1 &&& (31 : Int32)) 0 29 (by decide) (by intro i hi; match i, hi with | 0, _ => exact hc0 | 1, _ => exact hc1 | 2, _ => exact hc2 | 3, _ => exact hc3 | 4, _ => exact hc4 | 5, _ => exact hc5 | 6, _ => exact hc6 | 7, _ => exact hc7 | 8, _ => exact hc8 | 9, _ => exact hc9 | 10, _ => exact hc10 | 11, _ => exact hc11 | 12, _ => exact hc12 | 13, _ => exact hc13 | 14, _ => exact hc14 | 15, _ => exact hc15 | 16, _ => exact hc16 | 17, _ => exact hc17 | 18, _ => exact hc18 | 19, _ => exact hc19 | 20, _ => exact hc20 | 21, _ => exact hc21 | 22, _ => exact hc22 | 23, _ => exact hc23 | 24, _ => exact hc24 | 25, _ => exact hc25 | 26, _ => exact hc26 | 27, _ => exact hc27 | 28, _ => exact hc28 | i + 29, hi => exact absurd hi (by omega))) (by decide) ?_
      refine v_iinc (pc' := 725) C 3 [1, 2, 3, 0] (4) dL_law_722 rfl ic_4 (Nat.le_of_ble_eq_true rfl) h (lw := fun v9 => [(0, .ref b), (1, .ref aQ), (2, .ref aM.1), (3, .int v9)]) (fun _ => rfl) rfl (fun v3_133 h => ?_)
      refine v_goto C (pc' := 18) dL_law_725 (by decide) ?_
      exact ih18 v3_133 zT zN zV zD zF zM h ra _ _ hra (by omega) (by omega)
