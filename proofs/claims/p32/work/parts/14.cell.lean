/-! ===== the law's method that reads the script ===== -/
def f_L_cell (xs : Nat → Int32) (L : Nat) (p1 : Int32) : Option Int32 :=
  if p1 < (Int32.ofNat L) then getA xs L p1 fun e_1 =>
  some (e_1 &&& (2147483647 : Int32))
  else some ((((49333 : Int32) * (p1 + (7 : Int32))) + (29 : Int32)) &&& (2147483647 : Int32))
abbrev rm_L_cell : Room := { frames := 0, cells := 0, slots := 0, locals := 0 }
theorem k_L_cell_1 : Cond.constant RL 7 (49333) ∈ wsL_cell := List.mem_of_getElem? (i := 1) rfl
theorem k_L_cell_2 : Cond.constant RL 8 (2147483647) ∈ wsL_cell := List.mem_of_getElem? (i := 2) rfl
theorem nd_L_cell : yL_cell.cls ≠ "java/lang/invoke/MethodHandle" ∧ yL_cell.cls ≠ "java/lang/invoke/VarHandle" ∧ (parseMethodDescriptor yL_cell.desc).map (fun d => d.parameters.length) = some 2 := by decide +kernel
set_option maxHeartbeats 8000000 in
set_option maxRecDepth 100000 in
theorem c_L_cell (l : Launch) (g : Gv) (b L : Nat) (xs : Nat → Int32) (p1 : Int32) (o : Int32) (h : f_L_cell xs L p1 = some o) : CtX l g yL_cell wsL_cell rm_L_cell [.ref b, .int p1] b L xs o := by
  refine enterX (ret := (some .int)) pn_L rfl (Nat.le_of_ble_eq_true rfl) ?_
  intro p e s m args below meth c A Q C Cr hscr hbl hbA hQ
  unfold f_L_cell at h
  refine v_iload_n (pc' := 1) C 1 dL_cell_0 rfl rfl ?_
  refine v_aload_n (pc' := 2) C 0 dL_cell_1 rfl rfl ?_
  refine v_slen (pc' := 3) C hscr hbl hbA dL_cell_2 rfl ?_
  refine v_icmp_ge C 12 6 h dL_cell_3 (by decide) rfl (fun _ h => ?_) (fun _ h => ?_)
  · refine v_ldc (pc' := 14) C (49333) dL_cell_12 k_L_cell_1 rfl ?_
    refine v_iload_n (pc' := 15) C 1 dL_cell_14 rfl rfl ?_
    refine v_bipush (pc' := 17) C (7) dL_cell_15 bc_7 rfl ?_
    refine v_iadd (pc' := 18) C dL_cell_17 rfl ?_
    refine v_imul (pc' := 19) C dL_cell_18 rfl ?_
    refine v_bipush (pc' := 21) C (29) dL_cell_19 bc_29 rfl ?_
    refine v_iadd (pc' := 22) C dL_cell_21 rfl ?_
    refine v_ldc (pc' := 24) C (2147483647) dL_cell_22 k_L_cell_2 rfl ?_
    refine v_iand (pc' := 25) C dL_cell_24 rfl ?_
    exact v_iret (rf := fun (o9 : Int32) => o9) (Wf := fun (o9 : Int32) (u9 : Unit) => []) (ok := fun (o9 : Int32) (u9 : Unit) => True) C Cr h hQ () trivial rfl rfl dL_cell_25
  · refine v_aload_n (pc' := 7) C 0 dL_cell_6 rfl rfl ?_
    refine v_iload_n (pc' := 8) C 1 dL_cell_7 rfl rfl ?_
    refine v_sld (pc' := 9) C h hscr hbl hbA dL_cell_8 rfl (fun e_1 h => ?_)
    refine v_goto C (pc' := 22) dL_cell_9 (by decide) ?_
    refine v_ldc (pc' := 24) C (2147483647) dL_cell_22 k_L_cell_2 rfl ?_
    refine v_iand (pc' := 25) C dL_cell_24 rfl ?_
    exact v_iret (rf := fun (o9 : Int32) => o9) (Wf := fun (o9 : Int32) (u9 : Unit) => []) (ok := fun (o9 : Int32) (u9 : Unit) => True) C Cr h hQ () trivial rfl rfl dL_cell_25
