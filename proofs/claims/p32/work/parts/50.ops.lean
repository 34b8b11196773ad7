/-! ===== the calls of the class, each on a game ===== -/
theorem empty3 (T : Tx) : ∃ T', f_X3_empty T = some T' ∧ T_length T' = 0 := ⟨_, rfl, rfl⟩
theorem cP_le {c : Nat} (h : c ≤ 6) : cP c ≤ 6 := by
  unfold cP
  by_cases q : c = 6
  · rw [if_pos q]; omega
  · rw [if_neg q]; omega
theorem cP_pos (c : Nat) : ∃ d, cP c = d + 1 ∧ (c ≤ 6 → d < 6) := by
  unfold cP
  by_cases q : c = 6
  · rw [if_pos q]; exact ⟨5, rfl, fun _ => by omega⟩
  · rw [if_neg q]; exact ⟨c, rfl, fun _ => by omega⟩
section OPS
variable {z : St} {V : Sv} {T : Tx} {g : GS} {gs : Nat → GS} {c t : Nat} {ch : Nat → Nat}
theorem pol5 (r : RS z g) (ok : okG g) (c6 : c ≤ 6) (rv : RV V c gs) {j : Nat} (hj : j ≤ 2) : ∃ z' V', f_X5_setPolicy z V (nI j) = some (nI (G_pol g), z', V') ∧ RS z' (U_pol g j) ∧ RV V' (cP c) (gsP g gs) := by
  obtain ⟨V', e1, v1⟩ := push2 r ok c6 rv
  unfold f_X5_setPolicy
  have b1 : ∀ {α : Type} (t f : α), (if 2 < nI j then t else f) = if 2 < j then t else f := fun t f => i_lt (a := 2) (by omega) (by omega)
  rw [if_neg (nI_pos (by omega)), b1, if_neg (by omega), lt_, e1, ob, lt_, r.2.1]
  exact ⟨_, _, rfl, RS_pol r j, v1⟩
theorem pol5_bad {p : Int32} (h : p < 0 ∨ ∃ j, 2 < j ∧ j < 2147483648 ∧ p = nI j) : f_X5_setPolicy z V p = some (-2, z, V) := by
  unfold f_X5_setPolicy
  rcases h with h | ⟨j, h1, h2, rfl⟩
  · rw [if_pos h]
  · have b1 : ∀ {α : Type} (t f : α), (if 2 < nI j then t else f) = if 2 < j then t else f := fun t f => i_lt (a := 2) (by omega) h2
    rw [if_neg (nI_pos h2), b1, if_pos h1]
theorem give5_no (r : RS z g) (ok : okG g) (hs : G_st g ≠ 1) : f_X5_giveUp z V = some (-3, z, V) := by
  unfold f_X5_giveUp
  rw [runs2 r ok, ob, if_neg hs, if_pos rfl]
theorem give5 (r : RS z g) (ok : okG g) (c6 : c ≤ 6) (rv : RV V c gs) (hs : G_st g = 1) : ∃ z' V', f_X5_giveUp z V = some (memA (G_cd g) 0, z', V') ∧ RS z' (gLose g) ∧ RV V' (cP c) (gsP g gs) := by
  obtain ⟨V', e1, v1⟩ := push2 r ok c6 rv
  obtain ⟨z2, f1, f2⟩ := lose2 r
  unfold f_X5_giveUp
  rw [runs2 r ok, ob, if_pos hs, if_neg (by decide), e1, ob, f1, ob, show S_candidates z2 = G_cd g from f2.2.2.2.2.2.2.2.1, member5, ob]
  exact ⟨_, _, rfl, f2, v1⟩
theorem guess5_bad {p : Int32} (h : f_X5_isLetter p = some 0) (F : Fm) : f_X5_guess z V F p = some (-2, z, V, F) := by
  unfold f_X5_guess
  rw [h, ob, if_pos rfl]
theorem guess5_no (r : RS z g) (ok : okG g) (hs : G_st g ≠ 1) {b : Nat} (hb : b < 26) (F : Fm) : f_X5_guess z V F (nI (97 + b)) = some (-3, z, V, F) := by
  unfold f_X5_guess
  rw [isLetter5 (by omega), if_pos (by omega), ob, if_neg (by decide), runs2 r ok, ob, if_neg hs, if_pos rfl]
theorem guess5_none (r : RS z g) (ok : okG g) (hs : G_st g = 1) {b : Nat} (hb : b < 26) (hg : bt (G_gs g) b = true) (F : Fm) : f_X5_guess z V F (nI (97 + b)) = some (-6, z, V, F) := by
  unfold f_X5_guess
  rw [isLetter5 (by omega), if_pos (by omega), ob, if_neg (by decide), runs2 r ok, ob, if_pos hs, if_neg (by decide), wasGuessed2 r hb, ob, if_pos hg, if_neg (by decide)]
theorem guess5 (r : RS z g) (ok : okG g) (c6 : c ≤ 6) (rv : RV V c gs) (hs : G_st g = 1) {b : Nat} (hb : b < 26) (hg : bt (G_gs g) b = false) (F : Fm) : ∃ z' V' F', f_X5_guess z V F (nI (97 + b)) = some (nI (kp (gF g b) (gV g b)), z', V', F') ∧ RS z' (gGuess g b) ∧ RV V' (cP c) (gsP g gs) := by
  obtain ⟨V', e1, v1⟩ := push2 r ok c6 rv
  obtain ⟨F', z2, f1, f2⟩ := play0 r ok (ok.2.2.2.2.2.2.2.2.2.2.2.2 hs) hb hg F
  unfold f_X5_guess
  rw [isLetter5 (by omega), if_pos (by omega), ob, if_neg (by decide), runs2 r ok, ob, if_pos hs, if_neg (by decide), wasGuessed2 r hb, ob, if_neg (show ¬ bt (G_gs g) b = true by rw [hg]; decide), if_pos rfl, e1, ob, f1, ob]
  exact ⟨_, _, _, rfl, f2, v1⟩
theorem undo5_no (rv : RV V 0 gs) : f_X5_undo z V = some (-3, z, V) := by
  unfold f_X5_undo
  rw [pop2_0 rv, ob, if_pos rfl]
theorem undo5 {d : Nat} (hd : d < 6) (ok : okG (gs 0)) (rv : RV V (d + 1) gs) : ∃ z' V', f_X5_undo z V = some (nI d, z', V') ∧ RS z' (gs 0) ∧ RV V' d (fun j => gs (j + 1)) := by
  obtain ⟨V', z2, f1, f2, f3, f4⟩ := pop2 (z := z) hd ok rv
  unfold f_X5_undo
  rw [f1, ob, if_neg (show ¬ (1 : Int32) = 0 by decide)]
  exact ⟨z2, V', by show some (V'.2.2, z2, V') = _; rw [f2], f3, f4⟩
theorem rem5_bad {p : Int32} (r : RS z g) (ok : okG g) (h : p < 0 ∨ ∃ j, G_n g ≤ j ∧ j < 2147483648 ∧ p = nI j) : f_X5_removeWord z V p = some (-1, z, V) := by
  unfold f_X5_removeWord
  rcases h with h | ⟨j, h1, h2, rfl⟩
  · rw [hasWord2_neg h, ob, if_pos rfl]
  · rw [hasWord2 r ok h2, ob, if_neg (show ¬ j < G_n g by omega), if_pos rfl]
theorem rem5_no (r : RS z g) (ok : okG g) {j : Nat} (hj : j < G_n g) (hs : G_st g = 1) : f_X5_removeWord z V (nI j) = some (-3, z, V) := by
  have := ok.1
  unfold f_X5_removeWord
  rw [hasWord2 r ok (by omega), ob, if_pos hj, if_neg (by decide), runs2 r ok, ob, if_pos hs, if_neg (by decide)]
theorem rem5 (r : RS z g) (ok : okG g) (c6 : c ≤ 6) (rv : RV V c gs) {j : Nat} (hj : j < G_n g) (hs : G_st g ≠ 1) : ∃ z' V', f_X5_removeWord z V (nI j) = some (nI (G_n g - 1), z', V') ∧ RS z' (gRem (gEnd g) j) ∧ RV V' (cP c) (gsP g gs) := by
  have := ok.1
  obtain ⟨V', e1, v1⟩ := push2 r ok c6 rv
  obtain ⟨z1, f1, f2⟩ := rem2 r ok hj
  obtain ⟨z2, f3, f4⟩ := end2 f2
  unfold f_X5_removeWord
  rw [hasWord2 r ok (by omega), ob, if_pos hj, if_neg (by decide), runs2 r ok, ob, if_neg hs, if_pos rfl, e1, ob, f1, ob, f3, ob, show S_wordCount z2 = nI (G_n g - 1) from f4.1]
  exact ⟨_, _, rfl, f4, v1⟩
theorem start5_bad {p q : Int32} (h : p < 2 ∨ (8 : Int32) < p ∨ q < 1 ∨ (20 : Int32) < q) : f_X5_start z V p q = some (-2, z, V) := by
  unfold f_X5_start
  by_cases a : p < 2
  · rw [if_pos a]
  · rw [if_neg a]
    by_cases b : (8 : Int32) < p
    · rw [if_pos b]
    · rw [if_neg b]
      by_cases d : q < 1
      · rw [if_pos d]
      · rw [if_neg d]
        by_cases e : (20 : Int32) < q
        · rw [if_pos e]
        · rcases h with h | h | h | h
          · exact absurd h a
          · exact absurd h b
          · exact absurd h d
          · exact absurd h e
theorem start5_in {l v : Nat} (hl : 2 ≤ l ∧ l ≤ 8) (hv : 1 ≤ v ∧ v ≤ 20) (r : RS z g) (ok : okG g) : f_X5_start z V (nI l) (nI v) = if wl g l = 0 then some ((-3 : Int32), z, V) else Option.bind (f_X1_push V z) fun r_2 => Option.bind (f_X2_begin z (nI l) (nI v) (wl g l)) fun r_4 => Option.bind (f_J6_bitCount_0f7a4 (wl g l)) fun r_5 => some (r_5, r_4, r_2) := by
  unfold f_X5_start
  have b1 : ∀ {α : Type} (t f : α), (if nI l < 2 then t else f) = if l < 2 then t else f := fun t f => i_lt (b := 2) (by omega) (by omega)
  have b2 : ∀ {α : Type} (t f : α), (if 8 < nI l then t else f) = if 8 < l then t else f := fun t f => i_lt (a := 8) (by omega) (by omega)
  have b3 : ∀ {α : Type} (t f : α), (if nI v < 1 then t else f) = if v < 1 then t else f := fun t f => i_lt (b := 1) (by omega) (by omega)
  have b4 : ∀ {α : Type} (t f : α), (if 20 < nI v then t else f) = if 20 < v then t else f := fun t f => i_lt (a := 20) (by omega) (by omega)
  rw [b1, b2, b3, b4, if_neg (by omega), if_neg (by omega), if_neg (by omega), if_neg (by omega), wl2 r ok (by omega), ob]
theorem start5 {l v : Nat} (hl : 2 ≤ l ∧ l ≤ 8) (hv : 1 ≤ v ∧ v ≤ 20) (r : RS z g) (ok : okG g) (c6 : c ≤ 6) (rv : RV V c gs) (hw : wl g l ≠ 0) : ∃ z' V', f_X5_start z V (nI l) (nI v) = some (nI (bc (wl g l) 31), z', V') ∧ RS z' (gStart g l v) ∧ RV V' (cP c) (gsP g gs) := by
  obtain ⟨V', e1, v1⟩ := push2 r ok c6 rv
  have b31 : bt (wl g l) 31 = false := by
    cases e : bt (wl g l) 31
    · rfl
    · have := ((wl_bt ok).mp e).1; have := ok.1; omega
  obtain ⟨z1, f1, f2⟩ := end2 r
  obtain ⟨z2, f3, f4⟩ := count2' (RS_cd (RS_lv (RS_len (RS_st f2 1) l) v) (wl g l)) (k := 0) (by omega)
  have f5 : f_X2_begin z (nI l) (nI v) (wl g l) = some z2 := by
    unfold f_X2_begin
    rw [f1, ob, lt_, lt_, lt_, lt_]
    show Option.bind (f_X2_count (S_candidates_set (S_lives_set (S_length_set (S_status_set z1 (nI 1)) (nI l)) (nI v)) (wl g l)) (nI 0)) _ = _
    rw [f3, ob]
  rw [start5_in hl hv r ok, if_neg hw, e1, ob, f5, ob, bitCount5, ob, bc_top b31]
  exact ⟨_, _, rfl, f4, v1⟩
/-! the text -/
theorem type5_bad {p : Int32} (h : p < 0 ∨ ∃ j, j < 2147483648 ∧ (j < 33 ∨ 126 < j) ∧ p = nI j) : f_X5_type T p = some (-2, T) := by
  unfold f_X5_type
  rcases h with h | ⟨j, hj, h, rfl⟩
  · rw [if_pos (show p < 33 from neg_lt h (a := 33) (by omega))]
  · have b1 : ∀ {α : Type} (t f : α), (if nI j < 33 then t else f) = if j < 33 then t else f := fun t f => i_lt (b := 33) hj (by omega)
    have b2 : ∀ {α : Type} (t f : α), (if 126 < nI j then t else f) = if 126 < j then t else f := fun t f => i_lt (a := 126) (by omega) hj
    rw [b1, b2]
    by_cases q : j < 33
    · rw [if_pos q]
    · rw [if_neg q, if_pos (by omega)]
theorem type5 (h : TXr T t ch) {j : Nat} (h1 : 33 ≤ j ∧ j ≤ 126) (h2 : t < 80) : ∃ T', f_X5_type T (nI j) = some (nI (t + 1), T') ∧ TXr T' (t + 1) (fun k => if k = t then j else ch k) := by
  unfold f_X5_type
  have b1 : ∀ {α : Type} (t f : α), (if nI j < 33 then t else f) = if j < 33 then t else f := fun t f => i_lt (b := 33) (by omega) (by omega)
  have b2 : ∀ {α : Type} (t f : α), (if 126 < nI j then t else f) = if 126 < j then t else f := fun t f => i_lt (a := 126) (by omega) (by omega)
  have en : vp_nar .char (((nI j).toUInt32 % 65536).toInt32) = nI j := by
    have : ∀ j : Fin 127, vp_nar .char (((nI j.val).toUInt32 % 65536).toInt32) = nI j.val := by decide +kernel
    exact this ⟨j, by omega⟩
  rw [b1, b2, if_neg (by omega), if_neg (by omega)]
  unfold f_X3_append
  rw [h.1, i_n (by omega), show (80 : Int32) = nI 80 from rfl, i_lt (by omega) (by omega), if_pos h2, chkA_n h2 (by omega), lt_, lt_, ob, if_neg (show ¬ (1 : Int32) = 0 by decide), x_cl (by omega), en]
  refine ⟨T_length_set (T_signs_set T (upd (T_signs T) t (nI j))) (T_length T + 1), ?_, ?_, by omega, trivial, fun k hk => ?_⟩
  · show some (T_length T + 1, T_length_set (T_signs_set T (upd (T_signs T) t (nI j))) (T_length T + 1)) = _
    rw [h.1, x_a1]
  · show T_length T + 1 = _
    rw [h.1, x_a1]
  · show upd (T_signs T) t (nI j) k = nI (if k = t then j else ch k) ∧ True ∧ 33 ≤ (if k = t then j else ch k) ∧ (if k = t then j else ch k) ≤ 126
    by_cases u : k = t
    · rw [u, upd_e, if_pos rfl]
      exact ⟨rfl, trivial, by omega, by omega⟩
    · rw [upd_n u, if_neg u]
      exact h.2.2.2 k (by omega)
theorem clear5 (h : TXr T t ch) : ∃ T', f_X5_clearText T = some (nI t, T') ∧ TXr T' 0 ch := by
  unfold f_X5_clearText f_X3_empty
  rw [lt_, lt_, ob, h.1]
  exact ⟨_, rfl, rfl, by omega, trivial, fun k hk => absurd hk (Nat.not_lt_zero _)⟩
/-- a text is emptied; what it held may be asked no more -/
theorem TXr_0 {T' : Tx} (h : T_length T' = 0) (ch : Nat → Nat) : TXr T' 0 ch := ⟨h, by omega, trivial, fun k hk => absurd hk (Nat.not_lt_zero _)⟩
end OPS
