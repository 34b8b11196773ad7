/-! ===== the calls that read the text ===== -/
theorem TXr_W {T : Tx} {t : Nat} {ch : Nat → Nat} (h : TXr T t ch) (W : Nat → Int64) : TXr (T_wordsRead_set T W) t ch := h
section TXT
variable {z D : St} {V : Sv} {T : Tx} {g : GS} {gs : Nat → GS} {c t : Nat} {ch : Nat → Nat}
theorem addW5_bad (tx : TXr T t ch) (h : errN ch t t 0 0 ≠ -6) : f_X5_addWords T z V D = some (-5, T, z, V, D) := by
  unfold f_X5_addWords
  rw [first3 tx, ob, if_neg h]
theorem addW5_no (tx : TXr T t ch) (r : RS z g) (ok : okG g) (h : errN ch t t 0 0 = -6) (hs : G_st g = 1) : f_X5_addWords T z V D = some (-3, T, z, V, D) := by
  unfold f_X5_addWords
  rw [first3 tx, ob, if_pos h, runs2 r ok, ob, if_pos hs, if_neg (by decide)]
theorem addT5 (tx : TXr T t ch) (r : RS z g) (ok : okG g) (hs : G_st g ≠ 1) {l : List (Nat × Nat)} (hl : WL ch t l 0) (D : St) : ∃ W D1 D2, f_X2_copyFrom D z = some D1 ∧ f_X5_addTextTo T D1 = some (if (addL ch l g).1 = true then 0 else 1, T_wordsRead_set T W, D2) ∧ RS D2 (addL ch l g).2.1 := by
  have t80 := tx.2.1
  have ln := WL_len hl
  have hws : okWs ch l := fun w hw => (WL_w hl hw).1
  obtain ⟨D1, d1, d2⟩ := copy2 r ok D
  obtain ⟨W, w1, w2⟩ := read3 tx hl
  obtain ⟨D2, a1, a2⟩ := add2 (T := T) (W := W) (n := l.length) (by omega) l 0 FU D1 g hws (by omega) (fun j w hj => by rw [Nat.zero_add]; exact w2 j w hj) d2 ok hs (by show l.length < 4096; omega)
  refine ⟨W, D1, D2, d1, ?_, a2⟩
  unfold f_X5_addTextTo
  rw [w1, ob]
  exact a1
theorem addW5_lim (tx : TXr T t ch) (r : RS z g) (ok : okG g) (h : errN ch t t 0 0 = -6) (hs : G_st g ≠ 1) {l : List (Nat × Nat)} (hl : WL ch t l 0) (fl : (addL ch l g).1 = true) : ∃ T' D', f_X5_addWords T z V D = some (-4, T', z, V, D') ∧ TXr T' t ch := by
  obtain ⟨W, D1, D2, d1, d2, d3⟩ := addT5 tx r ok hs hl D
  unfold f_X5_addWords
  rw [first3 tx, ob, if_pos h, runs2 r ok, ob, if_neg hs, if_pos (show (0 : Int32) = 0 from rfl), d1, ob, d2, ob, if_pos fl, if_pos (show (0 : Int32) = 0 from rfl)]
  exact ⟨_, _, rfl, tx⟩
theorem addW5 (tx : TXr T t ch) (r : RS z g) (ok : okG g) (c6 : c ≤ 6) (rv : RV V c gs) (h : errN ch t t 0 0 = -6) (hs : G_st g ≠ 1) {l : List (Nat × Nat)} (hl : WL ch t l 0) (fl : ¬ (addL ch l g).1 = true) : ∃ T' z' V' D', f_X5_addWords T z V D = some (nI (addL ch l g).2.2, T', z', V', D') ∧ RS z' (gEnd (addL ch l g).2.1) ∧ RV V' (cP c) (gsP g gs) ∧ T_length T' = 0 := by
  obtain ⟨W, D1, D2, d1, d2, a2⟩ := addT5 tx r ok hs hl D
  have hws : okWs ch l := fun w hw => (WL_w hl hw).1
  obtain ⟨ok2, n2⟩ := addL_ok l g hws ok hs
  obtain ⟨V', v1, v2⟩ := push2 r ok c6 rv
  obtain ⟨D3, f1, f2⟩ := end2 a2
  obtain ⟨z4, g1, g2⟩ := copy2 f2 (end_ok ok2) z
  obtain ⟨T7, t1, t2⟩ := empty3 (T_wordsRead_set T W)
  have ans : S_wordCount D2 - S_wordCount z = nI (addL ch l g).2.2 := by
    rw [a2.1, r.1, n2, pk_sub (by omega)]
    refine congrArg nI ?_
    omega
  unfold f_X5_addWords
  rw [first3 tx, ob, if_pos h, runs2 r ok, ob, if_neg hs, if_pos (show (0 : Int32) = 0 from rfl), d1, ob, d2, ob, if_neg fl, if_neg (show ¬ (1 : Int32) = 0 by decide), lt_, v1, ob]
  show ∃ T' z' V'_1 D', Option.bind (f_X2_endWithoutGame D2) _ = _ ∧ _
  rw [f1, ob, g1, ob]
  show ∃ T' z' V'_1 D', Option.bind (f_X3_empty (T_wordsRead_set T W)) _ = _ ∧ _
  rw [t1, ob]
  exact ⟨T7, z4, V', D3, by rw [← ans], g2, v2, t2⟩
theorem syn5 (tx : TXr T t ch) : f_X5_syntaxError T = some (errN ch t t 0 0) := by
  unfold f_X5_syntaxError
  rw [first3 tx, ob]
/-! a word guessed -/
theorem gword5_bad (tx : TXr T t ch) (h : errN ch t t 0 0 ≠ -6) : f_X5_guessWord T z V = some (-5, T, z, V) := by
  unfold f_X5_guessWord
  rw [first3 tx, ob, if_neg h]
theorem gword5_many (tx : TXr T t ch) (h : errN ch t t 0 0 = -6) {w v : Nat × Nat} {l : List (Nat × Nat)} (hl : WL ch t (w :: v :: l) 0) : ∃ T', f_X5_guessWord T z V = some (-5, T', z, V) ∧ TXr T' t ch := by
  have t80 := tx.2.1
  have ln := WL_len hl
  obtain ⟨W, w1, w2⟩ := read3 tx hl
  unfold f_X5_guessWord
  rw [first3 tx, ob, if_pos h, w1, ob]
  show ∃ T', (if nI (w :: v :: l).length = 1 then _ else some ((-5 : Int32), T_wordsRead_set T W, z, V)) = _ ∧ _
  rw [if_neg (show ¬ nI (w :: v :: l).length = 1 by
    rw [show (1 : Int32) = nI 1 from rfl, x_eq (by omega) (by omega)]
    show ¬ l.length + 1 + 1 = 1
    omega)]
  exact ⟨_, rfl, tx⟩
theorem gword5_one (tx : TXr T t ch) (h : errN ch t t 0 0 = -6) (hl : WL ch t [(0, t)] 0) : ∃ W, f_X5_guessWord T z V = Option.bind (f_X2_isRunning z) fun r_4 => if r_4 = 0 then some ((-3 : Int32), T_wordsRead_set T W, z, V) else Option.bind (f_X4_lengthOf (lN (encN (dW ch (0, t))))) fun r_5 => if r_5 = (S_length z) then Option.bind (f_X1_push V z) fun r_6 => Option.bind (f_X2_takeWord z (lN (encN (dW ch (0, t))))) fun r_8 => Option.bind (f_X3_empty (T_wordsRead_set T W)) fun r_9 => if (S_status r_8) = (2 : Int32) then some ((1 : Int32), r_9, r_8, r_6) else some ((0 : Int32), r_9, r_8, r_6) else some ((-3 : Int32), T_wordsRead_set T W, z, V) := by
  have t80 := tx.2.1
  obtain ⟨W, w1, w2⟩ := read3 tx hl
  refine ⟨W, ?_⟩
  have hW0 : W 0 = lN (encN (dW ch (0, t))) := w2 0 (0, t) rfl
  have eR : f_X3_wordRead (T_wordsRead_set T W) (nI 0) = some (lN (encN (dW ch (0, t)))) := by
    unfold f_X3_wordRead
    rw [i_n (by omega), show (27 : Int32) = nI 27 from rfl, i_lt (by omega) (by omega), if_pos (by omega), getA_n (by omega) (by omega), TW_w, hW0]
  have hone : nI ([((0 : Nat), t)] : List (Nat × Nat)).length = 1 := rfl
  unfold f_X5_guessWord
  rw [first3 tx, ob, if_pos h, w1, ob]
  show (if nI ([((0 : Nat), t)] : List (Nat × Nat)).length = 1 then Option.bind (f_X3_wordRead (T_wordsRead_set T W) (nI 0)) fun r_3 => Option.bind (f_X2_isRunning z) fun r_4 => if r_4 = 0 then some ((-3 : Int32), T_wordsRead_set T W, z, V) else Option.bind (f_X4_lengthOf r_3) fun r_5 => if r_5 = (S_length z) then Option.bind (f_X1_push V z) fun r_6 => Option.bind (f_X2_takeWord z r_3) fun r_8 => Option.bind (f_X3_empty (T_wordsRead_set T W)) fun r_9 => if (S_status r_8) = (2 : Int32) then some ((1 : Int32), r_9, r_8, r_6) else some ((0 : Int32), r_9, r_8, r_6) else some ((-3 : Int32), T_wordsRead_set T W, z, V) else some ((-5 : Int32), T_wordsRead_set T W, z, V)) = _
  rw [if_pos hone, eR, ob]
theorem gword5_no (tx : TXr T t ch) (r : RS z g) (ok : okG g) (h : errN ch t t 0 0 = -6) (hl : WL ch t [(0, t)] 0) (hs : G_st g ≠ 1) : ∃ T', f_X5_guessWord T z V = some (-3, T', z, V) ∧ TXr T' t ch := by
  obtain ⟨W, e⟩ := gword5_one (z := z) (V := V) tx h hl
  rw [e, runs2 r ok, ob, if_neg hs, if_pos rfl]
  exact ⟨_, rfl, tx⟩
theorem gword5_len (tx : TXr T t ch) (r : RS z g) (ok : okG g) (h : errN ch t t 0 0 = -6) (hl : WL ch t [(0, t)] 0) (hs : G_st g = 1) (hlen : t ≠ G_len g) : ∃ T', f_X5_guessWord T z V = some (-3, T', z, V) ∧ TXr T' t ch := by
  have t80 := tx.2.1
  have ow := (WL_w hl (w := (0, t)) (List.mem_singleton.mpr rfl)).1
  have l8 := ok.2.2.2.1
  obtain ⟨W, e⟩ := gword5_one (z := z) (V := V) tx h hl
  rw [e, runs2 r ok, ob, if_pos hs, if_neg (show ¬ (1 : Int32) = 0 by decide), lengthOf4 (okw_d ow), ob, szN_w ow, r.2.2.2.1, i_eq (by show t - 0 < _; omega) (by omega), if_neg (by show ¬ t - 0 = G_len g; omega)]
  exact ⟨_, rfl, tx⟩
theorem gword5 (tx : TXr T t ch) (r : RS z g) (ok : okG g) (c6 : c ≤ 6) (rv : RV V c gs) (h : errN ch t t 0 0 = -6) (hl : WL ch t [(0, t)] 0) (hs : G_st g = 1) (hlen : t = G_len g) {cand : Bool} (hc : cand = true ↔ inL g (dW ch (0, t)) ∧ bt (G_cd g) (gPos g (dW ch (0, t))) = true) : ∃ T' z' V', f_X5_guessWord T z V = some (if cand = true ∧ bc (G_cd g) 31 = 1 then 1 else 0, T', z', V') ∧ RS z' (gWord g (dW ch (0, t)) cand) ∧ RV V' (cP c) (gsP g gs) ∧ T_length T' = 0 := by
  have t80 := tx.2.1
  have ow := (WL_w hl (w := (0, t)) (List.mem_singleton.mpr rfl)).1
  have l8 := ok.2.2.2.1
  have rn := ok.2.2.2.2.2.2.2.2.2.2.2.2 hs
  obtain ⟨W, e⟩ := gword5_one (z := z) (V := V) tx h hl
  obtain ⟨V', e1, v1⟩ := push2 r ok c6 rv
  obtain ⟨z2, f1, f2⟩ := takeW2 r ok rn (okw_d ow) hc
  obtain ⟨T3, t1, t2⟩ := empty3 (T_wordsRead_set T W)
  have st8 : S_status z2 = nI (G_st (gWord g (dW ch (0, t)) cand)) := f2.2.2.1
  have fst : ∀ v : Int32, (if v = 2 then some ((1 : Int32), T3, z2, V') else some ((0 : Int32), T3, z2, V')) = some ((if v = 2 then 1 else 0), T3, z2, V') := by
    intro v
    by_cases u : v = 2
    · rw [if_pos u, if_pos u]
    · rw [if_neg u, if_neg u]
  rw [e, runs2 r ok, ob, if_pos hs, if_neg (show ¬ (1 : Int32) = 0 by decide), lengthOf4 (okw_d ow), ob, szN_w ow, r.2.2.2.1, i_eq (by show t - 0 < _; omega) (by omega), if_pos (by show t - 0 = G_len g; omega), e1, ob, f1, ob, t1, ob, st8, fst, word_st (d := dW ch (0, t)) hs]
  exact ⟨_, _, _, rfl, f2, v1, t2⟩
end TXT
