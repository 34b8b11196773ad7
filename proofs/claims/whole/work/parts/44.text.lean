/-! ===== stage B: the calls that read the text ===== -/
theorem KT_TX {T : Tx} {M M' : Md} {t : Nat} {ch : Nat → Nat} (h : TXr T M t ch) (k : KT M M') : TXr T M' t ch := ⟨h.1, h.2.1, by rw [k.2]; exact h.2.2.1, fun i hi => by rw [k.1]; exact h.2.2.2 i hi⟩
theorem TX_W {T : Tx} {M : Md} {t : Nat} {ch : Nat → Nat} (h : TXr T M t ch) (W : Nat → Int64) : TXr (T_wordsRead_set T W) M t ch := h
section TXT
variable {z D : St} {V : Sv} {T : Tx} {M : Md}
theorem empty3 (T : Tx) : ∃ T', f_X3_empty T = some T' ∧ T_length T' = 0 := ⟨_, rfl, rfl⟩
theorem TX_0 {T' : Tx} {M' : Md} (h : T_length T' = 0) (h2 : M_typed M' = 0) : TX T' M' := ⟨0, fun _ => 0, h, by omega, h2, fun k hk => absurd hk (Nat.not_lt_zero _)⟩
theorem addW56 (h : RX z V M) (tx : TX T M) (D : St) : ∃ a T' z' V' D' M', f_X5_addWords T z V D = some (a, T', z', V', D') ∧ f_X6_addWords M = some (a, M') ∧ RX z' V' M' ∧ TX T' M' := by
  obtain ⟨g, c, gs, h⟩ := h
  have hr := h
  obtain ⟨t, ch, tx⟩ := tx
  have t80 := tx.2.1
  obtain ⟨r1, r2, ok, rv, rb, ms, c6, oks⟩ := h
  unfold f_X5_addWords f_X6_addWords
  rw [first3 tx, first6 tx, ob, ob]
  by_cases q : errN ch t t 0 0 = -6
  · rw [if_pos q, if_pos q, runs2 r1 ok, runs6 r2 ok, ob, ob]
    by_cases st : G_st g = 1
    · rw [if_pos st, if_neg (by decide), if_neg (by decide)]
      exact ⟨_, _, _, _, _, _, rfl, rfl, ⟨g, c, gs, hr⟩, ⟨t, ch, tx⟩⟩
    · obtain ⟨l, hl⟩ := WL_ex (show t < 2147483648 by omega) t 0 (by omega) q
      have ln := WL_len hl
      have hws : okWs ch l := fun w hw => (WL_w hl hw).1
      obtain ⟨D1, d1, d2⟩ := copy2 r1 ok D
      obtain ⟨W, w1, w2⟩ := read3 tx hl
      obtain ⟨D2, a1, a2⟩ := add2 (T := T) (W := W) (n := l.length) (by omega) l 0 FU D1 g hws (by omega) (fun j w hj => by rw [Nat.zero_add]; exact w2 j w hj) d2 ok st (by show l.length < 4096; omega)
      obtain ⟨x0, p1, p2⟩ := putAside6 M
      have r2' : RM (M_s (M_aside_set M x0)) g := r2
      have tx' : TXr T (M_aside_set M x0) t ch := tx
      obtain ⟨x1, b1, b2⟩ := add6 l 0 FU 0 (M_aside_set M x0) g tx' (Or.inr hl) r2' ok st (by show l.length < 4096; omega)
      obtain ⟨ok2, n2⟩ := addL_ok l g hws ok st
      have eT : f_X5_addTextTo T D1 = some (if (addL ch l g).1 = true then 0 else 1, T_wordsRead_set T W, D2) := by
        unfold f_X5_addTextTo
        rw [w1, ob]
        exact a1
      have asd : RM (M_aside (M_s_set (M_aside_set M x0) x1)) g := RM_low r2 ok p2
      rw [if_neg st, if_pos (show (0 : Int32) = 0 from rfl), if_pos (show (0 : Int32) = 0 from rfl), d1, ob, eT, ob, p1, ob, show loop4 (f_X6_addWords_L32) FU 0 0 0 (M_aside_set M x0) = _ from b1, Nat.zero_add]
      unfold f_X6_addWords_J119
      by_cases fl : (addL ch l g).1 = true
      · rw [if_pos fl, if_pos fl, if_pos (show (0 : Int32) = 0 from rfl), if_neg (show ¬ (1 : Int32) = 0 by decide)]
        obtain ⟨x2, e2, h2⟩ := putBack6 (M_s_set (M_aside_set M x0) x1)
        rw [e2, ob]
        refine ⟨_, _, _, _, _, _, rfl, rfl, ⟨g, c, gs, r1, ?_, ok, rv, rb, ms, c6, oks⟩, ⟨t, ch, tx⟩⟩
        exact RM_low asd ok (fun k hk => h2 k hk)
      · rw [if_neg fl, if_neg fl, if_neg (show ¬ (1 : Int32) = 0 by decide), if_pos (show (0 : Int32) = 0 from rfl)]
        obtain ⟨V', v1, v2⟩ := push2 r1 ok c6 rv
        obtain ⟨D3, f1, f2⟩ := end2 a2
        obtain ⟨z4, g1, g2⟩ := copy2 f2 (end_ok ok2) z
        obtain ⟨M5, k1, k2, k3, k4, k5⟩ := aside6 (M := M_s_set (M_aside_set M x0) x1) asd ok c6 ms rb oks
        have r5 : RM (M_s M5) (addL ch l g).2.1 := RM_low b2 ok2 k2
        obtain ⟨s6, q1, q2, _⟩ := noGame6 r5
        obtain ⟨T7, t1, t2⟩ := empty3 (T_wordsRead_set T W)
        have ans : S_wordCount D2 - S_wordCount z = nI (addL ch l g).2.2 := by
          rw [a2.1, r1.1, n2, pk_sub (by omega)]
          refine congrArg nI ?_
          omega
        rw [lt_, v1, ob]
        show ∃ a T' z' V'_1 D' M', Option.bind (f_X2_endWithoutGame D2) _ = _ ∧ _
        rw [f1, ob, g1, ob]
        show ∃ a T' z' V'_1 D' M', Option.bind (f_X3_empty (T_wordsRead_set T W)) _ = _ ∧ _
        rw [t1, ob, k1, ob, q1, ob, lt_]
        refine ⟨nI (addL ch l g).2.2, T7, z4, V', D3, _, by rw [← ans], rfl, ⟨gEnd (addL ch l g).2.1, cP c, gsP g gs, g2, q2, end_ok ok2, v2, k3, k4, ?_, fun j hj => ?_⟩, TX_0 t2 rfl⟩
        · unfold cP; by_cases q : c = 6 <;> simp [q]; omega
        · unfold gsP
          by_cases q : j = 0
          · rw [if_pos q]; exact ok
          · rw [if_neg q]
            refine oks _ ?_
            unfold cP at hj
            by_cases w : c = 6
            · rw [if_pos w] at hj; omega
            · rw [if_neg w] at hj; omega
  · rw [if_neg q, if_neg q]
    exact ⟨_, _, _, _, _, _, rfl, rfl, ⟨g, c, gs, hr⟩, ⟨t, ch, tx⟩⟩
theorem syn56 (tx : TX T M) : ∃ a, f_X5_syntaxError T = some a ∧ f_X6_syntaxError M = some a := by
  obtain ⟨t, ch, tx⟩ := tx
  unfold f_X5_syntaxError f_X6_syntaxError
  rw [first3 tx, first6 tx]
  exact ⟨_, rfl, rfl⟩
end TXT
