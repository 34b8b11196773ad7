/-! ===== stage B: a word guessed, the reference; both ===== -/
section GW6
variable {z : St} {V : Sv} {T : Tx} {M : Md} {g : GS} {t : Nat} {ch : Nat → Nat}
theorem fin6 (M' : Md) (v : Int32) : (if v = 2 then some ((1 : Int32), M') else some ((0 : Int32), M')) = some ((if v = 2 then 1 else 0), M') := by
  by_cases q : v = 2
  · rw [if_pos q, if_pos q]
  · rw [if_neg q, if_neg q]
theorem Mt_s (z : Md) (v : Int32) : M_s (M_typed_set z v) = M_s z := rfl
theorem J176_6 {s : Nat → Int32} {x : Int32} {g2 : GS} {nar : Bool} {v2 : Int32} (hv : v2 = if nar = true then 1 else 0) (r : RM s g2) (hcd : G_cd g2 &&& x = s 7 &&& x) (l1 : 1 ≤ G_lv g2) (l2 : G_lv g2 ≤ 20) : ∃ M', f_X6_guessWord_J176 v2 (M_s_set M s) 7 (s 7) x = some ((if nI (G_st (gMiss (U_cd g2 (G_cd g2 &&& x)) nar)) = 2 then 1 else 0), M') ∧ M_typed M' = 0 ∧ RM (M_s M') (gMiss (U_cd g2 (G_cd g2 &&& x)) nar) ∧ M_before M' = M_before M ∧ M_saved M' = M_saved M := by
  have r1 := RM_cd r (G_cd g2 &&& x)
  obtain ⟨s3, e3, r3⟩ := misses6 (M := M_s_set M (upd s 7 (G_cd g2 &&& x))) r1 l1 l2 nar
  unfold f_X6_guessWord_J176
  rw [k7_, lt_, Ms_s, Ms_ss, cl7, ← hcd, hv, e3, ob, lt_, Ms_ss, m2, Mt_s, Ms_s, r3.2.2.1, fin6]
  exact ⟨_, rfl, rfl, r3, rfl, rfl⟩
theorem gw6 (tx : TXr T M t ch) (h : RM (M_s M) g) (ok : okG g) (rn : okR g) (hst : G_st g = 1) (hw : TWd ch t 0 t) (hl : G_len g = t) {cand : Bool} (hc : cand = true → gPos g (dW ch (0, t)) < G_n g ∧ bt (G_cd g) (gPos g (dW ch (0, t))) = true) : ∃ M', f_X6_guessWord_J86 (nI (gPos g (dW ch (0, t)))) M (if cand = true then 1 else 0) = some ((if cand = true ∧ bc (G_cd g) 31 = 1 then 1 else 0), M') ∧ M_typed M' = 0 ∧ RM (M_s M') (gWord g (dW ch (0, t)) cand) ∧ M_before M' = M_before M ∧ M_saved M' = M_saved M := by
  have hn := ok.1
  have hg := ok_gc ok
  have t80 := tx.2.1
  have t8 : t ≤ 8 := by have := ok.2.2.2.1; omega
  have lv1 := rn.2.2.2.2.2
  have lv2 := ok.2.2.2.2.1
  have r1 := RM_tot h 4 (by omega) (G_tot g 4 + 1)
  have e4 : M_s M 12 = G_tot g 4 := h.2.2.2.2.2.2.2.2.1 4 (by omega)
  have e7 : upd (M_s M) 12 (G_tot g 4 + 1) 7 = G_cd g := r1.2.2.2.2.2.2.2.1
  rw [← word_st (d := dW ch (0, t)) hst]
  unfold f_X6_guessWord_J86 gWord
  rw [m12, k12_, lt_, cl12, e4]
  by_cases q : cand = true
  · obtain ⟨hp, hb⟩ := hc q
    rw [if_pos q, if_pos q, if_neg (show ¬ (1 : Int32) = 0 by decide), m7, Ms_s, e7, bits6, ob]
    have cl := bc_le (G_cd g) 31
    have b1 : ∀ {α : Type} (x y : α), (if nI (bc (G_cd g) 31) = 1 then x else y) = if bc (G_cd g) 31 = 1 then x else y := fun x y => i_eq (b := 1) (by omega) (by omega)
    rw [b1]
    by_cases w : bc (G_cd g) 31 = 1
    · rw [if_pos w, if_pos w]
      have key : ∃ x, loop2 (f_X6_guessWord_L118) FU 0 (M_s_set M (upd (M_s M) 12 (G_tot g 4 + 1))) = f_X6_guessWord_J147 (M_s_set M x) ∧ RM x (U_pt (gCount g 4) (fun k => if k < t then dW ch (0, t) k else G_pt g k)) := by
        refine run2 (fun j a (M' : Md) => a = nI j ∧ ∃ x, M' = M_s_set M x ∧ RM x (U_pt (gCount g 4) (fun k => if k < j then dW ch (0, t) k else G_pt g k))) (fun r => ∃ x, r = f_X6_guessWord_J147 (M_s_set M x) ∧ RM x (U_pt (gCount g 4) (fun k => if k < t then dW ch (0, t) k else G_pt g k))) t ?_ ?_ FU _ _ (FU_gt (by omega)) ⟨rfl, _, rfl, RM_ptx r1 (fun i hi => if_neg (by omega))⟩
        · rintro j a M' hj ⟨rfl, x, rfl, rx⟩
          have hL := hw.2.2.2.2 j (by omega) hj
          have hcj := (tx.2.2.2 j hj).2.1
          have hd : dW ch (0, t) j = ch j - 96 := by
            have := tw_in hw (k := j) (by omega)
            rw [this, Nat.zero_add]
          refine ⟨nI (j + 1), M_s_set M (upd x (41 + j) (ltr (dW ch (0, t) j))), ⟨rfl, _, rfl, RM_pt rx hg hn j _ (by omega) (fun i hi => ?_)⟩, fun re => ?_⟩
          · by_cases y : i = j
            · rw [y, if_pos rfl, if_pos (by omega)]
            · rw [if_neg y]
              by_cases u : i < j
              · rw [if_pos u, if_pos (by omega)]
              · rw [if_neg u, if_neg (by omega)]
          · unfold f_X6_guessWord_L118
            rw [show M_typed (M_s_set M x) = nI t from tx.2.2.1, i_lt (by omega) (by omega), if_pos hj, getA_n (by omega) (by omega), show M_text (M_s_set M x) j = nI (ch j) from hcj, a41, chkA_n (by omega) (by omega), lt_, lt_, Ms_s, Ms_ss, x_cl (by omega), x_a1, hd, ltr_nI (by omega), show 96 + (ch j - 96) = ch j by omega]
        · rintro a M' ⟨rfl, x, rfl, rx⟩ re
          unfold f_X6_guessWord_L118
          rw [show M_typed (M_s_set M x) = nI t from tx.2.2.1, i_lt (by omega) (by omega), if_neg (by omega)]
          exact ⟨x, rfl, rx⟩
      obtain ⟨x, e5, rx⟩ := key
      have rx2 : RM x (U_pt (gCount g 4) (dW ch (0, t))) := RM_ptx2 rx (fun i hi => by
        by_cases y : i < t
        · rw [if_pos y]
        · rw [if_neg y, tw_out hw (by omega)]
          exact (ok.2.2.2.2.2.2.2.2.2.2.2.1 i hi (by omega)).symm)
      obtain ⟨s6, e6, r6⟩ := ends2 (M := M_s_set M x) rx2
      rw [e5]
      unfold f_X6_guessWord_J147
      rw [e6, ob, lt_, Ms_ss, m2, Mt_s, Ms_s, r6.2.2.1, fin6]
      exact ⟨_, rfl, rfl, r6, rfl, rfl⟩
    · rw [if_neg w, if_neg w]
      unfold f_X6_guessWord_J155
      rw [m7, Ms_s, if_neg (show ¬ (1 : Int32) = 0 by decide)]
      exact J176_6 (nar := true) rfl r1 (by rw [e7]) lv1 lv2
  · rw [if_neg q, if_neg q, if_pos (show (0 : Int32) = 0 from rfl)]
    unfold f_X6_guessWord_J155
    rw [m7, Ms_s, if_pos (show (0 : Int32) = 0 from rfl)]
    have := J176_6 (M := M) (nar := false) (v2 := 0) (x := -1) rfl r1 (by rw [e7]) lv1 lv2
    rw [andm] at this
    exact this
theorem gword56 (h : RX z V M) (tx : TX T M) : ∃ a T' z' V' M', f_X5_guessWord T z V = some (a, T', z', V') ∧ f_X6_guessWord M = some (a, M') ∧ RX z' V' M' ∧ TX T' M' := by
  obtain ⟨g, c, gs, h⟩ := h
  have hr := h
  obtain ⟨V', M1, c', gs', e1, e2, k1, k2, k3, fin⟩ := keep h
  obtain ⟨t, ch, tx⟩ := tx
  have t80 := tx.2.1
  obtain ⟨r1, r2, ok, _⟩ := h
  unfold f_X5_guessWord f_X6_guessWord
  rw [first3 tx, first6 tx, ob, ob]
  by_cases q : errN ch t t 0 0 = -6
  · obtain ⟨l, hl⟩ := WL_ex (show t < 2147483648 by omega) t 0 (by omega) q
    have ln := WL_len hl
    obtain ⟨W, w1, w2⟩ := read3 tx hl
    have same : ∀ a : Int32, ∃ a' T' z' V' M', some (a, T_wordsRead_set T W, z, V) = some (a', T', z', V') ∧ some (a, M) = some (a', M') ∧ RX z' V' M' ∧ TX T' M' := fun a => ⟨_, _, _, _, _, rfl, rfl, ⟨g, c, gs, hr⟩, ⟨t, ch, tx⟩⟩
    rw [if_pos q, if_pos q, w1, ob]
    cases l with
    | nil => exact absurd hl (fun x => x)
    | cons w l =>
      obtain ⟨hw0, hw, hx, _⟩ := WL_tw hl
      obtain ⟨p, e⟩ := w
      have hw0 : p = 0 := hw0
      subst hw0
      have hx : e = t ∨ (e < t ∧ ch e = 44) := hx
      have hw : TWd ch t 0 e := hw
      rw [show (0 : Int32) = nI 0 from rfl, endOf6 tx hw.1 hw.2.1 hw.2.2.2.2 hx, ob, tx.2.2.1, i_eq (by have := hw.2.1; omega) (by omega)]
      cases l with
      | cons v l =>
        obtain ⟨a1, a2, _⟩ := hl
        have a2 : e < t := a2
        show ∃ a T' z' V' M', (if nI ((0, e) :: v :: l).length = 1 then _ else some ((-5 : Int32), T_wordsRead_set T W, z, V)) = _ ∧ _
        rw [if_neg (show ¬ nI ((0, e) :: v :: l).length = 1 by
          rw [show (1 : Int32) = nI 1 from rfl, x_eq (by omega) (by omega)]
          show ¬ l.length + 1 + 1 = 1
          omega), if_neg (show ¬ e = t by omega)]
        exact same (-5)
      | nil =>
        obtain ⟨a1, a2, _⟩ := hl
        have a2 : e = t := a2
        subst a2
        have ow := tw_ok hw
        have hW0 : W 0 = lN (encN (dW ch (0, e))) := w2 0 (0, e) rfl
        have eR : f_X3_wordRead (T_wordsRead_set T W) (nI 0) = some (lN (encN (dW ch (0, e)))) := by
          unfold f_X3_wordRead
          rw [i_n (by omega), show (27 : Int32) = nI 27 from rfl, i_lt (by omega) (by omega), if_pos (by omega), getA_n (by omega) (by omega), TW_w, hW0]
        have hone : nI ([((0 : Nat), e)] : List (Nat × Nat)).length = 1 := rfl
        show ∃ a T' z' V' M', (if nI ([((0 : Nat), e)] : List (Nat × Nat)).length = 1 then Option.bind (f_X3_wordRead (T_wordsRead_set T W) (nI 0)) fun r_3 => Option.bind (f_X2_isRunning z) fun r_4 => if r_4 = nI 0 then some ((-3 : Int32), T_wordsRead_set T W, z, V) else Option.bind (f_X4_lengthOf r_3) fun r_5 => if r_5 = (S_length z) then Option.bind (f_X1_push V z) fun r_6 => Option.bind (f_X2_takeWord z r_3) fun r_8 => Option.bind (f_X3_empty (T_wordsRead_set T W)) fun r_9 => if (S_status r_8) = (2 : Int32) then some ((1 : Int32), r_9, r_8, r_6) else some (nI 0, r_9, r_8, r_6) else some ((-3 : Int32), T_wordsRead_set T W, z, V) else some ((-5 : Int32), T_wordsRead_set T W, z, V)) = _ ∧ _
        rw [if_pos hone, eR, ob, runs2 r1 ok, runs6 r2 ok, ob, ob, if_pos rfl]
        by_cases st : G_st g = 1
        · have rn := ok.2.2.2.2.2.2.2.2.2.2.2.2 st
          have l8 := ok.2.2.2.1
          rw [if_pos st, if_neg (show ¬ (1 : Int32) = nI 0 by decide), if_neg (show ¬ (1 : Int32) = nI 0 by decide), lengthOf4 (okw_d ow), ob, szN_w ow, r1.2.2.2.1, m3, r2.2.2.2.1, i_eq (by omega) (by omega), i_eq (by omega) (by omega), Nat.sub_zero]
          by_cases le : e = G_len g
          · have tx1 : TXr T M1 e ch := KT_TX tx k2
            have r2' : RM (M_s M1) g := by rw [k1]; exact r2
            obtain ⟨cand, hcand⟩ : ∃ cand : Bool, cand = true ↔ inL g (dW ch (0, e)) ∧ bt (G_cd g) (gPos g (dW ch (0, e))) = true := by
              by_cases y : inL g (dW ch (0, e)) ∧ bt (G_cd g) (gPos g (dW ch (0, e))) = true
              · exact ⟨true, fun _ => y, fun _ => rfl⟩
              · exact ⟨false, fun x => absurd x (by decide), fun x => absurd x y⟩
            have hc2 : cand = true → gPos g (dW ch (0, e)) < G_n g ∧ bt (G_cd g) (gPos g (dW ch (0, e))) = true := fun x => ⟨(hcand.mp x).1.1, (hcand.mp x).2⟩
            obtain ⟨z2, f1, f2⟩ := takeW2 r1 ok rn (okw_d ow) hcand
            obtain ⟨T3, t1, t2⟩ := empty3 (T_wordsRead_set T W)
            obtain ⟨M4, g1, g2, g3, g4, g5⟩ := gw6 tx1 r2' ok rn st hw le.symm hc2
            have wok := word_ok ok rn st (okw_d ow) (fun k hk hl => tw_out hw (by omega)) hc2
            have in6 := isIn6 r2' ok tx1 hw
            have pl6 := place6 r2' ok tx1 hw
            have tail : (Option.bind (f_X6_isIn M1 (nI 0) (nI e)) fun r_7 => if r_7 = nI 0 then f_X6_guessWord_J86 (nI (gPos g (dW ch (0, e)))) M1 (nI 0) else Option.bind (f_X6_isCandidate M1 (nI (gPos g (dW ch (0, e))))) fun r_37 => if r_37 = nI 0 then f_X6_guessWord_J86 (nI (gPos g (dW ch (0, e)))) M1 (nI 0) else f_X6_guessWord_J86 (nI (gPos g (dW ch (0, e)))) M1 1) = f_X6_guessWord_J86 (nI (gPos g (dW ch (0, e)))) M1 (if cand = true then 1 else 0) := by
              by_cases y : inL g (dW ch (0, e))
              · rw [in6.1 y, ob, if_neg (show ¬ (1 : Int32) = nI 0 by decide), isCand6 r2' (by have := y.1; have := ok.1; omega), ob]
                by_cases u : bt (G_cd g) (gPos g (dW ch (0, e))) = true
                · rw [if_pos u, if_neg (show ¬ (1 : Int32) = nI 0 by decide), if_pos (hcand.mpr ⟨y, u⟩)]
                · rw [if_neg u, if_pos (show (0 : Int32) = nI 0 from rfl), if_neg (fun x => u (hcand.mp x).2)]
                  rfl
              · rw [in6.2 y, ob, if_pos (show (0 : Int32) = nI 0 from rfl), if_neg (fun x => y (hcand.mp x).1)]
                rfl
            rw [if_pos le, if_pos le, e1, ob, f1, ob]
            show ∃ a T' z' V'_1 M', Option.bind (f_X3_empty (T_wordsRead_set T W)) _ = _ ∧ _
            rw [t1, ob, e2, ob, show M_typed M1 = nI e from tx1.2.2.1, pl6, ob]
            have st8 : S_status z2 = nI (G_st (gWord g (dW ch (0, e)) cand)) := f2.2.2.1
            rw [st8]
            have ws := word_st (d := dW ch (0, e)) st (cand := cand)
            have fst : ∀ v : Int32, (if v = 2 then some ((1 : Int32), T3, z2, V') else some (nI 0, T3, z2, V')) = some ((if v = 2 then 1 else 0), T3, z2, V') := by
              intro v
              by_cases u : v = 2
              · rw [if_pos u, if_pos u]
              · rw [if_neg u, if_neg u]; rfl
            refine ⟨_, T3, z2, V', M4, fst _, ?_, ⟨gWord g (dW ch (0, e)) cand, c', gs', ?_⟩, TX_0 t2 g2⟩
            · rw [ws]
              exact tail.trans g1
            · obtain ⟨x1, x2, x3, x4, x5, x6, x7, x8⟩ := fin _ _ _ f2 g3 wok
              exact ⟨x1, x2, x3, x4, (by rw [g4]; exact x5), (by rw [g5]; exact x6), x7, x8⟩
          · rw [if_neg le, if_neg le]
            exact same (-3)
        · rw [if_neg st, if_pos (show (0 : Int32) = nI 0 from rfl), if_pos (show (0 : Int32) = nI 0 from rfl)]
          exact same (-3)
  · rw [if_neg q, if_neg q]
    exact ⟨_, _, _, _, _, rfl, rfl, ⟨g, c, gs, hr⟩, ⟨t, ch, tx⟩⟩
end GW6
