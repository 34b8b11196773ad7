/-! ===== stage B: words added ===== -/
theorem Msa (z : Md) (x y w : Nat → Int32) : M_s_set (M_aside_set (M_s_set z x) y) w = M_aside_set (M_s_set z w) y := rfl
theorem swap1 (M : Md) : ∃ x y, f_X6_savesAside M = f_X6_savesAside_J41 (M_aside_set (M_s_set M x) y) ∧ ∀ k, k < 319 → x k = M_aside M k ∧ y k = M_s M k := by
  unfold f_X6_savesAside
  refine run2 (fun j a (M' : Md) => a = nI j ∧ ∃ x y, M' = M_aside_set (M_s_set M x) y ∧ (∀ k, k < j → x k = M_aside M k ∧ y k = M_s M k) ∧ ∀ k, j ≤ k → x k = M_s M k ∧ y k = M_aside M k) (fun r => ∃ x y, r = f_X6_savesAside_J41 (M_aside_set (M_s_set M x) y) ∧ ∀ k, k < 319 → x k = M_aside M k ∧ y k = M_s M k) 319 ?_ ?_ FU _ _ (FU_gt (by omega)) ⟨rfl, M_s M, M_aside M, rfl, fun k hk => absurd hk (Nat.not_lt_zero _), fun k _ => ⟨rfl, rfl⟩⟩
  · rintro j a M' hj ⟨rfl, x, y, rfl, h1, h2⟩
    refine ⟨nI (j + 1), M_aside_set (M_s_set M (upd x j (y j))) (upd y j (x j)), ⟨rfl, _, _, rfl, fun k hk => ?_, fun k hk => ?_⟩, fun re => ?_⟩
    · by_cases q : k = j
      · rw [q, upd_e, upd_e, (h2 j (Nat.le_refl _)).1, (h2 j (Nat.le_refl _)).2]; exact ⟨rfl, rfl⟩
      · rw [upd_n q, upd_n q]; exact h1 k (by omega)
    · rw [upd_n (by omega), upd_n (by omega)]; exact h2 k (by omega)
    · unfold f_X6_savesAside_L2
      rw [show (319 : Int32) = nI 319 from rfl, i_lt (by omega) (by omega), if_pos hj, getA_n (by omega) (by omega), getA_n (by omega) (by omega), chkA_n (by omega) (by omega), lt_, chkA_n (by omega) (by omega), lt_, lt_, x_cl (by omega), x_a1]
      rfl
  · rintro a M' ⟨rfl, x, y, rfl, h1, h2⟩ re
    unfold f_X6_savesAside_L2
    rw [show (319 : Int32) = nI 319 from rfl, i_lt (by omega) (by omega), if_neg (by omega)]
    exact ⟨x, y, rfl, h1⟩
theorem swap2 (M : Md) : ∃ x y, loop2 (f_X6_savesAside_L47) FU 0 M = some (M_aside_set (M_s_set M x) y) ∧ ∀ k, k < 319 → x k = M_aside M k ∧ y k = M_s M k := by
  refine run2 (fun j a (M' : Md) => a = nI j ∧ ∃ x y, M' = M_aside_set (M_s_set M x) y ∧ (∀ k, k < j → x k = M_aside M k ∧ y k = M_s M k) ∧ ∀ k, j ≤ k → x k = M_s M k ∧ y k = M_aside M k) (fun r => ∃ x y, r = some (M_aside_set (M_s_set M x) y) ∧ ∀ k, k < 319 → x k = M_aside M k ∧ y k = M_s M k) 319 ?_ ?_ FU _ _ (FU_gt (by omega)) ⟨rfl, M_s M, M_aside M, rfl, fun k hk => absurd hk (Nat.not_lt_zero _), fun k _ => ⟨rfl, rfl⟩⟩
  · rintro j a M' hj ⟨rfl, x, y, rfl, h1, h2⟩
    refine ⟨nI (j + 1), M_aside_set (M_s_set M (upd x j (y j))) (upd y j (x j)), ⟨rfl, _, _, rfl, fun k hk => ?_, fun k hk => ?_⟩, fun re => ?_⟩
    · by_cases q : k = j
      · rw [q, upd_e, upd_e, (h2 j (Nat.le_refl _)).1, (h2 j (Nat.le_refl _)).2]; exact ⟨rfl, rfl⟩
      · rw [upd_n q, upd_n q]; exact h1 k (by omega)
    · rw [upd_n (by omega), upd_n (by omega)]; exact h2 k (by omega)
    · unfold f_X6_savesAside_L47
      rw [show (319 : Int32) = nI 319 from rfl, i_lt (by omega) (by omega), if_pos hj, getA_n (by omega) (by omega), getA_n (by omega) (by omega), chkA_n (by omega) (by omega), lt_, chkA_n (by omega) (by omega), lt_, lt_, x_cl (by omega), x_a1]
      rfl
  · rintro a M' ⟨rfl, x, y, rfl, h1, h2⟩ re
    unfold f_X6_savesAside_L47
    rw [show (319 : Int32) = nI 319 from rfl, i_lt (by omega) (by omega), if_neg (by omega)]
    exact ⟨x, y, rfl, h1⟩
theorem aside6 {M : Md} {g : GS} {gs : Nat → GS} {c : Nat} (h : RM (M_aside M) g) (ok : okG g) (hc : c ≤ 6) (hs : M_saved M = nI c) (hB : RB (M_before M) c gs) (oks : ∀ j, j < c → okG (gs j)) : ∃ M', f_X6_savesAside M = some M' ∧ (∀ k, k < 319 → M_s M' k = M_s M k) ∧ RB (M_before M') (cP c) (gsP g gs) ∧ M_saved M' = nI (cP c) ∧ KT M M' := by
  obtain ⟨x, y, e1, h1⟩ := swap1 M
  have r1 : RM (M_s (M_aside_set (M_s_set M x) y)) g := RM_low h ok (fun k hk => (h1 k hk).1)
  obtain ⟨B, e2, b2⟩ := saves6 (M := M_aside_set (M_s_set M x) y) r1 ok hc hs hB oks
  obtain ⟨x2, y2, e3, h3⟩ := swap2 (M_saved_set (M_before_set (M_aside_set (M_s_set M x) y) B) (nI (cP c)))
  refine ⟨M_aside_set (M_s_set (M_saved_set (M_before_set (M_aside_set (M_s_set M x) y) B) (nI (cP c))) x2) y2, ?_, fun k hk => ?_, b2, rfl, rfl, rfl⟩
  · rw [e1]
    unfold f_X6_savesAside_J41
    rw [e2, ob, e3]
  · exact ((h3 k hk).1).trans (h1 k hk).2
def inB_ (g : GS) (d : Nat → Nat) : Bool := decide (gPos g d < G_n g) && decide (encN (G_D g (gPos g d)) = encN d)
theorem inB_t {g : GS} {d : Nat → Nat} : inB_ g d = true ↔ inL g d := by
  unfold inB_ inL
  rw [Bool.and_eq_true, decide_eq_true_eq, decide_eq_true_eq]
def addL (ch : Nat → Nat) : List (Nat × Nat) → GS → Bool × GS × Nat
  | [], g => (false, g, 0)
  | w :: l, g =>
    if inB_ g (dW ch w) = true then addL ch l g
    else if G_n g = 30 then (true, g, 0)
    else ((addL ch l (gIns g (dW ch w) (w.2 - w.1) (gPos g (dW ch w)))).1, (addL ch l (gIns g (dW ch w) (w.2 - w.1) (gPos g (dW ch w)))).2.1, (addL ch l (gIns g (dW ch w) (w.2 - w.1) (gPos g (dW ch w)))).2.2 + 1)
def okWs (ch : Nat → Nat) (l : List (Nat × Nat)) : Prop := ∀ w, w ∈ l → okw (dW ch w) (w.2 - w.1)
theorem addL_ok {ch : Nat → Nat} : ∀ (l : List (Nat × Nat)) (g : GS), okWs ch l → okG g → G_st g ≠ 1 → okG (addL ch l g).2.1 ∧ G_n (addL ch l g).2.1 = G_n g + (addL ch l g).2.2
  | [], g, _, ok, _ => ⟨ok, rfl⟩
  | w :: l, g, hw, ok, hs => by
    have hw1 := hw w (List.mem_cons_self)
    have hw2 : okWs ch l := fun v hv => hw v (List.mem_cons_of_mem _ hv)
    unfold addL
    by_cases q : inB_ g (dW ch w) = true
    · rw [if_pos q]; exact addL_ok l g hw2 ok hs
    · rw [if_neg q]
      by_cases u : G_n g = 30
      · rw [if_pos u]; exact ⟨ok, rfl⟩
      · rw [if_neg u]
        have ok2 := ins_ok ok hw1 (by have := ok.1; omega) (fun x => q (inB_t.mpr x)) hs (fun i hi => ok_cd ok hi)
        obtain ⟨a, b⟩ := addL_ok l (gIns g (dW ch w) (w.2 - w.1) (gPos g (dW ch w))) hw2 ok2 hs
        refine ⟨a, ?_⟩
        show G_n (addL ch l (gIns g (dW ch w) (w.2 - w.1) (gPos g (dW ch w)))).2.1 = _
        rw [b]
        show G_n g + 1 + _ = G_n g + (_ + 1)
        omega
section ADD
variable {z : St} {T : Tx} {M : Md} {t : Nat} {ch : Nat → Nat}
theorem add2 {W : Nat → Int64} {n : Nat} (hn : n ≤ 27) : ∀ (l : List (Nat × Nat)) (i N : Nat) (z : St) (g : GS), okWs ch l → i + l.length = n → (∀ j w, l[j]? = some w → W (i + j) = lN (encN (dW ch w))) → RS z g → okG g → G_st g ≠ 1 → l.length < N → ∃ z', loop2 (f_X5_addTextTo_L10 (nI n, T_wordsRead_set T W)) N (nI i) z = some (if (addL ch l g).1 = true then 0 else 1, T_wordsRead_set T W, z') ∧ RS z' (addL ch l g).2.1
  | [], i, N, z, g, _, hi, _, r, ok, _, hN => by
    obtain ⟨m, rfl⟩ : ∃ m, N = m + 1 := ⟨N - 1, by have : 0 < N := hN; omega⟩
    have hi : i + 0 = n := hi
    refine ⟨z, ?_, r⟩
    show f_X5_addTextTo_L10 (nI n, T_wordsRead_set T W) (loop2 (f_X5_addTextTo_L10 (nI n, T_wordsRead_set T W)) m) (nI i) z = _
    generalize loop2 (f_X5_addTextTo_L10 (nI n, T_wordsRead_set T W)) m = re
    unfold f_X5_addTextTo_L10
    rw [show ((nI n, T_wordsRead_set T W) : Int32 × Tx).1 = nI n from rfl, i_lt (by omega) (by omega), if_neg (by omega)]
    rfl
  | w :: l, i, N, z, g, hw, hi, hW, r, ok, hs, hN => by
    obtain ⟨m, rfl⟩ : ∃ m, N = m + 1 := ⟨N - 1, by omega⟩
    have hi : i + (l.length + 1) = n := hi
    have hN : l.length + 1 < m + 1 := hN
    have hw1 := hw w (List.mem_cons_self)
    have hw2 : okWs ch l := fun v hv => hw v (List.mem_cons_of_mem _ hv)
    have hW0 : W i = lN (encN (dW ch w)) := hW 0 w rfl
    have hW1 : ∀ j v, l[j]? = some v → W (i + 1 + j) = lN (encN (dW ch v)) := fun j v hv => by
      rw [show i + 1 + j = i + (j + 1) by omega]
      exact hW (j + 1) v (by simpa using hv)
    obtain ⟨X, hX⟩ : ∃ X, X = lN (encN (dW ch w)) := ⟨_, rfl⟩
    have eR : f_X3_wordRead (T_wordsRead_set T W) (nI i) = some X := by
      unfold f_X3_wordRead
      rw [i_n (by omega), show (27 : Int32) = nI 27 from rfl, i_lt (by omega) (by omega), if_pos (by omega), getA_n (by omega) (by omega), TW_w, hW0, hX]
    have in2 := isIn2 r ok (okw_d hw1)
    rw [← hX] at in2
    show ∃ z', f_X5_addTextTo_L10 (nI n, T_wordsRead_set T W) (loop2 (f_X5_addTextTo_L10 (nI n, T_wordsRead_set T W)) m) (nI i) z = _ ∧ _
    have IH := add2 (W := W) hn l (i + 1) m
    generalize loop2 (f_X5_addTextTo_L10 (nI n, T_wordsRead_set T W)) m = re at *
    unfold f_X5_addTextTo_L10 addL
    rw [show ((nI n, T_wordsRead_set T W) : Int32 × Tx).1 = nI n from rfl, show ((nI n, T_wordsRead_set T W) : Int32 × Tx).2 = T_wordsRead_set T W from rfl, i_lt (by omega) (by omega), if_pos (by omega), eR, ob]
    by_cases q : inB_ g (dW ch w) = true
    · rw [in2.1 (inB_t.mp q), ob, if_neg (show ¬ (1 : Int32) = 0 by decide), lt_, x_a1, if_pos q]
      exact IH z g hw2 (by omega) hW1 r ok hs (by omega)
    · have nq : ¬ inL g (dW ch w) := fun x => q (inB_t.mpr x)
      rw [in2.2 nq, ob, if_pos (show (0 : Int32) = 0 from rfl), if_neg q]
      by_cases u : G_n g = 30
      · have ei : f_X2_insert z X = some (0, z) := by
          unfold f_X2_insert
          rw [r.1, i_n (by omega), show (30 : Int32) = nI 30 from rfl, i_lt (by omega) (by omega), if_neg (by omega)]
        rw [ei, ob, if_pos (show (0 : Int32) = 0 from rfl), if_pos u]
        exact ⟨z, rfl, r⟩
      · have g30 : G_n g < 30 := by have := ok.1; omega
        obtain ⟨z2, e2, r2⟩ := ins2 r ok (okw_d hw1) g30 nq (w.2 - w.1)
        rw [← hX] at e2
        rw [e2, ob, if_neg (show ¬ (1 : Int32) = 0 by decide), lt_, x_a1, if_neg u]
        exact IH z2 _ hw2 (by omega) hW1 r2 (ins_ok ok hw1 g30 nq hs (fun i hi => ok_cd ok hi)) hs (by omega)
theorem WL_tw : ∀ {l : List (Nat × Nat)} {p : Nat} {w : Nat × Nat}, WL ch t (w :: l) p → w.1 = p ∧ TWd ch t w.1 w.2 ∧ (w.2 = t ∨ (w.2 < t ∧ ch w.2 = 44)) ∧ (l = [] ∧ w.2 = t ∨ WL ch t l (w.2 + 1))
  | [], p, w, h => by
    obtain ⟨a1, a2, a3, a4, a5, a6⟩ := h
    exact ⟨a1, ⟨a5, by omega, a3, a4, a6⟩, Or.inl a2, Or.inl ⟨rfl, a2⟩⟩
  | y :: l, p, w, h => by
    obtain ⟨a1, a2, a3, a4, a5, a6, a7, a8⟩ := h
    exact ⟨a1, ⟨a5, by omega, a3, a4, a6⟩, Or.inr ⟨a2, a7⟩, Or.inr a8⟩
theorem TX_s (h : TXr T M t ch) (s : Nat → Int32) : TXr T (M_s_set M s) t ch := h
/-- a list of words, or the end -/
def WLe (ch : Nat → Nat) (t : Nat) (l : List (Nat × Nat)) (p : Nat) : Prop := (l = [] ∧ p = t + 1) ∨ WL ch t l p
theorem WLe_c {l : List (Nat × Nat)} {p : Nat} {w : Nat × Nat} (h : WLe ch t (w :: l) p) : w.1 = p ∧ TWd ch t w.1 w.2 ∧ (w.2 = t ∨ (w.2 < t ∧ ch w.2 = 44)) ∧ WLe ch t l (w.2 + 1) := by
  rcases h with ⟨h, _⟩ | h
  · cases h
  · obtain ⟨a, b, c, d⟩ := WL_tw h
    refine ⟨a, b, c, ?_⟩
    rcases d with ⟨d1, d2⟩ | d
    · exact Or.inl ⟨d1, by rw [d2]⟩
    · exact Or.inr d
theorem J108_6 (tx : TXr T M t ch) {a e : Nat} (hw : TWd ch t a e) (hx : e = t ∨ (e < t ∧ ch e = 44)) (re : Int32 → Int32 → Int32 → Md → Option (Int32 × Md)) (v1 v2 : Int32) : f_X6_addWords_J108 re v1 v2 (nI a) M = re v1 v2 (nI (e + 1)) M := by
  unfold f_X6_addWords_J108
  rw [endOf6 tx hw.1 hw.2.1 hw.2.2.2.2 hx, ob, lt_, x_a1]
theorem addB : ∀ (l : List (Nat × Nat)) (p N : Nat) (M : Md) (v1 : Int32) (g : GS), TXr T M t ch → WLe ch t l p → RM (M_s M) g → okG g → l.length < N → loop4 (f_X6_addWords_L32) N v1 1 (nI p) M = f_X6_addWords_J119 v1 1 M
  | [], p, N, M, v1, g, tx, hl, r, ok, hN => by
    have t80 := tx.2.1
    obtain ⟨m, rfl⟩ : ∃ m, N = m + 1 := ⟨N - 1, by have : 0 < N := hN; omega⟩
    rcases hl with ⟨_, rfl⟩ | hl
    · show f_X6_addWords_L32 (loop4 (f_X6_addWords_L32) m) v1 1 (nI (t + 1)) M = _
      generalize loop4 (f_X6_addWords_L32) m = re
      unfold f_X6_addWords_L32
      rw [tx.2.2.1, i_lt (by omega) (by omega), if_neg (by omega)]
    · exact absurd hl (fun x => x)
  | w :: l, p, N, M, v1, g, tx, hl, r, ok, hN => by
    have t80 := tx.2.1
    obtain ⟨m, rfl⟩ : ∃ m, N = m + 1 := ⟨N - 1, by omega⟩
    have hN : l.length + 1 < m + 1 := hN
    obtain ⟨rfl, hw, hx, hl2⟩ := WLe_c hl
    have IH := addB l (w.2 + 1) m M v1 g tx hl2 r ok (by omega)
    show f_X6_addWords_L32 (loop4 (f_X6_addWords_L32) m) v1 1 (nI w.1) M = _
    rw [← IH]
    generalize loop4 (f_X6_addWords_L32) m = re
    have in6 := isIn6 r ok tx hw
    have hlt : w.1 < t := by have := hw.2.1; have := hw.2.2.1; omega
    unfold f_X6_addWords_L32
    rw [tx.2.2.1, i_lt (by omega) (by omega), if_pos hlt, endOf6 tx hw.1 hw.2.1 hw.2.2.2.2 hx, ob]
    by_cases q : inL g (dW ch (w.1, w.2))
    · rw [in6.1 q, ob, if_neg (show ¬ (1 : Int32) = 0 by decide)]
      unfold f_X6_addWords_J58 f_X6_addWords_J85
      rw [if_neg (show ¬ (1 : Int32) = 0 by decide), if_pos (show (0 : Int32) = 0 from rfl), J108_6 tx hw hx]
    · rw [in6.2 q, ob, if_pos (show (0 : Int32) = 0 from rfl)]
      unfold f_X6_addWords_J58 f_X6_addWords_J85
      rw [if_neg (show ¬ (1 : Int32) = 0 by decide), if_neg (show ¬ (1 : Int32) = 0 by decide), if_neg (show ¬ (1 : Int32) = 0 by decide), J108_6 tx hw hx]
theorem add6 : ∀ (l : List (Nat × Nat)) (p N v1 : Nat) (M : Md) (g : GS), TXr T M t ch → WLe ch t l p → RM (M_s M) g → okG g → G_st g ≠ 1 → l.length < N → ∃ x, loop4 (f_X6_addWords_L32) N (nI v1) 0 (nI p) M = f_X6_addWords_J119 (nI (v1 + (addL ch l g).2.2)) (if (addL ch l g).1 = true then 1 else 0) (M_s_set M x) ∧ RM x (addL ch l g).2.1
  | [], p, N, v1, M, g, tx, hl, r, ok, hs, hN => by
    have t80 := tx.2.1
    obtain ⟨m, rfl⟩ : ∃ m, N = m + 1 := ⟨N - 1, by have : 0 < N := hN; omega⟩
    rcases hl with ⟨_, rfl⟩ | hl
    · refine ⟨M_s M, ?_, r⟩
      show f_X6_addWords_L32 (loop4 (f_X6_addWords_L32) m) (nI v1) 0 (nI (t + 1)) M = _
      generalize loop4 (f_X6_addWords_L32) m = re
      unfold f_X6_addWords_L32
      rw [tx.2.2.1, i_lt (by omega) (by omega), if_neg (by omega)]
      rfl
    · exact absurd hl (fun x => x)
  | w :: l, p, N, v1, M, g, tx, hl, r, ok, hs, hN => by
    have t80 := tx.2.1
    obtain ⟨m, rfl⟩ : ∃ m, N = m + 1 := ⟨N - 1, by omega⟩
    have hN : l.length + 1 < m + 1 := hN
    obtain ⟨rfl, hw, hx, hl2⟩ := WLe_c hl
    have in6 := isIn6 r ok tx hw
    have hlt : w.1 < t := by have := hw.2.1; have := hw.2.2.1; omega
    have IH := fun v1 M g => add6 l (w.2 + 1) m v1 M g
    have IB := fun M v1 g (a : TXr T M t ch) b d => addB (T := T) l (w.2 + 1) m M v1 g a hl2 b d (by omega)
    show ∃ x, f_X6_addWords_L32 (loop4 (f_X6_addWords_L32) m) (nI v1) 0 (nI w.1) M = _ ∧ _
    generalize loop4 (f_X6_addWords_L32) m = re at *
    unfold f_X6_addWords_L32 addL
    rw [tx.2.2.1, i_lt (by omega) (by omega), if_pos hlt, endOf6 tx hw.1 hw.2.1 hw.2.2.2.2 hx, ob]
    by_cases q : inB_ g (dW ch w) = true
    · rw [in6.1 (inB_t.mp q), ob, if_neg (show ¬ (1 : Int32) = 0 by decide), if_pos q]
      unfold f_X6_addWords_J58 f_X6_addWords_J85
      rw [if_pos (show (0 : Int32) = 0 from rfl), if_pos (show (0 : Int32) = 0 from rfl), if_pos (show (0 : Int32) = 0 from rfl), J108_6 tx hw hx]
      exact IH v1 M g tx hl2 r ok hs (by omega)
    · have nq : ¬ inL g (dW ch w) := fun x => q (inB_t.mpr x)
      rw [in6.2 nq, ob, if_pos (show (0 : Int32) = 0 from rfl), if_neg q]
      unfold f_X6_addWords_J58
      rw [if_pos (show (0 : Int32) = 0 from rfl), if_neg (show ¬ (1 : Int32) = 0 by decide), m0, r.1]
      have e30 : ∀ {α : Type} (x y : α), (if nI (G_n g) = 30 then x else y) = if G_n g = 30 then x else y := fun x y => i_eq (b := 30) (by have := ok.1; omega) (by omega)
      rw [e30]
      by_cases u : G_n g = 30
      · rw [if_pos u, if_pos u]
        unfold f_X6_addWords_J85
        rw [if_neg (show ¬ (1 : Int32) = 0 by decide), if_neg (show ¬ (1 : Int32) = 0 by decide), J108_6 tx hw hx, IB M (nI v1) g tx r ok]
        exact ⟨M_s M, rfl, r⟩
      · have g30 : G_n g < 30 := by have := ok.1; omega
        obtain ⟨x, e2, r2⟩ := puts6 r ok tx hw g30
        have hw1 := tw_ok hw
        rw [if_neg u, if_neg u]
        unfold f_X6_addWords_J85
        rw [if_neg (show ¬ (1 : Int32) = 0 by decide), if_pos (show (0 : Int32) = 0 from rfl), endOf6 tx hw.1 hw.2.1 hw.2.2.2.2 hx, ob, e2, ob, lt_, x_a1, J108_6 (TX_s tx x) hw hx]
        obtain ⟨x2, e3, r3⟩ := IH (v1 + 1) (M_s_set M x) _ (TX_s tx x) hl2 r2 (ins_ok ok hw1 g30 nq hs (fun i hi => ok_cd ok hi)) hs (by omega)
        refine ⟨x2, ?_, r3⟩
        rw [e3, Ms_ss]
        have en : v1 + 1 + (addL ch l (gIns g (dW ch (w.1, w.2)) (w.2 - w.1) (gPos g (dW ch (w.1, w.2))))).2.2 = v1 + ((addL ch l (gIns g (dW ch (w.1, w.2)) (w.2 - w.1) (gPos g (dW ch (w.1, w.2))))).2.2 + 1) := by omega
        rw [en]
end ADD
