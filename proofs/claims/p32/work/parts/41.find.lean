/-! ===== stage B: words read; found; put in order ===== -/
section READ
variable {T : Tx} {t : Nat} {ch : Nat → Nat}
theorem WL_len : ∀ {l : List (Nat × Nat)} {p : Nat}, WL ch t l p → p + 3 * l.length ≤ t + 1
  | [], _, h => absurd h (fun x => x)
  | [x], p, h => by
    obtain ⟨a1, a2, a3, a4, a5, a6⟩ := h
    show p + 3 * 1 ≤ t + 1
    omega
  | x :: y :: l, p, h => by
    obtain ⟨a1, a2, a3, a4, a5, a6, a7, a8⟩ := h
    have := WL_len a8
    show p + 3 * (l.length + 1 + 1) ≤ t + 1
    have e : (y :: l).length = l.length + 1 := rfl
    omega
theorem read3a (h : TXr T t ch) : ∀ (l : List (Nat × Nat)) (p n N : Nat) (W : Nat → Int64), WL ch t l p → n + l.length ≤ 27 → t - p + 1 < N → ∃ W', loop5 (f_X3_readWords_L9) N (nI n) 0 0 (nI p) (T_wordsRead_set T W) = some (nI (n + l.length), T_wordsRead_set T W') ∧ (∀ i, i < n → W' i = W i) ∧ ∀ i w, l[i]? = some w → W' (n + i) = lN (encN (dW ch w))
  | [], _, _, _, _, hl, _, _ => absurd hl (fun x => x)
  | [x], p, n, N, W, hl, hn, hN => by
    have t80 := h.2.1
    obtain ⟨a1, a2, a3, a4, a5, a6⟩ := hl
    obtain ⟨a, e⟩ := x
    simp only at a1 a2 a3 a4 a5 a6
    subst a1 a2
    obtain ⟨N', Y, c1, c2, c3⟩ := word3 (n := n) h a5 (Nat.le_refl _) a4 a6 W (e - a) 0 0 N (by omega) (by omega) (by rw [enc0]; rfl)
    rw [Nat.add_zero] at c3
    have c3' : loop5 (f_X3_readWords_L9) N (nI n) 0 0 (nI a) (T_wordsRead_set T W) = _ := c3
    obtain ⟨m, rfl⟩ : ∃ m, N' = m + 1 := ⟨N' - 1, by omega⟩
    have hn27 : n < 27 := by have : n + 1 ≤ 27 := hn; omega
    refine ⟨vp_updL W n Y, ?_, fun i hi => vL_n (by omega), fun i w hw => ?_⟩
    · rw [c3']
      show f_X3_readWords_L9 (loop5 (f_X3_readWords_L9) m) (nI n) (nI (e - a)) Y (nI e) (T_wordsRead_set T W) = _
      generalize loop5 (f_X3_readWords_L9) m = re
      unfold f_X3_readWords_L9
      rw [TW_l, h.1, i_lt (by omega) (by omega), if_neg (by omega), keep3 hn27, ob]
      rfl
    · cases i with
      | zero =>
        have : (a, e) = w := by simpa using hw
        rw [← this, Nat.add_zero, vL_e, c2]
      | succ i => simp at hw
  | x :: y :: l, p, n, N, W, hl, hn, hN => by
    have t80 := h.2.1
    obtain ⟨a1, a2, a3, a4, a5, a6, a7, a8⟩ := hl
    obtain ⟨a, e⟩ := x
    simp only at a1 a2 a3 a4 a5 a6 a7 a8
    subst a1
    have hlen : n + (l.length + 1 + 1) ≤ 27 := hn
    obtain ⟨N', Y, c1, c2, c3⟩ := word3 (n := n) h a5 (Nat.le_of_lt a2) a4 a6 W (e - a) 0 0 N (by omega) (by omega) (by rw [enc0]; rfl)
    rw [Nat.add_zero] at c3
    have c3' : loop5 (f_X3_readWords_L9) N (nI n) 0 0 (nI a) (T_wordsRead_set T W) = _ := c3
    obtain ⟨m, rfl⟩ : ∃ m, N' = m + 1 := ⟨N' - 1, by omega⟩
    obtain ⟨W', d1, d2, d3⟩ := read3a h (y :: l) (e + 1) (n + 1) m (vp_updL W n Y) a8 (by show n + 1 + (l.length + 1) ≤ 27; omega) (by omega)
    refine ⟨W', ?_, fun i hi => by rw [d2 i (by omega), vL_n (by omega)], fun i w hw => ?_⟩
    · rw [c3']
      show f_X3_readWords_L9 (loop5 (f_X3_readWords_L9) m) (nI n) (nI (e - a)) Y (nI e) (T_wordsRead_set T W) = _
      generalize loop5 (f_X3_readWords_L9) m = re at *
      unfold f_X3_readWords_L9
      have hc := h.2.2.2 e a2
      rw [TW_l, h.1, i_lt (by omega) (by omega), if_pos a2, TW_s, sign3 h a2, ob, a7, if_pos (show nI 44 = 44 from rfl), keep3 (by omega), ob, lt_, x_a1]
      show re (nI (n + 1)) 0 0 (nI (e + 1)) (T_wordsRead_set T (vp_updL W n Y)) = _
      rw [d1, show n + 1 + (y :: l).length = n + ((a, e) :: y :: l).length by show n + 1 + (l.length + 1) = n + (l.length + 1 + 1); omega]
    · cases i with
      | zero =>
        have : (a, e) = w := by simpa using hw
        rw [← this, Nat.add_zero, d2 n (by omega), vL_e, c2]
      | succ i =>
        have : (y :: l)[i]? = some w := by simpa using hw
        rw [show n + (i + 1) = n + 1 + i by omega]
        exact d3 i w this
theorem read3 (h : TXr T t ch) {l : List (Nat × Nat)} (hl : WL ch t l 0) : ∃ W, f_X3_readWords T = some (nI l.length, T_wordsRead_set T W) ∧ ∀ i w, l[i]? = some w → W i = lN (encN (dW ch w)) := by
  have t80 := h.2.1
  have ln := WL_len hl
  obtain ⟨W, e, _, w3⟩ := read3a h l 0 0 FU (T_wordsRead T) hl (by omega) (by show t - 0 + 1 < 4096; omega)
  refine ⟨W, ?_, fun i w hw => by have := w3 i w hw; rw [Nat.zero_add] at this; exact this⟩
  rw [Nat.zero_add] at e
  exact e
end READ
/-! where a word stands -/
def posF (g : GS) (d : Nat → Nat) (w : Nat) : Int32 := if encN (G_D g w) < encN d then 0 else 1
def gPos (g : GS) (d : Nat → Nat) : Nat := look (posF g d) 1 (G_n g)
def inL (g : GS) (d : Nat → Nat) : Prop := gPos g d < G_n g ∧ encN (G_D g (gPos g d)) = encN d
theorem posF_1 {g : GS} {d : Nat → Nat} {w : Nat} : posF g d w = 1 ↔ ¬ encN (G_D g w) < encN d := by
  unfold posF
  by_cases q : encN (G_D g w) < encN d
  · rw [if_pos q]; exact ⟨fun h => absurd h (by decide), fun h => absurd q h⟩
  · rw [if_neg q]; exact ⟨fun _ => q, fun _ => rfl⟩
theorem gPos_le (g : GS) (d : Nat → Nat) : gPos g d ≤ G_n g := look_le _ _ _
theorem gPos_lo {g : GS} {d : Nat → Nat} {w : Nat} (h : w < gPos g d) : encN (G_D g w) < encN d := Classical.byContradiction (fun q => look_no h (posF_1.mpr q))
theorem gPos_hi {g : GS} (ok : okG g) {d : Nat → Nat} {w : Nat} (h : gPos g d ≤ w) (hw : w < G_n g) : encN d ≤ encN (G_D g w) := by
  have hp : gPos g d < G_n g := by omega
  have h1 : ¬ encN (G_D g (gPos g d)) < encN d := posF_1.mp (look_at hp)
  rcases (show gPos g d = w ∨ gPos g d < w by omega) with q | q
  · rw [← q]; omega
  · have := ok.2.2.2.2.2.2.2.2.2.1 (gPos g d) w q hw
    omega
theorem inL_iff {g : GS} (ok : okG g) {d : Nat → Nat} {w : Nat} (hw : w < G_n g) : encN (G_D g w) = encN d ↔ inL g d ∧ w = gPos g d := by
  constructor
  · intro e
    have e2 : w = gPos g d := by
      rcases Nat.lt_trichotomy w (gPos g d) with q | q | q
      · have := gPos_lo q; omega
      · exact q
      · have a := ok.2.2.2.2.2.2.2.2.2.1 (gPos g d) w q hw
        have b := gPos_hi ok (d := d) (Nat.le_refl _) (by omega : gPos g d < G_n g)
        omega
    exact ⟨⟨by rw [← e2]; exact hw, by rw [← e2]; exact e⟩, e2⟩
  · rintro ⟨h, rfl⟩
    exact h.2
theorem lNe {a b : Nat} (ha : a < 1099511627776) (hb : b < 1099511627776) : (lN a = lN b) = (a = b) := propext (fb_lN_inj (by omega) (by omega))
theorem lNl {a b : Nat} (ha : a < 1099511627776) (hb : b < 1099511627776) : (lN a < lN b) = (a < b) := by
  rw [fa_lt64, pf_lI (by omega), pf_lI (by omega)]
  exact propext (by omega)
section FIND
variable {z : St} {T : Tx} {g : GS} {d : Nat → Nat}
theorem number2 (h : RS z g) (ok : okG g) (hd : okd d) : (inL g d → f_X2_numberOf z (lN (encN d)) = some (nI (gPos g d))) ∧ (¬ inL g d → f_X2_numberOf z (lN (encN d)) = some (-1)) := by
  have hn := ok.1
  have l1 := encN_lt (okd_32 hd)
  have eqw : ∀ w, w < G_n g → (lN (encN (G_D g w)) = lN (encN d)) = (inL g d ∧ w = gPos g d) := fun w hw => by
    rw [lNe (encN_lt (okd_32 (okw_d (ok_w ok hw)))) l1]
    exact propext (inL_iff ok hw)
  constructor
  · intro hin
    have hp := hin.1
    unfold f_X2_numberOf
    refine run1 (fun j a => a = nI j) (fun r => r = some (nI (gPos g d))) (gPos g d) ?_ ?_ FU 0 (FU_gt (by omega)) rfl
    · rintro j a hj rfl
      refine ⟨nI (j + 1), rfl, fun re => ?_⟩
      unfold f_X2_numberOf_L2
      rw [h.1, i_lt (by omega) (by omega), if_pos (by omega), wordAt2 h ok (by omega), ob, if_neg (by rw [eqw j (by omega)]; omega), lt_, x_a1]
    · rintro a rfl re
      unfold f_X2_numberOf_L2
      rw [h.1, i_lt (by omega) (by omega), if_pos hp, wordAt2 h ok hp, ob, if_pos (by rw [eqw _ hp]; exact ⟨hin, rfl⟩)]
  · intro hin
    unfold f_X2_numberOf
    refine run1 (fun j a => a = nI j) (fun r => r = some (-1)) (G_n g) ?_ ?_ FU 0 (FU_gt (by omega)) rfl
    · rintro j a hj rfl
      refine ⟨nI (j + 1), rfl, fun re => ?_⟩
      unfold f_X2_numberOf_L2
      rw [h.1, i_lt (by omega) (by omega), if_pos hj, wordAt2 h ok hj, ob, if_neg (by rw [eqw j hj]; exact fun x => hin x.1), lt_, x_a1]
    · rintro a rfl re
      unfold f_X2_numberOf_L2
      rw [h.1, i_lt (by omega) (by omega), if_neg (by omega)]
theorem isIn2 (h : RS z g) (ok : okG g) (hd : okd d) : (inL g d → f_X2_isInList z (lN (encN d)) = some 1) ∧ (¬ inL g d → f_X2_isInList z (lN (encN d)) = some 0) := by
  have hn := ok.1
  have := gPos_le g d
  constructor
  · intro q
    unfold f_X2_isInList
    rw [(number2 h ok hd).1 q, ob, if_neg]
    intro x
    exact neg_ne (x := -1) (by decide) (a := gPos g d) (by omega) x.symm
  · intro q
    unfold f_X2_isInList
    rw [(number2 h ok hd).2 q, ob, if_pos rfl]
abbrev gIns (g : GS) (d : Nat → Nat) (s p : Nat) : GS := (G_n g + 1, G_pol g, G_st g, G_len g, G_lv g, G_gc g, G_gs g, G_cd g, G_tot g, G_od g, G_pt g, fun w => if w < p then G_Z g w else if w = p then s else G_Z g (w - 1), fun w => if w < p then G_D g w else if w = p then d else G_D g (w - 1))
theorem ins2 (h : RS z g) (ok : okG g) (hd : okd d) (h30 : G_n g < 30) (hin : ¬ inL g d) (s : Nat) : ∃ z', f_X2_insert z (lN (encN d)) = some (1, z') ∧ RS z' (gIns g d s (gPos g d)) := by
  have l1 := encN_lt (okd_32 hd)
  have hle := gPos_le g d
  obtain ⟨X, hX⟩ : ∃ X, X = lN (encN d) := ⟨_, rfl⟩
  have ltw : ∀ w, w < G_n g → (X < S_list z w) = (gPos g d ≤ w) := fun w hw => by
    have l2 := encN_lt (okd_32 (okw_d (ok_w ok hw)))
    rw [hX, h.2.2.2.2.2.2.2.2.2.2.2 w hw, lNl l1 l2]
    refine propext ⟨fun q => Classical.byContradiction (fun x => by have := gPos_lo (g := g) (d := d) (w := w) (by omega); omega), fun q => ?_⟩
    have a := gPos_hi ok q hw
    rcases (show encN d = encN (G_D g w) ∨ encN d < encN (G_D g w) by omega) with y | y
    · exact absurd ((inL_iff ok hw).mp y.symm).1 hin
    · exact y
  rw [← hX]
  have key : ∃ L, f_X2_insert z X = some (1, S_wordCount_set (S_list_set z L) (nI (G_n g + 1))) ∧ ∀ k, L k = if k = gPos g d then X else if gPos g d < k ∧ k ≤ G_n g then S_list z (k - 1) else S_list z k := by
    unfold f_X2_insert
    rw [h.1, i_n (by omega), show (30 : Int32) = nI 30 from rfl, i_lt (by omega) (by omega), if_pos h30, lt_]
    refine run2 (fun j a (zz : St) => a = nI (G_n g - j) ∧ ∃ L, zz = S_list_set z L ∧ ∀ k, L k = if G_n g - j < k ∧ k ≤ G_n g then S_list z (k - 1) else S_list z k) (fun r => ∃ L, r = some (1, S_wordCount_set (S_list_set z L) (nI (G_n g + 1))) ∧ ∀ k, L k = if k = gPos g d then X else if gPos g d < k ∧ k ≤ G_n g then S_list z (k - 1) else S_list z k) (G_n g - gPos g d) ?_ ?_ FU _ _ (FU_gt (by omega)) ⟨rfl, S_list z, (sl_id z).symm, fun k => by rw [if_neg (by omega)]⟩
    · rintro j a zz hj ⟨rfl, L, rfl, hL⟩
      obtain ⟨v, hv⟩ : ∃ v, G_n g - j = v + 1 := ⟨G_n g - j - 1, by omega⟩
      rw [hv] at hL ⊢
      refine ⟨nI v, S_list_set z (vp_updL L (v + 1) (L v)), ⟨by rw [show G_n g - (j + 1) = v by omega], _, rfl, fun k => ?_⟩, fun re => ?_⟩
      · rw [show G_n g - (j + 1) = v by omega]
        by_cases q : k = v + 1
        · rw [q, vL_e, hL, if_neg (by omega), if_pos (by omega)]; rfl
        · rw [vL_n q, hL]
          by_cases w : v + 1 < k ∧ k ≤ G_n g
          · rw [if_pos w, if_pos (by omega)]
          · rw [if_neg w, if_neg (by omega)]
      · have ev : L v = S_list z v := by rw [hL, if_neg (by omega)]
        unfold f_X2_insert_L23
        rw [i_p (by omega), if_pos (by omega), x_s1, getA_n (by omega) (by omega), getA_n (by omega) (by omega), chkA_n (by omega) (by omega), lt_, lt_, sl_l, sl_ll, x_cl (by omega), x_m1, if_pos (by rw [ev, ltw v (by omega)]; omega)]
    · rintro a zz ⟨rfl, L, rfl, hL⟩ re
      rw [show G_n g - (G_n g - gPos g d) = gPos g d by omega] at hL ⊢
      have J : f_X2_insert_J60 X (nI (gPos g d)) (S_list_set z L) = some (1, S_wordCount_set (S_list_set z (vp_updL L (gPos g d) X)) (nI (G_n g + 1))) := by
        unfold f_X2_insert_J60
        rw [chkA_n (by omega) (by omega), lt_, lt_, sl_l, sl_ll, sl_n, h.1, x_cl (by omega), x_a1]
      refine ⟨vp_updL L (gPos g d) X, ?_, fun k => ?_⟩
      · unfold f_X2_insert_L23
        rw [i_p (by omega), J]
        by_cases q : 0 < gPos g d
        · obtain ⟨v, hv⟩ : ∃ v, gPos g d = v + 1 := ⟨gPos g d - 1, by omega⟩
          have ev : L v = S_list z v := by rw [hL, if_neg (by omega)]
          rw [if_pos q, show nI (gPos g d) - 1 = nI v by rw [hv, x_s1], getA_n (by omega) (by omega), sl_l, ev, if_neg (by rw [ltw v (by omega)]; omega)]
        · rw [if_neg q]
      · by_cases q : k = gPos g d
        · rw [q, vL_e, if_pos rfl]
        · rw [vL_n q, if_neg q, hL]
  obtain ⟨L, e, hL⟩ := key
  refine ⟨_, e, rfl, h.2.1, h.2.2.1, h.2.2.2.1, h.2.2.2.2.1, h.2.2.2.2.2.1, h.2.2.2.2.2.2.1, h.2.2.2.2.2.2.2.1, h.2.2.2.2.2.2.2.2.1, h.2.2.2.2.2.2.2.2.2.1, h.2.2.2.2.2.2.2.2.2.2.1, fun w hw => ?_⟩
  have hw : w < G_n g + 1 := hw
  show L w = lN (encN (if w < gPos g d then G_D g w else if w = gPos g d then d else G_D g (w - 1)))
  rw [hL]
  by_cases q : w < gPos g d
  · rw [if_neg (by omega), if_neg (by omega), if_pos q, h.2.2.2.2.2.2.2.2.2.2.2 w (by omega)]
  · rw [if_neg q]
    by_cases y : w = gPos g d
    · rw [if_pos y, if_pos y, hX]
    · rw [if_neg y, if_neg y, if_pos (by omega), h.2.2.2.2.2.2.2.2.2.2.2 (w - 1) (by omega)]
theorem ins_ok (ok : okG g) {s : Nat} (hs : okw d s) (h30 : G_n g < 30) (hin : ¬ inL g d) (hst : G_st g ≠ 1) (hcd : ∀ i, bt (G_cd g) i = true → i < G_n g) : okG (gIns g d s (gPos g d)) := by
  have hle := gPos_le g d
  obtain ⟨o1, o2, o3, o4, o5, o6, o7, o8, o9, o10, o11, o12, o13⟩ := id ok
  refine ⟨(by show G_n g + 1 ≤ 30; omega), o2, o3, o4, o5, o6, o7, fun i hi => by have := o8 i hi; show i < G_n g + 1; omega, fun w hw => ?_, fun v w hvw hw => ?_, o11, o12, fun x => absurd x hst⟩
  · have hw : w < G_n g + 1 := hw
    show okw (if w < gPos g d then G_D g w else if w = gPos g d then d else G_D g (w - 1)) (if w < gPos g d then G_Z g w else if w = gPos g d then s else G_Z g (w - 1))
    by_cases q : w < gPos g d
    · rw [if_pos q, if_pos q]; exact o9 w (by omega)
    · rw [if_neg q, if_neg q]
      by_cases y : w = gPos g d
      · rw [if_pos y, if_pos y]; exact hs
      · rw [if_neg y, if_neg y]; exact o9 (w - 1) (by omega)
  · have hw : w < G_n g + 1 := hw
    have hi : ∀ u, gPos g d ≤ u → u < G_n g → encN d < encN (G_D g u) := fun u a b => by
      have := gPos_hi ok a b
      rcases (show encN d = encN (G_D g u) ∨ encN d < encN (G_D g u) by omega) with y | y
      · exact absurd ((inL_iff ok b).mp y.symm).1 hin
      · exact y
    show encN (if v < gPos g d then G_D g v else if v = gPos g d then d else G_D g (v - 1)) < encN (if w < gPos g d then G_D g w else if w = gPos g d then d else G_D g (w - 1))
    by_cases q : v < gPos g d
    · rw [if_pos q]
      by_cases y : w < gPos g d
      · rw [if_pos y]; exact o10 v w hvw (by omega)
      · rw [if_neg y]
        by_cases u : w = gPos g d
        · rw [if_pos u]; exact gPos_lo q
        · rw [if_neg u]
          have := gPos_lo q
          have := hi (w - 1) (by omega) (by omega)
          omega
    · rw [if_neg q, if_neg (show ¬ w < gPos g d by omega), if_neg (show ¬ w = gPos g d by omega)]
      by_cases y : v = gPos g d
      · rw [if_pos y]
        exact hi (w - 1) (by omega) (by omega)
      · rw [if_neg y]
        exact o10 (v - 1) (w - 1) (by omega) (by omega)
end FIND
