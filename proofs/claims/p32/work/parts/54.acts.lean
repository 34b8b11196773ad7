/-! ===== one act of the law: the same answer and the same game, whichever object ===== -/
abbrev AS : Type := GS × Nat × (Nat → GS) × Nat × (Nat → Nat)
def RC (T : Tx) (z : St) (V : Sv) (A : AS) : Prop := RS z A.1 ∧ RV V A.2.1 A.2.2.1 ∧ TXr T A.2.2.2.1 A.2.2.2.2
def OKA (K : Nat) (A : AS) : Prop := okX K A.1 ∧ A.2.1 ≤ 6 ∧ (∀ j, j < A.2.1 → okX K (A.2.2.1 j)) ∧ A.2.2.2.1 ≤ 80
theorem OKA_m {K : Nat} {A : AS} (h : OKA K A) : OKA (K + 1) A := ⟨okX_mono h.1 (Nat.le_succ K), h.2.1, fun j hj => okX_mono (h.2.2.1 j hj) (Nat.le_succ K), h.2.2.2⟩
theorem OKA_p {K c t t' : Nat} {g g' : GS} {gs : Nat → GS} {ch ch' : Nat → Nat} (h : OKA K (g, c, gs, t, ch)) (h' : okX (K + 1) g') (ht : t' ≤ 80) : OKA (K + 1) (g', cP c, gsP g gs, t', ch') := by
  obtain ⟨h1, h2, h3, h4⟩ := h
  have h2 : c ≤ 6 := h2
  refine ⟨h', cP_le h2, fun j hj => ?_, ht⟩
  have hj : j < cP c := hj
  show okX (K + 1) (gsP g gs j)
  unfold gsP
  by_cases q : j = 0
  · rw [if_pos q]; exact okX_mono h1 (Nat.le_succ K)
  · rw [if_neg q]
    refine okX_mono (h3 (j - 1) ?_) (Nat.le_succ K)
    show j - 1 < c
    unfold cP at hj
    by_cases w : c = 6
    · rw [if_pos w] at hj; omega
    · rw [if_neg w] at hj; omega
theorem OKA_t {K c t t' : Nat} {g : GS} {gs : Nat → GS} {ch ch' : Nat → Nat} (h : OKA K (g, c, gs, t, ch)) (ht : t' ≤ 80) : OKA K (g, c, gs, t', ch') := ⟨h.1, h.2.1, h.2.2.1, ht⟩
/-! numbers -/
theorem divI_n {β : Type} {a d : Nat} {k : Int32 → Option β} (ha : a < 2147483648) (h0 : 0 < d) (hd : d < 2147483648) : divI (nI a) (nI d) k = k (nI (a / d)) := by
  unfold divI
  rw [if_neg (by rw [x_z hd]; omega), pk_div ha h0 hd]
theorem remI_n {β : Type} {a d : Nat} {k : Int32 → Option β} (ha : a < 2147483648) (h0 : 0 < d) (hd : d < 2147483648) : remI (nI a) (nI d) k = k (nI (a % d)) := by
  unfold remI
  rw [if_neg (by rw [x_z hd]; omega), pk_rem ha h0 hd]
theorem remI_d {β : Type} {x : Int32} {d : Nat} {k : Int32 → Option β} (h0 : 0 < d) (hd : d < 2147483648) : remI x (nI d) k = k (x - x / nI d * nI d) := by
  unfold remI
  rw [if_neg (by rw [x_z hd]; omega)]
/-! typing -/
def ltA (p : Int32) (j : Nat) : Int32 := (p >>> (((25 : Int32) - ((5 : Int32) * nI j)) &&& 31)) &&& (31 : Int32)
def tyA (p : Int32) (t : Nat) (ch : Nat → Nat) : Int32 × Nat × (Nat → Nat) :=
  if p < 0 ∨ p < 33 ∨ (126 : Int32) < p then (-2, t, ch)
  else if t < 80 then (nI (t + 1), t + 1, fun k => if k = t then p.toNatClampNeg else ch k) else (-4, t, ch)
theorem tyA_t {p : Int32} {t : Nat} {ch : Nat → Nat} (ht : t ≤ 80) : (tyA p t ch).2.1 ≤ 80 := by
  unfold tyA
  by_cases a : p < 0 ∨ p < 33 ∨ (126 : Int32) < p
  · rw [if_pos a]; exact ht
  · rw [if_neg a]
    by_cases b : t < 80
    · rw [if_pos b]; exact b
    · rw [if_neg b]; exact ht
theorem tyA_5 {T : Tx} {p : Int32} {t : Nat} {ch : Nat → Nat} (h : TXr T t ch) : ∃ T', f_X5_type T p = some ((tyA p t ch).1, T') ∧ TXr T' (tyA p t ch).2.1 (tyA p t ch).2.2 := by
  unfold tyA
  rcases neg_or p with hp | ⟨j, hj, rfl⟩
  · rw [if_pos (Or.inl hp), type5_bad (Or.inl hp)]
    exact ⟨T, rfl, h⟩
  · have e1 : (nI j < (33 : Int32)) = (j < 33) := x_lt (b := 33) hj (by omega)
    have e2 : ((126 : Int32) < nI j) = (126 < j) := x_lt (a := 126) (by omega) hj
    have b1 : ∀ {α : Type} (t f : α), (if nI j < 33 then t else f) = if j < 33 then t else f := fun t f => i_lt (b := 33) hj (by omega)
    have b2 : ∀ {α : Type} (t f : α), (if 126 < nI j then t else f) = if 126 < j then t else f := fun t f => i_lt (a := 126) (by omega) hj
    by_cases a : j < 33 ∨ 126 < j
    · have a2 : nI j < 0 ∨ nI j < 33 ∨ (126 : Int32) < nI j := by
        rw [e1, e2]; exact Or.inr a
      rw [if_pos a2, type5_bad (Or.inr ⟨j, hj, a, rfl⟩)]
      exact ⟨T, rfl, h⟩
    · have a2 : ¬ (nI j < 0 ∨ nI j < 33 ∨ (126 : Int32) < nI j) := by
        rw [e1, e2]
        intro x
        rcases x with x | x
        · exact nI_pos hj x
        · exact a x
      rw [if_neg a2]
      by_cases b : t < 80
      · rw [if_pos b, x_cl hj]
        exact type5 h (by omega) b
      · rw [if_neg b]
        have t80 := h.2.1
        refine ⟨T, ?_, h⟩
        unfold f_X5_type f_X3_append
        rw [b1, b2, if_neg (by omega), if_neg (by omega), h.1, i_n (by omega), show (80 : Int32) = nI 80 from rfl, i_lt (by omega) (by omega), if_neg b, ob, if_pos rfl]
theorem letterL (p : Int32) (j : Nat) : f_L_letter p (nI j) = some (ltA p j) := rfl
theorem lengthL (p : Int32) : ∃ n, n ≤ 6 ∧ f_L_length p = some (nI n) := by
  have key : ∀ d j N, j + d = 6 → d < N → ∃ n, n ≤ 6 ∧ loop1 (f_L_length_L2 p) N (nI j) = some (nI n) := by
    intro d
    induction d with
    | zero =>
      intro j N hj hN
      obtain ⟨m, rfl⟩ : ∃ m, N = m + 1 := ⟨N - 1, by omega⟩
      refine ⟨6, Nat.le_refl _, ?_⟩
      show f_L_length_L2 p (loop1 (f_L_length_L2 p) m) (nI j) = _
      unfold f_L_length_L2
      rw [show (6 : Int32) = nI 6 from rfl, i_lt (by omega) (by omega), if_neg (by omega), show j = 6 by omega]
    | succ d ih =>
      intro j N hj hN
      obtain ⟨m, rfl⟩ : ∃ m, N = m + 1 := ⟨N - 1, by omega⟩
      show ∃ n, n ≤ 6 ∧ f_L_length_L2 p (loop1 (f_L_length_L2 p) m) (nI j) = _
      have IH := ih (j + 1) m (by omega) (by omega)
      generalize loop1 (f_L_length_L2 p) m = re at *
      unfold f_L_length_L2
      rw [show (6 : Int32) = nI 6 from rfl, i_lt (by omega) (by omega), if_pos (by omega), letterL, ob]
      by_cases q : 0 < ltA p j
      · rw [if_pos q, lt_, x_a1]; exact IH
      · rw [if_neg q]; exact ⟨j, by omega, rfl⟩
  exact key 6 0 FU rfl (by show 6 < 4096; omega)
theorem wordL {m : Nat} (hm : m < 2147483648) : ∃ w, f_L_word (nI m) = some w := by
  have J : ∀ s : Nat, s ≤ 6 → ∃ w, f_L_word_J19 (nI m) (nI s) = some w := by
    intro s hs
    unfold f_L_word_J19
    rw [show (49 : Int32) = nI 49 from rfl, show (4 : Int32) = nI 4 from rfl, divI_n hm (by omega) (by omega), remI_n (by omega) (by omega) (by omega), lt_, show (2 : Int32) + nI (m / 49 % 4) = nI (2 + m / 49 % 4) from nI_add 2 _]
    have key : ∀ d j N (a : Int32), j + d = s → d < N → ∃ w, loop2 (f_L_word_L34 (nI s) (nI m) (nI (2 + m / 49 % 4))) N a (nI j) = some w := by
      intro d
      induction d with
      | zero =>
        intro j N a hj hN
        obtain ⟨v, rfl⟩ : ∃ v, N = v + 1 := ⟨N - 1, by omega⟩
        show ∃ w, f_L_word_L34 (nI s) (nI m) (nI (2 + m / 49 % 4)) (loop2 (f_L_word_L34 (nI s) (nI m) (nI (2 + m / 49 % 4))) v) a (nI j) = some w
        generalize loop2 (f_L_word_L34 (nI s) (nI m) (nI (2 + m / 49 % 4))) v = re
        unfold f_L_word_L34
        rw [i_lt (by omega) (by omega), if_neg (by omega)]
        exact ⟨_, rfl⟩
      | succ d ih =>
        intro j N a hj hN
        obtain ⟨v, rfl⟩ : ∃ v, N = v + 1 := ⟨N - 1, by omega⟩
        show ∃ w, f_L_word_L34 (nI s) (nI m) (nI (2 + m / 49 % 4)) (loop2 (f_L_word_L34 (nI s) (nI m) (nI (2 + m / 49 % 4))) v) a (nI j) = some w
        have IH := fun a => ih (j + 1) v a (by omega) (by omega)
        generalize loop2 (f_L_word_L34 (nI s) (nI m) (nI (2 + m / 49 % 4))) v = re at *
        unfold f_L_word_L34
        rw [i_lt (by omega) (by omega), if_pos (by omega), remI_d (by omega) (by omega), lt_, lt_, x_a1]
        exact IH _
    exact key s 0 FU 0 (by omega) (by show s < 4096; omega)
  unfold f_L_word
  rw [show (7 : Int32) = nI 7 from rfl, remI_n hm (by omega) (by omega), i_z (by omega)]
  by_cases q : m % 7 = 0
  · rw [if_pos q, divI_n hm (by omega) (by omega), show (5 : Int32) = nI 5 from rfl, remI_n (by omega) (by omega) (by omega), show (2 : Int32) + nI (m / 7 % 5) = nI (2 + m / 7 % 5) from nI_add 2 _]
    exact J _ (by omega)
  · rw [if_neg q]
    exact J 4 (by omega)
def tyN (p : Int32) (t : Nat) (ch : Nat → Nat) : Nat → Int32 × Nat × (Nat → Nat)
  | 0 => (0, t, ch)
  | j + 1 => tyA ((96 : Int32) + ltA p j) (tyN p t ch j).2.1 (tyN p t ch j).2.2
theorem tyN_t {p : Int32} {t : Nat} {ch : Nat → Nat} (ht : t ≤ 80) : ∀ n, (tyN p t ch n).2.1 ≤ 80
  | 0 => ht
  | n + 1 => tyA_t (tyN_t ht n)
theorem typesL (p : Int32) : ∃ n, ∀ (T : Tx) (t : Nat) (ch : Nat → Nat), TXr T t ch → ∃ T', f_L_types T p = some ((tyN p t ch n).1, T') ∧ TXr T' (tyN p t ch n).2.1 (tyN p t ch n).2.2 := by
  obtain ⟨n, hn, e⟩ := lengthL p
  refine ⟨n, fun T t ch h => ?_⟩
  unfold f_L_types
  refine run3 (fun j a b (T' : Tx) => a = (tyN p t ch j).1 ∧ b = nI j ∧ TXr T' (tyN p t ch j).2.1 (tyN p t ch j).2.2) (fun r => ∃ T', r = some ((tyN p t ch n).1, T') ∧ TXr T' (tyN p t ch n).2.1 (tyN p t ch n).2.2) n ?_ ?_ FU _ _ _ (FU_gt (by omega)) ⟨rfl, rfl, h⟩
  · rintro j a b T1 hj ⟨rfl, rfl, h1⟩
    obtain ⟨T2, e2, h2⟩ := tyA_5 (p := (96 : Int32) + ltA p j) h1
    refine ⟨_, nI (j + 1), T2, ⟨rfl, rfl, h2⟩, fun re => ?_⟩
    unfold f_L_types_L4
    rw [e, ob, i_lt (by omega) (by omega), if_pos hj, letterL, ob, e2, ob, lt_, x_a1]
    rfl
  · rintro a b T1 ⟨rfl, rfl, h1⟩ re
    unfold f_L_types_L4
    rw [e, ob, i_lt (by omega) (by omega), if_neg (by omega)]
    exact ⟨T1, rfl, h1⟩
/-! the calls that read the text, on any text -/
theorem addA {K c t : Nat} {g : GS} {gs : Nat → GS} {ch : Nat → Nat} (h : OKA K (g, c, gs, t, ch)) : ∃ a A', OKA (K + 1) A' ∧ ∀ T z V D, RC T z V (g, c, gs, t, ch) → ∃ T' z' V' D', f_X5_addWords T z V D = some (a, T', z', V', D') ∧ RC T' z' V' A' := by
  have ok : okG g := h.1.1
  have c6 : c ≤ 6 := h.2.1
  have t80 : t ≤ 80 := h.2.2.2
  by_cases q : errN ch t t 0 0 = -6
  · by_cases s : G_st g = 1
    · refine ⟨-3, _, OKA_m h, fun T z V D r => ?_⟩
      have r1 : RS z g := r.1
      exact ⟨_, _, _, _, addW5_no (show TXr T t ch from r.2.2) r1 ok q s, r⟩
    · obtain ⟨l, hl⟩ := WL_ex (show t < 2147483648 by omega) t 0 (by omega) q
      by_cases fl : (addL ch l g).1 = true
      · refine ⟨-4, _, OKA_m h, fun T z V D r => ?_⟩
        have r1 : RS z g := r.1
        obtain ⟨T', D', e, tx⟩ := addW5_lim (V := V) (D := D) (show TXr T t ch from r.2.2) r1 ok q s hl fl
        exact ⟨_, _, _, _, e, r1, r.2.1, tx⟩
      · have hx := okX_mono (okX_add (ch := ch) (l := l) h.1 (fun w hw => (WL_w hl hw).1) s) (Nat.le_succ K)
        refine ⟨nI (addL ch l g).2.2, (gEnd (addL ch l g).2.1, cP c, gsP g gs, 0, ch), OKA_p h hx (by omega), fun T z V D r => ?_⟩
        have r1 : RS z g := r.1
        have rv : RV V c gs := r.2.1
        obtain ⟨T', z', V', D', e, e1, e2, e3⟩ := addW5 (D := D) (show TXr T t ch from r.2.2) r1 ok c6 rv q s hl fl
        exact ⟨T', z', V', D', e, e1, e2, TXr_0 e3 ch⟩
  · refine ⟨-5, _, OKA_m h, fun T z V D r => ?_⟩
    exact ⟨_, _, _, _, addW5_bad (show TXr T t ch from r.2.2) q, r⟩
theorem gwordA {K c t : Nat} {g : GS} {gs : Nat → GS} {ch : Nat → Nat} (h : OKA K (g, c, gs, t, ch)) : ∃ a A', OKA (K + 1) A' ∧ ∀ T z V, RC T z V (g, c, gs, t, ch) → ∃ T' z' V', f_X5_guessWord T z V = some (a, T', z', V') ∧ RC T' z' V' A' := by
  have ok : okG g := h.1.1
  have c6 : c ≤ 6 := h.2.1
  have t80 : t ≤ 80 := h.2.2.2
  by_cases q : errN ch t t 0 0 = -6
  · obtain ⟨l, hl⟩ := WL_ex (show t < 2147483648 by omega) t 0 (by omega) q
    cases l with
    | nil => exact absurd hl (fun x => x)
    | cons w l =>
      cases l with
      | cons v l =>
        refine ⟨-5, _, OKA_m h, fun T z V r => ?_⟩
        obtain ⟨T', e, tx⟩ := gword5_many (z := z) (V := V) (show TXr T t ch from r.2.2) q hl
        exact ⟨_, _, _, e, r.1, r.2.1, tx⟩
      | nil =>
        obtain ⟨p, e9⟩ := w
        have hp : p = 0 := hl.1
        have he : e9 = t := hl.2.1
        subst hp he
        by_cases s : G_st g = 1
        · by_cases le : e9 = G_len g
          · obtain ⟨cand, hcand⟩ : ∃ cand : Bool, cand = true ↔ inL g (dW ch (0, e9)) ∧ bt (G_cd g) (gPos g (dW ch (0, e9))) = true := by
              by_cases y : inL g (dW ch (0, e9)) ∧ bt (G_cd g) (gPos g (dW ch (0, e9))) = true
              · exact ⟨true, fun _ => y, fun _ => rfl⟩
              · exact ⟨false, fun x => absurd x (by decide), fun x => absurd x y⟩
            have ow : okw (dW ch (0, e9)) (e9 - 0) := (WL_w hl (w := (0, e9)) (List.mem_singleton.mpr rfl)).1
            have ow2 : okw (dW ch (0, e9)) (G_len g) := by
              rw [← le]; exact ow
            refine ⟨if cand = true ∧ bc (G_cd g) 31 = 1 then 1 else 0, (gWord g (dW ch (0, e9)) cand, cP c, gsP g gs, 0, ch), OKA_p h (okX_word h.1 s ow2 hcand) (by omega), fun T z V r => ?_⟩
            have r1 : RS z g := r.1
            have rv : RV V c gs := r.2.1
            obtain ⟨T', z', V', e, e1, e2, e3⟩ := gword5 (show TXr T e9 ch from r.2.2) r1 ok c6 rv q hl s le hcand
            exact ⟨T', z', V', e, e1, e2, TXr_0 e3 ch⟩
          · refine ⟨-3, _, OKA_m h, fun T z V r => ?_⟩
            have r1 : RS z g := r.1
            obtain ⟨T', e, tx⟩ := gword5_len (V := V) (show TXr T e9 ch from r.2.2) r1 ok q hl s le
            exact ⟨_, _, _, e, r.1, r.2.1, tx⟩
        · refine ⟨-3, _, OKA_m h, fun T z V r => ?_⟩
          have r1 : RS z g := r.1
          obtain ⟨T', e, tx⟩ := gword5_no (V := V) (show TXr T e9 ch from r.2.2) r1 ok q hl s
          exact ⟨_, _, _, e, r.1, r.2.1, tx⟩
  · refine ⟨-5, _, OKA_m h, fun T z V r => ?_⟩
    exact ⟨_, _, _, gword5_bad (show TXr T t ch from r.2.2) q, r⟩
/-! the other calls -/
theorem remA {K c t : Nat} {g : GS} {gs : Nat → GS} {ch : Nat → Nat} (h : OKA K (g, c, gs, t, ch)) {j : Nat} (hj : j < G_n g) : ∃ a A', OKA (K + 1) A' ∧ ∀ T z V, RC T z V (g, c, gs, t, ch) → ∃ z' V', f_X5_removeWord z V (nI j) = some (a, z', V') ∧ RC T z' V' A' := by
  have ok : okG g := h.1.1
  have c6 : c ≤ 6 := h.2.1
  by_cases s : G_st g = 1
  · refine ⟨-3, _, OKA_m h, fun T z V r => ?_⟩
    have r1 : RS z g := r.1
    exact ⟨_, _, rem5_no r1 ok hj s, r⟩
  · refine ⟨nI (G_n g - 1), (gRem (gEnd g) j, cP c, gsP g gs, t, ch), OKA_p h (okX_mono (okX_rem h.1 hj) (Nat.le_succ K)) h.2.2.2, fun T z V r => ?_⟩
    have r1 : RS z g := r.1
    have rv : RV V c gs := r.2.1
    obtain ⟨z', V', e, e1, e2⟩ := rem5 r1 ok c6 rv hj s
    exact ⟨z', V', e, e1, e2, r.2.2⟩
theorem polA {K c t : Nat} {g : GS} {gs : Nat → GS} {ch : Nat → Nat} (h : OKA K (g, c, gs, t, ch)) {j : Nat} (hj : j ≤ 2) : ∃ a A', OKA (K + 1) A' ∧ ∀ T z V, RC T z V (g, c, gs, t, ch) → ∃ z' V', f_X5_setPolicy z V (nI j) = some (a, z', V') ∧ RC T z' V' A' := by
  have ok : okG g := h.1.1
  have c6 : c ≤ 6 := h.2.1
  refine ⟨nI (G_pol g), (U_pol g j, cP c, gsP g gs, t, ch), OKA_p h (okX_mono (okX_pol h.1 hj) (Nat.le_succ K)) h.2.2.2, fun T z V r => ?_⟩
  have r1 : RS z g := r.1
  have rv : RV V c gs := r.2.1
  obtain ⟨z', V', e, e1, e2⟩ := pol5 r1 ok c6 rv hj
  exact ⟨z', V', e, e1, e2, r.2.2⟩
theorem giveA {K c t : Nat} {g : GS} {gs : Nat → GS} {ch : Nat → Nat} (h : OKA K (g, c, gs, t, ch)) : ∃ a A', OKA (K + 1) A' ∧ ∀ T z V, RC T z V (g, c, gs, t, ch) → ∃ z' V', f_X5_giveUp z V = some (a, z', V') ∧ RC T z' V' A' := by
  have ok : okG g := h.1.1
  have c6 : c ≤ 6 := h.2.1
  by_cases s : G_st g = 1
  · refine ⟨memA (G_cd g) 0, (gLose g, cP c, gsP g gs, t, ch), OKA_p h (okX_lose h.1 s) h.2.2.2, fun T z V r => ?_⟩
    have r1 : RS z g := r.1
    have rv : RV V c gs := r.2.1
    obtain ⟨z', V', e, e1, e2⟩ := give5 r1 ok c6 rv s
    exact ⟨z', V', e, e1, e2, r.2.2⟩
  · refine ⟨-3, _, OKA_m h, fun T z V r => ?_⟩
    have r1 : RS z g := r.1
    exact ⟨_, _, give5_no r1 ok s, r⟩
theorem undoA {K c t : Nat} {g : GS} {gs : Nat → GS} {ch : Nat → Nat} (h : OKA K (g, c, gs, t, ch)) : ∃ a A', OKA (K + 1) A' ∧ ∀ T z V, RC T z V (g, c, gs, t, ch) → ∃ z' V', f_X5_undo z V = some (a, z', V') ∧ RC T z' V' A' := by
  have c6 : c ≤ 6 := h.2.1
  cases c with
  | zero =>
    refine ⟨-3, _, OKA_m h, fun T z V r => ?_⟩
    have rv : RV V 0 gs := r.2.1
    exact ⟨_, _, undo5_no rv, r⟩
  | succ d =>
    have hs : ∀ j, j < d + 1 → okX K (gs j) := h.2.2.1
    refine ⟨nI d, (gs 0, d, fun j => gs (j + 1), t, ch), OKA_m ⟨hs 0 (by omega), by show d ≤ 6; omega, fun j hj => hs (j + 1) (by have hj : j < d := hj; omega), h.2.2.2⟩, fun T z V r => ?_⟩
    have rv : RV V (d + 1) gs := r.2.1
    obtain ⟨z', V', e, e1, e2⟩ := undo5 (z := z) (by omega) (hs 0 (by omega)).1 rv
    exact ⟨z', V', e, e1, e2, r.2.2⟩
theorem startA {K c t : Nat} {g : GS} {gs : Nat → GS} {ch : Nat → Nat} (h : OKA K (g, c, gs, t, ch)) {l v : Nat} (hl : 2 ≤ l ∧ l ≤ 8) (hv : 1 ≤ v ∧ v ≤ 20) : ∃ a A', OKA (K + 1) A' ∧ ∀ T z V, RC T z V (g, c, gs, t, ch) → ∃ z' V', f_X5_start z V (nI l) (nI v) = some (a, z', V') ∧ RC T z' V' A' := by
  have ok : okG g := h.1.1
  have c6 : c ≤ 6 := h.2.1
  by_cases s : wl g l = 0
  · refine ⟨-3, _, OKA_m h, fun T z V r => ?_⟩
    have r1 : RS z g := r.1
    refine ⟨_, _, ?_, r⟩
    rw [start5_in hl hv r1 ok, if_pos s]
  · refine ⟨nI (bc (wl g l) 31), (gStart g l v, cP c, gsP g gs, t, ch), OKA_p h (okX_start h.1 hl hv s) h.2.2.2, fun T z V r => ?_⟩
    have r1 : RS z g := r.1
    have rv : RV V c gs := r.2.1
    obtain ⟨z', V', e, e1, e2⟩ := start5 hl hv r1 ok c6 rv s
    exact ⟨z', V', e, e1, e2, r.2.2⟩
theorem guessA {K c t : Nat} {g : GS} {gs : Nat → GS} {ch : Nat → Nat} (h : OKA K (g, c, gs, t, ch)) {b : Nat} (hb : b < 26) : ∃ a A', OKA (K + 1) A' ∧ ∀ T z V F, RC T z V (g, c, gs, t, ch) → ∃ z' V' F', f_X5_guess z V F (nI (97 + b)) = some (a, z', V', F') ∧ RC T z' V' A' := by
  have ok : okG g := h.1.1
  have c6 : c ≤ 6 := h.2.1
  by_cases s : G_st g = 1
  · by_cases y : bt (G_gs g) b = true
    · refine ⟨-6, _, OKA_m h, fun T z V F r => ?_⟩
      have r1 : RS z g := r.1
      exact ⟨_, _, _, guess5_none r1 ok s hb y F, r⟩
    · have y0 : bt (G_gs g) b = false := by cases x : bt (G_gs g) b; rfl; exact absurd x y
      refine ⟨nI (kp (gF g b) (gV g b)), (gGuess g b, cP c, gsP g gs, t, ch), OKA_p h (okX_guess h.1 s hb y0) h.2.2.2, fun T z V F r => ?_⟩
      have r1 : RS z g := r.1
      have rv : RV V c gs := r.2.1
      obtain ⟨z', V', F', e, e1, e2⟩ := guess5 r1 ok c6 rv s hb y0 F
      exact ⟨z', V', F', e, e1, e2, r.2.2⟩
  · refine ⟨-3, _, OKA_m h, fun T z V F r => ?_⟩
    have r1 : RS z g := r.1
    exact ⟨_, _, _, guess5_no r1 ok s hb F, r⟩
