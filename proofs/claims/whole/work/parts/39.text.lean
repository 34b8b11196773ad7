/-! ===== stage B: the text ===== -/
def isLt (x : Nat) : Prop := 97 ≤ x ∧ x ≤ 122
def TXr (T : Tx) (M : Md) (t : Nat) (ch : Nat → Nat) : Prop := T_length T = nI t ∧ t ≤ 80 ∧ M_typed M = nI t ∧ ∀ k, k < t → T_signs T k = nI (ch k) ∧ M_text M k = nI (ch k) ∧ 33 ≤ ch k ∧ ch k ≤ 126
def TX (T : Tx) (M : Md) : Prop := ∃ t ch, TXr T M t ch
def errN (ch : Nat → Nat) (t : Nat) : Nat → Nat → Nat → Int32
  | 0, v1, _ => if v1 < 2 then nI t else -6
  | d + 1, v1, v2 =>
    if ch v2 = 44 then (if v1 < 2 then nI v2 else errN ch t d 0 (v2 + 1))
    else if 97 ≤ ch v2 ∧ ch v2 ≤ 122 then (if v1 < 8 then errN ch t d (v1 + 1) (v2 + 1) else nI v2)
    else nI v2
section TEXT
variable {T : Tx} {M : Md} {t : Nat} {ch : Nat → Nat}
theorem sign3 (h : TXr T M t ch) {k : Nat} (hk : k < t) : f_X3_signAt T (nI k) = some (nI (ch k)) := by
  have := h.2.1
  unfold f_X3_signAt
  rw [i_n (by omega), show (80 : Int32) = nI 80 from rfl, i_lt (by omega) (by omega), if_pos (by omega), getA_n (by omega) (by omega), (h.2.2.2 k hk).1]
theorem err3 (h : TXr T M t ch) : ∀ d v1 v2 N, v2 + d = t → v1 ≤ 8 → d < N → loop2 (f_X3_firstError_L4 T) N (nI v1) (nI v2) = some (errN ch t d v1 v2)
  | 0, v1, v2, N, he, hv, hN => by
    have := h.2.1
    obtain ⟨m, rfl⟩ : ∃ m, N = m + 1 := ⟨N - 1, by omega⟩
    show f_X3_firstError_L4 T (loop2 (f_X3_firstError_L4 T) m) (nI v1) (nI v2) = _
    unfold f_X3_firstError_L4 f_X3_firstError_J61 errN
    rw [h.1, i_lt (by omega) (by omega), if_neg (by omega), show (2 : Int32) = nI 2 from rfl, i_lt (by omega) (by omega)]
    by_cases q : v1 < 2
    · rw [if_pos q, if_pos q]
    · rw [if_neg q, if_neg q]
  | d + 1, v1, v2, N, he, hv, hN => by
    have := h.2.1
    obtain ⟨m, rfl⟩ : ∃ m, N = m + 1 := ⟨N - 1, by omega⟩
    have hc := h.2.2.2 v2 (by omega)
    show f_X3_firstError_L4 T (loop2 (f_X3_firstError_L4 T) m) (nI v1) (nI v2) = _
    generalize hre : loop2 (f_X3_firstError_L4 T) m = re
    unfold f_X3_firstError_L4 f_X3_firstError_J34 errN
    have b2 : ∀ {α : Type} (t f : α), (if nI v1 < 2 then t else f) = if v1 < 2 then t else f := fun t f => i_lt (b := 2) (by omega) (by omega)
    have b8 : ∀ {α : Type} (t f : α), (if nI v1 < 8 then t else f) = if v1 < 8 then t else f := fun t f => i_lt (b := 8) (by omega) (by omega)
    have b44 : ∀ {α : Type} (t f : α), (if nI (ch v2) = 44 then t else f) = if ch v2 = 44 then t else f := fun t f => i_eq (b := 44) (by omega) (by omega)
    rw [h.1, i_lt (by omega) (by omega), if_pos (by omega), sign3 h (by omega), ob, b44, b2, isLetter5 (by omega), ob, b8, lt_, lt_, lt_, x_a1, x_a1]
    by_cases q : ch v2 = 44
    · rw [if_pos q, if_pos q]
      by_cases w : v1 < 2
      · rw [if_pos w, if_pos w, if_neg (show ¬ (97 ≤ ch v2 ∧ ch v2 ≤ 122) by omega), if_pos rfl]
      · rw [if_neg w, if_neg w]
        rw [← hre]; exact err3 h d 0 (v2 + 1) m (by omega) (by omega) (by omega)
    · rw [if_neg q, if_neg q]
      by_cases u : 97 ≤ ch v2 ∧ ch v2 ≤ 122
      · rw [if_pos u, if_pos u, if_neg (show ¬ (1 : Int32) = 0 by decide)]
        by_cases w : v1 < 8
        · rw [if_pos w, if_pos w]
          rw [← hre]; exact err3 h d (v1 + 1) (v2 + 1) m (by omega) (by omega) (by omega)
        · rw [if_neg w, if_neg w]
      · rw [if_neg u, if_neg u, if_pos rfl]
theorem err6 (h : TXr T M t ch) : ∀ d v1 v2 N, v2 + d = t → v1 ≤ 8 → d < N → loop2 (f_X6_error_L4 M) N (nI v1) (nI v2) = some (errN ch t d v1 v2)
  | 0, v1, v2, N, he, hv, hN => by
    have := h.2.1
    obtain ⟨m, rfl⟩ : ∃ m, N = m + 1 := ⟨N - 1, by omega⟩
    show f_X6_error_L4 M (loop2 (f_X6_error_L4 M) m) (nI v1) (nI v2) = _
    unfold f_X6_error_L4 f_X6_error_J71 errN
    rw [h.2.2.1, i_lt (by omega) (by omega), if_neg (by omega), show (2 : Int32) = nI 2 from rfl, i_lt (by omega) (by omega)]
    by_cases q : v1 < 2
    · rw [if_pos q, if_pos q]
    · rw [if_neg q, if_neg q]
  | d + 1, v1, v2, N, he, hv, hN => by
    have := h.2.1
    obtain ⟨m, rfl⟩ : ∃ m, N = m + 1 := ⟨N - 1, by omega⟩
    have hc := h.2.2.2 v2 (by omega)
    show f_X6_error_L4 M (loop2 (f_X6_error_L4 M) m) (nI v1) (nI v2) = _
    generalize hre : loop2 (f_X6_error_L4 M) m = re
    unfold f_X6_error_L4 f_X6_error_J53 errN
    have b2 : ∀ {α : Type} (t f : α), (if nI v1 < 2 then t else f) = if v1 < 2 then t else f := fun t f => i_lt (b := 2) (by omega) (by omega)
    have b8 : ∀ {α : Type} (t f : α), (if nI v1 = 8 then t else f) = if v1 = 8 then t else f := fun t f => i_eq (b := 8) (by omega) (by omega)
    have b44 : ∀ {α : Type} (t f : α), (if nI (ch v2) = 44 then t else f) = if ch v2 = 44 then t else f := fun t f => i_eq (b := 44) (by omega) (by omega)
    rw [h.2.2.1, i_lt (by omega) (by omega), if_pos (by omega), getA_n (by omega) (by omega), hc.2.1, isLetter6, isLetter5 (by omega), ob, getA_n (by omega) (by omega), hc.2.1, b44, b2, b8, lt_, lt_, lt_, x_a1, x_a1]
    by_cases u : 97 ≤ ch v2 ∧ ch v2 ≤ 122
    · rw [if_pos u, if_neg (show ¬ (1 : Int32) = 0 by decide), if_neg (show ¬ (1 : Int32) = 0 by decide), if_neg (show ¬ ch v2 = 44 by omega), if_pos u]
      by_cases w : v1 = 8
      · rw [if_pos w, if_neg (show ¬ v1 < 8 by omega)]
      · rw [if_neg w, if_pos (show v1 < 8 by omega)]
        rw [← hre]; exact err6 h d (v1 + 1) (v2 + 1) m (by omega) (by omega) (by omega)
    · rw [if_neg u, if_pos rfl, if_pos rfl]
      by_cases q : ch v2 = 44
      · rw [if_pos q, if_pos q]
        by_cases w : v1 < 2
        · rw [if_pos w, if_pos w]
        · rw [if_neg w, if_neg w]
          rw [← hre]; exact err6 h d 0 (v2 + 1) m (by omega) (by omega) (by omega)
      · rw [if_neg q, if_neg q, if_neg u]
theorem first3 (h : TXr T M t ch) : f_X3_firstError T = some (errN ch t t 0 0) := err3 h t 0 0 FU (by omega) (by omega) (FU_gt (by have := h.2.1; omega))
theorem first6 (h : TXr T M t ch) : f_X6_error M = some (errN ch t t 0 0) := err6 h t 0 0 FU (by omega) (by omega) (FU_gt (by have := h.2.1; omega))
theorem type56 (h : TX T M) (p : Int32) : ∃ a T' M', f_X5_type T p = some (a, T') ∧ f_X6_type M p = some (a, M') ∧ TX T' M' ∧ ∀ z V, RX z V M → RX z V M' := by
  obtain ⟨t, ch, h⟩ := h
  have h8 := h.2.1
  unfold f_X5_type f_X6_type
  rcases neg_or p with hp | ⟨j, hj, rfl⟩
  · have a1 : f_X6_in p 33 126 = some 0 := in_neg hp (lo := 33) (by omega) 126
    rw [if_pos (show p < 33 from neg_lt hp (a := 33) (by omega)), a1, ob, if_pos rfl]
    exact ⟨_, _, _, rfl, rfl, ⟨t, ch, h⟩, fun _ _ x => x⟩
  · have a1 : f_X6_in (nI j) 33 126 = some (if 33 ≤ j ∧ j ≤ 126 then 1 else 0) := in_n hj (lo := 33) (hi := 126) (by omega) (by omega)
    have b1 : ∀ {α : Type} (t f : α), (if nI j < 33 then t else f) = if j < 33 then t else f := fun t f => i_lt (b := 33) hj (by omega)
    have b2 : ∀ {α : Type} (t f : α), (if 126 < nI j then t else f) = if 126 < j then t else f := fun t f => i_lt (a := 126) (by omega) hj
    rw [a1, ob, b1, b2]
    by_cases c1 : j < 33
    · rw [if_pos c1, if_neg (show ¬ (33 ≤ j ∧ j ≤ 126) by omega), if_pos rfl]
      exact ⟨_, _, _, rfl, rfl, ⟨t, ch, h⟩, fun _ _ x => x⟩
    · rw [if_neg c1]
      by_cases c2 : 126 < j
      · rw [if_pos c2, if_neg (show ¬ (33 ≤ j ∧ j ≤ 126) by omega), if_pos rfl]
        exact ⟨_, _, _, rfl, rfl, ⟨t, ch, h⟩, fun _ _ x => x⟩
      · rw [if_neg c2, if_pos (show 33 ≤ j ∧ j ≤ 126 by omega), if_neg (show ¬ (1 : Int32) = 0 by decide)]
        have en : vp_nar .char (((nI j).toUInt32 % 65536).toInt32) = nI j := by
          have : ∀ j : Fin 127, vp_nar .char (((nI j.val).toUInt32 % 65536).toInt32) = nI j.val := by decide +kernel
          exact this ⟨j, by omega⟩
        unfold f_X3_append
        rw [h.1, i_n (by omega), show (80 : Int32) = nI 80 from rfl, i_lt (by omega) (by omega), h.2.2.1, i_eq (by omega) (by omega)]
        by_cases c3 : t < 80
        · rw [if_pos c3, if_neg (show ¬ t = 80 by omega), chkA_n c3 (by omega), chkA_n c3 (by omega), lt_, lt_, lt_, lt_, ob, if_neg (show ¬ (1 : Int32) = 0 by decide), x_cl (by omega), en]
          refine ⟨nI (t + 1), T_length_set (T_signs_set T (upd (T_signs T) t (nI j))) (T_length T + 1), M_typed_set (M_text_set M (upd (M_text M) t (nI j))) (M_typed M + 1), ?_, ?_, ⟨t + 1, fun k => if k = t then j else ch k, ?_, by omega, ?_, fun k hk => ?_⟩, fun z V x => x⟩
          · show some (T_length T + 1, T_length_set (T_signs_set T (upd (T_signs T) t (nI j))) (T_length T + 1)) = _
            rw [h.1, x_a1]
          · show some (M_typed M + 1, M_typed_set (M_text_set M (upd (M_text M) t (nI j))) (M_typed M + 1)) = _
            rw [h.2.2.1, x_a1]
          · show T_length T + 1 = _
            rw [h.1, x_a1]
          · show M_typed M + 1 = _
            rw [h.2.2.1, x_a1]
          · show upd (T_signs T) t (nI j) k = nI (if k = t then j else ch k) ∧ upd (M_text M) t (nI j) k = nI (if k = t then j else ch k) ∧ 33 ≤ (if k = t then j else ch k) ∧ (if k = t then j else ch k) ≤ 126
            by_cases u : k = t
            · rw [u, upd_e, upd_e, if_pos rfl]
              exact ⟨rfl, rfl, by omega, by omega⟩
            · rw [upd_n u, upd_n u, if_neg u]
              exact h.2.2.2 k (by omega)
        · rw [if_neg c3, if_pos (show t = 80 by omega), ob, if_pos rfl]
          exact ⟨_, _, _, rfl, rfl, ⟨t, ch, h⟩, fun _ _ x => x⟩
theorem clear56 (h : TX T M) : ∃ a T' M', f_X5_clearText T = some (a, T') ∧ f_X6_clearText M = some (a, M') ∧ TX T' M' ∧ ∀ z V, RX z V M → RX z V M' := by
  obtain ⟨t, ch, h⟩ := h
  unfold f_X5_clearText f_X6_clearText f_X3_empty
  rw [lt_, lt_, lt_, lt_, ob, h.1, h.2.2.1]
  exact ⟨_, _, _, rfl, rfl, ⟨0, ch, rfl, by omega, rfl, fun k hk => absurd hk (Nat.not_lt_zero _)⟩, fun z V x => x⟩
end TEXT
