/-! ===== stage B: the text ===== -/
def isLt_ (x : Nat) : Prop := 97 ≤ x ∧ x ≤ 122
/-- the text that the class holds -/
def TXr (T : Tx) (t : Nat) (ch : Nat → Nat) : Prop := T_length T = nI t ∧ t ≤ 80 ∧ True ∧ ∀ k, k < t → T_signs T k = nI (ch k) ∧ True ∧ 33 ≤ ch k ∧ ch k ≤ 126
def isLt (x : Nat) : Prop := 97 ≤ x ∧ x ≤ 122
def errN (ch : Nat → Nat) (t : Nat) : Nat → Nat → Nat → Int32
  | 0, v1, _ => if v1 < 2 then nI t else -6
  | d + 1, v1, v2 =>
    if ch v2 = 44 then (if v1 < 2 then nI v2 else errN ch t d 0 (v2 + 1))
    else if 97 ≤ ch v2 ∧ ch v2 ≤ 122 then (if v1 < 8 then errN ch t d (v1 + 1) (v2 + 1) else nI v2)
    else nI v2
section TEXT
variable {T : Tx} {t : Nat} {ch : Nat → Nat}
theorem sign3 (h : TXr T t ch) {k : Nat} (hk : k < t) : f_X3_signAt T (nI k) = some (nI (ch k)) := by
  have := h.2.1
  unfold f_X3_signAt
  rw [i_n (by omega), show (80 : Int32) = nI 80 from rfl, i_lt (by omega) (by omega), if_pos (by omega), getA_n (by omega) (by omega), (h.2.2.2 k hk).1]
theorem err3 (h : TXr T t ch) : ∀ d v1 v2 N, v2 + d = t → v1 ≤ 8 → d < N → loop2 (f_X3_firstError_L4 T) N (nI v1) (nI v2) = some (errN ch t d v1 v2)
  | 0, v1, v2, N, he, hv, hN => by
    have := h.2.1
    obtain ⟨m, rfl⟩ : ∃ m, N = m + 1 := ⟨N - 1, by omega⟩
    show f_X3_firstError_L4 T (loop2 (f_X3_firstError_L4 T) m) (nI v1) (nI v2) = _
    unfold f_X3_firstError_L4 f_X3_firstError_J61 errN
    rw [h.1, i_lt (by omega) (by omega), if_neg (by omega), show (2 : Int32) = nI 2 from rfl, i_lt (by omega) (by omega)]
    by_cases q : v1 < 2
    · rw [if_pos q, if_pos q]
    · rw [if_neg q, if_neg q]
  | d + 1, v1, v2, N, he, hv, hN => by
    have := h.2.1
    obtain ⟨m, rfl⟩ : ∃ m, N = m + 1 := ⟨N - 1, by omega⟩
    have hc := h.2.2.2 v2 (by omega)
    show f_X3_firstError_L4 T (loop2 (f_X3_firstError_L4 T) m) (nI v1) (nI v2) = _
    generalize hre : loop2 (f_X3_firstError_L4 T) m = re
    unfold f_X3_firstError_L4 f_X3_firstError_J34 errN
    have b2 : ∀ {α : Type} (t f : α), (if nI v1 < 2 then t else f) = if v1 < 2 then t else f := fun t f => i_lt (b := 2) (by omega) (by omega)
    have b8 : ∀ {α : Type} (t f : α), (if nI v1 < 8 then t else f) = if v1 < 8 then t else f := fun t f => i_lt (b := 8) (by omega) (by omega)
    have b44 : ∀ {α : Type} (t f : α), (if nI (ch v2) = 44 then t else f) = if ch v2 = 44 then t else f := fun t f => i_eq (b := 44) (by omega) (by omega)
    rw [h.1, i_lt (by omega) (by omega), if_pos (by omega), sign3 h (by omega), ob, b44, b2, isLetter5 (by omega), ob, b8, lt_, lt_, lt_, x_a1, x_a1]
    by_cases q : ch v2 = 44
    · rw [if_pos q, if_pos q]
      by_cases w : v1 < 2
      · rw [if_pos w, if_pos w, if_neg (show ¬ (97 ≤ ch v2 ∧ ch v2 ≤ 122) by omega), if_pos rfl]
      · rw [if_neg w, if_neg w]
        rw [← hre]; exact err3 h d 0 (v2 + 1) m (by omega) (by omega) (by omega)
    · rw [if_neg q, if_neg q]
      by_cases u : 97 ≤ ch v2 ∧ ch v2 ≤ 122
      · rw [if_pos u, if_pos u, if_neg (show ¬ (1 : Int32) = 0 by decide)]
        by_cases w : v1 < 8
        · rw [if_pos w, if_pos w]
          rw [← hre]; exact err3 h d (v1 + 1) (v2 + 1) m (by omega) (by omega) (by omega)
        · rw [if_neg w, if_neg w]
      · rw [if_neg u, if_neg u, if_pos rfl]
theorem first3 (h : TXr T t ch) : f_X3_firstError T = some (errN ch t t 0 0) := err3 h t 0 0 FU (by omega) (by omega) (FU_gt (by have := h.2.1; omega))
end TEXT
