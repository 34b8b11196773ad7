/-! ===== stage B: the reference finds and puts a word of the text ===== -/
theorem sub_lt {a b : Nat} (ha : a < 1000) (hb : b < 1000) : (nI a - nI b < 0 ↔ a < b) ∧ (nI a - nI b = 0 ↔ a = b) := by
  have e : (nI a - nI b).toInt = (a : Int) - b := by
    rw [fb_subI (by rw [nI_toInt (by omega), nI_toInt (by omega)]; omega) (by rw [nI_toInt (by omega), nI_toInt (by omega)]; omega), nI_toInt (by omega), nI_toInt (by omega)]
  constructor
  · rw [fa_lt, e]
    show (a : Int) - b < 0 ↔ _
    omega
  · constructor
    · intro h
      rw [h] at e
      have e : (0 : Int) = (a : Int) - b := e
      omega
    · intro h
      subst h
      apply Int32.toInt_inj.mp
      rw [e]
      show (a : Int) - a = 0
      omega
section PUT
variable {T : Tx} {g : GS} {t a e : Nat} {ch : Nat → Nat}
/-- a word of the text -/
def TWd (ch : Nat → Nat) (t a e : Nat) : Prop := a ≤ e ∧ e ≤ t ∧ 2 ≤ e - a ∧ e - a ≤ 8 ∧ ∀ k, a ≤ k → k < e → 97 ≤ ch k ∧ ch k ≤ 122
theorem tw_ok (h : TWd ch t a e) : okw (dW ch (a, e)) (e - a) := dW_ok h.2.2.1 h.2.2.2.1 h.2.2.2.2
theorem tw_in (h : TWd ch t a e) {k : Nat} (hk : k < e - a) : dW ch (a, e) k = ch (a + k) - 96 := if_pos (by show a + k < e; omega)
theorem tw_out (h : TWd ch t a e) {k : Nat} (hk : e - a ≤ k) : dW ch (a, e) k = 0 := if_neg (by show ¬ a + k < e; omega)
theorem ea (h : TWd ch t a e) (ht : t ≤ 80) : nI e - nI a = nI (e - a) := pk_sub h.1
end PUT
