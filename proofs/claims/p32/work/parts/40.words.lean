/-! ===== stage B: the words of a text ===== -/
theorem err_word {ch : Nat → Nat} {t : Nat} : ∀ d v1 v2, v2 + d = t → v1 ≤ 8 → t < 2147483648 → errN ch t d v1 v2 = -6 → ∃ e, v2 ≤ e ∧ e ≤ t ∧ 2 ≤ v1 + (e - v2) ∧ v1 + (e - v2) ≤ 8 ∧ (∀ k, v2 ≤ k → k < e → 97 ≤ ch k ∧ ch k ≤ 122) ∧ (e = t ∨ (e < t ∧ ch e = 44 ∧ errN ch t (t - (e + 1)) 0 (e + 1) = -6))
  | 0, v1, v2, h, hv, ht, he => by
    unfold errN at he
    by_cases q : v1 < 2
    · rw [if_pos q] at he
      exact absurd he.symm (neg_ne (x := -6) (by decide) ht)
    · exact ⟨v2, by omega, by omega, by omega, by omega, fun k a b => by omega, Or.inl (by omega)⟩
  | d + 1, v1, v2, h, hv, ht, he => by
    unfold errN at he
    by_cases q : ch v2 = 44
    · rw [if_pos q] at he
      by_cases w : v1 < 2
      · rw [if_pos w] at he
        exact absurd he.symm (neg_ne (x := -6) (by decide) (by omega))
      · rw [if_neg w] at he
        refine ⟨v2, by omega, by omega, by omega, by omega, fun k a b => by omega, Or.inr ⟨by omega, q, ?_⟩⟩
        rw [show t - (v2 + 1) = d by omega]; exact he
    · rw [if_neg q] at he
      by_cases u : 97 ≤ ch v2 ∧ ch v2 ≤ 122
      · rw [if_pos u] at he
        by_cases w : v1 < 8
        · rw [if_pos w] at he
          obtain ⟨e, a1, a2, a3, a4, a5, a6⟩ := err_word d (v1 + 1) (v2 + 1) (by omega) (by omega) ht he
          refine ⟨e, by omega, a2, by omega, by omega, fun k b1 b2 => ?_, a6⟩
          rcases (show k = v2 ∨ v2 + 1 ≤ k by omega) with rfl | y
          · exact u
          · exact a5 k y b2
        · rw [if_neg w] at he
          exact absurd he.symm (neg_ne (x := -6) (by decide) (by omega))
      · rw [if_neg u] at he
        exact absurd he.symm (neg_ne (x := -6) (by decide) (by omega))
/-- the words of a text from p on: each from a to b -/
def WL (ch : Nat → Nat) (t : Nat) : List (Nat × Nat) → Nat → Prop
  | [], _ => False
  | [w], p => w.1 = p ∧ w.2 = t ∧ 2 ≤ w.2 - w.1 ∧ w.2 - w.1 ≤ 8 ∧ w.1 ≤ w.2 ∧ ∀ k, w.1 ≤ k → k < w.2 → 97 ≤ ch k ∧ ch k ≤ 122
  | w :: v :: l, p => w.1 = p ∧ w.2 < t ∧ 2 ≤ w.2 - w.1 ∧ w.2 - w.1 ≤ 8 ∧ w.1 ≤ w.2 ∧ (∀ k, w.1 ≤ k → k < w.2 → 97 ≤ ch k ∧ ch k ≤ 122) ∧ ch w.2 = 44 ∧ WL ch t (v :: l) (w.2 + 1)
theorem WL_ex {ch : Nat → Nat} {t : Nat} (ht : t < 2147483648) : ∀ d p, p + d = t → errN ch t d 0 p = -6 → ∃ l, WL ch t l p := by
  intro d
  induction d using Nat.strongRecOn with
  | _ d ih =>
    intro p hp he
    obtain ⟨e, a1, a2, a3, a4, a5, a6⟩ := err_word d 0 p hp (by omega) ht he
    rcases a6 with rfl | ⟨b1, b2, b3⟩
    · exact ⟨[(p, e)], rfl, rfl, by show 2 ≤ e - p; omega, by show e - p ≤ 8; omega, a1, a5⟩
    · obtain ⟨l, hl⟩ := ih (t - (e + 1)) (by omega) (e + 1) (by omega) b3
      cases l with
      | nil => exact absurd hl (fun x => x)
      | cons v l => exact ⟨(p, e) :: v :: l, rfl, b1, by show 2 ≤ e - p; omega, by show e - p ≤ 8; omega, a1, a5, b2, hl⟩
/-- the letters of a word of the text -/
def dW (ch : Nat → Nat) (w : Nat × Nat) (k : Nat) : Nat := if w.1 + k < w.2 then ch (w.1 + k) - 96 else 0
theorem dW_ok {ch : Nat → Nat} {w : Nat × Nat} (h1 : 2 ≤ w.2 - w.1) (h2 : w.2 - w.1 ≤ 8) (h3 : ∀ k, w.1 ≤ k → k < w.2 → 97 ≤ ch k ∧ ch k ≤ 122) : okw (dW ch w) (w.2 - w.1) := by
  refine ⟨h1, h2, fun k hk => ?_⟩
  unfold dW
  by_cases q : w.1 + k < w.2
  · have := h3 (w.1 + k) (by omega) q
    rw [if_pos q]
    omega
  · rw [if_neg q]
    omega
theorem WL_w {ch : Nat → Nat} {t : Nat} : ∀ {l : List (Nat × Nat)} {p : Nat} {w : Nat × Nat}, WL ch t l p → w ∈ l → okw (dW ch w) (w.2 - w.1) ∧ w.1 ≤ w.2 ∧ w.2 ≤ t ∧ ∀ k, w.1 ≤ k → k < w.2 → 97 ≤ ch k ∧ ch k ≤ 122
  | [], _, _, _, h => absurd h (List.not_mem_nil)
  | [x], p, w, h, hw => by
    obtain ⟨a1, a2, a3, a4, a5, a6⟩ := h
    rw [List.mem_singleton] at hw
    subst hw
    exact ⟨dW_ok a3 a4 a6, a5, by omega, a6⟩
  | x :: y :: l, p, w, h, hw => by
    obtain ⟨a1, a2, a3, a4, a5, a6, a7, a8⟩ := h
    rcases List.mem_cons.mp hw with rfl | q
    · exact ⟨dW_ok a3 a4 a6, a5, by omega, a6⟩
    · exact WL_w a8 q
section TW
variable {T : Tx} {t : Nat} {ch : Nat → Nat}
end TW
/-! a word's letters put one behind the other -/
theorem withLetter_any (x : Int64) {c : Nat} (hc : ¬ (97 ≤ c ∧ c ≤ 122)) (hc2 : c < 2147483648) (k : Nat) (hk : k < 8) : f_X4_withLetter x (nI k) (nI c) = some x := by
  unfold f_X4_withLetter
  rw [i_n (by omega), show (8 : Int32) = nI 8 from rfl, i_lt (by omega) (by omega), if_pos hk, isLetter5 hc2, ob, if_neg hc, if_pos rfl]
section RW
variable {T : Tx} {t : Nat} {ch : Nat → Nat}
/-- what the class reads: the words read are l, from the i-th place on -/
def RD (T' : Tx) (ch : Nat → Nat) (n : Nat) (l : List (Nat × Nat)) : Prop := ∀ i w, l[i]? = some w → T_wordsRead T' (n + i) = lN (encN (dW ch w))
theorem TW_l (z : Tx) (v : Nat → Int64) : T_length (T_wordsRead_set z v) = T_length z := rfl
theorem TW_w (z : Tx) (v : Nat → Int64) : T_wordsRead (T_wordsRead_set z v) = v := rfl
theorem TW_ww (z : Tx) (v w : Nat → Int64) : T_wordsRead_set (T_wordsRead_set z v) w = T_wordsRead_set z w := rfl
theorem TW_s (z : Tx) (v : Nat → Int64) (k : Int32) : f_X3_signAt (T_wordsRead_set z v) k = f_X3_signAt z k := rfl
theorem TW_id (z : Tx) : T_wordsRead_set z (T_wordsRead z) = z := rfl
theorem keep3 {z : Tx} {W : Nat → Int64} {n : Nat} (hn : n < 27) (x : Int64) : f_X3_keepRead (T_wordsRead_set z W) (nI n) x = some (nI (n + 1), T_wordsRead_set z (vp_updL W n x)) := by
  unfold f_X3_keepRead
  rw [i_n (by omega), show (27 : Int32) = nI 27 from rfl, i_lt (by omega) (by omega), if_pos hn, chkA_n hn (by omega), lt_, TW_w, TW_ww, x_cl (by omega), x_a1]
/-- one word read: from a + j to e -/
theorem word3 (h : TXr T t ch) {a e n : Nat} (hae : a ≤ e) (he : e ≤ t) (h8 : e - a ≤ 8) (hl : ∀ k, a ≤ k → k < e → 97 ≤ ch k ∧ ch k ≤ 122) (W : Nat → Int64) : ∀ i j X N, j + i = e - a → i < N → X = lN (encN (fun k => if k < j then dW ch (a, e) k else 0)) → ∃ N' Y, N' + i = N ∧ Y = lN (encN (dW ch (a, e))) ∧ loop5 (f_X3_readWords_L9) N (nI n) (nI j) X (nI (a + j)) (T_wordsRead_set T W) = loop5 (f_X3_readWords_L9) N' (nI n) (nI (e - a)) Y (nI e) (T_wordsRead_set T W)
  | 0, j, X, N, hj, hN, hX => by
    refine ⟨N, X, rfl, ?_, ?_⟩
    · rw [hX]
      refine congrArg lN (encN_cong (fun k hk => ?_))
      by_cases q : k < j
      · rw [if_pos q]
      · rw [if_neg q]
        unfold dW
        rw [if_neg (by show ¬ a + k < e; omega)]
    · rw [show j = e - a by omega, show a + (e - a) = e by omega]
  | i + 1, j, X, N, hj, hN, hX => by
    obtain ⟨m, rfl⟩ : ∃ m, N = m + 1 := ⟨N - 1, by omega⟩
    have t80 := h.2.1
    have hL := hl (a + j) (by omega) (by omega)
    have hd : dW ch (a, e) j = ch (a + j) - 96 := by
      unfold dW
      rw [if_pos (by show a + j < e; omega)]
    obtain ⟨Y, hY⟩ : ∃ Y, Y = lN (encN (fun k => if k < j + 1 then dW ch (a, e) k else 0)) := ⟨_, rfl⟩
    have ew : f_X4_withLetter X (nI j) (nI (ch (a + j))) = some Y := by
      rw [hX, show ch (a + j) = 96 + (ch (a + j) - 96) by omega, withLetter_e (fun k hk => ?_) (by omega) (by rw [if_neg (by omega)]) (by omega) (by omega), hY]
      · refine congrArg (fun Z => some (lN Z)) (encN_cong (fun k hk => ?_))
        by_cases q : k = j
        · rw [if_pos q, if_pos (by omega), q, hd]
        · rw [if_neg q]
          by_cases w : k < j
          · rw [if_pos w, if_pos (by omega)]
          · rw [if_neg w, if_neg (by omega)]
      · show (if k < j then dW ch (a, e) k else 0) < 32
        by_cases w : k < j
        · rw [if_pos w]
          unfold dW
          rw [if_pos (by show a + k < e; omega)]
          have := hl (a + k) (by omega) (by omega)
          show ch (a + k) - 96 < 32
          omega
        · rw [if_neg w]; omega
    obtain ⟨N', Z, c1, c2, c3⟩ := word3 h hae he h8 hl W i (j + 1) Y m (by omega) (by omega) hY
    refine ⟨N', Z, by omega, c2, ?_⟩
    rw [← c3]
    show f_X3_readWords_L9 (loop5 (f_X3_readWords_L9) m) (nI n) (nI j) X (nI (a + j)) (T_wordsRead_set T W) = _
    generalize loop5 (f_X3_readWords_L9) m = re
    unfold f_X3_readWords_L9
    rw [TW_l, h.1, i_lt (by omega) (by omega), if_pos (by omega), TW_s, sign3 h (by omega), ob, if_neg (show ¬ nI (ch (a + j)) = 44 by rw [show (44 : Int32) = nI 44 from rfl, x_eq (by omega) (by omega)]; omega), ew, ob, lt_, lt_, x_a1, x_a1]
    rfl
end RW
