/-! ===== stage B: numbers, loops, letters ===== -/
theorem ob {α β : Type} (a : α) (f : α → Option β) : Option.bind (some a) f = f a := rfl
theorem x_lt {a b : Nat} (ha : a < 2147483648) (hb : b < 2147483648) : (nI a < nI b) = (a < b) := propext (nI_ltI ha hb)
theorem x_le {a b : Nat} (ha : a < 2147483648) (hb : b < 2147483648) : (nI a ≤ nI b) = (a ≤ b) := propext (nI_leI ha hb)
theorem x_eq {a b : Nat} (ha : a < 2147483648) (hb : b < 2147483648) : (nI a = nI b) = (a = b) := propext (nI_eq ha hb)
theorem x_neg {a : Nat} (ha : a < 2147483648) : (nI a < 0) = False := eq_false (nI_pos ha)
theorem x_z {a : Nat} (ha : a < 2147483648) : (nI a = 0) = (a = 0) := by rw [show (0 : Int32) = nI 0 from rfl, x_eq ha (by omega)]
theorem x_p {a : Nat} (ha : a < 2147483648) : (0 < nI a) = (0 < a) := by rw [show (0 : Int32) = nI 0 from rfl, x_lt (by omega) ha]
theorem i_lt {α : Type} {a b : Nat} {t f : α} (ha : a < 2147483648) (hb : b < 2147483648) : (if nI a < nI b then t else f) = if a < b then t else f := by simp only [x_lt ha hb]
theorem i_eq {α : Type} {a b : Nat} {t f : α} (ha : a < 2147483648) (hb : b < 2147483648) : (if nI a = nI b then t else f) = if a = b then t else f := by simp only [x_eq ha hb]
theorem i_z {α : Type} {a : Nat} {t f : α} (ha : a < 2147483648) : (if nI a = 0 then t else f) = if a = 0 then t else f := by simp only [x_z ha]
theorem i_p {α : Type} {a : Nat} {t f : α} (ha : a < 2147483648) : (if 0 < nI a then t else f) = if 0 < a then t else f := by simp only [x_p ha]
theorem i_n {α : Type} {a : Nat} {t f : α} (ha : a < 2147483648) : (if nI a < 0 then t else f) = f := if_neg (nI_pos ha)
theorem x_cl {a : Nat} (ha : a < 2147483648) : (nI a).toNatClampNeg = a := nI_clamp ha
theorem x_in {i n : Nat} (h : i < n) (hn : n < 2147483648) : inB (nI i) n = true := by
  unfold inB
  exact decide_eq_true (vp_in_nI h hn)
theorem getA_n {α β : Type} {f : Nat → α} {n i : Nat} {k : α → Option β} (h : i < n) (hn : n < 2147483648) : getA f n (nI i) k = k (f i) := by
  unfold getA
  rw [if_pos (x_in h hn), x_cl (by omega)]
theorem chkA_n {β : Type} {n i : Nat} {k : Option β} (h : i < n) (hn : n < 2147483648) : chkA n (nI i) k = k := by
  unfold chkA
  rw [if_pos (x_in h hn)]
theorem getA_in {α β : Type} {f : Nat → α} {n : Nat} {i : Int32} {k : α → Option β} (h : vp_in i n) : getA f n i k = k (f i.toNatClampNeg) := by
  unfold vp_in at h
  unfold getA inB
  rw [if_pos (decide_eq_true h)]
theorem x_m1 (n : Nat) : nI (n + 1) + (-1) = nI n := pk_m1 n
theorem x_s1 (n : Nat) : nI (n + 1) - 1 = nI n := nI_pred n
theorem x_a1 (n : Nat) : nI n + 1 = nI (n + 1) := nI_1 n
theorem neg_or (x : Int32) : x < 0 ∨ ∃ j : Nat, j < 2147483648 ∧ x = nI j := by
  by_cases h : x < 0
  · exact Or.inl h
  · exact Or.inr (nI_of h)
theorem neg_lt {x : Int32} (h : x < 0) {a : Nat} (ha : a < 2147483648) : x < nI a := by
  rw [fa_lt] at h ⊢
  rw [nI_toInt ha]
  have : (0 : Int32).toInt = 0 := rfl
  omega
theorem neg_ne {x : Int32} (h : x < 0) {a : Nat} (ha : a < 2147483648) : ¬ x = nI a := fun q => by rw [q, x_neg ha] at h; exact h
theorem neg_nlt {x : Int32} (h : x < 0) {a : Nat} (ha : a < 2147483648) : ¬ nI a < x := by
  rw [fa_lt] at h ⊢
  rw [nI_toInt ha]
  have : (0 : Int32).toInt = 0 := rfl
  omega
/-! loops by invariants -/
section LOOPS
variable {α1 α2 α3 α4 α5 α6 α7 γ : Type}
theorem run1 {step : (α1 → Option γ) → α1 → Option γ} (I : Nat → α1 → Prop) (P : Option γ → Prop) (n : Nat) (hs : ∀ j a1, j < n → I j a1 → ∃ b1, I (j + 1) b1 ∧ ∀ re, step re a1 = re b1) (hx : ∀ a1, I n a1 → ∀ re, P (step re a1)) : ∀ N a1, n < N → I 0 a1 → P (loop1 step N a1) := by
  have key : ∀ d j, j + d = n → ∀ N a1, d < N → I j a1 → P (loop1 step N a1) := by
    intro d
    induction d with
    | zero =>
      intro j hj N a1 hN h
      obtain ⟨M, rfl⟩ : ∃ M, N = M + 1 := ⟨N - 1, by omega⟩
      rw [Nat.add_zero] at hj
      subst hj
      exact hx a1 h _
    | succ d ih =>
      intro j hj N a1 hN h
      obtain ⟨M, rfl⟩ : ∃ M, N = M + 1 := ⟨N - 1, by omega⟩
      obtain ⟨b1, hb, e⟩ := hs j a1 (by omega) h
      show P (step (loop1 step M) a1)
      rw [e]
      exact ih (j + 1) (by omega) M b1 (by omega) hb
  intro N a1 hN h
  exact key n 0 (by omega) N a1 hN h
theorem run2 {step : (α1 → α2 → Option γ) → α1 → α2 → Option γ} (I : Nat → α1 → α2 → Prop) (P : Option γ → Prop) (n : Nat) (hs : ∀ j a1 a2, j < n → I j a1 a2 → ∃ b1 b2, I (j + 1) b1 b2 ∧ ∀ re, step re a1 a2 = re b1 b2) (hx : ∀ a1 a2, I n a1 a2 → ∀ re, P (step re a1 a2)) : ∀ N a1 a2, n < N → I 0 a1 a2 → P (loop2 step N a1 a2) := by
  have key : ∀ d j, j + d = n → ∀ N a1 a2, d < N → I j a1 a2 → P (loop2 step N a1 a2) := by
    intro d
    induction d with
    | zero =>
      intro j hj N a1 a2 hN h
      obtain ⟨M, rfl⟩ : ∃ M, N = M + 1 := ⟨N - 1, by omega⟩
      rw [Nat.add_zero] at hj
      subst hj
      exact hx a1 a2 h _
    | succ d ih =>
      intro j hj N a1 a2 hN h
      obtain ⟨M, rfl⟩ : ∃ M, N = M + 1 := ⟨N - 1, by omega⟩
      obtain ⟨b1, b2, hb, e⟩ := hs j a1 a2 (by omega) h
      show P (step (loop2 step M) a1 a2)
      rw [e]
      exact ih (j + 1) (by omega) M b1 b2 (by omega) hb
  intro N a1 a2 hN h
  exact key n 0 (by omega) N a1 a2 hN h
theorem run3 {step : (α1 → α2 → α3 → Option γ) → α1 → α2 → α3 → Option γ} (I : Nat → α1 → α2 → α3 → Prop) (P : Option γ → Prop) (n : Nat) (hs : ∀ j a1 a2 a3, j < n → I j a1 a2 a3 → ∃ b1 b2 b3, I (j + 1) b1 b2 b3 ∧ ∀ re, step re a1 a2 a3 = re b1 b2 b3) (hx : ∀ a1 a2 a3, I n a1 a2 a3 → ∀ re, P (step re a1 a2 a3)) : ∀ N a1 a2 a3, n < N → I 0 a1 a2 a3 → P (loop3 step N a1 a2 a3) := by
  have key : ∀ d j, j + d = n → ∀ N a1 a2 a3, d < N → I j a1 a2 a3 → P (loop3 step N a1 a2 a3) := by
    intro d
    induction d with
    | zero =>
      intro j hj N a1 a2 a3 hN h
      obtain ⟨M, rfl⟩ : ∃ M, N = M + 1 := ⟨N - 1, by omega⟩
      rw [Nat.add_zero] at hj
      subst hj
      exact hx a1 a2 a3 h _
    | succ d ih =>
      intro j hj N a1 a2 a3 hN h
      obtain ⟨M, rfl⟩ : ∃ M, N = M + 1 := ⟨N - 1, by omega⟩
      obtain ⟨b1, b2, b3, hb, e⟩ := hs j a1 a2 a3 (by omega) h
      show P (step (loop3 step M) a1 a2 a3)
      rw [e]
      exact ih (j + 1) (by omega) M b1 b2 b3 (by omega) hb
  intro N a1 a2 a3 hN h
  exact key n 0 (by omega) N a1 a2 a3 hN h
theorem run4 {step : (α1 → α2 → α3 → α4 → Option γ) → α1 → α2 → α3 → α4 → Option γ} (I : Nat → α1 → α2 → α3 → α4 → Prop) (P : Option γ → Prop) (n : Nat) (hs : ∀ j a1 a2 a3 a4, j < n → I j a1 a2 a3 a4 → ∃ b1 b2 b3 b4, I (j + 1) b1 b2 b3 b4 ∧ ∀ re, step re a1 a2 a3 a4 = re b1 b2 b3 b4) (hx : ∀ a1 a2 a3 a4, I n a1 a2 a3 a4 → ∀ re, P (step re a1 a2 a3 a4)) : ∀ N a1 a2 a3 a4, n < N → I 0 a1 a2 a3 a4 → P (loop4 step N a1 a2 a3 a4) := by
  have key : ∀ d j, j + d = n → ∀ N a1 a2 a3 a4, d < N → I j a1 a2 a3 a4 → P (loop4 step N a1 a2 a3 a4) := by
    intro d
    induction d with
    | zero =>
      intro j hj N a1 a2 a3 a4 hN h
      obtain ⟨M, rfl⟩ : ∃ M, N = M + 1 := ⟨N - 1, by omega⟩
      rw [Nat.add_zero] at hj
      subst hj
      exact hx a1 a2 a3 a4 h _
    | succ d ih =>
      intro j hj N a1 a2 a3 a4 hN h
      obtain ⟨M, rfl⟩ : ∃ M, N = M + 1 := ⟨N - 1, by omega⟩
      obtain ⟨b1, b2, b3, b4, hb, e⟩ := hs j a1 a2 a3 a4 (by omega) h
      show P (step (loop4 step M) a1 a2 a3 a4)
      rw [e]
      exact ih (j + 1) (by omega) M b1 b2 b3 b4 (by omega) hb
  intro N a1 a2 a3 a4 hN h
  exact key n 0 (by omega) N a1 a2 a3 a4 hN h
theorem run5 {step : (α1 → α2 → α3 → α4 → α5 → Option γ) → α1 → α2 → α3 → α4 → α5 → Option γ} (I : Nat → α1 → α2 → α3 → α4 → α5 → Prop) (P : Option γ → Prop) (n : Nat) (hs : ∀ j a1 a2 a3 a4 a5, j < n → I j a1 a2 a3 a4 a5 → ∃ b1 b2 b3 b4 b5, I (j + 1) b1 b2 b3 b4 b5 ∧ ∀ re, step re a1 a2 a3 a4 a5 = re b1 b2 b3 b4 b5) (hx : ∀ a1 a2 a3 a4 a5, I n a1 a2 a3 a4 a5 → ∀ re, P (step re a1 a2 a3 a4 a5)) : ∀ N a1 a2 a3 a4 a5, n < N → I 0 a1 a2 a3 a4 a5 → P (loop5 step N a1 a2 a3 a4 a5) := by
  have key : ∀ d j, j + d = n → ∀ N a1 a2 a3 a4 a5, d < N → I j a1 a2 a3 a4 a5 → P (loop5 step N a1 a2 a3 a4 a5) := by
    intro d
    induction d with
    | zero =>
      intro j hj N a1 a2 a3 a4 a5 hN h
      obtain ⟨M, rfl⟩ : ∃ M, N = M + 1 := ⟨N - 1, by omega⟩
      rw [Nat.add_zero] at hj
      subst hj
      exact hx a1 a2 a3 a4 a5 h _
    | succ d ih =>
      intro j hj N a1 a2 a3 a4 a5 hN h
      obtain ⟨M, rfl⟩ : ∃ M, N = M + 1 := ⟨N - 1, by omega⟩
      obtain ⟨b1, b2, b3, b4, b5, hb, e⟩ := hs j a1 a2 a3 a4 a5 (by omega) h
      show P (step (loop5 step M) a1 a2 a3 a4 a5)
      rw [e]
      exact ih (j + 1) (by omega) M b1 b2 b3 b4 b5 (by omega) hb
  intro N a1 a2 a3 a4 a5 hN h
  exact key n 0 (by omega) N a1 a2 a3 a4 a5 hN h
end LOOPS
theorem FU_gt {n : Nat} (h : n < 4096) : n < FU := h
/-- an accumulator over the numbers below j -/
def acc {α : Type} (f : Nat → α → α) (a : α) : Nat → α
  | 0 => a
  | n + 1 => f n (acc f a n)
theorem acc_cong {α : Type} {f g : Nat → α → α} {a : α} : ∀ {n : Nat}, (∀ k x, k < n → f k x = g k x) → acc f a n = acc g a n
  | 0, _ => rfl
  | n + 1, h => by
    show f n (acc f a n) = g n (acc g a n)
    rw [acc_cong (fun k x hk => h k x (by omega)), h n _ (by omega)]
theorem acc_id {α : Type} {f : Nat → α → α} {a : α} {m : Nat} : ∀ {n : Nat}, m ≤ n → (∀ k x, m ≤ k → k < n → f k x = x) → acc f a n = acc f a m
  | 0, h, _ => by rw [show m = 0 by omega]
  | n + 1, h, e => by
    rcases Nat.lt_or_ge n m with q | q
    · rw [show m = n + 1 by omega]
    · show f n (acc f a n) = _
      rw [e n _ q (by omega)]
      exact acc_id q (fun k x h1 h2 => e k x h1 (by omega))
/-! letters: 0 is none, 1 to 26 are a to z -/
def ltr (d : Nat) : Int32 := if d = 0 then 0 else nI (96 + d)
def dg (c : Int32) : Nat := if c = 0 then 0 else c.toNatClampNeg - 96
theorem ltr_dg {d : Nat} (h : d < 1000) : dg (ltr d) = d := by
  unfold dg ltr
  by_cases h0 : d = 0
  · subst h0; rfl
  · rw [if_neg h0, if_neg (by rw [x_z (by omega)]; omega), x_cl (by omega)]
    omega
theorem ltr_0 {d : Nat} (h : d < 1000) : (ltr d = 0) = (d = 0) := by
  unfold ltr
  by_cases h0 : d = 0
  · rw [if_pos h0]; simp [h0]
  · rw [if_neg h0, x_z (by omega)]
    exact propext ⟨fun q => by omega, fun q => absurd q h0⟩
theorem ltr_inj {a b : Nat} (ha : a < 1000) (hb : b < 1000) (h : ltr a = ltr b) : a = b := by rw [← ltr_dg ha, h, ltr_dg hb]
theorem ltr_nI {d : Nat} (h : d ≠ 0) : ltr d = nI (96 + d) := if_neg h
theorem isLetter5 {a : Nat} (h : a < 2147483648) : f_X5_isLetter (nI a) = some (if 97 ≤ a ∧ a ≤ 122 then 1 else 0) := by
  unfold f_X5_isLetter
  rw [show (97 : Int32) = nI 97 from rfl, show (123 : Int32) = nI 123 from rfl, i_lt h (by omega), i_lt h (by omega)]
  by_cases h1 : a < 97
  · rw [if_pos h1, if_neg (by omega)]
  · by_cases h2 : a < 123
    · rw [if_neg h1, if_pos h2, if_pos (by omega)]
    · rw [if_neg h1, if_neg h2, if_neg (by omega)]
theorem isLetter5_neg {x : Int32} (h : x < 0) : f_X5_isLetter x = some 0 := by
  unfold f_X5_isLetter
  rw [show (97 : Int32) = nI 97 from rfl, if_pos (neg_lt h (a := 97) (by omega))]
/-! a word as a number: five bits a letter -/
def encN (d : Nat → Nat) : Nat := d 0 * 34359738368 + d 1 * 1073741824 + d 2 * 33554432 + d 3 * 1048576 + d 4 * 32768 + d 5 * 1024 + d 6 * 32 + d 7
theorem encN_lt {d : Nat → Nat} (h : ∀ k, k < 8 → d k < 32) : encN d < 1099511627776 := by
  have := h 0 (by omega); have := h 1 (by omega); have := h 2 (by omega); have := h 3 (by omega); have := h 4 (by omega); have := h 5 (by omega); have := h 6 (by omega); have := h 7 (by omega)
  unfold encN
  omega
def pw (k : Nat) : Nat := match k with
  | 0 => 34359738368 | 1 => 1073741824 | 2 => 33554432 | 3 => 1048576 | 4 => 32768 | 5 => 1024 | 6 => 32 | _ => 1
theorem k8 {P : Nat → Prop} (h0 : P 0) (h1 : P 1) (h2 : P 2) (h3 : P 3) (h4 : P 4) (h5 : P 5) (h6 : P 6) (h7 : P 7) {k : Nat} (hk : k < 8) : P k := by
  rcases (show k = 0 ∨ k = 1 ∨ k = 2 ∨ k = 3 ∨ k = 4 ∨ k = 5 ∨ k = 6 ∨ k = 7 by omega) with rfl | rfl | rfl | rfl | rfl | rfl | rfl | rfl <;> assumption
theorem encN_dig {d : Nat → Nat} (h : ∀ k, k < 8 → d k < 32) {k : Nat} (hk : k < 8) : encN d / pw k % 32 = d k := by
  have h0 := h 0 (by omega); have h1 := h 1 (by omega); have h2 := h 2 (by omega); have h3 := h 3 (by omega); have h4 := h 4 (by omega); have h5 := h 5 (by omega); have h6 := h 6 (by omega); have h7 := h 7 (by omega)
  unfold encN
  refine k8 (P := fun k => (d 0 * 34359738368 + d 1 * 1073741824 + d 2 * 33554432 + d 3 * 1048576 + d 4 * 32768 + d 5 * 1024 + d 6 * 32 + d 7) / pw k % 32 = d k) ?_ ?_ ?_ ?_ ?_ ?_ ?_ ?_ hk <;> (show _ / _ % 32 = _) <;> simp only [pw] <;> omega
theorem encN_inj {d e : Nat → Nat} (hd : ∀ k, k < 8 → d k < 32) (he : ∀ k, k < 8 → e k < 32) (h : encN d = encN e) : ∀ k, k < 8 → d k = e k := fun k hk => by rw [← encN_dig hd hk, h, encN_dig he hk]
theorem encN_cong {d e : Nat → Nat} (h : ∀ k, k < 8 → d k = e k) : encN d = encN e := by
  unfold encN
  rw [h 0 (by omega), h 1 (by omega), h 2 (by omega), h 3 (by omega), h 4 (by omega), h 5 (by omega), h 6 (by omega), h 7 (by omega)]
/-- the order of the numbers is that of the alphabet -/
theorem encN_less {d e : Nat → Nat} (hd : ∀ k, k < 8 → d k < 32) (he : ∀ k, k < 8 → e k < 32) {k : Nat} (hk : k < 8) (hs : ∀ j, j < k → d j = e j) (hl : d k < e k) : encN d < encN e := by
  have h0 := hd 0 (by omega); have h1 := hd 1 (by omega); have h2 := hd 2 (by omega); have h3 := hd 3 (by omega); have h4 := hd 4 (by omega); have h5 := hd 5 (by omega); have h6 := hd 6 (by omega); have h7 := hd 7 (by omega)
  have g0 := he 0 (by omega); have g1 := he 1 (by omega); have g2 := he 2 (by omega); have g3 := he 3 (by omega); have g4 := he 4 (by omega); have g5 := he 5 (by omega); have g6 := he 6 (by omega); have g7 := he 7 (by omega)
  unfold encN
  rcases (show k = 0 ∨ k = 1 ∨ k = 2 ∨ k = 3 ∨ k = 4 ∨ k = 5 ∨ k = 6 ∨ k = 7 by omega) with rfl | rfl | rfl | rfl | rfl | rfl | rfl | rfl
  · omega
  · have := hs 0 (by omega); omega
  · have := hs 0 (by omega); have := hs 1 (by omega); omega
  · have := hs 0 (by omega); have := hs 1 (by omega); have := hs 2 (by omega); omega
  · have := hs 0 (by omega); have := hs 1 (by omega); have := hs 2 (by omega); have := hs 3 (by omega); omega
  · have := hs 0 (by omega); have := hs 1 (by omega); have := hs 2 (by omega); have := hs 3 (by omega); have := hs 4 (by omega); omega
  · have := hs 0 (by omega); have := hs 1 (by omega); have := hs 2 (by omega); have := hs 3 (by omega); have := hs 4 (by omega); have := hs 5 (by omega); omega
  · have := hs 0 (by omega); have := hs 1 (by omega); have := hs 2 (by omega); have := hs 3 (by omega); have := hs 4 (by omega); have := hs 5 (by omega); have := hs 6 (by omega); omega
theorem letterAt_n {X : Nat} (hX : X < 1099511627776) {k : Nat} (hk : k < 8) : f_X4_letterAt (lN X) (nI k) = some (ltr (X / pw k % 32)) := by
  unfold f_X4_letterAt
  rw [if_neg (nI_pos (by omega)), show (8 : Int32) = nI 8 from rfl, if_pos (by rw [x_lt (by omega) (by omega)]; exact hk)]
  show lett _ _ = _
  unfold lett
  have key : ∀ D : Int64, ∀ t : Nat, (D.toBitVec.smod 64).toNat = t → 2 ^ t = pw k → (if ((lN X >>> D).toInt32 &&& 31) = 0 then some (0 : Int32) else some (96 + ((lN X >>> D).toInt32 &&& 31))) = some (ltr (X / pw k % 32)) := by
    intro D t hD ht
    rw [pf_shr hD (by omega), lN_i, ht, show (31 : Int32) = nI (2 ^ 5 - 1) from rfl, fa_mask]
    have hm : X / pw k % 2 ^ 5 < 32 := Nat.mod_lt _ (by decide)
    show (if nI (X / pw k % 32) = 0 then some (0 : Int32) else some (96 + nI (X / pw k % 32))) = _
    rw [i_z (by omega), show (96 : Int32) = nI 96 from rfl, nI_add]
    unfold ltr
    by_cases h0 : X / pw k % 32 = 0
    · rw [if_pos h0, if_pos h0]
    · rw [if_neg h0, if_neg h0]
  rcases (show k = 0 ∨ k = 1 ∨ k = 2 ∨ k = 3 ∨ k = 4 ∨ k = 5 ∨ k = 6 ∨ k = 7 by omega) with rfl | rfl | rfl | rfl | rfl | rfl | rfl | rfl
  · exact key _ 35 (by decide) (by decide)
  · exact key _ 30 (by decide) (by decide)
  · exact key _ 25 (by decide) (by decide)
  · exact key _ 20 (by decide) (by decide)
  · exact key _ 15 (by decide) (by decide)
  · exact key _ 10 (by decide) (by decide)
  · exact key _ 5 (by decide) (by decide)
  · exact key _ 0 (by decide) (by decide)
theorem letterAt_e {d : Nat → Nat} (h : ∀ k, k < 8 → d k < 32) {k : Nat} (hk : k < 8) : f_X4_letterAt (lN (encN d)) (nI k) = some (ltr (d k)) := by
  rw [letterAt_n (encN_lt h) hk, encN_dig h hk]
theorem letterAt_out (x : Int64) {k : Nat} (h : 8 ≤ k) (hk : k < 2147483648) : f_X4_letterAt x (nI k) = some 0 := by
  unfold f_X4_letterAt
  rw [if_neg (nI_pos hk), show (8 : Int32) = nI 8 from rfl, if_neg (by rw [x_lt hk (by omega)]; omega)]
theorem letterAt_neg (x : Int64) {k : Int32} (h : k < 0) : f_X4_letterAt x k = some 0 := by
  unfold f_X4_letterAt
  rw [if_pos h]
theorem withLetter_e {d : Nat → Nat} (h : ∀ k, k < 8 → d k < 32) {k c : Nat} (hk : k < 8) (h0 : d k = 0) (hc : c < 27) (hc0 : c ≠ 0) : f_X4_withLetter (lN (encN d)) (nI k) (nI (96 + c)) = some (lN (encN (fun j => if j = k then c else d j))) := by
  unfold f_X4_withLetter
  rw [if_neg (nI_pos (by omega)), show (8 : Int32) = nI 8 from rfl, if_pos (by rw [x_lt (by omega) (by omega)]; exact hk), isLetter5 (by omega), if_pos (by omega)]
  rw [ob, if_neg (by decide)]
  show some _ = _
  congr 1
  have e1 : (nI (96 + c) - 96).toInt64 = lN c := by
    rw [show (96 : Int32) = nI 96 from rfl, pk_sub (by omega), show 96 + c - 96 = c by omega, nI_l (by omega)]
  rw [e1]
  have h0 := h 0 (by omega); have h1 := h 1 (by omega); have h2 := h 2 (by omega); have h3 := h 3 (by omega); have h4 := h 4 (by omega); have h5 := h 5 (by omega); have h6 := h 6 (by omega); have h7 := h 7 (by omega)
  have key : ∀ D : Int64, ∀ t hi lo : Nat, D.toBitVec.smod 64 = BitVec.ofNat 64 t → t < 64 → encN d = 2 ^ t * (32 * hi) + lo → lo < 2 ^ t → encN (fun j => if j = k then c else d j) = 2 ^ t * (32 * hi + c) + lo → lN (encN d) ||| (lN c <<< D) = lN (encN (fun j => if j = k then c else d j)) := by
    intro D t hi lo hD ht64 he hlo he2
    rw [g_shl (p := 2 ^ t) hD ht64 rfl (by omega), fb_orL, he, he2]
    congr 1
    apply Nat.eq_of_testBit_eq
    intro i
    rw [Nat.testBit_or, Nat.mul_comm c]
    rw [Nat.testBit_two_pow_mul_add _ hlo, Nat.testBit_two_pow_mul_add _ hlo, Nat.testBit_two_pow_mul]
    by_cases hi9 : i < t
    · simp [hi9, Nat.not_le.mpr hi9]
    · simp only [hi9, if_false, ge_iff_le, Nat.not_lt.mp hi9, decide_true, Bool.true_and]
      rw [show (32 : Nat) = 2 ^ 5 from rfl, Nat.testBit_two_pow_mul_add _ (show c < 2 ^ 5 by omega), Nat.testBit_two_pow_mul]
      by_cases h5 : i - t < 5
      · simp [h5, Nat.not_le.mpr h5]
      · simp only [h5, if_false, ge_iff_le, Nat.not_lt.mp h5, decide_true, Bool.true_and]
        rw [Nat.testBit_lt_two_pow (x := c) (Nat.lt_of_lt_of_le (show c < 2 ^ 5 by omega) (Nat.pow_le_pow_right (by omega) (by omega))), Bool.or_false]
  rcases (show k = 0 ∨ k = 1 ∨ k = 2 ∨ k = 3 ∨ k = 4 ∨ k = 5 ∨ k = 6 ∨ k = 7 by omega) with rfl | rfl | rfl | rfl | rfl | rfl | rfl | rfl
  · exact key _ 35 0 (d 1 * 1073741824 + d 2 * 33554432 + d 3 * 1048576 + d 4 * 32768 + d 5 * 1024 + d 6 * 32 + d 7) (by decide) (by decide) (by unfold encN; omega) (by omega) (by unfold encN; simp only [if_true]; simp; omega)
  · exact key _ 30 (d 0) (d 2 * 33554432 + d 3 * 1048576 + d 4 * 32768 + d 5 * 1024 + d 6 * 32 + d 7) (by decide) (by decide) (by unfold encN; omega) (by omega) (by unfold encN; simp; omega)
  · exact key _ 25 (d 0 * 32 + d 1) (d 3 * 1048576 + d 4 * 32768 + d 5 * 1024 + d 6 * 32 + d 7) (by decide) (by decide) (by unfold encN; omega) (by omega) (by unfold encN; simp; omega)
  · exact key _ 20 (d 0 * 1024 + d 1 * 32 + d 2) (d 4 * 32768 + d 5 * 1024 + d 6 * 32 + d 7) (by decide) (by decide) (by unfold encN; omega) (by omega) (by unfold encN; simp; omega)
  · exact key _ 15 (d 0 * 32768 + d 1 * 1024 + d 2 * 32 + d 3) (d 5 * 1024 + d 6 * 32 + d 7) (by decide) (by decide) (by unfold encN; omega) (by omega) (by unfold encN; simp; omega)
  · exact key _ 10 (d 0 * 1048576 + d 1 * 32768 + d 2 * 1024 + d 3 * 32 + d 4) (d 6 * 32 + d 7) (by decide) (by decide) (by unfold encN; omega) (by omega) (by unfold encN; simp; omega)
  · exact key _ 5 (d 0 * 33554432 + d 1 * 1048576 + d 2 * 32768 + d 3 * 1024 + d 4 * 32 + d 5) (d 7) (by decide) (by decide) (by unfold encN; omega) (by omega) (by unfold encN; simp; omega)
  · exact key _ 0 (d 0 * 1073741824 + d 1 * 33554432 + d 2 * 1048576 + d 3 * 32768 + d 4 * 1024 + d 5 * 32 + d 6) 0 (by decide) (by decide) (by unfold encN; omega) (by omega) (by unfold encN; simp; omega)
