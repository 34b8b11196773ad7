/-! ===== stage B: bits, counts of bits ===== -/
theorem bt_nI (n i : Nat) (hi : i < 32) : bt (nI n) i = n.testBit i := by
  show (BitVec.ofNat 32 n).getLsbD i = _
  rw [BitVec.getLsbD_ofNat]
  simp [hi]
theorem bt_1 (i : Nat) (hi : i < 32) : bt 1 i = decide (i = 0) := by
  revert i
  decide +kernel
theorem bt_p (j i : Nat) (hj : j < 32) (hi : i < 32) : bt ((1 : Int32) <<< (nI j &&& 31)) i = decide (i = j) := by
  rw [b_shl j hj 1 hi, bt_1 _ (by omega)]
  by_cases h : j ≤ i
  · by_cases h2 : i = j
    · subst h2; simp
    · simp only [h, decide_true, Bool.true_and, h2, decide_false, decide_eq_false_iff_not]; omega
  · have : i ≠ j := by omega
    simp [h, this]
theorem bt_not (x : Int32) (i : Nat) (hi : i < 32) : bt (x ^^^ (-1)) i = !bt x i := by rw [b_xor, b_m1 i hi, Bool.xor_true]
theorem sh_bit (x : Int32) (j : Nat) (hj : j < 32) : ((x >>> (nI j &&& 31)) &&& 1) = if bt x j = true then 1 else 0 := by
  apply b_ext
  intro i hi
  rw [b_and, b_sshr j hj x hi, bt_1 i hi]
  by_cases h0 : i = 0
  · subst h0
    simp only [Nat.add_zero, hj, if_true, decide_true, Bool.and_true]
    cases h : bt x j
    · simp [b_0]
    · simp only [if_true]; exact (bt_1 0 (by omega)).symm
  · simp only [h0, decide_false, Bool.and_false]
    cases h : bt x j
    · simp [b_0]
    · simp only [if_true]; rw [bt_1 i hi]; simp [h0]
theorem and_bit (x : Int32) (j : Nat) (hj : j < 32) : (x &&& ((1 : Int32) <<< (nI j &&& 31)) = 0) ↔ bt x j = false := by
  constructor
  · intro h
    have := congrArg (fun z => bt z j) h
    simp only [b_and, bt_p j j hj hj, b_0, decide_true, Bool.and_true] at this
    exact this
  · intro h
    apply b_ext
    intro i hi
    rw [b_and, bt_p j i hj hi, b_0]
    by_cases h2 : i = j
    · subst h2; simp [h]
    · simp [h2]
theorem bt_nn {x : Int32} (h : bt x 31 = false) : ¬ x < 0 := by
  obtain ⟨n, hn, rfl⟩ := wb_of32 x
  rw [bt_nI n 31 (by omega)] at h
  have h2 : n < 2147483648 := by
    rcases Nat.lt_or_ge n 2147483648 with q | q
    · exact q
    · exfalso
      have : n.testBit 31 = true := by
        rw [Nat.testBit_eq_decide_div_mod_eq]
        simp only [decide_eq_true_eq]
        omega
      rw [this] at h; cases h
  exact nI_pos h2
/-- the number of bits below n -/
abbrev bc (x : Int32) (n : Nat) : Nat := fb_ct (bt x) n
theorem land_split (k : Nat) {a m : Nat} (ha : a < 2 ^ k) (hm : m < 2 ^ k) (A M : Nat) : (2 ^ k * A + a) &&& (2 ^ k * M + m) = 2 ^ k * (A &&& M) + (a &&& m) := by
  have h3 : a &&& m < 2 ^ k := Nat.lt_of_le_of_lt Nat.and_le_left ha
  apply Nat.eq_of_testBit_eq
  intro i
  rw [Nat.testBit_and, Nat.testBit_two_pow_mul_add _ ha, Nat.testBit_two_pow_mul_add _ hm, Nat.testBit_two_pow_mul_add _ h3]
  by_cases h : i < k
  · simp [h]
  · simp [h]
def mk8 (c : Nat) : Nat → Nat
  | 0 => 0
  | n + 1 => 256 * mk8 c n + c
def sA (n N : Nat) : Nat := N - ((N / 2) &&& mk8 85 n)
def sB (n N : Nat) : Nat := (N &&& mk8 51 n) + ((N / 4) &&& mk8 51 n)
def sC (n N : Nat) : Nat := (N + N / 16) &&& mk8 15 n
theorem sA_s (n : Nat) {x : Nat} (hx : x < 256) (M : Nat) : sA (n + 1) (256 * M + x) = 256 * sA n M + sA 1 x := by
  unfold sA
  have f : ∀ x, x < 256 → ∀ e, e < 2 → ((x / 2 + 128 * e) &&& 85) = ((x / 2) &&& 85) := by decide +kernel
  have e1 : (256 * M + x) / 2 = 2 ^ 8 * (M / 2) + (x / 2 + 128 * (M % 2)) := by omega
  have l1 : (M / 2) &&& mk8 85 n ≤ M := Nat.le_trans Nat.and_le_left (by omega)
  have l2 : (x / 2) &&& 85 ≤ x := Nat.le_trans Nat.and_le_left (by omega)
  rw [e1, show mk8 85 (n + 1) = 2 ^ 8 * mk8 85 n + 85 from rfl, land_split 8 (by omega) (by decide), f x hx _ (by omega), show mk8 85 1 = 85 from rfl]
  omega
theorem sB_s (n : Nat) {x : Nat} (hx : x < 256) (M : Nat) : sB (n + 1) (256 * M + x) = 256 * sB n M + sB 1 x := by
  unfold sB
  have f : ∀ x, x < 256 → ∀ e, e < 4 → ((x / 4 + 64 * e) &&& 51) = ((x / 4) &&& 51) := by decide +kernel
  have e1 : (256 * M + x) / 4 = 2 ^ 8 * (M / 4) + (x / 4 + 64 * (M % 4)) := by omega
  have q1 : ((256 * M + x) / 4) &&& mk8 51 (n + 1) = 256 * ((M / 4) &&& mk8 51 n) + ((x / 4) &&& 51) := by
    rw [e1, show mk8 51 (n + 1) = 2 ^ 8 * mk8 51 n + 51 from rfl, land_split 8 (by omega) (by decide), f x hx _ (by omega)]
  have q2 : (256 * M + x) &&& mk8 51 (n + 1) = 256 * (M &&& mk8 51 n) + (x &&& 51) := by
    rw [show mk8 51 (n + 1) = 2 ^ 8 * mk8 51 n + 51 from rfl, show 256 * M + x = 2 ^ 8 * M + x from rfl, land_split 8 hx (by decide)]
  rw [q1, q2, show mk8 51 1 = 51 from rfl]
  omega
theorem sC_s (n : Nat) {x : Nat} (hx : x ≤ 68) (M : Nat) (hM : M % 16 ≤ 4) : sC (n + 1) (256 * M + x) = 256 * sC n M + sC 1 x := by
  unfold sC
  have f : ∀ x, x < 69 → ∀ e, e < 5 → ((x + x / 16 + 16 * e) &&& 15) = ((x + x / 16) &&& 15) := by decide +kernel
  have e1 : 256 * M + x + (256 * M + x) / 16 = 2 ^ 8 * (M + M / 16) + (x + x / 16 + 16 * (M % 16)) := by omega
  rw [e1, show mk8 15 (n + 1) = 2 ^ 8 * mk8 15 n + 15 from rfl, land_split 8 (by omega) (by decide), f x (by omega) _ (by omega), show mk8 15 1 = 15 from rfl]
def b8 (x : Nat) : Nat := sC 1 (sB 1 (sA 1 x))
theorem b8_ct : ∀ x, x < 256 → b8 x = fb_ct (fun i => x.testBit i) 8 := by decide +kernel
theorem sA_b : ∀ x, x < 256 → sA 1 x < 256 ∧ sB 1 (sA 1 x) ≤ 68 ∧ sB 1 (sA 1 x) % 16 ≤ 4 := by decide +kernel
theorem swar (N : Nat) (hN : N < 4294967296) : sC 4 (sB 4 (sA 4 N)) = b8 (N % 256) + 256 * b8 (N / 256 % 256) + 65536 * b8 (N / 65536 % 256) + 16777216 * b8 (N / 16777216) := by
  obtain ⟨x0, h0⟩ : ∃ x, x = N % 256 := ⟨_, rfl⟩
  obtain ⟨x1, h1⟩ : ∃ x, x = N / 256 % 256 := ⟨_, rfl⟩
  obtain ⟨x2, h2⟩ : ∃ x, x = N / 65536 % 256 := ⟨_, rfl⟩
  obtain ⟨x3, h3⟩ : ∃ x, x = N / 16777216 := ⟨_, rfl⟩
  rw [← h0, ← h1, ← h2, ← h3]
  have e : N = 256 * (256 * (256 * x3 + x2) + x1) + x0 := by omega
  have l0 : x0 < 256 := by omega
  have l1 : x1 < 256 := by omega
  have l2 : x2 < 256 := by omega
  have l3 : x3 < 256 := by omega
  have a0 := sA_b x0 l0; have a1 := sA_b x1 l1; have a2 := sA_b x2 l2; have a3 := sA_b x3 l3
  rw [e, sA_s 3 l0, sA_s 2 l1, sA_s 1 l2, sB_s 3 a0.1, sB_s 2 a1.1, sB_s 1 a2.1, sC_s 3 a0.2.1 _ (by omega), sC_s 2 a1.2.1 _ (by omega), sC_s 1 a2.2.1 _ (by omega)]
  unfold b8
  omega
theorem tally (a b c d : Nat) (ha : a ≤ 8) (hb : b ≤ 8) (hc : c ≤ 8) (hd : d ≤ 8) : (a + 256 * b + 65536 * c + 16777216 * d + (a + 256 * b + 65536 * c + 16777216 * d) / 2 ^ 8 + (a + 256 * b + 65536 * c + 16777216 * d + (a + 256 * b + 65536 * c + 16777216 * d) / 2 ^ 8) / 2 ^ 16) % 2 ^ 6 = a + b + c + d := by
  have e1 : (a + 256 * b + 65536 * c + 16777216 * d) / 2 ^ 8 = b + 256 * c + 65536 * d := by omega
  rw [e1]
  have e2 : (a + 256 * b + 65536 * c + 16777216 * d + (b + 256 * c + 65536 * d)) / 2 ^ 16 = c + d + 256 * d := by omega
  rw [e2]
  omega
theorem bitCount_n (N : Nat) (hN : N < 4294967296) : f_J6_bitCount_0f7a4 (nI N) = some (nI (fb_ct (fun i => N.testBit i) 32)) := by
  unfold f_J6_bitCount_0f7a4
  simp only [lett]
  have u : ∀ (n k : Nat) (s : Int32), n < 4294967296 → ((s.toUInt32 &&& Int32.toUInt32 31).toBitVec % 32).toNat = k → ((nI n).toUInt32 >>> (s.toUInt32 &&& Int32.toUInt32 31)).toInt32 = nI (n / 2 ^ k) := fun n k s hn hs => pk_ushrN hn s k hs
  have eA : nI N - ((((nI N)).toUInt32 >>> (((1 : Int32)).toUInt32 &&& Int32.toUInt32 31)).toInt32 &&& (1431655765 : Int32)) = nI (sA 4 N) := by
    rw [u N 1 1 hN (by decide), show (1431655765 : Int32) = nI (mk8 85 4) from rfl, nx_and, pk_sub (Nat.le_trans Nat.and_le_left (Nat.div_le_self _ _))]
    rfl
  have lA : sA 4 N < 4294967296 := Nat.lt_of_le_of_lt (Nat.sub_le _ _) hN
  rw [eA]
  have eB : (nI (sA 4 N) &&& (858993459 : Int32)) + ((((nI (sA 4 N))).toUInt32 >>> (((2 : Int32)).toUInt32 &&& Int32.toUInt32 31)).toInt32 &&& (858993459 : Int32)) = nI (sB 4 (sA 4 N)) := by
    rw [u _ 2 2 lA (by decide), show (858993459 : Int32) = nI (mk8 51 4) from rfl, nx_and, nx_and, nI_add]
    rfl
  have lB : sB 4 (sA 4 N) < 4294967296 := by
    have g1 : sA 4 N &&& mk8 51 4 ≤ mk8 51 4 := Nat.and_le_right
    have g2 : (sA 4 N / 4) &&& mk8 51 4 ≤ mk8 51 4 := Nat.and_le_right
    have g3 : mk8 51 4 = 858993459 := rfl
    unfold sB
    omega
  rw [eB]
  have eC : ((nI (sB 4 (sA 4 N)) + (((nI (sB 4 (sA 4 N)))).toUInt32 >>> (((4 : Int32)).toUInt32 &&& Int32.toUInt32 31)).toInt32) &&& (252645135 : Int32)) = nI (sC 4 (sB 4 (sA 4 N))) := by
    rw [u _ 4 4 lB (by decide), show (252645135 : Int32) = nI (mk8 15 4) from rfl, nI_add, nx_and]
    rfl
  rw [eC, swar N hN]
  have m : ∀ x, x < 256 → b8 x ≤ 8 := fun x hx => by rw [b8_ct x hx]; exact fb_ct_le _ 8
  have k0 := m (N % 256) (by omega); have k1 := m (N / 256 % 256) (by omega); have k2 := m (N / 65536 % 256) (by omega); have k3 := m (N / 16777216) (by omega)
  rw [u _ 8 8 (by omega) (by decide), nI_add, u _ 16 16 (by omega) (by decide), nI_add, show (63 : Int32) = nI (2 ^ 6 - 1) from rfl, fa_mask]
  congr 2
  have t : ∀ (s : Nat), (fun i => (N / 2 ^ s % 256).testBit i) = fun i => decide (i < 8) && N.testBit (s + i) := by
    intro s
    funext i
    rw [show (256 : Nat) = 2 ^ 8 from rfl, Nat.testBit_mod_two_pow, Nat.testBit_div_two_pow, Nat.add_comm]
  have w : ∀ s, b8 (N / 2 ^ s % 256) = fb_ct (fun i => N.testBit (s + i)) 8 := by
    intro s
    rw [b8_ct _ (by omega), t s]
    exact fb_ct_cong (fun k hk => by simp [hk])
  have w0 := w 0; have w1 := w 8; have w2 := w 16; have w3 := w 24
  rw [show N / 2 ^ 0 = N by simp] at w0
  rw [show (2 : Nat) ^ 8 = 256 from rfl] at w1
  rw [show (2 : Nat) ^ 16 = 65536 from rfl] at w2
  rw [show (2 : Nat) ^ 24 = 16777216 from rfl, show N / 16777216 % 256 = N / 16777216 by omega] at w3
  have sp : fb_ct (fun i => N.testBit i) 32 = fb_ct (fun i => N.testBit (0 + i)) 8 + fb_ct (fun i => N.testBit (8 + i)) 8 + fb_ct (fun i => N.testBit (16 + i)) 8 + fb_ct (fun i => N.testBit (24 + i)) 8 := by
    rw [fb_ct_split _ 24 8, fb_ct_split _ 16 8, fb_ct_split _ 8 8]
    simp only [Nat.zero_add]
  rw [sp, ← w0, ← w1, ← w2, ← w3]
  exact tally _ _ _ _ k0 k1 k2 k3
theorem bitCount5 (x : Int32) : f_J6_bitCount_0f7a4 x = some (nI (bc x 32)) := by
  obtain ⟨n, hn, rfl⟩ := wb_of32 x
  rw [bitCount_n n hn]
  congr 2
  exact fb_ct_cong (fun k hk => (bt_nI n k hk).symm)
theorem bc_top {x : Int32} (h : bt x 31 = false) : bc x 32 = bc x 31 := by
  show fb_ct (bt x) 31 + (if bt x 31 then 1 else 0) = _
  rw [h]; rfl
theorem bc_le (x : Int32) (n : Nat) : bc x n ≤ n := fb_ct_le _ _
