/-! ===== stage B: what is spoken of: words, a game; how class and reference hold it ===== -/
theorem racc {α γ : Type} {step : (α → Int32 → Option γ) → α → Int32 → Option γ} (f : Nat → α → α) (n : Nat) (hn : n < 4096) (a0 : α) {r : Option γ} (hs : ∀ j, j < n → ∀ re, step re (acc f a0 j) (nI j) = re (acc f a0 (j + 1)) (nI (j + 1))) (hx : ∀ re, step re (acc f a0 n) (nI n) = r) : loop2 step FU a0 0 = r := by
  refine run2 (fun j a b => a = acc f a0 j ∧ b = nI j) (fun q => q = r) n ?_ ?_ FU a0 0 (FU_gt hn) ⟨rfl, rfl⟩
  · rintro j a b hj ⟨rfl, rfl⟩
    exact ⟨_, _, ⟨rfl, rfl⟩, hs j hj⟩
  · rintro a b ⟨rfl, rfl⟩ re
    exact hx re
theorem raccs {α γ : Type} {step : (Int32 → α → Option γ) → Int32 → α → Option γ} (f : Nat → α → α) (n : Nat) (hn : n < 4096) (a0 : α) {r : Option γ} (hs : ∀ j, j < n → ∀ re, step re (nI j) (acc f a0 j) = re (nI (j + 1)) (acc f a0 (j + 1))) (hx : ∀ re, step re (nI n) (acc f a0 n) = r) : loop2 step FU 0 a0 = r := by
  refine run2 (fun j b a => a = acc f a0 j ∧ b = nI j) (fun q => q = r) n ?_ ?_ FU 0 a0 (FU_gt hn) ⟨rfl, rfl⟩
  · rintro j b a hj ⟨rfl, rfl⟩
    exact ⟨_, _, ⟨rfl, rfl⟩, hs j hj⟩
  · rintro b a ⟨rfl, rfl⟩ re
    exact hx re
abbrev bit (j : Nat) : Int32 := (1 : Int32) <<< (nI j &&& 31)
def mkB (p : Nat → Bool) (n : Nat) : Int32 := acc (fun i x => if p i = true then x ||| bit i else x) 0 n
theorem bt_mkB (p : Nat → Bool) {i : Nat} (hi : i < 32) : ∀ n, n ≤ 32 → bt (mkB p n) i = (decide (i < n) && p i)
  | 0, _ => by rw [show mkB p 0 = 0 from rfl, b_0]; simp
  | n + 1, hn => by
    show bt (if p n = true then mkB p n ||| bit n else mkB p n) i = _
    have ih := bt_mkB p hi n (by omega)
    by_cases hp : p n = true
    · rw [if_pos hp, b_or, ih, bt_p n i (by omega) hi]
      by_cases h : i = n
      · subst h; simp [hp]
      · by_cases h2 : i < n
        · simp [h, h2, show i < n + 1 by omega]
        · simp [h, h2, show ¬ i < n + 1 by omega]
    · rw [if_neg hp, ih]
      by_cases h : i = n
      · subst h; simp [hp]
      · by_cases h2 : i < n
        · simp [h2, show i < n + 1 by omega]
        · simp [h2, show ¬ i < n + 1 by omega]
def msk (d : Nat → Nat) (c : Nat) : Int32 := mkB (fun k => decide (d k = c)) 8
theorem bt_msk (d : Nat → Nat) (c : Nat) {i : Nat} (hi : i < 32) : bt (msk d c) i = (decide (i < 8) && decide (d i = c)) := bt_mkB _ hi 8 (by omega)
def lb (d : Nat) : Int32 := if d = 0 then 0 else bit (d - 1)
def lts (d : Nat → Nat) : Int32 := acc (fun k x => x ||| lb (d k)) 0 8
def okd (d : Nat → Nat) : Prop := ∀ k, k < 8 → d k < 27
def okw (d : Nat → Nat) (z : Nat) : Prop := 2 ≤ z ∧ z ≤ 8 ∧ ∀ k, k < 8 → d k < 27 ∧ (d k ≠ 0 ↔ k < z)
theorem okw_d {d : Nat → Nat} {z : Nat} (h : okw d z) : okd d := fun k hk => (h.2.2 k hk).1
theorem okd_32 {d : Nat → Nat} (h : okd d) : ∀ k, k < 8 → d k < 32 := fun k hk => Nat.lt_trans (h k hk) (by omega)
theorem orz (x : Int32) : x ||| 0 = x := b_ext (fun i _ => by rw [b_or, b_0, Bool.or_false])
theorem andm (x : Int32) : x &&& (-1) = x := b_ext (fun i hi => by rw [b_and, b_m1 i hi, Bool.and_true])
theorem bt_lb {d : Nat} (hd : d < 27) {i : Nat} (hi : i < 32) : bt (lb d) i = decide (d = i + 1) := by
  unfold lb
  by_cases h : d = 0
  · rw [if_pos h, b_0]; simp; omega
  · rw [if_neg h, bt_p _ i (by omega) hi]
    by_cases h2 : d = i + 1
    · simp [h2]
    · rw [decide_eq_false h2, decide_eq_false (by omega)]
theorem bt_lts {d : Nat → Nat} (hd : okd d) {i : Nat} (hi : i < 32) : bt (lts d) i = true ↔ ∃ k, k < 8 ∧ d k = i + 1 := by
  have key : ∀ n, n ≤ 8 → (bt (acc (fun k x => x ||| lb (d k)) 0 n) i = true ↔ ∃ k, k < n ∧ d k = i + 1) := by
    intro n
    induction n with
    | zero =>
      intro _
      rw [show acc (fun k x => x ||| lb (d k)) 0 0 = (0 : Int32) from rfl, b_0]
      constructor
      · intro h; cases h
      · rintro ⟨k, hk, _⟩; omega
    | succ n ih =>
      intro hn
      rw [show acc (fun k x => x ||| lb (d k)) 0 (n + 1) = acc (fun k x => x ||| lb (d k)) 0 n ||| lb (d n) from rfl, b_or, bt_lb (hd n (by omega)) hi, Bool.or_eq_true, ih (by omega), decide_eq_true_eq]
      constructor
      · rintro (⟨k, hk, e⟩ | e)
        · exact ⟨k, by omega, e⟩
        · exact ⟨n, by omega, e⟩
      · rintro ⟨k, hk, e⟩
        rcases (show k < n ∨ k = n by omega) with h | rfl
        · exact Or.inl ⟨k, h, e⟩
        · exact Or.inr e
  exact key 8 (by omega)
theorem lts_hi {d : Nat → Nat} (hd : okd d) {i : Nat} (hi : 26 ≤ i) : bt (lts d) i = false := by
  rcases Nat.lt_or_ge i 32 with h | h
  · cases e : bt (lts d) i
    · rfl
    · obtain ⟨k, hk, q⟩ := (bt_lts hd h).mp e
      have := hd k hk
      omega
  · exact b_big h
theorem msk_hi (d : Nat → Nat) (c : Nat) {i : Nat} (hi : 8 ≤ i) : bt (msk d c) i = false := by
  rcases Nat.lt_or_ge i 32 with h | h
  · rw [bt_msk d c h, decide_eq_false (by omega), Bool.false_and]
  · exact b_big h
/-! the class's words -/
theorem bitOf5 {c : Nat} (hc : c < 26) : f_X5_bitOf (nI (97 + c)) = some (bit c) := by
  unfold f_X5_bitOf
  rw [isLetter5 (by omega), if_pos (by omega), ob, if_neg (by decide), show (97 : Int32) = nI 97 from rfl, pk_sub (by omega), show 97 + c - 97 = c by omega]
theorem bitOf5_l {d : Nat} (hd : d < 27) : f_X5_bitOf (ltr d) = some (lb d) := by
  unfold ltr lb
  by_cases h : d = 0
  · rw [if_pos h, if_pos h]; rfl
  · rw [if_neg h, if_neg h, show 96 + d = 97 + (d - 1) by omega, bitOf5 (by omega)]
theorem maskOf4 {d : Nat → Nat} (hd : okd d) {c : Nat} (hc : c < 26) : f_X4_maskOf (lN (encN d)) (nI (97 + c)) = some (msk d (c + 1)) := by
  unfold f_X4_maskOf
  refine racc (fun i x => if decide (d i = c + 1) = true then x ||| bit i else x) 8 (by omega) 0 ?_ ?_
  · intro j hj re
    show _ = re (if decide (d j = c + 1) = true then _ ||| bit j else _) _
    generalize acc _ _ j = x
    unfold f_X4_maskOf_L5 lett
    rw [show (8 : Int32) = nI 8 from rfl, i_lt (by omega) (by omega), if_pos hj, letterAt_e (okd_32 hd) hj, ob, x_a1]
    have e : (ltr (d j) = nI (97 + c)) = (d j = c + 1) := by
      rw [show nI (97 + c) = ltr (c + 1) by rw [ltr_nI (by omega), show 96 + (c + 1) = 97 + c by omega]]
      exact propext ⟨fun h => ltr_inj (by have := hd j hj; omega) (by omega) h, fun h => by rw [h]⟩
    by_cases h : d j = c + 1
    · rw [if_pos (by rw [e]; exact h), if_pos (decide_eq_true h)]
    · rw [if_neg (by rw [e]; exact h), if_neg (by simp [h])]
  · intro re
    unfold f_X4_maskOf_L5
    rw [show (8 : Int32) = nI 8 from rfl, i_lt (by omega) (by omega), if_neg (by omega)]
    rfl
theorem lettersOf4 {d : Nat → Nat} (hd : okd d) : f_X4_lettersOf (lN (encN d)) = some (lts d) := by
  unfold f_X4_lettersOf
  refine racc (fun k x => x ||| lb (d k)) 8 (by omega) 0 ?_ ?_
  · intro j hj re
    show _ = re (_ ||| lb (d j)) _
    generalize acc _ _ j = x
    unfold f_X4_lettersOf_L4 lett
    rw [show (8 : Int32) = nI 8 from rfl, i_lt (by omega) (by omega), if_pos hj, letterAt_e (okd_32 hd) hj, ob, bitOf5_l (hd j hj), ob, x_a1]
  · intro re
    unfold f_X4_lettersOf_L4
    rw [show (8 : Int32) = nI 8 from rfl, i_lt (by omega) (by omega), if_neg (by omega)]
    rfl
def szN (d : Nat → Nat) : Nat := fb_ct (fun k => decide (d k ≠ 0)) 8
theorem lengthOf4 {d : Nat → Nat} (hd : okd d) : f_X4_lengthOf (lN (encN d)) = some (nI (szN d)) := by
  unfold f_X4_lengthOf
  refine run2 (fun j a b => a = nI (fb_ct (fun k => decide (d k ≠ 0)) j) ∧ b = nI j) (fun r => r = some (nI (szN d))) 8 ?_ ?_ FU 0 0 (FU_gt (by omega)) ⟨rfl, rfl⟩
  · rintro j a b hj ⟨rfl, rfl⟩
    refine ⟨nI (fb_ct (fun k => decide (d k ≠ 0)) (j + 1)), nI (j + 1), ⟨rfl, rfl⟩, fun re => ?_⟩
    unfold f_X4_lengthOf_L4 lett
    rw [show (8 : Int32) = nI 8 from rfl, i_lt (by omega) (by omega), if_pos hj, letterAt_e (okd_32 hd) hj, ob, x_a1, x_a1, fb_ct_succ]
    by_cases h : d j = 0
    · rw [if_pos (by rw [ltr_0 (by omega)]; exact h)]; simp [h]
    · rw [if_neg (by rw [ltr_0 (by have := hd j hj; omega)]; exact h)]; simp [h]
  · rintro a b ⟨rfl, rfl⟩ re
    unfold f_X4_lengthOf_L4
    rw [show (8 : Int32) = nI 8 from rfl, i_lt (by omega) (by omega), if_neg (by omega)]
    rfl
theorem ct_below (z : Nat) : ∀ n, fb_ct (fun k => decide (k < z)) n = min n z
  | 0 => by simp [fb_ct]
  | n + 1 => by
    rw [fb_ct_succ, ct_below z n]
    by_cases h : n < z
    · simp [h]; omega
    · simp [h]; omega
theorem szN_w {d : Nat → Nat} {z : Nat} (h : okw d z) : szN d = z := by
  have e : szN d = fb_ct (fun k => decide (k < z)) 8 := fb_ct_cong (fun k hk => by rw [decide_eq_decide]; exact (h.2.2 k hk).2)
  rw [e, ct_below]
  have := h.2.1
  omega

/-! a game: words, policy, status, length, lives, guesses; bits of letters and of candidates; totals, order, places -/
abbrev GS : Type := (Nat) × (Nat) × (Nat) × (Nat) × (Nat) × (Nat) × (Int32) × (Int32) × (Nat → Int32) × (Nat → Int32) × (Nat → Nat) × (Nat → Nat) × (Nat → Nat → Nat)
abbrev G_n (g : GS) : Nat := g.1
abbrev G_pol (g : GS) : Nat := g.2.1
abbrev G_st (g : GS) : Nat := g.2.2.1
abbrev G_len (g : GS) : Nat := g.2.2.2.1
abbrev G_lv (g : GS) : Nat := g.2.2.2.2.1
abbrev G_gc (g : GS) : Nat := g.2.2.2.2.2.1
abbrev G_gs (g : GS) : Int32 := g.2.2.2.2.2.2.1
abbrev G_cd (g : GS) : Int32 := g.2.2.2.2.2.2.2.1
abbrev G_tot (g : GS) : Nat → Int32 := g.2.2.2.2.2.2.2.2.1
abbrev G_od (g : GS) : Nat → Int32 := g.2.2.2.2.2.2.2.2.2.1
abbrev G_pt (g : GS) : Nat → Nat := g.2.2.2.2.2.2.2.2.2.2.1
abbrev G_Z (g : GS) : Nat → Nat := g.2.2.2.2.2.2.2.2.2.2.2.1
abbrev G_D (g : GS) : Nat → Nat → Nat := g.2.2.2.2.2.2.2.2.2.2.2.2
def RS (z : St) (g : GS) : Prop := S_wordCount z = nI (G_n g) ∧ S_policy z = nI (G_pol g) ∧ S_status z = nI (G_st g) ∧ S_length z = nI (G_len g) ∧ S_lives z = nI (G_lv g) ∧ S_guessed z = G_gs g ∧ S_guessCount z = nI (G_gc g) ∧ S_candidates z = G_cd g ∧ (∀ k, k < 7 → S_totals z k = G_tot g k) ∧ (∀ k, k < G_gc g → S_lettersInOrder z k = G_od g k) ∧ S_pattern z = lN (encN (G_pt g)) ∧ ∀ w, w < G_n g → S_list z w = lN (encN (G_D g w))
def okR (g : GS) : Prop := (∀ i, bt (G_cd g) i = true → G_Z g i = G_len g) ∧ (∃ i, bt (G_cd g) i = true) ∧ (∃ k, k < G_len g ∧ G_pt g k = 0) ∧ (∀ k, k < 8 → G_pt g k ≠ 0 → bt (G_gs g) (G_pt g k - 1) = true ∧ ∀ i, bt (G_cd g) i = true → G_D g i k = G_pt g k) ∧ (∀ i k, bt (G_cd g) i = true → k < G_len g → G_pt g k = 0 → bt (G_gs g) (G_D g i k - 1) = false) ∧ 1 ≤ G_lv g
def okG (g : GS) : Prop := G_n g ≤ 30 ∧ G_pol g ≤ 2 ∧ G_st g ≤ 3 ∧ G_len g ≤ 8 ∧ G_lv g ≤ 20 ∧ G_gc g = bc (G_gs g) 26 ∧ (∀ i, 26 ≤ i → bt (G_gs g) i = false) ∧ (∀ i, bt (G_cd g) i = true → i < G_n g) ∧ (∀ w, w < G_n g → okw (G_D g w) (G_Z g w)) ∧ (∀ v w, v < w → w < G_n g → encN (G_D g v) < encN (G_D g w)) ∧ (∀ k, k < 8 → G_pt g k < 27) ∧ (∀ k, k < 8 → G_len g ≤ k → G_pt g k = 0) ∧ (G_st g = 1 → okR g)
theorem ok_gc {g : GS} (h : okG g) : G_gc g ≤ 26 := by rw [h.2.2.2.2.2.1]; exact bc_le _ _
theorem ok_n {g : GS} (h : okG g) : G_n g ≤ 30 := h.1
theorem ok_w {g : GS} (h : okG g) {w : Nat} (hw : w < G_n g) : okw (G_D g w) (G_Z g w) := h.2.2.2.2.2.2.2.2.1 w hw
theorem ok_cd {g : GS} (h : okG g) {i : Nat} (hi : bt (G_cd g) i = true) : i < G_n g := h.2.2.2.2.2.2.2.1 i hi
/-! indexes -/
theorem a8 (k : Nat) : (8 : Int32) + nI k = nI (8 + k) := nI_add 8 k
theorem a15 (k : Nat) : (15 : Int32) + nI k = nI (15 + k) := nI_add 15 k
theorem a41 (k : Nat) : (41 : Int32) + nI k = nI (41 + k) := nI_add 41 k
theorem a49 (k : Nat) : (49 : Int32) + nI k = nI (49 + k) := nI_add 49 k
theorem nI_mulN (a b : Nat) : nI a * nI b = nI (a * b) := by
  apply Int32.toBitVec_inj.mp
  rw [Int32.toBitVec_mul]
  exact (BitVec.ofNat_mul _ _).symm
theorem a79 (w k : Nat) : ((79 : Int32) + ((8 : Int32) * nI w)) + nI k = nI (79 + 8 * w + k) := by
  rw [show (8 : Int32) * nI w = nI (8 * w) from nI_mulN 8 w, show (79 : Int32) + nI (8 * w) = nI (79 + 8 * w) from nI_add 79 _, nI_add]

theorem m0 {β : Type} (f : Nat → Int32) (k : Int32 → Option β) : getA f 319 (0 : Int32) k = k (f 0) := getA_n (i := 0) (by omega) (by omega)
theorem k0_ {β : Type} (k : Option β) : chkA 319 (0 : Int32) k = k := chkA_n (i := 0) (by omega) (by omega)
theorem m1 {β : Type} (f : Nat → Int32) (k : Int32 → Option β) : getA f 319 (1 : Int32) k = k (f 1) := getA_n (i := 1) (by omega) (by omega)
theorem k1_ {β : Type} (k : Option β) : chkA 319 (1 : Int32) k = k := chkA_n (i := 1) (by omega) (by omega)
theorem m2 {β : Type} (f : Nat → Int32) (k : Int32 → Option β) : getA f 319 (2 : Int32) k = k (f 2) := getA_n (i := 2) (by omega) (by omega)
theorem k2_ {β : Type} (k : Option β) : chkA 319 (2 : Int32) k = k := chkA_n (i := 2) (by omega) (by omega)
theorem m3 {β : Type} (f : Nat → Int32) (k : Int32 → Option β) : getA f 319 (3 : Int32) k = k (f 3) := getA_n (i := 3) (by omega) (by omega)
theorem k3_ {β : Type} (k : Option β) : chkA 319 (3 : Int32) k = k := chkA_n (i := 3) (by omega) (by omega)
theorem m4 {β : Type} (f : Nat → Int32) (k : Int32 → Option β) : getA f 319 (4 : Int32) k = k (f 4) := getA_n (i := 4) (by omega) (by omega)
theorem k4_ {β : Type} (k : Option β) : chkA 319 (4 : Int32) k = k := chkA_n (i := 4) (by omega) (by omega)
theorem m5 {β : Type} (f : Nat → Int32) (k : Int32 → Option β) : getA f 319 (5 : Int32) k = k (f 5) := getA_n (i := 5) (by omega) (by omega)
theorem k5_ {β : Type} (k : Option β) : chkA 319 (5 : Int32) k = k := chkA_n (i := 5) (by omega) (by omega)
theorem m6 {β : Type} (f : Nat → Int32) (k : Int32 → Option β) : getA f 319 (6 : Int32) k = k (f 6) := getA_n (i := 6) (by omega) (by omega)
theorem k6_ {β : Type} (k : Option β) : chkA 319 (6 : Int32) k = k := chkA_n (i := 6) (by omega) (by omega)
theorem m7 {β : Type} (f : Nat → Int32) (k : Int32 → Option β) : getA f 319 (7 : Int32) k = k (f 7) := getA_n (i := 7) (by omega) (by omega)
theorem k7_ {β : Type} (k : Option β) : chkA 319 (7 : Int32) k = k := chkA_n (i := 7) (by omega) (by omega)
theorem m8 {β : Type} (f : Nat → Int32) (k : Int32 → Option β) : getA f 319 (8 : Int32) k = k (f 8) := getA_n (i := 8) (by omega) (by omega)
theorem k8_ {β : Type} (k : Option β) : chkA 319 (8 : Int32) k = k := chkA_n (i := 8) (by omega) (by omega)
theorem m11 {β : Type} (f : Nat → Int32) (k : Int32 → Option β) : getA f 319 (11 : Int32) k = k (f 11) := getA_n (i := 11) (by omega) (by omega)
theorem k11_ {β : Type} (k : Option β) : chkA 319 (11 : Int32) k = k := chkA_n (i := 11) (by omega) (by omega)
theorem m12 {β : Type} (f : Nat → Int32) (k : Int32 → Option β) : getA f 319 (12 : Int32) k = k (f 12) := getA_n (i := 12) (by omega) (by omega)
theorem k12_ {β : Type} (k : Option β) : chkA 319 (12 : Int32) k = k := chkA_n (i := 12) (by omega) (by omega)
theorem m13 {β : Type} (f : Nat → Int32) (k : Int32 → Option β) : getA f 319 (13 : Int32) k = k (f 13) := getA_n (i := 13) (by omega) (by omega)
theorem k13_ {β : Type} (k : Option β) : chkA 319 (13 : Int32) k = k := chkA_n (i := 13) (by omega) (by omega)
theorem m14 {β : Type} (f : Nat → Int32) (k : Int32 → Option β) : getA f 319 (14 : Int32) k = k (f 14) := getA_n (i := 14) (by omega) (by omega)
theorem k14_ {β : Type} (k : Option β) : chkA 319 (14 : Int32) k = k := chkA_n (i := 14) (by omega) (by omega)
/-! the reference's words -/
section RMS
variable {g : GS}
theorem sh_1 (x : Int32) (j : Nat) (hj : j < 32) : (((x >>> (nI j &&& 31)) &&& 1) = 1) = (bt x j = true) := by
  rw [sh_bit x j hj]
  cases bt x j
  · simp
  · simp
theorem sh_0 (x : Int32) (j : Nat) (hj : j < 32) : (((x >>> (nI j &&& 31)) &&& 1) = 0) = (bt x j = false) := by
  rw [sh_bit x j hj]
  cases bt x j
  · simp
  · simp
end RMS
/-! the class's state -/
section RSS
variable {z : St} {g : GS}
theorem hasWord2 (h : RS z g) (ok : okG g) {w : Nat} (hw : w < 2147483648) : f_X2_hasWord z (nI w) = some (if w < G_n g then 1 else 0) := by
  unfold f_X2_hasWord
  have := ok.1
  rw [i_n hw, h.1, show (30 : Int32) = nI 30 from rfl, i_lt hw (by omega), i_lt hw (by omega)]
  by_cases q : w < G_n g
  · rw [if_pos q, if_pos q, if_pos (by omega)]
  · rw [if_neg q, if_neg q]
theorem hasWord2_neg {x : Int32} (h : x < 0) : f_X2_hasWord z x = some 0 := by
  unfold f_X2_hasWord
  rw [if_pos h]
theorem wordAt2 (h : RS z g) (ok : okG g) {w : Nat} (hw : w < G_n g) : f_X2_wordAt z (nI w) = some (lN (encN (G_D g w))) := by
  unfold f_X2_wordAt
  have := ok.1
  rw [hasWord2 h ok (by omega), ob, if_pos hw, if_neg (by decide), getA_n (by omega) (by omega), h.2.2.2.2.2.2.2.2.2.2.2 w hw]
theorem isCand2 (h : RS z g) (ok : okG g) {w : Nat} (hw : w < G_n g) : f_X2_isCandidate z (nI w) = some (if bt (G_cd g) w = true then 1 else 0) := by
  unfold f_X2_isCandidate
  have := ok.1
  rw [hasWord2 h ok (by omega), ob, if_pos hw, if_neg (by decide), h.2.2.2.2.2.2.2.1]
  simp only [sh_0 _ w (by omega)]
  cases bt (G_cd g) w <;> rfl
theorem runs2 (h : RS z g) (ok : okG g) : f_X2_isRunning z = some (if G_st g = 1 then 1 else 0) := by
  unfold f_X2_isRunning
  have := ok.2.2.1
  rw [h.2.2.1, show (1 : Int32) = nI 1 from rfl, i_eq (by omega) (by omega)]
  by_cases q : G_st g = 1
  · rw [if_pos q, if_pos q]
  · rw [if_neg q, if_neg q]
theorem wasGuessed2 (h : RS z g) {c : Nat} (hc : c < 26) : f_X2_wasGuessed z (nI (97 + c)) = some (if bt (G_gs g) c = true then 1 else 0) := by
  unfold f_X2_wasGuessed
  rw [bitOf5 hc, ob, h.2.2.2.2.2.1]
  simp only [and_bit _ c (by omega)]
  cases bt (G_gs g) c <;> rfl
end RSS
