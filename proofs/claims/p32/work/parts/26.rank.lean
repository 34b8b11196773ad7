/-! ===== stage B: which family is better; ranks ===== -/
def kz (f : FS) (k : Nat) : Nat := bc (f.2.1 k) 31
def kp (f : FS) (k : Nat) : Nat := bc (f.1 k) 31
def kf (D : Nat → Nat → Nat) (ng : Int32) (n : Nat) (f : FS) (k : Nat) : Nat := bc (fr D (f.2.1 k) n &&& ng) 31
def km (f : FS) (k : Nat) : Nat := (f.1 k).toNatClampNeg
def KJ (f : FS) (k : Nat) : Nat := (31 - kz f k) * 65536 + kp f k * 256 + km f k
def KK (pol : Nat) (D : Nat → Nat → Nat) (ng : Int32) (n : Nat) (f : FS) (k : Nat) : Nat := (if pol = 1 then (if km f k = 0 then 0 else 4294967296) else if pol = 2 then (31 - kf D ng n f k) * 4294967296 else 0) + KJ f k
theorem kz_le (f : FS) (k : Nat) : kz f k ≤ 31 := bc_le _ _
theorem kp_le (f : FS) (k : Nat) : kp f k ≤ 31 := bc_le _ _
theorem kf_le (D : Nat → Nat → Nat) (ng : Int32) (n : Nat) (f : FS) (k : Nat) : kf D ng n f k ≤ 31 := bc_le _ _
theorem low8 {x : Int32} (h : ∀ i, 8 ≤ i → bt x i = false) : ∃ n, n < 256 ∧ x = nI n := by
  obtain ⟨n, hn, rfl⟩ := wb_of32 x
  refine ⟨n, Nat.lt_pow_two_of_testBit (n := 8) n (fun i hi => ?_), rfl⟩
  rcases Nat.lt_or_ge i 32 with q | q
  · rw [← bt_nI n i q]; exact h i hi
  · exact Nat.testBit_lt_two_pow (Nat.lt_of_lt_of_le hn (Nat.pow_le_pow_right (n := 2) (by omega) q))
theorem km_n {D : Nat → Nat → Nat} {c : Nat} {cd : Int32} {n : Nat} {f : FS} (h : FI D c cd n f) {k : Nat} (hk : k < f.2.2) : f.1 k = nI (km f k) ∧ km f k < 256 := by
  obtain ⟨w, _, _, e⟩ := h.2.2.1 k hk
  obtain ⟨t, ht, q⟩ := low8 (x := f.1 k) (fun i hi => by rw [e]; exact msk_hi _ _ hi)
  unfold km
  rw [q, x_cl (by omega)]
  exact ⟨rfl, ht⟩
theorem cmp3 (s1 s2 p1 p2 m1 m2 : Nat) (h1 : s1 ≤ 31) (h2 : s2 ≤ 31) (h3 : p1 ≤ 31) (h4 : p2 ≤ 31) (h5 : m1 < 256) (h6 : m2 < 256) : (if s1 = s2 then (if p1 = p2 then (if m1 < m2 then some (1 : Int32) else some 0) else (if p1 < p2 then some 1 else some 0)) else (if s2 < s1 then some 1 else some 0)) = some (if (31 - s1) * 65536 + p1 * 256 + m1 < (31 - s2) * 65536 + p2 * 256 + m2 then 1 else 0) := by
  by_cases a : s1 = s2
  · rw [if_pos a]
    by_cases b : p1 = p2
    · rw [if_pos b]
      by_cases d : m1 < m2
      · rw [if_pos d, if_pos (by omega)]
      · rw [if_neg d, if_neg (by omega)]
    · rw [if_neg b]
      by_cases d : p1 < p2
      · rw [if_pos d, if_pos (by omega)]
      · rw [if_neg d, if_neg (by omega)]
  · rw [if_neg a]
    by_cases d : s2 < s1
    · rw [if_pos d, if_pos (by omega)]
    · rw [if_neg d, if_neg (by omega)]
theorem ifc {p q : Prop} [Decidable p] [Decidable q] (h : p ↔ q) : (if p then (1 : Int32) else 0) = if q then 1 else 0 := by
  by_cases a : p
  · rw [if_pos a, if_pos (h.mp a)]
  · rw [if_neg a, if_neg (fun b => a (h.mpr b))]
theorem ifs {p q : Prop} [Decidable p] [Decidable q] (h : p ↔ q) : (if p then some (1 : Int32) else some 0) = some (if q then 1 else 0) := by
  by_cases a : p
  · rw [if_pos a, if_pos (h.mp a)]
  · rw [if_neg a, if_neg (fun b => a (h.mpr b))]
theorem i_e1 {α : Type} {a : Nat} {t f : α} (ha : a < 2147483648) : (if nI a = 1 then t else f) = if a = 1 then t else f := i_eq (b := 1) ha (by omega)
theorem i_e2 {α : Type} {a : Nat} {t f : α} (ha : a < 2147483648) : (if nI a = 2 then t else f) = if a = 2 then t else f := i_eq (b := 2) ha (by omega)
section RK
variable {D : Nat → Nat → Nat} {c : Nat} {cd ng : Int32} {n pol : Nat} {f : FS}
theorem KJ_lt (h : FI D c cd n f) {k : Nat} (hk : k < f.2.2) : KJ f k < 4294967296 := by
  have := kz_le f k; have := kp_le f k; have := (km_n h hk).2
  unfold KJ
  omega
/-! the class's -/
theorem size0 (h : FI D c cd n f) (hn : n ≤ 30) {F : Fm} (hF : FRd D ng n F f) {k : Nat} (hk : k < f.2.2) : f_X0_sizeOf F (nI k) = some (nI (kz f k)) := by
  have h1 := h.1
  unfold f_X0_sizeOf f_X0_has
  rw [i_n (by omega), hF.1, show (30 : Int32) = nI 30 from rfl, i_lt (by omega) (by omega), if_pos hk, i_lt (by omega) (by omega), if_pos (by omega), ob, if_neg (by decide), getA_n (by omega) (by omega), bitCount5, ob, (hF.2 k hk).2.1, bc_top (by rw [h.2.2.2.1 k 31 hk (by omega), decide_eq_false (by omega), Bool.false_and, Bool.false_and])]
  rfl
theorem memb0 (h : FI D c cd n f) (hn : n ≤ 30) {F : Fm} (hF : FRd D ng n F f) {k : Nat} (hk : k < f.2.2) : f_X0_membersOf F (nI k) = some (f.2.1 k) := by
  have h1 := h.1
  unfold f_X0_membersOf f_X0_has
  rw [i_n (by omega), hF.1, show (30 : Int32) = nI 30 from rfl, i_lt (by omega) (by omega), if_pos hk, i_lt (by omega) (by omega), if_pos (by omega), ob, if_neg (by decide), getA_n (by omega) (by omega), (hF.2 k hk).2.1]
theorem mask0 (h : FI D c cd n f) (hn : n ≤ 30) {F : Fm} (hF : FRd D ng n F f) {k : Nat} (hk : k < f.2.2) : f_X0_maskOf F (nI k) = some (f.1 k) := by
  have h1 := h.1
  rw [maskOf0 hF.1 (by omega) hk, (hF.2 k hk).1]
theorem plc5 (h : FI D c cd n f) {k : Nat} (hk : k < f.2.2) : f_J6_bitCount_0f7a4 (f.1 k) = some (nI (kp f k)) := by
  obtain ⟨w, _, _, e⟩ := h.2.2.1 k hk
  rw [bitCount5, bc_top (by rw [e]; exact msk_hi _ _ (by omega))]
  rfl
theorem fresh0 (h : FI D c cd n f) (hn : n ≤ 30) (hD : ∀ w, w < n → okd (D w)) {F : Fm} (hF : FRd D ng n F f) {k : Nat} (hk : k < f.2.2) : f_X0_freshnessOf F (nI k) = some (nI (kf D ng n f k)) := by
  have h1 := h.1
  unfold f_X0_freshnessOf f_X0_has
  rw [i_n (by omega), hF.1, show (30 : Int32) = nI 30 from rfl, i_lt (by omega) (by omega), if_pos hk, i_lt (by omega) (by omega), if_pos (by omega), ob, if_neg (by decide), getA_n (by omega) (by omega), bitCount5, ob, (hF.2 k hk).2.2, bc_top (by rw [b_and, fr_hi hD (by omega), Bool.false_and])]
  rfl
theorem J91_0 (h : FI D c cd n f) (hn : n ≤ 30) {F : Fm} (hF : FRd D ng n F f) {u v : Nat} (hu : u < f.2.2) (hv : v < f.2.2) : f_X0_isBetter_J91 F (nI u) (nI v) = some (if KJ f u < KJ f v then 1 else 0) := by
  have := kz_le f u; have := kz_le f v; have := kp_le f u; have := kp_le f v
  have ku := km_n h hu; have kv := km_n h hv
  unfold f_X0_isBetter_J91
  rw [size0 h hn hF hu, ob, size0 h hn hF hv, ob, mask0 h hn hF hu, ob, plc5 h hu, ob, mask0 h hn hF hv, ob, plc5 h hv, ob, ob, ob, ob, ob, ku.1, kv.1, i_eq (by omega) (by omega), i_eq (by omega) (by omega), i_lt (by omega) (by omega), i_lt (by omega) (by omega), i_lt (by omega) (by omega)]
  exact cmp3 _ _ _ _ _ _ (by omega) (by omega) (by omega) (by omega) (by omega) (by omega)
theorem J51_0 (h : FI D c cd n f) (hn : n ≤ 30) (hD : ∀ w, w < n → okd (D w)) {F : Fm} (hF : FRd D ng n F f) (hp : F_policy F = nI pol) (hp2 : pol ≤ 2) (hp1 : pol ≠ 1) {u v : Nat} (hu : u < f.2.2) (hv : v < f.2.2) : f_X0_isBetter_J51 F (nI u) (nI v) = some (if KK pol D ng n f u < KK pol D ng n f v then 1 else 0) := by
  have a1 := kf_le D ng n f u; have a2 := kf_le D ng n f v
  have b1 := KJ_lt h hu; have b2 := KJ_lt h hv
  unfold f_X0_isBetter_J51 KK
  rw [hp, i_e2 (by omega), if_neg hp1, if_neg hp1]
  by_cases q : pol = 2
  · rw [if_pos q, if_pos q, if_pos q, fresh0 h hn hD hF hu, ob, fresh0 h hn hD hF hv, ob, ob, ob, i_eq (by omega) (by omega), i_lt (by omega) (by omega), J91_0 h hn hF hu hv]
    by_cases a : kf D ng n f u = kf D ng n f v
    · rw [if_pos a, a]
      exact congrArg some (ifc (by omega))
    · rw [if_neg a]
      exact ifs (by omega)
  · rw [if_neg q, if_neg q, if_neg q, J91_0 h hn hF hu hv]
    simp only [Nat.zero_add]
theorem better0 (h : FI D c cd n f) (hn : n ≤ 30) (hD : ∀ w, w < n → okd (D w)) {F : Fm} (hF : FRd D ng n F f) (hp : F_policy F = nI pol) (hp2 : pol ≤ 2) {u v : Nat} (hu : u < f.2.2) (hv : v < f.2.2) : f_X0_isBetter F (nI u) (nI v) = some (if KK pol D ng n f u < KK pol D ng n f v then 1 else 0) := by
  unfold f_X0_isBetter
  rw [hp, i_e1 (by omega)]
  by_cases q : pol = 1
  · have b1 := KJ_lt h hu; have b2 := KJ_lt h hv
    have ku := km_n h hu; have kv := km_n h hv
    have e51 : f_X0_isBetter_J51 F (nI u) (nI v) = some (if KJ f u < KJ f v then 1 else 0) := by
      unfold f_X0_isBetter_J51
      rw [hp, i_e2 (by omega), if_neg (by omega), J91_0 h hn hF hu hv]
    have zu : (nI (km f u) = 0) = (km f u = 0) := x_z (by omega)
    have zv : (nI (km f v) = 0) = (km f v = 0) := x_z (by omega)
    have t1 : ((1 : Int32) = 0) = False := eq_false (by decide)
    have t2 : ((0 : Int32) = 1) = False := eq_false (by decide)
    rw [if_pos q, mask0 h hn hF hu, ob]
    unfold f_X0_isBetter_J21 KK
    rw [mask0 h hn hF hv, ob, mask0 h hn hF hu, ob, ob, ku.1, kv.1, e51, if_pos q, if_pos q]
    simp only [zu, zv]
    by_cases a : km f u = 0
    · by_cases b : km f v = 0
      · simp only [a, b, if_true, if_false, eq_self]
        exact congrArg some (ifc (by omega))
      · simp only [a, b, t1, if_true, if_false, eq_self]
        rw [if_pos (by omega)]
    · by_cases b : km f v = 0
      · simp only [a, b, t2, if_true, if_false, eq_self]
        rw [if_neg (by omega)]
      · simp only [a, b, if_true, if_false, eq_self]
        exact congrArg some (ifc (by omega))
  · rw [if_neg q]
    exact J51_0 h hn hD hF hp hp2 q hu hv
def rk (K : Nat → Nat) (m v : Nat) : Nat := fb_ct (fun u => decide (K u < K v)) m
theorem rk_lt (K : Nat → Nat) {m v : Nat} (hv : v < m) : rk K m v < m := by
  have h := fb_ct_le (fun u => decide (K u < K v)) m
  rcases Nat.lt_or_ge (rk K m v) m with q | q
  · exact q
  · have e : fb_ct (fun u => decide (K u < K v)) m = m := Nat.le_antisymm h q
    have := fb_ct_all.mp e v hv
    simp at this
theorem rk_mono (K : Nat → Nat) {m a b : Nat} (ha : a < m) (h : K a < K b) : rk K m a < rk K m b := by
  have e := fb_ct_upd (fun u => decide (K u < K a)) true ha
  have e2 : fb_ct (fun k => if k = a then true else decide (K k < K a)) m ≤ rk K m b := by
    refine fb_ct_sub (fun k hk hk2 => ?_)
    by_cases q : k = a
    · subst q; exact decide_eq_true h
    · rw [if_neg q] at hk2
      have := of_decide_eq_true hk2
      exact decide_eq_true (by omega)
  rw [if_pos rfl, if_neg (by simp)] at e
  show rk K m a < rk K m b
  have e3 : fb_ct (fun u => decide (K u < K a)) m = rk K m a := rfl
  omega
theorem rk_onto {K : Nat → Nat} {m : Nat} (inj : ∀ a b, a < b → b < m → K a ≠ K b) {p : Nat} (hp : p < m) : ∃ v, v < m ∧ rk K m v = p := by
  refine fb_onto (f := rk K m) (fun i hi => rk_lt K hi) (fun i j hij hj e => ?_) hp
  have := inj i j hij hj
  rcases (show K i < K j ∨ K j < K i by omega) with q | q
  · have := rk_mono K (m := m) (show i < m by omega) q; omega
  · have := rk_mono K (m := m) hj q; omega
theorem KK_inj (h : FI D c cd n f) : ∀ a b, a < b → b < f.2.2 → KK pol D ng n f a ≠ KK pol D ng n f b := by
  intro a b hab hb e
  have ka := km_n h (k := a) (by omega); have kb := km_n h hb
  refine h.2.1 a b hab hb ?_
  rw [ka.1, kb.1]
  congr 1
  have x : ∀ k, km f k < 256 → KK pol D ng n f k % 256 = km f k := by
    intro k hk
    unfold KK KJ
    by_cases p : pol = 1
    · rw [if_pos p]
      by_cases q : km f k = 0
      · rw [if_pos q]; omega
      · rw [if_neg q]; omega
    · rw [if_neg p]
      by_cases q : pol = 2
      · rw [if_pos q]; omega
      · rw [if_neg q]; omega
  rw [← x a ka.2, ← x b kb.2, e]
def rkI (pol : Nat) (D : Nat → Nat → Nat) (ng : Int32) (n : Nat) (f : FS) (v : Nat) : Int32 := nI (rk (KK pol D ng n f) f.2.2 v)
theorem bthan0 (h : FI D c cd n f) (hn : n ≤ 30) (hD : ∀ w, w < n → okd (D w)) {F : Fm} (hF : FRd D ng n F f) (hp : F_policy F = nI pol) (hp2 : pol ≤ 2) {v : Nat} (hv : v < f.2.2) : f_X0_betterThan F (nI v) = some (rkI pol D ng n f v) := by
  have h1 := h.1
  unfold f_X0_betterThan
  refine run2 (fun j a b => a = nI (fb_ct (fun u => decide (KK pol D ng n f u < KK pol D ng n f v)) j) ∧ b = nI j) (fun r => r = some (rkI pol D ng n f v)) f.2.2 ?_ ?_ FU 0 0 (FU_gt (by omega)) ⟨rfl, rfl⟩
  · rintro j a b hj ⟨rfl, rfl⟩
    refine ⟨nI (fb_ct (fun u => decide (KK pol D ng n f u < KK pol D ng n f v)) (j + 1)), nI (j + 1), ⟨rfl, rfl⟩, fun re => ?_⟩
    unfold f_X0_betterThan_L4 lett
    rw [hF.1, i_lt (by omega) (by omega), if_pos hj, better0 h hn hD hF hp hp2 hj hv, ob, x_a1, x_a1, fb_ct_succ]
    by_cases q : KK pol D ng n f j < KK pol D ng n f v
    · rw [if_pos q, if_neg (by decide)]; simp [q]
    · rw [if_neg q, if_pos rfl]; simp [q]
  · rintro a b ⟨rfl, rfl⟩ re
    unfold f_X0_betterThan_L4
    rw [hF.1, i_lt (by omega) (by omega), if_neg (by omega)]
    rfl
theorem ranked0 (h : FI D c cd n f) (hn : n ≤ 30) (hD : ∀ w, w < n → okd (D w)) {F : Fm} (hF : FRd D ng n F f) (hp : F_policy F = nI pol) (hp2 : pol ≤ 2) (x : Int32) : f_X0_ranked F x = some (if look (rkI pol D ng n f) x f.2.2 < f.2.2 then nI (look (rkI pol D ng n f) x f.2.2) else -1) := by
  have h1 := h.1
  unfold f_X0_ranked
  refine find1 (rkI pol D ng n f) x f.2.2 (by omega) ?_ ?_
  · intro j hj hne re
    unfold f_X0_ranked_L2 lett
    rw [hF.1, i_lt (by omega) (by omega), if_pos hj, bthan0 h hn hD hF hp hp2 hj, ob, if_neg hne, x_a1]
  · intro j hj re
    have := look_le (rkI pol D ng n f) x f.2.2
    unfold f_X0_ranked_L2
    rw [hF.1, i_lt (by omega) (by omega), ← hj]
    by_cases q : j < f.2.2
    · rw [if_pos q, if_pos q, bthan0 h hn hD hF hp hp2 q, ob, if_pos (by rw [hj]; exact look_at (by rw [← hj]; exact q))]
    · rw [if_neg q, if_neg q]
/-! the reference's -/
variable {g : GS}
theorem rank_in (h : FI D c cd n f) (hn : n ≤ 30) {p : Nat} (hp : p < f.2.2) : look (rkI pol D ng n f) (nI p) f.2.2 < f.2.2 := by
  obtain ⟨v, hv, e⟩ := rk_onto (KK_inj (pol := pol) (ng := ng) h) hp
  exact look_in hv (by unfold rkI; rw [e])
theorem bestF0 (h : FI D c cd n f) (hn : n ≤ 30) (hD : ∀ w, w < n → okd (D w)) {F : Fm} (hF : FRd D ng n F f) (hp : F_policy F = nI pol) (hp2 : pol ≤ 2) (h0 : 0 < f.2.2) : f_X0_best F = some (nI (look (rkI pol D ng n f) 0 f.2.2)) := by
  have h1 := h.1
  unfold f_X0_best f_X0_best_J12
  rw [hF.1, i_p (by omega), if_pos h0]
  refine run2 (fun j a b => (∃ t, t ≤ j ∧ a = nI t ∧ ∀ u, u ≤ j → KK pol D ng n f t ≤ KK pol D ng n f u) ∧ b = nI (j + 1)) (fun r => r = some (nI (look (rkI pol D ng n f) 0 f.2.2))) (f.2.2 - 1) ?_ ?_ FU _ _ (FU_gt (by omega)) ⟨⟨0, Nat.le_refl _, rfl, fun u hu => by rw [show u = 0 by omega]; exact Nat.le_refl _⟩, rfl⟩
  · rintro j a b hj ⟨⟨t, ht, rfl, hm⟩, rfl⟩
    by_cases q : KK pol D ng n f (j + 1) < KK pol D ng n f t
    · refine ⟨nI (j + 1), nI (j + 1 + 1), ⟨⟨j + 1, Nat.le_refl _, rfl, fun u hu => ?_⟩, rfl⟩, fun re => ?_⟩
      · rcases (show u ≤ j ∨ u = j + 1 by omega) with w | rfl
        · have := hm u w; omega
        · exact Nat.le_refl _
      · unfold f_X0_best_L15 lett
        rw [hF.1, i_lt (by omega) (by omega), if_pos (by omega), better0 h hn hD hF hp hp2 (show j + 1 < f.2.2 by omega) (show t < f.2.2 by omega), ob, if_pos q, if_neg (by decide), x_a1]
    · refine ⟨nI t, nI (j + 1 + 1), ⟨⟨t, by omega, rfl, fun u hu => ?_⟩, rfl⟩, fun re => ?_⟩
      · rcases (show u ≤ j ∨ u = j + 1 by omega) with w | rfl
        · exact hm u w
        · omega
      · unfold f_X0_best_L15 lett
        rw [hF.1, i_lt (by omega) (by omega), if_pos (by omega), better0 h hn hD hF hp hp2 (show j + 1 < f.2.2 by omega) (show t < f.2.2 by omega), ob, if_neg q, if_pos rfl, x_a1]
  · rintro a b ⟨⟨t, ht, rfl, hm⟩, rfl⟩ re
    have hr : rk (KK pol D ng n f) f.2.2 t = 0 := fb_ct_zero.mpr (fun u hu => decide_eq_false (by have := hm u (by omega); omega))
    have hl : look (rkI pol D ng n f) 0 f.2.2 < f.2.2 := look_in (show t < f.2.2 by omega) (by unfold rkI; rw [hr]; rfl)
    have e : nI (rk (KK pol D ng n f) f.2.2 (look (rkI pol D ng n f) 0 f.2.2)) = nI 0 := look_at (f := rkI pol D ng n f) hl
    have l := rk_lt (KK pol D ng n f) hl
    rw [x_eq (by omega) (by omega)] at e
    have et : t = look (rkI pol D ng n f) 0 f.2.2 := by
      generalize look (rkI pol D ng n f) 0 f.2.2 = v at *
      have k1 : ¬ KK pol D ng n f v < KK pol D ng n f t := by have := hm v (by omega); omega
      have k2 : ¬ KK pol D ng n f t < KK pol D ng n f v := fun w => by
        have := rk_mono (KK pol D ng n f) (m := f.2.2) (show t < f.2.2 by omega) w; omega
      rcases Nat.lt_trichotomy t v with w | w | w
      · exact absurd (show KK pol D ng n f t = KK pol D ng n f v by omega) (KK_inj h t v w hl)
      · exact w
      · exact absurd (show KK pol D ng n f v = KK pol D ng n f t by omega) (KK_inj h v t w (by omega))
    unfold f_X0_best_L15
    rw [hF.1, i_lt (by omega) (by omega), if_neg (by omega), et]
theorem rank_out (h : FI D c cd n f) (hn : n ≤ 30) {x : Int32} (hx : x < 0 ∨ ∃ p, f.2.2 ≤ p ∧ p < 2147483648 ∧ x = nI p) : ¬ look (rkI pol D ng n f) x f.2.2 < f.2.2 := by
  intro q
  have h1 := h.1
  have e : nI (rk (KK pol D ng n f) f.2.2 (look (rkI pol D ng n f) x f.2.2)) = x := look_at (f := rkI pol D ng n f) q
  have l := rk_lt (KK pol D ng n f) q
  rcases hx with hx | ⟨p, hp, hp2, rfl⟩
  · exact neg_ne hx (by omega) e.symm
  · rw [x_eq (by omega) (by omega)] at e
    omega
end RK
