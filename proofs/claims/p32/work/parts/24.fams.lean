/-! ===== stage B: the families, in the order in which they are met ===== -/
def look (f : Nat → Int32) (x : Int32) : Nat → Nat
  | 0 => 0
  | n + 1 => if look f x n < n then look f x n else if f n = x then n else n + 1
theorem look_s (f : Nat → Int32) (x : Int32) : ∀ n, look f x n ≤ n ∧ (look f x n < n → f (look f x n) = x) ∧ ∀ j, j < look f x n → f j ≠ x
  | 0 => ⟨Nat.le_refl _, fun h => absurd h (Nat.lt_irrefl _), fun j h => absurd h (Nat.not_lt_zero _)⟩
  | n + 1 => by
    obtain ⟨h1, h2, h3⟩ := look_s f x n
    show (if look f x n < n then look f x n else if f n = x then n else n + 1) ≤ n + 1 ∧ ((if look f x n < n then look f x n else if f n = x then n else n + 1) < n + 1 → f (if look f x n < n then look f x n else if f n = x then n else n + 1) = x) ∧ ∀ j, j < (if look f x n < n then look f x n else if f n = x then n else n + 1) → f j ≠ x
    by_cases a : look f x n < n
    · rw [if_pos a]
      exact ⟨by omega, fun _ => h2 a, h3⟩
    · have e : look f x n = n := by omega
      rw [if_neg a]
      by_cases b : f n = x
      · rw [if_pos b]
        exact ⟨by omega, fun _ => b, fun j hj => h3 j (by omega)⟩
      · rw [if_neg b]
        refine ⟨by omega, fun q => absurd q (by omega), fun j hj => ?_⟩
        rcases (show j < n ∨ j = n by omega) with q | rfl
        · exact h3 j (by omega)
        · exact b
theorem look_le (f : Nat → Int32) (x : Int32) (n : Nat) : look f x n ≤ n := (look_s f x n).1
theorem look_at {f : Nat → Int32} {x : Int32} {n : Nat} (h : look f x n < n) : f (look f x n) = x := (look_s f x n).2.1 h
theorem look_no {f : Nat → Int32} {x : Int32} {n j : Nat} (h : j < look f x n) : f j ≠ x := (look_s f x n).2.2 j h
theorem look_in {f : Nat → Int32} {x : Int32} {n j : Nat} (h : j < n) (e : f j = x) : look f x n < n := by
  have := look_le f x n
  rcases (show look f x n < n ∨ look f x n = n by omega) with q | q
  · exact q
  · exact absurd e (look_no (n := n) (x := x) (by omega))
theorem look_cong {f g : Nat → Int32} {x : Int32} {n : Nat} (h : ∀ k, k < n → f k = g k) : look f x n = look g x n := by
  induction n with
  | zero => rfl
  | succ n ih =>
    show (if look f x n < n then look f x n else if f n = x then n else n + 1) = (if look g x n < n then look g x n else if g n = x then n else n + 1)
    rw [ih (fun k hk => h k (by omega)), h n (by omega)]
theorem find1 {γ : Type} {step : (Int32 → Option γ) → Int32 → Option γ} (f : Nat → Int32) (x : Int32) (m : Nat) (hm : m < 4096) {r : Option γ} (hs : ∀ j, j < m → f j ≠ x → ∀ re, step re (nI j) = re (nI (j + 1))) (hx : ∀ j, j = look f x m → ∀ re, step re (nI j) = r) : loop1 step FU 0 = r := by
  have hle := look_le f x m
  refine run1 (fun j a => a = nI j) (fun q => q = r) (look f x m) ?_ ?_ FU 0 (FU_gt (by omega)) rfl
  · rintro j a hj rfl
    exact ⟨_, rfl, hs j (by omega) (look_no hj)⟩
  · rintro a rfl re
    exact hx _ rfl re
abbrev FS : Type := (Nat → Int32) × (Nat → Int32) × Nat
def fst_ (D : Nat → Nat → Nat) (c : Nat) (cd : Int32) (w : Nat) (f : FS) : FS :=
  if bt cd w = true then
    if look f.1 (msk (D w) c) f.2.2 = f.2.2 then (upd f.1 f.2.2 (msk (D w) c), upd f.2.1 f.2.2 (0 ||| bit w), f.2.2 + 1)
    else (f.1, upd f.2.1 (look f.1 (msk (D w) c) f.2.2) (f.2.1 (look f.1 (msk (D w) c) f.2.2) ||| bit w), f.2.2)
  else f
def fams (D : Nat → Nat → Nat) (c : Nat) (cd : Int32) (n : Nat) : FS := acc (fst_ D c cd) (fun _ => 0, fun _ => 0, 0) n
def FI (D : Nat → Nat → Nat) (c : Nat) (cd : Int32) (j : Nat) (f : FS) : Prop := f.2.2 ≤ j ∧ (∀ a b, a < b → b < f.2.2 → f.1 a ≠ f.1 b) ∧ (∀ k, k < f.2.2 → ∃ w, w < j ∧ bt cd w = true ∧ f.1 k = msk (D w) c) ∧ (∀ k i, k < f.2.2 → i < 32 → bt (f.2.1 k) i = (decide (i < j) && bt cd i && decide (f.1 k = msk (D i) c))) ∧ ∀ w, w < j → bt cd w = true → ∃ k, k < f.2.2 ∧ f.1 k = msk (D w) c
theorem upd_e (f : Nat → Int32) (k : Nat) (x : Int32) : upd f k x k = x := if_pos rfl
theorem upd_n {f : Nat → Int32} {k j : Nat} {x : Int32} (h : j ≠ k) : upd f k x j = f j := if_neg h
theorem fams_I (D : Nat → Nat → Nat) (c : Nat) (cd : Int32) : ∀ j, j ≤ 32 → FI D c cd j (fams D c cd j)
  | 0, _ => ⟨Nat.le_refl _, fun a b _ h => absurd h (Nat.not_lt_zero _), fun k h => absurd h (Nat.not_lt_zero _), fun k i h => absurd h (Nat.not_lt_zero _), fun w h => absurd h (Nat.not_lt_zero _)⟩
  | j + 1, hj => by
    obtain ⟨i1, i2, i3, i4, i5⟩ := fams_I D c cd j (by omega)
    show FI D c cd (j + 1) (fst_ D c cd j (fams D c cd j))
    generalize fams D c cd j = f at *
    obtain ⟨ms, me, m⟩ := f
    simp only at i1 i2 i3 i4 i5
    unfold fst_
    simp only
    have dec : ∀ i, i ≠ j → decide (i < j + 1) = decide (i < j) := fun i h => by rw [decide_eq_decide]; omega
    by_cases hc : bt cd j = true
    · rw [if_pos hc]
      by_cases hl : look ms (msk (D j) c) m = m
      · rw [if_pos hl]
        have hno : ∀ k, k < m → ms k ≠ msk (D j) c := fun k hk => look_no (by rw [hl]; exact hk)
        refine ⟨by simp only; omega, ?_, ?_, ?_, ?_⟩
        · intro a b hab hb
          simp only at hb ⊢
          rw [upd_n (show a ≠ m by omega)]
          rcases (show b < m ∨ b = m by omega) with q | rfl
          · rw [upd_n (by omega)]; exact i2 a b hab q
          · rw [upd_e]; exact hno a (by omega)
        · intro k hk
          simp only at hk ⊢
          rcases (show k < m ∨ k = m by omega) with q | rfl
          · obtain ⟨w, hw, h1, h2⟩ := i3 k q
            exact ⟨w, by omega, h1, by rw [upd_n (by omega)]; exact h2⟩
          · exact ⟨j, by omega, hc, upd_e _ _ _⟩
        · intro k i hk hi
          simp only at hk
          show bt (upd me m (0 ||| bit j) k) i = (decide (i < j + 1) && bt cd i && decide (upd ms m (msk (D j) c) k = msk (D i) c))
          rcases (show k < m ∨ k = m by omega) with q | rfl
          · rw [upd_n (show k ≠ m by omega), upd_n (show k ≠ m by omega), i4 k i q hi]
            by_cases e : i = j
            · subst e
              rw [decide_eq_false (hno k q), Bool.and_false, Bool.and_false]
            · rw [dec i e]
          · rw [upd_e, upd_e, b_or, b_0, Bool.false_or, bt_p j i (by omega) hi]
            by_cases e : i = j
            · subst e; simp [hc]
            · rw [decide_eq_false e]
              by_cases q : i < j
              · cases hci : bt cd i
                · simp
                · obtain ⟨k2, hk2, e2⟩ := i5 i q hci
                  have : msk (D j) c ≠ msk (D i) c := fun z => hno k2 hk2 (by rw [e2, z])
                  rw [decide_eq_false this, Bool.and_false]
              · rw [decide_eq_false (show ¬ i < j + 1 by omega)]; simp
        · intro w hw hcw
          simp only
          rcases (show w < j ∨ w = j by omega) with q | rfl
          · obtain ⟨k, hk, e⟩ := i5 w q hcw
            exact ⟨k, by omega, by rw [upd_n (by omega)]; exact e⟩
          · exact ⟨m, by omega, upd_e _ _ _⟩
      · rw [if_neg hl]
        have hv : look ms (msk (D j) c) m < m := by have := look_le ms (msk (D j) c) m; omega
        have hve := look_at hv
        generalize look ms (msk (D j) c) m = v at *
        refine ⟨by simp only; omega, i2, ?_, ?_, ?_⟩
        · intro k hk
          obtain ⟨w, hw, h⟩ := i3 k hk
          exact ⟨w, by omega, h⟩
        · intro k i hk hi
          simp only at hk ⊢
          by_cases q : k = v
          · subst q
            rw [upd_e, b_or, i4 k i hk hi, bt_p j i (by omega) hi]
            by_cases e : i = j
            · subst e; simp [hc, hve]
            · rw [decide_eq_false e, Bool.or_false, dec i e]
          · rw [upd_n q, i4 k i hk hi]
            by_cases e : i = j
            · subst e
              have : ms k ≠ msk (D i) c := by
                rw [← hve]
                rcases (show k < v ∨ v < k by omega) with z | z
                · exact i2 k v z hv
                · exact fun y => i2 v k z hk y.symm
              rw [decide_eq_false this, Bool.and_false, Bool.and_false]
            · rw [dec i e]
        · intro w hw hcw
          rcases (show w < j ∨ w = j by omega) with q | rfl
          · exact i5 w q hcw
          · exact ⟨v, hv, hve⟩
    · rw [if_neg hc]
      have hc' : bt cd j = false := by cases h : bt cd j; rfl; exact absurd h hc
      refine ⟨by simp only; omega, i2, ?_, ?_, ?_⟩
      · intro k hk
        obtain ⟨w, hw, h⟩ := i3 k hk
        exact ⟨w, by omega, h⟩
      · intro k i hk hi
        simp only at hk ⊢
        rw [i4 k i hk hi]
        by_cases e : i = j
        · subst e; rw [hc']; simp
        · rw [dec i e]
      · intro w hw hcw
        rcases (show w < j ∨ w = j by omega) with q | rfl
        · exact i5 w q hcw
        · exact absurd hcw hc
/-- the letters of a family's members -/
def fr (D : Nat → Nat → Nat) (x : Int32) (n : Nat) : Int32 := acc (fun w y => if bt x w = true then y ||| lts (D w) else y) 0 n
theorem fr_s (D : Nat → Nat → Nat) (x : Int32) (n : Nat) : fr D x (n + 1) = if bt x n = true then fr D x n ||| lts (D n) else fr D x n := rfl
theorem fr_0 (D : Nat → Nat → Nat) {x : Int32} {n : Nat} (h : ∀ i, i < n → bt x i = false) : fr D x n = 0 := by
  induction n with
  | zero => rfl
  | succ n ih => rw [fr_s, h n (by omega), if_neg (by decide), ih (fun i hi => h i (by omega))]
theorem fr_cong (D : Nat → Nat → Nat) {x y : Int32} {n : Nat} (h : ∀ i, i < n → bt x i = bt y i) : fr D x n = fr D y n := acc_cong (fun k z hk => by simp only [h k hk])
theorem fr_hi {D : Nat → Nat → Nat} {x : Int32} {n : Nat} (h : ∀ w, w < n → okd (D w)) {i : Nat} (hi : 26 ≤ i) : bt (fr D x n) i = false := by
  induction n with
  | zero => exact b_0 i
  | succ n ih =>
    rw [fr_s]
    by_cases q : bt x n = true
    · rw [if_pos q, b_or, ih (fun w hw => h w (by omega)), lts_hi (h n (by omega)) hi]; rfl
    · rw [if_neg q, ih (fun w hw => h w (by omega))]
def ngx (gs : Int32) (c : Nat) : Int32 := (gs ||| bit c) ^^^ (-1)
theorem ng2 (x gs : Int32) (c : Nat) : (x &&& (gs ^^^ (-1))) &&& (bit c ^^^ (-1)) = x &&& ngx gs c := by
  apply b_ext
  intro i hi
  unfold ngx
  rw [b_and, b_and, b_and, bt_not _ i hi, bt_not _ i hi, bt_not _ i hi, b_or]
  cases bt x i <;> cases bt gs i <;> cases bt (bit c) i <;> rfl
theorem and_or (a b g : Int32) : (a &&& g) ||| (b &&& g) = (a ||| b) &&& g := by
  apply b_ext
  intro i hi
  rw [b_or, b_and, b_and, b_and, b_or]
  cases bt a i <;> cases bt b i <;> cases bt g i <;> rfl
/-! the class lays them -/
def FRd (D : Nat → Nat → Nat) (ng : Int32) (n : Nat) (F : Fm) (f : FS) : Prop := F_count F = nI f.2.2 ∧ ∀ k, k < f.2.2 → F_masks F k = f.1 k ∧ F_members F k = f.2.1 k ∧ F_freshLetters F k = fr D (f.2.1 k) n &&& ng
theorem maskOf0 {F : Fm} {m v : Nat} (h : F_count F = nI m) (hm : m ≤ 30) (hv : v < m) : f_X0_maskOf F (nI v) = some (F_masks F v) := by
  unfold f_X0_maskOf f_X0_has
  rw [i_n (by omega), h, show (30 : Int32) = nI 30 from rfl, i_lt (by omega) (by omega), if_pos hv, i_lt (by omega) (by omega), if_pos (by omega), ob, if_neg (by decide), getA_n (by omega) (by omega)]
theorem put0 {D : Nat → Nat → Nat} {c : Nat} {cd ng : Int32} {j : Nat} (hj : j < 30) (hok : okd (D j)) {F : Fm} (hc : bt cd j = true) (h : FRd D ng j F (fams D c cd j)) : ∃ F', f_X0_put F (nI j) (msk (D j) c) (lts (D j) &&& ng) = some F' ∧ F_policy F' = F_policy F ∧ FRd D ng (j + 1) F' (fams D c cd (j + 1)) := by
  obtain ⟨i1, i2, i3, i4, i5⟩ := fams_I D c cd j (by omega)
  rw [show fams D c cd (j + 1) = fst_ D c cd j (fams D c cd j) from rfl]
  generalize fams D c cd j = f at *
  obtain ⟨ms, me, m⟩ := f
  simp only at i1 i2 i3 i4 i5
  obtain ⟨h1, h2⟩ := h
  simp only at h1 h2
  unfold fst_
  simp only
  rw [if_pos hc]
  have hlk : look ms (msk (D j) c) m = look (F_masks F) (msk (D j) c) m := look_cong (fun k hk => (h2 k hk).1.symm)
  have hle := look_le ms (msk (D j) c) m
  have old : ∀ k, k < m → fr D (me k) (j + 1) = fr D (me k) j := fun k hk => by
    rw [fr_s, i4 k j hk (by omega)]
    simp
  have fnd : f_X0_put F (nI j) (msk (D j) c) (lts (D j) &&& ng) = f_X0_put_J28 (msk (D j) c) (nI j) (lts (D j) &&& ng) (nI (look ms (msk (D j) c) m)) F := by
    unfold f_X0_put
    refine find1 (F_masks F) (msk (D j) c) m (by omega) ?_ ?_
    · intro k hk hne re
      unfold f_X0_put_L3 lett
      rw [h1, i_lt (by omega) (by omega), if_pos hk, maskOf0 h1 (by omega) hk, ob, if_neg hne, x_a1]
    · intro k hk re
      unfold f_X0_put_L3
      rw [hlk, ← hk, h1, i_lt (by rw [hlk] at hle; omega) (by omega)]
      by_cases q : k < m
      · rw [if_pos q, maskOf0 h1 (by omega) q, ob, if_pos (by rw [hk]; exact look_at (by rw [← hk]; exact q))]
      · rw [if_neg q]
  rw [fnd]
  unfold f_X0_put_J28
  rw [h1, show (30 : Int32) = nI 30 from rfl, i_n (by omega), i_lt (by omega) (by omega), if_pos (by omega), i_eq (by omega) (by omega)]
  by_cases hl : look ms (msk (D j) c) m = m
  · rw [if_pos hl, if_pos hl, hl]
    unfold f_X0_put_J84
    simp only [lett]
    rw [chkA_n (by omega) (by omega), chkA_n (by omega) (by omega), chkA_n (by omega) (by omega), getA_n (by omega) (by omega), chkA_n (by omega) (by omega), getA_n (by omega) (by omega), chkA_n (by omega) (by omega), x_cl (by omega)]
    refine ⟨_, rfl, rfl, ?_, ?_⟩
    · show F_count F + 1 = _
      rw [h1, x_a1]
    · intro k hk
      simp only at hk
      show upd (F_masks F) m (msk (D j) c) k = upd ms m (msk (D j) c) k ∧ upd (upd (F_members F) m 0) m (upd (F_members F) m 0 m ||| bit j) k = upd me m (0 ||| bit j) k ∧ upd (upd (F_freshLetters F) m 0) m (upd (F_freshLetters F) m 0 m ||| (lts (D j) &&& ng)) k = fr D (upd me m (0 ||| bit j) k) (j + 1) &&& ng
      rcases (show k < m ∨ k = m by omega) with q | rfl
      · have z : k ≠ m := by omega
        rw [upd_n z, upd_n z, upd_n z, upd_n z, upd_n z, upd_n z, upd_n z, old k q]
        exact h2 k q
      · rw [upd_e, upd_e, upd_e, upd_e, upd_e, upd_e, upd_e]
        refine ⟨rfl, rfl, ?_⟩
        have hb : ∀ i, i < 32 → bt (0 ||| bit j) i = decide (i = j) := fun i hi => by rw [b_or, b_0, Bool.false_or, bt_p j i (by omega) hi]
        rw [fr_s, hb j (by omega), decide_eq_true rfl, if_pos rfl, fr_0 D (fun i hi => by rw [hb i (by omega), decide_eq_false (by omega)]), ← and_or]
        congr 1
        apply b_ext
        intro i hi
        rw [b_and, b_0, Bool.false_and]
  · rw [if_neg hl, if_neg hl]
    have hv : look ms (msk (D j) c) m < m := by omega
    generalize look ms (msk (D j) c) m = v at *
    unfold f_X0_put_J84
    simp only [lett]
    rw [getA_n (by omega) (by omega), chkA_n (by omega) (by omega), getA_n (by omega) (by omega), chkA_n (by omega) (by omega), x_cl (by omega)]
    refine ⟨_, rfl, rfl, h1, ?_⟩
    intro k hk
    simp only at hk
    show F_masks F k = ms k ∧ upd (F_members F) v (F_members F v ||| bit j) k = upd me v (me v ||| bit j) k ∧ upd (F_freshLetters F) v (F_freshLetters F v ||| (lts (D j) &&& ng)) k = fr D (upd me v (me v ||| bit j) k) (j + 1) &&& ng
    by_cases q : k = v
    · subst q
      rw [upd_e, upd_e, upd_e, (h2 k hk).1, (h2 k hk).2.1, (h2 k hk).2.2]
      refine ⟨rfl, rfl, ?_⟩
      rw [fr_s, b_or, bt_p j j (by omega) (by omega), decide_eq_true rfl, Bool.or_true, if_pos rfl, ← and_or]
      congr 2
      exact fr_cong D (fun i hi => by rw [b_or, bt_p j i (by omega) (by omega), decide_eq_false (by omega), Bool.or_false])
    · rw [upd_n q, upd_n q, upd_n q, old k hk]
      exact h2 k hk
theorem FRd_skip {D : Nat → Nat → Nat} {c : Nat} {cd ng : Int32} {j : Nat} (hj : j < 30) {F : Fm} (hc : ¬ bt cd j = true) (h : FRd D ng j F (fams D c cd j)) : FRd D ng (j + 1) F (fams D c cd (j + 1)) := by
  obtain ⟨i1, i2, i3, i4, i5⟩ := fams_I D c cd j (by omega)
  rw [show fams D c cd (j + 1) = fst_ D c cd j (fams D c cd j) from rfl, show fst_ D c cd j (fams D c cd j) = fams D c cd j from if_neg hc]
  refine ⟨h.1, fun k hk => ?_⟩
  obtain ⟨a, b, d⟩ := h.2 k hk
  refine ⟨a, b, ?_⟩
  rw [d, fr_s, i4 k j hk (by omega)]
  simp
theorem make0 {z : St} {g : GS} (h : RS z g) (ok : okG g) (F : Fm) {c : Nat} (hc : c < 26) : ∃ F', f_X0_make F z (nI (97 + c)) = some F' ∧ F_policy F' = nI (G_pol g) ∧ FRd (G_D g) (ngx (G_gs g) c) (G_n g) F' (fams (G_D g) (c + 1) (G_cd g) (G_n g)) := by
  unfold f_X0_make
  simp only [lett]
  rw [bitOf5 hc, ob, h.2.2.2.2.2.1]
  have hn := ok.1
  refine run2 (fun j a (F' : Fm) => a = nI j ∧ F_policy F' = nI (G_pol g) ∧ FRd (G_D g) (ngx (G_gs g) c) j F' (fams (G_D g) (c + 1) (G_cd g) j)) (fun r => ∃ F', r = some F' ∧ F_policy F' = nI (G_pol g) ∧ FRd (G_D g) (ngx (G_gs g) c) (G_n g) F' (fams (G_D g) (c + 1) (G_cd g) (G_n g))) (G_n g) ?_ ?_ FU _ _ (FU_gt (by omega)) ⟨rfl, h.2.1, rfl, fun k hk => absurd hk (Nat.not_lt_zero _)⟩
  · rintro j a F' hj ⟨rfl, hp, hF⟩
    have hcj := isCand2 h ok hj
    by_cases q : bt (G_cd g) j = true
    · obtain ⟨F2, e2, p2, f2⟩ := put0 (by omega) (okw_d (ok_w ok hj)) q hF
      refine ⟨nI (j + 1), F2, ⟨rfl, by rw [p2, hp], f2⟩, fun re => ?_⟩
      unfold f_X0_make_L26 lett
      rw [h.1, i_lt (by omega) (by omega), if_pos hj, hcj, ob, if_pos q, if_neg (by decide), wordAt2 h ok hj, ob, maskOf4 (okw_d (ok_w ok hj)) hc, ob, lettersOf4 (okw_d (ok_w ok hj)), ob]
      show Option.bind (f_X0_put F' (nI j) (msk (G_D g j) (c + 1)) (lts (G_D g j) &&& ngx (G_gs g) c)) _ = _
      rw [e2, ob, x_a1]
    · refine ⟨nI (j + 1), F', ⟨rfl, hp, FRd_skip (by omega) q hF⟩, fun re => ?_⟩
      unfold f_X0_make_L26 lett
      rw [h.1, i_lt (by omega) (by omega), if_pos hj, hcj, ob, if_neg q, if_pos rfl, x_a1]
  · rintro a F' ⟨rfl, hp, hF⟩ re
    unfold f_X0_make_L26
    rw [h.1, i_lt (by omega) (by omega), if_neg (by omega)]
    exact ⟨F', rfl, hp, hF⟩
