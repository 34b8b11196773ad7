/-! ===== what holds of each game that a run comes to ===== -/
def AG (g : GS) : Prop := ∀ i, bt (G_cd g) i = true → G_Z g i = G_len g ∧ ∀ k, k < G_len g → (G_pt g k ≠ 0 → G_D g i k = G_pt g k) ∧ (G_pt g k = 0 → bt (G_gs g) (G_D g i k - 1) = false)
def OD (g : GS) : Prop := ∃ q : Nat → Nat, (∀ j, j < G_gc g → G_od g j = nI (97 + q j) ∧ q j < 26 ∧ bt (G_gs g) (q j) = true) ∧ (∀ i j, i < j → j < G_gc g → q i ≠ q j) ∧ ∀ d, d < 26 → bt (G_gs g) d = true → ∃ j, j < G_gc g ∧ q j = d
def TT (g : GS) (T : Nat → Nat) : Prop := ∀ k, k < 7 → G_tot g k = nI (T k)
def bump (T : Nat → Nat) (m k : Nat) : Nat := if k = m then T k + 1 else T k
def TOT (K : Nat) (g : GS) : Prop := ∃ T : Nat → Nat, TT g T ∧ (T 0 ≤ K ∧ T 1 ≤ K ∧ T 2 ≤ K ∧ T 3 ≤ K ∧ T 4 ≤ K ∧ T 5 ≤ K ∧ T 6 ≤ K) ∧ T 1 + T 2 + (if G_st g = 1 then 1 else 0) ≤ T 0 ∧ G_gc g ≤ T 3 ∧ T 6 ≤ T 5 ∧ T 5 ≤ T 3 + T 4
def okX (K : Nat) (g : GS) : Prop := okG g ∧ (G_st g = 0 → G_len g = 0 ∧ G_cd g = 0 ∧ G_gc g = 0 ∧ G_lv g = 0) ∧ (G_st g ≠ 0 → 2 ≤ G_len g ∧ (∃ i, bt (G_cd g) i = true) ∧ AG g) ∧ (G_st g = 2 → bc (G_cd g) 31 = 1) ∧ OD g ∧ TOT K g
section INV
variable {g : GS} {K c : Nat}
theorem TT_b {T : Nat → Nat} {m : Nat} (h : TT g T) : TT (gCount g m) (bump T m) := fun k hk => by
  show upd (G_tot g) m (G_tot g m + 1) k = nI (bump T m k)
  unfold bump
  by_cases q : k = m
  · subst q
    rw [upd_e, if_pos rfl, h k hk, x_a1]
  · rw [upd_n q, if_neg q, h k hk]
theorem okX_mono {K2 : Nat} (h : okX K g) (le : K ≤ K2) : okX K2 g := by
  obtain ⟨h1, h2, h3, h4, h5, T, t1, t2, t3⟩ := h
  exact ⟨h1, h2, h3, h4, h5, T, t1, by omega, t3⟩
theorem okX_pol (h : okX K g) {j : Nat} (hj : j ≤ 2) : okX K (U_pol g j) := by
  obtain ⟨⟨o1, o2, o3, o4, o5, o6, o7, o8, o9, o10, o11, o12, o13⟩, h2, h3, h4, h5, h6⟩ := h
  exact ⟨⟨o1, hj, o3, o4, o5, o6, o7, o8, o9, o10, o11, o12, o13⟩, h2, h3, h4, h5, h6⟩
theorem OD_0 (h1 : G_gc g = 0) (h2 : G_gs g = 0) : OD g := by
  refine ⟨fun _ => 0, fun j hj => ?_, fun i j _ hj => ?_, fun d _ hb => ?_⟩
  · rw [h1] at hj; exact absurd hj (Nat.not_lt_zero _)
  · rw [h1] at hj; exact absurd hj (Nat.not_lt_zero _)
  · rw [h2, b_0] at hb; cases hb
/-- a list of words with the totals of g, and no game -/
theorem okX_none {g2 : GS} (h : TOT K g) (ok : okG (gEnd g2)) (e : G_tot g2 = G_tot g) : okX K (gEnd g2) := by
  obtain ⟨T, t1, t2, t3, t4, t5, t6⟩ := h
  refine ⟨ok, fun _ => ⟨rfl, rfl, rfl, rfl⟩, fun x => absurd rfl x, fun x => absurd x (by show ¬ (0 : Nat) = 2; omega), OD_0 rfl rfl, T, ?_, t2, ?_, Nat.zero_le _, t5, t6⟩
  · intro k hk
    show G_tot g2 k = _
    rw [e]
    exact t1 k hk
  · show T 1 + T 2 + 0 ≤ T 0
    omega
theorem okX_end (h : okX K g) : okX K (gEnd g) := okX_none h.2.2.2.2.2 (end_ok h.1) rfl
theorem okX_rem (h : okX K g) {p : Nat} (hp : p < G_n g) : okX K (gRem (gEnd g) p) := okX_none (g2 := gRem g p) h.2.2.2.2.2 (rem_ok h.1 hp) rfl
theorem addL_tot {ch : Nat → Nat} : ∀ (l : List (Nat × Nat)) (g : GS), G_tot (addL ch l g).2.1 = G_tot g
  | [], g => rfl
  | w :: l, g => by
    unfold addL
    by_cases q : inB_ g (dW ch w) = true
    · rw [if_pos q]; exact addL_tot l g
    · rw [if_neg q]
      by_cases u : G_n g = 30
      · rw [if_pos u]
      · rw [if_neg u]; exact addL_tot l (gIns g (dW ch w) (w.2 - w.1) (gPos g (dW ch w)))
theorem okX_add {ch : Nat → Nat} {l : List (Nat × Nat)} (h : okX K g) (hw : okWs ch l) (hs : G_st g ≠ 1) : okX K (gEnd (addL ch l g).2.1) := okX_none h.2.2.2.2.2 (end_ok (addL_ok l g hw h.1 hs).1) (addL_tot l g)
theorem okX_start (h : okX K g) {l v : Nat} (hl : 2 ≤ l ∧ l ≤ 8) (hv : 1 ≤ v ∧ v ≤ 20) (hw : wl g l ≠ 0) : okX (K + 1) (gStart g l v) := by
  have ok := start_ok h.1 hl hv hw
  have rn := ok.2.2.2.2.2.2.2.2.2.2.2.2 rfl
  obtain ⟨h1, h2, h3, h4, h5, T, t1, t2, t3, t4, t5, t6⟩ := h
  refine ⟨ok, fun x => absurd x (by show ¬ (1 : Nat) = 0; omega), fun _ => ⟨hl.1, rn.2.1, fun i hi => ⟨rn.1 i hi, fun k hk => ⟨fun x => absurd rfl x, fun _ => b_0 _⟩⟩⟩, fun x => absurd x (by show ¬ (1 : Nat) = 2; omega), OD_0 rfl rfl, bump T 0, TT_b (g := U_cd (U_lv (U_len (U_st (gEnd g) 1) l) v) (wl g l)) (m := 0) t1, ?_, ?_, Nat.zero_le _, t5, t6⟩
  · show T 0 + 1 ≤ K + 1 ∧ T 1 ≤ K + 1 ∧ T 2 ≤ K + 1 ∧ T 3 ≤ K + 1 ∧ T 4 ≤ K + 1 ∧ T 5 ≤ K + 1 ∧ T 6 ≤ K + 1
    omega
  · show T 1 + T 2 + 1 ≤ T 0 + 1
    omega
theorem run_ag (ok : okG g) (rn : okR g) : AG g := fun i hi => by
  have l8 := ok.2.2.2.1
  exact ⟨rn.1 i hi, fun k hk => ⟨fun x => (rn.2.2.2.1 k (by omega) x).2 i hi, fun x => rn.2.2.2.2.1 i k hi hk x⟩⟩
theorem okX_lose (h : okX K g) (hs : G_st g = 1) : okX (K + 1) (gLose g) := by
  obtain ⟨⟨o1, o2, o3, o4, o5, o6, o7, o8, o9, o10, o11, o12, o13⟩, h2, h3, h4, h5, T, t1, t2, t3, t4, t5, t6⟩ := h
  rw [if_pos hs] at t3
  refine ⟨⟨o1, o2, (by show (3 : Nat) ≤ 3; omega), o4, o5, o6, o7, o8, o9, o10, o11, o12, fun x => absurd x (by show ¬ (3 : Nat) = 1; omega)⟩, fun x => absurd x (by show ¬ (3 : Nat) = 0; omega), fun _ => h3 (by omega), fun x => absurd x (by show ¬ (3 : Nat) = 2; omega), h5, bump T 2, TT_b (g := U_st g 3) (m := 2) t1, ?_, ?_, t4, t5, t6⟩
  · show T 0 ≤ K + 1 ∧ T 1 ≤ K + 1 ∧ T 2 + 1 ≤ K + 1 ∧ T 3 ≤ K + 1 ∧ T 4 ≤ K + 1 ∧ T 5 ≤ K + 1 ∧ T 6 ≤ K + 1
    omega
  · show T 1 + (T 2 + 1) + 0 ≤ T 0
    omega
/-- a miss -/
theorem okX_miss {nar : Bool} {T : Nat → Nat} (ok : okG (gMiss g nar)) (hs : G_st g = 1) (hl : 2 ≤ G_len g) (hne : ∃ i, bt (G_cd g) i = true) (ag : AG g) (od : OD g) (tt : TT g T) (hT : T 0 ≤ K + 1 ∧ T 1 ≤ K + 1 ∧ T 2 ≤ K ∧ T 3 ≤ K + 1 ∧ T 4 ≤ K + 1 ∧ T 5 ≤ K ∧ T 6 ≤ K) (h1 : T 1 + T 2 + 1 ≤ T 0) (h2 : G_gc g ≤ T 3) (h3 : T 6 ≤ T 5) (h4 : T 5 + 1 ≤ T 3 + T 4) : okX (K + 1) (gMiss g nar) := by
  refine ⟨ok, ?_⟩
  clear ok
  unfold gMiss
  by_cases q : G_lv g - 1 = 0
  · rw [if_pos q]
    cases nar
    · refine ⟨fun x => absurd x (by show ¬ (3 : Nat) = 0; omega), fun _ => ⟨hl, hne, ag⟩, fun x => absurd x (by show ¬ (3 : Nat) = 2; omega), od, bump (bump T 5) 2, TT_b (g := U_st (U_lv (gCount g 5) (G_lv g - 1)) 3) (m := 2) (TT_b (g := g) (m := 5) tt), ?_, ?_, h2, ?_, ?_⟩
      · show T 0 ≤ K + 1 ∧ T 1 ≤ K + 1 ∧ T 2 + 1 ≤ K + 1 ∧ T 3 ≤ K + 1 ∧ T 4 ≤ K + 1 ∧ T 5 + 1 ≤ K + 1 ∧ T 6 ≤ K + 1
        omega
      · show T 1 + (T 2 + 1) + 0 ≤ T 0
        omega
      · show T 6 ≤ T 5 + 1
        omega
      · show T 5 + 1 ≤ T 3 + T 4
        omega
    · refine ⟨fun x => absurd x (by show ¬ (3 : Nat) = 0; omega), fun _ => ⟨hl, hne, ag⟩, fun x => absurd x (by show ¬ (3 : Nat) = 2; omega), od, bump (bump (bump T 5) 6) 2, TT_b (g := U_st (U_lv (gCount (gCount g 5) 6) (G_lv g - 1)) 3) (m := 2) (TT_b (g := gCount g 5) (m := 6) (TT_b (g := g) (m := 5) tt)), ?_, ?_, h2, ?_, ?_⟩
      · show T 0 ≤ K + 1 ∧ T 1 ≤ K + 1 ∧ T 2 + 1 ≤ K + 1 ∧ T 3 ≤ K + 1 ∧ T 4 ≤ K + 1 ∧ T 5 + 1 ≤ K + 1 ∧ T 6 + 1 ≤ K + 1
        omega
      · show T 1 + (T 2 + 1) + 0 ≤ T 0
        omega
      · show T 6 + 1 ≤ T 5 + 1
        omega
      · show T 5 + 1 ≤ T 3 + T 4
        omega
  · rw [if_neg q]
    cases nar
    · refine ⟨fun x => absurd (show G_st g = 0 from x) (by omega), fun _ => ⟨hl, hne, ag⟩, fun x => absurd (show G_st g = 2 from x) (by omega), od, bump T 5, TT_b (g := g) (m := 5) tt, ?_, ?_, h2, ?_, ?_⟩
      · show T 0 ≤ K + 1 ∧ T 1 ≤ K + 1 ∧ T 2 ≤ K + 1 ∧ T 3 ≤ K + 1 ∧ T 4 ≤ K + 1 ∧ T 5 + 1 ≤ K + 1 ∧ T 6 ≤ K + 1
        omega
      · show T 1 + T 2 + (if G_st g = 1 then 1 else 0) ≤ T 0
        rw [if_pos hs]; exact h1
      · show T 6 ≤ T 5 + 1
        omega
      · show T 5 + 1 ≤ T 3 + T 4
        omega
    · refine ⟨fun x => absurd (show G_st g = 0 from x) (by omega), fun _ => ⟨hl, hne, ag⟩, fun x => absurd (show G_st g = 2 from x) (by omega), od, bump (bump T 5) 6, TT_b (g := gCount g 5) (m := 6) (TT_b (g := g) (m := 5) tt), ?_, ?_, h2, ?_, ?_⟩
      · show T 0 ≤ K + 1 ∧ T 1 ≤ K + 1 ∧ T 2 ≤ K + 1 ∧ T 3 ≤ K + 1 ∧ T 4 ≤ K + 1 ∧ T 5 + 1 ≤ K + 1 ∧ T 6 + 1 ≤ K + 1
        omega
      · show T 1 + T 2 + (if G_st g = 1 then 1 else 0) ≤ T 0
        rw [if_pos hs]; exact h1
      · show T 6 + 1 ≤ T 5 + 1
        omega
      · show T 5 + 1 ≤ T 3 + T 4
        omega
theorem OD_note (od : OD g) (hc : c < 26) (hg : bt (G_gs g) c = false) : OD (gNote g c) := by
  obtain ⟨q, h1, h2, h3⟩ := od
  refine ⟨fun j => if j = G_gc g then c else q j, fun j hj => ?_, fun i j hij hj => ?_, fun d hd hb => ?_⟩
  · have hj : j < G_gc g + 1 := hj
    show upd (G_od g) (G_gc g) (nI (97 + c)) j = nI (97 + (if j = G_gc g then c else q j)) ∧ (if j = G_gc g then c else q j) < 26 ∧ bt (G_gs g ||| bit c) (if j = G_gc g then c else q j) = true
    by_cases u : j = G_gc g
    · rw [if_pos u, u, upd_e, b_or, bt_p c c (by omega) (by omega), decide_eq_true rfl, Bool.or_true]
      exact ⟨rfl, hc, rfl⟩
    · obtain ⟨a, b, d⟩ := h1 j (by omega)
      rw [upd_n u, if_neg u, b_or, d, Bool.true_or]
      exact ⟨a, b, rfl⟩
  · have hj : j < G_gc g + 1 := hj
    show (if i = G_gc g then c else q i) ≠ (if j = G_gc g then c else q j)
    rw [if_neg (show ¬ i = G_gc g by omega)]
    by_cases u : j = G_gc g
    · rw [if_pos u]
      intro e
      have := (h1 i (by omega)).2.2
      rw [e, hg] at this
      cases this
    · rw [if_neg u]
      exact h2 i j hij (by omega)
  · have hb : bt (G_gs g ||| bit c) d = true := hb
    by_cases u : d = c
    · exact ⟨G_gc g, Nat.lt_succ_self _, by show (if G_gc g = G_gc g then c else q (G_gc g)) = d; rw [if_pos rfl, u]⟩
    · rw [b_or, bt_p c d (by omega) (by omega), decide_eq_false u, Bool.or_false] at hb
      obtain ⟨j, hj, e⟩ := h3 d hd hb
      exact ⟨j, Nat.lt_succ_of_lt hj, by show (if j = G_gc g then c else q j) = d; rw [if_neg (by omega), e]⟩
theorem guess_ag (ok : okG g) (rn : okR g) (hc : c < 26) {p' : Nat → Nat} (hp : ∀ k, k < 8 → p' k = if bt (gM g c) k = true then c + 1 else G_pt g k) : ∀ i, bt (gE g c) i = true → G_Z g i = G_len g ∧ ∀ k, k < G_len g → (p' k ≠ 0 → G_D g i k = p' k) ∧ (p' k = 0 → bt (G_gs g ||| bit c) (G_D g i k - 1) = false) := by
  intro i hi
  have hne := rn.2.1
  have hb := ((gE_bt ok hne c).mp hi).1
  have l8 := ok.2.2.2.1
  refine ⟨rn.1 i hb, fun k hk => ?_⟩
  have h8 : k < 8 := by omega
  have hw := (ok_w ok (ok_cd ok hb)).2.2 k h8
  have h0 : G_D g i k ≠ 0 := hw.2.mpr (by rw [rn.1 i hb]; exact hk)
  rw [hp k h8]
  by_cases x : bt (gM g c) k = true
  · rw [if_pos x]
    exact ⟨fun _ => (gM_k ok hne c h8 hi).mp x, fun y => absurd y (by omega)⟩
  · rw [if_neg x]
    refine ⟨fun y => (rn.2.2.2.1 k h8 y).2 i hb, fun y => ?_⟩
    have hne1 : G_D g i k ≠ c + 1 := fun e => x ((gM_k ok hne c h8 hi).mpr e)
    rw [b_or, rn.2.2.2.2.1 i k hb hk y, Bool.false_or, bt_p c _ (by omega) (by omega), decide_eq_false (by omega)]
theorem one_cd {x : Int32} {p : Nat} (hp : p < 31) (hb : bt x p = true) (hx : bt x 31 = false) (h : ∀ i, bt x i = true → i = p) : bc x 31 = 1 := (one_bit hp hb hx).mp (b_ext (fun i hi => by
  rw [show bt (bit p) i = decide (i = p) from bt_p p i (by omega) hi]
  by_cases y : i = p
  · rw [y, hb, decide_eq_true rfl]
  · rw [decide_eq_false y]
    cases e : bt x i
    · rfl
    · exact absurd (h i e) y))
theorem same_one (ok : okG g) (ag : AG g) (hall : ∀ k, k < G_len g → G_pt g k ≠ 0) (hne : ∃ i, bt (G_cd g) i = true) : bc (G_cd g) 31 = 1 := by
  obtain ⟨p, hp⟩ := hne
  have n30 := ok.1
  have pn := ok_cd ok hp
  have same : ∀ i, bt (G_cd g) i = true → encN (G_D g i) = encN (G_D g p) := fun i hi => encN_cong (fun k hk => by
    obtain ⟨z1, a1⟩ := ag i hi
    obtain ⟨z2, a2⟩ := ag p hp
    by_cases y : k < G_len g
    · rw [(a1 k y).1 (hall k y), (a2 k y).1 (hall k y)]
    · have w1 := ((ok_w ok (ok_cd ok hi)).2.2 k hk).2
      have w2 := ((ok_w ok pn).2.2 k hk).2
      have e1 : G_D g i k = 0 := Classical.byContradiction (fun x => by have := w1.mp x; omega)
      have e2 : G_D g p k = 0 := Classical.byContradiction (fun x => by have := w2.mp x; omega)
      rw [e1, e2])
  refine one_cd (by omega) hp (cd31 ok) (fun i hi => ?_)
  have so := ok.2.2.2.2.2.2.2.2.2.1
  have e := same i hi
  rcases Nat.lt_trichotomy i p with y | y | y
  · have := so i p y pn; omega
  · exact y
  · have := so p i y (ok_cd ok hi); omega
theorem okX_guess (h : okX K g) (hs : G_st g = 1) (hc : c < 26) (hg : bt (G_gs g) c = false) : okX (K + 1) (gGuess g c) := by
  obtain ⟨ok, h2, h3, h4, od, T, t1, t2, t3, t4, t5, t6⟩ := h
  have rn := ok.2.2.2.2.2.2.2.2.2.2.2.2 hs
  have okn := guess_ok ok rn hc hg
  obtain ⟨hl, -, -⟩ := h3 (by omega)
  have hne := gE_ne ok rn.2.1 c
  have odn := OD_note od hc hg
  rw [if_pos hs] at t3
  have tn : TT (gNote g c) (bump T 3) := TT_b (g := U_gs (U_gc (U_od g (upd (G_od g) (G_gc g) (nI (97 + c)))) (G_gc g + 1)) (G_gs g ||| bit c)) (m := 3) t1
  unfold gGuess gTake at okn ⊢
  by_cases q : gM g c = 0
  · rw [if_pos q] at okn ⊢
    refine okX_miss (g := U_cd (gNote g c) (gE g c)) (T := bump T 3) okn hs hl hne (guess_ag ok rn hc (p' := G_pt g) (fun k hk => by rw [if_neg (by rw [q, b_0]; decide)])) odn tn ?_ ?_ ?_ ?_ ?_
    · show T 0 ≤ K + 1 ∧ T 1 ≤ K + 1 ∧ T 2 ≤ K ∧ T 3 + 1 ≤ K + 1 ∧ T 4 ≤ K + 1 ∧ T 5 ≤ K ∧ T 6 ≤ K
      omega
    · show T 1 + T 2 + 1 ≤ T 0
      omega
    · show G_gc g + 1 ≤ T 3 + 1
      omega
    · show T 6 ≤ T 5
      omega
    · show T 5 + 1 ≤ T 3 + 1 + T 4
      omega
  · rw [if_neg q] at okn ⊢
    have ag : AG (gShow g c (gM g c) (gE g c)) := guess_ag ok rn hc (p' := fun k => if bt (gM g c) k = true then c + 1 else G_pt g k) (fun k _ => rfl)
    by_cases w : szN (G_pt (gShow g c (gM g c) (gE g c))) = G_len g
    · rw [if_pos w] at okn ⊢
      refine ⟨okn, fun x => absurd x (by show ¬ (2 : Nat) = 0; omega), fun _ => ⟨hl, hne, ag⟩, fun _ => ?_, odn, bump (bump T 3) 1, TT_b (g := U_st (gShow g c (gM g c) (gE g c)) 2) (m := 1) tn, ?_, ?_, ?_, ?_, ?_⟩
      · refine same_one okn ag (fun k hk => ?_) hne
        have p0 : ∀ k, k < 8 → G_len g ≤ k → G_pt (gShow g c (gM g c) (gE g c)) k = 0 := okn.2.2.2.2.2.2.2.2.2.2.2.1
        rw [szN_len ok.2.2.2.1 p0] at w
        exact of_decide_eq_true (fb_ct_all.mp w k hk)
      · show T 0 ≤ K + 1 ∧ T 1 + 1 ≤ K + 1 ∧ T 2 ≤ K + 1 ∧ T 3 + 1 ≤ K + 1 ∧ T 4 ≤ K + 1 ∧ T 5 ≤ K + 1 ∧ T 6 ≤ K + 1
        omega
      · show T 1 + 1 + T 2 + 0 ≤ T 0
        omega
      · show G_gc g + 1 ≤ T 3 + 1
        omega
      · show T 6 ≤ T 5
        omega
      · show T 5 ≤ T 3 + 1 + T 4
        omega
    · rw [if_neg w] at okn ⊢
      refine ⟨okn, fun x => absurd (show G_st g = 0 from x) (by omega), fun _ => ⟨hl, hne, ag⟩, fun x => absurd (show G_st g = 2 from x) (by omega), odn, bump T 3, tn, ?_, ?_, ?_, ?_, ?_⟩
      · show T 0 ≤ K + 1 ∧ T 1 ≤ K + 1 ∧ T 2 ≤ K + 1 ∧ T 3 + 1 ≤ K + 1 ∧ T 4 ≤ K + 1 ∧ T 5 ≤ K + 1 ∧ T 6 ≤ K + 1
        omega
      · show T 1 + T 2 + (if G_st g = 1 then 1 else 0) ≤ T 0
        rw [if_pos hs]; exact t3
      · show G_gc g + 1 ≤ T 3 + 1
        omega
      · show T 6 ≤ T 5
        omega
      · show T 5 ≤ T 3 + 1 + T 4
        omega
/-- a word guessed, of the game's length -/
theorem okX_word (h : okX K g) (hs : G_st g = 1) {d : Nat → Nat} (hd : okw d (G_len g)) {cand : Bool} (hc : cand = true ↔ inL g d ∧ bt (G_cd g) (gPos g d) = true) : okX (K + 1) (gWord g d cand) := by
  obtain ⟨ok, h2, h3, h4, od, T, t1, t2, t3, t4, t5, t6⟩ := h
  have rn := ok.2.2.2.2.2.2.2.2.2.2.2.2 hs
  have hz : ∀ k, k < 8 → G_len g ≤ k → d k = 0 := fun k hk hl => Classical.byContradiction (fun x => by have := ((hd.2.2 k hk).2).mp x; omega)
  have okn := word_ok ok rn hs (okw_d hd) hz (cand := cand) (fun x => ⟨(hc.mp x).1.1, (hc.mp x).2⟩)
  obtain ⟨hl, hne, ag⟩ := h3 (by omega)
  have n30 := ok.1
  rw [if_pos hs] at t3
  have tn : TT (gCount g 4) (bump T 4) := TT_b (g := g) (m := 4) t1
  have hT : bump T 4 0 ≤ K + 1 ∧ bump T 4 1 ≤ K + 1 ∧ bump T 4 2 ≤ K ∧ bump T 4 3 ≤ K + 1 ∧ bump T 4 4 ≤ K + 1 ∧ bump T 4 5 ≤ K ∧ bump T 4 6 ≤ K := by
    show T 0 ≤ K + 1 ∧ T 1 ≤ K + 1 ∧ T 2 ≤ K ∧ T 3 ≤ K + 1 ∧ T 4 + 1 ≤ K + 1 ∧ T 5 ≤ K ∧ T 6 ≤ K
    omega
  have hT4 : bump T 4 5 + 1 ≤ bump T 4 3 + bump T 4 4 := by
    show T 5 + 1 ≤ T 3 + (T 4 + 1)
    omega
  unfold gWord at okn ⊢
  by_cases q : cand = true
  · obtain ⟨hin, hb⟩ := hc.mp q
    have hp := hin.1
    rw [if_pos q] at okn ⊢
    by_cases w : bc (G_cd g) 31 = 1
    · rw [if_pos w] at okn ⊢
      have hx := (one_bit (by omega) hb (cd31 ok)).mpr w
      have only : ∀ i, bt (G_cd g) i = true → i = gPos g d := fun i hi => by
        have i30 := ok_cd ok hi
        rw [← hx, show bt (bit (gPos g d)) i = decide (i = gPos g d) from bt_p _ i (by omega) (by omega)] at hi
        exact of_decide_eq_true hi
      have eqd := encN_inj (okd_32 (okw_d (ok_w ok hp))) (okd_32 (okw_d hd)) hin.2
      have l8 := ok.2.2.2.1
      refine ⟨okn, fun x => absurd x (by show ¬ (2 : Nat) = 0; omega), fun _ => ⟨hl, hne, fun i hi => ⟨(ag i hi).1, fun k hk => ⟨fun _ => ?_, fun x => ?_⟩⟩⟩, fun _ => w, od, bump (bump T 4) 1, TT_b (g := U_st (U_pt (gCount g 4) d) 2) (m := 1) tn, ?_, ?_, t4, t5, ?_⟩
      · have hk : k < G_len g := hk
        rw [show i = gPos g d from only i hi]
        exact eqd k (by omega)
      · have hk : k < G_len g := hk
        exact absurd (show d k = 0 from x) ((hd.2.2 k (by omega)).2.mpr hk)
      · show T 0 ≤ K + 1 ∧ T 1 + 1 ≤ K + 1 ∧ T 2 ≤ K + 1 ∧ T 3 ≤ K + 1 ∧ T 4 + 1 ≤ K + 1 ∧ T 5 ≤ K + 1 ∧ T 6 ≤ K + 1
        omega
      · show T 1 + 1 + T 2 + 0 ≤ T 0
        omega
      · show T 5 ≤ T 3 + (T 4 + 1)
        omega
    · rw [if_neg w] at okn ⊢
      have sub : ∀ i, bt (gOut g (gPos g d)) i = true → bt (G_cd g) i = true := fun i hi => by
        rw [b_and, Bool.and_eq_true] at hi; exact hi.1
      have left : ∃ i, bt (gOut g (gPos g d)) i = true := by
        refine Classical.byContradiction (fun x => w (one_cd (by omega) hb (cd31 ok) (fun i hi => ?_)))
        refine Classical.byContradiction (fun y => x ⟨i, ?_⟩)
        have i30 := ok_cd ok hi
        rw [b_and, hi, bt_not _ i (by omega), show bt (bit (gPos g d)) i = decide (i = gPos g d) from bt_p _ i (by omega) (by omega), decide_eq_false y]
        rfl
      exact okX_miss (g := U_cd (gCount g 4) (gOut g (gPos g d))) (T := bump T 4) okn hs hl left (fun i hi => ag i (sub i hi)) od tn hT t3 t4 t5 hT4
  · rw [if_neg q] at okn ⊢
    exact okX_miss (g := gCount g 4) (T := bump T 4) okn hs hl hne ag od tn hT t3 t4 t5 hT4
end INV
