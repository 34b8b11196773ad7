/-! ===== stage B: a guess ===== -/
def gF (g : GS) (c : Nat) : FS := fams (G_D g) (c + 1) (G_cd g) (G_n g)
def gR (g : GS) (c : Nat) : Nat → Int32 := rkI (G_pol g) (G_D g) (ngx (G_gs g) c) (G_n g) (gF g c)
def gV (g : GS) (c : Nat) : Nat := look (gR g c) 0 (gF g c).2.2
def gM (g : GS) (c : Nat) : Int32 := (gF g c).1 (gV g c)
def gE (g : GS) (c : Nat) : Int32 := (gF g c).2.1 (gV g c)
def gGuess (g : GS) (c : Nat) : GS := gTake g c (gM g c) (gE g c) (decide (1 < (gF g c).2.2))
section GF
variable {g : GS}
theorem gF_I (ok : okG g) (c : Nat) : FI (G_D g) (c + 1) (G_cd g) (G_n g) (gF g c) := fams_I _ _ _ _ (by have := ok.1; omega)
theorem gF_le (ok : okG g) (c : Nat) : (gF g c).2.2 ≤ 30 := Nat.le_trans (gF_I ok c).1 ok.1
theorem ok_D (ok : okG g) : ∀ w, w < G_n g → okd (G_D g w) := fun _ hw => okw_d (ok_w ok hw)
theorem gF_pos (ok : okG g) (hc : ∃ i, bt (G_cd g) i = true) (c : Nat) : 0 < (gF g c).2.2 := by
  obtain ⟨i, hi⟩ := hc
  obtain ⟨k, hk, _⟩ := (gF_I ok c).2.2.2.2 i (ok_cd ok hi) hi
  omega
theorem gV_lt (ok : okG g) (hc : ∃ i, bt (G_cd g) i = true) (c : Nat) : gV g c < (gF g c).2.2 := rank_in (gF_I ok c) ok.1 (p := 0) (gF_pos ok hc c)
theorem cd32 (ok : okG g) {i : Nat} (hi : bt (G_cd g) i = true) : i < 32 := by have := ok_cd ok hi; have := ok.1; omega
theorem gE_bt (ok : okG g) (hc : ∃ i, bt (G_cd g) i = true) (c : Nat) {i : Nat} : bt (gE g c) i = true ↔ bt (G_cd g) i = true ∧ gM g c = msk (G_D g i) (c + 1) := by
  have h := (gF_I ok c).2.2.2.1 (gV g c) i (gV_lt ok hc c)
  rcases Nat.lt_or_ge i 32 with q | q
  · have h := h q
    show bt ((gF g c).2.1 (gV g c)) i = true ↔ bt (G_cd g) i = true ∧ (gF g c).1 (gV g c) = _
    rw [h, Bool.and_eq_true, Bool.and_eq_true, decide_eq_true_eq, decide_eq_true_eq]
    exact ⟨fun x => ⟨x.1.2, x.2⟩, fun x => ⟨⟨ok_cd ok x.1, x.1⟩, x.2⟩⟩
  · constructor
    · intro x; rw [b_big q] at x; cases x
    · intro x; rw [b_big q] at x; cases x.1
theorem gM_w (ok : okG g) (hc : ∃ i, bt (G_cd g) i = true) (c : Nat) : ∃ w, bt (G_cd g) w = true ∧ gM g c = msk (G_D g w) (c + 1) := by
  obtain ⟨w, _, h⟩ := (gF_I ok c).2.2.1 (gV g c) (gV_lt ok hc c)
  exact ⟨w, h⟩
theorem gE_ne (ok : okG g) (hc : ∃ i, bt (G_cd g) i = true) (c : Nat) : ∃ i, bt (gE g c) i = true := by
  obtain ⟨w, h⟩ := gM_w ok hc c
  exact ⟨w, (gE_bt ok hc c).mpr h⟩
theorem gM_k (ok : okG g) (hc : ∃ i, bt (G_cd g) i = true) (c : Nat) {k i : Nat} (hk : k < 8) (hi : bt (gE g c) i = true) : bt (gM g c) k = true ↔ G_D g i k = c + 1 := by
  rw [((gE_bt ok hc c).mp hi).2, bt_msk _ _ (by omega), decide_eq_true hk, Bool.true_and, decide_eq_true_eq]
theorem gM_8 (ok : okG g) (hc : ∃ i, bt (G_cd g) i = true) (c : Nat) {k : Nat} (h : bt (gM g c) k = true) : k < 8 := by
  obtain ⟨w, _, e⟩ := gM_w ok hc c
  rcases Nat.lt_or_ge k 8 with q | q
  · exact q
  · rw [e, msk_hi _ _ q] at h; cases h
theorem gnar (ok : okG g) (hc : ∃ i, bt (G_cd g) i = true) (c : Nat) : gE g c = G_cd g ↔ decide (1 < (gF g c).2.2) = false := by
  have hI := gF_I ok c
  have hv := gV_lt ok hc c
  rw [decide_eq_false_iff_not]
  constructor
  · intro e h
    obtain ⟨u, hu, hne⟩ : ∃ u, u < (gF g c).2.2 ∧ u ≠ gV g c := by
      by_cases q : gV g c = 0
      · exact ⟨1, h, by omega⟩
      · exact ⟨0, by omega, fun x => q x.symm⟩
    obtain ⟨w, hw, h1, h2⟩ := hI.2.2.1 u hu
    have := (gE_bt ok hc c (i := w)).mp (by rw [e]; exact h1)
    have e2 : (gF g c).1 u = (gF g c).1 (gV g c) := by rw [h2]; exact this.2.symm
    rcases (show u < gV g c ∨ gV g c < u by omega) with z | z
    · exact hI.2.1 u _ z hv e2
    · exact hI.2.1 _ u z hu e2.symm
  · intro h
    apply b_ext
    intro i hi
    have key : bt (gE g c) i = true ↔ bt (G_cd g) i = true := by
      rw [gE_bt ok hc c]
      refine ⟨fun x => x.1, fun x => ⟨x, ?_⟩⟩
      obtain ⟨k, hk, e⟩ := hI.2.2.2.2 i (ok_cd ok x) x
      rw [← e, show k = gV g c by omega]
      rfl
    cases a : bt (gE g c) i <;> cases b : bt (G_cd g) i
    · rfl
    · rw [a, b] at key; exact absurd (key.mpr rfl) (by decide)
    · rw [a, b] at key; exact absurd (key.mp rfl) (by decide)
    · rfl
/-- what is known of a game that runs, with a letter that was not guessed -/
theorem gM_hid (ok : okG g) (rn : okR g) {c : Nat} (hc : c < 26) (hg : bt (G_gs g) c = false) : ∀ k, bt (gM g c) k = true → k < G_len g ∧ G_pt g k = 0 := by
  intro k h
  have hne := rn.2.1
  have h8 := gM_8 ok hne c h
  obtain ⟨i, hi⟩ := gE_ne ok hne c
  have hci := ((gE_bt ok hne c).mp hi).1
  have hD := (gM_k ok hne c h8 hi).mp h
  have hw := (ok_w ok (ok_cd ok hci)).2.2 k h8
  refine ⟨?_, ?_⟩
  · rw [← rn.1 i hci]
    exact hw.2.mp (by omega)
  · refine Classical.byContradiction (fun q => ?_)
    obtain ⟨a, b⟩ := rn.2.2.2.1 k h8 q
    rw [← b i hci, hD, Nat.add_sub_cancel, hg] at a
    cases a
theorem gc_lt (ok : okG g) {c : Nat} (hc : c < 26) (hg : bt (G_gs g) c = false) : G_gc g < 26 := by
  have h := ok.2.2.2.2.2.1
  have : ¬ bc (G_gs g) 26 = 26 := fun q => by
    have := fb_ct_all.mp q c hc
    rw [hg] at this; cases this
  have := bc_le (G_gs g) 26
  omega
theorem szN_len {p : Nat → Nat} {l : Nat} (hl : l ≤ 8) (h : ∀ k, k < 8 → l ≤ k → p k = 0) : szN p = fb_ct (fun k => decide (p k ≠ 0)) l := by
  unfold szN
  rw [show (8 : Nat) = l + (8 - l) by omega, fb_ct_split]
  have : fb_ct (fun k => decide (p (l + k) ≠ 0)) (8 - l) = 0 := fb_ct_zero.mpr (fun k hk => by rw [h (l + k) (by omega) (by omega)]; rfl)
  omega
end GF
section OKG
variable {g : GS}
theorem ok_note (ok : okG g) {c : Nat} (hc : c < 26) (hg : bt (G_gs g) c = false) : G_gc g + 1 = bc (G_gs g ||| bit c) 26 ∧ ∀ i, 26 ≤ i → bt (G_gs g ||| bit c) i = false := by
  refine ⟨?_, fun i hi => ?_⟩
  · have e := fb_ct_upd (bt (G_gs g)) true hc
    rw [if_pos rfl, hg, if_neg (by decide)] at e
    have e2 : bc (G_gs g ||| bit c) 26 = fb_ct (fun k => if k = c then true else bt (G_gs g) k) 26 := fb_ct_cong (fun k hk => by
      rw [b_or, bt_p c k (by omega) (by omega)]
      by_cases q : k = c
      · rw [if_pos q, decide_eq_true q, Bool.or_true]
      · rw [if_neg q, decide_eq_false q, Bool.or_false])
    have e3 := ok.2.2.2.2.2.1
    rw [e2, e3]
    show fb_ct (bt (G_gs g)) 26 + 1 = _
    omega
  · rw [b_or, ok.2.2.2.2.2.2.1 i hi, Bool.false_or]
    rcases Nat.lt_or_ge i 32 with q | q
    · rw [bt_p c i (by omega) q, decide_eq_false (by omega)]
    · exact b_big q
theorem gMiss_st (g : GS) (nar : Bool) : G_st (gMiss g nar) = if G_lv g - 1 = 0 then 3 else G_st g := by
  unfold gMiss
  by_cases q : G_lv g - 1 = 0
  · rw [if_pos q, if_pos q]
  · rw [if_neg q, if_neg q]; cases nar <;> rfl
/-- what a miss leaves -/
theorem gMiss_ok (ok : okG g) (nar : Bool) (hr : G_lv g - 1 ≠ 0 → G_st g = 1 → okR g) : okG (gMiss g nar) := by
  obtain ⟨o1, o2, o3, o4, o5, o6, o7, o8, o9, o10, o11, o12, o13⟩ := ok
  unfold gMiss
  by_cases q : G_lv g - 1 = 0
  · rw [if_pos q]
    cases nar
    · exact ⟨o1, o2, (by show (3 : Nat) ≤ 3; omega), o4, (by show G_lv g - 1 ≤ 20; omega), o6, o7, o8, o9, o10, o11, o12, fun h => absurd h (by show ¬ (3 : Nat) = 1; omega)⟩
    · exact ⟨o1, o2, (by show (3 : Nat) ≤ 3; omega), o4, (by show G_lv g - 1 ≤ 20; omega), o6, o7, o8, o9, o10, o11, o12, fun h => absurd h (by show ¬ (3 : Nat) = 1; omega)⟩
  · rw [if_neg q]
    cases nar
    · exact ⟨o1, o2, o3, o4, (by show G_lv g - 1 ≤ 20; omega), o6, o7, o8, o9, o10, o11, o12, fun h => ⟨(hr q h).1, (hr q h).2.1, (hr q h).2.2.1, (hr q h).2.2.2.1, (hr q h).2.2.2.2.1, (by show 1 ≤ G_lv g - 1; omega)⟩⟩
    · exact ⟨o1, o2, o3, o4, (by show G_lv g - 1 ≤ 20; omega), o6, o7, o8, o9, o10, o11, o12, fun h => ⟨(hr q h).1, (hr q h).2.1, (hr q h).2.2.1, (hr q h).2.2.2.1, (hr q h).2.2.2.2.1, (by show 1 ≤ G_lv g - 1; omega)⟩⟩
theorem guess_ok (ok : okG g) (rn : okR g) {c : Nat} (hc : c < 26) (hg : bt (G_gs g) c = false) : okG (gGuess g c) := by
  have hne := rn.2.1
  have hb : ∀ i, bt (gE g c) i = true → bt (G_cd g) i = true := fun i h => ((gE_bt ok hne c).mp h).1
  have nt := ok_note ok hc hg
  have hid := gM_hid ok rn hc hg
  obtain ⟨o1, o2, o3, o4, o5, o6, o7, o8, o9, o10, o11, o12, o13⟩ := id ok
  obtain ⟨r1, r2, r3, r4, r5, r6⟩ := id rn
  unfold gGuess gTake
  by_cases q : gM g c = 0
  · rw [if_pos q]
    refine gMiss_ok (g := U_cd (gNote g c) (gE g c)) ⟨o1, o2, o3, o4, o5, nt.1, nt.2, fun i hi => o8 i (hb i hi), o9, o10, o11, o12, ?_⟩ _ ?_
    rotate_left
    · intro _ _
      refine ⟨fun i hi => r1 i (hb i hi), gE_ne ok hne c, r3, ?_, ?_, r6⟩
      · intro k hk hp
        obtain ⟨a, b⟩ := r4 k hk hp
        exact ⟨by show bt (G_gs g ||| bit c) (G_pt g k - 1) = true; rw [b_or, a, Bool.true_or], fun i hi => b i (hb i hi)⟩
      · intro i k hi hk hp
        show bt (G_gs g ||| bit c) (G_D g i k - 1) = false
        have h8 : k < 8 := by have : k < G_len g := hk; omega
        have hw := (ok_w ok (ok_cd ok (hb i hi))).2.2 k h8
        have hz := r1 i (hb i hi)
        have h0 : G_D g i k ≠ 0 := hw.2.mpr (by rw [hz]; exact hk)
        have hne1 : G_D g i k ≠ c + 1 := fun e => by
          have := (gM_k ok hne c h8 hi).mpr e
          rw [q, b_0] at this; cases this
        rw [b_or, r5 i k (hb i hi) hk hp, Bool.false_or, bt_p c _ (by omega) (by omega), decide_eq_false (by omega)]
    · intro _
      refine ⟨fun i hi => r1 i (hb i hi), gE_ne ok hne c, r3, ?_, ?_, r6⟩
      · intro k hk hp
        obtain ⟨a, b⟩ := r4 k hk hp
        exact ⟨by show bt (G_gs g ||| bit c) (G_pt g k - 1) = true; rw [b_or, a, Bool.true_or], fun i hi => b i (hb i hi)⟩
      · intro i k hi hk hp
        show bt (G_gs g ||| bit c) (G_D g i k - 1) = false
        have h8 : k < 8 := by have : k < G_len g := hk; omega
        have hw := (ok_w ok (ok_cd ok (hb i hi))).2.2 k h8
        have hz := r1 i (hb i hi)
        have h0 : G_D g i k ≠ 0 := hw.2.mpr (by rw [hz]; exact hk)
        have hne1 : G_D g i k ≠ c + 1 := fun e => by
          have := (gM_k ok hne c h8 hi).mpr e
          rw [q, b_0] at this; cases this
        rw [b_or, r5 i k (hb i hi) hk hp, Bool.false_or, bt_p c _ (by omega) (by omega), decide_eq_false (by omega)]
  · rw [if_neg q]
    have p27 : ∀ k, k < 8 → G_pt (gShow g c (gM g c) (gE g c)) k < 27 := by
      intro k hk
      show (if bt (gM g c) k = true then c + 1 else G_pt g k) < 27
      by_cases x : bt (gM g c) k = true
      · rw [if_pos x]; omega
      · rw [if_neg x]; exact o11 k hk
    have p0 : ∀ k, k < 8 → G_len g ≤ k → G_pt (gShow g c (gM g c) (gE g c)) k = 0 := by
      intro k hk hl
      show (if bt (gM g c) k = true then c + 1 else G_pt g k) = 0
      rw [if_neg (fun x => by have := (hid k x).1; omega)]
      exact o12 k hk hl
    by_cases w : szN (G_pt (gShow g c (gM g c) (gE g c))) = G_len g
    · rw [if_pos w]
      exact ⟨o1, o2, (by show (2 : Nat) ≤ 3; omega), o4, o5, nt.1, nt.2, fun i hi => o8 i (hb i hi), o9, o10, p27, p0, fun h => absurd h (by show ¬ (2 : Nat) = 1; omega)⟩
    · rw [if_neg w]
      refine ⟨o1, o2, o3, o4, o5, nt.1, nt.2, fun i hi => o8 i (hb i hi), o9, o10, p27, p0, fun _ => ?_⟩
      refine ⟨fun i hi => r1 i (hb i hi), gE_ne ok hne c, ?_, ?_, ?_, r6⟩
      · refine Classical.byContradiction (fun x => w ?_)
        rw [szN_len o4 p0]
        refine fb_ct_all.mpr (fun k hk => decide_eq_true (fun y => x ⟨k, hk, y⟩))
      · intro k hk hp
        have hp : (if bt (gM g c) k = true then c + 1 else G_pt g k) ≠ 0 := hp
        show bt (G_gs g ||| bit c) ((if bt (gM g c) k = true then c + 1 else G_pt g k) - 1) = true ∧ ∀ i, bt (gE g c) i = true → G_D g i k = (if bt (gM g c) k = true then c + 1 else G_pt g k)
        by_cases x : bt (gM g c) k = true
        · rw [if_pos x]
          refine ⟨by rw [Nat.add_sub_cancel, b_or, bt_p c c (by omega) (by omega), decide_eq_true rfl, Bool.or_true], fun i hi => (gM_k ok hne c hk hi).mp x⟩
        · rw [if_neg x] at hp ⊢
          obtain ⟨a, b⟩ := r4 k hk hp
          exact ⟨by rw [b_or, a, Bool.true_or], fun i hi => b i (hb i hi)⟩
      · intro i k hi hk hp
        have hp : (if bt (gM g c) k = true then c + 1 else G_pt g k) = 0 := hp
        have hk : k < G_len g := hk
        show bt (G_gs g ||| bit c) (G_D g i k - 1) = false
        have h8 : k < 8 := by omega
        by_cases x : bt (gM g c) k = true
        · rw [if_pos x] at hp; omega
        · rw [if_neg x] at hp
          have hw := (ok_w ok (ok_cd ok (hb i hi))).2.2 k h8
          have hz := r1 i (hb i hi)
          have h0 : G_D g i k ≠ 0 := hw.2.mpr (by rw [hz]; exact hk)
          have hne1 : G_D g i k ≠ c + 1 := fun e => x ((gM_k ok hne c h8 hi).mpr e)
          rw [b_or, r5 i k (hb i hi) hk hp, Bool.false_or, bt_p c _ (by omega) (by omega), decide_eq_false (by omega)]
theorem gMiss_all (g : GS) (nar : Bool) : G_gc (gMiss g nar) = G_gc g ∧ G_cd (gMiss g nar) = G_cd g ∧ G_n (gMiss g nar) = G_n g := by
  unfold gMiss
  by_cases q : G_lv g - 1 = 0
  · rw [if_pos q]; cases nar <;> exact ⟨rfl, rfl, rfl⟩
  · rw [if_neg q]; cases nar <;> exact ⟨rfl, rfl, rfl⟩
theorem guess_all (g : GS) (c : Nat) : G_gc (gGuess g c) = G_gc g + 1 ∧ G_cd (gGuess g c) = gE g c ∧ G_n (gGuess g c) = G_n g := by
  unfold gGuess gTake
  by_cases q : gM g c = 0
  · rw [if_pos q]
    exact gMiss_all _ _
  · rw [if_neg q]
    by_cases w : szN (G_pt (gShow g c (gM g c) (gE g c))) = G_len g
    · rw [if_pos w]; exact ⟨rfl, rfl, rfl⟩
    · rw [if_neg w]; exact ⟨rfl, rfl, rfl⟩
end OKG
