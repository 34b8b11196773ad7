/-! ===== stage B: a word guessed ===== -/
theorem bit_ne {p : Nat} (hp : p < 32) : bit p ≠ 0 := fun h => by
  have := bt_p p p hp hp
  have h2 : bt (bit p) p = false := by rw [h]; exact b_0 p
  rw [show bt (1 <<< (nI p &&& 31)) p = bt (bit p) p from rfl, h2, decide_eq_true rfl] at this
  cases this
theorem one_bit {x : Int32} {p : Nat} (hp : p < 31) (hb : bt x p = true) (hx : bt x 31 = false) : bit p = x ↔ bc x 31 = 1 := by
  constructor
  · intro h
    have e : bc x 31 = fb_ct (fun k => if k = p then true else bt 0 k) 31 := fb_ct_cong (fun k hk => by
      rw [← h, show bt (bit p) k = decide (k = p) from bt_p p k (by omega) (by omega)]
      by_cases q : k = p
      · rw [if_pos q, decide_eq_true q]
      · rw [if_neg q, decide_eq_false q, b_0])
    have e2 := fb_ct_upd (bt 0) true hp
    have e3 : fb_ct (bt 0) 31 = 0 := fb_ct_zero.mpr (fun k _ => b_0 k)
    rw [if_pos rfl, b_0, if_neg (by decide), e3] at e2
    rw [e]
    omega
  · intro h
    apply b_ext
    intro i hi
    rw [show bt (bit p) i = decide (i = p) from bt_p p i (by omega) hi]
    by_cases q : i = p
    · rw [q, hb, decide_eq_true rfl]
    · rw [decide_eq_false q]
      cases e : bt x i
      · rfl
      · have i31 : i < 31 := by
          rcases (show i < 31 ∨ i = 31 by omega) with y | rfl
          · exact y
          · rw [hx] at e; cases e
        have e2 := fb_ct_upd (bt x) false hp
        rw [hb, if_pos rfl, if_neg (by decide)] at e2
        have e3 : 0 < fb_ct (fun k => if k = p then false else bt x k) 31 := fb_ct_pos.mpr ⟨i, i31, by rw [if_neg q]; exact e⟩
        have : fb_ct (bt x) 31 = 1 := h
        omega
abbrev gOut (g : GS) (p : Nat) : Int32 := G_cd g &&& (bit p ^^^ (-1))
def gWord (g : GS) (d : Nat → Nat) (cand : Bool) : GS :=
  if cand = true then (if bc (G_cd g) 31 = 1 then gWin (U_pt (gCount g 4) d) else gMiss (U_cd (gCount g 4) (gOut g (gPos g d))) true)
  else gMiss (gCount g 4) false
section GW
variable {z : St} {V : Sv} {T : Tx} {g : GS} {d : Nat → Nat}
theorem cd31 (ok : okG g) : bt (G_cd g) 31 = false := by
  cases e : bt (G_cd g) 31
  · rfl
  · have := ok_cd ok e; have := ok.1; omega
theorem word_ok (ok : okG g) (rn : okR g) (hst : G_st g = 1) {cand : Bool} (hd : okd d) (hz : ∀ k, k < 8 → G_len g ≤ k → d k = 0) (hc : cand = true → gPos g d < G_n g ∧ bt (G_cd g) (gPos g d) = true) : okG (gWord g d cand) := by
  obtain ⟨o1, o2, o3, o4, o5, o6, o7, o8, o9, o10, o11, o12, o13⟩ := id ok
  unfold gWord
  by_cases q : cand = true
  · obtain ⟨h1, h2⟩ := hc q
    rw [if_pos q]
    by_cases w : bc (G_cd g) 31 = 1
    · rw [if_pos w]
      exact ⟨o1, o2, (by show (2 : Nat) ≤ 3; omega), o4, o5, o6, o7, o8, o9, o10, hd, hz, fun h => absurd h (by show ¬ (2 : Nat) = 1; omega)⟩
    · rw [if_neg w]
      have sub : ∀ i, bt (gOut g (gPos g d)) i = true → bt (G_cd g) i = true := fun i hi => by
        rw [b_and, Bool.and_eq_true] at hi; exact hi.1
      have okr : okR (U_cd (gCount g 4) (gOut g (gPos g d))) := by
        obtain ⟨r1, r2, r3, r4, r5, r6⟩ := rn
        refine ⟨fun i hi => r1 i (sub i hi), ?_, r3, fun k hk hp => ⟨(r4 k hk hp).1, fun i hi => (r4 k hk hp).2 i (sub i hi)⟩, fun i k hi hk hp => r5 i k (sub i hi) hk hp, r6⟩
        refine Classical.byContradiction (fun x => w ((one_bit (by omega) h2 (cd31 ok)).mp (b_ext (fun i hi => ?_))))
        rw [show bt (bit (gPos g d)) i = decide (i = gPos g d) from bt_p _ i (by omega) hi]
        by_cases y : i = gPos g d
        · rw [y, h2, decide_eq_true rfl]
        · rw [decide_eq_false y]
          cases e : bt (G_cd g) i
          · rfl
          · refine absurd ⟨i, ?_⟩ x
            show bt (gOut g (gPos g d)) i = true
            rw [b_and, e, bt_not _ i hi, show bt (bit (gPos g d)) i = decide (i = gPos g d) from bt_p _ i (by omega) hi, decide_eq_false y]
            rfl
      exact gMiss_ok (g := U_cd (gCount g 4) (gOut g (gPos g d))) ⟨o1, o2, o3, o4, o5, o6, o7, fun i hi => o8 i (sub i hi), o9, o10, o11, o12, fun _ => okr⟩ true (fun _ _ => okr)
  · rw [if_neg q]
    exact gMiss_ok (g := gCount g 4) ⟨o1, o2, o3, o4, o5, o6, o7, o8, o9, o10, o11, o12, o13⟩ false (fun _ _ => rn)
theorem word_st (hst : G_st g = 1) {cand : Bool} : (if nI (G_st (gWord g d cand)) = 2 then (1 : Int32) else 0) = if cand = true ∧ bc (G_cd g) 31 = 1 then 1 else 0 := by
  unfold gWord
  by_cases q : cand = true
  · rw [if_pos q]
    by_cases w : bc (G_cd g) 31 = 1
    · have hh : cand = true ∧ bc (G_cd g) 31 = 1 := ⟨q, w⟩
      rw [if_pos w, if_pos hh]; rfl
    · have hh : ¬ (cand = true ∧ bc (G_cd g) 31 = 1) := fun x => w x.2
      rw [if_neg w, if_neg hh, gMiss_st]
      by_cases y : G_lv (U_cd (gCount g 4) (gOut g (gPos g d))) - 1 = 0
      · rw [if_pos y]; rfl
      · rw [if_neg y]
        show (if nI (G_st g) = 2 then (1 : Int32) else 0) = 0
        rw [hst]; rfl
  · have hh : ¬ (cand = true ∧ bc (G_cd g) 31 = 1) := fun x => q x.1
    rw [if_neg q, if_neg hh, gMiss_st]
    by_cases y : G_lv (gCount g 4) - 1 = 0
    · rw [if_pos y]; rfl
    · rw [if_neg y]
      show (if nI (G_st g) = 2 then (1 : Int32) else 0) = 0
      rw [hst]; rfl
theorem takeW2 (h : RS z g) (ok : okG g) (rn : okR g) (hd : okd d) {cand : Bool} (hc : cand = true ↔ inL g d ∧ bt (G_cd g) (gPos g d) = true) : ∃ z', f_X2_takeWord z (lN (encN d)) = some z' ∧ RS z' (gWord g d cand) := by
  have hn := ok.1
  have lv1 := rn.2.2.2.2.2
  have lv2 := ok.2.2.2.2.1
  obtain ⟨z1, e1, r1⟩ := count2' h (k := 4) (by omega)
  have ok1 : okG (gCount g 4) := ok
  have nm := number2 r1 ok1 hd
  obtain ⟨X, hX⟩ : ∃ X, X = lN (encN d) := ⟨_, rfl⟩
  rw [← hX] at nm
  rw [← hX]
  unfold f_X2_takeWord gWord
  rw [show f_X2_count z 4 = some z1 from e1, ob]
  have miss : ∀ z2 g2 nar, RS z2 g2 → G_lv g2 = G_lv g → ∃ z', (Option.bind (f_X2_miss z2 (if nar = true then 1 else 0)) fun r_9 => some r_9) = some z' ∧ RS z' (gMiss g2 nar) := by
    intro z2 g2 nar r2 hl
    obtain ⟨z3, e3, r3⟩ := miss2 r2 (by omega) (by omega) nar
    exact ⟨z3, by rw [e3, ob], r3⟩
  have J54_0 : ∃ z', f_X2_takeWord_J54 0 z1 = some z' ∧ RS z' (gMiss (gCount g 4) false) := by
    unfold f_X2_takeWord_J54
    rw [lt_, if_pos (show (0 : Int32) = 0 from rfl), show ((0 : Int32) ^^^ (-1)) = -1 by decide, andm]
    have : S_candidates_set z1 (S_candidates z1) = z1 := rfl
    rw [this]
    exact miss z1 _ false r1 rfl
  by_cases q : cand = true
  · obtain ⟨hin, hb⟩ := hc.mp q
    have hp := hin.1
    rw [if_pos q, nm.1 hin, ob]
    show ∃ z', Option.bind (f_X2_isCandidate z1 (nI (gPos g d))) _ = _ ∧ _
    rw [isCand2 r1 ok1 hp, ob, if_pos hb, if_neg (show ¬ (1 : Int32) = 0 by decide)]
    unfold f_X2_takeWord_J26
    show ∃ z', (if bit (gPos g d) = 0 then f_X2_takeWord_J54 (bit (gPos g d)) z1 else if bit (gPos g d) = S_candidates z1 then lett (S_pattern_set z1 X) fun zS_11 => Option.bind (f_X2_win zS_11) fun r_12 => some r_12 else f_X2_takeWord_J54 (bit (gPos g d)) z1) = some z' ∧ _
    rw [if_neg (bit_ne (by omega)), show S_candidates z1 = G_cd g from r1.2.2.2.2.2.2.2.1]
    by_cases w : bc (G_cd g) 31 = 1
    · rw [if_pos ((one_bit (by omega) hb (cd31 ok)).mpr w), if_pos w, lt_]
      obtain ⟨z4, e4, r4⟩ := win2 (RS_ptv r1 d X hX)
      exact ⟨z4, by rw [e4, ob], r4⟩
    · rw [if_neg (fun x => w ((one_bit (by omega) hb (cd31 ok)).mp x)), if_neg w]
      unfold f_X2_takeWord_J54
      rw [lt_, if_neg (bit_ne (by omega)), show S_candidates z1 = G_cd g from r1.2.2.2.2.2.2.2.1]
      exact miss _ (U_cd (gCount g 4) (gOut g (gPos g d))) true (RS_cd r1 _) rfl
  · rw [if_neg q]
    by_cases y : inL g d
    · have nb : ¬ bt (G_cd g) (gPos g d) = true := fun x => q (hc.mpr ⟨y, x⟩)
      rw [nm.1 y, ob]
      show ∃ z', Option.bind (f_X2_isCandidate z1 (nI (gPos g d))) _ = _ ∧ _
      rw [isCand2 r1 ok1 y.1, ob, if_neg nb, if_pos (show (0 : Int32) = 0 from rfl)]
      unfold f_X2_takeWord_J26
      rw [if_pos (show (0 : Int32) = 0 from rfl)]
      exact J54_0
    · rw [nm.2 y, ob]
      have : f_X2_isCandidate z1 (-1) = some 0 := by
        unfold f_X2_isCandidate
        rw [hasWord2_neg (by decide), ob, if_pos rfl]
      rw [this, ob, if_pos (show (0 : Int32) = 0 from rfl)]
      unfold f_X2_takeWord_J26
      rw [if_pos (show (0 : Int32) = 0 from rfl)]
      exact J54_0
end GW
