/-! ===== stage B: having, sure letters, families, spread, the best guess ===== -/
section MORE
variable {z : St} {M : Md} {g : GS}
theorem letter_or (p : Int32) : f_X5_isLetter p = some 0 ∨ ∃ c, c < 26 ∧ p = nI (97 + c) ∧ f_X5_isLetter p = some 1 := by
  rcases neg_or p with hp | ⟨j, hj, rfl⟩
  · exact Or.inl (isLetter5_neg hp)
  · rw [isLetter5 hj]
    by_cases q : 97 ≤ j ∧ j ≤ 122
    · exact Or.inr ⟨j - 97, by omega, by rw [show 97 + (j - 97) = j by omega], by rw [if_pos q]⟩
    · exact Or.inl (by rw [if_neg q])
theorem msk_0 (d : Nat → Nat) (c : Nat) : msk d c = 0 ↔ ∀ k, k < 8 → d k ≠ c := by
  constructor
  · intro h k hk e
    have := bt_msk d c (i := k) (by omega)
    rw [h, b_0, decide_eq_true hk, decide_eq_true e] at this
    cases this
  · intro h
    apply b_ext
    intro i hi
    rw [bt_msk d c hi, b_0]
    by_cases q : i < 8
    · rw [decide_eq_false (h i q), Bool.and_false]
    · rw [decide_eq_false q, Bool.false_and]
def hvB (g : GS) (c w : Nat) : Bool := bt (G_cd g) w && decide (¬ msk (G_D g w) (c + 1) = 0)
def aHav (g : GS) (c : Nat) : Int32 := if G_st g = 0 then -3 else nI (fb_ct (hvB g c) (G_n g))
theorem having5 (h : RS z g) (ok : okG g) {c : Nat} (hc : c < 26) : f_X5_having z (nI (97 + c)) = some (aHav g c) := by
  have hn := ok.1
  have hs := ok.2.2.1
  unfold f_X5_having aHav
  rw [isLetter5 (by omega), if_pos (by omega), ob, if_neg (by decide), h.2.2.1, i_z (by omega)]
  by_cases q : G_st g = 0
  · rw [if_pos q, if_pos q]
  · rw [if_neg q, if_neg q]
    have e : f_X2_candidatesWith z (nI (97 + c)) = some (nI (fb_ct (hvB g c) (G_n g))) := by
      unfold f_X2_candidatesWith
      refine run2 (fun j a b => a = nI (fb_ct (hvB g c) j) ∧ b = nI j) (fun r => r = some (nI (fb_ct (hvB g c) (G_n g)))) (G_n g) ?_ ?_ FU 0 0 (FU_gt (by omega)) ⟨rfl, rfl⟩
      · rintro j a b hj ⟨rfl, rfl⟩
        refine ⟨nI (fb_ct (hvB g c) (j + 1)), nI (j + 1), ⟨rfl, rfl⟩, fun re => ?_⟩
        unfold f_X2_candidatesWith_L4
        rw [h.1, i_lt (by omega) (by omega), if_pos hj, isCand2 h ok hj, ob, fb_ct_succ]
        unfold hvB
        by_cases y : bt (G_cd g) j = true
        · rw [if_pos y, if_neg (by decide), wordAt2 h ok hj, ob, maskOf4 (okw_d (ok_w ok hj)) hc, ob, lt_, lt_, lt_, x_a1, x_a1]
          by_cases u : msk (G_D g j) (c + 1) = 0
          · rw [if_pos u, if_neg (by simp [u])]; rfl
          · rw [if_neg u, if_pos (by simp [u, y])]
        · rw [if_neg y, if_pos rfl, lt_, x_a1, if_neg (by simp [y])]; rfl
      · rintro a b ⟨rfl, rfl⟩ re
        unfold f_X2_candidatesWith_L4
        rw [h.1, i_lt (by omega) (by omega), if_neg (by omega)]
    rw [e, ob]
theorem having6 (h : RM (M_s M) g) (ok : okG g) {c : Nat} (hc : c < 26) : f_X6_having M (nI (97 + c)) = some (aHav g c) := by
  have hn := ok.1
  have hs := ok.2.2.1
  unfold f_X6_having aHav
  rw [isLetter6, isLetter5 (by omega), if_pos (by omega), ob, if_neg (by decide), m2, h.2.2.1, i_z (by omega)]
  by_cases q : G_st g = 0
  · rw [if_pos q, if_pos q]
  · rw [if_neg q, if_neg q]
    refine run2 (fun j a b => a = nI (fb_ct (hvB g c) j) ∧ b = nI j) (fun r => r = some (nI (fb_ct (hvB g c) (G_n g)))) (G_n g) ?_ ?_ FU 0 0 (FU_gt (by omega)) ⟨rfl, rfl⟩
    · rintro j a b hj ⟨rfl, rfl⟩
      refine ⟨nI (fb_ct (hvB g c) (j + 1)), nI (j + 1), ⟨rfl, rfl⟩, fun re => ?_⟩
      unfold f_X6_having_L26
      rw [m0, h.1, i_lt (by omega) (by omega), if_pos hj, isCand6 h (by omega), ob, fb_ct_succ]
      unfold hvB
      by_cases y : bt (G_cd g) j = true
      · rw [if_pos y, if_neg (by decide), maskOf6 h ok hj hc, ob]
        simp only [lt_]
        rw [x_a1, x_a1, Int32.add_zero]
        by_cases u : msk (G_D g j) (c + 1) = 0
        · rw [if_pos u, if_neg (by simp [u])]; rfl
        · rw [if_neg u, if_pos (by simp [u, y])]
      · rw [if_neg y, if_pos rfl, lt_, lt_, x_a1, Int32.add_zero, if_neg (by simp [y])]; rfl
    · rintro a b ⟨rfl, rfl⟩ re
      unfold f_X6_having_L26
      rw [m0, h.1, i_lt (by omega) (by omega), if_neg (by omega)]
/-! sure letters -/
def sureN (g : GS) (a : Int32) (n : Nat) : Int32 := acc (fun w x => if bt (G_cd g) w = true then x &&& lts (G_D g w) else x) a n
theorem sureN_and (g : GS) (a b : Int32) : ∀ n, sureN g (a &&& b) n = sureN g a n &&& b
  | 0 => rfl
  | n + 1 => by
    show (if bt (G_cd g) n = true then sureN g (a &&& b) n &&& lts (G_D g n) else sureN g (a &&& b) n) = (if bt (G_cd g) n = true then sureN g a n &&& lts (G_D g n) else sureN g a n) &&& b
    rw [sureN_and g a b n]
    by_cases q : bt (G_cd g) n = true
    · rw [if_pos q, if_pos q]
      apply b_ext
      intro i hi
      simp only [b_and]
      cases bt (sureN g a n) i <;> cases bt b i <;> cases bt (lts (G_D g n)) i <;> rfl
    · rw [if_neg q, if_neg q]
def aSure (g : GS) : Int32 := sureN g 67108863 (G_n g) &&& (G_gs g ^^^ (-1))
theorem sure5 (h : RS z g) (ok : okG g) : f_X5_sureLetters z = some (if G_st g = 1 then aSure g else -3) := by
  have hn := ok.1
  unfold f_X5_sureLetters
  rw [runs2 h ok, ob]
  by_cases q : G_st g = 1
  · rw [if_pos q, if_neg (by decide), if_pos q]
    have e : f_X2_lettersOfAll z = some (sureN g 67108863 (G_n g)) := by
      unfold f_X2_lettersOfAll
      refine racc (fun w x => if bt (G_cd g) w = true then x &&& lts (G_D g w) else x) (G_n g) (by omega) _ ?_ ?_
      · intro j hj re
        show _ = re (if bt (G_cd g) j = true then _ &&& lts (G_D g j) else _) _
        generalize acc _ _ j = x
        unfold f_X2_lettersOfAll_L5
        rw [h.1, i_lt (by omega) (by omega), if_pos hj, isCand2 h ok hj, ob]
        by_cases y : bt (G_cd g) j = true
        · rw [if_pos y, if_neg (by decide), wordAt2 h ok hj, ob, lettersOf4 (okw_d (ok_w ok hj)), ob, lt_, lt_, x_a1, if_pos y]
        · rw [if_neg y, if_pos rfl, lt_, x_a1, if_neg y]
      · intro re
        unfold f_X2_lettersOfAll_L5
        rw [h.1, i_lt (by omega) (by omega), if_neg (by omega)]
        rfl
    rw [e, ob, h.2.2.2.2.2.1]
    rfl
  · rw [if_neg q, if_pos rfl, if_neg q]
theorem sure6' (h : RM (M_s M) g) (ok : okG g) : f_X6_sure M = some (aSure g) := by
  have hn := ok.1
  unfold f_X6_sure
  rw [m5, h.2.2.2.2.2.1, lt_]
  have e : aSure g = sureN g ((G_gs g ^^^ (-1)) &&& 67108863) (G_n g) := by
    unfold aSure
    rw [← sureN_and]
    congr 1
    apply b_ext
    intro i hi
    rw [b_and, b_and, Bool.and_comm]
  rw [e]
  refine racc (fun w x => if bt (G_cd g) w = true then x &&& lts (G_D g w) else x) (G_n g) (by omega) _ ?_ ?_
  · intro j hj re
    show _ = re (if bt (G_cd g) j = true then _ &&& lts (G_D g j) else _) _
    generalize acc _ _ j = x
    unfold f_X6_sure_L14
    rw [m0, h.1, i_lt (by omega) (by omega), if_pos hj, isCand6 h (by omega), ob]
    by_cases y : bt (G_cd g) j = true
    · rw [if_pos y, if_neg (by decide), lettersOf6 h ok hj, ob, lt_, lt_, x_a1, if_pos y]
    · rw [if_neg y, if_pos rfl, lt_, lt_, x_a1, andm, if_neg y]
  · intro re
    unfold f_X6_sure_L14
    rw [m0, h.1, i_lt (by omega) (by omega), if_neg (by omega)]
    rfl
theorem sure6 (h : RM (M_s M) g) (ok : okG g) : f_X6_sureLetters M = some (if G_st g = 1 then aSure g else -3) := by
  unfold f_X6_sureLetters
  rw [runs6 h ok, ob]
  by_cases q : G_st g = 1
  · rw [if_pos q, if_neg (by decide), if_pos q, sure6' h ok, ob]
  · rw [if_neg q, if_pos rfl, if_neg q]
/-! what stands against asking of a letter -/
def aBar (g : GS) (p : Int32) : Int32 := if f_X5_isLetter p = some 0 then -2 else if G_st g = 1 then (if bt (G_gs g) (p.toNatClampNeg - 97) = true then -3 else 0) else -3
theorem bar5 (h : RS z g) (ok : okG g) (p : Int32) : f_X5_faultOfAsking z p = some (aBar g p) := by
  unfold f_X5_faultOfAsking aBar
  rcases letter_or p with e | ⟨c, hc, rfl, e⟩
  · rw [e, ob, if_pos rfl, if_pos rfl]
  · rw [e, ob, if_neg (by decide), if_neg (by decide), runs2 h ok, ob]
    by_cases q : G_st g = 1
    · rw [if_pos q, if_neg (by decide), wasGuessed2 h hc, ob, if_pos q, x_cl (by omega), show 97 + c - 97 = c by omega]
      by_cases y : bt (G_gs g) c = true
      · rw [if_pos y, if_neg (by decide), if_pos y]
      · rw [if_neg y, if_pos rfl, if_neg y]
    · rw [if_neg q, if_pos rfl, if_neg q]
theorem bar6 (h : RM (M_s M) g) (ok : okG g) (p : Int32) : f_X6_bar M p = some (aBar g p) := by
  unfold f_X6_bar aBar
  rw [isLetter6]
  rcases letter_or p with e | ⟨c, hc, rfl, e⟩
  · rw [e, ob, if_pos rfl, if_pos rfl]
  · rw [e, ob, if_neg (by decide), if_neg (by decide), runs6 h ok, ob]
    by_cases q : G_st g = 1
    · rw [if_pos q, if_neg (by decide), isGuessed6 h hc, ob, if_pos q, x_cl (by omega), show 97 + c - 97 = c by omega]
      by_cases y : bt (G_gs g) c = true
      · rw [if_pos y, if_neg (by decide), if_pos y]
      · rw [if_neg y, if_pos rfl, if_neg y]
    · rw [if_neg q, if_pos rfl, if_neg q]
theorem bar_0 (ok : okG g) {p : Int32} (h : aBar g p = 0) : ∃ c, c < 26 ∧ p = nI (97 + c) ∧ bt (G_gs g) c = false ∧ G_st g = 1 ∧ okR g := by
  unfold aBar at h
  rcases letter_or p with e | ⟨c, hc, rfl, e⟩
  · rw [if_pos e] at h; exact absurd h (by decide)
  · rw [if_neg (by rw [e]; decide)] at h
    by_cases q : G_st g = 1
    · rw [if_pos q, x_cl (by omega), show 97 + c - 97 = c by omega] at h
      by_cases y : bt (G_gs g) c = true
      · rw [if_pos y] at h; exact absurd h (by decide)
      · exact ⟨c, hc, rfl, by cases x : bt (G_gs g) c; rfl; exact absurd x y, q, ok.2.2.2.2.2.2.2.2.2.2.2.2 q⟩
    · rw [if_neg q] at h; exact absurd h (by decide)
theorem fams56 (h : RS z g) (hM : RM (M_s M) g) (ok : okG g) (F : Fm) (p : Int32) : ∃ a F' M', f_X5_families z F p = some (a, F') ∧ f_X6_families M p = some (a, M') ∧ KM M M' := by
  unfold f_X5_families f_X6_families
  rw [bar5 h ok, bar6 hM ok, ob, ob]
  by_cases q : aBar g p = 0
  · obtain ⟨c, hc, rfl, hg, hst, rn⟩ := bar_0 ok q
    obtain ⟨F1, e1, p1, f1⟩ := make0 h ok F hc
    obtain ⟨M1, e2, k1, r1, s1⟩ := lay6 hM ok hc
    rw [if_pos q, if_pos q, e1, e2, ob, ob, f1.1, r1.1]
    exact ⟨_, _, _, rfl, rfl, k1⟩
  · rw [if_neg q, if_neg q, ob]
    exact ⟨_, _, _, rfl, rfl, KM_r M⟩
theorem fam56 (h : RS z g) (hM : RM (M_s M) g) (ok : okG g) (F : Fm) (p x y : Int32) : ∃ a F' M', f_X5_family z F p x y = some (a, F') ∧ f_X6_family M p x y = some (a, M') ∧ KM M M' := by
  unfold f_X5_family f_X6_family
  rw [bar5 h ok, bar6 hM ok, ob, ob]
  by_cases q : aBar g p = 0
  · obtain ⟨c, hc, rfl, hg, hst, rn⟩ := bar_0 ok q
    obtain ⟨F1, e1, p1, f1⟩ := make0 h ok F hc
    obtain ⟨M1, e2, k1, r1, s1⟩ := lay6 hM ok hc
    have hI := gF_I ok c
    have hm := gF_le ok c
    have h1 : RM (M_s M1) g := by rw [k1.1]; exact hM
    have eR : f_X0_ranked F1 x = some (if look (gR g c) x (gF g c).2.2 < (gF g c).2.2 then nI (look (gR g c) x (gF g c).2.2) else -1) := ranked0 hI ok.1 (ok_D ok) f1 p1 ok.2.1 x
    have eQ : f_X6_ranked M1 x = some (nI (look (gR g c) x (gF g c).2.2)) := ranked6 hI ok.1 r1 s1 h1.2.1 ok.2.1 x
    have hmany : M_many M1 = nI (gF g c).2.2 := r1.1
    rw [if_pos q, if_pos q, e1, e2, ob, ob, eR, ob, hmany, in_top x (by omega), ob]
    by_cases w : 0 ≤ x ∧ x < nI (gF g c).2.2
    · obtain ⟨k, hk, rfl⟩ := (neg_or x).resolve_left (fun u => neg_c u _ w)
      have hkm : k < (gF g c).2.2 := by have := w.2; rw [x_lt hk (by omega)] at this; exact this
      have hin : look (gR g c) (nI k) (gF g c).2.2 < (gF g c).2.2 := rank_in hI ok.1 hkm
      rw [if_pos hin, if_pos w, if_neg (show ¬ (1 : Int32) = 0 by decide), eQ, ob]
      generalize look (gR g c) (nI k) (gF g c).2.2 = v at *
      have hh : f_X0_has F1 (nI v) = some 1 := by
        unfold f_X0_has
        rw [i_n (by omega), show F_count F1 = nI (gF g c).2.2 from f1.1, show (30 : Int32) = nI 30 from rfl, i_lt (by omega) (by omega), if_pos hin, i_lt (by omega) (by omega), if_pos (by omega)]
      rw [hh, ob, if_neg (show ¬ (1 : Int32) = 0 by decide)]
      have ezz := size0 hI ok.1 f1 hin
      have emm := mask0 hI ok.1 f1 hin
      have eee := memb0 hI ok.1 f1 hin
      have eff := fresh0 hI ok.1 (ok_D ok) f1 hin
      have s2 := s1 v hin
      have r2 := r1.2 v hin
      rw [ezz, emm, eee, eff, ob, ob, ob, ob, member5, ob, getA_n (by omega) (by omega), getA_n (by omega) (by omega), getA_n (by omega) (by omega), getA_n (by omega) (by omega)]
      have el : f_X6_lowest (M_members M1 v) = some (memA ((gF g c).2.1 v) 0) := by
        rw [r2.2]
        refine lowest6 ?_
        obtain ⟨u, hu, hb, e⟩ := hI.2.2.1 v hin
        have := ok.1
        refine ⟨u, by omega, ?_⟩
        show bt ((gF g c).2.1 v) u = true
        rw [hI.2.2.2.1 v u hin (by omega), decide_eq_true hu, hb, decide_eq_true e]
        rfl
      rw [el, ob]
      by_cases y0 : y = 0
      · rw [if_pos y0, if_pos y0]
        exact ⟨_, _, _, rfl, by rw [s2.2.1]; rfl, k1⟩
      · rw [if_neg y0, if_neg y0]
        by_cases y1 : y = 1
        · rw [if_pos y1, if_pos y1]
          exact ⟨_, _, _, rfl, by rw [r2.1]; rfl, k1⟩
        · rw [if_neg y1, if_neg y1]
          by_cases y2 : y = 2
          · rw [if_pos y2, if_pos y2]
            exact ⟨_, _, _, rfl, rfl, k1⟩
          · rw [if_neg y2, if_neg y2]
            by_cases y3 : y = 3
            · rw [if_pos y3, if_pos y3]
              exact ⟨_, _, _, rfl, by rw [s2.1]; rfl, k1⟩
            · rw [if_neg y3, if_neg y3]
              exact ⟨_, _, _, rfl, rfl, k1⟩
    · have hout : ¬ look (gR g c) x (gF g c).2.2 < (gF g c).2.2 := by
        refine rank_out hI ok.1 ?_
        rcases neg_or x with u | ⟨k, hk, rfl⟩
        · exact Or.inl u
        · refine Or.inr ⟨k, ?_, hk, rfl⟩
          rcases Nat.lt_or_ge k (gF g c).2.2 with t | t
          · exact absurd ⟨pos_n k hk, by rw [x_lt hk (by omega)]; exact t⟩ w
          · exact t
      rw [if_neg hout, if_neg w, if_pos rfl]
      have hh : f_X0_has F1 (-1) = some 0 := rfl
      rw [hh, ob, if_pos rfl]
      exact ⟨_, _, _, rfl, rfl, k1⟩
  · rw [if_neg q, if_neg q, ob]
    exact ⟨_, _, _, rfl, rfl, KM_r M⟩
theorem spread56 (h : RS z g) (hM : RM (M_s M) g) (ok : okG g) (F : Fm) (p : Int32) : ∃ a F' M', f_X5_spread z F p = some (a, F') ∧ f_X6_spread M p = some (a, M') ∧ KM M M' := by
  unfold f_X5_spread f_X6_spread
  rw [bar5 h ok, bar6 hM ok, ob, ob]
  by_cases q : aBar g p = 0
  · obtain ⟨c, hc, rfl, hg, hst, rn⟩ := bar_0 ok q
    obtain ⟨F1, e1, p1, f1⟩ := make0 h ok F hc
    obtain ⟨M1, e2, k1, r1, s1⟩ := lay6 hM ok hc
    have hI := gF_I ok c
    have hm := gF_le ok c
    have h1 : RM (M_s M1) g := by rw [k1.1]; exact hM
    have cpos : bc (G_cd g) 31 ≠ 0 := fun e => by
      obtain ⟨i, hi⟩ := rn.2.1
      have := ok_cd ok hi
      have := ok.1
      have := fb_ct_zero.mp e i (by omega)
      rw [hi] at this; cases this
    have cl := bc_le (G_cd g) 31
    rw [if_pos q, if_pos q, e1, e2, ob, ob, cds5 h ok, ob, if_neg (by rw [x_z (by omega)]; exact cpos)]
    have esq : f_X0_squares F1 = some (acc (fun k x => x + nI (kz (gF g c) k) * nI (kz (gF g c) k)) 0 (gF g c).2.2) := by
      unfold f_X0_squares
      refine racc (fun k x => x + nI (kz (gF g c) k) * nI (kz (gF g c) k)) (gF g c).2.2 (by omega) 0 ?_ ?_
      · intro j hj re
        show _ = re (_ + nI (kz (gF g c) j) * nI (kz (gF g c) j)) _
        generalize acc _ _ j = x
        unfold f_X0_squares_L4
        rw [show F_count F1 = nI (gF g c).2.2 from f1.1, i_lt (by omega) (by omega), if_pos hj, size0 hI ok.1 f1 hj, ob, ob, lt_, lt_, x_a1]
      · intro re
        unfold f_X0_squares_L4
        rw [show F_count F1 = nI (gF g c).2.2 from f1.1, i_lt (by omega) (by omega), if_neg (by omega)]
    rw [esq, ob]
    have e6 : loop2 (f_X6_spread_L23 M1) FU 0 0 = f_X6_spread_J53 (acc (fun k x => x + nI (kz (gF g c) k) * nI (kz (gF g c) k)) 0 (gF g c).2.2) M1 := by
      refine racc (fun k x => x + nI (kz (gF g c) k) * nI (kz (gF g c) k)) (gF g c).2.2 (by omega) 0 ?_ ?_
      · intro j hj re
        show _ = re (_ + nI (kz (gF g c) j) * nI (kz (gF g c) j)) _
        generalize acc _ _ j = x
        unfold f_X6_spread_L23
        have ms : M_size M1 j = nI (kz (gF g c) j) := (s1 j hj).2.1
        rw [show M_many M1 = nI (gF g c).2.2 from r1.1, i_lt (by omega) (by omega), if_pos hj, getA_n (by omega) (by omega), getA_n (by omega) (by omega), lt_, lt_, x_a1, ms]
      · intro re
        unfold f_X6_spread_L23
        rw [show M_many M1 = nI (gF g c).2.2 from r1.1, i_lt (by omega) (by omega), if_neg (by omega)]
    rw [e6]
    unfold f_X6_spread_J53 divI
    rw [m7, h1.2.2.2.2.2.2.2.1, bits6, ob, if_neg (by rw [x_z (by omega)]; exact cpos), if_neg (by rw [x_z (by omega)]; exact cpos)]
    exact ⟨_, _, _, rfl, rfl, k1⟩
  · rw [if_neg q, if_neg q, ob]
    exact ⟨_, _, _, rfl, rfl, KM_r M⟩
theorem bestG5 (h : RS z g) (ok : okG g) (F : Fm) : ∃ F', f_X5_bestGuess z F = some (if G_st g = 1 then gBest g else -3, F') := by
  unfold f_X5_bestGuess
  rw [runs2 h ok, ob]
  by_cases q : G_st g = 1
  · rw [if_pos q, if_neg (by decide), if_pos q]
    obtain ⟨F', e⟩ := best0 h ok (ok.2.2.2.2.2.2.2.2.2.2.2.2 q).2.1 F
    rw [e, ob]
    exact ⟨F', rfl⟩
  · rw [if_neg q, if_pos rfl, if_neg q]
    exact ⟨F, rfl⟩
theorem bestG6 (h : RM (M_s M) g) (ok : okG g) : ∃ M', f_X6_bestGuess M = some (if G_st g = 1 then gBest g else -3, M') ∧ KM M M' := by
  unfold f_X6_bestGuess
  rw [runs6 h ok, ob]
  by_cases q : G_st g = 1
  · rw [if_pos q, if_neg (by decide), if_pos q]
    obtain ⟨M', e, k⟩ := best6 h ok (ok.2.2.2.2.2.2.2.2.2.2.2.2 q).2.1
    rw [e, ob]
    exact ⟨M', rfl, k⟩
  · rw [if_neg q, if_pos rfl, if_neg q]
    exact ⟨M, rfl, KM_r M⟩
end MORE
