/-! ===== stage B: a guess taken ===== -/
theorem m9 {β : Type} (f : Nat → Int32) (k : Int32 → Option β) : getA f 319 (9 : Int32) k = k (f 9) := getA_n (i := 9) (by omega) (by omega)
theorem k9_ {β : Type} (k : Option β) : chkA 319 (9 : Int32) k = k := chkA_n (i := 9) (by omega) (by omega)
theorem m10 {β : Type} (f : Nat → Int32) (k : Int32 → Option β) : getA f 319 (10 : Int32) k = k (f 10) := getA_n (i := 10) (by omega) (by omega)
theorem k10_ {β : Type} (k : Option β) : chkA 319 (10 : Int32) k = k := chkA_n (i := 10) (by omega) (by omega)
theorem cl0 : (0 : Int32).toNatClampNeg = 0 := by decide
theorem cl1 : (1 : Int32).toNatClampNeg = 1 := by decide
theorem cl2 : (2 : Int32).toNatClampNeg = 2 := by decide
theorem cl3 : (3 : Int32).toNatClampNeg = 3 := by decide
theorem cl4 : (4 : Int32).toNatClampNeg = 4 := by decide
theorem cl5 : (5 : Int32).toNatClampNeg = 5 := by decide
theorem cl6 : (6 : Int32).toNatClampNeg = 6 := by decide
theorem cl7 : (7 : Int32).toNatClampNeg = 7 := by decide
theorem cl8 : (8 : Int32).toNatClampNeg = 8 := by decide
theorem cl9 : (9 : Int32).toNatClampNeg = 9 := by decide
theorem cl10 : (10 : Int32).toNatClampNeg = 10 := by decide
theorem cl11 : (11 : Int32).toNatClampNeg = 11 := by decide
theorem cl12 : (12 : Int32).toNatClampNeg = 12 := by decide
theorem cl13 : (13 : Int32).toNatClampNeg = 13 := by decide
theorem cl14 : (14 : Int32).toNatClampNeg = 14 := by decide
theorem e81 : (8 : Int32) + 1 = 9 := by decide
theorem e82 : (8 : Int32) + 2 = 10 := by decide
theorem sp_len (z : St) (X : Int64) : S_length (S_pattern_set z X) = S_length z := rfl
theorem sp_pat (z : St) (X : Int64) : S_pattern (S_pattern_set z X) = X := rfl
theorem sp_sp (z : St) (X Y : Int64) : S_pattern_set (S_pattern_set z X) Y = S_pattern_set z Y := rfl
theorem sp_id (z : St) : S_pattern_set z (S_pattern z) = z := rfl
theorem b_f : (if false = true then (1 : Int32) else 0) = 0 := rfl
theorem b_t : (if true = true then (1 : Int32) else 0) = 1 := rfl
theorem upd_self (f : Nat → Int32) (i : Nat) : upd f i (f i) = f := funext (fun k => by
  by_cases h : k = i
  · rw [h, upd_e]
  · rw [upd_n h])
abbrev gCount (g : GS) (k : Nat) : GS := U_tot g (upd (G_tot g) k (G_tot g k + 1))
abbrev gWin (g : GS) : GS := gCount (U_st g 2) 1
abbrev gLose (g : GS) : GS := gCount (U_st g 3) 2
def gMiss (g : GS) (nar : Bool) : GS :=
  if G_lv g - 1 = 0 then gLose (U_lv (if nar = true then gCount (gCount g 5) 6 else gCount g 5) (G_lv g - 1))
  else U_lv (if nar = true then gCount (gCount g 5) 6 else gCount g 5) (G_lv g - 1)
section MISS
variable {z : St} {g : GS}
theorem lose2 (h : RS z g) : ∃ z', f_X2_lose z = some z' ∧ RS z' (gLose g) := by
  obtain ⟨z1, e1, r1⟩ := count2' (RS_st h 3) (k := 2) (by omega)
  refine ⟨z1, ?_, r1⟩
  unfold f_X2_lose
  simp only [lett]
  show Option.bind (f_X2_count (S_status_set z (nI 3)) (nI 2)) _ = _
  rw [e1, ob]
theorem win2 (h : RS z g) : ∃ z', f_X2_win z = some z' ∧ RS z' (gWin g) := by
  obtain ⟨z1, e1, r1⟩ := count2' (RS_st h 2) (k := 1) (by omega)
  refine ⟨z1, ?_, r1⟩
  unfold f_X2_win
  simp only [lett]
  show Option.bind (f_X2_count (S_status_set z (nI 2)) (nI 1)) _ = _
  rw [e1, ob]
theorem miss2 (h : RS z g) (h1 : 1 ≤ G_lv g) (h2 : G_lv g ≤ 20) (nar : Bool) : ∃ z', f_X2_miss z (if nar = true then 1 else 0) = some z' ∧ RS z' (gMiss g nar) := by
  obtain ⟨z1, e1, r1⟩ := count2' h (k := 5) (by omega)
  unfold f_X2_miss gMiss
  rw [show f_X2_count z 5 = some z1 from e1, ob]
  have fin : ∀ z2 g2, RS z2 g2 → G_lv g2 = G_lv g → ∃ z', (lett (S_lives_set z2 (S_lives z2 - 1)) fun zS_2 => if S_lives zS_2 = 0 then Option.bind (f_X2_lose zS_2) fun r_3 => some r_3 else some zS_2) = some z' ∧ RS z' (if G_lv g - 1 = 0 then gLose (U_lv g2 (G_lv g - 1)) else U_lv g2 (G_lv g - 1)) := by
    intro z2 g2 r2 hl
    have e : S_lives z2 - 1 = nI (G_lv g - 1) := by
      rw [r2.2.2.2.2.1, hl, show (1 : Int32) = nI 1 from rfl, pk_sub (by omega)]
    rw [e]
    simp only [lett]
    have r3 := RS_lv r2 (G_lv g - 1)
    rw [show S_lives (S_lives_set z2 (nI (G_lv g - 1))) = nI (G_lv g - 1) from rfl, i_z (by omega)]
    by_cases q : G_lv g - 1 = 0
    · rw [if_pos q, if_pos q]
      obtain ⟨z4, e4, r4⟩ := lose2 r3
      exact ⟨z4, by rw [e4, ob], r4⟩
    · rw [if_neg q, if_neg q]
      exact ⟨_, rfl, r3⟩
  cases nar
  · rw [b_f, if_pos rfl]
    exact fin z1 _ r1 rfl
  · rw [b_t, if_neg (by decide)]
    obtain ⟨z2, e2, r2⟩ := count2' r1 (k := 6) (by omega)
    rw [show f_X2_count z1 6 = some z2 from e2, ob]
    exact fin z2 _ r2 rfl
end MISS
abbrev gNote (g : GS) (c : Nat) : GS := gCount (U_gs (U_gc (U_od g (upd (G_od g) (G_gc g) (nI (97 + c)))) (G_gc g + 1)) (G_gs g ||| bit c)) 3
abbrev gShow (g : GS) (c : Nat) (mask mem : Int32) : GS := U_pt (U_cd (gNote g c) mem) (fun k => if bt mask k = true then c + 1 else G_pt g k)
def gTake (g : GS) (c : Nat) (mask mem : Int32) (nar : Bool) : GS :=
  if mask = 0 then gMiss (U_cd (gNote g c) mem) nar
  else if szN (G_pt (gShow g c mask mem)) = G_len g then gWin (gShow g c mask mem) else gShow g c mask mem
section TAKE
variable {z : St} {g : GS}
theorem take2 (h : RS z g) (ok : okG g) (hg : G_gc g < 26) {c : Nat} (hc : c < 26) {mask mem : Int32} {nar : Bool} (hn : mask = 0 → (mem = G_cd g ↔ nar = false)) (hm : ∀ k, bt mask k = true → k < G_len g ∧ G_pt g k = 0) (hl : 1 ≤ G_lv g) : ∃ z', f_X2_takeLetter z (nI (97 + c)) mask mem = some z' ∧ RS z' (gTake g c mask mem nar) := by
  have l8 := ok.2.2.2.1
  have r1 := RS_od h (nI (97 + c))
  have r2 := RS_gs r1 (G_gs g ||| bit c)
  obtain ⟨z3, e3, r3⟩ := count2' r2 (k := 3) (by omega)
  have eN : f_X2_noteGuess z (nI (97 + c)) = some z3 := by
    unfold f_X2_noteGuess f_X2_noteGuess_J36
    rw [h.2.2.2.2.2.2.1, i_n (by omega), show (26 : Int32) = nI 26 from rfl, i_lt (by omega) (by omega), if_pos hg, chkA_n hg (by omega)]
    simp only [lett]
    rw [bitOf5 hc, ob, x_cl (by omega), show S_guessCount (S_lettersInOrder_set z (upd (S_lettersInOrder z) (G_gc g) (nI (97 + c)))) = nI (G_gc g) from h.2.2.2.2.2.2.1, x_a1, show S_guessed (S_guessCount_set (S_lettersInOrder_set z (upd (S_lettersInOrder z) (G_gc g) (nI (97 + c)))) (nI (G_gc g + 1))) = G_gs g from h.2.2.2.2.2.1]
    show Option.bind (f_X2_count _ (nI 3)) _ = _
    rw [e3, ob]
  unfold f_X2_takeLetter
  rw [eN, ob, show S_candidates z3 = G_cd g from r3.2.2.2.2.2.2.2.1]
  have r4 := RS_cd r3 mem
  unfold f_X2_takeLetter_J18 gTake
  simp only [lett]
  by_cases q : mask = 0
  · rw [if_pos q, if_pos q, if_pos q]
    obtain ⟨z5, e5, r5⟩ := miss2 r4 hl ok.2.2.2.2.1 nar
    refine ⟨z5, ?_, r5⟩
    by_cases w : mem = G_cd g
    · rw [if_pos w]
      have := (hn q).mp w
      subst this
      rw [show (0 : Int32) = (if false = true then 1 else 0) from rfl, e5, ob]
    · rw [if_neg w]
      have : nar = true := by cases nar; exact absurd ((hn q).mpr rfl) w; rfl
      subst this
      rw [show (1 : Int32) = (if true = true then 1 else 0) from rfl, e5, ob]
  · rw [if_neg q, if_neg q, if_neg q]
    have sl : S_length (S_candidates_set z3 mem) = nI (G_len g) := r3.2.2.2.1
    have e0 : S_pattern (S_candidates_set z3 mem) = lN (encN (G_pt g)) := r4.2.2.2.2.2.2.2.2.2.2.1
    generalize hzc : S_candidates_set z3 mem = zc at *
    have key : ∃ X, X = lN (encN (G_pt (gShow g c mask mem))) ∧ loop2 (f_X2_takeLetter_L39 mask (nI (97 + c))) FU 0 zc = f_X2_takeLetter_J77 (S_pattern_set zc X) := by
      refine run2 (fun j a zz => a = nI j ∧ ∃ X, X = lN (encN (fun k => if k < j ∧ bt mask k = true then c + 1 else G_pt g k)) ∧ zz = S_pattern_set zc X) (fun r => ∃ X, X = lN (encN (G_pt (gShow g c mask mem))) ∧ r = f_X2_takeLetter_J77 (S_pattern_set zc X)) (G_len g) ?_ ?_ FU _ _ (FU_gt (by omega)) ⟨rfl, S_pattern zc, ?_, (sp_id zc).symm⟩
      · rintro j a zz hj ⟨rfl, X, hX, rfl⟩
        by_cases w : bt mask j = true
        · have ww : f_X4_withLetter X (nI j) (nI (97 + c)) = some (lN (encN (fun k => if k < j + 1 ∧ bt mask k = true then c + 1 else G_pt g k))) := by
            rw [hX, show 97 + c = 96 + (c + 1) by omega, withLetter_e (fun k hk => ?_) (by omega) ?_ (by omega) (by omega)]
            · refine congrArg (fun Y => some (lN Y)) (encN_cong (fun k hk => ?_))
              by_cases y : k = j
              · subst y; rw [if_pos rfl, if_pos ⟨by omega, w⟩]
              · rw [if_neg y]
                by_cases x : k < j ∧ bt mask k = true
                · rw [if_pos x, if_pos ⟨by omega, x.2⟩]
                · rw [if_neg x, if_neg (fun v => x ⟨by omega, v.2⟩)]
            · rw [if_neg (by omega)]; exact (hm j w).2
            · have := ok.2.2.2.2.2.2.2.2.2.2.1 k hk
              show (if k < j ∧ bt mask k = true then c + 1 else G_pt g k) < 32
              by_cases x : k < j ∧ bt mask k = true
              · rw [if_pos x]; omega
              · rw [if_neg x]; omega
          obtain ⟨Y, hY⟩ : ∃ Y, Y = lN (encN (fun k => if k < j + 1 ∧ bt mask k = true then c + 1 else G_pt g k)) := ⟨_, rfl⟩
          rw [← hY] at ww
          refine ⟨nI (j + 1), S_pattern_set zc Y, ⟨rfl, Y, hY, rfl⟩, fun re => ?_⟩
          unfold f_X2_takeLetter_L39
          rw [sp_len, sl, i_lt (by omega) (by omega), if_pos hj]
          simp only [sh_0 _ j (show j < 32 by omega)]
          simp only [lett]
          rw [if_neg (by rw [w]; decide), sp_pat, ww, ob, x_a1, sp_sp]
        · have w0 : bt mask j = false := by cases h : bt mask j; rfl; exact absurd h w
          refine ⟨nI (j + 1), S_pattern_set zc X, ⟨rfl, X, ?_, rfl⟩, fun re => ?_⟩
          · rw [hX]
            refine congrArg lN (encN_cong (fun k _ => ?_))
            by_cases x : k < j ∧ bt mask k = true
            · rw [if_pos x, if_pos ⟨by omega, x.2⟩]
            · rw [if_neg x, if_neg (fun v => x ⟨by
                have : k ≠ j := fun y => by rw [y] at v; exact w v.2
                omega, v.2⟩)]
          · unfold f_X2_takeLetter_L39
            rw [sp_len, sl, i_lt (by omega) (by omega), if_pos hj]
            simp only [sh_0 _ j (show j < 32 by omega)]
            simp only [lett]
            rw [if_pos w0, x_a1]
      · rintro a zz ⟨rfl, X, hX, rfl⟩ re
        unfold f_X2_takeLetter_L39
        rw [sp_len, sl, i_lt (by omega) (by omega), if_neg (by omega)]
        refine ⟨X, ?_, rfl⟩
        rw [hX]
        refine congrArg lN (encN_cong (fun k _ => ?_))
        show _ = (if bt mask k = true then c + 1 else G_pt g k)
        by_cases x : bt mask k = true
        · rw [if_pos x, if_pos ⟨(hm k x).1, x⟩]
        · rw [if_neg x, if_neg (fun v => x v.2)]
      · rw [e0]
        refine congrArg lN (encN_cong (fun k _ => ?_))
        rw [if_neg (by omega)]
    obtain ⟨X, hX, key⟩ := key
    rw [key]
    have r5 : RS (S_pattern_set zc X) (gShow g c mask mem) := RS_ptv r4 _ X hX
    have ep := r5.2.2.2.2.2.2.2.2.2.2.1
    have el := r5.2.2.2.1
    generalize S_pattern_set zc X = z5 at *
    unfold f_X2_takeLetter_J77
    have okp : okd (G_pt (gShow g c mask mem)) := by
      intro k hk
      have := ok.2.2.2.2.2.2.2.2.2.2.1 k hk
      show (if bt mask k = true then c + 1 else G_pt g k) < 27
      by_cases x : bt mask k = true
      · rw [if_pos x]; omega
      · rw [if_neg x]; omega
    rw [ep, lengthOf4 okp, ob, el]
    have s8 : szN (G_pt (gShow g c mask mem)) ≤ 8 := fb_ct_le _ 8
    rw [i_eq (by omega) (show G_len g < 2147483648 by omega)]
    by_cases w : szN (G_pt (gShow g c mask mem)) = G_len g
    · rw [if_pos w, if_pos w]
      obtain ⟨z6, e6, r6⟩ := win2 r5
      exact ⟨z6, by rw [e6, ob, ite_self], r6⟩
    · rw [if_neg w, if_neg w]
      exact ⟨z5, ite_self _, r5⟩
end TAKE
