/-! ===== stage B: a guess, on both sides; the best letter; misses ahead ===== -/
theorem lt_ {α β : Type} (x : α) (k : α → Option β) : lett x k = k x := rfl
theorem Ms_mask (z : Md) (v : Nat → Int32) : M_mask (M_s_set z v) = M_mask z := rfl
theorem Ms_members (z : Md) (v : Nat → Int32) : M_members (M_s_set z v) = M_members z := rfl
theorem Ms_places (z : Md) (v : Nat → Int32) : M_places (M_s_set z v) = M_places z := rfl
theorem Ms_many (z : Md) (v : Nat → Int32) : M_many (M_s_set z v) = M_many z := rfl
theorem Ms_id (z : Md) : M_s_set z (M_s z) = z := rfl
/-- all but the row, the families and the letters aside stays -/
def KO (M M' : Md) : Prop := M_aside M' = M_aside M ∧ M_before M' = M_before M ∧ M_saved M' = M_saved M ∧ M_text M' = M_text M ∧ M_typed M' = M_typed M
theorem KO_s (M : Md) (s : Nat → Int32) : KO M (M_s_set M s) := ⟨rfl, rfl, rfl, rfl, rfl⟩
theorem KO_t {A B C : Md} (h : KO A B) (k : KO B C) : KO A C := ⟨k.1.trans h.1, k.2.1.trans h.2.1, k.2.2.1.trans h.2.2.1, k.2.2.2.1.trans h.2.2.2.1, k.2.2.2.2.trans h.2.2.2.2⟩
theorem KO_m {A B : Md} (h : KM A B) : KO A B := h.2
theorem KO_r (M : Md) : KO M M := ⟨rfl, rfl, rfl, rfl, rfl⟩
theorem RM_ptx2 {s : Nat → Int32} {g : GS} {p p2 : Nat → Nat} (h : RM s (U_pt g p)) (e : ∀ i, i < 8 → p2 i = p i) : RM s (U_pt g p2) := RM_ptx (g := U_pt g p) h e
section PLAY
variable {z : St} {M : Md} {g : GS}
def okH (g : GS) : Prop := G_len g ≤ 8 ∧ (∀ k, k < 8 → G_pt g k < 27) ∧ ∀ k, k < 8 → G_len g ≤ k → G_pt g k = 0
theorem hidden6 (h : RM (M_s M) g) (ok : okH g) : f_X6_isHidden M = some (if szN (G_pt g) = G_len g then 0 else 1) := by
  have l8 := ok.1
  unfold f_X6_isHidden
  rw [szN_len l8 (fun k a b => ok.2.2 k a b)]
  refine run2 (fun j a b => a = (if fb_ct (fun k => decide (G_pt g k ≠ 0)) j = j then 0 else 1) ∧ b = nI j) (fun r => r = some (if fb_ct (fun k => decide (G_pt g k ≠ 0)) (G_len g) = G_len g then 0 else 1)) (G_len g) ?_ ?_ FU 0 0 (FU_gt (by omega)) ⟨rfl, rfl⟩
  · rintro j a b hj ⟨rfl, rfl⟩
    refine ⟨(if fb_ct (fun k => decide (G_pt g k ≠ 0)) (j + 1) = j + 1 then 0 else 1), nI (j + 1), ⟨rfl, rfl⟩, fun re => ?_⟩
    have hp := ok.2.1 j (by omega)
    have hle := fb_ct_le (fun k => decide (G_pt g k ≠ 0)) j
    unfold f_X6_isHidden_L4
    simp only [lett]
    rw [m3, h.2.2.2.1, i_lt (by omega) (by omega), if_pos hj, a41, getA_n (by omega) (by omega), h.2.2.2.2.2.2.2.2.2.2.1 j (by omega), fb_ct_succ, x_a1]
    show _ = re (if fb_ct (fun k => decide (G_pt g k ≠ 0)) j + (if decide (G_pt g j ≠ 0) = true then 1 else 0) = j + 1 then 0 else 1) _
    generalize fb_ct (fun k => decide (G_pt g k ≠ 0)) j = F at *
    by_cases q : F = j
    · rw [if_pos q, if_pos rfl]
      by_cases w : G_pt g j = 0
      · rw [if_pos (by rw [ltr_0 (by omega)]; exact w), if_neg (by rw [if_neg (by simp [w])]; omega)]
      · rw [if_neg (by rw [ltr_0 (by omega)]; exact w), if_pos (by rw [if_pos (by simp [w])]; omega)]
    · rw [if_neg q, if_neg (by decide), if_neg]
      by_cases w : G_pt g j = 0
      · rw [if_neg (by simp [w])]; omega
      · rw [if_pos (by simp [w])]; omega
  · rintro a b ⟨rfl, rfl⟩ re
    unfold f_X6_isHidden_L4
    rw [m3, h.2.2.2.1, i_lt (by omega) (by omega), if_neg (by omega)]
    by_cases q : fb_ct (fun k => decide (G_pt g k ≠ 0)) (G_len g) = G_len g
    · rw [if_pos q]; rfl
    · rw [if_neg q]; rfl
theorem take6 (h : RM (M_s M) g) (ok : okG g) (hg : G_gc g < 26) {c v : Nat} (hc : c < 26) (hv : v < 30) {mask mem : Int32} {nar : Bool} {s0 : Int32} (hmk : M_mask M v = mask) (hme : M_members M v = mem) (hn : mask = 0 → s0 = if nar = true then 1 else 0) (hm : ∀ k, bt mask k = true → k < G_len g ∧ G_pt g k = 0) (okp : okH (gShow g c mask mem)) (hl : 1 ≤ G_lv g) : ∃ s', f_X6_guessesOn_J33 (nI (97 + c)) (nI v) M s0 = some (if mask = 0 then 0 else M_places M v, M_s_set M s') ∧ RM s' (gTake g c mask mem nar) := by
  have l8 := ok.2.2.2.1
  have n30 := ok.1
  have r1 := RM_cd h mem
  have q1 : upd (M_s M) 7 mem 6 = nI (G_gc g) := r1.2.2.2.2.2.2.1
  have r2 := RM_od r1 hg (nI (97 + c))
  have q2 : upd (upd (M_s M) 7 mem) (15 + G_gc g) (nI (97 + c)) 6 = nI (G_gc g) := (upd_n (by omega)).trans q1
  have r3 := RM_gs r2 (G_gs g ||| bit c)
  have q3 := r2.2.2.2.2.2.1
  have r4 := RM_tot r3 3 (by omega) (G_tot g 3 + 1)
  have q4 := r3.2.2.2.2.2.2.2.2.1 3 (by omega)
  unfold f_X6_guessesOn_J33 gTake
  have q4' : upd (upd (upd (upd (M_s M) 7 mem) (15 + G_gc g) (nI (97 + c))) 6 (nI (G_gc g + 1))) 5 (G_gs g ||| bit c) 11 = G_tot g 3 := q4
  have e97 : nI (97 + c) - 97 = nI c := by rw [show (97 : Int32) = nI 97 from rfl, pk_sub (by omega), show 97 + c - 97 = c by omega]
  rw [getA_n hv (by omega), hme, k7_, lt_, cl7, Ms_s, m6, q1, a15, chkA_n (by omega) (by omega), lt_, x_cl (by omega), Ms_ss, Ms_s, m6, q2, k6_, lt_, cl6, x_a1, Ms_ss, Ms_s, m5, q3, k5_, lt_, cl5, e97, Ms_ss, Ms_s, m11, q4', k11_, lt_, cl11, Ms_ss, Ms_mask, getA_n hv (by omega), hmk]
  have s4 : upd (upd (upd (upd (upd (M_s M) 7 mem) (15 + G_gc g) (nI (97 + c))) 6 (nI (G_gc g + 1))) 5 (G_gs g ||| bit c)) 11 (G_tot g 3 + 1) = upd (upd (upd (upd (upd (M_s M) 7 mem) (15 + G_gc g) (nI (97 + c))) 6 (nI (G_gc g + 1))) 5 (G_gs g ||| bit c)) (8 + 3) (G_tot g 3 + 1) := rfl
  rw [s4]
  have r5 : RM (upd (upd (upd (upd (upd (M_s M) 7 mem) (15 + G_gc g) (nI (97 + c))) 6 (nI (G_gc g + 1))) 5 (G_gs g ||| bit c)) (8 + 3) (G_tot g 3 + 1)) (U_cd (gNote g c) mem) := r4
  generalize upd (upd (upd (upd (upd (M_s M) 7 mem) (15 + G_gc g) (nI (97 + c))) 6 (nI (G_gc g + 1))) 5 (G_gs g ||| bit c)) (8 + 3) (G_tot g 3 + 1) = s5 at *
  by_cases q : mask = 0
  · rw [if_pos q, if_pos q, if_pos q, hn q]
    obtain ⟨s6, e6, r6⟩ := misses6 (M := M_s_set M s5) r5 hl ok.2.2.2.2.1 nar
    exact ⟨s6, by rw [e6, ob, Ms_ss], r6⟩
  · rw [if_neg q, if_neg q, if_neg q]
    have key : ∃ s', loop2 (f_X6_guessesOn_L123 mask (nI (97 + c)) (nI v)) FU 0 (M_s_set M s5) = f_X6_guessesOn_J175 (nI v) (M_s_set M s') ∧ RM s' (U_pt (U_cd (gNote g c) mem) (fun k => if k < G_len g ∧ bt mask k = true then c + 1 else G_pt g k)) := by
      refine run2 (fun j a (M' : Md) => a = nI j ∧ ∃ s', M' = M_s_set M s' ∧ RM s' (U_pt (U_cd (gNote g c) mem) (fun k => if k < j ∧ bt mask k = true then c + 1 else G_pt g k))) (fun r => ∃ s', r = f_X6_guessesOn_J175 (nI v) (M_s_set M s') ∧ RM s' (U_pt (U_cd (gNote g c) mem) (fun k => if k < G_len g ∧ bt mask k = true then c + 1 else G_pt g k))) (G_len g) ?_ ?_ FU _ _ (FU_gt (by omega)) ⟨rfl, s5, rfl, RM_ptx r5 (fun i hi => if_neg (by omega))⟩
      · rintro j a M' hj ⟨rfl, s', rfl, rj⟩
        have ln : s' 3 = nI (G_len g) := rj.2.2.2.1
        by_cases w : bt mask j = true
        · refine ⟨nI (j + 1), M_s_set M (upd s' (41 + j) (ltr (c + 1))), ⟨rfl, _, rfl, RM_pt rj (show G_gc g + 1 ≤ 26 by omega) n30 j (c + 1) (by omega) (fun i hi => ?_)⟩, fun re => ?_⟩
          · by_cases y : i = j
            · subst y; rw [if_pos rfl, if_pos ⟨by omega, w⟩]
            · rw [if_neg y]
              by_cases x : i < j ∧ bt mask i = true
              · rw [if_pos x, if_pos ⟨by omega, x.2⟩]
              · rw [if_neg x, if_neg (fun v => x ⟨by omega, v.2⟩)]
          · unfold f_X6_guessesOn_L123
            rw [m3, Ms_s, ln, i_lt (by omega) (by omega), if_pos hj]
            simp only [sh_1 _ j (show j < 32 by omega)]
            simp only [lett]
            rw [if_pos w, a41, chkA_n (by omega) (by omega), x_cl (by omega), x_a1, Ms_ss, ltr_nI (by omega), show 96 + (c + 1) = 97 + c by omega]
        · refine ⟨nI (j + 1), M_s_set M s', ⟨rfl, s', rfl, RM_ptx2 rj (fun i hi => ?_)⟩, fun re => ?_⟩
          · by_cases x : i < j ∧ bt mask i = true
            · rw [if_pos x, if_pos ⟨by omega, x.2⟩]
            · rw [if_neg x, if_neg (fun v => x ⟨by
                have : i ≠ j := fun y => by rw [y] at v; exact w v.2
                omega, v.2⟩)]
          · unfold f_X6_guessesOn_L123
            rw [m3, Ms_s, ln, i_lt (by omega) (by omega), if_pos hj]
            simp only [sh_1 _ j (show j < 32 by omega)]
            simp only [lett]
            rw [if_neg w, a41, getA_n (by omega) (by omega), chkA_n (by omega) (by omega), x_cl (by omega), upd_self, x_a1, Ms_ss]
      · rintro a M' ⟨rfl, s', rfl, rj⟩ re
        have ln : s' 3 = nI (G_len g) := rj.2.2.2.1
        unfold f_X6_guessesOn_L123
        rw [m3, Ms_s, ln, i_lt (by omega) (by omega), if_neg (by omega)]
        exact ⟨s', rfl, rj⟩
    obtain ⟨s6, e6, r6⟩ := key
    rw [e6]
    have r7 : RM s6 (gShow g c mask mem) := RM_ptx2 r6 (fun i hi => by
      by_cases x : bt mask i = true
      · rw [if_pos x, if_pos ⟨(hm i x).1, x⟩]
      · rw [if_neg x, if_neg (fun v => x v.2)])
    unfold f_X6_guessesOn_J175
    rw [hidden6 (M := M_s_set M s6) (g := gShow g c mask mem) r7 okp, ob]
    by_cases w : szN (G_pt (gShow g c mask mem)) = G_len g
    · obtain ⟨s8, e8, r8⟩ := ends2 (M := M_s_set M s6) r7
      rw [if_pos w, if_pos rfl, if_pos w, e8, ob, Ms_ss, getA_n (by omega) (by omega), Ms_places]
      exact ⟨s8, rfl, r8⟩
    · rw [if_neg w, if_neg (by decide), if_neg w, getA_n (by omega) (by omega), Ms_places]
      exact ⟨s6, rfl, r7⟩
end PLAY
