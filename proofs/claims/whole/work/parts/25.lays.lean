/-! ===== stage B: the reference lays the same families ===== -/
def KM (M M' : Md) : Prop := M_s M' = M_s M ∧ M_aside M' = M_aside M ∧ M_before M' = M_before M ∧ M_saved M' = M_saved M ∧ M_text M' = M_text M ∧ M_typed M' = M_typed M
theorem KM_r (M : Md) : KM M M := ⟨rfl, rfl, rfl, rfl, rfl, rfl⟩
theorem KM_t {A B C : Md} (h : KM A B) (k : KM B C) : KM A C := ⟨k.1.trans h.1, k.2.1.trans h.2.1, k.2.2.1.trans h.2.2.1, k.2.2.2.1.trans h.2.2.2.1, k.2.2.2.2.1.trans h.2.2.2.2.1, k.2.2.2.2.2.trans h.2.2.2.2.2⟩
def MRd (M : Md) (f : FS) : Prop := M_many M = nI f.2.2 ∧ ∀ k, k < f.2.2 → M_mask M k = f.1 k ∧ M_members M k = f.2.1 k
def MRs (D : Nat → Nat → Nat) (ng : Int32) (n : Nat) (M : Md) (f : FS) (j : Nat) : Prop := ∀ k, k < j → M_fresh M k = nI (bc (fr D (f.2.1 k) n &&& ng) 31) ∧ M_size M k = nI (bc (f.2.1 k) 31) ∧ M_places M k = nI (bc (f.1 k) 31)
theorem famWith6 {M : Md} {m : Nat} (x : Int32) (h : M_many M = nI m) (hm : m ≤ 30) : f_X6_familyWith M x = some (nI (look (M_mask M) x m)) := by
  unfold f_X6_familyWith
  refine find1 (M_mask M) x m (by omega) ?_ ?_
  · intro k hk hne re
    unfold f_X6_familyWith_L2
    rw [h, i_lt (by omega) (by omega), if_pos hk, getA_n (by omega) (by omega), if_neg hne]
    show re _ = _
    rw [x_a1]
  · intro k hk re
    have := look_le (M_mask M) x m
    unfold f_X6_familyWith_L2
    rw [h, i_lt (by omega) (by omega)]
    by_cases q : k < m
    · rw [if_pos q, getA_n (by omega) (by omega), if_pos (by rw [hk]; exact look_at (by rw [← hk]; exact q)), hk]
    · rw [if_neg q, hk]
theorem lay1 {M : Md} {g : GS} (h : RM (M_s M) g) (ok : okG g) {c : Nat} (hc : c < 26) : ∃ M', KM M M' ∧ MRd M' (fams (G_D g) (c + 1) (G_cd g) (G_n g)) ∧ f_X6_laysFamilies M (nI (97 + c)) = f_X6_laysFamilies_J93 (nI (97 + c)) M' := by
  unfold f_X6_laysFamilies
  simp only [lett]
  have hn := ok.1
  refine run2 (fun j a (M' : Md) => a = nI j ∧ KM M M' ∧ MRd M' (fams (G_D g) (c + 1) (G_cd g) j)) (fun r => ∃ M', KM M M' ∧ MRd M' (fams (G_D g) (c + 1) (G_cd g) (G_n g)) ∧ r = f_X6_laysFamilies_J93 (nI (97 + c)) M') (G_n g) ?_ ?_ FU _ _ (FU_gt (by omega)) ⟨rfl, ⟨rfl, rfl, rfl, rfl, rfl, rfl⟩, rfl, fun k hk => absurd hk (Nat.not_lt_zero _)⟩
  · rintro j a M' hj ⟨rfl, hk, hM⟩
    have h' : RM (M_s M') g := by rw [hk.1]; exact h
    have hcj := isCand6 h' (w := j) (by omega)
    obtain ⟨i1, i2, i3, i4, i5⟩ := fams_I (G_D g) (c + 1) (G_cd g) j (by omega)
    rw [show fams (G_D g) (c + 1) (G_cd g) (j + 1) = fst_ (G_D g) (c + 1) (G_cd g) j (fams (G_D g) (c + 1) (G_cd g) j) from rfl]
    generalize fams (G_D g) (c + 1) (G_cd g) j = f at *
    obtain ⟨ms, me, m⟩ := f
    simp only at i1 i2 i3 i4 i5
    obtain ⟨h1, h2⟩ := hM
    simp only at h1 h2
    unfold fst_
    simp only
    by_cases q : bt (G_cd g) j = true
    · rw [if_pos q]
      have hlk : look ms (msk (G_D g j) (c + 1)) m = look (M_mask M') (msk (G_D g j) (c + 1)) m := look_cong (fun k hk => (h2 k hk).1.symm)
      have hle := look_le ms (msk (G_D g j) (c + 1)) m
      by_cases hl : look ms (msk (G_D g j) (c + 1)) m = m
      · rw [if_pos hl]
        refine ⟨nI (j + 1), M_members_set (M_many_set (M_members_set (M_mask_set M' (upd (M_mask M') m (msk (G_D g j) (c + 1)))) (upd (M_members M') m 0)) (M_many M' + 1)) (upd (upd (M_members M') m 0) m (upd (M_members M') m 0 m ||| bit j)), ⟨rfl, ?_, ?_⟩, fun re => ?_⟩
        rotate_left
        rotate_left
        · unfold f_X6_laysFamilies_L7
          rw [m0, h'.1, i_lt (by omega) (by omega), if_pos hj, hcj, ob, if_pos q, if_neg (by decide), maskOf6 h' ok hj hc, ob, famWith6 _ h1 (by omega), ob, h1, ← hlk, hl, if_pos rfl]
          simp only [lett]
          rw [chkA_n (by omega) (by omega), chkA_n (by omega) (by omega), getA_n (by omega) (by omega), chkA_n (by omega) (by omega), x_cl (by omega), x_a1, ← h1]
          rfl
        · exact ⟨hk.1, hk.2.1, hk.2.2.1, hk.2.2.2.1, hk.2.2.2.2.1, hk.2.2.2.2.2⟩
        · refine ⟨?_, fun k hk => ?_⟩
          · show M_many M' + 1 = nI (m + 1)
            rw [h1, x_a1]
          · simp only at hk
            show upd (M_mask M') m (msk (G_D g j) (c + 1)) k = upd ms m (msk (G_D g j) (c + 1)) k ∧ upd (upd (M_members M') m 0) m (upd (M_members M') m 0 m ||| bit j) k = upd me m (0 ||| bit j) k
            rcases (show k < m ∨ k = m by omega) with q | rfl
            · have z : k ≠ m := by omega
              rw [upd_n z, upd_n z, upd_n z, upd_n z, upd_n z]
              exact h2 k q
            · rw [upd_e, upd_e, upd_e, upd_e, upd_e]
              exact ⟨rfl, rfl⟩
      · rw [if_neg hl]
        refine ⟨nI (j + 1), M_members_set M' (upd (M_members M') (look ms (msk (G_D g j) (c + 1)) m) (M_members M' (look ms (msk (G_D g j) (c + 1)) m) ||| bit j)), ⟨rfl, ?_, ?_⟩, fun re => ?_⟩
        rotate_left
        rotate_left
        · unfold f_X6_laysFamilies_L7
          rw [m0, h'.1, i_lt (by omega) (by omega), if_pos hj, hcj, ob, if_pos q, if_neg (by decide), maskOf6 h' ok hj hc, ob, famWith6 _ h1 (by omega), ob, h1, ← hlk, i_eq (by omega) (by omega), if_neg hl]
          simp only [lett]
          rw [getA_n (by omega) (by omega), chkA_n (by omega) (by omega), x_cl (by omega), x_a1]
        · exact ⟨hk.1, hk.2.1, hk.2.2.1, hk.2.2.2.1, hk.2.2.2.2.1, hk.2.2.2.2.2⟩
        · refine ⟨h1, fun k hk => ?_⟩
          have hv : look ms (msk (G_D g j) (c + 1)) m < m := by omega
          generalize look ms (msk (G_D g j) (c + 1)) m = v at *
          simp only at hk
          show M_mask M' k = ms k ∧ upd (M_members M') v (M_members M' v ||| bit j) k = upd me v (me v ||| bit j) k
          by_cases z : k = v
          · subst z
            rw [upd_e, upd_e, (h2 k hk).1, (h2 k hk).2]
            exact ⟨rfl, rfl⟩
          · rw [upd_n z, upd_n z]
            exact h2 k hk
    · rw [if_neg q]
      refine ⟨nI (j + 1), M', ⟨rfl, hk, h1, h2⟩, fun re => ?_⟩
      unfold f_X6_laysFamilies_L7
      rw [m0, h'.1, i_lt (by omega) (by omega), if_pos hj, hcj, ob, if_neg q, if_pos rfl]
      simp only [lett]
      rw [x_a1]
  · rintro a M' ⟨rfl, hk, hM⟩ re
    have h' : RM (M_s M') g := by rw [hk.1]; exact h
    unfold f_X6_laysFamilies_L7
    rw [m0, h'.1, i_lt (by omega) (by omega), if_neg (by omega)]
    exact ⟨M', hk, hM, rfl⟩
theorem lay2 {M : Md} {g : GS} (h : RM (M_s M) g) (ok : okG g) {c : Nat} (hc : c < 26) {f : FS} (hm : f.2.2 ≤ 30) (hM : MRd M f) : ∃ M', f_X6_laysFamilies_J93 (nI (97 + c)) M = some M' ∧ KM M M' ∧ MRd M' f ∧ MRs (G_D g) (ngx (G_gs g) c) (G_n g) M' f f.2.2 := by
  unfold f_X6_laysFamilies_J93
  have hn := ok.1
  refine run2 (fun j a (M' : Md) => a = nI j ∧ KM M M' ∧ MRd M' f ∧ MRs (G_D g) (ngx (G_gs g) c) (G_n g) M' f j) (fun r => ∃ M', r = some M' ∧ KM M M' ∧ MRd M' f ∧ MRs (G_D g) (ngx (G_gs g) c) (G_n g) M' f f.2.2) f.2.2 ?_ ?_ FU _ _ (FU_gt (by omega)) ⟨rfl, KM_r M, hM, fun k hk => absurd hk (Nat.not_lt_zero _)⟩
  · rintro j a M' hj ⟨rfl, hk, ⟨h1, h2⟩, h3⟩
    have h' : RM (M_s M') g := by rw [hk.1]; exact h
    refine ⟨nI (j + 1), M_places_set (M_size_set (M_fresh_set M' (upd (M_fresh M') j (nI (bc (fr (G_D g) (f.2.1 j) (G_n g) &&& ngx (G_gs g) c) 31)))) (upd (M_size M') j (nI (bc (f.2.1 j) 31)))) (upd (M_places M') j (nI (bc (f.1 j) 31))), ⟨rfl, ?_, ?_, ?_⟩, fun re => ?_⟩
    rotate_left
    rotate_left
    rotate_left
    · unfold f_X6_laysFamilies_L95
      rw [h1, i_lt (by omega) (by omega), if_pos hj]
      refine racc (fun w y => if bt (f.2.1 j) w = true then y ||| lts (G_D g w) else y) (G_n g) (by omega) 0 ?_ ?_
      · intro w hw re2
        show _ = re2 (if bt (f.2.1 j) w = true then _ ||| lts (G_D g w) else _) _
        generalize acc _ _ w = y
        unfold f_X6_laysFamilies_L108
        simp only [lett]
        rw [m0, h'.1, i_lt (by omega) (by omega), if_pos hw, getA_n (by omega) (by omega), (h2 j hj).2, x_a1, orz, lettersOf6 h' ok hw, ob]
        simp only [sh_1 _ w (show w < 32 by omega)]
        by_cases q : bt (f.2.1 j) w = true
        · rw [if_pos q, if_pos q]
        · rw [if_neg q, if_neg q]
      · intro re2
        unfold f_X6_laysFamilies_L108
        rw [m0, h'.1, i_lt (by omega) (by omega), if_neg (by omega)]
        unfold f_X6_laysFamilies_J153
        rw [m5, h'.2.2.2.2.2.1, show (97 : Int32) = nI 97 from rfl, pk_sub (by omega), show 97 + c - 97 = c by omega, ng2, bits6, ob]
        simp only [lett]
        rw [chkA_n (by omega) (by omega), getA_n (by omega) (by omega)]
        show Option.bind (f_X6_bits (M_members M' j)) _ = _
        rw [bits6, ob, chkA_n (by omega) (by omega), getA_n (by omega) (by omega)]
        show Option.bind (f_X6_bits (M_mask M' j)) _ = _
        rw [bits6, ob, chkA_n (by omega) (by omega), x_cl (by omega), (h2 j hj).1, (h2 j hj).2, x_a1]
        rfl
    · exact ⟨hk.1, hk.2.1, hk.2.2.1, hk.2.2.2.1, hk.2.2.2.2.1, hk.2.2.2.2.2⟩
    · exact ⟨h1, h2⟩
    · intro k hkj
      show upd (M_fresh M') j (nI (bc (fr (G_D g) (f.2.1 j) (G_n g) &&& ngx (G_gs g) c) 31)) k = _ ∧ upd (M_size M') j (nI (bc (f.2.1 j) 31)) k = _ ∧ upd (M_places M') j (nI (bc (f.1 j) 31)) k = _
      by_cases z : k = j
      · subst z
        rw [upd_e, upd_e, upd_e]
        exact ⟨rfl, rfl, rfl⟩
      · rw [upd_n z, upd_n z, upd_n z]
        exact h3 k (by omega)
  · rintro a M' ⟨rfl, hk, hM', h3⟩ re
    unfold f_X6_laysFamilies_L95
    rw [hM'.1, i_lt (by omega) (by omega), if_neg (by omega)]
    exact ⟨M', rfl, hk, hM', h3⟩
theorem lay6 {M : Md} {g : GS} (h : RM (M_s M) g) (ok : okG g) {c : Nat} (hc : c < 26) : ∃ M', f_X6_laysFamilies M (nI (97 + c)) = some M' ∧ KM M M' ∧ MRd M' (fams (G_D g) (c + 1) (G_cd g) (G_n g)) ∧ MRs (G_D g) (ngx (G_gs g) c) (G_n g) M' (fams (G_D g) (c + 1) (G_cd g) (G_n g)) (fams (G_D g) (c + 1) (G_cd g) (G_n g)).2.2 := by
  obtain ⟨M1, k1, r1, e1⟩ := lay1 h ok hc
  have h1 : RM (M_s M1) g := by rw [k1.1]; exact h
  have hn := ok.1
  have hm := (fams_I (G_D g) (c + 1) (G_cd g) (G_n g) (by omega)).1
  obtain ⟨M2, e2, k2, r2, s2⟩ := lay2 h1 ok hc (by omega) r1
  exact ⟨M2, by rw [e1, e2], KM_t k1 k2, r2, s2⟩
