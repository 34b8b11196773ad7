/-! ===== stage B: one thing of a game set ===== -/
abbrev U_n (g : GS) (v : Nat) : GS := (v, G_pol g, G_st g, G_len g, G_lv g, G_gc g, G_gs g, G_cd g, G_tot g, G_od g, G_pt g, G_Z g, G_D g)
abbrev U_pol (g : GS) (v : Nat) : GS := (G_n g, v, G_st g, G_len g, G_lv g, G_gc g, G_gs g, G_cd g, G_tot g, G_od g, G_pt g, G_Z g, G_D g)
abbrev U_st (g : GS) (v : Nat) : GS := (G_n g, G_pol g, v, G_len g, G_lv g, G_gc g, G_gs g, G_cd g, G_tot g, G_od g, G_pt g, G_Z g, G_D g)
abbrev U_len (g : GS) (v : Nat) : GS := (G_n g, G_pol g, G_st g, v, G_lv g, G_gc g, G_gs g, G_cd g, G_tot g, G_od g, G_pt g, G_Z g, G_D g)
abbrev U_lv (g : GS) (v : Nat) : GS := (G_n g, G_pol g, G_st g, G_len g, v, G_gc g, G_gs g, G_cd g, G_tot g, G_od g, G_pt g, G_Z g, G_D g)
abbrev U_gc (g : GS) (v : Nat) : GS := (G_n g, G_pol g, G_st g, G_len g, G_lv g, v, G_gs g, G_cd g, G_tot g, G_od g, G_pt g, G_Z g, G_D g)
abbrev U_gs (g : GS) (v : Int32) : GS := (G_n g, G_pol g, G_st g, G_len g, G_lv g, G_gc g, v, G_cd g, G_tot g, G_od g, G_pt g, G_Z g, G_D g)
abbrev U_cd (g : GS) (v : Int32) : GS := (G_n g, G_pol g, G_st g, G_len g, G_lv g, G_gc g, G_gs g, v, G_tot g, G_od g, G_pt g, G_Z g, G_D g)
abbrev U_tot (g : GS) (v : Nat → Int32) : GS := (G_n g, G_pol g, G_st g, G_len g, G_lv g, G_gc g, G_gs g, G_cd g, v, G_od g, G_pt g, G_Z g, G_D g)
abbrev U_od (g : GS) (v : Nat → Int32) : GS := (G_n g, G_pol g, G_st g, G_len g, G_lv g, G_gc g, G_gs g, G_cd g, G_tot g, v, G_pt g, G_Z g, G_D g)
abbrev U_pt (g : GS) (v : Nat → Nat) : GS := (G_n g, G_pol g, G_st g, G_len g, G_lv g, G_gc g, G_gs g, G_cd g, G_tot g, G_od g, v, G_Z g, G_D g)
abbrev U_Z (g : GS) (v : Nat → Nat) : GS := (G_n g, G_pol g, G_st g, G_len g, G_lv g, G_gc g, G_gs g, G_cd g, G_tot g, G_od g, G_pt g, v, G_D g)
abbrev U_D (g : GS) (v : Nat → Nat → Nat) : GS := (G_n g, G_pol g, G_st g, G_len g, G_lv g, G_gc g, G_gs g, G_cd g, G_tot g, G_od g, G_pt g, G_Z g, v)
section SETM
variable {s : Nat → Int32} {g : GS}
theorem RM_pol (h : RM s g) (v : Nat) : RM (upd s 1 (nI v)) (U_pol g v) := by
  obtain ⟨h0, h1, h2, h3, h4, h5, h6, h7, h8, h9, h10, h11, h12⟩ := h
  exact ⟨(upd_n (by omega)).trans h0, upd_e _ _ _, (upd_n (by omega)).trans h2, (upd_n (by omega)).trans h3, (upd_n (by omega)).trans h4, (upd_n (by omega)).trans h5, (upd_n (by omega)).trans h6, (upd_n (by omega)).trans h7, fun k hk => (upd_n (by omega)).trans (h8 k hk), fun k hk => (upd_n (by omega)).trans (h9 k hk), fun k hk => (upd_n (by omega)).trans (h10 k hk), fun w hw => (upd_n (by omega)).trans (h11 w hw), fun w k hw hk => (upd_n (by omega)).trans (h12 w k hw hk)⟩
theorem RM_st (h : RM s g) (v : Nat) : RM (upd s 2 (nI v)) (U_st g v) := by
  obtain ⟨h0, h1, h2, h3, h4, h5, h6, h7, h8, h9, h10, h11, h12⟩ := h
  exact ⟨(upd_n (by omega)).trans h0, (upd_n (by omega)).trans h1, upd_e _ _ _, (upd_n (by omega)).trans h3, (upd_n (by omega)).trans h4, (upd_n (by omega)).trans h5, (upd_n (by omega)).trans h6, (upd_n (by omega)).trans h7, fun k hk => (upd_n (by omega)).trans (h8 k hk), fun k hk => (upd_n (by omega)).trans (h9 k hk), fun k hk => (upd_n (by omega)).trans (h10 k hk), fun w hw => (upd_n (by omega)).trans (h11 w hw), fun w k hw hk => (upd_n (by omega)).trans (h12 w k hw hk)⟩
theorem RM_len (h : RM s g) (v : Nat) : RM (upd s 3 (nI v)) (U_len g v) := by
  obtain ⟨h0, h1, h2, h3, h4, h5, h6, h7, h8, h9, h10, h11, h12⟩ := h
  exact ⟨(upd_n (by omega)).trans h0, (upd_n (by omega)).trans h1, (upd_n (by omega)).trans h2, upd_e _ _ _, (upd_n (by omega)).trans h4, (upd_n (by omega)).trans h5, (upd_n (by omega)).trans h6, (upd_n (by omega)).trans h7, fun k hk => (upd_n (by omega)).trans (h8 k hk), fun k hk => (upd_n (by omega)).trans (h9 k hk), fun k hk => (upd_n (by omega)).trans (h10 k hk), fun w hw => (upd_n (by omega)).trans (h11 w hw), fun w k hw hk => (upd_n (by omega)).trans (h12 w k hw hk)⟩
theorem RM_lv (h : RM s g) (v : Nat) : RM (upd s 4 (nI v)) (U_lv g v) := by
  obtain ⟨h0, h1, h2, h3, h4, h5, h6, h7, h8, h9, h10, h11, h12⟩ := h
  exact ⟨(upd_n (by omega)).trans h0, (upd_n (by omega)).trans h1, (upd_n (by omega)).trans h2, (upd_n (by omega)).trans h3, upd_e _ _ _, (upd_n (by omega)).trans h5, (upd_n (by omega)).trans h6, (upd_n (by omega)).trans h7, fun k hk => (upd_n (by omega)).trans (h8 k hk), fun k hk => (upd_n (by omega)).trans (h9 k hk), fun k hk => (upd_n (by omega)).trans (h10 k hk), fun w hw => (upd_n (by omega)).trans (h11 w hw), fun w k hw hk => (upd_n (by omega)).trans (h12 w k hw hk)⟩
theorem RM_gs (h : RM s g) (v : Int32) : RM (upd s 5 v) (U_gs g v) := by
  obtain ⟨h0, h1, h2, h3, h4, h5, h6, h7, h8, h9, h10, h11, h12⟩ := h
  exact ⟨(upd_n (by omega)).trans h0, (upd_n (by omega)).trans h1, (upd_n (by omega)).trans h2, (upd_n (by omega)).trans h3, (upd_n (by omega)).trans h4, upd_e _ _ _, (upd_n (by omega)).trans h6, (upd_n (by omega)).trans h7, fun k hk => (upd_n (by omega)).trans (h8 k hk), fun k hk => (upd_n (by omega)).trans (h9 k hk), fun k hk => (upd_n (by omega)).trans (h10 k hk), fun w hw => (upd_n (by omega)).trans (h11 w hw), fun w k hw hk => (upd_n (by omega)).trans (h12 w k hw hk)⟩
theorem RM_cd (h : RM s g) (v : Int32) : RM (upd s 7 v) (U_cd g v) := by
  obtain ⟨h0, h1, h2, h3, h4, h5, h6, h7, h8, h9, h10, h11, h12⟩ := h
  exact ⟨(upd_n (by omega)).trans h0, (upd_n (by omega)).trans h1, (upd_n (by omega)).trans h2, (upd_n (by omega)).trans h3, (upd_n (by omega)).trans h4, (upd_n (by omega)).trans h5, (upd_n (by omega)).trans h6, upd_e _ _ _, fun k hk => (upd_n (by omega)).trans (h8 k hk), fun k hk => (upd_n (by omega)).trans (h9 k hk), fun k hk => (upd_n (by omega)).trans (h10 k hk), fun w hw => (upd_n (by omega)).trans (h11 w hw), fun w k hw hk => (upd_n (by omega)).trans (h12 w k hw hk)⟩
theorem RM_tot (h : RM s g) (k : Nat) (hk : k < 7) (v : Int32) : RM (upd s (8 + k) v) (U_tot g (upd (G_tot g) k v)) := by
  obtain ⟨h0, h1, h2, h3, h4, h5, h6, h7, h8, h9, h10, h11, h12⟩ := h
  exact ⟨(upd_n (by omega)).trans h0, (upd_n (by omega)).trans h1, (upd_n (by omega)).trans h2, (upd_n (by omega)).trans h3, (upd_n (by omega)).trans h4, (upd_n (by omega)).trans h5, (upd_n (by omega)).trans h6, (upd_n (by omega)).trans h7, fun j hj => by
    show upd s (8 + k) v (8 + j) = upd (G_tot g) k v j
    by_cases q : j = k
    · rw [q, upd_e, upd_e]
    · rw [upd_n (by omega), upd_n q]; exact h8 j hj, fun k hk => (upd_n (by omega)).trans (h9 k hk), fun k hk => (upd_n (by omega)).trans (h10 k hk), fun w hw => (upd_n (by omega)).trans (h11 w hw), fun w k hw hk => (upd_n (by omega)).trans (h12 w k hw hk)⟩
theorem RM_od (h : RM s g) (hg : G_gc g < 26) (x : Int32) : RM (upd (upd s (15 + G_gc g) x) 6 (nI (G_gc g + 1))) (U_gc (U_od g (upd (G_od g) (G_gc g) x)) (G_gc g + 1)) := by
  obtain ⟨h0, h1, h2, h3, h4, h5, h6, h7, h8, h9, h10, h11, h12⟩ := h
  exact ⟨((upd_n (by omega)).trans (upd_n (by omega))).trans h0, ((upd_n (by omega)).trans (upd_n (by omega))).trans h1, ((upd_n (by omega)).trans (upd_n (by omega))).trans h2, ((upd_n (by omega)).trans (upd_n (by omega))).trans h3, ((upd_n (by omega)).trans (upd_n (by omega))).trans h4, ((upd_n (by omega)).trans (upd_n (by omega))).trans h5, upd_e _ _ _, ((upd_n (by omega)).trans (upd_n (by omega))).trans h7, fun k hk => ((upd_n (by omega)).trans (upd_n (by omega))).trans (h8 k hk), fun k hk => by
    show upd (upd s (15 + G_gc g) x) 6 (nI (G_gc g + 1)) (15 + k) = upd (G_od g) (G_gc g) x k
    rw [upd_n (show 15 + k ≠ 6 by omega)]
    by_cases q : k = G_gc g
    · rw [q, upd_e, upd_e]
    · rw [upd_n (by omega), upd_n q]; exact h9 k (by have : k < G_gc g + 1 := hk; omega), fun k hk => ((upd_n (by omega)).trans (upd_n (by omega))).trans (h10 k hk), fun w hw => ((upd_n (by omega)).trans (upd_n (by omega))).trans (h11 w hw), fun w k hw hk => ((upd_n (by omega)).trans (upd_n (by omega))).trans (h12 w k hw hk)⟩
theorem RM_pt {p p2 : Nat → Nat} (h : RM s (U_pt g p)) (hg : G_gc g ≤ 26) (hn : G_n g ≤ 30) (k d : Nat) (hk : k < 8) (e : ∀ i, i < 8 → p2 i = if i = k then d else p i) : RM (upd s (41 + k) (ltr d)) (U_pt g p2) := by
  obtain ⟨h0, h1, h2, h3, h4, h5, h6, h7, h8, h9, h10, h11, h12⟩ := h
  exact ⟨(upd_n (by omega)).trans h0, (upd_n (by omega)).trans h1, (upd_n (by omega)).trans h2, (upd_n (by omega)).trans h3, (upd_n (by omega)).trans h4, (upd_n (by omega)).trans h5, (upd_n (by omega)).trans h6, (upd_n (by omega)).trans h7, fun k hk => (upd_n (by omega)).trans (h8 k hk), fun j hj => (upd_n (by have : j < G_gc g := hj; omega)).trans (h9 j hj), fun j hj => by
    show upd s (41 + k) (ltr d) (41 + j) = ltr (p2 j)
    rw [e j hj]
    by_cases q : j = k
    · rw [q, upd_e, if_pos rfl]
    · rw [upd_n (by omega), if_neg q]; exact h10 j hj, fun w hw => (upd_n (by omega)).trans (h11 w hw), fun w k hw hk => (upd_n (by omega)).trans (h12 w k hw hk)⟩
theorem RM_ptx {p2 : Nat → Nat} (h : RM s g) (e : ∀ i, i < 8 → p2 i = G_pt g i) : RM s (U_pt g p2) := by
  obtain ⟨h0, h1, h2, h3, h4, h5, h6, h7, h8, h9, h10, h11, h12⟩ := h
  exact ⟨h0, h1, h2, h3, h4, h5, h6, h7, h8, h9, fun k hk => by
    show s (41 + k) = ltr (p2 k)
    rw [e k hk]; exact h10 k hk, h11, h12⟩
end SETM
section SETS
variable {z : St} {g : GS}
theorem RS_pol (h : RS z g) (v : Nat) : RS (S_policy_set z (nI v)) (U_pol g v) := by
  obtain ⟨h0, h1, h2, h3, h4, h5, h6, h7, h8, h9, h10, h11⟩ := h
  exact ⟨h0, rfl, h2, h3, h4, h5, h6, h7, h8, h9, h10, h11⟩
theorem RS_st (h : RS z g) (v : Nat) : RS (S_status_set z (nI v)) (U_st g v) := by
  obtain ⟨h0, h1, h2, h3, h4, h5, h6, h7, h8, h9, h10, h11⟩ := h
  exact ⟨h0, h1, rfl, h3, h4, h5, h6, h7, h8, h9, h10, h11⟩
theorem RS_len (h : RS z g) (v : Nat) : RS (S_length_set z (nI v)) (U_len g v) := by
  obtain ⟨h0, h1, h2, h3, h4, h5, h6, h7, h8, h9, h10, h11⟩ := h
  exact ⟨h0, h1, h2, rfl, h4, h5, h6, h7, h8, h9, h10, h11⟩
theorem RS_lv (h : RS z g) (v : Nat) : RS (S_lives_set z (nI v)) (U_lv g v) := by
  obtain ⟨h0, h1, h2, h3, h4, h5, h6, h7, h8, h9, h10, h11⟩ := h
  exact ⟨h0, h1, h2, h3, rfl, h5, h6, h7, h8, h9, h10, h11⟩
theorem RS_gs (h : RS z g) (v : Int32) : RS (S_guessed_set z v) (U_gs g v) := by
  obtain ⟨h0, h1, h2, h3, h4, h5, h6, h7, h8, h9, h10, h11⟩ := h
  exact ⟨h0, h1, h2, h3, h4, rfl, h6, h7, h8, h9, h10, h11⟩
theorem RS_cd (h : RS z g) (v : Int32) : RS (S_candidates_set z v) (U_cd g v) := by
  obtain ⟨h0, h1, h2, h3, h4, h5, h6, h7, h8, h9, h10, h11⟩ := h
  exact ⟨h0, h1, h2, h3, h4, h5, h6, rfl, h8, h9, h10, h11⟩
theorem RS_tot (h : RS z g) (k : Nat) (hk : k < 7) (v : Int32) : RS (S_totals_set z (upd (S_totals z) k v)) (U_tot g (upd (G_tot g) k v)) := by
  obtain ⟨h0, h1, h2, h3, h4, h5, h6, h7, h8, h9, h10, h11⟩ := h
  exact ⟨h0, h1, h2, h3, h4, h5, h6, h7, fun j hj => by
    show upd (S_totals z) k v j = upd (G_tot g) k v j
    by_cases q : j = k
    · rw [q, upd_e, upd_e]
    · rw [upd_n q, upd_n q]; exact h8 j hj, h9, h10, h11⟩
theorem RS_od (h : RS z g) (x : Int32) : RS (S_guessCount_set (S_lettersInOrder_set z (upd (S_lettersInOrder z) (G_gc g) x)) (nI (G_gc g + 1))) (U_gc (U_od g (upd (G_od g) (G_gc g) x)) (G_gc g + 1)) := by
  obtain ⟨h0, h1, h2, h3, h4, h5, h6, h7, h8, h9, h10, h11⟩ := h
  exact ⟨h0, h1, h2, h3, h4, h5, rfl, h7, h8, fun j hj => by
    show upd (S_lettersInOrder z) (G_gc g) x j = upd (G_od g) (G_gc g) x j
    by_cases q : j = G_gc g
    · rw [q, upd_e, upd_e]
    · rw [upd_n q, upd_n q]; exact h9 j (by have : j < G_gc g + 1 := hj; omega), h10, h11⟩
theorem RS_ptv (h : RS z g) (p : Nat → Nat) (X : Int64) (hX : X = lN (encN p)) : RS (S_pattern_set z X) (U_pt g p) := by
  obtain ⟨h0, h1, h2, h3, h4, h5, h6, h7, h8, h9, h10, h11⟩ := h
  have hp : p = G_pt (U_pt g p) := rfl
  have e : S_pattern (S_pattern_set z X) = lN (encN (G_pt (U_pt g p))) := by
    rw [← hp]
    exact hX
  exact ⟨h0, h1, h2, h3, h4, h5, h6, h7, h8, h9, e, h11⟩
theorem RS_pt (h : RS z g) (p : Nat → Nat) : RS (S_pattern_set z (lN (encN p))) (U_pt g p) := RS_ptv h p _ rfl
theorem RS_ptx {p : Nat → Nat} (h : RS z g) (e : ∀ i, i < 8 → p i = G_pt g i) : RS z (U_pt g p) := by
  obtain ⟨h0, h1, h2, h3, h4, h5, h6, h7, h8, h9, h10, h11⟩ := h
  exact ⟨h0, h1, h2, h3, h4, h5, h6, h7, h8, h9, by rw [h10, encN_cong e], h11⟩
theorem count2 (h : RS z g) {k : Nat} (hk : k < 7) : f_X2_count z (nI k) = some (S_totals_set z (upd (S_totals z) k (G_tot g k + 1))) := by
  unfold f_X2_count
  rw [i_n (by omega), show (7 : Int32) = nI 7 from rfl, i_lt (by omega) (by omega), if_pos hk, getA_n (by omega) (by omega), chkA_n (by omega) (by omega), x_cl (by omega), h.2.2.2.2.2.2.2.2.1 k hk]
  rfl
theorem count2' (h : RS z g) {k : Nat} (hk : k < 7) : ∃ z', f_X2_count z (nI k) = some z' ∧ RS z' (U_tot g (upd (G_tot g) k (G_tot g k + 1))) := ⟨_, count2 h hk, RS_tot h k hk _⟩
end SETS
