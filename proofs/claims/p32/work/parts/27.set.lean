/-! ===== stage B: one thing of a game set ===== -/
abbrev U_n (g : GS) (v : Nat) : GS := (v, G_pol g, G_st g, G_len g, G_lv g, G_gc g, G_gs g, G_cd g, G_tot g, G_od g, G_pt g, G_Z g, G_D g)
abbrev U_pol (g : GS) (v : Nat) : GS := (G_n g, v, G_st g, G_len g, G_lv g, G_gc g, G_gs g, G_cd g, G_tot g, G_od g, G_pt g, G_Z g, G_D g)
abbrev U_st (g : GS) (v : Nat) : GS := (G_n g, G_pol g, v, G_len g, G_lv g, G_gc g, G_gs g, G_cd g, G_tot g, G_od g, G_pt g, G_Z g, G_D g)
abbrev U_len (g : GS) (v : Nat) : GS := (G_n g, G_pol g, G_st g, v, G_lv g, G_gc g, G_gs g, G_cd g, G_tot g, G_od g, G_pt g, G_Z g, G_D g)
abbrev U_lv (g : GS) (v : Nat) : GS := (G_n g, G_pol g, G_st g, G_len g, v, G_gc g, G_gs g, G_cd g, G_tot g, G_od g, G_pt g, G_Z g, G_D g)
abbrev U_gc (g : GS) (v : Nat) : GS := (G_n g, G_pol g, G_st g, G_len g, G_lv g, v, G_gs g, G_cd g, G_tot g, G_od g, G_pt g, G_Z g, G_D g)
abbrev U_gs (g : GS) (v : Int32) : GS := (G_n g, G_pol g, G_st g, G_len g, G_lv g, G_gc g, v, G_cd g, G_tot g, G_od g, G_pt g, G_Z g, G_D g)
abbrev U_cd (g : GS) (v : Int32) : GS := (G_n g, G_pol g, G_st g, G_len g, G_lv g, G_gc g, G_gs g, v, G_tot g, G_od g, G_pt g, G_Z g, G_D g)
abbrev U_tot (g : GS) (v : Nat → Int32) : GS := (G_n g, G_pol g, G_st g, G_len g, G_lv g, G_gc g, G_gs g, G_cd g, v, G_od g, G_pt g, G_Z g, G_D g)
abbrev U_od (g : GS) (v : Nat → Int32) : GS := (G_n g, G_pol g, G_st g, G_len g, G_lv g, G_gc g, G_gs g, G_cd g, G_tot g, v, G_pt g, G_Z g, G_D g)
abbrev U_pt (g : GS) (v : Nat → Nat) : GS := (G_n g, G_pol g, G_st g, G_len g, G_lv g, G_gc g, G_gs g, G_cd g, G_tot g, G_od g, v, G_Z g, G_D g)
abbrev U_Z (g : GS) (v : Nat → Nat) : GS := (G_n g, G_pol g, G_st g, G_len g, G_lv g, G_gc g, G_gs g, G_cd g, G_tot g, G_od g, G_pt g, v, G_D g)
abbrev U_D (g : GS) (v : Nat → Nat → Nat) : GS := (G_n g, G_pol g, G_st g, G_len g, G_lv g, G_gc g, G_gs g, G_cd g, G_tot g, G_od g, G_pt g, G_Z g, v)
section SETM
variable {s : Nat → Int32} {g : GS}
end SETM
section SETS
variable {z : St} {g : GS}
theorem RS_pol (h : RS z g) (v : Nat) : RS (S_policy_set z (nI v)) (U_pol g v) := by
  obtain ⟨h0, h1, h2, h3, h4, h5, h6, h7, h8, h9, h10, h11⟩ := h
  exact ⟨h0, rfl, h2, h3, h4, h5, h6, h7, h8, h9, h10, h11⟩
theorem RS_st (h : RS z g) (v : Nat) : RS (S_status_set z (nI v)) (U_st g v) := by
  obtain ⟨h0, h1, h2, h3, h4, h5, h6, h7, h8, h9, h10, h11⟩ := h
  exact ⟨h0, h1, rfl, h3, h4, h5, h6, h7, h8, h9, h10, h11⟩
theorem RS_len (h : RS z g) (v : Nat) : RS (S_length_set z (nI v)) (U_len g v) := by
  obtain ⟨h0, h1, h2, h3, h4, h5, h6, h7, h8, h9, h10, h11⟩ := h
  exact ⟨h0, h1, h2, rfl, h4, h5, h6, h7, h8, h9, h10, h11⟩
theorem RS_lv (h : RS z g) (v : Nat) : RS (S_lives_set z (nI v)) (U_lv g v) := by
  obtain ⟨h0, h1, h2, h3, h4, h5, h6, h7, h8, h9, h10, h11⟩ := h
  exact ⟨h0, h1, h2, h3, rfl, h5, h6, h7, h8, h9, h10, h11⟩
theorem RS_gs (h : RS z g) (v : Int32) : RS (S_guessed_set z v) (U_gs g v) := by
  obtain ⟨h0, h1, h2, h3, h4, h5, h6, h7, h8, h9, h10, h11⟩ := h
  exact ⟨h0, h1, h2, h3, h4, rfl, h6, h7, h8, h9, h10, h11⟩
theorem RS_cd (h : RS z g) (v : Int32) : RS (S_candidates_set z v) (U_cd g v) := by
  obtain ⟨h0, h1, h2, h3, h4, h5, h6, h7, h8, h9, h10, h11⟩ := h
  exact ⟨h0, h1, h2, h3, h4, h5, h6, rfl, h8, h9, h10, h11⟩
theorem RS_tot (h : RS z g) (k : Nat) (hk : k < 7) (v : Int32) : RS (S_totals_set z (upd (S_totals z) k v)) (U_tot g (upd (G_tot g) k v)) := by
  obtain ⟨h0, h1, h2, h3, h4, h5, h6, h7, h8, h9, h10, h11⟩ := h
  exact ⟨h0, h1, h2, h3, h4, h5, h6, h7, fun j hj => by
    show upd (S_totals z) k v j = upd (G_tot g) k v j
    by_cases q : j = k
    · rw [q, upd_e, upd_e]
    · rw [upd_n q, upd_n q]; exact h8 j hj, h9, h10, h11⟩
theorem RS_od (h : RS z g) (x : Int32) : RS (S_guessCount_set (S_lettersInOrder_set z (upd (S_lettersInOrder z) (G_gc g) x)) (nI (G_gc g + 1))) (U_gc (U_od g (upd (G_od g) (G_gc g) x)) (G_gc g + 1)) := by
  obtain ⟨h0, h1, h2, h3, h4, h5, h6, h7, h8, h9, h10, h11⟩ := h
  exact ⟨h0, h1, h2, h3, h4, h5, rfl, h7, h8, fun j hj => by
    show upd (S_lettersInOrder z) (G_gc g) x j = upd (G_od g) (G_gc g) x j
    by_cases q : j = G_gc g
    · rw [q, upd_e, upd_e]
    · rw [upd_n q, upd_n q]; exact h9 j (by have : j < G_gc g + 1 := hj; omega), h10, h11⟩
theorem RS_ptv (h : RS z g) (p : Nat → Nat) (X : Int64) (hX : X = lN (encN p)) : RS (S_pattern_set z X) (U_pt g p) := by
  obtain ⟨h0, h1, h2, h3, h4, h5, h6, h7, h8, h9, h10, h11⟩ := h
  have hp : p = G_pt (U_pt g p) := rfl
  have e : S_pattern (S_pattern_set z X) = lN (encN (G_pt (U_pt g p))) := by
    rw [← hp]
    exact hX
  exact ⟨h0, h1, h2, h3, h4, h5, h6, h7, h8, h9, e, h11⟩
theorem RS_pt (h : RS z g) (p : Nat → Nat) : RS (S_pattern_set z (lN (encN p))) (U_pt g p) := RS_ptv h p _ rfl
theorem RS_ptx {p : Nat → Nat} (h : RS z g) (e : ∀ i, i < 8 → p i = G_pt g i) : RS z (U_pt g p) := by
  obtain ⟨h0, h1, h2, h3, h4, h5, h6, h7, h8, h9, h10, h11⟩ := h
  exact ⟨h0, h1, h2, h3, h4, h5, h6, h7, h8, h9, by rw [h10, encN_cong e], h11⟩
theorem count2 (h : RS z g) {k : Nat} (hk : k < 7) : f_X2_count z (nI k) = some (S_totals_set z (upd (S_totals z) k (G_tot g k + 1))) := by
  unfold f_X2_count
  rw [i_n (by omega), show (7 : Int32) = nI 7 from rfl, i_lt (by omega) (by omega), if_pos hk, getA_n (by omega) (by omega), chkA_n (by omega) (by omega), x_cl (by omega), h.2.2.2.2.2.2.2.2.1 k hk]
  rfl
theorem count2' (h : RS z g) {k : Nat} (hk : k < 7) : ∃ z', f_X2_count z (nI k) = some z' ∧ RS z' (U_tot g (upd (G_tot g) k (G_tot g k + 1))) := ⟨_, count2 h hk, RS_tot h k hk _⟩
end SETS
