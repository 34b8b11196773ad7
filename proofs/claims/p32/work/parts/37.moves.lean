/-! ===== stage B: calls that change the game ===== -/
abbrev gEnd (g : GS) : GS := (G_n g, G_pol g, 0, 0, 0, 0, 0, 0, G_tot g, G_od g, fun _ => 0, G_Z g, G_D g)
theorem enc0 : (0 : Int64) = lN (encN (fun _ => 0)) := by
  have : encN (fun _ => 0) = 0 := rfl
  rw [this]; rfl
theorem end_ok {g : GS} (ok : okG g) : okG (gEnd g) := by
  obtain ⟨o1, o2, o3, o4, o5, o6, o7, o8, o9, o10, o11, o12, o13⟩ := ok
  refine ⟨o1, o2, Nat.zero_le _, Nat.zero_le _, Nat.zero_le _, ?_, fun i _ => b_0 i, fun i h => ?_, o9, o10, fun k _ => by show (0 : Nat) < 27; omega, fun k _ _ => rfl, fun h => absurd h (by show ¬ (0 : Nat) = 1; omega)⟩
  · show 0 = fb_ct (bt 0) 26
    exact (fb_ct_zero.mpr (fun k _ => b_0 k)).symm
  · have h : bt (0 : Int32) i = true := h
    rw [b_0] at h; cases h
section END_
variable {z : St} {g : GS}
theorem end2 (h : RS z g) : ∃ z', f_X2_endWithoutGame z = some z' ∧ RS z' (gEnd g) := by
  refine ⟨_, rfl, h.1, h.2.1, rfl, rfl, rfl, rfl, rfl, rfl, h.2.2.2.2.2.2.2.2.1, fun k hk => absurd hk (Nat.not_lt_zero _), ?_, h.2.2.2.2.2.2.2.2.2.2.2⟩
  exact enc0
end END_
section MOVE
variable {z : St} {V : Sv}
/-! a game begun -/
def wl (g : GS) (l : Nat) : Int32 := mkB (fun w => decide (G_Z g w = l)) (G_n g)
theorem wl2 {g : GS} (h : RS z g) (ok : okG g) {l : Nat} (hl : l < 2147483648) : f_X2_wordsOfLength z (nI l) = some (wl g l) := by
  have hn := ok.1
  unfold f_X2_wordsOfLength
  refine raccm (fun i x => if decide (G_Z g i = l) = true then x ||| bit i else x) (G_n g) (by omega) 0 ?_ ?_
  · intro w x hw re
    have ow := ok_w ok hw
    have := ow.2.1
    unfold f_X2_wordsOfLength_L4
    rw [h.1, i_lt (by omega) (by omega), if_pos hw, wordAt2 h ok hw, ob, lengthOf4 (okw_d ow), ob, szN_w ow, i_eq (by omega) hl, lt_, lt_, lt_, x_a1]
    by_cases q : G_Z g w = l
    · rw [if_pos q, if_pos (decide_eq_true q)]
    · rw [if_neg q, if_neg (by simp [q])]
  · intro re
    unfold f_X2_wordsOfLength_L4
    rw [h.1, i_lt (by omega) (by omega), if_neg (by omega)]
    rfl
theorem wl_bt {g : GS} (ok : okG g) {l i : Nat} : bt (wl g l) i = true ↔ i < G_n g ∧ G_Z g i = l := by
  have hn := ok.1
  rcases Nat.lt_or_ge i 32 with q | q
  · unfold wl
    rw [bt_mkB _ q _ (by omega), Bool.and_eq_true, decide_eq_true_eq, decide_eq_true_eq]
  · rw [b_big q]
    exact ⟨fun h => absurd h (by decide), fun h => absurd h.1 (by omega)⟩
abbrev gStart (g : GS) (l v : Nat) : GS := gCount (U_cd (U_lv (U_len (U_st (gEnd g) 1) l) v) (wl g l)) 0
theorem start_ok {g : GS} (ok : okG g) {l v : Nat} (hl : 2 ≤ l ∧ l ≤ 8) (hv : 1 ≤ v ∧ v ≤ 20) (hw : wl g l ≠ 0) : okG (gStart g l v) := by
  obtain ⟨o1, o2, o3, o4, o5, o6, o7, o8, o9, o10, o11, o12, o13⟩ := end_ok ok
  refine ⟨o1, o2, (by show (1 : Nat) ≤ 3; omega), hl.2, hv.2, o6, o7, fun i hi => ((wl_bt ok).mp hi).1, o9, o10, o11, fun k _ _ => rfl, fun _ => ?_⟩
  refine ⟨fun i hi => ((wl_bt ok).mp hi).2, ?_, ⟨0, by show 0 < l; omega, rfl⟩, fun k hk hp => absurd rfl hp, fun i k _ _ _ => b_0 _, hv.1⟩
  refine Classical.byContradiction (fun x => hw (b_ext (fun i hi => ?_)))
  rw [b_0]
  cases e : bt (wl g l) i
  · rfl
  · exact absurd ⟨i, e⟩ x
end MOVE
