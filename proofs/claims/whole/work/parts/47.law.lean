/-! ===== stage B: the law ===== -/
theorem and31 (x : Int32) : ∃ k, k < 32 ∧ x &&& 31 = nI k := by
  obtain ⟨n, hn, rfl⟩ := wb_of32 x
  refine ⟨n % 32, Nat.mod_lt _ (by omega), ?_⟩
  rw [show (31 : Int32) = nI (2 ^ 5 - 1) from rfl, fa_mask]
def Rel (T : Tx) (z : St) (V : Sv) (M : Md) : Prop := TX T M ∧ RX z V M
theorem TX_k {T : Tx} {M M' : Md} (h : TX T M) (k : KT M M') : TX T M' := by
  obtain ⟨t, ch, h⟩ := h
  exact ⟨t, ch, KT_TX h k⟩
theorem Rel_m {T : Tx} {z : St} {V : Sv} {M M' : Md} (h : Rel T z V M) (k : KM M M') : Rel T z V M' := by
  obtain ⟨h1, g, c, gs, h2⟩ := h
  exact ⟨TX_k h1 (KT_m k), g, c, gs, RG_same h2 k⟩
theorem Rel_0 : Rel ini_T ini_S ini_V ini_M := by
  refine ⟨⟨0, fun _ => 0, rfl, by omega, rfl, fun k hk => absurd hk (Nat.not_lt_zero _)⟩, (0, 0, 0, 0, 0, 0, 0, 0, fun _ => 0, fun _ => 0, fun _ => 0, fun _ => 0, fun _ _ => 0), 0, fun _ => (0, 0, 0, 0, 0, 0, 0, 0, fun _ => 0, fun _ => 0, fun _ => 0, fun _ => 0, fun _ _ => 0), ?_, ?_, ?_, ?_, fun j hj => absurd hj (Nat.not_lt_zero _), rfl, by omega, fun j hj => absurd hj (Nat.not_lt_zero _)⟩
  · exact ⟨rfl, rfl, rfl, rfl, rfl, rfl, rfl, rfl, fun k hk => rfl, fun k hk => absurd hk (Nat.not_lt_zero _), enc0, fun w hw => absurd hw (Nat.not_lt_zero _)⟩
  · exact ⟨rfl, rfl, rfl, rfl, rfl, rfl, rfl, rfl, fun k hk => rfl, fun k hk => absurd hk (Nat.not_lt_zero _), fun k hk => rfl, fun w hw => absurd hw (Nat.not_lt_zero _), fun w k hw => absurd hw (Nat.not_lt_zero _)⟩
  · refine ⟨Nat.zero_le _, Nat.zero_le _, Nat.zero_le _, Nat.zero_le _, Nat.zero_le _, ?_, fun i _ => b_0 i, fun i h => ?_, fun w hw => absurd hw (Nat.not_lt_zero _), fun v w _ hw => absurd hw (Nat.not_lt_zero _), fun k _ => by show (0 : Nat) < 27; omega, fun k _ _ => rfl, fun h => absurd h (by show ¬ (0 : Nat) = 1; omega)⟩
    · show 0 = fb_ct (bt 0) 26
      exact (fb_ct_zero.mpr (fun k _ => b_0 k)).symm
    · have h : bt (0 : Int32) i = true := h
      rw [b_0] at h; cases h
  · exact ⟨rfl, 0, rfl, by omega, Nat.zero_le _, Nat.zero_le _, fun j hj => absurd hj (Nat.not_lt_zero _)⟩
section LAW
variable {T : Tx} {z D : St} {V : Sv} {F : Fm} {M : Md}
theorem miss56 (h : RX z V M) (D : St) (F : Fm) : ∃ a D' F' M', f_X5_missesAhead z D F = some (a, D', F') ∧ f_X6_missesAhead M = some (a, M') ∧ RX z V M' ∧ KT M M' := by
  obtain ⟨g, c, gs, h⟩ := h
  have hr := h
  obtain ⟨r1, r2, ok, rv, rb, ms, c6, oks⟩ := h
  by_cases q : G_st g = 1
  · have rn := ok.2.2.2.2.2.2.2.2.2.2.2.2 q
    obtain ⟨K, hK⟩ := gLast_ex ok rn
    obtain ⟨D', F', e1⟩ := ahead2 r1 ok rn q hK D F
    obtain ⟨M', e2, k1, k2, k3, k4, k5⟩ := ahead6m r2 ok rn q hK
    exact ⟨_, D', F', M', e1, e2, ⟨g, c, gs, r1, k1, ok, rv, by rw [k2]; exact rb, by rw [k3]; exact ms, c6, oks⟩, k4, k5⟩
  · unfold f_X5_missesAhead f_X6_missesAhead
    rw [runs2 r1 ok, runs6 r2 ok, ob, ob, if_neg q, if_pos rfl, if_pos rfl]
    exact ⟨_, _, _, _, rfl, rfl, ⟨g, c, gs, hr⟩, rfl, rfl⟩
end LAW
