/-! ===== stage B: guesses on both sides; the best letter; misses ahead ===== -/
theorem show_okH {g : GS} (ok : okG g) {c : Nat} (hc : c < 26) {mask mem : Int32} (hid : ∀ k, bt mask k = true → k < G_len g ∧ G_pt g k = 0) : okH (gShow g c mask mem) := by
  refine ⟨ok.2.2.2.1, fun k hk => ?_, fun k hk hl => ?_⟩
  · show (if bt mask k = true then c + 1 else G_pt g k) < 27
    by_cases x : bt mask k = true
    · rw [if_pos x]; omega
    · rw [if_neg x]; exact ok.2.2.2.2.2.2.2.2.2.2.1 k hk
  · show (if bt mask k = true then c + 1 else G_pt g k) = 0
    have hl : G_len g ≤ k := hl
    rw [if_neg (fun x => by have := (hid k x).1; omega)]
    exact ok.2.2.2.2.2.2.2.2.2.2.2.1 k hk hl
section GUESS
variable {z : St} {g : GS}
theorem kp_0 {f : FS} {v : Nat} (h : f.1 v = 0) : kp f v = 0 := by
  unfold kp
  rw [h]
  exact fb_ct_zero.mpr (fun k _ => b_0 k)
theorem play0 (h : RS z g) (ok : okG g) (rn : okR g) {c : Nat} (hc : c < 26) (hg : bt (G_gs g) c = false) (F : Fm) : ∃ F' z', f_X5_play F z (nI (97 + c)) = some (nI (kp (gF g c) (gV g c)), F', z') ∧ RS z' (gGuess g c) := by
  obtain ⟨F1, e1, p1, f1⟩ := make0 h ok F hc
  have hI := gF_I ok c
  have hv := gV_lt ok rn.2.1 c
  obtain ⟨z2, e2, r2⟩ := take2 h ok (gc_lt ok hc hg) hc (mask := gM g c) (mem := gE g c) (nar := decide (1 < (gF g c).2.2)) (fun _ => gnar ok rn.2.1 c) (gM_hid ok rn hc hg) rn.2.2.2.2.2
  refine ⟨F1, z2, ?_, r2⟩
  unfold f_X5_play
  have eR : f_X0_best F1 = some (nI (gV g c)) := bestF0 hI ok.1 (ok_D ok) f1 p1 ok.2.1 (Nat.lt_of_le_of_lt (Nat.zero_le _) hv)
  rw [e1, ob, eR, ob]
  show Option.bind (f_X0_maskOf F1 (nI (gV g c))) _ = _
  rw [mask0 hI ok.1 f1 hv, ob]
  show Option.bind (f_X0_membersOf F1 (nI (gV g c))) _ = _
  rw [memb0 hI ok.1 f1 hv, ob]
  show Option.bind (f_X2_takeLetter z (nI (97 + c)) (gM g c) (gE g c)) _ = _
  rw [e2, ob, plc5 hI hv, ob]
/-! the best letter -/
def bstep (g : GS) (c : Nat) (x : Int32 × Int32 × Int32) : Int32 × Int32 × Int32 :=
  if bt (G_gs g) c = true then x
  else if x.1 = -6 then (nI (97 + c), nI (kz (gF g c) (gV g c)), nI (kp (gF g c) (gV g c)))
  else if nI (kz (gF g c) (gV g c)) < x.2.1 then (nI (97 + c), nI (kz (gF g c) (gV g c)), nI (kp (gF g c) (gV g c)))
  else if nI (kz (gF g c) (gV g c)) = x.2.1 then
    if x.2.2 < nI (kp (gF g c) (gV g c)) then (nI (97 + c), nI (kz (gF g c) (gV g c)), nI (kp (gF g c) (gV g c))) else x
  else x
def bAcc (g : GS) (n : Nat) : Int32 × Int32 × Int32 := acc (bstep g) (-6, 0, 0) n
def gBest (g : GS) : Int32 := (bAcc g 26).1
theorem bAcc_p (g : GS) : ∀ n, n ≤ 26 → ((bAcc g n).1 = -6 ∧ ∀ c, c < n → bt (G_gs g) c = true) ∨ ∃ c, c < n ∧ bt (G_gs g) c = false ∧ (bAcc g n).1 = nI (97 + c)
  | 0, _ => Or.inl ⟨rfl, fun c h => absurd h (Nat.not_lt_zero _)⟩
  | n + 1, hn => by
    have ih := bAcc_p g n (by omega)
    rw [show bAcc g (n + 1) = bstep g n (bAcc g n) from rfl]
    unfold bstep
    by_cases q : bt (G_gs g) n = true
    · rw [if_pos q]
      rcases ih with ⟨a, b⟩ | ⟨c, a, b⟩
      · refine Or.inl ⟨a, fun c hc => ?_⟩
        rcases (show c < n ∨ c = n by omega) with y | rfl
        · exact b c y
        · exact q
      · exact Or.inr ⟨c, by omega, b⟩
    · rw [if_neg q]
      have q0 : bt (G_gs g) n = false := by cases h : bt (G_gs g) n; rfl; exact absurd h q
      have new : ∃ c, c < n + 1 ∧ bt (G_gs g) c = false ∧ nI (97 + n) = nI (97 + c) := ⟨n, by omega, q0, rfl⟩
      by_cases a : (bAcc g n).1 = -6
      · rw [if_pos a]; exact Or.inr new
      · have old : ∃ c, c < n + 1 ∧ bt (G_gs g) c = false ∧ (bAcc g n).1 = nI (97 + c) := by
          rcases ih with ⟨y, _⟩ | ⟨c, h1, h2⟩
          · exact absurd y a
          · exact ⟨c, by omega, h2⟩
        rw [if_neg a]
        by_cases b : nI (kz (gF g n) (gV g n)) < (bAcc g n).2.1
        · rw [if_pos b]; exact Or.inr new
        · rw [if_neg b]
          by_cases d : nI (kz (gF g n) (gV g n)) = (bAcc g n).2.1
          · rw [if_pos d]
            by_cases e : (bAcc g n).2.2 < nI (kp (gF g n) (gV g n))
            · rw [if_pos e]; exact Or.inr new
            · rw [if_neg e]; exact Or.inr old
          · rw [if_neg d]; exact Or.inr old
theorem gBest_p {g : GS} (h : ∃ c, c < 26 ∧ bt (G_gs g) c = false) : ∃ c, c < 26 ∧ bt (G_gs g) c = false ∧ gBest g = nI (97 + c) := by
  rcases bAcc_p g 26 (by omega) with ⟨_, b⟩ | q
  · obtain ⟨c, h1, h2⟩ := h
    rw [b c h1] at h2; cases h2
  · exact q
theorem best0 (h : RS z g) (ok : okG g) (hne : ∃ i, bt (G_cd g) i = true) (F : Fm) : ∃ F', f_X5_bestLetter F z = some (gBest g, F') := by
  unfold f_X5_bestLetter
  refine run5 (fun j a1 a2 a3 a4 (_ : Fm) => (a1, a2, a3) = bAcc g j ∧ a4 = nI (97 + j)) (fun r => ∃ F', r = some (gBest g, F')) 26 ?_ ?_ FU _ _ _ _ _ (FU_gt (by omega)) ⟨rfl, rfl⟩
  · rintro j a1 a2 a3 a4 F1 hj ⟨e, rfl⟩
    have hI := gF_I ok j
    have hv := gV_lt ok hne j
    by_cases q : bt (G_gs g) j = true
    · refine ⟨a1, a2, a3, nI (97 + (j + 1)), F1, ⟨?_, rfl⟩, fun re => ?_⟩
      · rw [show bAcc g (j + 1) = bstep g j (bAcc g j) from rfl, ← e]
        unfold bstep
        rw [if_pos q]
      · unfold f_X5_bestLetter_L12
        rw [show (123 : Int32) = nI 123 from rfl, i_lt (by omega) (by omega), if_pos (by omega), wasGuessed2 h hj, ob, if_pos q, if_neg (by decide), lt_, x_a1]
        rfl
    · obtain ⟨F2, e2, p2, f2⟩ := make0 h ok F1 hj
      refine ⟨(bAcc g (j + 1)).1, (bAcc g (j + 1)).2.1, (bAcc g (j + 1)).2.2, nI (97 + (j + 1)), F2, ⟨rfl, rfl⟩, fun re => ?_⟩
      have eR : f_X0_best F2 = some (nI (gV g j)) := bestF0 hI ok.1 (ok_D ok) f2 p2 ok.2.1 (Nat.lt_of_le_of_lt (Nat.zero_le _) hv)
      unfold f_X5_bestLetter_L12
      rw [show (123 : Int32) = nI 123 from rfl, i_lt (by omega) (by omega), if_pos (by omega), wasGuessed2 h hj, ob, if_neg q, if_pos rfl, e2, ob, eR, ob]
      show Option.bind (f_X0_sizeOf F2 (nI (gV g j))) _ = _
      rw [size0 hI ok.1 f2 hv, ob]
      show Option.bind (f_X0_maskOf F2 (nI (gV g j))) _ = _
      rw [mask0 hI ok.1 f2 hv, ob, plc5 hI hv, ob]
      rw [show bAcc g (j + 1) = bstep g j (bAcc g j) from rfl, ← e]
      unfold bstep f_X5_bestLetter_J97
      simp only [lt_]
      rw [x_a1, if_neg q]
      show (if a1 = -6 then re (nI (97 + j)) (nI (kz (gF g j) (gV g j))) (nI (kp (gF g j) (gV g j))) (nI (97 + j + 1)) F2 else if nI (kz (gF g j) (gV g j)) < a2 then re (nI (97 + j)) (nI (kz (gF g j) (gV g j))) (nI (kp (gF g j) (gV g j))) (nI (97 + j + 1)) F2 else if nI (kz (gF g j) (gV g j)) = a2 then if a3 < nI (kp (gF g j) (gV g j)) then re (nI (97 + j)) (nI (kz (gF g j) (gV g j))) (nI (kp (gF g j) (gV g j))) (nI (97 + j + 1)) F2 else re a1 a2 a3 (nI (97 + j + 1)) F2 else re a1 a2 a3 (nI (97 + j + 1)) F2) = _
      by_cases a : a1 = -6
      · rw [if_pos a, if_pos a]; rfl
      · rw [if_neg a, if_neg a]
        by_cases b : nI (kz (gF g j) (gV g j)) < a2
        · rw [if_pos b, if_pos b]; rfl
        · rw [if_neg b, if_neg b]
          by_cases d : nI (kz (gF g j) (gV g j)) = a2
          · rw [if_pos d, if_pos d]
            by_cases x : a3 < nI (kp (gF g j) (gV g j))
            · rw [if_pos x, if_pos x]; rfl
            · rw [if_neg x, if_neg x]; rfl
          · rw [if_neg d, if_neg d]; rfl
  · rintro a1 a2 a3 a4 F1 ⟨e, rfl⟩ re
    unfold f_X5_bestLetter_L12
    rw [show (123 : Int32) = nI 123 from rfl, i_lt (by omega) (by omega), if_neg (by omega)]
    refine ⟨F1, ?_⟩
    unfold gBest
    rw [← e]
end GUESS
