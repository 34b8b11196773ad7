/-! ===== stage B: the reference finds and puts a word of the text ===== -/
theorem sub_lt {a b : Nat} (ha : a < 1000) (hb : b < 1000) : (nI a - nI b < 0 ↔ a < b) ∧ (nI a - nI b = 0 ↔ a = b) := by
  have e : (nI a - nI b).toInt = (a : Int) - b := by
    rw [fb_subI (by rw [nI_toInt (by omega), nI_toInt (by omega)]; omega) (by rw [nI_toInt (by omega), nI_toInt (by omega)]; omega), nI_toInt (by omega), nI_toInt (by omega)]
  constructor
  · rw [fa_lt, e]
    show (a : Int) - b < 0 ↔ _
    omega
  · constructor
    · intro h
      rw [h] at e
      have e : (0 : Int) = (a : Int) - b := e
      omega
    · intro h
      subst h
      apply Int32.toInt_inj.mp
      rw [e]
      show (a : Int) - a = 0
      omega
section PUT
variable {M : Md} {T : Tx} {g : GS} {t a e : Nat} {ch : Nat → Nat}
/-- a word of the text -/
def TWd (ch : Nat → Nat) (t a e : Nat) : Prop := a ≤ e ∧ e ≤ t ∧ 2 ≤ e - a ∧ e - a ≤ 8 ∧ ∀ k, a ≤ k → k < e → 97 ≤ ch k ∧ ch k ≤ 122
theorem tw_ok (h : TWd ch t a e) : okw (dW ch (a, e)) (e - a) := dW_ok h.2.2.1 h.2.2.2.1 h.2.2.2.2
theorem tw_in (h : TWd ch t a e) {k : Nat} (hk : k < e - a) : dW ch (a, e) k = ch (a + k) - 96 := if_pos (by show a + k < e; omega)
theorem tw_out (h : TWd ch t a e) {k : Nat} (hk : e - a ≤ k) : dW ch (a, e) k = 0 := if_neg (by show ¬ a + k < e; omega)
theorem ea (h : TWd ch t a e) (ht : t ≤ 80) : nI e - nI a = nI (e - a) := pk_sub h.1
theorem comp6 (h : RM (M_s M) g) (ok : okG g) (tx : TXr T M t ch) (hw : TWd ch t a e) {w : Nat} (hwn : w < G_n g) : ∃ c, f_X6_compares M (nI w) (nI a) (nI e) = some c ∧ (c < 0 ↔ encN (G_D g w) < encN (dW ch (a, e))) ∧ (c = 0 ↔ encN (G_D g w) = encN (dW ch (a, e))) := by
  have hn := ok.1
  have t80 := tx.2.1
  have ow := ok_w ok hwn
  have od := tw_ok hw
  have z8 := ow.2.1
  have h8 := hw.2.2.2.1
  have d1 := okd_32 (okw_d ow)
  have d2 := okd_32 (okw_d od)
  obtain ⟨m, hm1, hm2, hm3⟩ : ∃ m, m ≤ e - a ∧ (∀ k, k < m → G_D g w k = dW ch (a, e) k) ∧ (m < e - a → G_D g w m ≠ dW ch (a, e) m) := by
    by_cases q : ∃ k, k < e - a ∧ G_D g w k ≠ dW ch (a, e) k
    · obtain ⟨m, x1, x2, x3⟩ := fb_first q
      exact ⟨m, by omega, fun k hk => Classical.byContradiction (fun x => x3 k hk x), fun _ => x2⟩
    · exact ⟨e - a, Nat.le_refl _, fun k hk => Classical.byContradiction (fun x => q ⟨k, hk, x⟩), fun x => absurd x (Nat.lt_irrefl _)⟩
  have zlt : ∀ k, k < m → k < G_Z g w := fun k hk => (ow.2.2 k (by omega)).2.mp (by rw [hm2 k hk]; exact (od.2.2 k (by omega)).2.mpr (by omega))
  unfold f_X6_compares
  refine run1 (fun j x => x = nI j) (fun r => ∃ c, r = some c ∧ (c < 0 ↔ encN (G_D g w) < encN (dW ch (a, e))) ∧ (c = 0 ↔ encN (G_D g w) = encN (dW ch (a, e)))) m ?_ ?_ FU _ (FU_gt (by omega)) rfl
  · rintro j x hj rfl
    refine ⟨nI (j + 1), rfl, fun re => ?_⟩
    have zj := zlt j hj
    have hL := hw.2.2.2.2 (a + j) (by omega) (by omega)
    have hc := (tx.2.2.2 (a + j) (by have := hw.2.1; omega)).2.1
    have hd := hm2 j hj
    rw [tw_in hw (by omega)] at hd
    unfold f_X6_compares_L3
    rw [ea hw t80, i_lt (by omega) (by omega), if_pos (by omega), size6 h ok hwn, i_eq (by omega) (by omega), if_neg (by omega), letter6 h ok hwn (by omega), ob, nI_add, getA_n (by have := hw.2.1; omega) (by omega), hc, lt_, hd, ltr_nI (by omega), show 96 + (ch (a + j) - 96) = ch (a + j) by omega, if_pos ((sub_lt (by omega) (by omega)).2.mpr rfl), lt_, x_a1]
  · rintro x rfl re
    unfold f_X6_compares_L3
    rw [ea hw t80, i_lt (by omega) (by omega)]
    by_cases q : m < e - a
    · have hL := hw.2.2.2.2 (a + m) (by omega) (by omega)
      have hc := (tx.2.2.2 (a + m) (by have := hw.2.1; omega)).2.1
      have hd := tw_in hw q
      have hne := hm3 q
      have hd1 := (ow.2.2 m (by omega))
      rw [if_pos q, size6 h ok hwn, i_eq (by omega) (by omega)]
      have small : G_D g w m < dW ch (a, e) m → encN (G_D g w) < encN (dW ch (a, e)) := fun y => encN_less d1 d2 (by omega) hm2 y
      have big : dW ch (a, e) m < G_D g w m → encN (dW ch (a, e)) < encN (G_D g w) := fun y => encN_less d2 d1 (by omega) (fun j hj => (hm2 j hj).symm) y
      by_cases u : m = G_Z g w
      · rw [if_pos u]
        have d0 : G_D g w m = 0 := Classical.byContradiction (fun y => by have := hd1.2.mp y; omega)
        have s := small (by omega)
        refine ⟨-1, rfl, ⟨fun _ => s, fun _ => by decide⟩, ⟨fun y => absurd y (by decide), fun y => by omega⟩⟩
      · have zm : m < G_Z g w := by
          rcases Nat.eq_zero_or_pos m with y | y
          · have := ow.1; omega
          · have := zlt (m - 1) (by omega); omega
        have d0 := hd1.2.mpr zm
        rw [if_neg u, letter6 h ok hwn (by omega), ob, nI_add, getA_n (by have := hw.2.1; omega) (by omega), hc, lt_, ltr_nI d0]
        have sl := sub_lt (a := 96 + G_D g w m) (b := ch (a + m)) (by omega) (by omega)
        rw [if_neg (fun y => by have := sl.2.mp y; omega)]
        refine ⟨_, rfl, ?_, ?_⟩
        · rw [sl.1]
          refine ⟨fun y => small (by omega), fun y => Classical.byContradiction (fun v => ?_)⟩
          have := big (by omega)
          omega
        · rw [sl.2]
          refine ⟨fun y => absurd y (by omega), fun y => ?_⟩
          rcases (show G_D g w m < dW ch (a, e) m ∨ dW ch (a, e) m < G_D g w m by omega) with v | v
          · have := small v; omega
          · have := big v; omega
    · have hme : m = e - a := by omega
      rw [if_neg q]
      unfold f_X6_compares_J60
      rw [size6 h ok hwn, ea hw t80]
      have zge : e - a ≤ G_Z g w := by
        have := zlt (m - 1) (by have := hw.2.2.1; omega)
        omega
      have sl := sub_lt (a := G_Z g w) (b := e - a) (by omega) (by omega)
      refine ⟨_, rfl, ?_, ?_⟩
      · rw [sl.1]
        refine ⟨fun y => absurd y (by omega), fun y => ?_⟩
        rcases (show G_Z g w = e - a ∨ e - a < G_Z g w by omega) with v | v
        · have : encN (G_D g w) = encN (dW ch (a, e)) := encN_cong (fun k hk => by
            by_cases x : k < m
            · exact hm2 k x
            · rw [tw_out hw (by omega)]
              exact Classical.byContradiction (fun y => by have := (ow.2.2 k hk).2.mp y; omega))
          omega
        · have := encN_less d2 d1 (k := m) (by omega) (fun j hj => (hm2 j hj).symm) (by
            rw [tw_out hw (by omega)]
            have := (ow.2.2 m (by omega)).2.mpr (by omega)
            omega)
          omega
      · rw [sl.2]
        refine ⟨fun v => encN_cong (fun k hk => by
            by_cases x : k < m
            · exact hm2 k x
            · rw [tw_out hw (by omega)]
              exact Classical.byContradiction (fun y => by have := (ow.2.2 k hk).2.mp y; omega)), fun y => Classical.byContradiction (fun v => ?_)⟩
        have := encN_less d2 d1 (k := m) (by omega) (fun j hj => (hm2 j hj).symm) (by
            rw [tw_out hw (by omega)]
            have := (ow.2.2 m (by omega)).2.mpr (by omega)
            omega)
        omega
theorem place6 (h : RM (M_s M) g) (ok : okG g) (tx : TXr T M t ch) (hw : TWd ch t a e) : f_X6_placeFor M (nI a) (nI e) = some (nI (gPos g (dW ch (a, e)))) := by
  have hn := ok.1
  have hle := gPos_le g (dW ch (a, e))
  unfold f_X6_placeFor
  refine run1 (fun j x => x = nI j) (fun r => r = some (nI (gPos g (dW ch (a, e))))) (gPos g (dW ch (a, e))) ?_ ?_ FU _ (FU_gt (by omega)) rfl
  · rintro j x hj rfl
    refine ⟨nI (j + 1), rfl, fun re => ?_⟩
    obtain ⟨c, c1, c2, c3⟩ := comp6 h ok tx hw (w := j) (by omega)
    unfold f_X6_placeFor_L2
    rw [m0, h.1, i_lt (by omega) (by omega), if_pos (by omega), c1, ob, if_pos (c2.mpr (gPos_lo hj)), lt_, x_a1]
  · rintro x rfl re
    unfold f_X6_placeFor_L2
    rw [m0, h.1, i_lt (by omega) (by omega)]
    by_cases q : gPos g (dW ch (a, e)) < G_n g
    · obtain ⟨c, c1, c2, c3⟩ := comp6 h ok tx hw q
      rw [if_pos q, c1, ob, if_neg (fun y => by
        have := c2.mp y
        have := gPos_hi ok (d := dW ch (a, e)) (Nat.le_refl _) q
        omega)]
    · rw [if_neg q]
theorem isIn6 (h : RM (M_s M) g) (ok : okG g) (tx : TXr T M t ch) (hw : TWd ch t a e) : (inL g (dW ch (a, e)) → f_X6_isIn M (nI a) (nI e) = some 1) ∧ (¬ inL g (dW ch (a, e)) → f_X6_isIn M (nI a) (nI e) = some 0) := by
  have hn := ok.1
  have hle := gPos_le g (dW ch (a, e))
  unfold f_X6_isIn
  rw [place6 h ok tx hw, ob, m0, h.1, i_lt (by omega) (by omega)]
  constructor
  · intro q
    obtain ⟨c, c1, c2, c3⟩ := comp6 h ok tx hw q.1
    rw [if_pos q.1, c1, ob, if_pos (c3.mpr q.2)]
  · intro q
    by_cases y : gPos g (dW ch (a, e)) < G_n g
    · obtain ⟨c, c1, c2, c3⟩ := comp6 h ok tx hw y
      rw [if_pos y, c1, ob, if_neg (fun x => q ⟨y, c3.mp x⟩)]
    · rw [if_neg y]
theorem puts6 (h : RM (M_s M) g) (ok : okG g) (tx : TXr T M t ch) (hw : TWd ch t a e) (h30 : G_n g < 30) : ∃ x, f_X6_puts M (nI a) (nI e) = some (M_s_set M x) ∧ RM x (gIns g (dW ch (a, e)) (e - a) (gPos g (dW ch (a, e)))) := by
  have t80 := tx.2.1
  have hae := hw.1
  have het := hw.2.1
  have hle := gPos_le g (dW ch (a, e))
  have hg := ok_gc ok
  have h8 := hw.2.2.2.1
  obtain ⟨p, hp⟩ : ∃ p, p = gPos g (dW ch (a, e)) := ⟨_, rfl⟩
  rw [← hp]
  rw [← hp] at hle
  obtain ⟨y, hy⟩ : ∃ y, y = M_s M := ⟨_, rfl⟩
  have sh : ∃ x, loop2 (f_X6_puts_L15 (nI p) (nI e) (nI a)) FU (nI (G_n g)) M = f_X6_puts_J91 (nI e) (nI a) (nI p) (M_s_set M x) ∧ (∀ k, k < 49 → x k = y k) ∧ (∀ w, w < 30 → x (49 + w) = if p < w ∧ w ≤ G_n g then y (49 + (w - 1)) else y (49 + w)) ∧ ∀ w k, w < 30 → k < 8 → x (79 + 8 * w + k) = if p < w ∧ w ≤ G_n g then y (79 + 8 * (w - 1) + k) else y (79 + 8 * w + k) := by
    refine run2 (fun j b (M' : Md) => b = nI (G_n g - j) ∧ ∃ x, M' = M_s_set M x ∧ (∀ k, k < 49 → x k = y k) ∧ (∀ w, w < 30 → x (49 + w) = if G_n g - j < w ∧ w ≤ G_n g then y (49 + (w - 1)) else y (49 + w)) ∧ ∀ w k, w < 30 → k < 8 → x (79 + 8 * w + k) = if G_n g - j < w ∧ w ≤ G_n g then y (79 + 8 * (w - 1) + k) else y (79 + 8 * w + k)) (fun r => ∃ x, r = f_X6_puts_J91 (nI e) (nI a) (nI p) (M_s_set M x) ∧ (∀ k, k < 49 → x k = y k) ∧ (∀ w, w < 30 → x (49 + w) = if p < w ∧ w ≤ G_n g then y (49 + (w - 1)) else y (49 + w)) ∧ ∀ w k, w < 30 → k < 8 → x (79 + 8 * w + k) = if p < w ∧ w ≤ G_n g then y (79 + 8 * (w - 1) + k) else y (79 + 8 * w + k)) (G_n g - p) ?_ ?_ FU _ _ (FU_gt (by omega)) ⟨rfl, y, by rw [hy, Ms_id], fun k _ => rfl, fun w _ => by rw [if_neg (by omega)], fun w k _ _ => by rw [if_neg (by omega)]⟩
    · rintro j b M' hj ⟨rfl, x, rfl, xA, xB, xC⟩
      obtain ⟨v, hv⟩ : ∃ v, G_n g - j = v + 1 := ⟨G_n g - j - 1, by omega⟩
      have hv2 : G_n g - (j + 1) = v := by omega
      rw [hv] at xB xC
      have inner : ∃ x', (∀ q, x' q = if q = 49 + (v + 1) then x (49 + v) else if 79 + 8 * (v + 1) ≤ q ∧ q < 79 + 8 * (v + 1) + 8 then x (q - 8) else x q) ∧ ∀ re, loop2 (f_X6_puts_L46 (nI (v + 1)) re) FU 0 (M_s_set M (upd x (49 + (v + 1)) (x (49 + v)))) = re (nI v) (M_s_set M x') := by
        refine ⟨fun q => if q = 49 + (v + 1) then x (49 + v) else if 79 + 8 * (v + 1) ≤ q ∧ q < 79 + 8 * (v + 1) + 8 then x (q - 8) else x q, fun q => rfl, fun re => ?_⟩
        refine run2 (fun i b (M' : Md) => b = nI i ∧ ∃ x', M' = M_s_set M x' ∧ ∀ q, x' q = if q = 49 + (v + 1) then x (49 + v) else if 79 + 8 * (v + 1) ≤ q ∧ q < 79 + 8 * (v + 1) + i then x (q - 8) else x q) (fun r => r = re (nI v) (M_s_set M (fun q => if q = 49 + (v + 1) then x (49 + v) else if 79 + 8 * (v + 1) ≤ q ∧ q < 79 + 8 * (v + 1) + 8 then x (q - 8) else x q))) 8 ?_ ?_ FU _ _ (FU_gt (by omega)) ⟨rfl, _, rfl, fun q => ?_⟩
        · rintro i b M' hi ⟨rfl, x', rfl, hx'⟩
          refine ⟨nI (i + 1), M_s_set M (upd x' (79 + 8 * (v + 1) + i) (x' (79 + 8 * v + i))), ⟨rfl, _, rfl, fun q => ?_⟩, fun re2 => ?_⟩
          · by_cases u : q = 79 + 8 * (v + 1) + i
            · rw [u, upd_e, hx', if_neg (by omega), if_neg (by omega), if_neg (by omega), if_pos (by omega), show 79 + 8 * (v + 1) + i - 8 = 79 + 8 * v + i by omega]
            · rw [upd_n u, hx']
              by_cases s : q = 49 + (v + 1)
              · rw [if_pos s, if_pos s]
              · rw [if_neg s, if_neg s]
                by_cases r : 79 + 8 * (v + 1) ≤ q ∧ q < 79 + 8 * (v + 1) + i
                · rw [if_pos r, if_pos (by omega)]
                · rw [if_neg r, if_neg (by omega)]
          · unfold f_X6_puts_L46 f_X6_letter
            rw [if_pos (show nI i < (8 : Int32) by rw [show (8 : Int32) = nI 8 from rfl, x_lt (by omega) (by omega)]; exact hi), x_s1, a79, getA_n (by omega) (by omega), ob, a79, chkA_n (by omega) (by omega), lt_, lt_, Ms_s, Ms_ss, x_cl (by omega), x_a1]
        · rintro b M' ⟨rfl, x', rfl, hx'⟩ re2
          unfold f_X6_puts_L46
          rw [if_neg (show ¬ nI 8 < (8 : Int32) by decide), lt_, x_m1]
          rw [show x' = _ from funext hx']
        · by_cases u : q = 49 + (v + 1)
          · rw [u, upd_e, if_pos rfl]
          · rw [upd_n u, if_neg u, if_neg (by omega)]
      obtain ⟨x', hx', ei⟩ := inner
      rw [hv2]
      refine ⟨nI v, M_s_set M x', ⟨rfl, x', rfl, fun k hk => ?_, fun w hw => ?_, fun w k hw hk => ?_⟩, fun re => ?_⟩
      · rw [hx', if_neg (by omega), if_neg (by omega)]; exact xA k hk
      · rw [hx']
        by_cases u : w = v + 1
        · rw [if_pos (by omega), if_pos (by omega), xB v (by omega), if_neg (by omega), show w - 1 = v by omega]
        · rw [if_neg (by omega), if_neg (by omega), xB w hw]
          by_cases s : v + 1 < w ∧ w ≤ G_n g
          · rw [if_pos s, if_pos (by omega)]
          · rw [if_neg s, if_neg (by omega)]
      · rw [hx', if_neg (by omega)]
        by_cases u : w = v + 1
        · rw [if_pos (by omega), if_pos (by omega), show 79 + 8 * w + k - 8 = 79 + 8 * v + k by omega, xC v k (by omega) hk, if_neg (by omega), show w - 1 = v by omega]
        · rw [if_neg (by omega), xC w k hw hk]
          by_cases s : v + 1 < w ∧ w ≤ G_n g
          · rw [if_pos s, if_pos (by omega)]
          · rw [if_neg s, if_neg (by omega)]
      · rw [hv]
        unfold f_X6_puts_L15
        rw [i_lt (by omega) (by omega), if_pos (by omega), a49, show 49 + (v + 1) = 49 + v + 1 by omega, x_s1, getA_n (by omega) (by omega), chkA_n (by omega) (by omega), lt_, Ms_s, Ms_ss, x_cl (by omega)]
        exact ei re
    · rintro b M' ⟨rfl, x, rfl, xA, xB, xC⟩ re
      rw [show G_n g - (G_n g - p) = p by omega] at xB xC ⊢
      unfold f_X6_puts_L15
      rw [i_lt (by omega) (by omega), if_neg (by omega)]
      exact ⟨x, rfl, xA, xB, xC⟩
  obtain ⟨x, e1, xA, xB, xC⟩ := sh
  have pl : ∃ x', f_X6_puts_J91 (nI e) (nI a) (nI p) (M_s_set M x) = some (M_s_set M (upd x' 0 (x' 0 + 1))) ∧ ∀ q, x' q = if q = 49 + p then nI (e - a) else if 79 + 8 * p ≤ q ∧ q < 79 + 8 * p + 8 then ltr (dW ch (a, e) (q - (79 + 8 * p))) else x q := by
    unfold f_X6_puts_J91
    rw [a49, chkA_n (by omega) (by omega), lt_, Ms_s, Ms_ss, x_cl (by omega), ea hw t80]
    refine run2 (fun i b (M' : Md) => b = nI i ∧ ∃ x', M' = M_s_set M x' ∧ ∀ q, x' q = if q = 49 + p then nI (e - a) else if 79 + 8 * p ≤ q ∧ q < 79 + 8 * p + i then ltr (dW ch (a, e) (q - (79 + 8 * p))) else x q) (fun r => ∃ x', r = some (M_s_set M (upd x' 0 (x' 0 + 1))) ∧ ∀ q, x' q = if q = 49 + p then nI (e - a) else if 79 + 8 * p ≤ q ∧ q < 79 + 8 * p + 8 then ltr (dW ch (a, e) (q - (79 + 8 * p))) else x q) 8 ?_ ?_ FU _ _ (FU_gt (by omega)) ⟨rfl, _, rfl, fun q => ?_⟩
    · rintro i b M' hi ⟨rfl, x', rfl, hx'⟩
      refine ⟨nI (i + 1), M_s_set M (upd x' (79 + 8 * p + i) (ltr (dW ch (a, e) i))), ⟨rfl, _, rfl, fun q => ?_⟩, fun re2 => ?_⟩
      · by_cases u : q = 79 + 8 * p + i
        · rw [u, upd_e, if_neg (by omega), if_pos (by omega), show 79 + 8 * p + i - (79 + 8 * p) = i by omega]
        · rw [upd_n u, hx']
          by_cases s : q = 49 + p
          · rw [if_pos s, if_pos s]
          · rw [if_neg s, if_neg s]
            by_cases r : 79 + 8 * p ≤ q ∧ q < 79 + 8 * p + i
            · rw [if_pos r, if_pos (by omega)]
            · rw [if_neg r, if_neg (by omega)]
      · unfold f_X6_puts_L106
        rw [if_pos (show nI i < (8 : Int32) by rw [show (8 : Int32) = nI 8 from rfl, x_lt (by omega) (by omega)]; exact hi), nI_add, i_lt (by omega) (by have := hw.2.1; omega)]
        by_cases s : a + i < e
        · have hc := (tx.2.2.2 (a + i) (by have := hw.2.1; omega)).2.1
          have hL := hw.2.2.2.2 (a + i) (by omega) s
          rw [if_pos s, getA_n (by have := hw.2.1; omega) (by omega), show M_text (M_s_set M x') (a + i) = nI (ch (a + i)) from hc, a79, chkA_n (by omega) (by omega), lt_, lt_, Ms_s, Ms_ss, x_cl (by omega), x_a1, tw_in hw (by omega), ltr_nI (by omega), show 96 + (ch (a + i) - 96) = ch (a + i) by omega]
        · rw [if_neg s, a79, chkA_n (by omega) (by omega), lt_, lt_, Ms_s, Ms_ss, x_cl (by omega), x_a1, tw_out hw (by omega)]
          rfl
    · rintro b M' ⟨rfl, x', rfl, hx'⟩ re2
      unfold f_X6_puts_L106 f_X6_puts_J155
      rw [if_neg (show ¬ nI 8 < (8 : Int32) by decide), m0, k0_, lt_, cl0, Ms_s, Ms_ss]
      exact ⟨x', rfl, hx'⟩
    · by_cases u : q = 49 + p
      · rw [u, upd_e, if_pos rfl]
      · rw [upd_n u, if_neg u, if_neg (by omega)]
  obtain ⟨x', e2, hx'⟩ := pl
  refine ⟨upd x' 0 (x' 0 + 1), ?_, ?_⟩
  · unfold f_X6_puts
    rw [place6 h ok tx hw, ob, m0, h.1, ← hp, e1, e2]
  · have sm : ∀ k, k < 49 → x' k = y k := fun k hk => by rw [hx', if_neg (by omega), if_neg (by omega)]; exact xA k hk
    have s0 : x' 0 + 1 = nI (G_n g + 1) := by rw [sm 0 (by omega), hy, h.1, x_a1]
    rw [s0]
    rw [← hy] at h
    obtain ⟨h0, h1, h2, h3, h4, h5, h6, h7, h8, h9, h10, h11, h12⟩ := h
    have s2 : ∀ k, 0 < k → k < 49 → upd x' 0 (nI (G_n g + 1)) k = y k := fun k a b => by rw [upd_n (by omega)]; exact sm k b
    refine ⟨upd_e _ _ _, (s2 _ (by omega) (by omega)).trans h1, (s2 _ (by omega) (by omega)).trans h2, (s2 _ (by omega) (by omega)).trans h3, (s2 _ (by omega) (by omega)).trans h4, (s2 _ (by omega) (by omega)).trans h5, (s2 _ (by omega) (by omega)).trans h6, (s2 _ (by omega) (by omega)).trans h7, fun k hk => (s2 _ (by omega) (by omega)).trans (h8 k hk), fun k hk => (s2 _ (by omega) (by have : k < G_gc g := hk; omega)).trans (h9 k hk), fun k hk => (s2 _ (by omega) (by omega)).trans (h10 k hk), fun w hw => ?_, fun w k hw hk => ?_⟩
    · have hw : w < G_n g + 1 := hw
      show upd x' 0 (nI (G_n g + 1)) (49 + w) = nI (if w < p then G_Z g w else if w = p then e - a else G_Z g (w - 1))
      rw [upd_n (by omega), hx']
      by_cases q : w = p
      · rw [if_pos (by omega), if_neg (by omega), if_pos q]
      · rw [if_neg (by omega), if_neg (by omega), xB w (by omega)]
        by_cases r : w < p
        · rw [if_neg (by omega), if_pos r]; exact h11 w (by omega)
        · rw [if_pos (by omega), if_neg r, if_neg q]; exact h11 (w - 1) (by omega)
    · have hw : w < G_n g + 1 := hw
      show upd x' 0 (nI (G_n g + 1)) (79 + 8 * w + k) = ltr ((if w < p then G_D g w else if w = p then dW ch (a, e) else G_D g (w - 1)) k)
      rw [upd_n (by omega), hx', if_neg (by omega)]
      by_cases q : w = p
      · rw [if_pos (by omega), if_neg (by omega), if_pos q, show 79 + 8 * w + k - (79 + 8 * p) = k by omega]
      · rw [if_neg (by omega), xC w k (by omega) hk]
        by_cases r : w < p
        · rw [if_neg (by omega), if_pos r]; exact h12 w k (by omega) hk
        · rw [if_pos (by omega), if_neg r, if_neg q]; exact h12 (w - 1) k (by omega) hk
end PUT
