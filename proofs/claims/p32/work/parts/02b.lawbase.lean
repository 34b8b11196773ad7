/-! ===== rows for the law: irem; a call with one pool of two; a call that reads the script ===== -/
def remI {β : Type} (x y : Int32) (k : Int32 → Option β) : Option β := if y = 0 then none else k (x - x / y * y)
theorem range_get {α : Type} (X : List α) : (List.range X.length).map (fun i => X[i]?) = X.map some := by
  apply List.ext_getElem?
  intro i
  rw [List.getElem?_map, List.getElem?_map]
  rcases Nat.lt_or_ge i X.length with h | h
  · rw [List.getElem?_range h, List.getElem?_eq_getElem h]
    show some (X[i]?) = some (some X[i])
    rw [List.getElem?_eq_getElem h]
  · rw [List.getElem?_eq_none (by simp; exact h), List.getElem?_eq_none h]
    rfl
theorem perm_idx {α : Type} {X Y : List α} {idx : List Nat} {N : Nat} (hN : X.length = N) (h : idx.Perm (List.range N)) (e : idx.map (fun i => X[i]?) = Y.map some) : X.Perm Y := by
  have h1 := h.map (fun i => X[i]?)
  subst hN
  rw [e, range_get] at h1
  have h2 := h1.filterMap id
  have e1 : ∀ Z : List α, (Z.map some).filterMap id = Z := fun Z => by
    induction Z with
    | nil => rfl
    | cons a Z ih =>
      show a :: (Z.map some).filterMap id = a :: Z
      rw [ih]
  rw [e1, e1] at h2
  exact h2.symm
theorem nd_of : ∀ (l : List Nat), l.Nodup → va_nd l = true
  | [], _ => rfl
  | a :: l, h => by
    rw [List.nodup_cons] at h
    show (decide (a ∉ l) && va_nd l) = true
    rw [nd_of l h.2, decide_eq_true h.1]
    rfl
section LB
variable {p : Program} {l : Launch} {e : Env} {R : Room} {s : State} {m : MethodId} {args : Array Value} {below : List Frame} {meth : Method} {c : Code} {g : Gv} {nL : Nat} {A : Nat → Prop} {k n : Nat} {Q : State → Prop} {cc : ByteArray} {Ts : List Cond} {own : String} {X X' pl : va_W} {lv lv' : List (Nat × Value)} {pc pc' : Nat} {st : List Value} {β : Type} {o : β} {b L : Nat} {xs : Nat → Int32}
theorem v_irem (C : Cx p s m args c g nL A cc Ts own) {x y : Int32} {kx : Int32 → Option β} (h : remI x y kx = some o) (hdg : decode cc pc = .ok (.irem, 1)) (hp : pc + 1 = pc') (kk : ∀ v : Int32, kx v = some o → V p l e R s m args below meth c g nL A k n Q X pl lv pc' (.int v :: st)) : V p l e R s m args below meth c g nL A k n Q X pl lv pc (.int y :: .int x :: st) := by
  subst hp
  unfold remI at h
  by_cases h0 : y = 0
  · rw [if_pos h0] at h; cases h
  · rw [if_neg h0] at h
    exact fun H locs ls hP hD hS hl => lv_irem C.1.1 C.1.2.1 hdg h0 (kk _ h H locs ls hP hD hS hl)
theorem v_slen (C : Cx p s m args c g nL A cc Ts own) (hX : va_X b L xs s s.heap) (hbl : b < s.heap.size) (hbA : ¬ A b) (hdg : decode cc pc = .ok (.arraylength, 1)) (hp : pc + 1 = pc') (kk : V p l e R s m args below meth c g nL A k n Q X pl lv pc' (.int (Int32.ofNat L) :: st)) : V p l e R s m args below meth c g nL A k n Q X pl lv pc (.ref b :: st) := by
  subst hp
  exact fun H locs ls hP hD hS hl => va_slen C.1.1 C.1.2.1 hX hbl hbA hS hdg (kk H locs ls hP hD hS hl)
theorem v_sld (C : Cx p s m args c g nL A cc Ts own) {i : Int32} {kx : Int32 → Option β} (h : getA xs L i kx = some o) (hX : va_X b L xs s s.heap) (hbl : b < s.heap.size) (hbA : ¬ A b) (hdg : decode cc pc = .ok (.iaload, 1)) (hp : pc + 1 = pc') (kk : ∀ v : Int32, kx v = some o → V p l e R s m args below meth c g nL A k n Q X pl lv pc' (.int v :: st)) : V p l e R s m args below meth c g nL A k n Q X pl lv pc (.int i :: .ref b :: st) := by
  subst hp
  unfold getA at h
  by_cases hb9 : inB i L = true
  · rw [if_pos hb9] at h
    exact fun H locs ls hP hD hS hl => va_sld C.1.1 C.1.2.1 hX hbl hbA hS (inB_in hb9) hdg (kk _ h H locs ls hP hD hS hl)
  · rw [if_neg hb9] at h; cases h
/-- a call whose world is all the pool: the rest stays -/
theorem v_callRi (C : Cx p s m args c g nL A cc Ts own) {S ρ : Type} {x : Option ρ} {kx : ρ → Option β} (h : Option.bind x kx = some o) (rf : ρ → Int32) {rest : List Value} {W1 : ρ → S → va_W} {ok : ρ → S → Prop} {a : Array Value} {mc ms : Nat} (hrun : ∀ r : ρ, x = some r → ∀ (H : Heap) (locs : List Loc) (ls : Array Slot), va_P g.1 vwCl pl H → va_D (fun _ => True) pl → lv_has ls nL lv → va_Run p l e R s m args below meth c H locs k n mc ms (F0 m pc ls st) rest (Qi g (rf r) (W1 r) (ok r) (va_A pl H.size) a) (va_A pl H.size)) {k' n' : Nat} (hk9 : k + mc = k') (hn9 : n + ms = n') (hp : pc + 3 = pc') (kk : ∀ (r : ρ) (u : S), ok r u → kx r = some o → V p l e R s m args below meth c g nL A k' n' Q X (W1 r u) lv pc' (.int (rf r) :: rest)) : V p l e R s m args below meth c g nL A k n Q X pl lv pc st :=
  v_callPi C h rf (cx := []) X (Wf := fun _ _ => []) (pf := W1) (ok := ok) (fun _ _ => X) hrun [] (List.range X.length) (List.range X.length) rfl (range_get X) (nd_of _ List.nodup_range) rfl (fun i _ hi => absurd hi List.not_mem_nil) (nd_of _ List.nodup_range) (fun r u => by rw [List.append_nil]; exact range_get X) hk9 hn9 hp kk
theorem v_callPQi (C : Cx p s m args c g nL A cc Ts own) {S ρ : Type} {x : Option ρ} {kx : ρ → Option β} (h : Option.bind x kx = some o) (rf : ρ → Int32) {rest : List Value} {cx : va_W} (wr po : va_W) {Wf pf : ρ → S → va_W} {ok : ρ → S → Prop} {a : Array Value} {mc ms : Nat} (Xf : ρ → S → va_W) (hrun : ∀ r : ρ, x = some r → ∀ (H : Heap) (locs : List Loc) (ls : Array Slot), va_P g.1 vwCl (cx ++ pl) H → va_D (fun _ => True) (cx ++ pl) → lv_has ls nL lv → va_Run p l e R s m args below meth c H locs k n mc ms (F0 m pc ls st) rest (Qi g (rf r) (fun u => Wf r u ++ pf r u) (ok r) (va_A (cx ++ pl) H.size) a) (va_A (cx ++ pl) H.size)) (isC isR perm : List Nat) (hC : isC.map (fun i => X[i]?) = cx.map some) (hR : isR.map (fun i => X[i]?) = wr.map some) (N : Nat) (hN : X.length = N) (hI : (isR ++ isC).Perm (List.range N)) (hperm : ∀ (r : ρ) (u : S), perm.map (fun i => (wr ++ Wf r u)[i]?) = (Xf r u).map some) (M : Nat) (hM : ∀ (r : ρ) (u : S), (wr ++ Wf r u).length = M) (hJ : perm.Perm (List.range M)) {k' n' : Nat} (hk9 : k + mc = k') (hn9 : n + ms = n') (hp : pc + 3 = pc') (kk : ∀ (r : ρ) (u : S), ok r u → kx r = some o → V p l e R s m args below meth c g nL A k' n' Q (Xf r u) (pf r u ++ po) lv pc' (.int (rf r) :: rest)) : V p l e R s m args below meth c g nL A k n Q X (pl ++ po) lv pc st := by
  have e1 : X.Perm (wr ++ cx) := perm_idx hN hI (by rw [List.map_append, hC, hR, List.map_append])
  refine v_perm (X' := wr ++ po) (pl' := cx ++ pl) ?_ ?_
  · refine (e1.append_right _).trans ?_
    rw [List.append_assoc, List.append_assoc]
    refine List.Perm.append_left _ ?_
    rw [← List.append_assoc]
    exact List.perm_append_comm
  · refine v_callRi (pl := cx ++ pl) (X := wr ++ po) C h rf (W1 := fun r u => Wf r u ++ pf r u) (ok := ok) hrun hk9 hn9 hp (fun r u hu h9 => ?_)
    refine v_perm (X' := Xf r u) (pl' := pf r u ++ po) ?_ (kk r u hu h9)
    have e2 : (wr ++ Wf r u).Perm (Xf r u) := perm_idx (hM r u) hJ (hperm r u)
    refine List.Perm.trans ?_ (e2.append_right _)
    rw [List.append_assoc, List.append_assoc]
    refine List.Perm.append_left _ ?_
    rw [← List.append_assoc (Wf r u)]
    exact List.perm_append_comm
theorem flat_perm {l l' : List va_W} (h : l.Perm l') : l.flatten.Perm l'.flatten := by
  induction h with
  | nil => exact List.Perm.refl _
  | cons x _ ih =>
    rw [List.flatten_cons, List.flatten_cons]
    exact ih.append_left x
  | swap x y l =>
    rw [List.flatten_cons, List.flatten_cons, List.flatten_cons, List.flatten_cons, ← List.append_assoc, ← List.append_assoc]
    exact List.perm_append_comm.append_right _
  | trans _ _ ih1 ih2 => exact ih1.trans ih2
/-- a call by blocks -/
theorem v_callBi (C : Cx p s m args c g nL A cc Ts own) {S ρ : Type} {x : Option ρ} {kx : ρ → Option β} (h : Option.bind x kx = some o) (rf : ρ → Int32) {rest : List Value} {W0 : va_W} {W1 : ρ → S → va_W} {ok : ρ → S → Prop} {a : Array Value} {mc ms : Nat} {Bs : List va_W} (wB cB : List va_W) (pl0 po : va_W) (fB XB : ρ → S → List va_W) (pf : ρ → S → va_W) (hrun : ∀ r : ρ, x = some r → ∀ (H : Heap) (locs : List Loc) (ls : Array Slot), va_P g.1 vwCl W0 H → va_D (fun _ => True) W0 → lv_has ls nL lv → va_Run p l e R s m args below meth c H locs k n mc ms (F0 m pc ls st) rest (Qi g (rf r) (W1 r) (ok r) (va_A W0 H.size) a) (va_A W0 H.size)) (hW0 : W0 = cB.flatten ++ pl0) (hW1 : ∀ (r : ρ) (u : S), W1 r u = (fB r u).flatten ++ pf r u) (isC isR perm : List Nat) (hC : isC.map (fun i => Bs[i]?) = cB.map some) (hR : isR.map (fun i => Bs[i]?) = wB.map some) (N : Nat) (hN : Bs.length = N) (hI : (isR ++ isC).Perm (List.range N)) (hperm : ∀ (r : ρ) (u : S), perm.map (fun i => (wB ++ fB r u)[i]?) = (XB r u).map some) (M : Nat) (hM : ∀ (r : ρ) (u : S), (wB ++ fB r u).length = M) (hJ : perm.Perm (List.range M)) {k' n' : Nat} (hk9 : k + mc = k') (hn9 : n + ms = n') (hp : pc + 3 = pc') (kk : ∀ (r : ρ) (u : S), ok r u → kx r = some o → V p l e R s m args below meth c g nL A k' n' Q (XB r u).flatten (pf r u ++ po) lv pc' (.int (rf r) :: rest)) : V p l e R s m args below meth c g nL A k n Q Bs.flatten (pl0 ++ po) lv pc st := by
  have e1 : Bs.Perm (wB ++ cB) := perm_idx hN hI (by rw [List.map_append, hC, hR, List.map_append])
  subst hW0
  refine v_perm (X' := wB.flatten ++ po) (pl' := cB.flatten ++ pl0) ?_ ?_
  · refine ((flat_perm e1).append_right _).trans ?_
    rw [List.flatten_append, List.append_assoc, List.append_assoc]
    refine List.Perm.append_left _ ?_
    rw [← List.append_assoc]
    exact List.perm_append_comm
  · refine v_callRi (pl := cB.flatten ++ pl0) (X := wB.flatten ++ po) C h rf (W1 := W1) (ok := ok) hrun hk9 hn9 hp (fun r u hu h9 => ?_)
    rw [hW1 r u]
    refine v_perm (X' := (XB r u).flatten) (pl' := pf r u ++ po) ?_ (kk r u hu h9)
    have e2 : (wB ++ fB r u).Perm (XB r u) := perm_idx (hM r u) hJ (hperm r u)
    refine List.Perm.trans ?_ ((flat_perm e2).append_right _)
    rw [List.flatten_append, List.append_assoc, List.append_assoc]
    refine List.Perm.append_left _ ?_
    rw [← List.append_assoc (fB r u).flatten]
    exact List.perm_append_comm
theorem v_callB0i (C : Cx p s m args c g nL A cc Ts own) {S ρ : Type} {x : Option ρ} {kx : ρ → Option β} (h : Option.bind x kx = some o) (rf : ρ → Int32) {rest : List Value} {W0 : va_W} {W1 : ρ → S → va_W} {ok : ρ → S → Prop} {a : Array Value} {mc ms : Nat} {Bs : List va_W} (wB cB : List va_W) (fB XB : ρ → S → List va_W) (hrun : ∀ r : ρ, x = some r → ∀ (H : Heap) (locs : List Loc) (ls : Array Slot), va_P g.1 vwCl W0 H → va_D (fun _ => True) W0 → lv_has ls nL lv → va_Run p l e R s m args below meth c H locs k n mc ms (F0 m pc ls st) rest (Qi g (rf r) (W1 r) (ok r) (va_A W0 H.size) a) (va_A W0 H.size)) (hW0 : W0 = cB.flatten) (hW1 : ∀ (r : ρ) (u : S), W1 r u = (fB r u).flatten) (isC isR perm : List Nat) (hC : isC.map (fun i => Bs[i]?) = cB.map some) (hR : isR.map (fun i => Bs[i]?) = wB.map some) (N : Nat) (hN : Bs.length = N) (hI : (isR ++ isC).Perm (List.range N)) (hperm : ∀ (r : ρ) (u : S), perm.map (fun i => (wB ++ fB r u)[i]?) = (XB r u).map some) (M : Nat) (hM : ∀ (r : ρ) (u : S), (wB ++ fB r u).length = M) (hJ : perm.Perm (List.range M)) {k' n' : Nat} (hk9 : k + mc = k') (hn9 : n + ms = n') (hp : pc + 3 = pc') (kk : ∀ (r : ρ) (u : S), ok r u → kx r = some o → V p l e R s m args below meth c g nL A k' n' Q (XB r u).flatten pl lv pc' (.int (rf r) :: rest)) : V p l e R s m args below meth c g nL A k n Q Bs.flatten pl lv pc st :=
  v_callBi C h rf wB cB [] pl fB XB (fun _ _ => []) hrun (by rw [List.append_nil]; exact hW0) (fun r u => by rw [List.append_nil]; exact hW1 r u) isC isR perm hC hR N hN hI hperm M hM hJ hk9 hn9 hp kk
theorem v_callRl (C : Cx p s m args c g nL A cc Ts own) {S ρ : Type} {x : Option ρ} {kx : ρ → Option β} (h : Option.bind x kx = some o) (rf : ρ → Int64) {rest : List Value} {W1 : ρ → S → va_W} {ok : ρ → S → Prop} {a : Array Value} {mc ms : Nat} (hrun : ∀ r : ρ, x = some r → ∀ (H : Heap) (locs : List Loc) (ls : Array Slot), va_P g.1 vwCl pl H → va_D (fun _ => True) pl → lv_has ls nL lv → va_Run p l e R s m args below meth c H locs k n mc ms (F0 m pc ls st) rest (Ql g (rf r) (W1 r) (ok r) (va_A pl H.size) a) (va_A pl H.size)) {k' n' : Nat} (hk9 : k + mc = k') (hn9 : n + ms = n') (hp : pc + 3 = pc') (kk : ∀ (r : ρ) (u : S), ok r u → kx r = some o → V p l e R s m args below meth c g nL A k' n' Q X (W1 r u) lv pc' (.long (rf r) :: rest)) : V p l e R s m args below meth c g nL A k n Q X pl lv pc st :=
  v_callPl C h rf (cx := []) X (Wf := fun _ _ => []) (pf := W1) (ok := ok) (fun _ _ => X) hrun [] (List.range X.length) (List.range X.length) rfl (range_get X) (nd_of _ List.nodup_range) rfl (fun i _ hi => absurd hi List.not_mem_nil) (nd_of _ List.nodup_range) (fun r u => by rw [List.append_nil]; exact range_get X) hk9 hn9 hp kk
/-- a call by blocks -/
theorem v_callBl (C : Cx p s m args c g nL A cc Ts own) {S ρ : Type} {x : Option ρ} {kx : ρ → Option β} (h : Option.bind x kx = some o) (rf : ρ → Int64) {rest : List Value} {W0 : va_W} {W1 : ρ → S → va_W} {ok : ρ → S → Prop} {a : Array Value} {mc ms : Nat} {Bs : List va_W} (wB cB : List va_W) (pl0 po : va_W) (fB XB : ρ → S → List va_W) (pf : ρ → S → va_W) (hrun : ∀ r : ρ, x = some r → ∀ (H : Heap) (locs : List Loc) (ls : Array Slot), va_P g.1 vwCl W0 H → va_D (fun _ => True) W0 → lv_has ls nL lv → va_Run p l e R s m args below meth c H locs k n mc ms (F0 m pc ls st) rest (Ql g (rf r) (W1 r) (ok r) (va_A W0 H.size) a) (va_A W0 H.size)) (hW0 : W0 = cB.flatten ++ pl0) (hW1 : ∀ (r : ρ) (u : S), W1 r u = (fB r u).flatten ++ pf r u) (isC isR perm : List Nat) (hC : isC.map (fun i => Bs[i]?) = cB.map some) (hR : isR.map (fun i => Bs[i]?) = wB.map some) (N : Nat) (hN : Bs.length = N) (hI : (isR ++ isC).Perm (List.range N)) (hperm : ∀ (r : ρ) (u : S), perm.map (fun i => (wB ++ fB r u)[i]?) = (XB r u).map some) (M : Nat) (hM : ∀ (r : ρ) (u : S), (wB ++ fB r u).length = M) (hJ : perm.Perm (List.range M)) {k' n' : Nat} (hk9 : k + mc = k') (hn9 : n + ms = n') (hp : pc + 3 = pc') (kk : ∀ (r : ρ) (u : S), ok r u → kx r = some o → V p l e R s m args below meth c g nL A k' n' Q (XB r u).flatten (pf r u ++ po) lv pc' (.long (rf r) :: rest)) : V p l e R s m args below meth c g nL A k n Q Bs.flatten (pl0 ++ po) lv pc st := by
  have e1 : Bs.Perm (wB ++ cB) := perm_idx hN hI (by rw [List.map_append, hC, hR, List.map_append])
  subst hW0
  refine v_perm (X' := wB.flatten ++ po) (pl' := cB.flatten ++ pl0) ?_ ?_
  · refine ((flat_perm e1).append_right _).trans ?_
    rw [List.flatten_append, List.append_assoc, List.append_assoc]
    refine List.Perm.append_left _ ?_
    rw [← List.append_assoc]
    exact List.perm_append_comm
  · refine v_callRl (pl := cB.flatten ++ pl0) (X := wB.flatten ++ po) C h rf (W1 := W1) (ok := ok) hrun hk9 hn9 hp (fun r u hu h9 => ?_)
    rw [hW1 r u]
    refine v_perm (X' := (XB r u).flatten) (pl' := pf r u ++ po) ?_ (kk r u hu h9)
    have e2 : (wB ++ fB r u).Perm (XB r u) := perm_idx (hM r u) hJ (hperm r u)
    refine List.Perm.trans ?_ ((flat_perm e2).append_right _)
    rw [List.flatten_append, List.append_assoc, List.append_assoc]
    refine List.Perm.append_left _ ?_
    rw [← List.append_assoc (fB r u).flatten]
    exact List.perm_append_comm
theorem v_callB0l (C : Cx p s m args c g nL A cc Ts own) {S ρ : Type} {x : Option ρ} {kx : ρ → Option β} (h : Option.bind x kx = some o) (rf : ρ → Int64) {rest : List Value} {W0 : va_W} {W1 : ρ → S → va_W} {ok : ρ → S → Prop} {a : Array Value} {mc ms : Nat} {Bs : List va_W} (wB cB : List va_W) (fB XB : ρ → S → List va_W) (hrun : ∀ r : ρ, x = some r → ∀ (H : Heap) (locs : List Loc) (ls : Array Slot), va_P g.1 vwCl W0 H → va_D (fun _ => True) W0 → lv_has ls nL lv → va_Run p l e R s m args below meth c H locs k n mc ms (F0 m pc ls st) rest (Ql g (rf r) (W1 r) (ok r) (va_A W0 H.size) a) (va_A W0 H.size)) (hW0 : W0 = cB.flatten) (hW1 : ∀ (r : ρ) (u : S), W1 r u = (fB r u).flatten) (isC isR perm : List Nat) (hC : isC.map (fun i => Bs[i]?) = cB.map some) (hR : isR.map (fun i => Bs[i]?) = wB.map some) (N : Nat) (hN : Bs.length = N) (hI : (isR ++ isC).Perm (List.range N)) (hperm : ∀ (r : ρ) (u : S), perm.map (fun i => (wB ++ fB r u)[i]?) = (XB r u).map some) (M : Nat) (hM : ∀ (r : ρ) (u : S), (wB ++ fB r u).length = M) (hJ : perm.Perm (List.range M)) {k' n' : Nat} (hk9 : k + mc = k') (hn9 : n + ms = n') (hp : pc + 3 = pc') (kk : ∀ (r : ρ) (u : S), ok r u → kx r = some o → V p l e R s m args below meth c g nL A k' n' Q (XB r u).flatten pl lv pc' (.long (rf r) :: rest)) : V p l e R s m args below meth c g nL A k n Q Bs.flatten pl lv pc st :=
  v_callBl C h rf wB cB [] pl fB XB (fun _ _ => []) hrun (by rw [List.append_nil]; exact hW0) (fun r u => by rw [List.append_nil]; exact hW1 r u) isC isR perm hC hR N hN hI hperm M hM hJ hk9 hn9 hp kk
end LB
/-! a static method that reads the script -/
abbrev cPx (g : Gv) (av : List Value) (b L : Nat) (xs : Nat → Int32) (sz : Nat) : Array Value → State → Prop := fun a U => cPc g av [] sz a U ∧ va_X b L xs U U.heap ∧ b < U.heap.size
theorem cPx_blind {g : Gv} {av : List Value} {b L : Nat} {xs : Nat → Int32} {sz : Nat} : FrameBlind (cPx g av b L xs sz) := fun a U gg mk q => ⟨cPc_blind a U gg mk q.1, va_X.moved (u := U) (U := U.calling gg mk a) (Vm.Alike.refl U.vm) q.2.1, q.2.2⟩
def CtX (l : Launch) (g : Gv) (y : MethodName) (ws : List Cond) (rm : Room) (av : List Value) (b L : Nat) (xs : Nat → Int32) (r : Int32) : Prop := ∀ sz : Nat, Met l y ws rm (cPx g av b L xs sz) (Qi g r (fun _ : Unit => []) (fun _ => True) (va_A [] sz)) rm.cells rm.slots (va_A [] sz)
theorem enterX {l : Launch} {g : Gv} {y : MethodName} {ws ws' : List Cond} {rm : Room} {av : List Value} {b L : Nat} {xs : Nat → Int32} {r : Int32} {cc : ByteArray} {nL : Nat} {ret : Option FieldType} (hy : plainName y.cls = true) (hw : ws = Cond.code y cc nL ret :: ws') (hlen : (lg_sl av).length ≤ nL)
    (body : ∀ (p : Program) (e : Env) (s : State) (m : MethodId) (args : Array Value) (below : List Frame) (meth : Method) (c : Code) (A : Nat → Prop) (Q : State → Prop), Cx p s m args c g nL A cc ws y.cls → meth.sig.returnType = ret ∧ meth.locks = false → va_X b L xs s s.heap → b < s.heap.size → ¬ A b → MQ below (Qi g r (fun _ : Unit => []) (fun _ => True) A) args s rm.cells rm.slots A = Q → V p l e rm s m args below meth c g nL A 0 0 Q [] [] (lv_args 0 av) 0 []) : CtX l g y ws rm av b L xs r := by
  intro sz
  refine Met.ofW (cc := cc) (maxL := nL) (ret := ret) hy hw ?_
  intro p e s m args below meth c s₁ B hml hv
  obtain ⟨⟨rfl, hsz, hP, hK, hD0, hN⟩, hX, hbl⟩ := hv
  subst hsz
  have key := body p e s m av.toArray below meth c (va_A [] s.heap.size) _ ⟨⟨B.exec, B.bytes, hml, findClass_of_methodNamed B.named, atoms_spec B.pre⟩, hK, fun q h => Or.inr h, hN⟩ ⟨B.returns, B.notSynchronized⟩ hX hbl (fun h => by
    rcases h with ⟨k, e9, h⟩ | h
    · simp at h
    · exact absurd hbl (Nat.not_lt.mpr h)) rfl
  rw [lg_entry_eq]
  exact key s.heap [] _ hP hD0.self va_S.rf (lv_entry av hlen)
section LX
variable {p : Program} {l : Launch} {e : Env} {R : Room} {s : State} {m : MethodId} {args : Array Value} {below : List Frame} {meth : Method} {c : Code} {g : Gv} {nL : Nat} {A : Nat → Prop} {k n : Nat} {Q : State → Prop} {cc : ByteArray} {Ts : List Cond} {own : String} {X pl : va_W} {lv : List (Nat × Value)} {pc pc' : Nat} {st : List Value} {β : Type} {o : β} {b L : Nat} {xs : Nat → Int32}
theorem v_callX (C : Cx p s m args c g nL A cc Ts own) {x : Option Int32} {kx : Int32 → Option β} (h : Option.bind x kx = some o) (hscr : va_X b L xs s s.heap) (hbl : b < s.heap.size) (hbA : ¬ A b) {y : MethodName} {wsy wsy' : List Cond} {bytes : ByteArray} {maxL index : Nat} {ret : Option FieldType} {rm : Room} {As rest : List Value} (hM : ∀ r : Int32, x = some r → CtX l g y wsy rm As b L xs r) (hG : GoodIn Ts (va_wsS own index y wsy)) (hw : wsy = Cond.code y bytes maxL ret :: wsy') (hd : y.cls ≠ "java/lang/invoke/MethodHandle" ∧ y.cls ≠ "java/lang/invoke/VarHandle" ∧ (parseMethodDescriptor y.desc).map (fun d => d.parameters.length) = some As.length) (hR : rm.frames + 1 ≤ R.frames ∧ 8 + (maxL + 11) + rm.locals ≤ R.locals) (hc9 : rm.cells = 0) (hs9 : rm.slots = 0) (hf : k ≤ R.cells ∧ n ≤ R.slots) (hW : (rest.map fun v => v.category).sum ≤ 8) (hdg : decode cc pc = .ok (.invokestatic index, 3)) (hst : st = As.reverse ++ rest) (hp : pc + 3 = pc') (kk : ∀ r : Int32, kx r = some o → V p l e R s m args below meth c g nL A k n Q X pl lv pc' (.int r :: rest)) : V p l e R s m args below meth c g nL A k n Q X pl lv pc st := by
  subst hp
  obtain ⟨r, hx9, h9⟩ := Option.bind_eq_some_iff.mp h
  intro H locs ls hP hD hS hl
  have hP0 : va_P g.1 vwCl [] H := fun k q hq => by simp at hq
  have hD0 : va_D (fun _ => True) [] := ⟨fun i j p9 q9 hq => by simp at hq, fun k q hq => by simp at hq⟩
  have hrun := va_runS (e := e) (below := below) (meth := meth) (c := c) (locs := locs) C.1 (hM r hx9 H.size) (va_cwS As.length C.1.2.2.2.2 hG hw rfl rfl hd hR) ⟨cPx_blind, fun U hU hW9 => ⟨⟨rfl, by rw [hU], by rw [hU]; exact hP0, va_K.moved hW9.alike C.2.1, hD0, NW.warm hW9 C.2.2.2⟩, by rw [hU]; exact va_X.moved hW9.alike (hscr.kept (hS.2.1 b hbl hbA)), by rw [hU]; exact Nat.lt_of_lt_of_le hbl hS.1⟩⟩ rfl rfl hl.1 hst (lv_room hW) hdg (by rw [hc9, hs9]; exact hf)
  rw [hc9, hs9] at hrun
  have hFc : ∀ q, va_A [] H.size q → A q := fun q hq => by
    rcases hq with ⟨k9, e9, hq⟩ | hq
    · simp at hq
    · exact C.2.2.1 q (Nat.le_trans hS.1 hq)
  refine va_calli hrun hS (fun q _ h => hFc q h) hFc (fun r' u t H1 locs1 ht hvm hw hB hz1 hk1 hS1 => ?_)
  obtain ⟨rfl, -⟩ := hw
  refine kk r' h9 H1 locs1 ls (hP.kept (fun k9 q9 hq => hk1 q9.1 (hP k9 q9 hq).lt (fun hz => ?_))) hD hS1 hl
  rcases hz with ⟨k8, e8, hq8⟩ | hz
  · simp at hq8
  · have := (hP k9 q9 hq).lt
    omega
end LX
