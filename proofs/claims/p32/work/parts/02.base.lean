/-! ===== the base: contracts of this claim, the judgement V over worlds, pure programs in Option ===== -/
abbrev Gv : Type := va_G × (ClassId × ClassId × ClassId × ClassId)
abbrev tyG (g : Gv) : List (ClassId × FieldType) := [(g.2.1, .char), (g.2.2.1, .int), (g.2.2.2.1, .long), (g.2.2.2.2, .object RX2)]
/-- links of nest mates: fields and methods, and the array of states -/
def nwF : List (String × Nat × String × String × String × String) := [(RX5, 44, "DodgingHangman$Text", "length", "I", "DodgingHangman"), (RX0, 38, "DodgingHangman$State", "wordCount", "I", "DodgingHangman"), (RX5, 67, "DodgingHangman$State", "wordCount", "I", "DodgingHangman"), (RX0, 25, "DodgingHangman$State", "policy", "I", "DodgingHangman"), (RX5, 94, "DodgingHangman$State", "policy", "I", "DodgingHangman"), (RX5, 135, "DodgingHangman$State", "status", "I", "DodgingHangman"), (RX5, 130, "DodgingHangman$State", "length", "I", "DodgingHangman"), (RX5, 148, "DodgingHangman$State", "lives", "I", "DodgingHangman"), (RX5, 141, "DodgingHangman$State", "candidates", "I", "DodgingHangman"), (RX0, 31, "DodgingHangman$State", "guessed", "I", "DodgingHangman"), (RX5, 200, "DodgingHangman$State", "guessed", "I", "DodgingHangman"), (RX5, 155, "DodgingHangman$State", "guessCount", "I", "DodgingHangman"), (RX5, 151, "DodgingHangman$State", "pattern", "J", "DodgingHangman"), (RX5, 213, "DodgingHangman$SavedStates", "count", "I", "DodgingHangman"), (RX5, 168, "DodgingHangman$Families", "count", "I", "DodgingHangman")]
def nwM : List (String × Nat × MethodName × String) := [(RX5, 9, yX3_init, "DodgingHangman"), (RX5, 18, yX2_init, "DodgingHangman"), (RX5, 25, yX1_init, "DodgingHangman"), (RX5, 35, yX0_init, "DodgingHangman"), (RX3, 27, yX5_isLetter, "DodgingHangman"), (RX4, 15, yX5_isLetter, "DodgingHangman"), (RX1, 21, yX2_init, "DodgingHangman"), (RX4, 23, yX5_bitOf, "DodgingHangman"), (RX2, 74, yX5_bitOf, "DodgingHangman"), (RX0, 34, yX5_bitOf, "DodgingHangman")]
def NW (U : State) : Prop := (∀ q ∈ nwF, va_Nw (.fieldLinkNest q.1 q.2.1 q.2.2.1 q.2.2.2.1 q.2.2.2.2.1 q.2.2.2.2.2) U) ∧ (∀ q ∈ nwM, va_Nw (.methodLinkNest q.1 q.2.1 q.2.2.1 q.2.2.2) U) ∧ va_AO RX2 U
theorem NW.warm {s U : State} (hW : s.WarmedH U.vm) (h : NW s) : NW U := ⟨fun q hq => va_Nw.warmF hW (h.1 q hq), fun q hq => va_Nw.warmM hW (h.2.1 q hq), h.2.2.moved hW.alike⟩
theorem NW.same {s U : State} (hv : s.vm = U.vm) (h : NW s) : NW U := ⟨fun q hq => va_Nw.same rfl hv (h.1 q hq), fun q hq => va_Nw.same rfl hv (h.2.1 q hq), h.2.2.moved (by rw [hv]; exact Vm.Alike.refl U.vm)⟩
abbrev cPc (g : Gv) (av : List Value) (W0 : va_W) (sz : Nat) : Array Value → State → Prop := va_Pc av (fun U => U.heap.size = sz ∧ va_P g.1 vwCl W0 U.heap ∧ va_K g.1 vwCl (tyG g) U ∧ va_D (fun _ => True) W0 ∧ NW U)
theorem cPc_blind {g : Gv} {av : List Value} {W0 : va_W} {sz : Nat} : FrameBlind (cPc g av W0 sz) := fun a U gg mk q => by
  obtain ⟨q0, q1, qP, qK, qD, qN⟩ := q
  exact ⟨q0, q1, qP, va_K.moved (u := U) (U := U.calling gg mk a) (Vm.Alike.refl U.vm) qK, qD, NW.same (s := U) (U := U.calling gg mk a) rfl qN⟩
/-- a method's contract: its arguments, the cells that it reaches, its end -/
def Ct (l : Launch) (g : Gv) (y : MethodName) (ws : List Cond) (rm : Room) (av : List Value) (W0 : va_W) (Qf : (Nat → Prop) → Array Value → State → Outcome → State → Prop) : Prop := ∀ sz : Nat, Met l y ws rm (cPc g av W0 sz) (Qf (va_A W0 sz)) rm.cells rm.slots (va_A W0 sz)
def Qi {S : Type} (g : Gv) (r : Int32) (W1 : S → va_W) (ok : S → Prop) (A : Nat → Prop) : Array Value → State → Outcome → State → Prop := va_Qi (fun (r' : Int32) (u : S) => r' = r ∧ ok u) (fun u t => va_P g.1 vwCl (W1 u) t.heap ∧ va_D A (W1 u)) A
def Ql {S : Type} (g : Gv) (r : Int64) (W1 : S → va_W) (ok : S → Prop) (A : Nat → Prop) : Array Value → State → Outcome → State → Prop := va_Ql (fun (r' : Int64) (u : S) => r' = r ∧ ok u) (fun u t => va_P g.1 vwCl (W1 u) t.heap ∧ va_D A (W1 u)) A
def Qv {S : Type} (g : Gv) (W1 : S → va_W) (ok : S → Prop) (A : Nat → Prop) : Array Value → State → Outcome → State → Prop := va_Qv (fun (u : S) => ok u) (fun u t => va_P g.1 vwCl (W1 u) t.heap ∧ va_D A (W1 u)) A
/-! pure programs -/
def lett {α β : Type} (x : α) (k : α → Option β) : Option β := k x
def inB (i : Int32) (n : Nat) : Bool := decide (¬ (i < 0 ∨ n ≤ i.toNatClampNeg))
theorem inB_in {i : Int32} {n : Nat} (h : inB i n = true) : vp_in i n := by
  unfold inB at h
  unfold vp_in
  exact of_decide_eq_true h
def getA {α β : Type} (f : Nat → α) (n : Nat) (i : Int32) (k : α → Option β) : Option β := if inB i n = true then k (f i.toNatClampNeg) else none
def chkA {β : Type} (n : Nat) (i : Int32) (k : Option β) : Option β := if inB i n = true then k else none
def divI {β : Type} (x y : Int32) (k : Int32 → Option β) : Option β := if y = 0 then none else k (x / y)
def loop1 {α1 γ : Type} (step : (α1 → Option γ) → α1 → Option γ) : Nat → α1 → Option γ
  | 0, _ => none
  | n + 1, a1 => step (loop1 step n) a1
def loop2 {α1 α2 γ : Type} (step : (α1 → α2 → Option γ) → α1 → α2 → Option γ) : Nat → α1 → α2 → Option γ
  | 0, _, _ => none
  | n + 1, a1, a2 => step (loop2 step n) a1 a2
def loop3 {α1 α2 α3 γ : Type} (step : (α1 → α2 → α3 → Option γ) → α1 → α2 → α3 → Option γ) : Nat → α1 → α2 → α3 → Option γ
  | 0, _, _, _ => none
  | n + 1, a1, a2, a3 => step (loop3 step n) a1 a2 a3
def loop4 {α1 α2 α3 α4 γ : Type} (step : (α1 → α2 → α3 → α4 → Option γ) → α1 → α2 → α3 → α4 → Option γ) : Nat → α1 → α2 → α3 → α4 → Option γ
  | 0, _, _, _, _ => none
  | n + 1, a1, a2, a3, a4 => step (loop4 step n) a1 a2 a3 a4
def loop5 {α1 α2 α3 α4 α5 γ : Type} (step : (α1 → α2 → α3 → α4 → α5 → Option γ) → α1 → α2 → α3 → α4 → α5 → Option γ) : Nat → α1 → α2 → α3 → α4 → α5 → Option γ
  | 0, _, _, _, _, _ => none
  | n + 1, a1, a2, a3, a4, a5 => step (loop5 step n) a1 a2 a3 a4 a5
def loop6 {α1 α2 α3 α4 α5 α6 γ : Type} (step : (α1 → α2 → α3 → α4 → α5 → α6 → Option γ) → α1 → α2 → α3 → α4 → α5 → α6 → Option γ) : Nat → α1 → α2 → α3 → α4 → α5 → α6 → Option γ
  | 0, _, _, _, _, _, _ => none
  | n + 1, a1, a2, a3, a4, a5, a6 => step (loop6 step n) a1 a2 a3 a4 a5 a6
def loop7 {α1 α2 α3 α4 α5 α6 α7 γ : Type} (step : (α1 → α2 → α3 → α4 → α5 → α6 → α7 → Option γ) → α1 → α2 → α3 → α4 → α5 → α6 → α7 → Option γ) : Nat → α1 → α2 → α3 → α4 → α5 → α6 → α7 → Option γ
  | 0, _, _, _, _, _, _, _ => none
  | n + 1, a1, a2, a3, a4, a5, a6, a7 => step (loop7 step n) a1 a2 a3 a4 a5 a6 a7
def loop8 {α1 α2 α3 α4 α5 α6 α7 α8 γ : Type} (step : (α1 → α2 → α3 → α4 → α5 → α6 → α7 → α8 → Option γ) → α1 → α2 → α3 → α4 → α5 → α6 → α7 → α8 → Option γ) : Nat → α1 → α2 → α3 → α4 → α5 → α6 → α7 → α8 → Option γ
  | 0, _, _, _, _, _, _, _, _ => none
  | n + 1, a1, a2, a3, a4, a5, a6, a7, a8 => step (loop8 step n) a1 a2 a3 a4 a5 a6 a7 a8
def loop9 {α1 α2 α3 α4 α5 α6 α7 α8 α9 γ : Type} (step : (α1 → α2 → α3 → α4 → α5 → α6 → α7 → α8 → α9 → Option γ) → α1 → α2 → α3 → α4 → α5 → α6 → α7 → α8 → α9 → Option γ) : Nat → α1 → α2 → α3 → α4 → α5 → α6 → α7 → α8 → α9 → Option γ
  | 0, _, _, _, _, _, _, _, _, _ => none
  | n + 1, a1, a2, a3, a4, a5, a6, a7, a8, a9 => step (loop9 step n) a1 a2 a3 a4 a5 a6 a7 a8 a9
def loop10 {α1 α2 α3 α4 α5 α6 α7 α8 α9 α10 γ : Type} (step : (α1 → α2 → α3 → α4 → α5 → α6 → α7 → α8 → α9 → α10 → Option γ) → α1 → α2 → α3 → α4 → α5 → α6 → α7 → α8 → α9 → α10 → Option γ) : Nat → α1 → α2 → α3 → α4 → α5 → α6 → α7 → α8 → α9 → α10 → Option γ
  | 0, _, _, _, _, _, _, _, _, _, _ => none
  | n + 1, a1, a2, a3, a4, a5, a6, a7, a8, a9, a10 => step (loop10 step n) a1 a2 a3 a4 a5 a6 a7 a8 a9 a10
def loop11 {α1 α2 α3 α4 α5 α6 α7 α8 α9 α10 α11 γ : Type} (step : (α1 → α2 → α3 → α4 → α5 → α6 → α7 → α8 → α9 → α10 → α11 → Option γ) → α1 → α2 → α3 → α4 → α5 → α6 → α7 → α8 → α9 → α10 → α11 → Option γ) : Nat → α1 → α2 → α3 → α4 → α5 → α6 → α7 → α8 → α9 → α10 → α11 → Option γ
  | 0, _, _, _, _, _, _, _, _, _, _, _ => none
  | n + 1, a1, a2, a3, a4, a5, a6, a7, a8, a9, a10, a11 => step (loop11 step n) a1 a2 a3 a4 a5 a6 a7 a8 a9 a10 a11
def loop12 {α1 α2 α3 α4 α5 α6 α7 α8 α9 α10 α11 α12 γ : Type} (step : (α1 → α2 → α3 → α4 → α5 → α6 → α7 → α8 → α9 → α10 → α11 → α12 → Option γ) → α1 → α2 → α3 → α4 → α5 → α6 → α7 → α8 → α9 → α10 → α11 → α12 → Option γ) : Nat → α1 → α2 → α3 → α4 → α5 → α6 → α7 → α8 → α9 → α10 → α11 → α12 → Option γ
  | 0, _, _, _, _, _, _, _, _, _, _, _, _ => none
  | n + 1, a1, a2, a3, a4, a5, a6, a7, a8, a9, a10, a11, a12 => step (loop12 step n) a1 a2 a3 a4 a5 a6 a7 a8 a9 a10 a11 a12
section VV
variable {p : Program} {l : Launch} {e : Env} {R : Room} {s : State} {m : MethodId} {args : Array Value} {below : List Frame} {meth : Method} {c : Code} {g : Gv} {nL : Nat} {A : Nat → Prop} {k n : Nat} {Q : State → Prop} {cc : ByteArray} {Ts : List Cond} {own : String} {X X' pl : va_W} {lv lv' : List (Nat × Value)} {pc pc' : Nat} {st : List Value} {β : Type} {o : β}
/-- the machine, at a method's pc, with a world, locals, a stack, comes to Q -/
def V (p : Program) (l : Launch) (e : Env) (R : Room) (s : State) (m : MethodId) (args : Array Value) (below : List Frame) (meth : Method) (c : Code) (g : Gv) (nL : Nat) (A : Nat → Prop) (k n : Nat) (Q : State → Prop) (X pl : va_W) (lv : List (Nat × Value)) (pc : Nat) (st : List Value) : Prop :=
  ∀ (H : Heap) (locs : List Loc) (ls : Array Slot), va_P g.1 vwCl (X ++ pl) H → va_D A (X ++ pl) → va_S A s.heap H locs → lv_has ls nL lv → W p l e R s m args below meth c H locs k n Q (F0 m pc ls st)
/-- what stays through a method -/
def Cx (p : Program) (s : State) (m : MethodId) (args : Array Value) (c : Code) (g : Gv) (nL : Nat) (A : Nat → Prop) (cc : ByteArray) (Ts : List Cond) (own : String) : Prop :=
  (p.tables.exec = Jvm.exec ∧ c.code = cc ∧ c.maxLocals = nL ∧ s.vm.findClass own = some m.cls ∧ ∀ w ∈ Ts, w.before args s = true) ∧ va_K g.1 vwCl (tyG g) s ∧ (∀ q : Nat, s.heap.size ≤ q → A q) ∧ NW s
theorem v_get_app {α : Type} {a b : List α} {i : Nat} {x : α} (h : a[i]? = some x) : (a ++ b)[i]? = some x := by
  rw [List.getElem?_append_left (List.getElem?_eq_some_iff.mp h).1]; exact h
theorem v_set_app {α : Type} {a b : List α} {i : Nat} {x y : α} (h : a[i]? = some x) : (a ++ b).set i y = a.set i y ++ b := by
  rw [List.set_append_left _ _ (List.getElem?_eq_some_iff.mp h).1]
theorem v_iconst (C : Cx p s m args c g nL A cc Ts own) {z : Int} (v : Int32) (hdg : decode cc pc = .ok (.iconst z, 1)) (hv : Int32.ofInt z = v) (hp : pc + 1 = pc') (kk : V p l e R s m args below meth c g nL A k n Q X pl lv pc' (.int v :: st)) : V p l e R s m args below meth c g nL A k n Q X pl lv pc st := by
  subst hp
  exact fun H locs ls hP hD hS hl => lv_iconst C.1.1 C.1.2.1 hdg hv (kk H locs ls hP hD hS hl)
theorem v_bipush (C : Cx p s m args c g nL A cc Ts own) {z : Int} (v : Int32) (hdg : decode cc pc = .ok (.bipush z, 2)) (hv : (Int8.ofInt z).toInt32 = v) (hp : pc + 2 = pc') (kk : V p l e R s m args below meth c g nL A k n Q X pl lv pc' (.int v :: st)) : V p l e R s m args below meth c g nL A k n Q X pl lv pc st := by
  subst hp
  exact fun H locs ls hP hD hS hl => lv_bipush C.1.1 C.1.2.1 hdg hv (kk H locs ls hP hD hS hl)
theorem v_sipush (C : Cx p s m args c g nL A cc Ts own) {z : Int} (v : Int32) (hdg : decode cc pc = .ok (.sipush z, 3)) (hv : (Int16.ofInt z).toInt32 = v) (hp : pc + 3 = pc') (kk : V p l e R s m args below meth c g nL A k n Q X pl lv pc' (.int v :: st)) : V p l e R s m args below meth c g nL A k n Q X pl lv pc st := by
  subst hp
  exact fun H locs ls hP hD hS hl => lv_sipush C.1.1 C.1.2.1 hdg hv (kk H locs ls hP hD hS hl)
theorem v_lconst (C : Cx p s m args c g nL A cc Ts own) {z : Fin 2} (v : Int64) (hdg : decode cc pc = .ok (.lconst z, 1)) (hv : Int64.ofNat (z : Nat) = v) (hp : pc + 1 = pc') (kk : V p l e R s m args below meth c g nL A k n Q X pl lv pc' (.long v :: st)) : V p l e R s m args below meth c g nL A k n Q X pl lv pc st := by
  subst hp
  exact fun H locs ls hP hD hS hl => lv_lconst C.1.1 C.1.2.1 hdg hv (kk H locs ls hP hD hS hl)
theorem v_iload_n (C : Cx p s m args c g nL A cc Ts own) {z : Fin 4} {x : Int32} (q : Nat) (hdg : decode cc pc = .ok (.iload_n z, 1)) (hq : lv[q]? = some ((z : Nat), .int x)) (hp : pc + 1 = pc') (kk : V p l e R s m args below meth c g nL A k n Q X pl lv pc' (.int x :: st)) : V p l e R s m args below meth c g nL A k n Q X pl lv pc st := by
  subst hp
  exact fun H locs ls hP hD hS hl => lv_iload_n C.1.1 C.1.2.1 hdg rfl (lv_at hl q hq) (kk H locs ls hP hD hS hl)
theorem v_iload (C : Cx p s m args c g nL A cc Ts own) {z : Nat} {x : Int32} (q : Nat) (hdg : decode cc pc = .ok (.iload z, 2)) (hq : lv[q]? = some (z, .int x)) (hp : pc + 2 = pc') (kk : V p l e R s m args below meth c g nL A k n Q X pl lv pc' (.int x :: st)) : V p l e R s m args below meth c g nL A k n Q X pl lv pc st := by
  subst hp
  exact fun H locs ls hP hD hS hl => lv_iload C.1.1 C.1.2.1 hdg (lv_at hl q hq) (kk H locs ls hP hD hS hl)
theorem v_lload_n (C : Cx p s m args c g nL A cc Ts own) {z : Fin 4} {x : Int64} (q : Nat) (hdg : decode cc pc = .ok (.lload_n z, 1)) (hq : lv[q]? = some ((z : Nat), .long x)) (hp : pc + 1 = pc') (kk : V p l e R s m args below meth c g nL A k n Q X pl lv pc' (.long x :: st)) : V p l e R s m args below meth c g nL A k n Q X pl lv pc st := by
  subst hp
  exact fun H locs ls hP hD hS hl => lv_lload_n C.1.1 C.1.2.1 hdg rfl (lv_at hl q hq) (kk H locs ls hP hD hS hl)
theorem v_lload (C : Cx p s m args c g nL A cc Ts own) {z : Nat} {x : Int64} (q : Nat) (hdg : decode cc pc = .ok (.lload z, 2)) (hq : lv[q]? = some (z, .long x)) (hp : pc + 2 = pc') (kk : V p l e R s m args below meth c g nL A k n Q X pl lv pc' (.long x :: st)) : V p l e R s m args below meth c g nL A k n Q X pl lv pc st := by
  subst hp
  exact fun H locs ls hP hD hS hl => lv_lload C.1.1 C.1.2.1 hdg (lv_at hl q hq) (kk H locs ls hP hD hS hl)
theorem v_aload_n (C : Cx p s m args c g nL A cc Ts own) {z : Fin 4} {x : Nat} (q : Nat) (hdg : decode cc pc = .ok (.aload_n z, 1)) (hq : lv[q]? = some ((z : Nat), .ref x)) (hp : pc + 1 = pc') (kk : V p l e R s m args below meth c g nL A k n Q X pl lv pc' (.ref x :: st)) : V p l e R s m args below meth c g nL A k n Q X pl lv pc st := by
  subst hp
  exact fun H locs ls hP hD hS hl => lv_aload_n C.1.1 C.1.2.1 hdg rfl (lv_at hl q hq) (kk H locs ls hP hD hS hl)
theorem v_aload (C : Cx p s m args c g nL A cc Ts own) {z : Nat} {x : Nat} (q : Nat) (hdg : decode cc pc = .ok (.aload z, 2)) (hq : lv[q]? = some (z, .ref x)) (hp : pc + 2 = pc') (kk : V p l e R s m args below meth c g nL A k n Q X pl lv pc' (.ref x :: st)) : V p l e R s m args below meth c g nL A k n Q X pl lv pc st := by
  subst hp
  exact fun H locs ls hP hD hS hl => lv_aload C.1.1 C.1.2.1 hdg (lv_at hl q hq) (kk H locs ls hP hD hS hl)
theorem v_istore_n (C : Cx p s m args c g nL A cc Ts own) {z : Fin 4} {x : Int32} (ks : List Nat) (hdg : decode cc pc = .ok (.istore_n z, 1)) (hn : (z : Nat) < nL) (hl9 : lv_pick (((z : Nat), Value.int x) :: lv.filter (fun q => !(q.1 == (z : Nat)) && !(q.1 + 1 == (z : Nat) && q.2.category == 2))) ks = lv') (hp : pc + 1 = pc') (kk : V p l e R s m args below meth c g nL A k n Q X pl lv' pc' st) : V p l e R s m args below meth c g nL A k n Q X pl lv pc (.int x :: st) := by
  subst hp
  exact fun H locs ls hP hD hS hl => lv_istore_n C.1.1 C.1.2.1 hdg rfl hl hn rfl (fun ls' hl' => kk H locs ls' hP hD hS (lv_sub hl' ks hl9))
theorem v_istore (C : Cx p s m args c g nL A cc Ts own) {z : Nat} {x : Int32} (ks : List Nat) (hdg : decode cc pc = .ok (.istore z, 2)) (hn : z < nL) (hl9 : lv_pick ((z, Value.int x) :: lv.filter (fun q => !(q.1 == z) && !(q.1 + 1 == z && q.2.category == 2))) ks = lv') (hp : pc + 2 = pc') (kk : V p l e R s m args below meth c g nL A k n Q X pl lv' pc' st) : V p l e R s m args below meth c g nL A k n Q X pl lv pc (.int x :: st) := by
  subst hp
  exact fun H locs ls hP hD hS hl => lv_istore C.1.1 C.1.2.1 hdg hl hn rfl (fun ls' hl' => kk H locs ls' hP hD hS (lv_sub hl' ks hl9))
theorem v_astore_n (C : Cx p s m args c g nL A cc Ts own) {z : Fin 4} {x : Nat} (ks : List Nat) (hdg : decode cc pc = .ok (.astore_n z, 1)) (hn : (z : Nat) < nL) (hl9 : lv_pick (((z : Nat), Value.ref x) :: lv.filter (fun q => !(q.1 == (z : Nat)) && !(q.1 + 1 == (z : Nat) && q.2.category == 2))) ks = lv') (hp : pc + 1 = pc') (kk : V p l e R s m args below meth c g nL A k n Q X pl lv' pc' st) : V p l e R s m args below meth c g nL A k n Q X pl lv pc (.ref x :: st) := by
  subst hp
  exact fun H locs ls hP hD hS hl => lv_astore_n C.1.1 C.1.2.1 hdg rfl hl hn rfl (fun ls' hl' => kk H locs ls' hP hD hS (lv_sub hl' ks hl9))
theorem v_astore (C : Cx p s m args c g nL A cc Ts own) {z : Nat} {x : Nat} (ks : List Nat) (hdg : decode cc pc = .ok (.astore z, 2)) (hn : z < nL) (hl9 : lv_pick ((z, Value.ref x) :: lv.filter (fun q => !(q.1 == z) && !(q.1 + 1 == z && q.2.category == 2))) ks = lv') (hp : pc + 2 = pc') (kk : V p l e R s m args below meth c g nL A k n Q X pl lv' pc' st) : V p l e R s m args below meth c g nL A k n Q X pl lv pc (.ref x :: st) := by
  subst hp
  exact fun H locs ls hP hD hS hl => lv_astore C.1.1 C.1.2.1 hdg hl hn rfl (fun ls' hl' => kk H locs ls' hP hD hS (lv_sub hl' ks hl9))
theorem v_lstore_n (C : Cx p s m args c g nL A cc Ts own) {z : Fin 4} {x : Int64} (ks : List Nat) (hdg : decode cc pc = .ok (.lstore_n z, 1)) (hn : (z : Nat) + 1 < nL) (hl9 : lv_pick (((z : Nat), Value.long x) :: lv.filter (fun q => !(q.1 == (z : Nat)) && (!(q.1 == (z : Nat) + 1) && !(q.1 + 1 == (z : Nat) && q.2.category == 2)))) ks = lv') (hp : pc + 1 = pc') (kk : V p l e R s m args below meth c g nL A k n Q X pl lv' pc' st) : V p l e R s m args below meth c g nL A k n Q X pl lv pc (.long x :: st) := by
  subst hp
  exact fun H locs ls hP hD hS hl => lv_lstore_n C.1.1 C.1.2.1 hdg rfl hl hn rfl (fun ls' hl' => kk H locs ls' hP hD hS (lv_sub hl' ks hl9))
theorem v_lstore (C : Cx p s m args c g nL A cc Ts own) {z : Nat} {x : Int64} (ks : List Nat) (hdg : decode cc pc = .ok (.lstore z, 2)) (hn : z + 1 < nL) (hl9 : lv_pick ((z, Value.long x) :: lv.filter (fun q => !(q.1 == z) && (!(q.1 == z + 1) && !(q.1 + 1 == z && q.2.category == 2)))) ks = lv') (hp : pc + 2 = pc') (kk : V p l e R s m args below meth c g nL A k n Q X pl lv' pc' st) : V p l e R s m args below meth c g nL A k n Q X pl lv pc (.long x :: st) := by
  subst hp
  exact fun H locs ls hP hD hS hl => lv_lstore C.1.1 C.1.2.1 hdg hl hn rfl (fun ls' hl' => kk H locs ls' hP hD hS (lv_sub hl' ks hl9))
theorem v_iinc (C : Cx p s m args c g nL A cc Ts own) {i : Nat} {z : Int} {x : Int32} (q : Nat) (ks : List Nat) (d : Int32) (hdg : decode cc pc = .ok (.iinc i z, 3)) (hq : lv[q]? = some (i, .int x)) (hd : Int32.ofInt z = d) (hn : i < nL) {kx : Int32 → Option β} (h : lett (x + d) kx = some o) {lw : Int32 → List (Nat × Value)} (hl9 : ∀ v : Int32, lv_pick ((i, Value.int v) :: lv.filter (fun q => !(q.1 == i) && !(q.1 + 1 == i && q.2.category == 2))) ks = lw v) (hp : pc + 3 = pc') (kk : ∀ v : Int32, kx v = some o → V p l e R s m args below meth c g nL A k n Q X pl (lw v) pc' st) : V p l e R s m args below meth c g nL A k n Q X pl lv pc st := by
  subst hp
  subst hd
  exact fun H locs ls hP hD hS hl => lv_iinc (v := x + Int32.ofInt z) C.1.1 C.1.2.1 hdg hl hq rfl hn rfl (fun ls' hl' => kk _ h H locs ls' hP hD hS (lv_sub hl' ks (hl9 _)))
theorem v_iadd (C : Cx p s m args c g nL A cc Ts own) {x y : Int32} (hdg : decode cc pc = .ok (.iadd, 1))  (hp : pc + 1 = pc') (kk : V p l e R s m args below meth c g nL A k n Q X pl lv pc' (.int (x + y) :: st)) : V p l e R s m args below meth c g nL A k n Q X pl lv pc (.int y :: .int x :: st) := by
  subst hp
  exact fun H locs ls hP hD hS hl => lv_iadd C.1.1 C.1.2.1 hdg (kk H locs ls hP hD hS hl)
theorem v_isub (C : Cx p s m args c g nL A cc Ts own) {x y : Int32} (hdg : decode cc pc = .ok (.isub, 1))  (hp : pc + 1 = pc') (kk : V p l e R s m args below meth c g nL A k n Q X pl lv pc' (.int (x - y) :: st)) : V p l e R s m args below meth c g nL A k n Q X pl lv pc (.int y :: .int x :: st) := by
  subst hp
  exact fun H locs ls hP hD hS hl => lv_isub C.1.1 C.1.2.1 hdg (kk H locs ls hP hD hS hl)
theorem v_imul (C : Cx p s m args c g nL A cc Ts own) {x y : Int32} (hdg : decode cc pc = .ok (.imul, 1))  (hp : pc + 1 = pc') (kk : V p l e R s m args below meth c g nL A k n Q X pl lv pc' (.int (x * y) :: st)) : V p l e R s m args below meth c g nL A k n Q X pl lv pc (.int y :: .int x :: st) := by
  subst hp
  exact fun H locs ls hP hD hS hl => lv_imul C.1.1 C.1.2.1 hdg (kk H locs ls hP hD hS hl)
theorem v_iand (C : Cx p s m args c g nL A cc Ts own) {x y : Int32} (hdg : decode cc pc = .ok (.iand, 1))  (hp : pc + 1 = pc') (kk : V p l e R s m args below meth c g nL A k n Q X pl lv pc' (.int (x &&& y) :: st)) : V p l e R s m args below meth c g nL A k n Q X pl lv pc (.int y :: .int x :: st) := by
  subst hp
  exact fun H locs ls hP hD hS hl => lv_iand C.1.1 C.1.2.1 hdg (kk H locs ls hP hD hS hl)
theorem v_ior (C : Cx p s m args c g nL A cc Ts own) {x y : Int32} (hdg : decode cc pc = .ok (.ior, 1))  (hp : pc + 1 = pc') (kk : V p l e R s m args below meth c g nL A k n Q X pl lv pc' (.int (x ||| y) :: st)) : V p l e R s m args below meth c g nL A k n Q X pl lv pc (.int y :: .int x :: st) := by
  subst hp
  exact fun H locs ls hP hD hS hl => lv_ior C.1.1 C.1.2.1 hdg (kk H locs ls hP hD hS hl)
theorem v_ixor (C : Cx p s m args c g nL A cc Ts own) {x y : Int32} (hdg : decode cc pc = .ok (.ixor, 1))  (hp : pc + 1 = pc') (kk : V p l e R s m args below meth c g nL A k n Q X pl lv pc' (.int (x ^^^ y) :: st)) : V p l e R s m args below meth c g nL A k n Q X pl lv pc (.int y :: .int x :: st) := by
  subst hp
  exact fun H locs ls hP hD hS hl => lv_ixor C.1.1 C.1.2.1 hdg (kk H locs ls hP hD hS hl)
theorem v_ishl (C : Cx p s m args c g nL A cc Ts own) {x y : Int32} (hdg : decode cc pc = .ok (.ishl, 1))  (hp : pc + 1 = pc') (kk : V p l e R s m args below meth c g nL A k n Q X pl lv pc' (.int (x <<< (y &&& 31)) :: st)) : V p l e R s m args below meth c g nL A k n Q X pl lv pc (.int y :: .int x :: st) := by
  subst hp
  exact fun H locs ls hP hD hS hl => lv_ishl C.1.1 C.1.2.1 hdg (kk H locs ls hP hD hS hl)
theorem v_ishr (C : Cx p s m args c g nL A cc Ts own) {x y : Int32} (hdg : decode cc pc = .ok (.ishr, 1))  (hp : pc + 1 = pc') (kk : V p l e R s m args below meth c g nL A k n Q X pl lv pc' (.int (x >>> (y &&& 31)) :: st)) : V p l e R s m args below meth c g nL A k n Q X pl lv pc (.int y :: .int x :: st) := by
  subst hp
  exact fun H locs ls hP hD hS hl => lv_ishr C.1.1 C.1.2.1 hdg (kk H locs ls hP hD hS hl)
theorem v_iushr (C : Cx p s m args c g nL A cc Ts own) {x y : Int32} (hdg : decode cc pc = .ok (.iushr, 1))  (hp : pc + 1 = pc') (kk : V p l e R s m args below meth c g nL A k n Q X pl lv pc' (.int ((x.toUInt32 >>> (y.toUInt32 &&& Int32.toUInt32 31)).toInt32) :: st)) : V p l e R s m args below meth c g nL A k n Q X pl lv pc (.int y :: .int x :: st) := by
  subst hp
  exact fun H locs ls hP hD hS hl => lv_iushr C.1.1 C.1.2.1 hdg rfl (kk H locs ls hP hD hS hl)
theorem v_ladd (C : Cx p s m args c g nL A cc Ts own) {x y : Int64} (hdg : decode cc pc = .ok (.ladd, 1))  (hp : pc + 1 = pc') (kk : V p l e R s m args below meth c g nL A k n Q X pl lv pc' (.long (x + y) :: st)) : V p l e R s m args below meth c g nL A k n Q X pl lv pc (.long y :: .long x :: st) := by
  subst hp
  exact fun H locs ls hP hD hS hl => lv_ladd C.1.1 C.1.2.1 hdg (kk H locs ls hP hD hS hl)
theorem v_lmul (C : Cx p s m args c g nL A cc Ts own) {x y : Int64} (hdg : decode cc pc = .ok (.lmul, 1))  (hp : pc + 1 = pc') (kk : V p l e R s m args below meth c g nL A k n Q X pl lv pc' (.long (x * y) :: st)) : V p l e R s m args below meth c g nL A k n Q X pl lv pc (.long y :: .long x :: st) := by
  subst hp
  exact fun H locs ls hP hD hS hl => lv_lmul C.1.1 C.1.2.1 hdg (kk H locs ls hP hD hS hl)
theorem v_lor (C : Cx p s m args c g nL A cc Ts own) {x y : Int64} (hdg : decode cc pc = .ok (.lor, 1))  (hp : pc + 1 = pc') (kk : V p l e R s m args below meth c g nL A k n Q X pl lv pc' (.long (x ||| y) :: st)) : V p l e R s m args below meth c g nL A k n Q X pl lv pc (.long y :: .long x :: st) := by
  subst hp
  exact fun H locs ls hP hD hS hl => lv_lor C.1.1 C.1.2.1 hdg (kk H locs ls hP hD hS hl)
theorem v_lshl (C : Cx p s m args c g nL A cc Ts own) {x : Int64} {y : Int32} (hdg : decode cc pc = .ok (.lshl, 1))  (hp : pc + 1 = pc') (kk : V p l e R s m args below meth c g nL A k n Q X pl lv pc' (.long (x <<< (y.toInt64 &&& 63)) :: st)) : V p l e R s m args below meth c g nL A k n Q X pl lv pc (.int y :: .long x :: st) := by
  subst hp
  exact fun H locs ls hP hD hS hl => lv_lshl C.1.1 C.1.2.1 hdg rfl (kk H locs ls hP hD hS hl)
theorem v_lshr (C : Cx p s m args c g nL A cc Ts own) {x : Int64} {y : Int32} (hdg : decode cc pc = .ok (.lshr, 1))  (hp : pc + 1 = pc') (kk : V p l e R s m args below meth c g nL A k n Q X pl lv pc' (.long (x >>> (y.toInt64 &&& 63)) :: st)) : V p l e R s m args below meth c g nL A k n Q X pl lv pc (.int y :: .long x :: st) := by
  subst hp
  exact fun H locs ls hP hD hS hl => lv_lshr C.1.1 C.1.2.1 hdg rfl (kk H locs ls hP hD hS hl)
theorem v_i2l (C : Cx p s m args c g nL A cc Ts own) {x : Int32} (hdg : decode cc pc = .ok (.i2l, 1))  (hp : pc + 1 = pc') (kk : V p l e R s m args below meth c g nL A k n Q X pl lv pc' (.long x.toInt64 :: st)) : V p l e R s m args below meth c g nL A k n Q X pl lv pc (.int x :: st) := by
  subst hp
  exact fun H locs ls hP hD hS hl => lv_i2l C.1.1 C.1.2.1 hdg rfl (kk H locs ls hP hD hS hl)
theorem v_l2i (C : Cx p s m args c g nL A cc Ts own) {x : Int64} (hdg : decode cc pc = .ok (.l2i, 1))  (hp : pc + 1 = pc') (kk : V p l e R s m args below meth c g nL A k n Q X pl lv pc' (.int x.toInt32 :: st)) : V p l e R s m args below meth c g nL A k n Q X pl lv pc (.long x :: st) := by
  subst hp
  exact fun H locs ls hP hD hS hl => lv_l2i C.1.1 C.1.2.1 hdg rfl (kk H locs ls hP hD hS hl)
theorem v_i2c (C : Cx p s m args c g nL A cc Ts own) {x : Int32} (hdg : decode cc pc = .ok (.i2c, 1))  (hp : pc + 1 = pc') (kk : V p l e R s m args below meth c g nL A k n Q X pl lv pc' (.int (x.toUInt32 % 65536).toInt32 :: st)) : V p l e R s m args below meth c g nL A k n Q X pl lv pc (.int x :: st) := by
  subst hp
  exact fun H locs ls hP hD hS hl => lv_i2c C.1.1 C.1.2.1 hdg rfl (kk H locs ls hP hD hS hl)
theorem v_dup (C : Cx p s m args c g nL A cc Ts own) {x : Value} (hdg : decode cc pc = .ok (.dup, 1)) (hc : x.category = 1) (hp : pc + 1 = pc') (kk : V p l e R s m args below meth c g nL A k n Q X pl lv pc' (x :: x :: st)) : V p l e R s m args below meth c g nL A k n Q X pl lv pc (x :: st) := by
  subst hp
  exact fun H locs ls hP hD hS hl => lv_dup C.1.1 C.1.2.1 hdg hc (kk H locs ls hP hD hS hl)
theorem v_pop (C : Cx p s m args c g nL A cc Ts own) {x : Value} (hdg : decode cc pc = .ok (.pop, 1)) (hc : x.category = 1) (hp : pc + 1 = pc') (kk : V p l e R s m args below meth c g nL A k n Q X pl lv pc' st) : V p l e R s m args below meth c g nL A k n Q X pl lv pc (x :: st) := by
  subst hp
  exact fun H locs ls hP hD hS hl => lv_pop C.1.1 C.1.2.1 hdg hc (kk H locs ls hP hD hS hl)
theorem v_dup2 (C : Cx p s m args c g nL A cc Ts own) {x y : Value} (hdg : decode cc pc = .ok (.dup2, 1)) (hc : x.category = 1) (hd : y.category = 1) (hp : pc + 1 = pc') (kk : V p l e R s m args below meth c g nL A k n Q X pl lv pc' (x :: y :: x :: y :: st)) : V p l e R s m args below meth c g nL A k n Q X pl lv pc (x :: y :: st) := by
  subst hp
  exact fun H locs ls hP hD hS hl => lv_dup2_11 C.1.1 C.1.2.1 hdg hc hd (kk H locs ls hP hD hS hl)
theorem v_null (C : Cx p s m args c g nL A cc Ts own)  (hdg : decode cc pc = .ok (.aconst_null, 1))  (hp : pc + 1 = pc') (kk : V p l e R s m args below meth c g nL A k n Q X pl lv pc' (.null :: st)) : V p l e R s m args below meth c g nL A k n Q X pl lv pc st := by
  subst hp
  exact fun H locs ls hP hD hS hl => lv_null C.1.1 C.1.2.1 hdg (kk H locs ls hP hD hS hl)
theorem v_ldc (C : Cx p s m args c g nL A cc Ts own) {ix : Nat} (v : Int32) (hdg : decode cc pc = .ok (.ldc ix, 2)) (hw : Cond.constant own ix v ∈ Ts) (hp : pc + 2 = pc') (kk : V p l e R s m args below meth c g nL A k n Q X pl lv pc' (.int v :: st)) : V p l e R s m args below meth c g nL A k n Q X pl lv pc st := by
  subst hp
  exact fun H locs ls hP hD hS hl => lv_ldc C.1.1 C.1.2.1 C.1.2.2.2.1 (C.1.2.2.2.2 _ hw) hdg (kk H locs ls hP hD hS hl)
theorem v_ldcw (C : Cx p s m args c g nL A cc Ts own) {ix : Nat} (v : Int32) (hdg : decode cc pc = .ok (.ldc_w ix, 3)) (hw : Cond.constant own ix v ∈ Ts) (hp : pc + 3 = pc') (kk : V p l e R s m args below meth c g nL A k n Q X pl lv pc' (.int v :: st)) : V p l e R s m args below meth c g nL A k n Q X pl lv pc st := by
  subst hp
  exact fun H locs ls hP hD hS hl => lv_ldcw C.1.1 C.1.2.1 C.1.2.2.2.1 (C.1.2.2.2.2 _ hw) hdg (kk H locs ls hP hD hS hl)
theorem v_ldc2 (C : Cx p s m args c g nL A cc Ts own) {ix : Nat} (v : Int64) (hdg : decode cc pc = .ok (.ldc2_w ix, 3)) (hw : Cond.constantLong own ix v ∈ Ts) (hp : pc + 3 = pc') (kk : V p l e R s m args below meth c g nL A k n Q X pl lv pc' (.long v :: st)) : V p l e R s m args below meth c g nL A k n Q X pl lv pc st := by
  subst hp
  exact fun H locs ls hP hD hS hl => lv_ldc2 C.1.1 C.1.2.1 C.1.2.2.2.1 (C.1.2.2.2.2 _ hw) hdg (kk H locs ls hP hD hS hl)
theorem v_goto (C : Cx p s m args c g nL A cc Ts own) {off : Int} (hdg : decode cc pc = .ok (.goto off, 3)) (ht : (pc : Int) + off = (pc' : Int)) (kk : V p l e R s m args below meth c g nL A k n Q X pl lv pc' st) : V p l e R s m args below meth c g nL A k n Q X pl lv pc st := fun H locs ls hP hD hS hl => lv_goto C.1.1 C.1.2.1 hdg ht (kk H locs ls hP hD hS hl)
theorem v_if_eq (C : Cx p s m args c g nL A cc Ts own) {x : Int32} {off : Int} (tgt pc' : Nat) {ft fb : Option β} (h : (if x = 0 then ft else fb) = some o) (hdg : decode cc pc = .ok (.ifCond .eq off, 3)) (ht : (pc : Int) + off = (tgt : Int)) (hp : pc + 3 = pc') (kt : (x = 0) → ft = some o → V p l e R s m args below meth c g nL A k n Q X pl lv tgt st) (kf : ¬ (x = 0) → fb = some o → V p l e R s m args below meth c g nL A k n Q X pl lv pc' st) : V p l e R s m args below meth c g nL A k n Q X pl lv pc (.int x :: st) := by
  subst hp
  exact fun H locs ls hP hD hS hl => lv_if_eq C.1.1 C.1.2.1 hdg ht (fun q => kt (q) (by first | rw [if_pos (q)] at h; exact h | rw [if_neg (q)] at h; exact h) H locs ls hP hD hS hl) (fun q => kf (q) (by first | rw [if_pos (q)] at h; exact h | rw [if_neg (q)] at h; exact h) H locs ls hP hD hS hl)
theorem v_if_ne (C : Cx p s m args c g nL A cc Ts own) {x : Int32} {off : Int} (tgt pc' : Nat) {ft fb : Option β} (h : (if x = 0 then ft else fb) = some o) (hdg : decode cc pc = .ok (.ifCond .ne off, 3)) (ht : (pc : Int) + off = (tgt : Int)) (hp : pc + 3 = pc') (kt : ¬ (x = 0) → fb = some o → V p l e R s m args below meth c g nL A k n Q X pl lv tgt st) (kf : (x = 0) → ft = some o → V p l e R s m args below meth c g nL A k n Q X pl lv pc' st) : V p l e R s m args below meth c g nL A k n Q X pl lv pc (.int x :: st) := by
  subst hp
  exact fun H locs ls hP hD hS hl => lv_if_ne C.1.1 C.1.2.1 hdg ht (fun q => kt (q) (by first | rw [if_pos (q)] at h; exact h | rw [if_neg (q)] at h; exact h) H locs ls hP hD hS hl) (fun q => kf (q) (by first | rw [if_pos (q)] at h; exact h | rw [if_neg (q)] at h; exact h) H locs ls hP hD hS hl)
theorem v_if_lt (C : Cx p s m args c g nL A cc Ts own) {x : Int32} {off : Int} (tgt pc' : Nat) {ft fb : Option β} (h : (if x < 0 then ft else fb) = some o) (hdg : decode cc pc = .ok (.ifCond .lt off, 3)) (ht : (pc : Int) + off = (tgt : Int)) (hp : pc + 3 = pc') (kt : (x < 0) → ft = some o → V p l e R s m args below meth c g nL A k n Q X pl lv tgt st) (kf : ¬ (x < 0) → fb = some o → V p l e R s m args below meth c g nL A k n Q X pl lv pc' st) : V p l e R s m args below meth c g nL A k n Q X pl lv pc (.int x :: st) := by
  subst hp
  exact fun H locs ls hP hD hS hl => lv_if_lt C.1.1 C.1.2.1 hdg ht (fun q => kt (q) (by first | rw [if_pos (q)] at h; exact h | rw [if_neg (q)] at h; exact h) H locs ls hP hD hS hl) (fun q => kf (q) (by first | rw [if_pos (q)] at h; exact h | rw [if_neg (q)] at h; exact h) H locs ls hP hD hS hl)
theorem v_if_ge (C : Cx p s m args c g nL A cc Ts own) {x : Int32} {off : Int} (tgt pc' : Nat) {ft fb : Option β} (h : (if x < 0 then ft else fb) = some o) (hdg : decode cc pc = .ok (.ifCond .ge off, 3)) (ht : (pc : Int) + off = (tgt : Int)) (hp : pc + 3 = pc') (kt : ¬ (x < 0) → fb = some o → V p l e R s m args below meth c g nL A k n Q X pl lv tgt st) (kf : (x < 0) → ft = some o → V p l e R s m args below meth c g nL A k n Q X pl lv pc' st) : V p l e R s m args below meth c g nL A k n Q X pl lv pc (.int x :: st) := by
  subst hp
  exact fun H locs ls hP hD hS hl => lv_if_ge C.1.1 C.1.2.1 hdg ht (fun q => kt (Int32.not_lt.mpr q) (by first | rw [if_pos (Int32.not_lt.mpr q)] at h; exact h | rw [if_neg (Int32.not_lt.mpr q)] at h; exact h) H locs ls hP hD hS hl) (fun q => kf (Int32.not_le.mp q) (by first | rw [if_pos (Int32.not_le.mp q)] at h; exact h | rw [if_neg (Int32.not_le.mp q)] at h; exact h) H locs ls hP hD hS hl)
theorem v_if_gt (C : Cx p s m args c g nL A cc Ts own) {x : Int32} {off : Int} (tgt pc' : Nat) {ft fb : Option β} (h : (if 0 < x then ft else fb) = some o) (hdg : decode cc pc = .ok (.ifCond .gt off, 3)) (ht : (pc : Int) + off = (tgt : Int)) (hp : pc + 3 = pc') (kt : (0 < x) → ft = some o → V p l e R s m args below meth c g nL A k n Q X pl lv tgt st) (kf : ¬ (0 < x) → fb = some o → V p l e R s m args below meth c g nL A k n Q X pl lv pc' st) : V p l e R s m args below meth c g nL A k n Q X pl lv pc (.int x :: st) := by
  subst hp
  exact fun H locs ls hP hD hS hl => lv_if_gt C.1.1 C.1.2.1 hdg ht (fun q => kt (q) (by first | rw [if_pos (q)] at h; exact h | rw [if_neg (q)] at h; exact h) H locs ls hP hD hS hl) (fun q => kf (q) (by first | rw [if_pos (q)] at h; exact h | rw [if_neg (q)] at h; exact h) H locs ls hP hD hS hl)
theorem v_if_le (C : Cx p s m args c g nL A cc Ts own) {x : Int32} {off : Int} (tgt pc' : Nat) {ft fb : Option β} (h : (if 0 < x then ft else fb) = some o) (hdg : decode cc pc = .ok (.ifCond .le off, 3)) (ht : (pc : Int) + off = (tgt : Int)) (hp : pc + 3 = pc') (kt : ¬ (0 < x) → fb = some o → V p l e R s m args below meth c g nL A k n Q X pl lv tgt st) (kf : (0 < x) → ft = some o → V p l e R s m args below meth c g nL A k n Q X pl lv pc' st) : V p l e R s m args below meth c g nL A k n Q X pl lv pc (.int x :: st) := by
  subst hp
  exact fun H locs ls hP hD hS hl => lv_if_le C.1.1 C.1.2.1 hdg ht (fun q => kt (Int32.not_lt.mpr q) (by first | rw [if_pos (Int32.not_lt.mpr q)] at h; exact h | rw [if_neg (Int32.not_lt.mpr q)] at h; exact h) H locs ls hP hD hS hl) (fun q => kf (Int32.not_le.mp q) (by first | rw [if_pos (Int32.not_le.mp q)] at h; exact h | rw [if_neg (Int32.not_le.mp q)] at h; exact h) H locs ls hP hD hS hl)
theorem v_icmp_eq (C : Cx p s m args c g nL A cc Ts own) {x y : Int32} {off : Int} (tgt pc' : Nat) {ft fb : Option β} (h : (if x = y then ft else fb) = some o) (hdg : decode cc pc = .ok (.if_icmp .eq off, 3)) (ht : (pc : Int) + off = (tgt : Int)) (hp : pc + 3 = pc') (kt : (x = y) → ft = some o → V p l e R s m args below meth c g nL A k n Q X pl lv tgt st) (kf : ¬ (x = y) → fb = some o → V p l e R s m args below meth c g nL A k n Q X pl lv pc' st) : V p l e R s m args below meth c g nL A k n Q X pl lv pc (.int y :: .int x :: st) := by
  subst hp
  exact fun H locs ls hP hD hS hl => lv_icmp_eq C.1.1 C.1.2.1 hdg ht (fun q => kt (q) (by first | rw [if_pos (q)] at h; exact h | rw [if_neg (q)] at h; exact h) H locs ls hP hD hS hl) (fun q => kf (q) (by first | rw [if_pos (q)] at h; exact h | rw [if_neg (q)] at h; exact h) H locs ls hP hD hS hl)
theorem v_icmp_ne (C : Cx p s m args c g nL A cc Ts own) {x y : Int32} {off : Int} (tgt pc' : Nat) {ft fb : Option β} (h : (if x = y then ft else fb) = some o) (hdg : decode cc pc = .ok (.if_icmp .ne off, 3)) (ht : (pc : Int) + off = (tgt : Int)) (hp : pc + 3 = pc') (kt : ¬ (x = y) → fb = some o → V p l e R s m args below meth c g nL A k n Q X pl lv tgt st) (kf : (x = y) → ft = some o → V p l e R s m args below meth c g nL A k n Q X pl lv pc' st) : V p l e R s m args below meth c g nL A k n Q X pl lv pc (.int y :: .int x :: st) := by
  subst hp
  exact fun H locs ls hP hD hS hl => lv_icmp_ne C.1.1 C.1.2.1 hdg ht (fun q => kt (q) (by first | rw [if_pos (q)] at h; exact h | rw [if_neg (q)] at h; exact h) H locs ls hP hD hS hl) (fun q => kf (q) (by first | rw [if_pos (q)] at h; exact h | rw [if_neg (q)] at h; exact h) H locs ls hP hD hS hl)
theorem v_icmp_lt (C : Cx p s m args c g nL A cc Ts own) {x y : Int32} {off : Int} (tgt pc' : Nat) {ft fb : Option β} (h : (if x < y then ft else fb) = some o) (hdg : decode cc pc = .ok (.if_icmp .lt off, 3)) (ht : (pc : Int) + off = (tgt : Int)) (hp : pc + 3 = pc') (kt : (x < y) → ft = some o → V p l e R s m args below meth c g nL A k n Q X pl lv tgt st) (kf : ¬ (x < y) → fb = some o → V p l e R s m args below meth c g nL A k n Q X pl lv pc' st) : V p l e R s m args below meth c g nL A k n Q X pl lv pc (.int y :: .int x :: st) := by
  subst hp
  exact fun H locs ls hP hD hS hl => lv_icmp_lt C.1.1 C.1.2.1 hdg ht (fun q => kt (q) (by first | rw [if_pos (q)] at h; exact h | rw [if_neg (q)] at h; exact h) H locs ls hP hD hS hl) (fun q => kf (q) (by first | rw [if_pos (q)] at h; exact h | rw [if_neg (q)] at h; exact h) H locs ls hP hD hS hl)
theorem v_icmp_ge (C : Cx p s m args c g nL A cc Ts own) {x y : Int32} {off : Int} (tgt pc' : Nat) {ft fb : Option β} (h : (if x < y then ft else fb) = some o) (hdg : decode cc pc = .ok (.if_icmp .ge off, 3)) (ht : (pc : Int) + off = (tgt : Int)) (hp : pc + 3 = pc') (kt : ¬ (x < y) → fb = some o → V p l e R s m args below meth c g nL A k n Q X pl lv tgt st) (kf : (x < y) → ft = some o → V p l e R s m args below meth c g nL A k n Q X pl lv pc' st) : V p l e R s m args below meth c g nL A k n Q X pl lv pc (.int y :: .int x :: st) := by
  subst hp
  exact fun H locs ls hP hD hS hl => lv_icmp_ge C.1.1 C.1.2.1 hdg ht (fun q => kt (Int32.not_lt.mpr q) (by first | rw [if_pos (Int32.not_lt.mpr q)] at h; exact h | rw [if_neg (Int32.not_lt.mpr q)] at h; exact h) H locs ls hP hD hS hl) (fun q => kf (Int32.not_le.mp q) (by first | rw [if_pos (Int32.not_le.mp q)] at h; exact h | rw [if_neg (Int32.not_le.mp q)] at h; exact h) H locs ls hP hD hS hl)
theorem v_icmp_gt (C : Cx p s m args c g nL A cc Ts own) {x y : Int32} {off : Int} (tgt pc' : Nat) {ft fb : Option β} (h : (if y < x then ft else fb) = some o) (hdg : decode cc pc = .ok (.if_icmp .gt off, 3)) (ht : (pc : Int) + off = (tgt : Int)) (hp : pc + 3 = pc') (kt : (y < x) → ft = some o → V p l e R s m args below meth c g nL A k n Q X pl lv tgt st) (kf : ¬ (y < x) → fb = some o → V p l e R s m args below meth c g nL A k n Q X pl lv pc' st) : V p l e R s m args below meth c g nL A k n Q X pl lv pc (.int y :: .int x :: st) := by
  subst hp
  exact fun H locs ls hP hD hS hl => lv_icmp_gt C.1.1 C.1.2.1 hdg ht (fun q => kt (q) (by first | rw [if_pos (q)] at h; exact h | rw [if_neg (q)] at h; exact h) H locs ls hP hD hS hl) (fun q => kf (q) (by first | rw [if_pos (q)] at h; exact h | rw [if_neg (q)] at h; exact h) H locs ls hP hD hS hl)
theorem v_icmp_le (C : Cx p s m args c g nL A cc Ts own) {x y : Int32} {off : Int} (tgt pc' : Nat) {ft fb : Option β} (h : (if y < x then ft else fb) = some o) (hdg : decode cc pc = .ok (.if_icmp .le off, 3)) (ht : (pc : Int) + off = (tgt : Int)) (hp : pc + 3 = pc') (kt : ¬ (y < x) → fb = some o → V p l e R s m args below meth c g nL A k n Q X pl lv tgt st) (kf : (y < x) → ft = some o → V p l e R s m args below meth c g nL A k n Q X pl lv pc' st) : V p l e R s m args below meth c g nL A k n Q X pl lv pc (.int y :: .int x :: st) := by
  subst hp
  exact fun H locs ls hP hD hS hl => lv_icmp_le C.1.1 C.1.2.1 hdg ht (fun q => kt (Int32.not_lt.mpr q) (by first | rw [if_pos (Int32.not_lt.mpr q)] at h; exact h | rw [if_neg (Int32.not_lt.mpr q)] at h; exact h) H locs ls hP hD hS hl) (fun q => kf (Int32.not_le.mp q) (by first | rw [if_pos (Int32.not_le.mp q)] at h; exact h | rw [if_neg (Int32.not_le.mp q)] at h; exact h) H locs ls hP hD hS hl)
theorem lgc_0 (x y : Int64) : lg_cmp x y = 0 ↔ x = y := by
  unfold lg_cmp
  by_cases h1 : y < x
  · simp only [h1, if_true]
    exact ⟨fun h => absurd h (by decide), fun h => by subst h; exact absurd h1 Int64.lt_irrefl⟩
  · by_cases h2 : x = y <;> simp [h1, h2]
theorem lgc_gt (x y : Int64) : 0 < lg_cmp x y ↔ y < x := by
  unfold lg_cmp
  by_cases h1 : y < x
  · simp only [h1, if_true]; exact ⟨fun _ => trivial, fun _ => by decide⟩
  · by_cases h2 : x = y <;> simp [h1, h2] <;> decide
theorem v_lcmp_ne (C : Cx p s m args c g nL A cc Ts own) {x y : Int64} {off : Int} (tgt pc' : Nat) {ft fb : Option β} (h : (if x = y then ft else fb) = some o) (hd1 : decode cc pc = .ok (.lcmp, 1)) {pc1 : Nat} (hdg : decode cc pc1 = .ok (.ifCond .ne off, 3)) (h1 : pc + 1 = pc1) (ht : (pc1 : Int) + off = (tgt : Int)) (hp : pc1 + 3 = pc') (kt : ¬ (x = y) → fb = some o → V p l e R s m args below meth c g nL A k n Q X pl lv tgt st) (kf : (x = y) → ft = some o → V p l e R s m args below meth c g nL A k n Q X pl lv pc' st) : V p l e R s m args below meth c g nL A k n Q X pl lv pc (.long y :: .long x :: st) := by
  subst hp
  subst h1
  refine fun H locs ls hP hD hS hl => W.lcmp C.1.1 C.1.2.1 hd1 (lv_if_ne C.1.1 C.1.2.1 hdg ht (fun q => ?_) (fun q => ?_))
  · have q' := (mt (lgc_0 x y).mpr (by first | exact q | exact Int32.not_lt.mpr q))
    exact kt q' (by first | rw [if_pos q'] at h; exact h | rw [if_neg q'] at h; exact h) H locs ls hP hD hS hl
  · have q' := ((lgc_0 x y).mp (by first | exact q | exact Int32.not_le.mp q))
    exact kf q' (by first | rw [if_pos q'] at h; exact h | rw [if_neg q'] at h; exact h) H locs ls hP hD hS hl
theorem v_lcmp_eq (C : Cx p s m args c g nL A cc Ts own) {x y : Int64} {off : Int} (tgt pc' : Nat) {ft fb : Option β} (h : (if x = y then ft else fb) = some o) (hd1 : decode cc pc = .ok (.lcmp, 1)) {pc1 : Nat} (hdg : decode cc pc1 = .ok (.ifCond .eq off, 3)) (h1 : pc + 1 = pc1) (ht : (pc1 : Int) + off = (tgt : Int)) (hp : pc1 + 3 = pc') (kt : (x = y) → ft = some o → V p l e R s m args below meth c g nL A k n Q X pl lv tgt st) (kf : ¬ (x = y) → fb = some o → V p l e R s m args below meth c g nL A k n Q X pl lv pc' st) : V p l e R s m args below meth c g nL A k n Q X pl lv pc (.long y :: .long x :: st) := by
  subst hp
  subst h1
  refine fun H locs ls hP hD hS hl => W.lcmp C.1.1 C.1.2.1 hd1 (lv_if_eq C.1.1 C.1.2.1 hdg ht (fun q => ?_) (fun q => ?_))
  · have q' := ((lgc_0 x y).mp q)
    exact kt q' (by first | rw [if_pos q'] at h; exact h | rw [if_neg q'] at h; exact h) H locs ls hP hD hS hl
  · have q' := (mt (lgc_0 x y).mpr q)
    exact kf q' (by first | rw [if_pos q'] at h; exact h | rw [if_neg q'] at h; exact h) H locs ls hP hD hS hl
theorem v_lcmp_le (C : Cx p s m args c g nL A cc Ts own) {x y : Int64} {off : Int} (tgt pc' : Nat) {ft fb : Option β} (h : (if y < x then ft else fb) = some o) (hd1 : decode cc pc = .ok (.lcmp, 1)) {pc1 : Nat} (hdg : decode cc pc1 = .ok (.ifCond .le off, 3)) (h1 : pc + 1 = pc1) (ht : (pc1 : Int) + off = (tgt : Int)) (hp : pc1 + 3 = pc') (kt : ¬ (y < x) → fb = some o → V p l e R s m args below meth c g nL A k n Q X pl lv tgt st) (kf : (y < x) → ft = some o → V p l e R s m args below meth c g nL A k n Q X pl lv pc' st) : V p l e R s m args below meth c g nL A k n Q X pl lv pc (.long y :: .long x :: st) := by
  subst hp
  subst h1
  refine fun H locs ls hP hD hS hl => W.lcmp C.1.1 C.1.2.1 hd1 (lv_if_le C.1.1 C.1.2.1 hdg ht (fun q => ?_) (fun q => ?_))
  · have q' := (mt (lgc_gt x y).mpr (by first | exact q | exact Int32.not_lt.mpr q))
    exact kt q' (by first | rw [if_pos q'] at h; exact h | rw [if_neg q'] at h; exact h) H locs ls hP hD hS hl
  · have q' := ((lgc_gt x y).mp (by first | exact q | exact Int32.not_le.mp q))
    exact kf q' (by first | rw [if_pos q'] at h; exact h | rw [if_neg q'] at h; exact h) H locs ls hP hD hS hl
theorem v_leti {x : Int32} {kx : Int32 → Option β} (h : lett x kx = some o) (kk : ∀ y : Int32, kx y = some o → V p l e R s m args below meth c g nL A k n Q X pl lv pc (.int y :: st)) : V p l e R s m args below meth c g nL A k n Q X pl lv pc (.int x :: st) := kk x h
theorem v_letl {x : Int64} {kx : Int64 → Option β} (h : lett x kx = some o) (kk : ∀ y : Int64, kx y = some o → V p l e R s m args below meth c g nL A k n Q X pl lv pc (.long y :: st)) : V p l e R s m args below meth c g nL A k n Q X pl lv pc (.long x :: st) := kk x h
theorem v_idiv (C : Cx p s m args c g nL A cc Ts own) {x y : Int32} {kx : Int32 → Option β} (h : divI x y kx = some o) (hdg : decode cc pc = .ok (.idiv, 1)) (hp : pc + 1 = pc') (kk : ∀ v : Int32, kx v = some o → V p l e R s m args below meth c g nL A k n Q X pl lv pc' (.int v :: st)) : V p l e R s m args below meth c g nL A k n Q X pl lv pc (.int y :: .int x :: st) := by
  subst hp
  unfold divI at h
  by_cases h0 : y = 0
  · rw [if_pos h0] at h; cases h
  · rw [if_neg h0] at h
    exact fun H locs ls hP hD hS hl => lv_idiv C.1.1 C.1.2.1 hdg h0 (kk _ h H locs ls hP hD hS hl)
theorem v_get (C : Cx p s m args c g nL A cc Ts own) {ref Cn : String} {T : u_T} {N ci index : Nat} {fs : List Value} {a : Nat} {x : Value} (q0 i : Nat) (hin : ∀ w ∈ u_ws Cn T N, w ∈ Ts) (he : X[q0]? = some (a, .inr (ci, fs))) (hc : vwCl[ci]? = some (Cn, T, N)) (hi : i < N) (hlink : Cond.fieldLink own index ref (T i).2.1 (T i).2.2.1 ∈ Ts) (href : (T i).1 = ref) (hv : fs[i]? = some x) (hdg : decode cc pc = .ok (.getfield index, 3)) (hp : pc + 3 = pc') (kk : V p l e R s m args below meth c g nL A k n Q X pl lv pc' (x :: st)) : V p l e R s m args below meth c g nL A k n Q X pl lv pc (.ref a :: st) := by
  subst hp
  exact fun H locs ls hP hD hS hl => va_get (D := g.1) (v := x) C.1.1 C.1.2.1 C.1.2.2.2.2 hin C.1.2.2.2.1 C.2.1 hP q0 (v_get_app he) hc i hi (C.1.2.2.2.2 _ hlink) (fun z hz => by rw [← href]; exact hz) hv hdg (kk H locs ls hP hD hS hl)
theorem v_getN (C : Cx p s m args c g nL A cc Ts own) {ref Cn host : String} {T : u_T} {N ci index : Nat} {fs : List Value} {a : Nat} {x : Value} (q0 i : Nat) (hin : ∀ w ∈ u_ws Cn T N, w ∈ Ts) (he : X[q0]? = some (a, .inr (ci, fs))) (hc : vwCl[ci]? = some (Cn, T, N)) (hi : i < N) (hlink : (own, index, ref, (T i).2.1, (T i).2.2.1, host) ∈ nwF) (href : (T i).1 = ref) (hv : fs[i]? = some x) (hdg : decode cc pc = .ok (.getfield index, 3)) (hp : pc + 3 = pc') (kk : V p l e R s m args below meth c g nL A k n Q X pl lv pc' (x :: st)) : V p l e R s m args below meth c g nL A k n Q X pl lv pc (.ref a :: st) := by
  subst hp
  exact fun H locs ls hP hD hS hl => va_getN (D := g.1) (v := x) C.1.1 C.1.2.1 C.1.2.2.2.2 hin C.1.2.2.2.1 C.2.1 hP q0 (v_get_app he) hc i hi (va_Nw.use rfl (C.2.2.2.1 _ hlink)) (fun z hz => by rw [← href]; exact hz) hv hdg (kk H locs ls hP hD hS hl)
theorem v_puti (C : Cx p s m args c g nL A cc Ts own) {ref Cn : String} {T : u_T} {N ci index : Nat} {fs : List Value} {a : Nat} {x : Int32} {σ : Type} {y0 : σ} {kx : σ → Option β} (h : lett y0 kx = some o) (q0 i : Nat) (Xf : σ → va_W) (hin : ∀ w ∈ u_ws Cn T N, w ∈ Ts) (ty0 : Nat → FieldType) (hty : ∀ k, k < N → parseFieldDescriptor (T k).2.2.1 = some (ty0 k)) (hnm : ∀ a, a < N → ∀ b, b < N → a ≠ b → (T a).2.1 ≠ (T b).2.1) (he : X[q0]? = some (a, .inr (ci, fs))) (hc : vwCl[ci]? = some (Cn, T, N)) (hi : i < N) (hlink : Cond.fieldLink own index ref (T i).2.1 (T i).2.2.1 ∈ Ts) (href : (T i).1 = ref) (hfin : (T i).2.2.2 = false) (hd : parseFieldDescriptor (T i).2.2.1 = some .int) (hlen : i < fs.length) (hX : X.set q0 (a, .inr (ci, fs.set i (.int x))) = Xf y0) (hdg : decode cc pc = .ok (.putfield index, 3)) (hp : pc + 3 = pc') (kk : ∀ y : σ, kx y = some o → V p l e R s m args below meth c g nL A k n Q (Xf y) pl lv pc' st) : V p l e R s m args below meth c g nL A k n Q X pl lv pc (.int x :: .ref a :: st) := by
  subst hp
  refine fun H locs ls hP hD hS hl => va_put (D := g.1) C.1.1 C.1.2.1 C.1.2.2.2.2 hin ty0 hty hnm C.1.2.2.2.1 C.2.1 hP hD hS q0 (v_get_app he) hc i hi (C.1.2.2.2.2 _ hlink) (fun z hz => by rw [← href]; exact hz) hfin hd rfl rfl hlen hdg (fun H1 locs1 hP1 hD1 hS1 => ?_)
  rw [v_set_app he, hX] at hP1 hD1
  exact kk y0 h H1 locs1 ls hP1 hD1 hS1 hl
theorem v_putie (C : Cx p s m args c g nL A cc Ts own) {ref Cn : String} {T : u_T} {N ci index : Nat} {fs : List Value} {a : Nat} {x : Int32} {σ : Type} {y0 : σ} {kx : σ → Option β} (h : lett y0 kx = some o) (q0 i : Nat) (Xf : σ → va_W) (hin : ∀ w ∈ u_ws Cn T N, w ∈ Ts) (ty0 : Nat → FieldType) (hty : ∀ k, k < N → parseFieldDescriptor (T k).2.2.1 = some (ty0 k)) (hnm : ∀ a, a < N → ∀ b, b < N → a ≠ b → (T a).2.1 ≠ (T b).2.1) (he : X[q0]? = some (a, .inr (ci, fs))) (hc : vwCl[ci]? = some (Cn, T, N)) (hi : i < N) (hlink : Cond.fieldLink own index ref (T i).2.1 (T i).2.2.1 ∈ Ts) (href : (T i).1 = ref) (hfin : (T i).2.2.2 = false) (hd : parseFieldDescriptor (T i).2.2.1 = some .int) (hlen : i < fs.length) (hX : X.set q0 (a, .inr (ci, fs.set i (.int x))) = Xf y0) (hdg : decode cc pc = .ok (.putfield index, 3)) (hp : pc + 3 = pc') (kk : ∀ y : σ, y = y0 → kx y = some o → V p l e R s m args below meth c g nL A k n Q (Xf y) pl lv pc' st) : V p l e R s m args below meth c g nL A k n Q X pl lv pc (.int x :: .ref a :: st) := by
  subst hp
  refine fun H locs ls hP hD hS hl => va_put (D := g.1) C.1.1 C.1.2.1 C.1.2.2.2.2 hin ty0 hty hnm C.1.2.2.2.1 C.2.1 hP hD hS q0 (v_get_app he) hc i hi (C.1.2.2.2.2 _ hlink) (fun z hz => by rw [← href]; exact hz) hfin hd rfl rfl hlen hdg (fun H1 locs1 hP1 hD1 hS1 => ?_)
  rw [v_set_app he, hX] at hP1 hD1
  exact kk y0 rfl h H1 locs1 ls hP1 hD1 hS1 hl
theorem v_putiN (C : Cx p s m args c g nL A cc Ts own) {ref Cn host : String} {T : u_T} {N ci index : Nat} {fs : List Value} {a : Nat} {x : Int32} {σ : Type} {y0 : σ} {kx : σ → Option β} (h : lett y0 kx = some o) (q0 i : Nat) (Xf : σ → va_W) (hin : ∀ w ∈ u_ws Cn T N, w ∈ Ts) (ty0 : Nat → FieldType) (hty : ∀ k, k < N → parseFieldDescriptor (T k).2.2.1 = some (ty0 k)) (hnm : ∀ a, a < N → ∀ b, b < N → a ≠ b → (T a).2.1 ≠ (T b).2.1) (he : X[q0]? = some (a, .inr (ci, fs))) (hc : vwCl[ci]? = some (Cn, T, N)) (hi : i < N) (hlink : (own, index, ref, (T i).2.1, (T i).2.2.1, host) ∈ nwF) (href : (T i).1 = ref) (hfin : (T i).2.2.2 = false) (hd : parseFieldDescriptor (T i).2.2.1 = some .int) (hlen : i < fs.length) (hX : X.set q0 (a, .inr (ci, fs.set i (.int x))) = Xf y0) (hdg : decode cc pc = .ok (.putfield index, 3)) (hp : pc + 3 = pc') (kk : ∀ y : σ, kx y = some o → V p l e R s m args below meth c g nL A k n Q (Xf y) pl lv pc' st) : V p l e R s m args below meth c g nL A k n Q X pl lv pc (.int x :: .ref a :: st) := by
  subst hp
  refine fun H locs ls hP hD hS hl => va_putN (D := g.1) C.1.1 C.1.2.1 C.1.2.2.2.2 hin ty0 hty hnm C.1.2.2.2.1 C.2.1 hP hD hS q0 (v_get_app he) hc i hi (va_Nw.use rfl (C.2.2.2.1 _ hlink)) (fun z hz => by rw [← href]; exact hz) hfin hd rfl rfl hlen hdg (fun H1 locs1 hP1 hD1 hS1 => ?_)
  rw [v_set_app he, hX] at hP1 hD1
  exact kk y0 h H1 locs1 ls hP1 hD1 hS1 hl
theorem v_putl (C : Cx p s m args c g nL A cc Ts own) {ref Cn : String} {T : u_T} {N ci index : Nat} {fs : List Value} {a : Nat} {x : Int64} {σ : Type} {y0 : σ} {kx : σ → Option β} (h : lett y0 kx = some o) (q0 i : Nat) (Xf : σ → va_W) (hin : ∀ w ∈ u_ws Cn T N, w ∈ Ts) (ty0 : Nat → FieldType) (hty : ∀ k, k < N → parseFieldDescriptor (T k).2.2.1 = some (ty0 k)) (hnm : ∀ a, a < N → ∀ b, b < N → a ≠ b → (T a).2.1 ≠ (T b).2.1) (he : X[q0]? = some (a, .inr (ci, fs))) (hc : vwCl[ci]? = some (Cn, T, N)) (hi : i < N) (hlink : Cond.fieldLink own index ref (T i).2.1 (T i).2.2.1 ∈ Ts) (href : (T i).1 = ref) (hfin : (T i).2.2.2 = false) (hd : parseFieldDescriptor (T i).2.2.1 = some .long) (hlen : i < fs.length) (hX : X.set q0 (a, .inr (ci, fs.set i (.long x))) = Xf y0) (hdg : decode cc pc = .ok (.putfield index, 3)) (hp : pc + 3 = pc') (kk : ∀ y : σ, kx y = some o → V p l e R s m args below meth c g nL A k n Q (Xf y) pl lv pc' st) : V p l e R s m args below meth c g nL A k n Q X pl lv pc (.long x :: .ref a :: st) := by
  subst hp
  refine fun H locs ls hP hD hS hl => va_put (D := g.1) C.1.1 C.1.2.1 C.1.2.2.2.2 hin ty0 hty hnm C.1.2.2.2.1 C.2.1 hP hD hS q0 (v_get_app he) hc i hi (C.1.2.2.2.2 _ hlink) (fun z hz => by rw [← href]; exact hz) hfin hd rfl rfl hlen hdg (fun H1 locs1 hP1 hD1 hS1 => ?_)
  rw [v_set_app he, hX] at hP1 hD1
  exact kk y0 h H1 locs1 ls hP1 hD1 hS1 hl
theorem v_putF (C : Cx p s m args c g nL A cc Ts own) {ref Cn : String} {T : u_T} {N ci index : Nat} {fs : List Value} {a : Nat} {x : Value} {ty : FieldType} (q0 i : Nat) (hin : ∀ w ∈ u_ws Cn T N, w ∈ Ts) (ty0 : Nat → FieldType) (hty : ∀ k, k < N → parseFieldDescriptor (T k).2.2.1 = some (ty0 k)) (hnm : ∀ a, a < N → ∀ b, b < N → a ≠ b → (T a).2.1 ≠ (T b).2.1) (he : X[q0]? = some (a, .inr (ci, fs))) (hc : vwCl[ci]? = some (Cn, T, N)) (hi : i < N) (hlink : Cond.fieldLink own index ref (T i).2.1 (T i).2.2.1 ∈ Ts) (href : (T i).1 = ref) (hfin : (T i).2.2.2 = true) (hini : meth.name = "<init>") (hdecl : (T i).1 = own) (hd : parseFieldDescriptor (T i).2.2.1 = some ty) (hnw : narrow ty x = x) (hfit : fits ty x = true) (hlen : i < fs.length) (hX : X.set q0 (a, .inr (ci, fs.set i x)) = X') (hdg : decode cc pc = .ok (.putfield index, 3)) (hp : pc + 3 = pc') (kk : V p l e R s m args below meth c g nL A k n Q X' pl lv pc' st) : V p l e R s m args below meth c g nL A k n Q X pl lv pc (x :: .ref a :: st) := by
  subst hp
  refine fun H locs ls hP hD hS hl => va_putF (D := g.1) C.1.1 C.1.2.1 C.1.2.2.2.2 hin ty0 hty hnm C.1.2.2.2.1 C.2.1 hP hD hS q0 (v_get_app he) hc i hi (C.1.2.2.2.2 _ hlink) (fun z hz => by rw [← href]; exact hz) hfin hini hdecl hd hnw hfit hlen hdg (fun H1 locs1 hP1 hD1 hS1 => ?_)
  rw [v_set_app he, hX] at hP1 hD1
  exact kk H1 locs1 ls hP1 hD1 hS1 hl
theorem v_iald (C : Cx p s m args c g nL A cc Ts own) {N a : Nat} {f : Nat → Int32} {i : Int32} {kx : Int32 → Option β} (h : getA f N i kx = some o) (q0 : Nat) (he : X[q0]? = some (a, .inl (g.2.2.1, N, .inl f))) (hdg : decode cc pc = .ok (.iaload, 1)) (hp : pc + 1 = pc') (kk : ∀ v : Int32, kx v = some o → V p l e R s m args below meth c g nL A k n Q X pl lv pc' (.int v :: st)) : V p l e R s m args below meth c g nL A k n Q X pl lv pc (.int i :: .ref a :: st) := by
  subst hp
  unfold getA at h
  by_cases hb9 : inB i N = true
  · rw [if_pos hb9] at h
    exact fun H locs ls hP hD hS hl => va_iald (D := g.1) C.1.1 C.1.2.1 C.2.1 hP q0 1 (v_get_app he) rfl (inB_in hb9) hdg (kk _ h H locs ls hP hD hS hl)
  · rw [if_neg hb9] at h; cases h
theorem v_cald (C : Cx p s m args c g nL A cc Ts own) {N a : Nat} {f : Nat → Int32} {i : Int32} {kx : Int32 → Option β} (h : getA f N i kx = some o) (q0 : Nat) (he : X[q0]? = some (a, .inl (g.2.1, N, .inl f))) (hdg : decode cc pc = .ok (.caload, 1)) (hp : pc + 1 = pc') (kk : ∀ v : Int32, kx v = some o → V p l e R s m args below meth c g nL A k n Q X pl lv pc' (.int v :: st)) : V p l e R s m args below meth c g nL A k n Q X pl lv pc (.int i :: .ref a :: st) := by
  subst hp
  unfold getA at h
  by_cases hb9 : inB i N = true
  · rw [if_pos hb9] at h
    exact fun H locs ls hP hD hS hl => va_cald (D := g.1) C.1.1 C.1.2.1 C.2.1 hP q0 0 (v_get_app he) rfl (inB_in hb9) hdg (kk _ h H locs ls hP hD hS hl)
  · rw [if_neg hb9] at h; cases h
theorem v_lald (C : Cx p s m args c g nL A cc Ts own) {N a : Nat} {f : Nat → Int64} {i : Int32} {kx : Int64 → Option β} (h : getA f N i kx = some o) (q0 : Nat) (he : X[q0]? = some (a, .inl (g.2.2.2.1, N, .inr (.inl f)))) (hdg : decode cc pc = .ok (.laload, 1)) (hp : pc + 1 = pc') (kk : ∀ v : Int64, kx v = some o → V p l e R s m args below meth c g nL A k n Q X pl lv pc' (.long v :: st)) : V p l e R s m args below meth c g nL A k n Q X pl lv pc (.int i :: .ref a :: st) := by
  subst hp
  unfold getA at h
  by_cases hb9 : inB i N = true
  · rw [if_pos hb9] at h
    exact fun H locs ls hP hD hS hl => va_lald (D := g.1) C.1.1 C.1.2.1 C.2.1 hP q0 2 (v_get_app he) rfl (inB_in hb9) hdg (kk _ h H locs ls hP hD hS hl)
  · rw [if_neg hb9] at h; cases h
theorem v_iast (C : Cx p s m args c g nL A cc Ts own) {N a : Nat} {f : Nat → Int32} {i : Int32} {x : Int32} {σ : Type} {y0 : σ} {kx : σ → Option β} (h : chkA N i (lett y0 kx) = some o) (q0 : Nat) (Xf : σ → va_W) (he : X[q0]? = some (a, .inl (g.2.2.1, N, .inl f))) (hX : X.set q0 (a, .inl (g.2.2.1, N, .inl (upd f i.toNatClampNeg x))) = Xf y0) (hdg : decode cc pc = .ok (.iastore, 1)) (hp : pc + 1 = pc') (kk : ∀ y : σ, kx y = some o → V p l e R s m args below meth c g nL A k n Q (Xf y) pl lv pc' st) : V p l e R s m args below meth c g nL A k n Q X pl lv pc (.int x :: .int i :: .ref a :: st) := by
  subst hp
  unfold chkA at h
  by_cases hb9 : inB i N = true
  · rw [if_pos hb9] at h
    refine fun H locs ls hP hD hS hl => va_iast (D := g.1) C.1.1 C.1.2.1 C.2.1 hP hD hS q0 1 (v_get_app he) rfl (inB_in hb9) hdg (fun H1 locs1 hP1 hD1 hS1 => ?_)
    rw [v_set_app he, hX] at hP1 hD1
    exact kk y0 h H1 locs1 ls hP1 hD1 hS1 hl
  · rw [if_neg hb9] at h; cases h
theorem v_cast (C : Cx p s m args c g nL A cc Ts own) {N a : Nat} {f : Nat → Int32} {i : Int32} {x : Int32} {σ : Type} {y0 : σ} {kx : σ → Option β} (h : chkA N i (lett y0 kx) = some o) (q0 : Nat) (Xf : σ → va_W) (he : X[q0]? = some (a, .inl (g.2.1, N, .inl f))) (hX : X.set q0 (a, .inl (g.2.1, N, .inl (upd f i.toNatClampNeg (vp_nar .char x)))) = Xf y0) (hdg : decode cc pc = .ok (.castore, 1)) (hp : pc + 1 = pc') (kk : ∀ y : σ, kx y = some o → V p l e R s m args below meth c g nL A k n Q (Xf y) pl lv pc' st) : V p l e R s m args below meth c g nL A k n Q X pl lv pc (.int x :: .int i :: .ref a :: st) := by
  subst hp
  unfold chkA at h
  by_cases hb9 : inB i N = true
  · rw [if_pos hb9] at h
    refine fun H locs ls hP hD hS hl => va_cast (D := g.1) C.1.1 C.1.2.1 C.2.1 hP hD hS q0 0 (v_get_app he) rfl (inB_in hb9) hdg (fun H1 locs1 hP1 hD1 hS1 => ?_)
    rw [v_set_app he, hX] at hP1 hD1
    exact kk y0 h H1 locs1 ls hP1 hD1 hS1 hl
  · rw [if_neg hb9] at h; cases h
theorem v_last (C : Cx p s m args c g nL A cc Ts own) {N a : Nat} {f : Nat → Int64} {i : Int32} {x : Int64} {σ : Type} {y0 : σ} {kx : σ → Option β} (h : chkA N i (lett y0 kx) = some o) (q0 : Nat) (Xf : σ → va_W) (he : X[q0]? = some (a, .inl (g.2.2.2.1, N, .inr (.inl f)))) (hX : X.set q0 (a, .inl (g.2.2.2.1, N, .inr (.inl (vp_updL f i.toNatClampNeg x)))) = Xf y0) (hdg : decode cc pc = .ok (.lastore, 1)) (hp : pc + 1 = pc') (kk : ∀ y : σ, kx y = some o → V p l e R s m args below meth c g nL A k n Q (Xf y) pl lv pc' st) : V p l e R s m args below meth c g nL A k n Q X pl lv pc (.long x :: .int i :: .ref a :: st) := by
  subst hp
  unfold chkA at h
  by_cases hb9 : inB i N = true
  · rw [if_pos hb9] at h
    refine fun H locs ls hP hD hS hl => va_last (D := g.1) C.1.1 C.1.2.1 C.2.1 hP hD hS q0 2 (v_get_app he) rfl (inB_in hb9) hdg (fun H1 locs1 hP1 hD1 hS1 => ?_)
    rw [v_set_app he, hX] at hP1 hD1
    exact kk y0 h H1 locs1 ls hP1 hD1 hS1 hl
  · rw [if_neg hb9] at h; cases h
theorem v_loop1 {α1 γ : Type} {step : (α1 → Option γ) → α1 → Option γ} {N : Nat} {z : γ} (P : α1 → Prop) (hs : ∀ rec : α1 → Option γ, (∀ (a1 : α1), rec a1 = some z → P a1) → ∀ (a1 : α1), step rec a1 = some z → P a1) : ∀ (a1 : α1), loop1 step N a1 = some z → P a1 := by
  induction N with
  | zero => intro a1 h; cases h
  | succ N ih => intro a1 h; exact hs _ ih a1 h
theorem v_loop2 {α1 α2 γ : Type} {step : (α1 → α2 → Option γ) → α1 → α2 → Option γ} {N : Nat} {z : γ} (P : α1 → α2 → Prop) (hs : ∀ rec : α1 → α2 → Option γ, (∀ (a1 : α1) (a2 : α2), rec a1 a2 = some z → P a1 a2) → ∀ (a1 : α1) (a2 : α2), step rec a1 a2 = some z → P a1 a2) : ∀ (a1 : α1) (a2 : α2), loop2 step N a1 a2 = some z → P a1 a2 := by
  induction N with
  | zero => intro a1 a2 h; cases h
  | succ N ih => intro a1 a2 h; exact hs _ ih a1 a2 h
theorem v_loop3 {α1 α2 α3 γ : Type} {step : (α1 → α2 → α3 → Option γ) → α1 → α2 → α3 → Option γ} {N : Nat} {z : γ} (P : α1 → α2 → α3 → Prop) (hs : ∀ rec : α1 → α2 → α3 → Option γ, (∀ (a1 : α1) (a2 : α2) (a3 : α3), rec a1 a2 a3 = some z → P a1 a2 a3) → ∀ (a1 : α1) (a2 : α2) (a3 : α3), step rec a1 a2 a3 = some z → P a1 a2 a3) : ∀ (a1 : α1) (a2 : α2) (a3 : α3), loop3 step N a1 a2 a3 = some z → P a1 a2 a3 := by
  induction N with
  | zero => intro a1 a2 a3 h; cases h
  | succ N ih => intro a1 a2 a3 h; exact hs _ ih a1 a2 a3 h
theorem v_loop4 {α1 α2 α3 α4 γ : Type} {step : (α1 → α2 → α3 → α4 → Option γ) → α1 → α2 → α3 → α4 → Option γ} {N : Nat} {z : γ} (P : α1 → α2 → α3 → α4 → Prop) (hs : ∀ rec : α1 → α2 → α3 → α4 → Option γ, (∀ (a1 : α1) (a2 : α2) (a3 : α3) (a4 : α4), rec a1 a2 a3 a4 = some z → P a1 a2 a3 a4) → ∀ (a1 : α1) (a2 : α2) (a3 : α3) (a4 : α4), step rec a1 a2 a3 a4 = some z → P a1 a2 a3 a4) : ∀ (a1 : α1) (a2 : α2) (a3 : α3) (a4 : α4), loop4 step N a1 a2 a3 a4 = some z → P a1 a2 a3 a4 := by
  induction N with
  | zero => intro a1 a2 a3 a4 h; cases h
  | succ N ih => intro a1 a2 a3 a4 h; exact hs _ ih a1 a2 a3 a4 h
theorem v_loop5 {α1 α2 α3 α4 α5 γ : Type} {step : (α1 → α2 → α3 → α4 → α5 → Option γ) → α1 → α2 → α3 → α4 → α5 → Option γ} {N : Nat} {z : γ} (P : α1 → α2 → α3 → α4 → α5 → Prop) (hs : ∀ rec : α1 → α2 → α3 → α4 → α5 → Option γ, (∀ (a1 : α1) (a2 : α2) (a3 : α3) (a4 : α4) (a5 : α5), rec a1 a2 a3 a4 a5 = some z → P a1 a2 a3 a4 a5) → ∀ (a1 : α1) (a2 : α2) (a3 : α3) (a4 : α4) (a5 : α5), step rec a1 a2 a3 a4 a5 = some z → P a1 a2 a3 a4 a5) : ∀ (a1 : α1) (a2 : α2) (a3 : α3) (a4 : α4) (a5 : α5), loop5 step N a1 a2 a3 a4 a5 = some z → P a1 a2 a3 a4 a5 := by
  induction N with
  | zero => intro a1 a2 a3 a4 a5 h; cases h
  | succ N ih => intro a1 a2 a3 a4 a5 h; exact hs _ ih a1 a2 a3 a4 a5 h
theorem v_loop6 {α1 α2 α3 α4 α5 α6 γ : Type} {step : (α1 → α2 → α3 → α4 → α5 → α6 → Option γ) → α1 → α2 → α3 → α4 → α5 → α6 → Option γ} {N : Nat} {z : γ} (P : α1 → α2 → α3 → α4 → α5 → α6 → Prop) (hs : ∀ rec : α1 → α2 → α3 → α4 → α5 → α6 → Option γ, (∀ (a1 : α1) (a2 : α2) (a3 : α3) (a4 : α4) (a5 : α5) (a6 : α6), rec a1 a2 a3 a4 a5 a6 = some z → P a1 a2 a3 a4 a5 a6) → ∀ (a1 : α1) (a2 : α2) (a3 : α3) (a4 : α4) (a5 : α5) (a6 : α6), step rec a1 a2 a3 a4 a5 a6 = some z → P a1 a2 a3 a4 a5 a6) : ∀ (a1 : α1) (a2 : α2) (a3 : α3) (a4 : α4) (a5 : α5) (a6 : α6), loop6 step N a1 a2 a3 a4 a5 a6 = some z → P a1 a2 a3 a4 a5 a6 := by
  induction N with
  | zero => intro a1 a2 a3 a4 a5 a6 h; cases h
  | succ N ih => intro a1 a2 a3 a4 a5 a6 h; exact hs _ ih a1 a2 a3 a4 a5 a6 h
theorem v_loop7 {α1 α2 α3 α4 α5 α6 α7 γ : Type} {step : (α1 → α2 → α3 → α4 → α5 → α6 → α7 → Option γ) → α1 → α2 → α3 → α4 → α5 → α6 → α7 → Option γ} {N : Nat} {z : γ} (P : α1 → α2 → α3 → α4 → α5 → α6 → α7 → Prop) (hs : ∀ rec : α1 → α2 → α3 → α4 → α5 → α6 → α7 → Option γ, (∀ (a1 : α1) (a2 : α2) (a3 : α3) (a4 : α4) (a5 : α5) (a6 : α6) (a7 : α7), rec a1 a2 a3 a4 a5 a6 a7 = some z → P a1 a2 a3 a4 a5 a6 a7) → ∀ (a1 : α1) (a2 : α2) (a3 : α3) (a4 : α4) (a5 : α5) (a6 : α6) (a7 : α7), step rec a1 a2 a3 a4 a5 a6 a7 = some z → P a1 a2 a3 a4 a5 a6 a7) : ∀ (a1 : α1) (a2 : α2) (a3 : α3) (a4 : α4) (a5 : α5) (a6 : α6) (a7 : α7), loop7 step N a1 a2 a3 a4 a5 a6 a7 = some z → P a1 a2 a3 a4 a5 a6 a7 := by
  induction N with
  | zero => intro a1 a2 a3 a4 a5 a6 a7 h; cases h
  | succ N ih => intro a1 a2 a3 a4 a5 a6 a7 h; exact hs _ ih a1 a2 a3 a4 a5 a6 a7 h
theorem v_loop8 {α1 α2 α3 α4 α5 α6 α7 α8 γ : Type} {step : (α1 → α2 → α3 → α4 → α5 → α6 → α7 → α8 → Option γ) → α1 → α2 → α3 → α4 → α5 → α6 → α7 → α8 → Option γ} {N : Nat} {z : γ} (P : α1 → α2 → α3 → α4 → α5 → α6 → α7 → α8 → Prop) (hs : ∀ rec : α1 → α2 → α3 → α4 → α5 → α6 → α7 → α8 → Option γ, (∀ (a1 : α1) (a2 : α2) (a3 : α3) (a4 : α4) (a5 : α5) (a6 : α6) (a7 : α7) (a8 : α8), rec a1 a2 a3 a4 a5 a6 a7 a8 = some z → P a1 a2 a3 a4 a5 a6 a7 a8) → ∀ (a1 : α1) (a2 : α2) (a3 : α3) (a4 : α4) (a5 : α5) (a6 : α6) (a7 : α7) (a8 : α8), step rec a1 a2 a3 a4 a5 a6 a7 a8 = some z → P a1 a2 a3 a4 a5 a6 a7 a8) : ∀ (a1 : α1) (a2 : α2) (a3 : α3) (a4 : α4) (a5 : α5) (a6 : α6) (a7 : α7) (a8 : α8), loop8 step N a1 a2 a3 a4 a5 a6 a7 a8 = some z → P a1 a2 a3 a4 a5 a6 a7 a8 := by
  induction N with
  | zero => intro a1 a2 a3 a4 a5 a6 a7 a8 h; cases h
  | succ N ih => intro a1 a2 a3 a4 a5 a6 a7 a8 h; exact hs _ ih a1 a2 a3 a4 a5 a6 a7 a8 h
theorem v_loop9 {α1 α2 α3 α4 α5 α6 α7 α8 α9 γ : Type} {step : (α1 → α2 → α3 → α4 → α5 → α6 → α7 → α8 → α9 → Option γ) → α1 → α2 → α3 → α4 → α5 → α6 → α7 → α8 → α9 → Option γ} {N : Nat} {z : γ} (P : α1 → α2 → α3 → α4 → α5 → α6 → α7 → α8 → α9 → Prop) (hs : ∀ rec : α1 → α2 → α3 → α4 → α5 → α6 → α7 → α8 → α9 → Option γ, (∀ (a1 : α1) (a2 : α2) (a3 : α3) (a4 : α4) (a5 : α5) (a6 : α6) (a7 : α7) (a8 : α8) (a9 : α9), rec a1 a2 a3 a4 a5 a6 a7 a8 a9 = some z → P a1 a2 a3 a4 a5 a6 a7 a8 a9) → ∀ (a1 : α1) (a2 : α2) (a3 : α3) (a4 : α4) (a5 : α5) (a6 : α6) (a7 : α7) (a8 : α8) (a9 : α9), step rec a1 a2 a3 a4 a5 a6 a7 a8 a9 = some z → P a1 a2 a3 a4 a5 a6 a7 a8 a9) : ∀ (a1 : α1) (a2 : α2) (a3 : α3) (a4 : α4) (a5 : α5) (a6 : α6) (a7 : α7) (a8 : α8) (a9 : α9), loop9 step N a1 a2 a3 a4 a5 a6 a7 a8 a9 = some z → P a1 a2 a3 a4 a5 a6 a7 a8 a9 := by
  induction N with
  | zero => intro a1 a2 a3 a4 a5 a6 a7 a8 a9 h; cases h
  | succ N ih => intro a1 a2 a3 a4 a5 a6 a7 a8 a9 h; exact hs _ ih a1 a2 a3 a4 a5 a6 a7 a8 a9 h
theorem v_loop10 {α1 α2 α3 α4 α5 α6 α7 α8 α9 α10 γ : Type} {step : (α1 → α2 → α3 → α4 → α5 → α6 → α7 → α8 → α9 → α10 → Option γ) → α1 → α2 → α3 → α4 → α5 → α6 → α7 → α8 → α9 → α10 → Option γ} {N : Nat} {z : γ} (P : α1 → α2 → α3 → α4 → α5 → α6 → α7 → α8 → α9 → α10 → Prop) (hs : ∀ rec : α1 → α2 → α3 → α4 → α5 → α6 → α7 → α8 → α9 → α10 → Option γ, (∀ (a1 : α1) (a2 : α2) (a3 : α3) (a4 : α4) (a5 : α5) (a6 : α6) (a7 : α7) (a8 : α8) (a9 : α9) (a10 : α10), rec a1 a2 a3 a4 a5 a6 a7 a8 a9 a10 = some z → P a1 a2 a3 a4 a5 a6 a7 a8 a9 a10) → ∀ (a1 : α1) (a2 : α2) (a3 : α3) (a4 : α4) (a5 : α5) (a6 : α6) (a7 : α7) (a8 : α8) (a9 : α9) (a10 : α10), step rec a1 a2 a3 a4 a5 a6 a7 a8 a9 a10 = some z → P a1 a2 a3 a4 a5 a6 a7 a8 a9 a10) : ∀ (a1 : α1) (a2 : α2) (a3 : α3) (a4 : α4) (a5 : α5) (a6 : α6) (a7 : α7) (a8 : α8) (a9 : α9) (a10 : α10), loop10 step N a1 a2 a3 a4 a5 a6 a7 a8 a9 a10 = some z → P a1 a2 a3 a4 a5 a6 a7 a8 a9 a10 := by
  induction N with
  | zero => intro a1 a2 a3 a4 a5 a6 a7 a8 a9 a10 h; cases h
  | succ N ih => intro a1 a2 a3 a4 a5 a6 a7 a8 a9 a10 h; exact hs _ ih a1 a2 a3 a4 a5 a6 a7 a8 a9 a10 h
theorem v_loop11 {α1 α2 α3 α4 α5 α6 α7 α8 α9 α10 α11 γ : Type} {step : (α1 → α2 → α3 → α4 → α5 → α6 → α7 → α8 → α9 → α10 → α11 → Option γ) → α1 → α2 → α3 → α4 → α5 → α6 → α7 → α8 → α9 → α10 → α11 → Option γ} {N : Nat} {z : γ} (P : α1 → α2 → α3 → α4 → α5 → α6 → α7 → α8 → α9 → α10 → α11 → Prop) (hs : ∀ rec : α1 → α2 → α3 → α4 → α5 → α6 → α7 → α8 → α9 → α10 → α11 → Option γ, (∀ (a1 : α1) (a2 : α2) (a3 : α3) (a4 : α4) (a5 : α5) (a6 : α6) (a7 : α7) (a8 : α8) (a9 : α9) (a10 : α10) (a11 : α11), rec a1 a2 a3 a4 a5 a6 a7 a8 a9 a10 a11 = some z → P a1 a2 a3 a4 a5 a6 a7 a8 a9 a10 a11) → ∀ (a1 : α1) (a2 : α2) (a3 : α3) (a4 : α4) (a5 : α5) (a6 : α6) (a7 : α7) (a8 : α8) (a9 : α9) (a10 : α10) (a11 : α11), step rec a1 a2 a3 a4 a5 a6 a7 a8 a9 a10 a11 = some z → P a1 a2 a3 a4 a5 a6 a7 a8 a9 a10 a11) : ∀ (a1 : α1) (a2 : α2) (a3 : α3) (a4 : α4) (a5 : α5) (a6 : α6) (a7 : α7) (a8 : α8) (a9 : α9) (a10 : α10) (a11 : α11), loop11 step N a1 a2 a3 a4 a5 a6 a7 a8 a9 a10 a11 = some z → P a1 a2 a3 a4 a5 a6 a7 a8 a9 a10 a11 := by
  induction N with
  | zero => intro a1 a2 a3 a4 a5 a6 a7 a8 a9 a10 a11 h; cases h
  | succ N ih => intro a1 a2 a3 a4 a5 a6 a7 a8 a9 a10 a11 h; exact hs _ ih a1 a2 a3 a4 a5 a6 a7 a8 a9 a10 a11 h
theorem v_loop12 {α1 α2 α3 α4 α5 α6 α7 α8 α9 α10 α11 α12 γ : Type} {step : (α1 → α2 → α3 → α4 → α5 → α6 → α7 → α8 → α9 → α10 → α11 → α12 → Option γ) → α1 → α2 → α3 → α4 → α5 → α6 → α7 → α8 → α9 → α10 → α11 → α12 → Option γ} {N : Nat} {z : γ} (P : α1 → α2 → α3 → α4 → α5 → α6 → α7 → α8 → α9 → α10 → α11 → α12 → Prop) (hs : ∀ rec : α1 → α2 → α3 → α4 → α5 → α6 → α7 → α8 → α9 → α10 → α11 → α12 → Option γ, (∀ (a1 : α1) (a2 : α2) (a3 : α3) (a4 : α4) (a5 : α5) (a6 : α6) (a7 : α7) (a8 : α8) (a9 : α9) (a10 : α10) (a11 : α11) (a12 : α12), rec a1 a2 a3 a4 a5 a6 a7 a8 a9 a10 a11 a12 = some z → P a1 a2 a3 a4 a5 a6 a7 a8 a9 a10 a11 a12) → ∀ (a1 : α1) (a2 : α2) (a3 : α3) (a4 : α4) (a5 : α5) (a6 : α6) (a7 : α7) (a8 : α8) (a9 : α9) (a10 : α10) (a11 : α11) (a12 : α12), step rec a1 a2 a3 a4 a5 a6 a7 a8 a9 a10 a11 a12 = some z → P a1 a2 a3 a4 a5 a6 a7 a8 a9 a10 a11 a12) : ∀ (a1 : α1) (a2 : α2) (a3 : α3) (a4 : α4) (a5 : α5) (a6 : α6) (a7 : α7) (a8 : α8) (a9 : α9) (a10 : α10) (a11 : α11) (a12 : α12), loop12 step N a1 a2 a3 a4 a5 a6 a7 a8 a9 a10 a11 a12 = some z → P a1 a2 a3 a4 a5 a6 a7 a8 a9 a10 a11 a12 := by
  induction N with
  | zero => intro a1 a2 a3 a4 a5 a6 a7 a8 a9 a10 a11 a12 h; cases h
  | succ N ih => intro a1 a2 a3 a4 a5 a6 a7 a8 a9 a10 a11 a12 h; exact hs _ ih a1 a2 a3 a4 a5 a6 a7 a8 a9 a10 a11 a12 h
def chkB {β : Type} (v : Int32) (k : Option β) : Option β := if v = 0 ∨ v = 1 then k else none
theorem nar_b {v : Int32} (h : v = 0 ∨ v = 1) : narrow .boolean (.int v) = .int v := by rcases h with rfl | rfl <;> rfl
theorem v_chkB {v : Int32} {kx : Option β} (h : chkB v kx = some o) (kk : (v = 0 ∨ v = 1) → kx = some o → V p l e R s m args below meth c g nL A k n Q X pl lv pc (.int v :: st)) : V p l e R s m args below meth c g nL A k n Q X pl lv pc (.int v :: st) := by
  unfold chkB at h
  by_cases hb9 : v = 0 ∨ v = 1
  · rw [if_pos hb9] at h; exact kk hb9 h
  · rw [if_neg hb9] at h; cases h
theorem v_iret (C : Cx p s m args c g nL A cc Ts own) (Cr : meth.sig.returnType = some .int ∧ meth.locks = false) {S : Type} {rf : β → Int32} {v : Int32} {out : β} {Wf : β → S → va_W} {ok : β → S → Prop} (h : some out = some o) (hQ : MQ below (Qi g (rf o) (Wf o) (ok o) A) args s k n A = Q) (u : S) (hok : ok out u) (hv : v = rf out) (hw : X ++ pl = Wf out u)  (hdg : decode cc pc = .ok (.ireturn, 1)) : V p l e R s m args below meth c g nL A k n Q X pl lv pc ([.int v]) := by
  cases h
  subst hQ
  exact fun H locs ls hP hD hS hl => W.iret (v := v) C.1.1 C.1.2.1 Cr.1  (fun t ht hW => ⟨⟨v, u, rfl, ⟨hv, hok⟩, by rw [ht, ← hw]; exact hP, by rw [← hw]; exact hD⟩, hS.F ht⟩) hS.2.2 hdg Cr.2
theorem v_zret (C : Cx p s m args c g nL A cc Ts own) (Cr : meth.sig.returnType = some .boolean ∧ meth.locks = false) {S : Type} {rf : β → Int32} {v : Int32} {out : β} {Wf : β → S → va_W} {ok : β → S → Prop} (h : some out = some o) (hQ : MQ below (Qi g (rf o) (Wf o) (ok o) A) args s k n A = Q) (u : S) (hok : ok out u) (hv : v = rf out) (hw : X ++ pl = Wf out u) (h01 : v = 0 ∨ v = 1) (hdg : decode cc pc = .ok (.ireturn, 1)) : V p l e R s m args below meth c g nL A k n Q X pl lv pc ([.int v]) := by
  cases h
  subst hQ
  exact fun H locs ls hP hD hS hl => W.zret (v := v) C.1.1 C.1.2.1 Cr.1 (nar_b h01) (fun t ht hW => ⟨⟨v, u, rfl, ⟨hv, hok⟩, by rw [ht, ← hw]; exact hP, by rw [← hw]; exact hD⟩, hS.F ht⟩) hS.2.2 hdg Cr.2
theorem v_lret (C : Cx p s m args c g nL A cc Ts own) (Cr : meth.sig.returnType = some .long ∧ meth.locks = false) {S : Type} {rf : β → Int64} {v : Int64} {out : β} {Wf : β → S → va_W} {ok : β → S → Prop} (h : some out = some o) (hQ : MQ below (Ql g (rf o) (Wf o) (ok o) A) args s k n A = Q) (u : S) (hok : ok out u) (hv : v = rf out) (hw : X ++ pl = Wf out u)  (hdg : decode cc pc = .ok (.lreturn, 1)) : V p l e R s m args below meth c g nL A k n Q X pl lv pc ([.long v]) := by
  cases h
  subst hQ
  exact fun H locs ls hP hD hS hl => W.lret (v := v) C.1.1 C.1.2.1 Cr.1  (fun t ht hW => ⟨⟨v, u, rfl, ⟨hv, hok⟩, by rw [ht, ← hw]; exact hP, by rw [← hw]; exact hD⟩, hS.F ht⟩) hS.2.2 hdg Cr.2
theorem v_vret (C : Cx p s m args c g nL A cc Ts own) (Cr : meth.sig.returnType = none ∧ meth.locks = false) {S : Type} {out : β} {Wf : β → S → va_W} {ok : β → S → Prop} (h : some out = some o) (hQ : MQ below (Qv g (Wf o) (ok o) A) args s k n A = Q) (u : S) (hok : ok out u) (hw : X ++ pl = Wf out u)  (hdg : decode cc pc = .ok (.return_, 1)) : V p l e R s m args below meth c g nL A k n Q X pl lv pc ([]) := by
  cases h
  subst hQ
  exact fun H locs ls hP hD hS hl => W.vret C.1.1 C.1.2.1 Cr.1  (fun t ht hW => ⟨⟨u, rfl, hok, by rw [ht, ← hw]; exact hP, by rw [← hw]; exact hD⟩, hS.F ht⟩) hS.2.2 hdg Cr.2
theorem v_widen {k' n' : Nat} (h1 : k ≤ k') (h2 : n ≤ n') (kk : V p l e R s m args below meth c g nL A k' n' Q X pl lv pc st) : V p l e R s m args below meth c g nL A k n Q X pl lv pc st := fun H locs ls hP hD hS hl => W.widen h1 h2 (kk H locs ls hP hD hS hl)
theorem v_world {pl' : va_W} (h : X ++ pl = X' ++ pl') (kk : V p l e R s m args below meth c g nL A k n Q X' pl' lv pc st) : V p l e R s m args below meth c g nL A k n Q X pl lv pc st := fun H locs ls hP hD hS hl => kk H locs ls (h ▸ hP) (h ▸ hD) hS hl
theorem v_lv (ks : List Nat) (h : lv_pick lv ks = lv') (kk : V p l e R s m args below meth c g nL A k n Q X pl lv' pc st) : V p l e R s m args below meth c g nL A k n Q X pl lv pc st := fun H locs ls hP hD hS hl => kk H locs ls hP hD hS (lv_sub hl ks h)
theorem enter {l : Launch} {g : Gv} {y : MethodName} {ws ws' : List Cond} {rm : Room} {av : List Value} {W0 X pl : va_W} {Qf : (Nat → Prop) → Array Value → State → Outcome → State → Prop} {cc : ByteArray} {nL : Nat} {ret : Option FieldType} (hy : plainName y.cls = true) (hw : ws = Cond.code y cc nL ret :: ws') (hlen : (lg_sl av).length ≤ nL) (hW : W0 = X ++ pl)
    (body : ∀ (p : Program) (e : Env) (s : State) (m : MethodId) (args : Array Value) (below : List Frame) (meth : Method) (c : Code) (A : Nat → Prop) (Q : State → Prop), Cx p s m args c g nL A cc ws y.cls → meth.sig.returnType = ret ∧ meth.locks = false → meth.name = y.name → MQ below (Qf A) args s rm.cells rm.slots A = Q → V p l e rm s m args below meth c g nL A 0 0 Q X pl (lv_args 0 av) 0 []) : Ct l g y ws rm av W0 Qf := by
  intro sz
  refine Met.ofW (cc := cc) (maxL := nL) (ret := ret) hy hw ?_
  intro p e s m args below meth c s₁ B hml hv
  obtain ⟨rfl, hsz, hP, hK, hD0, hN⟩ := hv
  subst hsz
  subst hW
  have key := body p e s m av.toArray below meth c (va_A (X ++ pl) s.heap.size) _ ⟨⟨B.exec, B.bytes, hml, findClass_of_methodNamed B.named, atoms_spec B.pre⟩, hK, fun q h => Or.inr h, hN⟩ ⟨B.returns, B.notSynchronized⟩ (name_of_methodNamed B.named B.method).1 rfl
  rw [lg_entry_eq]
  exact key s.heap [] _ hP hD0.self va_S.rf (lv_entry av hlen)
theorem fm_of_map {α β : Type} {f : α → Option β} : ∀ {is : List α} {ws : List β}, is.map f = ws.map some → is.filterMap f = ws
  | [], [], _ => rfl
  | [], _ :: _, h => by simp at h
  | _ :: _, [], h => by simp at h
  | i :: is, w :: ws, h => by
    simp only [List.map_cons, List.cons.injEq] at h
    rw [List.filterMap_cons, h.1]
    simp only [fm_of_map h.2]
theorem run_V (C : Cx p s m args c g nL A cc Ts own) {y : MethodName} {wsy wsy' : List Cond} {bytes : ByteArray} {maxL index : Nat} {ret : Option FieldType} {rm : Room} {b : Nat} {As rest : List Value} {wc : va_W} {Qf : (Nat → Prop) → Array Value → State → Outcome → State → Prop} {Cn : String} {ci : Nat} {fs : List Value} {qc : vw_C} (hM : Ct l g y wsy rm (.ref b :: As) wc Qf) (hG : GoodIn Ts (wsV own index Cn y wsy)) (hw : wsy = Cond.code y bytes maxL ret :: wsy') (hd : y.cls ≠ "java/lang/invoke/MethodHandle" ∧ y.cls ≠ "java/lang/invoke/VarHandle" ∧ (parseMethodDescriptor y.desc).map (fun d => d.parameters.length) = some As.length) (hcn : y.cls = Cn) (hrecv : wc[0]? = some (b, .inr (ci, fs))) (hc : vwCl[ci]? = some qc) (hq : qc.1 = Cn) (hR : rm.frames + 1 ≤ R.frames ∧ 8 + (maxL + 11) + rm.locals ≤ R.locals) (hf : k + rm.cells ≤ R.cells ∧ n + rm.slots ≤ R.slots) (hW : (rest.map fun v => v.category).sum ≤ 8) (hdg : decode cc pc = .ok (.invokevirtual index, 3)) (hst : st = As.reverse ++ .ref b :: rest) : ∀ (H : Heap) (locs : List Loc) (ls : Array Slot), va_P g.1 vwCl wc H → va_D (fun _ => True) wc → lv_has ls nL lv → va_Run p l e R s m args below meth c H locs k n rm.cells rm.slots (F0 m pc ls st) rest (Qf (va_A wc H.size) (Value.ref b :: As).toArray) (va_A wc H.size) := by
  subst hq
  exact fun H locs ls hP hD hl => va_runV C.1 (hM H.size) (cwV As.length C.1.2.2.2.2 hG hw rfl rfl ⟨hcn, hd⟩ hR) ⟨cPc_blind, va_recv C.2.1 hP hc hrecv, fun U hU hW9 => ⟨rfl, by rw [hU], by rw [hU]; exact hP, va_K.moved hW9.alike C.2.1, hD, NW.warm hW9 C.2.2.2⟩⟩ rfl rfl hl.1 hst (lv_room hW) hdg hf
theorem run_S (C : Cx p s m args c g nL A cc Ts own) {y : MethodName} {wsy wsy' : List Cond} {bytes : ByteArray} {maxL index : Nat} {ret : Option FieldType} {rm : Room} {As rest : List Value} {wc : va_W} {Qf : (Nat → Prop) → Array Value → State → Outcome → State → Prop} (hM : Ct l g y wsy rm As wc Qf) (hG : GoodIn Ts (va_wsS own index y wsy)) (hw : wsy = Cond.code y bytes maxL ret :: wsy') (hd : y.cls ≠ "java/lang/invoke/MethodHandle" ∧ y.cls ≠ "java/lang/invoke/VarHandle" ∧ (parseMethodDescriptor y.desc).map (fun d => d.parameters.length) = some As.length) (hR : rm.frames + 1 ≤ R.frames ∧ 8 + (maxL + 11) + rm.locals ≤ R.locals) (hf : k + rm.cells ≤ R.cells ∧ n + rm.slots ≤ R.slots) (hW : (rest.map fun v => v.category).sum ≤ 8) (hdg : decode cc pc = .ok (.invokestatic index, 3)) (hst : st = As.reverse ++ rest) : ∀ (H : Heap) (locs : List Loc) (ls : Array Slot), va_P g.1 vwCl wc H → va_D (fun _ => True) wc → lv_has ls nL lv → va_Run p l e R s m args below meth c H locs k n rm.cells rm.slots (F0 m pc ls st) rest (Qf (va_A wc H.size) As.toArray) (va_A wc H.size) :=
  fun H locs ls hP hD hl => va_runS C.1 (hM H.size) (va_cwS As.length C.1.2.2.2.2 hG hw rfl rfl hd hR) ⟨cPc_blind, fun U hU hW9 => ⟨rfl, by rw [hU], by rw [hU]; exact hP, va_K.moved hW9.alike C.2.1, hD, NW.warm hW9 C.2.2.2⟩⟩ rfl rfl hl.1 hst (lv_room hW) hdg hf
theorem run_SN (C : Cx p s m args c g nL A cc Ts own) {y : MethodName} {wsy wsy' : List Cond} {bytes : ByteArray} {maxL index : Nat} {ret : Option FieldType} {rm : Room} {As rest : List Value} {wc : va_W} {Qf : (Nat → Prop) → Array Value → State → Outcome → State → Prop} {host : String} (hM : Ct l g y wsy rm As wc Qf) (hG : GoodIn Ts wsy) (hw : wsy = Cond.code y bytes maxL ret :: wsy') (hd : y.cls ≠ "java/lang/invoke/MethodHandle" ∧ y.cls ≠ "java/lang/invoke/VarHandle" ∧ (parseMethodDescriptor y.desc).map (fun d => d.parameters.length) = some As.length) (hnw : (own, index, y, host) ∈ nwM) (hini : Cond.initialized y.cls ∈ Ts) (hstat : Cond.static y ∈ Ts) (hR : rm.frames + 1 ≤ R.frames ∧ 8 + (maxL + 11) + rm.locals ≤ R.locals) (hf : k + rm.cells ≤ R.cells ∧ n + rm.slots ≤ R.slots) (hW : (rest.map fun v => v.category).sum ≤ 8) (hdg : decode cc pc = .ok (.invokestatic index, 3)) (hst : st = As.reverse ++ rest) : ∀ (H : Heap) (locs : List Loc) (ls : Array Slot), va_P g.1 vwCl wc H → va_D (fun _ => True) wc → lv_has ls nL lv → va_Run p l e R s m args below meth c H locs k n rm.cells rm.slots (F0 m pc ls st) rest (Qf (va_A wc H.size) As.toArray) (va_A wc H.size) :=
  fun H locs ls hP hD hl => va_runSN C.1 (hM H.size) ⟨va_cnB As.length C.1.2.2.2.2 hG hw rfl rfl (C.2.2.2.2.1 _ hnw) (C.1.2.2.2.2 _ hini) hd hR, C.1.2.2.2.2 _ hstat, trivial⟩ ⟨cPc_blind, fun U hU hW9 => ⟨rfl, by rw [hU], by rw [hU]; exact hP, va_K.moved hW9.alike C.2.1, hD, NW.warm hW9 C.2.2.2⟩⟩ rfl rfl hl.1 hst (lv_room hW) hdg hf
theorem run_I (C : Cx p s m args c g nL A cc Ts own) {y : MethodName} {wsy wsy' : List Cond} {bytes : ByteArray} {maxL index : Nat} {rm : Room} {b : Nat} {As rest : List Value} {wc : va_W} {Qf : (Nat → Prop) → Array Value → State → Outcome → State → Prop} (hM : Ct l g y wsy rm (.ref b :: As) wc Qf) (hG : GoodIn Ts wsy) (hw : wsy = Cond.code y bytes maxL none :: wsy') (hd : y.cls ≠ "java/lang/invoke/MethodHandle" ∧ y.cls ≠ "java/lang/invoke/VarHandle" ∧ (parseMethodDescriptor y.desc).map (fun d => d.parameters.length) = some As.length) (hini : Cond.initialized y.cls ∈ Ts) (hlk : Cond.methodLink own index y ∈ Ts) (hinst : Cond.instanceMethod y ∈ Ts) (hy1 : y.name = "<init>") (hR : rm.frames + 1 ≤ R.frames ∧ 8 + (maxL + 11) + rm.locals ≤ R.locals) (hf : k + rm.cells ≤ R.cells ∧ n + rm.slots ≤ R.slots) (hW : (rest.map fun v => v.category).sum ≤ 8) (hdg : decode cc pc = .ok (.invokespecial index, 3)) (hst : st = As.reverse ++ .ref b :: rest) : ∀ (H : Heap) (locs : List Loc) (ls : Array Slot), va_P g.1 vwCl wc H → va_D (fun _ => True) wc → lv_has ls nL lv → va_Run p l e R s m args below meth c H locs k n rm.cells rm.slots (F0 m pc ls st) rest (Qf (va_A wc H.size) (Value.ref b :: As).toArray) (va_A wc H.size) :=
  fun H locs ls hP hD hl => va_runI C.1 (hM H.size) (cwI As.length C.1.2.2.2.2 hG hw rfl rfl (C.1.2.2.2.2 _ hini) (C.1.2.2.2.2 _ hlk) (C.1.2.2.2.2 _ hinst) hy1 hd hR) ⟨cPc_blind, fun U hU hW9 => ⟨rfl, by rw [hU], by rw [hU]; exact hP, va_K.moved hW9.alike C.2.1, hD, NW.warm hW9 C.2.2.2⟩⟩ rfl rfl hl.1 hst (lv_room hW) hdg hf
theorem run_IN (C : Cx p s m args c g nL A cc Ts own) {y : MethodName} {wsy wsy' : List Cond} {bytes : ByteArray} {maxL index : Nat} {rm : Room} {b : Nat} {As rest : List Value} {wc : va_W} {Qf : (Nat → Prop) → Array Value → State → Outcome → State → Prop} {host : String} (hM : Ct l g y wsy rm (.ref b :: As) wc Qf) (hG : GoodIn Ts wsy) (hw : wsy = Cond.code y bytes maxL none :: wsy') (hd : y.cls ≠ "java/lang/invoke/MethodHandle" ∧ y.cls ≠ "java/lang/invoke/VarHandle" ∧ (parseMethodDescriptor y.desc).map (fun d => d.parameters.length) = some As.length) (hnw : (own, index, y, host) ∈ nwM) (hini : Cond.initialized y.cls ∈ Ts) (hinst : Cond.instanceMethod y ∈ Ts) (hy1 : y.name = "<init>") (hR : rm.frames + 1 ≤ R.frames ∧ 8 + (maxL + 11) + rm.locals ≤ R.locals) (hf : k + rm.cells ≤ R.cells ∧ n + rm.slots ≤ R.slots) (hW : (rest.map fun v => v.category).sum ≤ 8) (hdg : decode cc pc = .ok (.invokespecial index, 3)) (hst : st = As.reverse ++ .ref b :: rest) : ∀ (H : Heap) (locs : List Loc) (ls : Array Slot), va_P g.1 vwCl wc H → va_D (fun _ => True) wc → lv_has ls nL lv → va_Run p l e R s m args below meth c H locs k n rm.cells rm.slots (F0 m pc ls st) rest (Qf (va_A wc H.size) (Value.ref b :: As).toArray) (va_A wc H.size) :=
  fun H locs ls hP hD hl => va_runIN C.1 (hM H.size) ⟨va_cnB As.length C.1.2.2.2.2 hG hw rfl rfl (C.2.2.2.2.1 _ hnw) (C.1.2.2.2.2 _ hini) hd hR, hy1, C.1.2.2.2.2 _ hinst⟩ ⟨cPc_blind, fun U hU hW9 => ⟨rfl, by rw [hU], by rw [hU]; exact hP, va_K.moved hW9.alike C.2.1, hD, NW.warm hW9 C.2.2.2⟩⟩ rfl rfl hl.1 hst (lv_room hW) hdg hf
theorem v_calli (C : Cx p s m args c g nL A cc Ts own) {S ρ : Type} {x : Option ρ} {kx : ρ → Option β} (h : Option.bind x kx = some o) (rf : ρ → Int32) {rest : List Value} {wc : va_W} (wr : va_W) {Wf : ρ → S → va_W} {ok : ρ → S → Prop} {a : Array Value} {mc ms : Nat} (Xf : ρ → S → va_W) (hrun : ∀ r : ρ, x = some r → ∀ (H : Heap) (locs : List Loc) (ls : Array Slot), va_P g.1 vwCl wc H → va_D (fun _ => True) wc → lv_has ls nL lv → va_Run p l e R s m args below meth c H locs k n mc ms (F0 m pc ls st) rest (Qi g (rf r) (Wf r) (ok r) (va_A wc H.size) a) (va_A wc H.size)) (isC isR perm : List Nat) (hC : isC.map (fun i => X[i]?) = wc.map some) (hR : isR.map (fun i => X[i]?) = wr.map some) (hn : va_nd isR = true) (hnC : va_nd isC = true) (hdis : ∀ i ∈ isR, i ∉ isC) (hnp : va_nd perm = true) (hperm : ∀ (r : ρ) (u : S), perm.map (fun i => (wr ++ Wf r u)[i]?) = (Xf r u).map some) {k' n' : Nat} (hk9 : k + mc = k') (hn9 : n + ms = n') (hp : pc + 3 = pc') (kk : ∀ (r : ρ) (u : S), ok r u → kx r = some o → V p l e R s m args below meth c g nL A k' n' Q (Xf r u) pl lv pc' (.int (rf r) :: rest)) : V p l e R s m args below meth c g nL A k n Q X pl lv pc st := by
  subst hp
  subst hk9
  subst hn9
  obtain ⟨r, hx9, h9⟩ := Option.bind_eq_some_iff.mp h
  have hrun := hrun r hx9
  intro H locs ls hP hD hS hl
  have hPX : va_P g.1 vwCl X H := hP.by id (fun k q h => v_get_app h)
  have hDX : va_D A X := hD.by id (fun k q h => v_get_app h) (fun i j _ _ h => h)
  have hFc := va_free (wc := wc) hDX hS C.2.2.1 isC hC
  refine va_calli (hrun H locs ls (hPX.sub isC (fm_of_map hC)) ((hDX.sub isC hnC hC).weaken (fun _ _ _ _ => trivial)) hl) hS (fun q _ h => hFc q h) hFc (fun r' u t H1 locs1 ht hvm hw hB hz1 hk1 hS1 => ?_)
  obtain ⟨rfl, hu⟩ := hw
  obtain ⟨hP1, hD1⟩ := hB
  rw [ht] at hP1
  obtain ⟨hP2, hD2⟩ := va_joinQ hP hD isC isR hC hR hn hdis hk1 hFc hP1 hD1
  exact kk r u hu h9 H1 locs1 ls (hP2.part perm (hperm r u)) (hD2.part perm hnp (hperm r u)) hS1 hl
theorem v_callPi (C : Cx p s m args c g nL A cc Ts own) {S ρ : Type} {x : Option ρ} {kx : ρ → Option β} (h : Option.bind x kx = some o) (rf : ρ → Int32) {rest : List Value} {cx : va_W} (wr : va_W) {Wf pf : ρ → S → va_W} {ok : ρ → S → Prop} {a : Array Value} {mc ms : Nat} (Xf : ρ → S → va_W) (hrun : ∀ r : ρ, x = some r → ∀ (H : Heap) (locs : List Loc) (ls : Array Slot), va_P g.1 vwCl (cx ++ pl) H → va_D (fun _ => True) (cx ++ pl) → lv_has ls nL lv → va_Run p l e R s m args below meth c H locs k n mc ms (F0 m pc ls st) rest (Qi g (rf r) (fun u => Wf r u ++ pf r u) (ok r) (va_A (cx ++ pl) H.size) a) (va_A (cx ++ pl) H.size)) (isC isR perm : List Nat) (hC : isC.map (fun i => X[i]?) = cx.map some) (hR : isR.map (fun i => X[i]?) = wr.map some) (hn : va_nd isR = true) (hnC : va_nd isC = true) (hdis : ∀ i ∈ isR, i ∉ isC) (hnp : va_nd perm = true) (hperm : ∀ (r : ρ) (u : S), perm.map (fun i => (wr ++ Wf r u)[i]?) = (Xf r u).map some) {k' n' : Nat} (hk9 : k + mc = k') (hn9 : n + ms = n') (hp : pc + 3 = pc') (kk : ∀ (r : ρ) (u : S), ok r u → kx r = some o → V p l e R s m args below meth c g nL A k' n' Q (Xf r u) (pf r u) lv pc' (.int (rf r) :: rest)) : V p l e R s m args below meth c g nL A k n Q X pl lv pc st := by
  subst hp
  subst hk9
  subst hn9
  obtain ⟨r, hx9, h9⟩ := Option.bind_eq_some_iff.mp h
  have hrun := hrun r hx9
  intro H locs ls hP hD hS hl
  have hFc := va_freeP (pl := pl) hD hS C.2.2.1 isC hC
  refine va_calli (hrun H locs ls (hP.part isC hC) ((hD.part isC hnC hC).weaken (fun _ _ _ _ => trivial)) hl) hS (fun q _ h => hFc q h) hFc (fun r' u t H1 locs1 ht hvm hw hB hz1 hk1 hS1 => ?_)
  obtain ⟨rfl, hu⟩ := hw
  obtain ⟨hP1, hD1⟩ := hB
  rw [ht] at hP1
  obtain ⟨hP2, hD2⟩ := va_joinP hP hD isC isR hC hR hn hdis hk1 hFc hP1 hD1
  exact kk r u hu h9 H1 locs1 ls (hP2.part perm (hperm r u)) (hD2.part perm hnp (hperm r u)) hS1 hl
theorem v_calll (C : Cx p s m args c g nL A cc Ts own) {S ρ : Type} {x : Option ρ} {kx : ρ → Option β} (h : Option.bind x kx = some o) (rf : ρ → Int64) {rest : List Value} {wc : va_W} (wr : va_W) {Wf : ρ → S → va_W} {ok : ρ → S → Prop} {a : Array Value} {mc ms : Nat} (Xf : ρ → S → va_W) (hrun : ∀ r : ρ, x = some r → ∀ (H : Heap) (locs : List Loc) (ls : Array Slot), va_P g.1 vwCl wc H → va_D (fun _ => True) wc → lv_has ls nL lv → va_Run p l e R s m args below meth c H locs k n mc ms (F0 m pc ls st) rest (Ql g (rf r) (Wf r) (ok r) (va_A wc H.size) a) (va_A wc H.size)) (isC isR perm : List Nat) (hC : isC.map (fun i => X[i]?) = wc.map some) (hR : isR.map (fun i => X[i]?) = wr.map some) (hn : va_nd isR = true) (hnC : va_nd isC = true) (hdis : ∀ i ∈ isR, i ∉ isC) (hnp : va_nd perm = true) (hperm : ∀ (r : ρ) (u : S), perm.map (fun i => (wr ++ Wf r u)[i]?) = (Xf r u).map some) {k' n' : Nat} (hk9 : k + mc = k') (hn9 : n + ms = n') (hp : pc + 3 = pc') (kk : ∀ (r : ρ) (u : S), ok r u → kx r = some o → V p l e R s m args below meth c g nL A k' n' Q (Xf r u) pl lv pc' (.long (rf r) :: rest)) : V p l e R s m args below meth c g nL A k n Q X pl lv pc st := by
  subst hp
  subst hk9
  subst hn9
  obtain ⟨r, hx9, h9⟩ := Option.bind_eq_some_iff.mp h
  have hrun := hrun r hx9
  intro H locs ls hP hD hS hl
  have hPX : va_P g.1 vwCl X H := hP.by id (fun k q h => v_get_app h)
  have hDX : va_D A X := hD.by id (fun k q h => v_get_app h) (fun i j _ _ h => h)
  have hFc := va_free (wc := wc) hDX hS C.2.2.1 isC hC
  refine va_calll (hrun H locs ls (hPX.sub isC (fm_of_map hC)) ((hDX.sub isC hnC hC).weaken (fun _ _ _ _ => trivial)) hl) hS (fun q _ h => hFc q h) hFc (fun r' u t H1 locs1 ht hvm hw hB hz1 hk1 hS1 => ?_)
  obtain ⟨rfl, hu⟩ := hw
  obtain ⟨hP1, hD1⟩ := hB
  rw [ht] at hP1
  obtain ⟨hP2, hD2⟩ := va_joinQ hP hD isC isR hC hR hn hdis hk1 hFc hP1 hD1
  exact kk r u hu h9 H1 locs1 ls (hP2.part perm (hperm r u)) (hD2.part perm hnp (hperm r u)) hS1 hl
theorem v_callPl (C : Cx p s m args c g nL A cc Ts own) {S ρ : Type} {x : Option ρ} {kx : ρ → Option β} (h : Option.bind x kx = some o) (rf : ρ → Int64) {rest : List Value} {cx : va_W} (wr : va_W) {Wf pf : ρ → S → va_W} {ok : ρ → S → Prop} {a : Array Value} {mc ms : Nat} (Xf : ρ → S → va_W) (hrun : ∀ r : ρ, x = some r → ∀ (H : Heap) (locs : List Loc) (ls : Array Slot), va_P g.1 vwCl (cx ++ pl) H → va_D (fun _ => True) (cx ++ pl) → lv_has ls nL lv → va_Run p l e R s m args below meth c H locs k n mc ms (F0 m pc ls st) rest (Ql g (rf r) (fun u => Wf r u ++ pf r u) (ok r) (va_A (cx ++ pl) H.size) a) (va_A (cx ++ pl) H.size)) (isC isR perm : List Nat) (hC : isC.map (fun i => X[i]?) = cx.map some) (hR : isR.map (fun i => X[i]?) = wr.map some) (hn : va_nd isR = true) (hnC : va_nd isC = true) (hdis : ∀ i ∈ isR, i ∉ isC) (hnp : va_nd perm = true) (hperm : ∀ (r : ρ) (u : S), perm.map (fun i => (wr ++ Wf r u)[i]?) = (Xf r u).map some) {k' n' : Nat} (hk9 : k + mc = k') (hn9 : n + ms = n') (hp : pc + 3 = pc') (kk : ∀ (r : ρ) (u : S), ok r u → kx r = some o → V p l e R s m args below meth c g nL A k' n' Q (Xf r u) (pf r u) lv pc' (.long (rf r) :: rest)) : V p l e R s m args below meth c g nL A k n Q X pl lv pc st := by
  subst hp
  subst hk9
  subst hn9
  obtain ⟨r, hx9, h9⟩ := Option.bind_eq_some_iff.mp h
  have hrun := hrun r hx9
  intro H locs ls hP hD hS hl
  have hFc := va_freeP (pl := pl) hD hS C.2.2.1 isC hC
  refine va_calll (hrun H locs ls (hP.part isC hC) ((hD.part isC hnC hC).weaken (fun _ _ _ _ => trivial)) hl) hS (fun q _ h => hFc q h) hFc (fun r' u t H1 locs1 ht hvm hw hB hz1 hk1 hS1 => ?_)
  obtain ⟨rfl, hu⟩ := hw
  obtain ⟨hP1, hD1⟩ := hB
  rw [ht] at hP1
  obtain ⟨hP2, hD2⟩ := va_joinP hP hD isC isR hC hR hn hdis hk1 hFc hP1 hD1
  exact kk r u hu h9 H1 locs1 ls (hP2.part perm (hperm r u)) (hD2.part perm hnp (hperm r u)) hS1 hl
theorem v_callv (C : Cx p s m args c g nL A cc Ts own) {S ρ : Type} {x : Option ρ} {kx : ρ → Option β} (h : Option.bind x kx = some o) {rest : List Value} {wc : va_W} (wr : va_W) {Wf : ρ → S → va_W} {ok : ρ → S → Prop} {a : Array Value} {mc ms : Nat} (Xf : ρ → S → va_W) (hrun : ∀ r : ρ, x = some r → ∀ (H : Heap) (locs : List Loc) (ls : Array Slot), va_P g.1 vwCl wc H → va_D (fun _ => True) wc → lv_has ls nL lv → va_Run p l e R s m args below meth c H locs k n mc ms (F0 m pc ls st) rest (Qv g (Wf r) (ok r) (va_A wc H.size) a) (va_A wc H.size)) (isC isR perm : List Nat) (hC : isC.map (fun i => X[i]?) = wc.map some) (hR : isR.map (fun i => X[i]?) = wr.map some) (hn : va_nd isR = true) (hnC : va_nd isC = true) (hdis : ∀ i ∈ isR, i ∉ isC) (hnp : va_nd perm = true) (hperm : ∀ (r : ρ) (u : S), perm.map (fun i => (wr ++ Wf r u)[i]?) = (Xf r u).map some) {k' n' : Nat} (hk9 : k + mc = k') (hn9 : n + ms = n') (hp : pc + 3 = pc') (kk : ∀ (r : ρ) (u : S), ok r u → kx r = some o → V p l e R s m args below meth c g nL A k' n' Q (Xf r u) pl lv pc' rest) : V p l e R s m args below meth c g nL A k n Q X pl lv pc st := by
  subst hp
  subst hk9
  subst hn9
  obtain ⟨r, hx9, h9⟩ := Option.bind_eq_some_iff.mp h
  have hrun := hrun r hx9
  intro H locs ls hP hD hS hl
  have hPX : va_P g.1 vwCl X H := hP.by id (fun k q h => v_get_app h)
  have hDX : va_D A X := hD.by id (fun k q h => v_get_app h) (fun i j _ _ h => h)
  have hFc := va_free (wc := wc) hDX hS C.2.2.1 isC hC
  refine va_callv (hrun H locs ls (hPX.sub isC (fm_of_map hC)) ((hDX.sub isC hnC hC).weaken (fun _ _ _ _ => trivial)) hl) hS (fun q _ h => hFc q h) hFc (fun u t H1 locs1 ht hvm hw hB hz1 hk1 hS1 => ?_)
  have hu := hw
  obtain ⟨hP1, hD1⟩ := hB
  rw [ht] at hP1
  obtain ⟨hP2, hD2⟩ := va_joinQ hP hD isC isR hC hR hn hdis hk1 hFc hP1 hD1
  exact kk r u hu h9 H1 locs1 ls (hP2.part perm (hperm r u)) (hD2.part perm hnp (hperm r u)) hS1 hl
theorem v_callPv (C : Cx p s m args c g nL A cc Ts own) {S ρ : Type} {x : Option ρ} {kx : ρ → Option β} (h : Option.bind x kx = some o) {rest : List Value} {cx : va_W} (wr : va_W) {Wf pf : ρ → S → va_W} {ok : ρ → S → Prop} {a : Array Value} {mc ms : Nat} (Xf : ρ → S → va_W) (hrun : ∀ r : ρ, x = some r → ∀ (H : Heap) (locs : List Loc) (ls : Array Slot), va_P g.1 vwCl (cx ++ pl) H → va_D (fun _ => True) (cx ++ pl) → lv_has ls nL lv → va_Run p l e R s m args below meth c H locs k n mc ms (F0 m pc ls st) rest (Qv g (fun u => Wf r u ++ pf r u) (ok r) (va_A (cx ++ pl) H.size) a) (va_A (cx ++ pl) H.size)) (isC isR perm : List Nat) (hC : isC.map (fun i => X[i]?) = cx.map some) (hR : isR.map (fun i => X[i]?) = wr.map some) (hn : va_nd isR = true) (hnC : va_nd isC = true) (hdis : ∀ i ∈ isR, i ∉ isC) (hnp : va_nd perm = true) (hperm : ∀ (r : ρ) (u : S), perm.map (fun i => (wr ++ Wf r u)[i]?) = (Xf r u).map some) {k' n' : Nat} (hk9 : k + mc = k') (hn9 : n + ms = n') (hp : pc + 3 = pc') (kk : ∀ (r : ρ) (u : S), ok r u → kx r = some o → V p l e R s m args below meth c g nL A k' n' Q (Xf r u) (pf r u) lv pc' rest) : V p l e R s m args below meth c g nL A k n Q X pl lv pc st := by
  subst hp
  subst hk9
  subst hn9
  obtain ⟨r, hx9, h9⟩ := Option.bind_eq_some_iff.mp h
  have hrun := hrun r hx9
  intro H locs ls hP hD hS hl
  have hFc := va_freeP (pl := pl) hD hS C.2.2.1 isC hC
  refine va_callv (hrun H locs ls (hP.part isC hC) ((hD.part isC hnC hC).weaken (fun _ _ _ _ => trivial)) hl) hS (fun q _ h => hFc q h) hFc (fun u t H1 locs1 ht hvm hw hB hz1 hk1 hS1 => ?_)
  have hu := hw
  obtain ⟨hP1, hD1⟩ := hB
  rw [ht] at hP1
  obtain ⟨hP2, hD2⟩ := va_joinP hP hD isC isR hC hR hn hdis hk1 hFc hP1 hD1
  exact kk r u hu h9 H1 locs1 ls (hP2.part perm (hperm r u)) (hD2.part perm hnp (hperm r u)) hS1 hl
theorem v_purei (C : Cx p s m args c g nL A cc Ts own) {ρ : Type} {x : Option ρ} {kx : ρ → Option β} (h : Option.bind x kx = some o) (rf : ρ → Int32) {rest : List Value} {a : Array Value} (hrun : ∀ r : ρ, x = some r → ∀ (H : Heap) (locs : List Loc) (ls : Array Slot), va_P g.1 vwCl [] H → va_D (fun _ => True) [] → lv_has ls nL lv → va_Run p l e R s m args below meth c H locs k n 0 0 (F0 m pc ls st) rest (Qi g (rf r) (fun _ : Unit => []) (fun _ => True) (va_A [] H.size) a) (va_A [] H.size)) (hp : pc + 3 = pc') (kk : ∀ r : ρ, kx r = some o → V p l e R s m args below meth c g nL A k n Q X pl lv pc' (.int (rf r) :: rest)) : V p l e R s m args below meth c g nL A k n Q X pl lv pc st := by
  subst hp
  obtain ⟨r, hx9, h9⟩ := Option.bind_eq_some_iff.mp h
  have hrun := hrun r hx9
  intro H locs ls hP hD hS hl
  have hFc : ∀ q, va_A [] H.size q → A q := fun q hq => by
    rcases hq with ⟨k9, e9, hq⟩ | hq
    · simp at hq
    · exact C.2.2.1 q (Nat.le_trans hS.1 hq)
  refine va_calli (hrun H locs ls (fun k q hq => by simp at hq) ⟨fun i j p9 q9 hq => by simp at hq, fun k q hq => by simp at hq⟩ hl) hS (fun q _ h => hFc q h) hFc (fun r' u t H1 locs1 ht hvm hw hB hz1 hk1 hS1 => ?_)
  obtain ⟨rfl, -⟩ := hw
  refine kk r h9 H1 locs1 ls (hP.kept (fun k9 q9 hq => hk1 q9.1 (hP k9 q9 hq).lt (fun hz => ?_))) hD hS1 hl
  rcases hz with ⟨k8, e8, hq8⟩ | hz
  · simp at hq8
  · have := (hP k9 q9 hq).lt
    omega
theorem v_purel (C : Cx p s m args c g nL A cc Ts own) {ρ : Type} {x : Option ρ} {kx : ρ → Option β} (h : Option.bind x kx = some o) (rf : ρ → Int64) {rest : List Value} {a : Array Value} (hrun : ∀ r : ρ, x = some r → ∀ (H : Heap) (locs : List Loc) (ls : Array Slot), va_P g.1 vwCl [] H → va_D (fun _ => True) [] → lv_has ls nL lv → va_Run p l e R s m args below meth c H locs k n 0 0 (F0 m pc ls st) rest (Ql g (rf r) (fun _ : Unit => []) (fun _ => True) (va_A [] H.size) a) (va_A [] H.size)) (hp : pc + 3 = pc') (kk : ∀ r : ρ, kx r = some o → V p l e R s m args below meth c g nL A k n Q X pl lv pc' (.long (rf r) :: rest)) : V p l e R s m args below meth c g nL A k n Q X pl lv pc st := by
  subst hp
  obtain ⟨r, hx9, h9⟩ := Option.bind_eq_some_iff.mp h
  have hrun := hrun r hx9
  intro H locs ls hP hD hS hl
  have hFc : ∀ q, va_A [] H.size q → A q := fun q hq => by
    rcases hq with ⟨k9, e9, hq⟩ | hq
    · simp at hq
    · exact C.2.2.1 q (Nat.le_trans hS.1 hq)
  refine va_calll (hrun H locs ls (fun k q hq => by simp at hq) ⟨fun i j p9 q9 hq => by simp at hq, fun k q hq => by simp at hq⟩ hl) hS (fun q _ h => hFc q h) hFc (fun r' u t H1 locs1 ht hvm hw hB hz1 hk1 hS1 => ?_)
  obtain ⟨rfl, -⟩ := hw
  refine kk r h9 H1 locs1 ls (hP.kept (fun k9 q9 hq => hk1 q9.1 (hP k9 q9 hq).lt (fun hz => ?_))) hD hS1 hl
  rcases hz with ⟨k8, e8, hq8⟩ | hz
  · simp at hq8
  · have := (hP k9 q9 hq).lt
    omega
theorem v_min (C : Cx p s m args c g nL A cc Ts own) {x y : Int32} {index : Nat} {kx : Int32 → Option β} (h : lett (if y < x then y else x) kx = some o) (hlk : Cond.methodLink own index Lib.Math.min.name ∈ Ts) (hst9 : Cond.static Lib.Math.min.name ∈ Ts) (hini : Cond.initialized "java/lang/Math" ∈ Ts) (hcode : Cond.code Lib.Math.min.name Lib.Math.min.code 2 (some .int) ∈ Ts) (hfr : 1 ≤ R.frames) (hlo : (st.map fun v => v.category).sum + 13 ≤ R.locals) (hk : k ≤ R.cells) (hn : n ≤ R.slots) (hdg : decode cc pc = .ok (.invokestatic index, 3)) (hp : pc + 3 = pc') (kk : ∀ v : Int32, kx v = some o → V p l e R s m args below meth c g nL A k n Q X pl lv pc' (.int v :: st)) : V p l e R s m args below meth c g nL A k n Q X pl lv pc (.int y :: .int x :: st) := by
  subst hp
  exact fun H locs ls hP hD hS hl => va_mmin C.1.1 C.1.2.1 (by rw [C.1.2.2.1]; exact hl.1.symm) C.1.2.2.2.1 (C.1.2.2.2.2 _ hlk) (C.1.2.2.2.2 _ hst9) (C.1.2.2.2.2 _ hini) (C.1.2.2.2.2 _ hcode) hfr hlo hk hn hdg (kk _ h H locs ls hP hD hS hl)
theorem v_copyi (C : Cx p s m args c g nL A cc Ts own) {index a0 a1 n0 n1 : Nat} {f f' : Nat → Int32} {sp dp z : Int32} {σ : Type} {y0 : σ} {kx : σ → Option β} (h : lett y0 kx = some o) (q0 q1 : Nat) (Xf : σ → va_W) (he0 : X[q0]? = some (a0, .inl (g.2.2.1, n0, .inl f))) (he1 : X[q1]? = some (a1, .inl (g.2.2.1, n1, .inl f'))) (hlk : Cond.methodLink own index arraycopyName ∈ Ts) (hnat : Cond.native arraycopyName ∈ Ts) (hst9 : Cond.static arraycopyName ∈ Ts) (hini : Cond.initialized "java/lang/System" ∈ Ts) (h1 : ¬ sp < 0) (h2 : ¬ dp < 0) (h3 : ¬ z < 0) (h4 : sp.toNatClampNeg + z.toNatClampNeg ≤ n0) (h5 : dp.toNatClampNeg + z.toNatClampNeg ≤ n1) (hfr : 1 ≤ R.frames) (hlo : (st.map fun v => v.category).sum + (nativeFrameWords "java/lang/System" "arraycopy" 5 + 11) ≤ R.locals) (hX : X.set q1 (a1, .inl (g.2.2.1, n1, .inl (va_cpy f f' sp.toNatClampNeg dp.toNatClampNeg z.toNatClampNeg))) = Xf y0) (hdg : decode cc pc = .ok (.invokestatic index, 3)) (hp : pc + 3 = pc') (kk : ∀ y : σ, kx y = some o → V p l e R s m args below meth c g nL A k n Q (Xf y) pl lv pc' st) : V p l e R s m args below meth c g nL A k n Q X pl lv pc (.int z :: .int dp :: .ref a1 :: .int sp :: .ref a0 :: st) := by
  subst hp
  refine fun H locs ls hP hD hS hl => va_copyi (D := g.1) (ty := .int) C.1.1 C.1.2.1 (by rw [C.1.2.2.1]; exact hl.1.symm) C.1.2.2.2.1 (C.1.2.2.2.2 _ hlk) (C.1.2.2.2.2 _ hnat) (C.1.2.2.2.2 _ hst9) (C.1.2.2.2.2 _ hini) C.2.1 hP hD hS q0 q1 1 1 (v_get_app he0) (v_get_app he1) rfl rfl rfl h1 h2 h3 h4 h5 (fun _ _ => rfl) hfr hlo hdg (fun H1 locs1 hP1 hD1 hS1 => ?_)
  rw [v_set_app he1, hX] at hP1 hD1
  exact kk y0 h H1 locs1 ls hP1 hD1 hS1 hl
theorem v_copyl (C : Cx p s m args c g nL A cc Ts own) {index a0 a1 n0 n1 : Nat} {f f' : Nat → Int64} {sp dp z : Int32} {σ : Type} {y0 : σ} {kx : σ → Option β} (h : lett y0 kx = some o) (q0 q1 : Nat) (Xf : σ → va_W) (he0 : X[q0]? = some (a0, .inl (g.2.2.2.1, n0, .inr (.inl f)))) (he1 : X[q1]? = some (a1, .inl (g.2.2.2.1, n1, .inr (.inl f')))) (hlk : Cond.methodLink own index arraycopyName ∈ Ts) (hnat : Cond.native arraycopyName ∈ Ts) (hst9 : Cond.static arraycopyName ∈ Ts) (hini : Cond.initialized "java/lang/System" ∈ Ts) (h1 : ¬ sp < 0) (h2 : ¬ dp < 0) (h3 : ¬ z < 0) (h4 : sp.toNatClampNeg + z.toNatClampNeg ≤ n0) (h5 : dp.toNatClampNeg + z.toNatClampNeg ≤ n1) (hfr : 1 ≤ R.frames) (hlo : (st.map fun v => v.category).sum + (nativeFrameWords "java/lang/System" "arraycopy" 5 + 11) ≤ R.locals) (hX : X.set q1 (a1, .inl (g.2.2.2.1, n1, .inr (.inl (va_cpy f f' sp.toNatClampNeg dp.toNatClampNeg z.toNatClampNeg)))) = Xf y0) (hdg : decode cc pc = .ok (.invokestatic index, 3)) (hp : pc + 3 = pc') (kk : ∀ y : σ, kx y = some o → V p l e R s m args below meth c g nL A k n Q (Xf y) pl lv pc' st) : V p l e R s m args below meth c g nL A k n Q X pl lv pc (.int z :: .int dp :: .ref a1 :: .int sp :: .ref a0 :: st) := by
  subst hp
  refine fun H locs ls hP hD hS hl => va_copyl (D := g.1) (ty := .long) C.1.1 C.1.2.1 (by rw [C.1.2.2.1]; exact hl.1.symm) C.1.2.2.2.1 (C.1.2.2.2.2 _ hlk) (C.1.2.2.2.2 _ hnat) (C.1.2.2.2.2 _ hst9) (C.1.2.2.2.2 _ hini) C.2.1 hP hD hS q0 q1 2 2 (v_get_app he0) (v_get_app he1) rfl rfl rfl h1 h2 h3 h4 h5 (fun _ _ => rfl) hfr hlo hdg (fun H1 locs1 hP1 hD1 hS1 => ?_)
  rw [v_set_app he1, hX] at hP1 hD1
  exact kk y0 h H1 locs1 ls hP1 hD1 hS1 hl
theorem v_newc (C : Cx p s m args c g nL A cc Ts own) {z : Int32} (N : Nat) (hw : Cond.arrayClass .char ∈ Ts) (hz : ¬ z < 0) (hN : z.toNatClampNeg = N) (hby : N * componentBytes .char ≤ 536870912) (hk : k + 1 ≤ R.cells) (hn : n + N ≤ R.slots) (hdg : decode cc pc = .ok (.newarray .char, 2)) (hp : pc + 2 = pc') (kk : ∀ q : Nat, V p l e R s m args below meth c g nL A (k + 1) (n + N) Q (X ++ [(q, .inl (g.2.1, N, .inl (fun _ => 0)))]) pl lv pc' (.ref q :: st)) : V p l e R s m args below meth c g nL A k n Q X pl lv pc (.int z :: st) := by
  subst hp
  refine fun H locs ls hP hD hS hl => va_newa (D := g.1) (atype := .char) (ty := .char) (a0 := (N, .inl (fun _ => 0))) C.1.1 C.1.2.1 (C.1.2.2.2.2 _ hw) rfl C.2.1 hP hD hS C.2.2.1 (fun _ => rfl) hz hN hby hk hn hdg (fun q cA H1 hK1 hP1 hD1 hS1 => ?_)
  have e1 := (hK1.2 4 _ rfl).2
  have e2 := (C.2.1.2 0 _ rfl).2
  have e3 : cA = g.2.1 := Option.some.inj (e1.symm.trans e2)
  subst e3
  exact kk q H1 locs ls hP1.swap hD1.swap hS1 hl
theorem v_newi (C : Cx p s m args c g nL A cc Ts own) {z : Int32} (N : Nat) (hw : Cond.arrayClass .int ∈ Ts) (hz : ¬ z < 0) (hN : z.toNatClampNeg = N) (hby : N * componentBytes .int ≤ 536870912) (hk : k + 1 ≤ R.cells) (hn : n + N ≤ R.slots) (hdg : decode cc pc = .ok (.newarray .int, 2)) (hp : pc + 2 = pc') (kk : ∀ q : Nat, V p l e R s m args below meth c g nL A (k + 1) (n + N) Q (X ++ [(q, .inl (g.2.2.1, N, .inl (fun _ => 0)))]) pl lv pc' (.ref q :: st)) : V p l e R s m args below meth c g nL A k n Q X pl lv pc (.int z :: st) := by
  subst hp
  refine fun H locs ls hP hD hS hl => va_newa (D := g.1) (atype := .int) (ty := .int) (a0 := (N, .inl (fun _ => 0))) C.1.1 C.1.2.1 (C.1.2.2.2.2 _ hw) rfl C.2.1 hP hD hS C.2.2.1 (fun _ => rfl) hz hN hby hk hn hdg (fun q cA H1 hK1 hP1 hD1 hS1 => ?_)
  have e1 := (hK1.2 4 _ rfl).2
  have e2 := (C.2.1.2 1 _ rfl).2
  have e3 : cA = g.2.2.1 := Option.some.inj (e1.symm.trans e2)
  subst e3
  exact kk q H1 locs ls hP1.swap hD1.swap hS1 hl
theorem v_newl (C : Cx p s m args c g nL A cc Ts own) {z : Int32} (N : Nat) (hw : Cond.arrayClass .long ∈ Ts) (hz : ¬ z < 0) (hN : z.toNatClampNeg = N) (hby : N * componentBytes .long ≤ 536870912) (hk : k + 1 ≤ R.cells) (hn : n + N ≤ R.slots) (hdg : decode cc pc = .ok (.newarray .long, 2)) (hp : pc + 2 = pc') (kk : ∀ q : Nat, V p l e R s m args below meth c g nL A (k + 1) (n + N) Q (X ++ [(q, .inl (g.2.2.2.1, N, .inr (.inl (fun _ => 0))))]) pl lv pc' (.ref q :: st)) : V p l e R s m args below meth c g nL A k n Q X pl lv pc (.int z :: st) := by
  subst hp
  refine fun H locs ls hP hD hS hl => va_newa (D := g.1) (atype := .long) (ty := .long) (a0 := (N, .inr (.inl (fun _ => 0)))) C.1.1 C.1.2.1 (C.1.2.2.2.2 _ hw) rfl C.2.1 hP hD hS C.2.2.1 (fun _ => rfl) hz hN hby hk hn hdg (fun q cA H1 hK1 hP1 hD1 hS1 => ?_)
  have e1 := (hK1.2 4 _ rfl).2
  have e2 := (C.2.1.2 2 _ rfl).2
  have e3 : cA = g.2.2.2.1 := Option.some.inj (e1.symm.trans e2)
  subst e3
  exact kk q H1 locs ls hP1.swap hD1.swap hS1 hl
theorem v_newo (C : Cx p s m args c g nL A cc Ts own) {z : Int32} {index : Nat} (N : Nat) (hcl : Cond.classLink own index RX2 ∈ Ts) (hz : ¬ z < 0) (hN : z.toNatClampNeg = N) (hby : N * 4 ≤ 536870912) (hk : k + 1 ≤ R.cells) (hn : n + N ≤ R.slots) (hdg : decode cc pc = .ok (.anewarray index, 3)) (hp : pc + 3 = pc') (kk : ∀ q : Nat, V p l e R s m args below meth c g nL A (k + 1) (n + N) Q (X ++ [(q, .inl (g.2.2.2.2, N, .inr (.inr (.inr (.inr (fun _ => none))))))]) pl lv pc' (.ref q :: st)) : V p l e R s m args below meth c g nL A k n Q X pl lv pc (.int z :: st) := by
  subst hp
  refine fun H locs ls hP hD hS hl => va_newq (D := g.1) C.1.1 C.1.2.1 C.1.2.2.2.1 (C.1.2.2.2.2 _ hcl) C.2.2.2.2.2 C.2.1 hP hD hS C.2.2.1 hz hN hby hk hn hdg (fun q cA H1 hK1 hP1 hD1 hS1 => ?_)
  obtain ⟨_, _, -, -, -, e1⟩ := (hK1.2 4 _ rfl).2
  obtain ⟨_, _, -, -, -, e2⟩ := (C.2.1.2 3 _ rfl).2
  have e3 : cA = g.2.2.2.2 := Option.some.inj (e1.symm.trans e2)
  subst e3
  exact kk q H1 locs ls hP1.swap hD1.swap hS1 hl
theorem v_new (C : Cx p s m args c g nL A cc Ts own) {Cn : String} {T : u_T} {N ci index : Nat} (fs : List Value) (hin : ∀ w ∈ u_ws Cn T N, w ∈ Ts) (ty : Nat → FieldType) (hty : ∀ k, k < N → parseFieldDescriptor (T k).2.2.1 = some (ty k)) (hcl : Cond.classLink own index Cn ∈ Ts) (hinst : Cond.instantiable Cn N ∈ Ts) (hini : Cond.initialized Cn ∈ Ts) (hc : vwCl[ci]? = some (Cn, T, N)) (hfs : ∀ j, j < N → defaultValue (ty j) = vp_V fs j) (hk : k + 1 ≤ R.cells) (hn : n + N ≤ R.slots) (hdg : decode cc pc = .ok (.new index, 3)) (hp : pc + 3 = pc') (kk : ∀ q : Nat, V p l e R s m args below meth c g nL A (k + 1) (n + N) Q (X ++ [(q, .inr (ci, fs))]) pl lv pc' (.ref q :: st)) : V p l e R s m args below meth c g nL A k n Q X pl lv pc st := by
  subst hp
  exact fun H locs ls hP hD hS hl => va_new (D := g.1) C.1.1 C.1.2.1 C.1.2.2.2.2 hin ty hty C.1.2.2.2.1 (C.1.2.2.2.2 _ hcl) (C.1.2.2.2.2 _ hinst) (C.1.2.2.2.2 _ hini) C.2.1 hP hD hS C.2.2.1 hc hfs hk hn hdg (fun q H1 hP1 hD1 hS1 => kk q H1 locs ls hP1.swap hD1.swap hS1 hl)
theorem v_objInit (C : Cx p s m args c g nL A cc Ts own) {index a : Nat} (hlk : Cond.methodLink own index objectInit ∈ Ts) (hinst : Cond.instanceMethod objectInit ∈ Ts) (hcode : Cond.code objectInit ⟨#[0xb1]⟩ 1 none ∈ Ts) (hfr : 1 ≤ R.frames) (hlo : (st.map fun v => v.category).sum + 12 ≤ R.locals) (hdg : decode cc pc = .ok (.invokespecial index, 3)) (hp : pc + 3 = pc') (kk : V p l e R s m args below meth c g nL A k n Q X pl lv pc' st) : V p l e R s m args below meth c g nL A k n Q X pl lv pc (.ref a :: st) := by
  subst hp
  exact fun H locs ls hP hD hS hl => W.objInit C.1.1 C.1.2.1 C.1.2.2.2.1 (C.1.2.2.2.2 _ hlk) (C.1.2.2.2.2 _ hinst) (C.1.2.2.2.2 _ hcode) rfl (by rw [C.1.2.2.1]; exact hl.1) rfl hdg hfr (by show 2 * 0 + _ + 12 ≤ _; omega) (kk H locs ls hP hD hS hl)
theorem v_ifnonnull (C : Cx p s m args c g nL A cc Ts own) {x : Nat} {off : Int} (tgt : Nat) (hdg : decode cc pc = .ok (.ifnonnull off, 3)) (ht : (pc : Int) + off = (tgt : Int)) (kk : V p l e R s m args below meth c g nL A k n Q X pl lv tgt st) : V p l e R s m args below meth c g nL A k n Q X pl lv pc (.ref x :: st) := fun H locs ls hP hD hS hl => lv_ifnonnull C.1.1 C.1.2.1 hdg ht (kk H locs ls hP hD hS hl)
theorem v_ifnonnullN (C : Cx p s m args c g nL A cc Ts own) {off : Int} (hdg : decode cc pc = .ok (.ifnonnull off, 3)) (hp : pc + 3 = pc') (kk : V p l e R s m args below meth c g nL A k n Q X pl lv pc' st) : V p l e R s m args below meth c g nL A k n Q X pl lv pc (.null :: st) := by
  subst hp
  exact fun H locs ls hP hD hS hl => lv_ifnonnullN C.1.1 C.1.2.1 hdg (kk H locs ls hP hD hS hl)
theorem v_case (C : Cx p s m args c g nL A cc Ts own) {dflt lo hi : Int} {offs : Array Int} {len : Nat} {x : Int32} {off : Int} (c9 : Int32) (tgt : Nat) {ft fb : Option β} (h : (if x = c9 then ft else fb) = some o) (hdg : decode cc pc = .ok (.tableswitch dflt lo hi offs, len)) (h1 : ¬ c9.toInt < lo) (h2 : ¬ hi < c9.toInt) (ho : offs[(c9.toInt - lo).toNat]? = some off) (ht : (pc : Int) + off = (tgt : Int)) (kt : ft = some o → V p l e R s m args below meth c g nL A k n Q X pl lv tgt st) (kf : ¬ x = c9 → fb = some o → V p l e R s m args below meth c g nL A k n Q X pl lv pc (.int x :: st)) : V p l e R s m args below meth c g nL A k n Q X pl lv pc (.int x :: st) := by
  by_cases hc : x = c9
  · rw [if_pos hc] at h
    subst hc
    exact fun H locs ls hP hD hS hl => lv_tableIn C.1.1 C.1.2.1 hdg h1 h2 ho ht (kt h H locs ls hP hD hS hl)
  · rw [if_neg hc] at h
    exact kf hc h
theorem v_dflt (C : Cx p s m args c g nL A cc Ts own) {dflt lo hi : Int} {offs : Array Int} {len : Nat} {x : Int32} (tgt : Nat) (hdg : decode cc pc = .ok (.tableswitch dflt lo hi offs, len)) (hout : x.toInt < lo ∨ hi < x.toInt) (ht : (pc : Int) + dflt = (tgt : Int)) (kk : V p l e R s m args below meth c g nL A k n Q X pl lv tgt st) : V p l e R s m args below meth c g nL A k n Q X pl lv pc (.int x :: st) := fun H locs ls hP hD hS hl => lv_tableOut C.1.1 C.1.2.1 hdg hout ht (kk H locs ls hP hD hS hl)
theorem v_aald (C : Cx p s m args c g nL A cc Ts own) {N a : Nat} {f : Nat → Option Nat} {i : Int32} {kx : Option β} (h : chkA N i kx = some o) (q0 : Nat) (he : X[q0]? = some (a, .inl (g.2.2.2.2, N, .inr (.inr (.inr (.inr f)))))) (hdg : decode cc pc = .ok (.aaload, 1)) (hp : pc + 1 = pc') (kk : kx = some o → V p l e R s m args below meth c g nL A k n Q X pl lv pc' (va_rf (f i.toNatClampNeg) :: st)) : V p l e R s m args below meth c g nL A k n Q X pl lv pc (.int i :: .ref a :: st) := by
  subst hp
  unfold chkA at h
  by_cases hb9 : inB i N = true
  · rw [if_pos hb9] at h
    exact fun H locs ls hP hD hS hl => va_aldq (D := g.1) C.1.1 C.1.2.1 C.2.1 hP q0 3 (v_get_app he) rfl (inB_in hb9) hdg (kk h H locs ls hP hD hS hl)
  · rw [if_neg hb9] at h; cases h
theorem v_aast (C : Cx p s m args c g nL A cc Ts own) {N a v ci : Nat} {f : Nat → Option Nat} {i : Int32} {r : vw_C} {vs : List Value} (q0 qk : Nat) (he : X[q0]? = some (a, .inl (g.2.2.2.2, N, .inr (.inr (.inr (.inr f)))))) (hr : r.1 = RX2) (hv : X[qk]? = some (v, .inr (ci, vs))) (hc : vwCl[ci]? = some r) (hin : vp_in i N) (hX : X.set q0 (a, .inl (g.2.2.2.2, N, .inr (.inr (.inr (.inr (va_up f i.toNatClampNeg (some v))))))) = X') (hdg : decode cc pc = .ok (.aastore, 1)) (hp : pc + 1 = pc') (kk : V p l e R s m args below meth c g nL A k n Q X' pl lv pc' st) : V p l e R s m args below meth c g nL A k n Q X pl lv pc (.ref v :: .int i :: .ref a :: st) := by
  subst hp
  refine fun H locs ls hP hD hS hl => va_astq (D := g.1) C.1.1 C.1.2.1 C.2.1 hP hD hS q0 3 qk ci (v_get_app he) (by rw [hr]; rfl) (v_get_app hv) hc hin hdg (fun H1 locs1 hP1 hD1 hS1 => ?_)
  rw [v_set_app he, hX] at hP1 hD1
  exact kk H1 locs1 ls hP1 hD1 hS1 hl
theorem v_aload_nN (C : Cx p s m args c g nL A cc Ts own) {z : Fin 4} (q : Nat) (hdg : decode cc pc = .ok (.aload_n z, 1)) (hq : lv[q]? = some ((z : Nat), .null)) (hp : pc + 1 = pc') (kk : V p l e R s m args below meth c g nL A k n Q X pl lv pc' (.null :: st)) : V p l e R s m args below meth c g nL A k n Q X pl lv pc st := by
  subst hp
  exact fun H locs ls hP hD hS hl => lv_aload_nN C.1.1 C.1.2.1 hdg rfl (lv_at hl q hq) (kk H locs ls hP hD hS hl)
theorem v_astore_nN (C : Cx p s m args c g nL A cc Ts own) {z : Fin 4} (ks : List Nat) (hdg : decode cc pc = .ok (.astore_n z, 1)) (hn : (z : Nat) < nL) (hl9 : lv_pick (((z : Nat), Value.null) :: lv.filter (fun q => !(q.1 == (z : Nat)) && !(q.1 + 1 == (z : Nat) && q.2.category == 2))) ks = lv') (hp : pc + 1 = pc') (kk : V p l e R s m args below meth c g nL A k n Q X pl lv' pc' st) : V p l e R s m args below meth c g nL A k n Q X pl lv pc (.null :: st) := by
  subst hp
  exact fun H locs ls hP hD hS hl => lv_astore_nN C.1.1 C.1.2.1 hdg rfl hl hn rfl (fun ls' hl' => kk H locs ls' hP hD hS (lv_sub hl' ks hl9))
theorem va_P_mem {D : va_G} {cl : List vw_C} {ws : va_W} {H : Heap} : va_P D cl ws H ↔ ∀ q ∈ ws, va_at D cl q H :=
  ⟨fun h q hq => by obtain ⟨i, hi⟩ := List.getElem?_of_mem hq; exact h i q hi, fun h k q hk => h q (List.mem_of_getElem? hk)⟩
theorem va_D_mem {A : Nat → Prop} {ws : va_W} : va_D A ws ↔ (ws.map (fun q => q.1)).Nodup ∧ ∀ q ∈ ws, A q.1 := by
  constructor
  · intro h
    refine ⟨?_, fun q hq => by obtain ⟨i, hi⟩ := List.getElem?_of_mem hq; exact h.2 i q hi⟩
    rw [List.Nodup, List.pairwise_iff_getElem]
    intro i j hi hj hij he
    rw [List.length_map] at hi hj
    rw [List.getElem_map, List.getElem_map] at he
    have := h.1 i j _ _ (List.getElem?_eq_getElem hi) (List.getElem?_eq_getElem hj) he
    omega
  · intro h
    refine ⟨fun i j p q hi hj he => ?_, fun k q hk => h.2 q (List.mem_of_getElem? hk)⟩
    obtain ⟨hi1, hi2⟩ := List.getElem?_eq_some_iff.mp hi
    obtain ⟨hj1, hj2⟩ := List.getElem?_eq_some_iff.mp hj
    have hp := h.1
    rw [List.Nodup, List.pairwise_iff_getElem] at hp
    rcases Nat.lt_trichotomy i j with q9 | q9 | q9
    · exact absurd (by rw [List.getElem_map, List.getElem_map, hi2, hj2]; exact he) (hp i j (by rw [List.length_map]; exact hi1) (by rw [List.length_map]; exact hj1) q9)
    · exact q9
    · exact absurd (by rw [List.getElem_map, List.getElem_map, hi2, hj2]; exact he.symm) (hp j i (by rw [List.length_map]; exact hj1) (by rw [List.length_map]; exact hi1) q9)
theorem va_P_perm {D : va_G} {cl : List vw_C} {ws ws' : va_W} {H : Heap} (h : ws.Perm ws') (hP : va_P D cl ws H) : va_P D cl ws' H := va_P_mem.mpr (fun q hq => va_P_mem.mp hP q (h.mem_iff.mpr hq))
theorem va_D_perm {A : Nat → Prop} {ws ws' : va_W} (h : ws.Perm ws') (hD : va_D A ws) : va_D A ws' := va_D_mem.mpr ⟨((h.map (fun q => q.1)).nodup_iff).mp (va_D_mem.mp hD).1, fun q hq => (va_D_mem.mp hD).2 q (h.mem_iff.mpr hq)⟩
theorem v_perm {pl' : va_W} (h : (X ++ pl).Perm (X' ++ pl')) (kk : V p l e R s m args below meth c g nL A k n Q X' pl' lv pc st) : V p l e R s m args below meth c g nL A k n Q X pl lv pc st := fun H locs ls hP hD hS hl => kk H locs ls (va_P_perm h hP) (va_D_perm h hD) hS hl
end VV
