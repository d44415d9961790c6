/-! OUR WORLD: every cell of the class and of the reference has a number; what they hold stands in three tables (ints, longs, the Checker's text) -/
abbrev xG : Type := (Nat → Nat) × Nat × (Nat → ClassId) × (Nat → Nat → Nat) × (Nat → ClassId)
abbrev xHp : Type := (Nat → Nat → Int32) × (Nat → Nat → Int64) × Nat
abbrev xad (G : xG) : Nat → Nat := G.1
abbrev xbase (G : xG) : Nat := G.2.1
abbrev xD (G : xG) : va_G := (G.2.2.1, G.2.2.2.1)
abbrev xcy (G : xG) : Nat → ClassId := G.2.2.2.2
def xA (G : xG) : Nat → Prop := fun q => xbase G ≤ q
abbrev xNC : Nat := 78
-- cell 0: S
-- cell 1: net
-- cell 2: net.from
-- cell 3: net.to
-- cell 4: net.most
-- cell 5: net.row
-- cell 6: net.least
-- cell 7: net.values
-- cell 8: least0
-- cell 9: least1
-- cell 10: least2
-- cell 11: least3
-- cell 12: least4
-- cell 13: least5
-- cell 14: least6
-- cell 15: least7
-- cell 16: least8
-- cell 17: least9
-- cell 18: least10
-- cell 19: least11
-- cell 20: least12
-- cell 21: least13
-- cell 22: least14
-- cell 23: least15
-- cell 24: levelPlaces
-- cell 25: coreRow
-- cell 26: tape
-- cell 27: tape.bytes
-- cell 28: proof
-- cell 29: proof.bytes
-- cell 30: formula
-- cell 31: formula.lesser
-- cell 32: formula.greater
-- cell 33: formula.most
-- cell 34: formula.given
-- cell 35: formula.codes
-- cell 36: formula.stack
-- cell 37: draft
-- cell 38: draft.lesser
-- cell 39: draft.greater
-- cell 40: draft.most
-- cell 41: draft.given
-- cell 42: draft.codes
-- cell 43: draft.stack
-- cell 44: reader
-- cell 45: marks
-- cell 46: scanner
-- cell 47: table
-- cell 48: isWay
-- cell 49: writer
-- cell 50: checker
-- cell 51: model
-- cell 52: m.cX
-- cell 53: m.cY
-- cell 54: m.cC
-- cell 55: m.isThere
-- cell 56: m.levelAt
-- cell 57: m.coreRow
-- cell 58: m.least
-- cell 59: m.row
-- cell 60: m.values
-- cell 61: m.tape
-- cell 62: m.aX
-- cell 63: m.aY
-- cell 64: m.aC
-- cell 65: m.step
-- cell 66: m.newX
-- cell 67: m.newY
-- cell 68: m.newC
-- cell 69: m.newStep
-- cell 70: m.waits
-- cell 71: m.truth
-- cell 72: m.pile
-- cell 73: m.writtenRow
-- cell 74: m.proof
-- cell 75: m.openAtom
-- cell 76: m.isSecond
-- cell 77: out
def xcells (G : xG) (f : Nat → Int32) (g : Nat → Int64) (t : Nat) : List va_E := [
  .inr (8, [.ref (xad G 1), .ref (xad G 24), .int (f 2), .ref (xad G 25), .int (f 4), .ref (xad G 26), .ref (xad G 28), .ref (xad G 30), .ref (xad G 37), .int (f 9), .int (f 10), .ref (xad G 44), .ref (xad G 47), .ref (xad G 49), .ref (xad G 50)]),
  .inr (2, [.ref (xad G 2), .ref (xad G 3), .ref (xad G 4), .int (f 3), .ref (xad G 5), .int (f 5), .ref (xad G 6), .int (f 7), .ref (xad G 7)]),
  .inl (xcy G 1, 70, .inl f),
  .inl (xcy G 1, 70, .inl f),
  .inl (xcy G 1, 70, .inl f),
  .inl (xcy G 1, 16, .inl f),
  .inl (xcy G 4, 16, .inr (.inr (.inr (.inr (fun j => if j < 16 then some (xad G (8 + j)) else none))))),
  .inl (xcy G 2, 16, .inr (.inl g)),
  .inl (xcy G 2, 16, .inr (.inl g)),
  .inl (xcy G 2, 16, .inr (.inl g)),
  .inl (xcy G 2, 16, .inr (.inl g)),
  .inl (xcy G 2, 16, .inr (.inl g)),
  .inl (xcy G 2, 16, .inr (.inl g)),
  .inl (xcy G 2, 16, .inr (.inl g)),
  .inl (xcy G 2, 16, .inr (.inl g)),
  .inl (xcy G 2, 16, .inr (.inl g)),
  .inl (xcy G 2, 16, .inr (.inl g)),
  .inl (xcy G 2, 16, .inr (.inl g)),
  .inl (xcy G 2, 16, .inr (.inl g)),
  .inl (xcy G 2, 16, .inr (.inl g)),
  .inl (xcy G 2, 16, .inr (.inl g)),
  .inl (xcy G 2, 16, .inr (.inl g)),
  .inl (xcy G 2, 16, .inr (.inl g)),
  .inl (xcy G 2, 16, .inr (.inl g)),
  .inl (xcy G 1, 20, .inl f),
  .inl (xcy G 1, 16, .inl f),
  .inr (6, [.ref (xad G 27), .int (f 1)]),
  .inl (xcy G 0, 400, .inl f),
  .inr (6, [.ref (xad G 29), .int (f 1)]),
  .inl (xcy G 0, 6000, .inl f),
  .inr (1, [.ref (xad G 31), .ref (xad G 32), .ref (xad G 33), .int (f 3), .ref (xad G 34), .ref (xad G 35), .int (f 6), .ref (xad G 36)]),
  .inl (xcy G 1, 10, .inl f),
  .inl (xcy G 1, 10, .inl f),
  .inl (xcy G 1, 10, .inl f),
  .inl (xcy G 1, 10, .inl f),
  .inl (xcy G 1, 240, .inl f),
  .inl (xcy G 1, 32, .inl f),
  .inr (1, [.ref (xad G 38), .ref (xad G 39), .ref (xad G 40), .int (f 3), .ref (xad G 41), .ref (xad G 42), .int (f 6), .ref (xad G 43)]),
  .inl (xcy G 1, 10, .inl f),
  .inl (xcy G 1, 10, .inl f),
  .inl (xcy G 1, 10, .inl f),
  .inl (xcy G 1, 10, .inl f),
  .inl (xcy G 1, 240, .inl f),
  .inl (xcy G 1, 32, .inl f),
  .inr (3, [.ref (xad G 46), .ref (xad G 37), .ref (xad G 45), .int (f 3), .int (f 4), .int (f 5), .int (f 6), .int (f 7), .int (f 8), .int (f 9), .int (f 10)]),
  .inl (xcy G 1, 64, .inl f),
  .inr (4, [.ref (xad G 26), .int (f 1), .int (f 2), .int (f 3), .int (f 4)]),
  .inr (5, [.ref (xad G 48), .int (f 1), .int (f 2), .ref (xad G 30), .ref (xad G 1)]),
  .inl (xcy G 3, 1024, .inl f),
  .inr (7, [.ref (xad G 30), .ref (xad G 1), .ref (xad G 28), .int (f 3), .int (f 4)]),
  .inr (0, [.ref (xad G 30), .ref (xad G 1), .ref (xad G t), .int (f 3), .int (f 4), .int (f 5), .int (f 6), .long (g 7)]),
  .inr (9, [.int (f 0), .int (f 1), .ref (xad G 52), .ref (xad G 53), .ref (xad G 54), .ref (xad G 55), .int (f 6), .ref (xad G 56), .int (f 8), .ref (xad G 57), .ref (xad G 58), .ref (xad G 59), .int (f 12), .ref (xad G 60), .ref (xad G 61), .int (f 15), .int (f 16), .int (f 17), .int (f 18), .int (f 19), .int (f 20), .int (f 21), .int (f 22), .int (f 23), .int (f 24), .ref (xad G 62), .ref (xad G 63), .ref (xad G 64), .int (f 28), .ref (xad G 65), .int (f 30), .ref (xad G 66), .ref (xad G 67), .ref (xad G 68), .int (f 34), .ref (xad G 69), .ref (xad G 70), .int (f 37), .int (f 38), .int (f 39), .ref (xad G 71), .ref (xad G 72), .ref (xad G 73), .int (f 43), .ref (xad G 74), .int (f 45), .int (f 46), .int (f 47), .ref (xad G 75), .ref (xad G 76), .int (f 50), .int (f 51), .int (f 52)]),
  .inl (xcy G 1, 70, .inl f),
  .inl (xcy G 1, 70, .inl f),
  .inl (xcy G 1, 70, .inl f),
  .inl (xcy G 3, 70, .inl f),
  .inl (xcy G 1, 20, .inl f),
  .inl (xcy G 1, 20, .inl f),
  .inl (xcy G 2, 272, .inr (.inl g)),
  .inl (xcy G 1, 20, .inl f),
  .inl (xcy G 2, 16, .inr (.inl g)),
  .inl (xcy G 1, 400, .inl f),
  .inl (xcy G 1, 10, .inl f),
  .inl (xcy G 1, 10, .inl f),
  .inl (xcy G 1, 10, .inl f),
  .inl (xcy G 1, 1000, .inl f),
  .inl (xcy G 1, 12, .inl f),
  .inl (xcy G 1, 12, .inl f),
  .inl (xcy G 1, 12, .inl f),
  .inl (xcy G 1, 1000, .inl f),
  .inl (xcy G 1, 400, .inl f),
  .inl (xcy G 1, 10, .inl f),
  .inl (xcy G 1, 400, .inl f),
  .inl (xcy G 1, 6001, .inl f),
  .inl (xcy G 1, 6001, .inl f),
  .inl (xcy G 1, 11, .inl f),
  .inl (xcy G 3, 11, .inl f),
  .inl (xcy G 2, 1, .inr (.inl g))]

def xcell (G : xG) (i : Nat) (f : Nat → Int32) (g : Nat → Int64) (t : Nat) : va_E := if 8 ≤ i ∧ i < 24 then .inl (xcy G 2, 16, .inr (.inl g)) else (xcells G f g t).getD i (.inl (xcy G 2, 0, .inr (.inl g)))
def xwd (G : xG) (h : xHp) : va_W := (List.range xNC).map (fun i => (xad G i, xcell G i (h.1 i) (h.2.1 i) h.2.2))
def xgood (G : xG) : Prop := (∀ i, i < xNC → xbase G ≤ xad G i) ∧ ∀ i j, i < xNC → j < xNC → xad G i = xad G j → i = j
abbrev xtys (G : xG) : List (ClassId × FieldType) := [(xcy G 0, .byte), (xcy G 1, .int), (xcy G 2, .long), (xcy G 3, .boolean), (xcy G 4, .array .long)]
theorem xcell_row (G : xG) {i : Nat} (h1 : 8 ≤ i) (h2 : i < 24) (f : Nat → Int32) (g : Nat → Int64) (t : Nat) : xcell G i f g t = .inl (xcy G 2, 16, .inr (.inl g)) := if_pos ⟨h1, h2⟩
theorem xwd_get {G : xG} {h : xHp} {i : Nat} (hi : i < xNC) : (xwd G h)[i]? = some (xad G i, xcell G i (h.1 i) (h.2.1 i) h.2.2) := by
  unfold xwd
  rw [List.getElem?_map, List.getElem?_range hi]
  rfl
theorem xwd_len {G : xG} {h : xHp} : (xwd G h).length = xNC := by simp [xwd]
theorem xwd_lt {G : xG} {h : xHp} {i : Nat} {x : Nat × va_E} (hx : (xwd G h)[i]? = some x) : i < xNC := by
  have := (List.getElem?_eq_some_iff.mp hx).1
  rwa [xwd_len] at this
theorem xwd_setI {G : xG} {h : xHp} {c : Nat} {f : Nat → Int32} : (xwd G h).set c (xad G c, xcell G c f (h.2.1 c) h.2.2) = xwd G (va_up h.1 c f, h.2) := by
  apply List.ext_getElem?
  intro i
  by_cases hi : i < xNC
  · rw [xwd_get hi]
    by_cases hc : c = i
    · subst hc
      rw [List.getElem?_set_self (by rw [xwd_len]; exact hi)]
      simp only [va_up_self]
    · rw [List.getElem?_set_ne hc, xwd_get hi]
      simp only [va_up_ne _ _ (Ne.symm hc)]
  · rw [List.getElem?_eq_none (by rw [List.length_set, xwd_len]; omega), List.getElem?_eq_none (by rw [xwd_len]; omega)]
theorem xwd_setJ {G : xG} {h : xHp} {c : Nat} {f : Nat → Int64} : (xwd G h).set c (xad G c, xcell G c (h.1 c) f h.2.2) = xwd G (h.1, va_up h.2.1 c f, h.2.2) := by
  apply List.ext_getElem?
  intro i
  by_cases hi : i < xNC
  · rw [xwd_get hi]
    by_cases hc : c = i
    · subst hc
      rw [List.getElem?_set_self (by rw [xwd_len]; exact hi)]
      simp only [va_up_self]
    · rw [List.getElem?_set_ne hc, xwd_get hi]
      simp only [va_up_ne _ _ (Ne.symm hc)]
  · rw [List.getElem?_eq_none (by rw [List.length_set, xwd_len]; omega), List.getElem?_eq_none (by rw [xwd_len]; omega)]
theorem xwd_D {G : xG} {h : xHp} (hG : xgood G) : va_D (xA G) (xwd G h) := by
  refine ⟨fun i j p q hp hq e => ?_, fun k q hk => ?_⟩
  · have hi := xwd_lt hp
    have hj := xwd_lt hq
    rw [xwd_get hi] at hp
    rw [xwd_get hj] at hq
    cases hp
    cases hq
    exact hG.2 i j hi hj e
  · have hi := xwd_lt hk
    rw [xwd_get hi] at hk
    cases hk
    exact hG.1 k hi
/-! the pure pieces of a method's function -/
def bnd {α β : Type} (a : α) (f : α → β) : β := f a
def grd {α : Type} (b : Bool) (o : Option α) : Option α := if b then o else none
def xin (i : Int32) (n : Nat) : Bool := decide (¬ (i < 0 ∨ n ≤ i.toNatClampNeg))
def bnd2 {α β γ : Type} (o : Option (α × β)) (f : α → β → Option γ) : Option γ := match o with
  | none => none
  | some q => f q.1 q.2
def xit {α : Type} (b : α → α) (z : α) : Nat → α
  | 0 => z
  | n + 1 => b (xit b z n)
def gI (h : xHp) (c k : Nat) : Int32 := h.1 c k
def gJ (h : xHp) (c k : Nat) : Int64 := h.2.1 c k
def sI (h : xHp) (c k : Nat) (v : Int32) : xHp := (va_up h.1 c (upd (h.1 c) k v), h.2)
def sJ (h : xHp) (c k : Nat) (v : Int64) : xHp := (h.1, va_up h.2.1 c (vp_updL (h.2.1 c) k v), h.2.2)
def sT (h : xHp) (t : Nat) : xHp := (h.1, h.2.1, t)
/-- what stands fast while a method runs -/
def xC (G : xG) (p : Program) (s : State) (m : MethodId) (args : Array Value) (meth : Method) (c : Code) (cc : ByteArray) (nL : Nat) (Ts : List Cond) (own : String) : Prop :=
  p.tables.exec = Jvm.exec ∧ c.code = cc ∧ c.maxLocals = nL ∧ s.vm.findClass own = some m.cls ∧ (∀ w ∈ Ts, w.before args s = true) ∧ va_K (xD G) vwCl (xtys G) s ∧ xgood G ∧ xbase G ≤ s.heap.size ∧ meth.locks = false
/-- the machine at pc comes to an end that the function's answer o tells -/
def xJ {Rt : Type} (G : xG) (p : Program) (l : Launch) (e : Env) (R : Room) (s : State) (m : MethodId) (args : Array Value) (below : List Frame) (meth : Method) (c : Code) (nL : Nat) (Qf : Rt → State → Prop) (pc : Nat) (lv : List (Nat × Value)) (st : List Value) (h : xHp) (o : Option Rt) : Prop :=
  ∀ res, o = some res → ∀ (H : Heap) (locs : List Loc) (ls : Array Slot), va_P (xD G) vwCl (xwd G h) H → va_S (xA G) s.heap H locs → lv_has ls nL lv → W p l e R s m args below meth c H locs 0 0 (Qf res) (F0 m pc ls st)
section XR
variable {G : xG} {p : Program} {l : Launch} {e : Env} {R : Room} {s : State} {m : MethodId} {args : Array Value} {below : List Frame} {meth : Method} {c : Code} {nL : Nat} {Rt : Type} {Qf : Rt → State → Prop} {cc : ByteArray} {Ts : List Cond} {own : String} {pc : Nat} {lv lv' : List (Nat × Value)} {st : List Value} {h : xHp} {o o1 o2 : Option Rt}
theorem x_none : xJ G p l e R s m args below meth c nL Qf pc lv st h none := fun _ hr => by cases hr
theorem x_sub (ks : List Nat) (hl : lv_pick lv ks = lv') (k : xJ G p l e R s m args below meth c nL Qf pc lv' st h o) : xJ G p l e R s m args below meth c nL Qf pc lv st h o := fun res hr H locs ls hP hS h1 => k res hr H locs ls hP hS (lv_sub h1 ks hl)
theorem x_iconst (C : xC G p s m args meth c cc nL Ts own) {n : Int} {v : Int32} (hd : decode cc pc = .ok (.iconst n, 1)) (hv : Int32.ofInt n = v) (k : xJ G p l e R s m args below meth c nL Qf (pc + 1) lv (.int v :: st) h o) : xJ G p l e R s m args below meth c nL Qf pc lv st h o := fun res hr H locs ls hP hS h1 => lv_iconst C.1 C.2.1 hd hv (k res hr H locs ls hP hS h1)
theorem x_bipush (C : xC G p s m args meth c cc nL Ts own) {n : Int} {v : Int32} (hd : decode cc pc = .ok (.bipush n, 2)) (hv : (Int8.ofInt n).toInt32 = v) (k : xJ G p l e R s m args below meth c nL Qf (pc + 2) lv (.int v :: st) h o) : xJ G p l e R s m args below meth c nL Qf pc lv st h o := fun res hr H locs ls hP hS h1 => lv_bipush C.1 C.2.1 hd hv (k res hr H locs ls hP hS h1)
theorem x_sipush (C : xC G p s m args meth c cc nL Ts own) {n : Int} {v : Int32} (hd : decode cc pc = .ok (.sipush n, 3)) (hv : (Int16.ofInt n).toInt32 = v) (k : xJ G p l e R s m args below meth c nL Qf (pc + 3) lv (.int v :: st) h o) : xJ G p l e R s m args below meth c nL Qf pc lv st h o := fun res hr H locs ls hP hS h1 => lv_sipush C.1 C.2.1 hd hv (k res hr H locs ls hP hS h1)
theorem x_lconst (C : xC G p s m args meth c cc nL Ts own) {n : Fin 2} {v : Int64} (hd : decode cc pc = .ok (.lconst n, 1)) (hv : Int64.ofNat (n : Nat) = v) (k : xJ G p l e R s m args below meth c nL Qf (pc + 1) lv (.long v :: st) h o) : xJ G p l e R s m args below meth c nL Qf pc lv st h o := fun res hr H locs ls hP hS h1 => lv_lconst C.1 C.2.1 hd hv (k res hr H locs ls hP hS h1)
theorem x_ldc (C : xC G p s m args meth c cc nL Ts own) {idx : Nat} {v : Int32} (hd : decode cc pc = .ok (.ldc idx, 2)) (hc : (Jvm.Cond.constant own idx v).before args s = true) (k : xJ G p l e R s m args below meth c nL Qf (pc + 2) lv (.int v :: st) h o) : xJ G p l e R s m args below meth c nL Qf pc lv st h o := fun res hr H locs ls hP hS h1 => lv_ldc C.1 C.2.1 C.2.2.2.1 hc hd (k res hr H locs ls hP hS h1)
theorem x_ldcw (C : xC G p s m args meth c cc nL Ts own) {idx : Nat} {v : Int32} (hd : decode cc pc = .ok (.ldc_w idx, 3)) (hc : (Jvm.Cond.constant own idx v).before args s = true) (k : xJ G p l e R s m args below meth c nL Qf (pc + 3) lv (.int v :: st) h o) : xJ G p l e R s m args below meth c nL Qf pc lv st h o := fun res hr H locs ls hP hS h1 => lv_ldcw C.1 C.2.1 C.2.2.2.1 hc hd (k res hr H locs ls hP hS h1)
theorem x_ldc2 (C : xC G p s m args meth c cc nL Ts own) {idx : Nat} {v : Int64} (hd : decode cc pc = .ok (.ldc2_w idx, 3)) (hc : (Jvm.Cond.constantLong own idx v).before args s = true) (k : xJ G p l e R s m args below meth c nL Qf (pc + 3) lv (.long v :: st) h o) : xJ G p l e R s m args below meth c nL Qf pc lv st h o := fun res hr H locs ls hP hS h1 => lv_ldc2 C.1 C.2.1 C.2.2.2.1 hc hd (k res hr H locs ls hP hS h1)
theorem x_iload_n (C : xC G p s m args meth c cc nL Ts own) {k : Fin 4} {i : Nat} {x : Int32} (hd : decode cc pc = .ok (.iload_n k, 1)) (hi : (k : Nat) = i) (j : Nat) (hj : lv[j]? = some (i, .int x)) (kk : xJ G p l e R s m args below meth c nL Qf (pc + 1) lv (.int x :: st) h o) : xJ G p l e R s m args below meth c nL Qf pc lv st h o := fun res hr H locs ls hP hS h1 => lv_iload_n C.1 C.2.1 hd hi (lv_at h1 j hj) (kk res hr H locs ls hP hS h1)
theorem x_iload (C : xC G p s m args meth c cc nL Ts own) {i : Nat} {x : Int32} (hd : decode cc pc = .ok (.iload i, 2)) (j : Nat) (hj : lv[j]? = some (i, .int x)) (kk : xJ G p l e R s m args below meth c nL Qf (pc + 2) lv (.int x :: st) h o) : xJ G p l e R s m args below meth c nL Qf pc lv st h o := fun res hr H locs ls hP hS h1 => lv_iload C.1 C.2.1 hd (lv_at h1 j hj) (kk res hr H locs ls hP hS h1)
theorem x_lload_n (C : xC G p s m args meth c cc nL Ts own) {k : Fin 4} {i : Nat} {x : Int64} (hd : decode cc pc = .ok (.lload_n k, 1)) (hi : (k : Nat) = i) (j : Nat) (hj : lv[j]? = some (i, .long x)) (kk : xJ G p l e R s m args below meth c nL Qf (pc + 1) lv (.long x :: st) h o) : xJ G p l e R s m args below meth c nL Qf pc lv st h o := fun res hr H locs ls hP hS h1 => lv_lload_n C.1 C.2.1 hd hi (lv_at h1 j hj) (kk res hr H locs ls hP hS h1)
theorem x_lload (C : xC G p s m args meth c cc nL Ts own) {i : Nat} {x : Int64} (hd : decode cc pc = .ok (.lload i, 2)) (j : Nat) (hj : lv[j]? = some (i, .long x)) (kk : xJ G p l e R s m args below meth c nL Qf (pc + 2) lv (.long x :: st) h o) : xJ G p l e R s m args below meth c nL Qf pc lv st h o := fun res hr H locs ls hP hS h1 => lv_lload C.1 C.2.1 hd (lv_at h1 j hj) (kk res hr H locs ls hP hS h1)
theorem x_aload_n (C : xC G p s m args meth c cc nL Ts own) {k : Fin 4} {i : Nat} {x : Nat} (hd : decode cc pc = .ok (.aload_n k, 1)) (hi : (k : Nat) = i) (j : Nat) (hj : lv[j]? = some (i, .ref x)) (kk : xJ G p l e R s m args below meth c nL Qf (pc + 1) lv (.ref x :: st) h o) : xJ G p l e R s m args below meth c nL Qf pc lv st h o := fun res hr H locs ls hP hS h1 => lv_aload_n C.1 C.2.1 hd hi (lv_at h1 j hj) (kk res hr H locs ls hP hS h1)
theorem x_aload (C : xC G p s m args meth c cc nL Ts own) {i : Nat} {x : Nat} (hd : decode cc pc = .ok (.aload i, 2)) (j : Nat) (hj : lv[j]? = some (i, .ref x)) (kk : xJ G p l e R s m args below meth c nL Qf (pc + 2) lv (.ref x :: st) h o) : xJ G p l e R s m args below meth c nL Qf pc lv st h o := fun res hr H locs ls hP hS h1 => lv_aload C.1 C.2.1 hd (lv_at h1 j hj) (kk res hr H locs ls hP hS h1)
theorem x_istore_n (C : xC G p s m args meth c cc nL Ts own) {k : Fin 4} {i : Nat} {x : Int32} (hd : decode cc pc = .ok (.istore_n k, 1)) (hi : (k : Nat) = i) (hn : i < nL) (hl : (i, Value.int x) :: lv.filter (fun q => !(q.1 == i) && !(q.1 + 1 == i && q.2.category == 2)) = lv') (kk : xJ G p l e R s m args below meth c nL Qf (pc + 1) lv' st h o) : xJ G p l e R s m args below meth c nL Qf pc lv (.int x :: st) h o := fun res hr H locs _ hP hS h1 => lv_istore_n C.1 C.2.1 hd hi h1 hn hl (fun ls' h2 => kk res hr H locs ls' hP hS h2)
theorem x_istore (C : xC G p s m args meth c cc nL Ts own) {i : Nat} {x : Int32} (hd : decode cc pc = .ok (.istore i, 2)) (hn : i < nL) (hl : (i, Value.int x) :: lv.filter (fun q => !(q.1 == i) && !(q.1 + 1 == i && q.2.category == 2)) = lv') (kk : xJ G p l e R s m args below meth c nL Qf (pc + 2) lv' st h o) : xJ G p l e R s m args below meth c nL Qf pc lv (.int x :: st) h o := fun res hr H locs _ hP hS h1 => lv_istore C.1 C.2.1 hd h1 hn hl (fun ls' h2 => kk res hr H locs ls' hP hS h2)
theorem x_lstore_n (C : xC G p s m args meth c cc nL Ts own) {k : Fin 4} {i : Nat} {x : Int64} (hd : decode cc pc = .ok (.lstore_n k, 1)) (hi : (k : Nat) = i) (hn : i + 1 < nL) (hl : (i, Value.long x) :: lv.filter (fun q => !(q.1 == i) && (!(q.1 == i + 1) && !(q.1 + 1 == i && q.2.category == 2))) = lv') (kk : xJ G p l e R s m args below meth c nL Qf (pc + 1) lv' st h o) : xJ G p l e R s m args below meth c nL Qf pc lv (.long x :: st) h o := fun res hr H locs _ hP hS h1 => lv_lstore_n C.1 C.2.1 hd hi h1 hn hl (fun ls' h2 => kk res hr H locs ls' hP hS h2)
theorem x_lstore (C : xC G p s m args meth c cc nL Ts own) {i : Nat} {x : Int64} (hd : decode cc pc = .ok (.lstore i, 2)) (hn : i + 1 < nL) (hl : (i, Value.long x) :: lv.filter (fun q => !(q.1 == i) && (!(q.1 == i + 1) && !(q.1 + 1 == i && q.2.category == 2))) = lv') (kk : xJ G p l e R s m args below meth c nL Qf (pc + 2) lv' st h o) : xJ G p l e R s m args below meth c nL Qf pc lv (.long x :: st) h o := fun res hr H locs _ hP hS h1 => lv_lstore C.1 C.2.1 hd h1 hn hl (fun ls' h2 => kk res hr H locs ls' hP hS h2)
theorem x_iinc (C : xC G p s m args meth c cc nL Ts own) {i j : Nat} {n : Int} {x v : Int32} (hd : decode cc pc = .ok (.iinc i n, 3)) (hj : lv[j]? = some (i, .int x)) (hv : x + Int32.ofInt n = v) (hn : i < nL) (hl : (i, Value.int v) :: lv.filter (fun q => !(q.1 == i) && !(q.1 + 1 == i && q.2.category == 2)) = lv') (kk : xJ G p l e R s m args below meth c nL Qf (pc + 3) lv' st h o) : xJ G p l e R s m args below meth c nL Qf pc lv st h o := fun res hr H locs _ hP hS h1 => lv_iinc C.1 C.2.1 hd h1 hj hv hn hl (fun ls' h2 => kk res hr H locs ls' hP hS h2)
theorem x_iadd (C : xC G p s m args meth c cc nL Ts own) {x y : Int32} (hd : decode cc pc = .ok (.iadd, 1)) (k : xJ G p l e R s m args below meth c nL Qf (pc + 1) lv (.int (x + y) :: st) h o) : xJ G p l e R s m args below meth c nL Qf pc lv (.int y :: .int x :: st) h o := fun res hr H locs ls hP hS h1 => lv_iadd C.1 C.2.1 hd (k res hr H locs ls hP hS h1)
theorem x_isub (C : xC G p s m args meth c cc nL Ts own) {x y : Int32} (hd : decode cc pc = .ok (.isub, 1)) (k : xJ G p l e R s m args below meth c nL Qf (pc + 1) lv (.int (x - y) :: st) h o) : xJ G p l e R s m args below meth c nL Qf pc lv (.int y :: .int x :: st) h o := fun res hr H locs ls hP hS h1 => lv_isub C.1 C.2.1 hd (k res hr H locs ls hP hS h1)
theorem x_imul (C : xC G p s m args meth c cc nL Ts own) {x y : Int32} (hd : decode cc pc = .ok (.imul, 1)) (k : xJ G p l e R s m args below meth c nL Qf (pc + 1) lv (.int (x * y) :: st) h o) : xJ G p l e R s m args below meth c nL Qf pc lv (.int y :: .int x :: st) h o := fun res hr H locs ls hP hS h1 => lv_imul C.1 C.2.1 hd (k res hr H locs ls hP hS h1)
theorem x_iand (C : xC G p s m args meth c cc nL Ts own) {x y : Int32} (hd : decode cc pc = .ok (.iand, 1)) (k : xJ G p l e R s m args below meth c nL Qf (pc + 1) lv (.int (x &&& y) :: st) h o) : xJ G p l e R s m args below meth c nL Qf pc lv (.int y :: .int x :: st) h o := fun res hr H locs ls hP hS h1 => lv_iand C.1 C.2.1 hd (k res hr H locs ls hP hS h1)
theorem x_ishl (C : xC G p s m args meth c cc nL Ts own) {x y : Int32} (hd : decode cc pc = .ok (.ishl, 1)) (k : xJ G p l e R s m args below meth c nL Qf (pc + 1) lv (.int (x <<< (y &&& 31)) :: st) h o) : xJ G p l e R s m args below meth c nL Qf pc lv (.int y :: .int x :: st) h o := fun res hr H locs ls hP hS h1 => lv_ishl C.1 C.2.1 hd (k res hr H locs ls hP hS h1)
theorem x_ishr (C : xC G p s m args meth c cc nL Ts own) {x y : Int32} (hd : decode cc pc = .ok (.ishr, 1)) (k : xJ G p l e R s m args below meth c nL Qf (pc + 1) lv (.int (x >>> (y &&& 31)) :: st) h o) : xJ G p l e R s m args below meth c nL Qf pc lv (.int y :: .int x :: st) h o := fun res hr H locs ls hP hS h1 => lv_ishr C.1 C.2.1 hd (k res hr H locs ls hP hS h1)
theorem x_ladd (C : xC G p s m args meth c cc nL Ts own) {x y : Int64} (hd : decode cc pc = .ok (.ladd, 1)) (k : xJ G p l e R s m args below meth c nL Qf (pc + 1) lv (.long (x + y) :: st) h o) : xJ G p l e R s m args below meth c nL Qf pc lv (.long y :: .long x :: st) h o := fun res hr H locs ls hP hS h1 => lv_ladd C.1 C.2.1 hd (k res hr H locs ls hP hS h1)
theorem x_lsub (C : xC G p s m args meth c cc nL Ts own) {x y : Int64} (hd : decode cc pc = .ok (.lsub, 1)) (k : xJ G p l e R s m args below meth c nL Qf (pc + 1) lv (.long (x - y) :: st) h o) : xJ G p l e R s m args below meth c nL Qf pc lv (.long y :: .long x :: st) h o := fun res hr H locs ls hP hS h1 => lv_lsub C.1 C.2.1 hd (k res hr H locs ls hP hS h1)
theorem x_land (C : xC G p s m args meth c cc nL Ts own) {x y : Int64} (hd : decode cc pc = .ok (.land, 1)) (k : xJ G p l e R s m args below meth c nL Qf (pc + 1) lv (.long (x &&& y) :: st) h o) : xJ G p l e R s m args below meth c nL Qf pc lv (.long y :: .long x :: st) h o := fun res hr H locs ls hP hS h1 => lv_land C.1 C.2.1 hd (k res hr H locs ls hP hS h1)
theorem x_lor (C : xC G p s m args meth c cc nL Ts own) {x y : Int64} (hd : decode cc pc = .ok (.lor, 1)) (k : xJ G p l e R s m args below meth c nL Qf (pc + 1) lv (.long (x ||| y) :: st) h o) : xJ G p l e R s m args below meth c nL Qf pc lv (.long y :: .long x :: st) h o := fun res hr H locs ls hP hS h1 => lv_lor C.1 C.2.1 hd (k res hr H locs ls hP hS h1)
theorem x_ineg (C : xC G p s m args meth c cc nL Ts own) {x : Int32} (hd : decode cc pc = .ok (.ineg, 1)) (k : xJ G p l e R s m args below meth c nL Qf (pc + 1) lv (.int (-x) :: st) h o) : xJ G p l e R s m args below meth c nL Qf pc lv (.int x :: st) h o := fun res hr H locs ls hP hS h1 => lv_ineg C.1 C.2.1 hd (k res hr H locs ls hP hS h1)
theorem x_i2l (C : xC G p s m args meth c cc nL Ts own) {x : Int32} (hd : decode cc pc = .ok (.i2l, 1)) (k : xJ G p l e R s m args below meth c nL Qf (pc + 1) lv (.long x.toInt64 :: st) h o) : xJ G p l e R s m args below meth c nL Qf pc lv (.int x :: st) h o := fun res hr H locs ls hP hS h1 => lv_i2l C.1 C.2.1 hd rfl (k res hr H locs ls hP hS h1)
theorem x_l2i (C : xC G p s m args meth c cc nL Ts own) {x : Int64} (hd : decode cc pc = .ok (.l2i, 1)) (k : xJ G p l e R s m args below meth c nL Qf (pc + 1) lv (.int x.toInt32 :: st) h o) : xJ G p l e R s m args below meth c nL Qf pc lv (.long x :: st) h o := fun res hr H locs ls hP hS h1 => lv_l2i C.1 C.2.1 hd rfl (k res hr H locs ls hP hS h1)
theorem x_i2b (C : xC G p s m args meth c cc nL Ts own) {x : Int32} (hd : decode cc pc = .ok (.i2b, 1)) (k : xJ G p l e R s m args below meth c nL Qf (pc + 1) lv (.int x.toInt8.toInt32 :: st) h o) : xJ G p l e R s m args below meth c nL Qf pc lv (.int x :: st) h o := fun res hr H locs ls hP hS h1 => lv_i2b C.1 C.2.1 hd rfl (k res hr H locs ls hP hS h1)
theorem x_lushr (C : xC G p s m args meth c cc nL Ts own) {x : Int64} {y : Int32} (hd : decode cc pc = .ok (.lushr, 1)) (k : xJ G p l e R s m args below meth c nL Qf (pc + 1) lv (.long (x.toUInt64 >>> (y.toInt64.toUInt64 &&& Int64.toUInt64 63)).toInt64 :: st) h o) : xJ G p l e R s m args below meth c nL Qf pc lv (.int y :: .long x :: st) h o := fun res hr H locs ls hP hS h1 => lv_lushr C.1 C.2.1 hd rfl (k res hr H locs ls hP hS h1)
theorem x_lshr (C : xC G p s m args meth c cc nL Ts own) {x : Int64} {y : Int32} (hd : decode cc pc = .ok (.lshr, 1)) (k : xJ G p l e R s m args below meth c nL Qf (pc + 1) lv (.long (x >>> (y.toInt64 &&& 63)) :: st) h o) : xJ G p l e R s m args below meth c nL Qf pc lv (.int y :: .long x :: st) h o := fun res hr H locs ls hP hS h1 => lv_lshr C.1 C.2.1 hd rfl (k res hr H locs ls hP hS h1)
theorem x_lshl (C : xC G p s m args meth c cc nL Ts own) {x : Int64} {y : Int32} (hd : decode cc pc = .ok (.lshl, 1)) (k : xJ G p l e R s m args below meth c nL Qf (pc + 1) lv (.long (x <<< (y.toInt64 &&& 63)) :: st) h o) : xJ G p l e R s m args below meth c nL Qf pc lv (.int y :: .long x :: st) h o := fun res hr H locs ls hP hS h1 => lv_lshl C.1 C.2.1 hd rfl (k res hr H locs ls hP hS h1)
theorem x_lcmp (C : xC G p s m args meth c cc nL Ts own) {x y : Int64} (hd : decode cc pc = .ok (.lcmp, 1)) (k : xJ G p l e R s m args below meth c nL Qf (pc + 1) lv (.int (lg_cmp x y) :: st) h o) : xJ G p l e R s m args below meth c nL Qf pc lv (.long y :: .long x :: st) h o := fun res hr H locs ls hP hS h1 => W.lcmp C.1 C.2.1 hd (k res hr H locs ls hP hS h1)
theorem x_idiv (C : xC G p s m args meth c cc nL Ts own) {x y : Int32} (hd : decode cc pc = .ok (.idiv, 1)) (hy : ¬ y = 0) (k : xJ G p l e R s m args below meth c nL Qf (pc + 1) lv (.int (x / y) :: st) h o) : xJ G p l e R s m args below meth c nL Qf pc lv (.int y :: .int x :: st) h o := fun res hr H locs ls hP hS h1 => lv_idiv C.1 C.2.1 hd hy (k res hr H locs ls hP hS h1)
theorem x_irem (C : xC G p s m args meth c cc nL Ts own) {x y : Int32} (hd : decode cc pc = .ok (.irem, 1)) (hy : ¬ y = 0) (k : xJ G p l e R s m args below meth c nL Qf (pc + 1) lv (.int (x - x / y * y) :: st) h o) : xJ G p l e R s m args below meth c nL Qf pc lv (.int y :: .int x :: st) h o := fun res hr H locs ls hP hS h1 => lv_irem C.1 C.2.1 hd hy (k res hr H locs ls hP hS h1)
theorem x_dup (C : xC G p s m args meth c cc nL Ts own) {v : Value} (hd : decode cc pc = .ok (.dup, 1)) (hv : v.category = 1) (k : xJ G p l e R s m args below meth c nL Qf (pc + 1) lv (v :: v :: st) h o) : xJ G p l e R s m args below meth c nL Qf pc lv (v :: st) h o := fun res hr H locs ls hP hS h1 => lv_dup C.1 C.2.1 hd hv (k res hr H locs ls hP hS h1)
theorem x_pop (C : xC G p s m args meth c cc nL Ts own) {v : Value} (hd : decode cc pc = .ok (.pop, 1)) (hv : v.category = 1) (k : xJ G p l e R s m args below meth c nL Qf (pc + 1) lv st h o) : xJ G p l e R s m args below meth c nL Qf pc lv (v :: st) h o := fun res hr H locs ls hP hS h1 => lv_pop C.1 C.2.1 hd hv (k res hr H locs ls hP hS h1)
theorem x_goto (C : xC G p s m args meth c cc nL Ts own) {off : Int} {tgt : Nat} (hd : decode cc pc = .ok (.goto off, 3)) (ht : (pc : Int) + off = (tgt : Int)) (k : xJ G p l e R s m args below meth c nL Qf tgt lv st h o) : xJ G p l e R s m args below meth c nL Qf pc lv st h o := fun res hr H locs ls hP hS h1 => lv_goto C.1 C.2.1 hd ht (k res hr H locs ls hP hS h1)
theorem x_if_eq (C : xC G p s m args meth c cc nL Ts own) {x : Int32} {off : Int} {tgt : Nat} (hd : decode cc pc = .ok (.ifCond .eq off, 3)) (ht : (pc : Int) + off = (tgt : Int)) (kt : xJ G p l e R s m args below meth c nL Qf tgt lv st h o1) (kf : xJ G p l e R s m args below meth c nL Qf (pc + 3) lv st h o2) : xJ G p l e R s m args below meth c nL Qf pc lv (.int x :: st) h (if x = 0 then o1 else o2) := fun res hr H locs ls hP hS h1 => lv_if_eq C.1 C.2.1 hd ht (fun hc => kt res ((if_pos hc).symm.trans hr) H locs ls hP hS h1) (fun hc => kf res ((if_neg hc).symm.trans hr) H locs ls hP hS h1)
theorem x_icmp_eq (C : xC G p s m args meth c cc nL Ts own) {x y : Int32} {off : Int} {tgt : Nat} (hd : decode cc pc = .ok (.if_icmp .eq off, 3)) (ht : (pc : Int) + off = (tgt : Int)) (kt : xJ G p l e R s m args below meth c nL Qf tgt lv st h o1) (kf : xJ G p l e R s m args below meth c nL Qf (pc + 3) lv st h o2) : xJ G p l e R s m args below meth c nL Qf pc lv (.int y :: .int x :: st) h (if x = y then o1 else o2) := fun res hr H locs ls hP hS h1 => lv_icmp_eq C.1 C.2.1 hd ht (fun hc => kt res ((if_pos hc).symm.trans hr) H locs ls hP hS h1) (fun hc => kf res ((if_neg hc).symm.trans hr) H locs ls hP hS h1)
theorem x_if_ne (C : xC G p s m args meth c cc nL Ts own) {x : Int32} {off : Int} {tgt : Nat} (hd : decode cc pc = .ok (.ifCond .ne off, 3)) (ht : (pc : Int) + off = (tgt : Int)) (kt : xJ G p l e R s m args below meth c nL Qf (pc + 3) lv st h o1) (kf : xJ G p l e R s m args below meth c nL Qf tgt lv st h o2) : xJ G p l e R s m args below meth c nL Qf pc lv (.int x :: st) h (if x = 0 then o1 else o2) := fun res hr H locs ls hP hS h1 => lv_if_ne C.1 C.2.1 hd ht (fun hc => kf res ((if_neg hc).symm.trans hr) H locs ls hP hS h1) (fun hc => kt res ((if_pos hc).symm.trans hr) H locs ls hP hS h1)
theorem x_icmp_ne (C : xC G p s m args meth c cc nL Ts own) {x y : Int32} {off : Int} {tgt : Nat} (hd : decode cc pc = .ok (.if_icmp .ne off, 3)) (ht : (pc : Int) + off = (tgt : Int)) (kt : xJ G p l e R s m args below meth c nL Qf (pc + 3) lv st h o1) (kf : xJ G p l e R s m args below meth c nL Qf tgt lv st h o2) : xJ G p l e R s m args below meth c nL Qf pc lv (.int y :: .int x :: st) h (if x = y then o1 else o2) := fun res hr H locs ls hP hS h1 => lv_icmp_ne C.1 C.2.1 hd ht (fun hc => kf res ((if_neg hc).symm.trans hr) H locs ls hP hS h1) (fun hc => kt res ((if_pos hc).symm.trans hr) H locs ls hP hS h1)
theorem x_if_lt (C : xC G p s m args meth c cc nL Ts own) {x : Int32} {off : Int} {tgt : Nat} (hd : decode cc pc = .ok (.ifCond .lt off, 3)) (ht : (pc : Int) + off = (tgt : Int)) (kt : xJ G p l e R s m args below meth c nL Qf tgt lv st h o1) (kf : xJ G p l e R s m args below meth c nL Qf (pc + 3) lv st h o2) : xJ G p l e R s m args below meth c nL Qf pc lv (.int x :: st) h (if x < 0 then o1 else o2) := fun res hr H locs ls hP hS h1 => lv_if_lt C.1 C.2.1 hd ht (fun hc => kt res ((if_pos hc).symm.trans hr) H locs ls hP hS h1) (fun hc => kf res ((if_neg hc).symm.trans hr) H locs ls hP hS h1)
theorem x_icmp_lt (C : xC G p s m args meth c cc nL Ts own) {x y : Int32} {off : Int} {tgt : Nat} (hd : decode cc pc = .ok (.if_icmp .lt off, 3)) (ht : (pc : Int) + off = (tgt : Int)) (kt : xJ G p l e R s m args below meth c nL Qf tgt lv st h o1) (kf : xJ G p l e R s m args below meth c nL Qf (pc + 3) lv st h o2) : xJ G p l e R s m args below meth c nL Qf pc lv (.int y :: .int x :: st) h (if x < y then o1 else o2) := fun res hr H locs ls hP hS h1 => lv_icmp_lt C.1 C.2.1 hd ht (fun hc => kt res ((if_pos hc).symm.trans hr) H locs ls hP hS h1) (fun hc => kf res ((if_neg hc).symm.trans hr) H locs ls hP hS h1)
theorem x_if_ge (C : xC G p s m args meth c cc nL Ts own) {x : Int32} {off : Int} {tgt : Nat} (hd : decode cc pc = .ok (.ifCond .ge off, 3)) (ht : (pc : Int) + off = (tgt : Int)) (kt : xJ G p l e R s m args below meth c nL Qf tgt lv st h o1) (kf : xJ G p l e R s m args below meth c nL Qf (pc + 3) lv st h o2) : xJ G p l e R s m args below meth c nL Qf pc lv (.int x :: st) h (if 0 ≤ x then o1 else o2) := fun res hr H locs ls hP hS h1 => lv_if_ge C.1 C.2.1 hd ht (fun hc => kt res ((if_pos hc).symm.trans hr) H locs ls hP hS h1) (fun hc => kf res ((if_neg hc).symm.trans hr) H locs ls hP hS h1)
theorem x_icmp_ge (C : xC G p s m args meth c cc nL Ts own) {x y : Int32} {off : Int} {tgt : Nat} (hd : decode cc pc = .ok (.if_icmp .ge off, 3)) (ht : (pc : Int) + off = (tgt : Int)) (kt : xJ G p l e R s m args below meth c nL Qf tgt lv st h o1) (kf : xJ G p l e R s m args below meth c nL Qf (pc + 3) lv st h o2) : xJ G p l e R s m args below meth c nL Qf pc lv (.int y :: .int x :: st) h (if y ≤ x then o1 else o2) := fun res hr H locs ls hP hS h1 => lv_icmp_ge C.1 C.2.1 hd ht (fun hc => kt res ((if_pos hc).symm.trans hr) H locs ls hP hS h1) (fun hc => kf res ((if_neg hc).symm.trans hr) H locs ls hP hS h1)
theorem x_if_gt (C : xC G p s m args meth c cc nL Ts own) {x : Int32} {off : Int} {tgt : Nat} (hd : decode cc pc = .ok (.ifCond .gt off, 3)) (ht : (pc : Int) + off = (tgt : Int)) (kt : xJ G p l e R s m args below meth c nL Qf tgt lv st h o1) (kf : xJ G p l e R s m args below meth c nL Qf (pc + 3) lv st h o2) : xJ G p l e R s m args below meth c nL Qf pc lv (.int x :: st) h (if 0 < x then o1 else o2) := fun res hr H locs ls hP hS h1 => lv_if_gt C.1 C.2.1 hd ht (fun hc => kt res ((if_pos hc).symm.trans hr) H locs ls hP hS h1) (fun hc => kf res ((if_neg hc).symm.trans hr) H locs ls hP hS h1)
theorem x_icmp_gt (C : xC G p s m args meth c cc nL Ts own) {x y : Int32} {off : Int} {tgt : Nat} (hd : decode cc pc = .ok (.if_icmp .gt off, 3)) (ht : (pc : Int) + off = (tgt : Int)) (kt : xJ G p l e R s m args below meth c nL Qf tgt lv st h o1) (kf : xJ G p l e R s m args below meth c nL Qf (pc + 3) lv st h o2) : xJ G p l e R s m args below meth c nL Qf pc lv (.int y :: .int x :: st) h (if y < x then o1 else o2) := fun res hr H locs ls hP hS h1 => lv_icmp_gt C.1 C.2.1 hd ht (fun hc => kt res ((if_pos hc).symm.trans hr) H locs ls hP hS h1) (fun hc => kf res ((if_neg hc).symm.trans hr) H locs ls hP hS h1)
theorem x_if_le (C : xC G p s m args meth c cc nL Ts own) {x : Int32} {off : Int} {tgt : Nat} (hd : decode cc pc = .ok (.ifCond .le off, 3)) (ht : (pc : Int) + off = (tgt : Int)) (kt : xJ G p l e R s m args below meth c nL Qf tgt lv st h o1) (kf : xJ G p l e R s m args below meth c nL Qf (pc + 3) lv st h o2) : xJ G p l e R s m args below meth c nL Qf pc lv (.int x :: st) h (if x ≤ 0 then o1 else o2) := fun res hr H locs ls hP hS h1 => lv_if_le C.1 C.2.1 hd ht (fun hc => kt res ((if_pos hc).symm.trans hr) H locs ls hP hS h1) (fun hc => kf res ((if_neg hc).symm.trans hr) H locs ls hP hS h1)
theorem x_icmp_le (C : xC G p s m args meth c cc nL Ts own) {x y : Int32} {off : Int} {tgt : Nat} (hd : decode cc pc = .ok (.if_icmp .le off, 3)) (ht : (pc : Int) + off = (tgt : Int)) (kt : xJ G p l e R s m args below meth c nL Qf tgt lv st h o1) (kf : xJ G p l e R s m args below meth c nL Qf (pc + 3) lv st h o2) : xJ G p l e R s m args below meth c nL Qf pc lv (.int y :: .int x :: st) h (if x ≤ y then o1 else o2) := fun res hr H locs ls hP hS h1 => lv_icmp_le C.1 C.2.1 hd ht (fun hc => kt res ((if_pos hc).symm.trans hr) H locs ls hP hS h1) (fun hc => kf res ((if_neg hc).symm.trans hr) H locs ls hP hS h1)
/-- a field that is an int, a long or a reference -/
theorem x_get (C : xC G p s m args meth c cc nL Ts own) {i ci N idx : Nat} {fs : List Value} {T : u_T} {Cn ref : String} (k : Nat) {v : Value} (hd : decode cc pc = .ok (.getfield idx, 3)) (hc : xcell G i (h.1 i) (h.2.1 i) h.2.2 = .inr (ci, fs)) (hv : fs[k]? = some v) (hi : i < xNC) (hcl : vwCl[ci]? = some (Cn, T, N)) (hin : ∀ w ∈ u_ws Cn T N, w ∈ Ts) (hk : k < N) (hr : ref = (T k).1) (hlink : (Cond.fieldLink own idx ref (T k).2.1 (T k).2.2.1).before args s = true) (kk : xJ G p l e R s m args below meth c nL Qf (pc + 3) lv (v :: st) h o) : xJ G p l e R s m args below meth c nL Qf pc lv (.ref (xad G i) :: st) h o := fun res hr1 H locs ls hP hS h1 => va_get C.1 C.2.1 C.2.2.2.2.1 hin C.2.2.2.1 C.2.2.2.2.2.1 hP i ((xwd_get hi).trans (by rw [hc])) hcl k hk hlink (fun x hx => by rw [hr]; exact hx) hv hd (kk res hr1 H locs ls hP hS h1)
/-- a row of xcell's facts: how an int field is put -/
theorem x_putI (C : xC G p s m args meth c cc nL Ts own) {i ci N idx : Nat} {fs : List Value} {T : u_T} {Cn ref : String} {ty0 : Nat → FieldType} {ty : FieldType} (k : Nat) {v : Int32} {f : xHp → Option Rt} (hd : decode cc pc = .ok (.putfield idx, 3)) (hc : xcell G i (h.1 i) (h.2.1 i) h.2.2 = .inr (ci, fs)) (hc2 : xcell G i (upd (h.1 i) k v) (h.2.1 i) h.2.2 = .inr (ci, fs.set k (.int v))) (hl : k < fs.length) (hi : i < xNC) (hcl : vwCl[ci]? = some (Cn, T, N)) (hin : ∀ w ∈ u_ws Cn T N, w ∈ Ts) (hty : ∀ k, k < N → parseFieldDescriptor (T k).2.2.1 = some (ty0 k)) (hnm : ∀ a, a < N → ∀ b, b < N → a ≠ b → (T a).2.1 ≠ (T b).2.1) (hk : k < N) (hr : ref = (T k).1) (hfin : (T k).2.2.2 = false) (hpd : parseFieldDescriptor (T k).2.2.1 = some ty) (hn : narrow ty (.int v) = .int v) (hfit : fits ty (.int v) = true) (hlink : (Cond.fieldLink own idx ref (T k).2.1 (T k).2.2.1).before args s = true) (kk : ∀ h1 : xHp, xJ G p l e R s m args below meth c nL Qf (pc + 3) lv st h1 (f h1)) : xJ G p l e R s m args below meth c nL Qf pc lv (.int v :: .ref (xad G i) :: st) h (bnd (sI h i k v) f) := fun res hr1 H locs ls hP hS h1 => by
  refine va_put C.1 C.2.1 C.2.2.2.2.1 hin ty0 hty hnm C.2.2.2.1 C.2.2.2.2.2.1 hP (xwd_D C.2.2.2.2.2.2.1) hS i ((xwd_get hi).trans (by rw [hc])) hcl k hk hlink (fun x hx => by rw [hr]; exact hx) hfin hpd hn hfit hl hd (fun H1 locs1 hP1 _ hS1 => ?_)
  rw [← hc2, xwd_setI] at hP1
  exact kk (sI h i k v) res hr1 H1 locs1 ls hP1 hS1 h1
theorem x_putJ (C : xC G p s m args meth c cc nL Ts own) {i ci N idx : Nat} {fs : List Value} {T : u_T} {Cn ref : String} {ty0 : Nat → FieldType} {ty : FieldType} (k : Nat) {v : Int64} {f : xHp → Option Rt} (hd : decode cc pc = .ok (.putfield idx, 3)) (hc : xcell G i (h.1 i) (h.2.1 i) h.2.2 = .inr (ci, fs)) (hc2 : xcell G i (h.1 i) (vp_updL (h.2.1 i) k v) h.2.2 = .inr (ci, fs.set k (.long v))) (hl : k < fs.length) (hi : i < xNC) (hcl : vwCl[ci]? = some (Cn, T, N)) (hin : ∀ w ∈ u_ws Cn T N, w ∈ Ts) (hty : ∀ k, k < N → parseFieldDescriptor (T k).2.2.1 = some (ty0 k)) (hnm : ∀ a, a < N → ∀ b, b < N → a ≠ b → (T a).2.1 ≠ (T b).2.1) (hk : k < N) (hr : ref = (T k).1) (hfin : (T k).2.2.2 = false) (hpd : parseFieldDescriptor (T k).2.2.1 = some ty) (hn : narrow ty (.long v) = .long v) (hfit : fits ty (.long v) = true) (hlink : (Cond.fieldLink own idx ref (T k).2.1 (T k).2.2.1).before args s = true) (kk : ∀ h1 : xHp, xJ G p l e R s m args below meth c nL Qf (pc + 3) lv st h1 (f h1)) : xJ G p l e R s m args below meth c nL Qf pc lv (.long v :: .ref (xad G i) :: st) h (bnd (sJ h i k v) f) := fun res hr1 H locs ls hP hS h1 => by
  refine va_put C.1 C.2.1 C.2.2.2.2.1 hin ty0 hty hnm C.2.2.2.1 C.2.2.2.2.2.1 hP (xwd_D C.2.2.2.2.2.2.1) hS i ((xwd_get hi).trans (by rw [hc])) hcl k hk hlink (fun x hx => by rw [hr]; exact hx) hfin hpd hn hfit hl hd (fun H1 locs1 hP1 _ hS1 => ?_)
  rw [← hc2, xwd_setJ] at hP1
  exact kk (sJ h i k v) res hr1 H1 locs1 ls hP1 hS1 h1
theorem xin_of {i : Int32} {n : Nat} (h : xin i n = true) : vp_in i n := by
  show ¬ (i < 0 ∨ n ≤ i.toNatClampNeg)
  exact of_decide_eq_true h
theorem grd_of {α : Type} {b : Bool} {o : Option α} {r : α} (h : grd b o = some r) : b = true ∧ o = some r := by
  cases b with
  | true => exact ⟨rfl, h⟩
  | false => cases h
/-- arrays of ints -/
theorem x_iald (C : xC G p s m args meth c cc nL Ts own) {a n : Nat} {i : Int32} (hd : decode cc pc = .ok (.iaload, 1)) (hc : xcell G a (h.1 a) (h.2.1 a) h.2.2 = .inl (xcy G 1, n, .inl (h.1 a))) (ha : a < xNC) (kk : xJ G p l e R s m args below meth c nL Qf (pc + 1) lv (.int (gI h a i.toNatClampNeg) :: st) h o) : xJ G p l e R s m args below meth c nL Qf pc lv (.int i :: .ref (xad G a) :: st) h (grd (xin i n) o) := fun res hr H locs ls hP hS h1 => va_iald (f := h.1 a) C.1 C.2.1 C.2.2.2.2.2.1 hP a 1 ((xwd_get ha).trans (by rw [hc])) rfl (xin_of (grd_of hr).1) hd (kk res (grd_of hr).2 H locs ls hP hS h1)
theorem x_zald (C : xC G p s m args meth c cc nL Ts own) {a n : Nat} {i : Int32} (hd : decode cc pc = .ok (.baload, 1)) (hc : xcell G a (h.1 a) (h.2.1 a) h.2.2 = .inl (xcy G 3, n, .inl (h.1 a))) (ha : a < xNC) (kk : xJ G p l e R s m args below meth c nL Qf (pc + 1) lv (.int (gI h a i.toNatClampNeg) :: st) h o) : xJ G p l e R s m args below meth c nL Qf pc lv (.int i :: .ref (xad G a) :: st) h (grd (xin i n) o) := fun res hr H locs ls hP hS h1 => va_zald (f := h.1 a) C.1 C.2.1 C.2.2.2.2.2.1 hP a 3 ((xwd_get ha).trans (by rw [hc])) rfl (xin_of (grd_of hr).1) hd (kk res (grd_of hr).2 H locs ls hP hS h1)
theorem x_bald (C : xC G p s m args meth c cc nL Ts own) {a n : Nat} {i : Int32} (hd : decode cc pc = .ok (.baload, 1)) (hc : xcell G a (h.1 a) (h.2.1 a) h.2.2 = .inl (xcy G 0, n, .inl (h.1 a))) (ha : a < xNC) (kk : xJ G p l e R s m args below meth c nL Qf (pc + 1) lv (.int (gI h a i.toNatClampNeg) :: st) h o) : xJ G p l e R s m args below meth c nL Qf pc lv (.int i :: .ref (xad G a) :: st) h (grd (xin i n) o) := fun res hr H locs ls hP hS h1 => va_bald (f := h.1 a) C.1 C.2.1 C.2.2.2.2.2.1 hP a 0 ((xwd_get ha).trans (by rw [hc])) rfl (xin_of (grd_of hr).1) hd (kk res (grd_of hr).2 H locs ls hP hS h1)
theorem x_lald (C : xC G p s m args meth c cc nL Ts own) {a n : Nat} {i : Int32} (hd : decode cc pc = .ok (.laload, 1)) (hc : xcell G a (h.1 a) (h.2.1 a) h.2.2 = .inl (xcy G 2, n, .inr (.inl (h.2.1 a)))) (ha : a < xNC) (kk : xJ G p l e R s m args below meth c nL Qf (pc + 1) lv (.long (gJ h a i.toNatClampNeg) :: st) h o) : xJ G p l e R s m args below meth c nL Qf pc lv (.int i :: .ref (xad G a) :: st) h (grd (xin i n) o) := fun res hr H locs ls hP hS h1 => va_lald (f := h.2.1 a) C.1 C.2.1 C.2.2.2.2.2.1 hP a 2 ((xwd_get ha).trans (by rw [hc])) rfl (xin_of (grd_of hr).1) hd (kk res (grd_of hr).2 H locs ls hP hS h1)
theorem x_iast (C : xC G p s m args meth c cc nL Ts own) {a n : Nat} {i x : Int32} {f : xHp → Option Rt} (hd : decode cc pc = .ok (.iastore, 1)) (hc : ∀ g : Nat → Int32, xcell G a g (h.2.1 a) h.2.2 = .inl (xcy G 1, n, .inl g)) (ha : a < xNC) (kk : ∀ h1 : xHp, xJ G p l e R s m args below meth c nL Qf (pc + 1) lv st h1 (f h1)) : xJ G p l e R s m args below meth c nL Qf pc lv (.int x :: .int i :: .ref (xad G a) :: st) h (grd (xin i n) (bnd (sI h a i.toNatClampNeg x) f)) := fun res hr H locs ls hP hS h1 => by
  refine va_iast C.1 C.2.1 C.2.2.2.2.2.1 hP (xwd_D C.2.2.2.2.2.2.1) hS a 1 ((xwd_get ha).trans (by rw [hc])) rfl (xin_of (grd_of hr).1) hd (fun H1 locs1 hP1 _ hS1 => ?_)
  rw [← hc, xwd_setI] at hP1
  exact kk _ res (grd_of hr).2 H1 locs1 ls hP1 hS1 h1
theorem x_zast (C : xC G p s m args meth c cc nL Ts own) {a n : Nat} {i x : Int32} {f : xHp → Option Rt} (hd : decode cc pc = .ok (.bastore, 1)) (hc : ∀ g : Nat → Int32, xcell G a g (h.2.1 a) h.2.2 = .inl (xcy G 3, n, .inl g)) (ha : a < xNC) (kk : ∀ h1 : xHp, xJ G p l e R s m args below meth c nL Qf (pc + 1) lv st h1 (f h1)) : xJ G p l e R s m args below meth c nL Qf pc lv (.int x :: .int i :: .ref (xad G a) :: st) h (grd (xin i n) (bnd (sI h a i.toNatClampNeg (vp_nar .boolean x)) f)) := fun res hr H locs ls hP hS h1 => by
  refine va_zast C.1 C.2.1 C.2.2.2.2.2.1 hP (xwd_D C.2.2.2.2.2.2.1) hS a 3 ((xwd_get ha).trans (by rw [hc])) rfl (xin_of (grd_of hr).1) hd (fun H1 locs1 hP1 _ hS1 => ?_)
  rw [← hc, xwd_setI] at hP1
  exact kk _ res (grd_of hr).2 H1 locs1 ls hP1 hS1 h1
theorem x_bast (C : xC G p s m args meth c cc nL Ts own) {a n : Nat} {i x : Int32} {f : xHp → Option Rt} (hd : decode cc pc = .ok (.bastore, 1)) (hc : ∀ g : Nat → Int32, xcell G a g (h.2.1 a) h.2.2 = .inl (xcy G 0, n, .inl g)) (ha : a < xNC) (kk : ∀ h1 : xHp, xJ G p l e R s m args below meth c nL Qf (pc + 1) lv st h1 (f h1)) : xJ G p l e R s m args below meth c nL Qf pc lv (.int x :: .int i :: .ref (xad G a) :: st) h (grd (xin i n) (bnd (sI h a i.toNatClampNeg (vp_nar .byte x)) f)) := fun res hr H locs ls hP hS h1 => by
  refine va_bast C.1 C.2.1 C.2.2.2.2.2.1 hP (xwd_D C.2.2.2.2.2.2.1) hS a 0 ((xwd_get ha).trans (by rw [hc])) rfl (xin_of (grd_of hr).1) hd (fun H1 locs1 hP1 _ hS1 => ?_)
  rw [← hc, xwd_setI] at hP1
  exact kk _ res (grd_of hr).2 H1 locs1 ls hP1 hS1 h1
theorem x_last (C : xC G p s m args meth c cc nL Ts own) {a n : Nat} {i : Int32} {x : Int64} {f : xHp → Option Rt} (hd : decode cc pc = .ok (.lastore, 1)) (hc : ∀ g : Nat → Int64, xcell G a (h.1 a) g h.2.2 = .inl (xcy G 2, n, .inr (.inl g))) (ha : a < xNC) (kk : ∀ h1 : xHp, xJ G p l e R s m args below meth c nL Qf (pc + 1) lv st h1 (f h1)) : xJ G p l e R s m args below meth c nL Qf pc lv (.long x :: .int i :: .ref (xad G a) :: st) h (grd (xin i n) (bnd (sJ h a i.toNatClampNeg x) f)) := fun res hr H locs ls hP hS h1 => by
  refine va_last C.1 C.2.1 C.2.2.2.2.2.1 hP (xwd_D C.2.2.2.2.2.2.1) hS a 2 ((xwd_get ha).trans (by rw [hc])) rfl (xin_of (grd_of hr).1) hd (fun H1 locs1 hP1 _ hS1 => ?_)
  rw [← hc, xwd_setJ] at hP1
  exact kk _ res (grd_of hr).2 H1 locs1 ls hP1 hS1 h1
/-- a row of the square of longs: cell 6 holds the cells 8 .. 23 -/
theorem x_aald (C : xC G p s m args meth c cc nL Ts own) {i : Int32} {a : Nat} (hd : decode cc pc = .ok (.aaload, 1)) (ha : 8 + i.toNatClampNeg = a) (kk : i.toNatClampNeg < 16 → xJ G p l e R s m args below meth c nL Qf (pc + 1) lv (.ref (xad G a) :: st) h o) : xJ G p l e R s m args below meth c nL Qf pc lv (.int i :: .ref (xad G 6) :: st) h (grd (xin i 16) o) := fun res hr H locs ls hP hS h1 => by
  subst ha
  have hin : vp_in i 16 := xin_of (grd_of hr).1
  have hlt : i.toNatClampNeg < 16 := Nat.not_le.mp fun q => hin (Or.inr q)
  have hcell : H[xad G 6]? = some (vp_cell (xcy G 4) (16, .inr (.inr (.inr (.inr (fun j => if j < 16 then some (xad G (8 + j)) else none)))))) := hP 6 _ (xwd_get (by decide))
  refine W.aald (v := .ref (xad G (8 + i.toNatClampNeg))) (ty := .array .long) C.1 C.2.1 hcell ((C.2.2.2.2.2.1.2 4 _ rfl).1 16 (fun j => va_rf (if j < 16 then some (xad G (8 + j)) else none))) rfl (fun q => by cases q) (by show ¬ (i < 0 ∨ (arrV _ _ _).slots.size ≤ _); rw [arrV_size]; exact hin) (by show (arrV _ _ _).slots[_]? = _; rw [arrV_read _ _ hlt]; show some (va_rf (if i.toNatClampNeg < 16 then some (xad G (8 + i.toNatClampNeg)) else none)) = _; rw [if_pos hlt]; rfl) rfl rfl hd (kk hlt res (grd_of hr).2 H locs ls hP hS h1)
theorem x_alen (C : xC G p s m args meth c cc nL Ts own) {a t0 : Nat} {x : vp_A} {cA : ClassId} {ty : FieldType} {v : Int32} (hd : decode cc pc = .ok (.arraylength, 1)) (hc : xcell G a (h.1 a) (h.2.1 a) h.2.2 = .inl (cA, x)) (ht : (xtys G)[t0]? = some (cA, ty)) (hv : Int32.ofNat x.1 = v) (ha : a < xNC) (kk : xJ G p l e R s m args below meth c nL Qf (pc + 1) lv (.int v :: st) h o) : xJ G p l e R s m args below meth c nL Qf pc lv (.ref (xad G a) :: st) h o := fun res hr H locs ls hP hS h1 => va_alen C.1 C.2.1 C.2.2.2.2.2.1 hP a t0 ((xwd_get ha).trans (by rw [hc])) ht hv hd (kk res hr H locs ls hP hS h1)
end XR
/-! contracts: a method's world is the whole; what it may change lies from the base on -/
def xPc (G : xG) (as : List Value) (h : xHp) : Array Value → State → Prop := va_Pc as (fun U => va_P (xD G) vwCl (xwd G h) U.heap ∧ va_K (xD G) vwCl (xtys G) U ∧ xgood G ∧ xbase G ≤ U.heap.size)
def xQi (G : xG) (r : Int32 × xHp) : Array Value → State → Outcome → State → Prop := va_Qi (fun (r1 : Int32) (u : xHp) => (r1, u) = r) (fun u t => va_P (xD G) vwCl (xwd G u) t.heap) (xA G)
def xQl (G : xG) (r : Int64 × xHp) : Array Value → State → Outcome → State → Prop := va_Ql (fun (r1 : Int64) (u : xHp) => (r1, u) = r) (fun u t => va_P (xD G) vwCl (xwd G u) t.heap) (xA G)
def xQv (G : xG) (r : Unit × xHp) : Array Value → State → Outcome → State → Prop := va_Qv (fun (u : xHp) => ((), u) = r) (fun u t => va_P (xD G) vwCl (xwd G u) t.heap) (xA G)
theorem xPc_blind {G : xG} {as : List Value} {h : xHp} : FrameBlind (xPc G as h) := fun a U g mk q => by
  obtain ⟨q0, qP, qK, qg, qb⟩ := q
  exact ⟨q0, qP, va_K.moved (u := U) (U := U.calling g mk a) (Vm.Alike.refl U.vm) qK, qg, qb⟩
theorem bnd2_of {α β γ : Type} {o : Option (α × β)} {f : α → β → Option γ} {r : γ} (h : bnd2 o f = some r) : ∃ q, o = some q ∧ f q.1 q.2 = some r := by
  cases o with
  | none => cases h
  | some q => exact ⟨q, rfl, h⟩
section XM
variable {G : xG} {p : Program} {l : Launch} {e : Env} {R : Room} {s : State} {m : MethodId} {args : Array Value} {below : List Frame} {meth : Method} {c : Code} {nL : Nat} {Rt : Type} {Qf : Rt → State → Prop} {cc : ByteArray} {Ts : List Cond} {own : String} {pc : Nat} {lv lv' : List (Nat × Value)} {st st0 : List Value} {h : xHp}
variable {y : MethodName} {bytes : ByteArray} {maxL n idx : Nat} {ret : Option FieldType} {ws : List Cond} {rm : Room} {As : List Value}
theorem x_callVi (C : xC G p s m args meth c cc nL Ts own) {i ci N : Nat} {Cn : String} {T : u_T} {fs : List Value} {fo : Option (Int32 × xHp)} {f : Int32 → xHp → Option Rt} (hd : decode cc pc = .ok (.invokevirtual idx, 3)) (hM : ∀ r, fo = some r → Met l y ws rm (xPc G (.ref (xad G i) :: As) h) (xQi G r) 0 0 (xA G)) (cw : CallW R s args own Cn idx y bytes maxL ret ws rm 0 0 n) (hc : xcell G i (h.1 i) (h.2.1 i) h.2.2 = .inr (ci, fs)) (hi : i < xNC) (hcl : vwCl[ci]? = some (Cn, T, N)) (hn : As.length = n) (hstk : st0 = As.reverse ++ .ref (xad G i) :: st) (hroom : (st.map fun v => v.category).sum ≤ 8) (kk : ∀ r h1, xJ G p l e R s m args below meth c nL Qf (pc + 3) lv (.int r :: st) h1 (f r h1)) : xJ G p l e R s m args below meth c nL Qf pc lv st0 h (bnd2 fo f) := fun res hr H locs ls hP hS h1 => by
  obtain ⟨q, hq, hf⟩ := bnd2_of hr
  obtain ⟨hx, hb, hml, hown, hts, hK, hG, hbs, hlk⟩ := C
  refine va_calli (va_runV (As := As) (rest := st) ⟨hx, hb, hml, hown, hts⟩ (hM q hq) cw ⟨xPc_blind, va_recv hK hP hcl ((xwd_get hi).trans (by rw [hc])), fun U hU hW => ⟨rfl, by rw [hU]; exact hP, va_K.moved hW.alike hK, hG, by rw [hU]; exact Nat.le_trans hbs hS.1⟩⟩ rfl hn h1.1 hstk (lv_room hroom) hd ⟨Nat.zero_le _, Nat.zero_le _⟩) hS (fun q _ h => h) (fun q h => h) (fun r u t H1 locs1 ht hvm hw hB hz hk hS1 => ?_)
  subst hw
  rw [ht] at hB
  exact kk r u res hf H1 locs1 ls hB hS1 h1
theorem x_callVl (C : xC G p s m args meth c cc nL Ts own) {i ci N : Nat} {Cn : String} {T : u_T} {fs : List Value} {fo : Option (Int64 × xHp)} {f : Int64 → xHp → Option Rt} (hd : decode cc pc = .ok (.invokevirtual idx, 3)) (hM : ∀ r, fo = some r → Met l y ws rm (xPc G (.ref (xad G i) :: As) h) (xQl G r) 0 0 (xA G)) (cw : CallW R s args own Cn idx y bytes maxL ret ws rm 0 0 n) (hc : xcell G i (h.1 i) (h.2.1 i) h.2.2 = .inr (ci, fs)) (hi : i < xNC) (hcl : vwCl[ci]? = some (Cn, T, N)) (hn : As.length = n) (hstk : st0 = As.reverse ++ .ref (xad G i) :: st) (hroom : (st.map fun v => v.category).sum ≤ 8) (kk : ∀ r h1, xJ G p l e R s m args below meth c nL Qf (pc + 3) lv (.long r :: st) h1 (f r h1)) : xJ G p l e R s m args below meth c nL Qf pc lv st0 h (bnd2 fo f) := fun res hr H locs ls hP hS h1 => by
  obtain ⟨q, hq, hf⟩ := bnd2_of hr
  obtain ⟨hx, hb, hml, hown, hts, hK, hG, hbs, hlk⟩ := C
  refine va_calll (va_runV (As := As) (rest := st) ⟨hx, hb, hml, hown, hts⟩ (hM q hq) cw ⟨xPc_blind, va_recv hK hP hcl ((xwd_get hi).trans (by rw [hc])), fun U hU hW => ⟨rfl, by rw [hU]; exact hP, va_K.moved hW.alike hK, hG, by rw [hU]; exact Nat.le_trans hbs hS.1⟩⟩ rfl hn h1.1 hstk (lv_room hroom) hd ⟨Nat.zero_le _, Nat.zero_le _⟩) hS (fun q _ h => h) (fun q h => h) (fun r u t H1 locs1 ht hvm hw hB hz hk hS1 => ?_)
  subst hw
  rw [ht] at hB
  exact kk r u res hf H1 locs1 ls hB hS1 h1
theorem x_callVv (C : xC G p s m args meth c cc nL Ts own) {i ci N : Nat} {Cn : String} {T : u_T} {fs : List Value} {fo : Option (Unit × xHp)} {f : Unit → xHp → Option Rt} (hd : decode cc pc = .ok (.invokevirtual idx, 3)) (hM : ∀ r, fo = some r → Met l y ws rm (xPc G (.ref (xad G i) :: As) h) (xQv G r) 0 0 (xA G)) (cw : CallW R s args own Cn idx y bytes maxL ret ws rm 0 0 n) (hc : xcell G i (h.1 i) (h.2.1 i) h.2.2 = .inr (ci, fs)) (hi : i < xNC) (hcl : vwCl[ci]? = some (Cn, T, N)) (hn : As.length = n) (hstk : st0 = As.reverse ++ .ref (xad G i) :: st) (hroom : (st.map fun v => v.category).sum ≤ 8) (kk : ∀ r h1, xJ G p l e R s m args below meth c nL Qf (pc + 3) lv st h1 (f r h1)) : xJ G p l e R s m args below meth c nL Qf pc lv st0 h (bnd2 fo f) := fun res hr H locs ls hP hS h1 => by
  obtain ⟨q, hq, hf⟩ := bnd2_of hr
  obtain ⟨hx, hb, hml, hown, hts, hK, hG, hbs, hlk⟩ := C
  refine va_callv (va_runV (As := As) (rest := st) ⟨hx, hb, hml, hown, hts⟩ (hM q hq) cw ⟨xPc_blind, va_recv hK hP hcl ((xwd_get hi).trans (by rw [hc])), fun U hU hW => ⟨rfl, by rw [hU]; exact hP, va_K.moved hW.alike hK, hG, by rw [hU]; exact Nat.le_trans hbs hS.1⟩⟩ rfl hn h1.1 hstk (lv_room hroom) hd ⟨Nat.zero_le _, Nat.zero_le _⟩) hS (fun q _ h => h) (fun q h => h) (fun u t H1 locs1 ht hvm hw hB hz hk hS1 => ?_)
  subst hw
  rw [ht] at hB
  exact kk () u res hf H1 locs1 ls hB hS1 h1
theorem x_callSi (C : xC G p s m args meth c cc nL Ts own) {fo : Option (Int32 × xHp)} {f : Int32 → xHp → Option Rt} (hd : decode cc pc = .ok (.invokestatic idx, 3)) (hM : ∀ r, fo = some r → Met l y ws rm (xPc G As h) (xQi G r) 0 0 (xA G)) (cw : CallB R s args own idx y bytes maxL ret ws rm 0 0 n ∧ (Cond.static y).before args s = true) (hn : As.length = n) (hstk : st0 = As.reverse ++ st) (hroom : (st.map fun v => v.category).sum ≤ 8) (kk : ∀ r h1, xJ G p l e R s m args below meth c nL Qf (pc + 3) lv (.int r :: st) h1 (f r h1)) : xJ G p l e R s m args below meth c nL Qf pc lv st0 h (bnd2 fo f) := fun res hr H locs ls hP hS h1 => by
  obtain ⟨q, hq, hf⟩ := bnd2_of hr
  obtain ⟨hx, hb, hml, hown, hts, hK, hG, hbs, hlk⟩ := C
  refine va_calli (va_runS (As := As) (rest := st) ⟨hx, hb, hml, hown, hts⟩ (hM q hq) cw ⟨xPc_blind, fun U hU hW => ⟨rfl, by rw [hU]; exact hP, va_K.moved hW.alike hK, hG, by rw [hU]; exact Nat.le_trans hbs hS.1⟩⟩ rfl hn h1.1 hstk (lv_room hroom) hd ⟨Nat.zero_le _, Nat.zero_le _⟩) hS (fun q _ h => h) (fun q h => h) (fun r u t H1 locs1 ht hvm hw hB hz hk hS1 => ?_)
  subst hw
  rw [ht] at hB
  exact kk r u res hf H1 locs1 ls hB hS1 h1
theorem x_callSv (C : xC G p s m args meth c cc nL Ts own) {fo : Option (Unit × xHp)} {f : Unit → xHp → Option Rt} (hd : decode cc pc = .ok (.invokestatic idx, 3)) (hM : ∀ r, fo = some r → Met l y ws rm (xPc G As h) (xQv G r) 0 0 (xA G)) (cw : CallB R s args own idx y bytes maxL ret ws rm 0 0 n ∧ (Cond.static y).before args s = true) (hn : As.length = n) (hstk : st0 = As.reverse ++ st) (hroom : (st.map fun v => v.category).sum ≤ 8) (kk : ∀ r h1, xJ G p l e R s m args below meth c nL Qf (pc + 3) lv st h1 (f r h1)) : xJ G p l e R s m args below meth c nL Qf pc lv st0 h (bnd2 fo f) := fun res hr H locs ls hP hS h1 => by
  obtain ⟨q, hq, hf⟩ := bnd2_of hr
  obtain ⟨hx, hb, hml, hown, hts, hK, hG, hbs, hlk⟩ := C
  refine va_callv (va_runS (As := As) (rest := st) ⟨hx, hb, hml, hown, hts⟩ (hM q hq) cw ⟨xPc_blind, fun U hU hW => ⟨rfl, by rw [hU]; exact hP, va_K.moved hW.alike hK, hG, by rw [hU]; exact Nat.le_trans hbs hS.1⟩⟩ rfl hn h1.1 hstk (lv_room hroom) hd ⟨Nat.zero_le _, Nat.zero_le _⟩) hS (fun q _ h => h) (fun q h => h) (fun u t H1 locs1 ht hvm hw hB hz hk hS1 => ?_)
  subst hw
  rw [ht] at hB
  exact kk () u res hf H1 locs1 ls hB hS1 h1
theorem x_iret (C : xC G p s m args meth c cc nL Ts own) {v : Int32} (hd : decode cc pc = .ok (.ireturn, 1)) (hr : meth.sig.returnType = some .int) : xJ G p l e R s m args below meth c nL (fun res => MQ below (xQi G res) args s 0 0 (xA G)) pc lv [.int v] h (some (v, h)) := fun res er H locs ls hP hS h1 => by
  cases er
  exact W.iret C.1 C.2.1 hr (fun t ht hW => ⟨⟨v, h, rfl, rfl, by show va_P (xD G) vwCl (xwd G h) t.heap; rw [ht]; exact hP⟩, hS.F ht⟩) hS.2.2 hd C.2.2.2.2.2.2.2.2
theorem x_zretL (C : xC G p s m args meth c cc nL Ts own) {v : Int32} (hd : decode cc pc = .ok (.ireturn, 1)) (hr : meth.sig.returnType = some .boolean) (hn : narrow .boolean (.int v) = .int v) : xJ G p l e R s m args below meth c nL (fun res => MQ below (xQi G res) args s 0 0 (xA G)) pc lv [.int v] h (some (v, h)) := fun res er H locs ls hP hS h1 => by
  cases er
  exact W.zret C.1 C.2.1 hr hn (fun t ht hW => ⟨⟨v, h, rfl, rfl, by show va_P (xD G) vwCl (xwd G h) t.heap; rw [ht]; exact hP⟩, hS.F ht⟩) hS.2.2 hd C.2.2.2.2.2.2.2.2
theorem x_lret (C : xC G p s m args meth c cc nL Ts own) {v : Int64} (hd : decode cc pc = .ok (.lreturn, 1)) (hr : meth.sig.returnType = some .long) : xJ G p l e R s m args below meth c nL (fun res => MQ below (xQl G res) args s 0 0 (xA G)) pc lv [.long v] h (some (v, h)) := fun res er H locs ls hP hS h1 => by
  cases er
  exact W.lret C.1 C.2.1 hr (fun t ht hW => ⟨⟨v, h, rfl, rfl, by show va_P (xD G) vwCl (xwd G h) t.heap; rw [ht]; exact hP⟩, hS.F ht⟩) hS.2.2 hd C.2.2.2.2.2.2.2.2
theorem x_vret (C : xC G p s m args meth c cc nL Ts own) (hd : decode cc pc = .ok (.return_, 1)) (hr : meth.sig.returnType = none) : xJ G p l e R s m args below meth c nL (fun res => MQ below (xQv G res) args s 0 0 (xA G)) pc lv [] h (some ((), h)) := fun res er H locs ls hP hS h1 => by
  cases er
  exact W.vret C.1 C.2.1 hr (fun t ht hW => ⟨⟨h, rfl, rfl, by show va_P (xD G) vwCl (xwd G h) t.heap; rw [ht]; exact hP⟩, hS.F ht⟩) hS.2.2 hd C.2.2.2.2.2.2.2.2
/-- a boolean answer that is no constant: its lowest bit -/
theorem x_Wzret {v v' : Int32} {ty : FieldType} {Qc : Array Value → State → Outcome → State → Prop} {free : Addr → Prop} {H : Heap} {locs : List Loc} {cells slots : Nat} (hexec : p.tables.exec = Jvm.exec) (hb : c.code = cc) (hr : meth.sig.returnType = some ty) (hn : narrow ty (.int v) = .int v')
    (hq : ∀ t : State, t.heap = H → s.WarmedH t.vm → Qc args s (.returned (some (.int v'))) t) (hf : ∀ q ∈ locs, free q.base) {ls : Array Slot} (hdg : decode cc pc = .ok (.ireturn, 1)) (hlocks : meth.locks = false) : W p l e R s m args below meth c H locs cells slots (MQ below Qc args s cells slots free) (F0 m pc ls [.int v]) := by
  intro T hT X
  obtain ⟨fs, hret, hrun, hended, hW, hframe⟩ := X.leave (v := some (.int v')) (fun h => by rw [hr] at h; cases h)
  have hmeth' : T.vm.method? m = some meth := X.method'
  refine ⟨T.setFrames fs, ?_, .returned (some (.int v')), hrun, hended, hq _ hT hW, locs, ⟨⟨_, rfl⟩, hW, hframe⟩, hf⟩
  jvm_step X.here [X.here.top, hexec, hb, hdg, hmeth', hr, hn]
  (try refine ⟨rfl, ?_⟩); (try refine ⟨rfl, ?_⟩)
  first | (intro acts; rw [hret _ acts rfl rfl rfl]) | rw [hret _ _ rfl rfl rfl]
  exact Steps.refl _
theorem x_zret (C : xC G p s m args meth c cc nL Ts own) {v : Int32} (hd : decode cc pc = .ok (.ireturn, 1)) (hr : meth.sig.returnType = some .boolean) : xJ G p l e R s m args below meth c nL (fun res => MQ below (xQi G res) args s 0 0 (xA G)) pc lv [.int v] h (some (vp_nar .boolean v, h)) := fun res er H locs ls hP hS h1 => by
  cases er
  exact x_Wzret C.1 C.2.1 hr rfl (fun t ht hW => ⟨⟨_, h, rfl, rfl, by show va_P (xD G) vwCl (xwd G h) t.heap; rw [ht]; exact hP⟩, hS.F ht⟩) hS.2.2 hd C.2.2.2.2.2.2.2.2
theorem x_met {as : List Value} {fo : Option Rt} {Qc : Rt → Array Value → State → Outcome → State → Prop} {ws' : List Cond} {lv0 : List (Nat × Value)} (hy : plainName y.cls = true) (ho : y.cls = own) (hw : ws = Cond.code y cc maxL ret :: ws') (hlen : (lg_sl as).length ≤ maxL) (hlv : lv_args 0 as = lv0)
    (body : ∀ p e s m below meth c, xC G p s m as.toArray meth c cc maxL ws own → meth.sig.returnType = ret → xJ G p l e rm s m as.toArray below meth c maxL (fun res => MQ below (Qc res) as.toArray s 0 0 (xA G)) 0 lv0 [] h fo) : ∀ r, fo = some r → Met l y ws rm (xPc G as h) (Qc r) 0 0 (xA G) := by
  intro r hr
  refine Met.ofW (cc := cc) (maxL := maxL) (ret := ret) hy hw ?_
  intro p e s m args below meth c s₁ B hml hv
  obtain ⟨rfl, hP, hK, hG, hb⟩ := hv
  have hts := atoms_spec (ws := ws) B.pre
  have hown : s.vm.findClass own = some m.cls := by rw [← ho]; exact findClass_of_methodNamed B.named
  have hl := lv_entry as (n := maxL) hlen
  rw [hlv] at hl
  rw [lg_entry_eq]
  exact body p e s m below meth c ⟨B.exec, B.bytes, hml, hown, hts, hK, hG, hb, B.notSynchronized⟩ B.returns r hr s.heap [] _ hP va_S.rf hl
end XM
theorem xp_0 (G : xG) (f : Nat → Int32) (g : Nat → Int64) (t : Nat) : xcell G 0 f g t = .inr (8, [.ref (xad G 1), .ref (xad G 24), .int (f 2), .ref (xad G 25), .int (f 4), .ref (xad G 26), .ref (xad G 28), .ref (xad G 30), .ref (xad G 37), .int (f 9), .int (f 10), .ref (xad G 44), .ref (xad G 47), .ref (xad G 49), .ref (xad G 50)]) := rfl
theorem xc_0 (G : xG) (h : xHp) : xcell G 0 (h.1 0) (h.2.1 0) h.2.2 = .inr (8, [.ref (xad G 1), .ref (xad G 24), .int (gI h 0 2), .ref (xad G 25), .int (gI h 0 4), .ref (xad G 26), .ref (xad G 28), .ref (xad G 30), .ref (xad G 37), .int (gI h 0 9), .int (gI h 0 10), .ref (xad G 44), .ref (xad G 47), .ref (xad G 49), .ref (xad G 50)]) := rfl
theorem xp_1 (G : xG) (f : Nat → Int32) (g : Nat → Int64) (t : Nat) : xcell G 1 f g t = .inr (2, [.ref (xad G 2), .ref (xad G 3), .ref (xad G 4), .int (f 3), .ref (xad G 5), .int (f 5), .ref (xad G 6), .int (f 7), .ref (xad G 7)]) := rfl
theorem xc_1 (G : xG) (h : xHp) : xcell G 1 (h.1 1) (h.2.1 1) h.2.2 = .inr (2, [.ref (xad G 2), .ref (xad G 3), .ref (xad G 4), .int (gI h 1 3), .ref (xad G 5), .int (gI h 1 5), .ref (xad G 6), .int (gI h 1 7), .ref (xad G 7)]) := rfl
theorem xp_2 (G : xG) (f : Nat → Int32) (g : Nat → Int64) (t : Nat) : xcell G 2 f g t = .inl (xcy G 1, 70, .inl f) := rfl
theorem xc_2 (G : xG) (h : xHp) : xcell G 2 (h.1 2) (h.2.1 2) h.2.2 = .inl (xcy G 1, 70, .inl (h.1 2)) := rfl
theorem xp_3 (G : xG) (f : Nat → Int32) (g : Nat → Int64) (t : Nat) : xcell G 3 f g t = .inl (xcy G 1, 70, .inl f) := rfl
theorem xc_3 (G : xG) (h : xHp) : xcell G 3 (h.1 3) (h.2.1 3) h.2.2 = .inl (xcy G 1, 70, .inl (h.1 3)) := rfl
theorem xp_4 (G : xG) (f : Nat → Int32) (g : Nat → Int64) (t : Nat) : xcell G 4 f g t = .inl (xcy G 1, 70, .inl f) := rfl
theorem xc_4 (G : xG) (h : xHp) : xcell G 4 (h.1 4) (h.2.1 4) h.2.2 = .inl (xcy G 1, 70, .inl (h.1 4)) := rfl
theorem xp_5 (G : xG) (f : Nat → Int32) (g : Nat → Int64) (t : Nat) : xcell G 5 f g t = .inl (xcy G 1, 16, .inl f) := rfl
theorem xc_5 (G : xG) (h : xHp) : xcell G 5 (h.1 5) (h.2.1 5) h.2.2 = .inl (xcy G 1, 16, .inl (h.1 5)) := rfl
theorem xp_6 (G : xG) (f : Nat → Int32) (g : Nat → Int64) (t : Nat) : xcell G 6 f g t = .inl (xcy G 4, 16, .inr (.inr (.inr (.inr (fun j => if j < 16 then some (xad G (8 + j)) else none))))) := rfl
theorem xc_6 (G : xG) (h : xHp) : xcell G 6 (h.1 6) (h.2.1 6) h.2.2 = .inl (xcy G 4, 16, .inr (.inr (.inr (.inr (fun j => if j < 16 then some (xad G (8 + j)) else none))))) := rfl
theorem xp_7 (G : xG) (f : Nat → Int32) (g : Nat → Int64) (t : Nat) : xcell G 7 f g t = .inl (xcy G 2, 16, .inr (.inl g)) := rfl
theorem xc_7 (G : xG) (h : xHp) : xcell G 7 (h.1 7) (h.2.1 7) h.2.2 = .inl (xcy G 2, 16, .inr (.inl (h.2.1 7))) := rfl
theorem xp_8 (G : xG) (f : Nat → Int32) (g : Nat → Int64) (t : Nat) : xcell G 8 f g t = .inl (xcy G 2, 16, .inr (.inl g)) := rfl
theorem xc_8 (G : xG) (h : xHp) : xcell G 8 (h.1 8) (h.2.1 8) h.2.2 = .inl (xcy G 2, 16, .inr (.inl (h.2.1 8))) := rfl
theorem xp_9 (G : xG) (f : Nat → Int32) (g : Nat → Int64) (t : Nat) : xcell G 9 f g t = .inl (xcy G 2, 16, .inr (.inl g)) := rfl
theorem xc_9 (G : xG) (h : xHp) : xcell G 9 (h.1 9) (h.2.1 9) h.2.2 = .inl (xcy G 2, 16, .inr (.inl (h.2.1 9))) := rfl
theorem xp_10 (G : xG) (f : Nat → Int32) (g : Nat → Int64) (t : Nat) : xcell G 10 f g t = .inl (xcy G 2, 16, .inr (.inl g)) := rfl
theorem xc_10 (G : xG) (h : xHp) : xcell G 10 (h.1 10) (h.2.1 10) h.2.2 = .inl (xcy G 2, 16, .inr (.inl (h.2.1 10))) := rfl
theorem xp_11 (G : xG) (f : Nat → Int32) (g : Nat → Int64) (t : Nat) : xcell G 11 f g t = .inl (xcy G 2, 16, .inr (.inl g)) := rfl
theorem xc_11 (G : xG) (h : xHp) : xcell G 11 (h.1 11) (h.2.1 11) h.2.2 = .inl (xcy G 2, 16, .inr (.inl (h.2.1 11))) := rfl
theorem xp_12 (G : xG) (f : Nat → Int32) (g : Nat → Int64) (t : Nat) : xcell G 12 f g t = .inl (xcy G 2, 16, .inr (.inl g)) := rfl
theorem xc_12 (G : xG) (h : xHp) : xcell G 12 (h.1 12) (h.2.1 12) h.2.2 = .inl (xcy G 2, 16, .inr (.inl (h.2.1 12))) := rfl
theorem xp_13 (G : xG) (f : Nat → Int32) (g : Nat → Int64) (t : Nat) : xcell G 13 f g t = .inl (xcy G 2, 16, .inr (.inl g)) := rfl
theorem xc_13 (G : xG) (h : xHp) : xcell G 13 (h.1 13) (h.2.1 13) h.2.2 = .inl (xcy G 2, 16, .inr (.inl (h.2.1 13))) := rfl
theorem xp_14 (G : xG) (f : Nat → Int32) (g : Nat → Int64) (t : Nat) : xcell G 14 f g t = .inl (xcy G 2, 16, .inr (.inl g)) := rfl
theorem xc_14 (G : xG) (h : xHp) : xcell G 14 (h.1 14) (h.2.1 14) h.2.2 = .inl (xcy G 2, 16, .inr (.inl (h.2.1 14))) := rfl
theorem xp_15 (G : xG) (f : Nat → Int32) (g : Nat → Int64) (t : Nat) : xcell G 15 f g t = .inl (xcy G 2, 16, .inr (.inl g)) := rfl
theorem xc_15 (G : xG) (h : xHp) : xcell G 15 (h.1 15) (h.2.1 15) h.2.2 = .inl (xcy G 2, 16, .inr (.inl (h.2.1 15))) := rfl
theorem xp_16 (G : xG) (f : Nat → Int32) (g : Nat → Int64) (t : Nat) : xcell G 16 f g t = .inl (xcy G 2, 16, .inr (.inl g)) := rfl
theorem xc_16 (G : xG) (h : xHp) : xcell G 16 (h.1 16) (h.2.1 16) h.2.2 = .inl (xcy G 2, 16, .inr (.inl (h.2.1 16))) := rfl
theorem xp_17 (G : xG) (f : Nat → Int32) (g : Nat → Int64) (t : Nat) : xcell G 17 f g t = .inl (xcy G 2, 16, .inr (.inl g)) := rfl
theorem xc_17 (G : xG) (h : xHp) : xcell G 17 (h.1 17) (h.2.1 17) h.2.2 = .inl (xcy G 2, 16, .inr (.inl (h.2.1 17))) := rfl
theorem xp_18 (G : xG) (f : Nat → Int32) (g : Nat → Int64) (t : Nat) : xcell G 18 f g t = .inl (xcy G 2, 16, .inr (.inl g)) := rfl
theorem xc_18 (G : xG) (h : xHp) : xcell G 18 (h.1 18) (h.2.1 18) h.2.2 = .inl (xcy G 2, 16, .inr (.inl (h.2.1 18))) := rfl
theorem xp_19 (G : xG) (f : Nat → Int32) (g : Nat → Int64) (t : Nat) : xcell G 19 f g t = .inl (xcy G 2, 16, .inr (.inl g)) := rfl
theorem xc_19 (G : xG) (h : xHp) : xcell G 19 (h.1 19) (h.2.1 19) h.2.2 = .inl (xcy G 2, 16, .inr (.inl (h.2.1 19))) := rfl
theorem xp_20 (G : xG) (f : Nat → Int32) (g : Nat → Int64) (t : Nat) : xcell G 20 f g t = .inl (xcy G 2, 16, .inr (.inl g)) := rfl
theorem xc_20 (G : xG) (h : xHp) : xcell G 20 (h.1 20) (h.2.1 20) h.2.2 = .inl (xcy G 2, 16, .inr (.inl (h.2.1 20))) := rfl
theorem xp_21 (G : xG) (f : Nat → Int32) (g : Nat → Int64) (t : Nat) : xcell G 21 f g t = .inl (xcy G 2, 16, .inr (.inl g)) := rfl
theorem xc_21 (G : xG) (h : xHp) : xcell G 21 (h.1 21) (h.2.1 21) h.2.2 = .inl (xcy G 2, 16, .inr (.inl (h.2.1 21))) := rfl
theorem xp_22 (G : xG) (f : Nat → Int32) (g : Nat → Int64) (t : Nat) : xcell G 22 f g t = .inl (xcy G 2, 16, .inr (.inl g)) := rfl
theorem xc_22 (G : xG) (h : xHp) : xcell G 22 (h.1 22) (h.2.1 22) h.2.2 = .inl (xcy G 2, 16, .inr (.inl (h.2.1 22))) := rfl
theorem xp_23 (G : xG) (f : Nat → Int32) (g : Nat → Int64) (t : Nat) : xcell G 23 f g t = .inl (xcy G 2, 16, .inr (.inl g)) := rfl
theorem xc_23 (G : xG) (h : xHp) : xcell G 23 (h.1 23) (h.2.1 23) h.2.2 = .inl (xcy G 2, 16, .inr (.inl (h.2.1 23))) := rfl
theorem xp_24 (G : xG) (f : Nat → Int32) (g : Nat → Int64) (t : Nat) : xcell G 24 f g t = .inl (xcy G 1, 20, .inl f) := rfl
theorem xc_24 (G : xG) (h : xHp) : xcell G 24 (h.1 24) (h.2.1 24) h.2.2 = .inl (xcy G 1, 20, .inl (h.1 24)) := rfl
theorem xp_25 (G : xG) (f : Nat → Int32) (g : Nat → Int64) (t : Nat) : xcell G 25 f g t = .inl (xcy G 1, 16, .inl f) := rfl
theorem xc_25 (G : xG) (h : xHp) : xcell G 25 (h.1 25) (h.2.1 25) h.2.2 = .inl (xcy G 1, 16, .inl (h.1 25)) := rfl
theorem xp_26 (G : xG) (f : Nat → Int32) (g : Nat → Int64) (t : Nat) : xcell G 26 f g t = .inr (6, [.ref (xad G 27), .int (f 1)]) := rfl
theorem xc_26 (G : xG) (h : xHp) : xcell G 26 (h.1 26) (h.2.1 26) h.2.2 = .inr (6, [.ref (xad G 27), .int (gI h 26 1)]) := rfl
theorem xp_27 (G : xG) (f : Nat → Int32) (g : Nat → Int64) (t : Nat) : xcell G 27 f g t = .inl (xcy G 0, 400, .inl f) := rfl
theorem xc_27 (G : xG) (h : xHp) : xcell G 27 (h.1 27) (h.2.1 27) h.2.2 = .inl (xcy G 0, 400, .inl (h.1 27)) := rfl
theorem xp_28 (G : xG) (f : Nat → Int32) (g : Nat → Int64) (t : Nat) : xcell G 28 f g t = .inr (6, [.ref (xad G 29), .int (f 1)]) := rfl
theorem xc_28 (G : xG) (h : xHp) : xcell G 28 (h.1 28) (h.2.1 28) h.2.2 = .inr (6, [.ref (xad G 29), .int (gI h 28 1)]) := rfl
theorem xp_29 (G : xG) (f : Nat → Int32) (g : Nat → Int64) (t : Nat) : xcell G 29 f g t = .inl (xcy G 0, 6000, .inl f) := rfl
theorem xc_29 (G : xG) (h : xHp) : xcell G 29 (h.1 29) (h.2.1 29) h.2.2 = .inl (xcy G 0, 6000, .inl (h.1 29)) := rfl
theorem xp_30 (G : xG) (f : Nat → Int32) (g : Nat → Int64) (t : Nat) : xcell G 30 f g t = .inr (1, [.ref (xad G 31), .ref (xad G 32), .ref (xad G 33), .int (f 3), .ref (xad G 34), .ref (xad G 35), .int (f 6), .ref (xad G 36)]) := rfl
theorem xc_30 (G : xG) (h : xHp) : xcell G 30 (h.1 30) (h.2.1 30) h.2.2 = .inr (1, [.ref (xad G 31), .ref (xad G 32), .ref (xad G 33), .int (gI h 30 3), .ref (xad G 34), .ref (xad G 35), .int (gI h 30 6), .ref (xad G 36)]) := rfl
theorem xp_31 (G : xG) (f : Nat → Int32) (g : Nat → Int64) (t : Nat) : xcell G 31 f g t = .inl (xcy G 1, 10, .inl f) := rfl
theorem xc_31 (G : xG) (h : xHp) : xcell G 31 (h.1 31) (h.2.1 31) h.2.2 = .inl (xcy G 1, 10, .inl (h.1 31)) := rfl
theorem xp_32 (G : xG) (f : Nat → Int32) (g : Nat → Int64) (t : Nat) : xcell G 32 f g t = .inl (xcy G 1, 10, .inl f) := rfl
theorem xc_32 (G : xG) (h : xHp) : xcell G 32 (h.1 32) (h.2.1 32) h.2.2 = .inl (xcy G 1, 10, .inl (h.1 32)) := rfl
theorem xp_33 (G : xG) (f : Nat → Int32) (g : Nat → Int64) (t : Nat) : xcell G 33 f g t = .inl (xcy G 1, 10, .inl f) := rfl
theorem xc_33 (G : xG) (h : xHp) : xcell G 33 (h.1 33) (h.2.1 33) h.2.2 = .inl (xcy G 1, 10, .inl (h.1 33)) := rfl
theorem xp_34 (G : xG) (f : Nat → Int32) (g : Nat → Int64) (t : Nat) : xcell G 34 f g t = .inl (xcy G 1, 10, .inl f) := rfl
theorem xc_34 (G : xG) (h : xHp) : xcell G 34 (h.1 34) (h.2.1 34) h.2.2 = .inl (xcy G 1, 10, .inl (h.1 34)) := rfl
theorem xp_35 (G : xG) (f : Nat → Int32) (g : Nat → Int64) (t : Nat) : xcell G 35 f g t = .inl (xcy G 1, 240, .inl f) := rfl
theorem xc_35 (G : xG) (h : xHp) : xcell G 35 (h.1 35) (h.2.1 35) h.2.2 = .inl (xcy G 1, 240, .inl (h.1 35)) := rfl
theorem xp_36 (G : xG) (f : Nat → Int32) (g : Nat → Int64) (t : Nat) : xcell G 36 f g t = .inl (xcy G 1, 32, .inl f) := rfl
theorem xc_36 (G : xG) (h : xHp) : xcell G 36 (h.1 36) (h.2.1 36) h.2.2 = .inl (xcy G 1, 32, .inl (h.1 36)) := rfl
theorem xp_37 (G : xG) (f : Nat → Int32) (g : Nat → Int64) (t : Nat) : xcell G 37 f g t = .inr (1, [.ref (xad G 38), .ref (xad G 39), .ref (xad G 40), .int (f 3), .ref (xad G 41), .ref (xad G 42), .int (f 6), .ref (xad G 43)]) := rfl
theorem xc_37 (G : xG) (h : xHp) : xcell G 37 (h.1 37) (h.2.1 37) h.2.2 = .inr (1, [.ref (xad G 38), .ref (xad G 39), .ref (xad G 40), .int (gI h 37 3), .ref (xad G 41), .ref (xad G 42), .int (gI h 37 6), .ref (xad G 43)]) := rfl
theorem xp_38 (G : xG) (f : Nat → Int32) (g : Nat → Int64) (t : Nat) : xcell G 38 f g t = .inl (xcy G 1, 10, .inl f) := rfl
theorem xc_38 (G : xG) (h : xHp) : xcell G 38 (h.1 38) (h.2.1 38) h.2.2 = .inl (xcy G 1, 10, .inl (h.1 38)) := rfl
theorem xp_39 (G : xG) (f : Nat → Int32) (g : Nat → Int64) (t : Nat) : xcell G 39 f g t = .inl (xcy G 1, 10, .inl f) := rfl
theorem xc_39 (G : xG) (h : xHp) : xcell G 39 (h.1 39) (h.2.1 39) h.2.2 = .inl (xcy G 1, 10, .inl (h.1 39)) := rfl
theorem xp_40 (G : xG) (f : Nat → Int32) (g : Nat → Int64) (t : Nat) : xcell G 40 f g t = .inl (xcy G 1, 10, .inl f) := rfl
theorem xc_40 (G : xG) (h : xHp) : xcell G 40 (h.1 40) (h.2.1 40) h.2.2 = .inl (xcy G 1, 10, .inl (h.1 40)) := rfl
theorem xp_41 (G : xG) (f : Nat → Int32) (g : Nat → Int64) (t : Nat) : xcell G 41 f g t = .inl (xcy G 1, 10, .inl f) := rfl
theorem xc_41 (G : xG) (h : xHp) : xcell G 41 (h.1 41) (h.2.1 41) h.2.2 = .inl (xcy G 1, 10, .inl (h.1 41)) := rfl
theorem xp_42 (G : xG) (f : Nat → Int32) (g : Nat → Int64) (t : Nat) : xcell G 42 f g t = .inl (xcy G 1, 240, .inl f) := rfl
theorem xc_42 (G : xG) (h : xHp) : xcell G 42 (h.1 42) (h.2.1 42) h.2.2 = .inl (xcy G 1, 240, .inl (h.1 42)) := rfl
theorem xp_43 (G : xG) (f : Nat → Int32) (g : Nat → Int64) (t : Nat) : xcell G 43 f g t = .inl (xcy G 1, 32, .inl f) := rfl
theorem xc_43 (G : xG) (h : xHp) : xcell G 43 (h.1 43) (h.2.1 43) h.2.2 = .inl (xcy G 1, 32, .inl (h.1 43)) := rfl
theorem xp_44 (G : xG) (f : Nat → Int32) (g : Nat → Int64) (t : Nat) : xcell G 44 f g t = .inr (3, [.ref (xad G 46), .ref (xad G 37), .ref (xad G 45), .int (f 3), .int (f 4), .int (f 5), .int (f 6), .int (f 7), .int (f 8), .int (f 9), .int (f 10)]) := rfl
theorem xc_44 (G : xG) (h : xHp) : xcell G 44 (h.1 44) (h.2.1 44) h.2.2 = .inr (3, [.ref (xad G 46), .ref (xad G 37), .ref (xad G 45), .int (gI h 44 3), .int (gI h 44 4), .int (gI h 44 5), .int (gI h 44 6), .int (gI h 44 7), .int (gI h 44 8), .int (gI h 44 9), .int (gI h 44 10)]) := rfl
theorem xp_45 (G : xG) (f : Nat → Int32) (g : Nat → Int64) (t : Nat) : xcell G 45 f g t = .inl (xcy G 1, 64, .inl f) := rfl
theorem xc_45 (G : xG) (h : xHp) : xcell G 45 (h.1 45) (h.2.1 45) h.2.2 = .inl (xcy G 1, 64, .inl (h.1 45)) := rfl
theorem xp_46 (G : xG) (f : Nat → Int32) (g : Nat → Int64) (t : Nat) : xcell G 46 f g t = .inr (4, [.ref (xad G 26), .int (f 1), .int (f 2), .int (f 3), .int (f 4)]) := rfl
theorem xc_46 (G : xG) (h : xHp) : xcell G 46 (h.1 46) (h.2.1 46) h.2.2 = .inr (4, [.ref (xad G 26), .int (gI h 46 1), .int (gI h 46 2), .int (gI h 46 3), .int (gI h 46 4)]) := rfl
theorem xp_47 (G : xG) (f : Nat → Int32) (g : Nat → Int64) (t : Nat) : xcell G 47 f g t = .inr (5, [.ref (xad G 48), .int (f 1), .int (f 2), .ref (xad G 30), .ref (xad G 1)]) := rfl
theorem xc_47 (G : xG) (h : xHp) : xcell G 47 (h.1 47) (h.2.1 47) h.2.2 = .inr (5, [.ref (xad G 48), .int (gI h 47 1), .int (gI h 47 2), .ref (xad G 30), .ref (xad G 1)]) := rfl
theorem xp_48 (G : xG) (f : Nat → Int32) (g : Nat → Int64) (t : Nat) : xcell G 48 f g t = .inl (xcy G 3, 1024, .inl f) := rfl
theorem xc_48 (G : xG) (h : xHp) : xcell G 48 (h.1 48) (h.2.1 48) h.2.2 = .inl (xcy G 3, 1024, .inl (h.1 48)) := rfl
theorem xp_49 (G : xG) (f : Nat → Int32) (g : Nat → Int64) (t : Nat) : xcell G 49 f g t = .inr (7, [.ref (xad G 30), .ref (xad G 1), .ref (xad G 28), .int (f 3), .int (f 4)]) := rfl
theorem xc_49 (G : xG) (h : xHp) : xcell G 49 (h.1 49) (h.2.1 49) h.2.2 = .inr (7, [.ref (xad G 30), .ref (xad G 1), .ref (xad G 28), .int (gI h 49 3), .int (gI h 49 4)]) := rfl
theorem xp_50 (G : xG) (f : Nat → Int32) (g : Nat → Int64) (t : Nat) : xcell G 50 f g t = .inr (0, [.ref (xad G 30), .ref (xad G 1), .ref (xad G t), .int (f 3), .int (f 4), .int (f 5), .int (f 6), .long (g 7)]) := rfl
theorem xc_50 (G : xG) (h : xHp) : xcell G 50 (h.1 50) (h.2.1 50) h.2.2 = .inr (0, [.ref (xad G 30), .ref (xad G 1), .ref (xad G h.2.2), .int (gI h 50 3), .int (gI h 50 4), .int (gI h 50 5), .int (gI h 50 6), .long (gJ h 50 7)]) := rfl
theorem xp_51 (G : xG) (f : Nat → Int32) (g : Nat → Int64) (t : Nat) : xcell G 51 f g t = .inr (9, [.int (f 0), .int (f 1), .ref (xad G 52), .ref (xad G 53), .ref (xad G 54), .ref (xad G 55), .int (f 6), .ref (xad G 56), .int (f 8), .ref (xad G 57), .ref (xad G 58), .ref (xad G 59), .int (f 12), .ref (xad G 60), .ref (xad G 61), .int (f 15), .int (f 16), .int (f 17), .int (f 18), .int (f 19), .int (f 20), .int (f 21), .int (f 22), .int (f 23), .int (f 24), .ref (xad G 62), .ref (xad G 63), .ref (xad G 64), .int (f 28), .ref (xad G 65), .int (f 30), .ref (xad G 66), .ref (xad G 67), .ref (xad G 68), .int (f 34), .ref (xad G 69), .ref (xad G 70), .int (f 37), .int (f 38), .int (f 39), .ref (xad G 71), .ref (xad G 72), .ref (xad G 73), .int (f 43), .ref (xad G 74), .int (f 45), .int (f 46), .int (f 47), .ref (xad G 75), .ref (xad G 76), .int (f 50), .int (f 51), .int (f 52)]) := rfl
theorem xc_51 (G : xG) (h : xHp) : xcell G 51 (h.1 51) (h.2.1 51) h.2.2 = .inr (9, [.int (gI h 51 0), .int (gI h 51 1), .ref (xad G 52), .ref (xad G 53), .ref (xad G 54), .ref (xad G 55), .int (gI h 51 6), .ref (xad G 56), .int (gI h 51 8), .ref (xad G 57), .ref (xad G 58), .ref (xad G 59), .int (gI h 51 12), .ref (xad G 60), .ref (xad G 61), .int (gI h 51 15), .int (gI h 51 16), .int (gI h 51 17), .int (gI h 51 18), .int (gI h 51 19), .int (gI h 51 20), .int (gI h 51 21), .int (gI h 51 22), .int (gI h 51 23), .int (gI h 51 24), .ref (xad G 62), .ref (xad G 63), .ref (xad G 64), .int (gI h 51 28), .ref (xad G 65), .int (gI h 51 30), .ref (xad G 66), .ref (xad G 67), .ref (xad G 68), .int (gI h 51 34), .ref (xad G 69), .ref (xad G 70), .int (gI h 51 37), .int (gI h 51 38), .int (gI h 51 39), .ref (xad G 71), .ref (xad G 72), .ref (xad G 73), .int (gI h 51 43), .ref (xad G 74), .int (gI h 51 45), .int (gI h 51 46), .int (gI h 51 47), .ref (xad G 75), .ref (xad G 76), .int (gI h 51 50), .int (gI h 51 51), .int (gI h 51 52)]) := rfl
theorem xp_52 (G : xG) (f : Nat → Int32) (g : Nat → Int64) (t : Nat) : xcell G 52 f g t = .inl (xcy G 1, 70, .inl f) := rfl
theorem xc_52 (G : xG) (h : xHp) : xcell G 52 (h.1 52) (h.2.1 52) h.2.2 = .inl (xcy G 1, 70, .inl (h.1 52)) := rfl
theorem xp_53 (G : xG) (f : Nat → Int32) (g : Nat → Int64) (t : Nat) : xcell G 53 f g t = .inl (xcy G 1, 70, .inl f) := rfl
theorem xc_53 (G : xG) (h : xHp) : xcell G 53 (h.1 53) (h.2.1 53) h.2.2 = .inl (xcy G 1, 70, .inl (h.1 53)) := rfl
theorem xp_54 (G : xG) (f : Nat → Int32) (g : Nat → Int64) (t : Nat) : xcell G 54 f g t = .inl (xcy G 1, 70, .inl f) := rfl
theorem xc_54 (G : xG) (h : xHp) : xcell G 54 (h.1 54) (h.2.1 54) h.2.2 = .inl (xcy G 1, 70, .inl (h.1 54)) := rfl
theorem xp_55 (G : xG) (f : Nat → Int32) (g : Nat → Int64) (t : Nat) : xcell G 55 f g t = .inl (xcy G 3, 70, .inl f) := rfl
theorem xc_55 (G : xG) (h : xHp) : xcell G 55 (h.1 55) (h.2.1 55) h.2.2 = .inl (xcy G 3, 70, .inl (h.1 55)) := rfl
theorem xp_56 (G : xG) (f : Nat → Int32) (g : Nat → Int64) (t : Nat) : xcell G 56 f g t = .inl (xcy G 1, 20, .inl f) := rfl
theorem xc_56 (G : xG) (h : xHp) : xcell G 56 (h.1 56) (h.2.1 56) h.2.2 = .inl (xcy G 1, 20, .inl (h.1 56)) := rfl
theorem xp_57 (G : xG) (f : Nat → Int32) (g : Nat → Int64) (t : Nat) : xcell G 57 f g t = .inl (xcy G 1, 20, .inl f) := rfl
theorem xc_57 (G : xG) (h : xHp) : xcell G 57 (h.1 57) (h.2.1 57) h.2.2 = .inl (xcy G 1, 20, .inl (h.1 57)) := rfl
theorem xp_58 (G : xG) (f : Nat → Int32) (g : Nat → Int64) (t : Nat) : xcell G 58 f g t = .inl (xcy G 2, 272, .inr (.inl g)) := rfl
theorem xc_58 (G : xG) (h : xHp) : xcell G 58 (h.1 58) (h.2.1 58) h.2.2 = .inl (xcy G 2, 272, .inr (.inl (h.2.1 58))) := rfl
theorem xp_59 (G : xG) (f : Nat → Int32) (g : Nat → Int64) (t : Nat) : xcell G 59 f g t = .inl (xcy G 1, 20, .inl f) := rfl
theorem xc_59 (G : xG) (h : xHp) : xcell G 59 (h.1 59) (h.2.1 59) h.2.2 = .inl (xcy G 1, 20, .inl (h.1 59)) := rfl
theorem xp_60 (G : xG) (f : Nat → Int32) (g : Nat → Int64) (t : Nat) : xcell G 60 f g t = .inl (xcy G 2, 16, .inr (.inl g)) := rfl
theorem xc_60 (G : xG) (h : xHp) : xcell G 60 (h.1 60) (h.2.1 60) h.2.2 = .inl (xcy G 2, 16, .inr (.inl (h.2.1 60))) := rfl
theorem xp_61 (G : xG) (f : Nat → Int32) (g : Nat → Int64) (t : Nat) : xcell G 61 f g t = .inl (xcy G 1, 400, .inl f) := rfl
theorem xc_61 (G : xG) (h : xHp) : xcell G 61 (h.1 61) (h.2.1 61) h.2.2 = .inl (xcy G 1, 400, .inl (h.1 61)) := rfl
theorem xp_62 (G : xG) (f : Nat → Int32) (g : Nat → Int64) (t : Nat) : xcell G 62 f g t = .inl (xcy G 1, 10, .inl f) := rfl
theorem xc_62 (G : xG) (h : xHp) : xcell G 62 (h.1 62) (h.2.1 62) h.2.2 = .inl (xcy G 1, 10, .inl (h.1 62)) := rfl
theorem xp_63 (G : xG) (f : Nat → Int32) (g : Nat → Int64) (t : Nat) : xcell G 63 f g t = .inl (xcy G 1, 10, .inl f) := rfl
theorem xc_63 (G : xG) (h : xHp) : xcell G 63 (h.1 63) (h.2.1 63) h.2.2 = .inl (xcy G 1, 10, .inl (h.1 63)) := rfl
theorem xp_64 (G : xG) (f : Nat → Int32) (g : Nat → Int64) (t : Nat) : xcell G 64 f g t = .inl (xcy G 1, 10, .inl f) := rfl
theorem xc_64 (G : xG) (h : xHp) : xcell G 64 (h.1 64) (h.2.1 64) h.2.2 = .inl (xcy G 1, 10, .inl (h.1 64)) := rfl
theorem xp_65 (G : xG) (f : Nat → Int32) (g : Nat → Int64) (t : Nat) : xcell G 65 f g t = .inl (xcy G 1, 1000, .inl f) := rfl
theorem xc_65 (G : xG) (h : xHp) : xcell G 65 (h.1 65) (h.2.1 65) h.2.2 = .inl (xcy G 1, 1000, .inl (h.1 65)) := rfl
theorem xp_66 (G : xG) (f : Nat → Int32) (g : Nat → Int64) (t : Nat) : xcell G 66 f g t = .inl (xcy G 1, 12, .inl f) := rfl
theorem xc_66 (G : xG) (h : xHp) : xcell G 66 (h.1 66) (h.2.1 66) h.2.2 = .inl (xcy G 1, 12, .inl (h.1 66)) := rfl
theorem xp_67 (G : xG) (f : Nat → Int32) (g : Nat → Int64) (t : Nat) : xcell G 67 f g t = .inl (xcy G 1, 12, .inl f) := rfl
theorem xc_67 (G : xG) (h : xHp) : xcell G 67 (h.1 67) (h.2.1 67) h.2.2 = .inl (xcy G 1, 12, .inl (h.1 67)) := rfl
theorem xp_68 (G : xG) (f : Nat → Int32) (g : Nat → Int64) (t : Nat) : xcell G 68 f g t = .inl (xcy G 1, 12, .inl f) := rfl
theorem xc_68 (G : xG) (h : xHp) : xcell G 68 (h.1 68) (h.2.1 68) h.2.2 = .inl (xcy G 1, 12, .inl (h.1 68)) := rfl
theorem xp_69 (G : xG) (f : Nat → Int32) (g : Nat → Int64) (t : Nat) : xcell G 69 f g t = .inl (xcy G 1, 1000, .inl f) := rfl
theorem xc_69 (G : xG) (h : xHp) : xcell G 69 (h.1 69) (h.2.1 69) h.2.2 = .inl (xcy G 1, 1000, .inl (h.1 69)) := rfl
theorem xp_70 (G : xG) (f : Nat → Int32) (g : Nat → Int64) (t : Nat) : xcell G 70 f g t = .inl (xcy G 1, 400, .inl f) := rfl
theorem xc_70 (G : xG) (h : xHp) : xcell G 70 (h.1 70) (h.2.1 70) h.2.2 = .inl (xcy G 1, 400, .inl (h.1 70)) := rfl
theorem xp_71 (G : xG) (f : Nat → Int32) (g : Nat → Int64) (t : Nat) : xcell G 71 f g t = .inl (xcy G 1, 10, .inl f) := rfl
theorem xc_71 (G : xG) (h : xHp) : xcell G 71 (h.1 71) (h.2.1 71) h.2.2 = .inl (xcy G 1, 10, .inl (h.1 71)) := rfl
theorem xp_72 (G : xG) (f : Nat → Int32) (g : Nat → Int64) (t : Nat) : xcell G 72 f g t = .inl (xcy G 1, 400, .inl f) := rfl
theorem xc_72 (G : xG) (h : xHp) : xcell G 72 (h.1 72) (h.2.1 72) h.2.2 = .inl (xcy G 1, 400, .inl (h.1 72)) := rfl
theorem xp_73 (G : xG) (f : Nat → Int32) (g : Nat → Int64) (t : Nat) : xcell G 73 f g t = .inl (xcy G 1, 6001, .inl f) := rfl
theorem xc_73 (G : xG) (h : xHp) : xcell G 73 (h.1 73) (h.2.1 73) h.2.2 = .inl (xcy G 1, 6001, .inl (h.1 73)) := rfl
theorem xp_74 (G : xG) (f : Nat → Int32) (g : Nat → Int64) (t : Nat) : xcell G 74 f g t = .inl (xcy G 1, 6001, .inl f) := rfl
theorem xc_74 (G : xG) (h : xHp) : xcell G 74 (h.1 74) (h.2.1 74) h.2.2 = .inl (xcy G 1, 6001, .inl (h.1 74)) := rfl
theorem xp_75 (G : xG) (f : Nat → Int32) (g : Nat → Int64) (t : Nat) : xcell G 75 f g t = .inl (xcy G 1, 11, .inl f) := rfl
theorem xc_75 (G : xG) (h : xHp) : xcell G 75 (h.1 75) (h.2.1 75) h.2.2 = .inl (xcy G 1, 11, .inl (h.1 75)) := rfl
theorem xp_76 (G : xG) (f : Nat → Int32) (g : Nat → Int64) (t : Nat) : xcell G 76 f g t = .inl (xcy G 3, 11, .inl f) := rfl
theorem xc_76 (G : xG) (h : xHp) : xcell G 76 (h.1 76) (h.2.1 76) h.2.2 = .inl (xcy G 3, 11, .inl (h.1 76)) := rfl
theorem xp_77 (G : xG) (f : Nat → Int32) (g : Nat → Int64) (t : Nat) : xcell G 77 f g t = .inl (xcy G 2, 1, .inr (.inl g)) := rfl
theorem xc_77 (G : xG) (h : xHp) : xcell G 77 (h.1 77) (h.2.1 77) h.2.2 = .inl (xcy G 2, 1, .inr (.inl (h.2.1 77))) := rfl
