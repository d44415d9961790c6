/-! CONSTRUCTORS: a world that grows, cell by cell; cy names the five classes of arrays -/
def xtyc (cy : Nat → ClassId) : List (ClassId × FieldType) := [(cy 0, .byte), (cy 1, .int), (cy 2, .long), (cy 3, .boolean), (cy 4, .array .long)]
/-- what stands fast while a constructor runs -/
def xNc (D : va_G) (cy : Nat → ClassId) (p : Program) (s : State) (m : MethodId) (args : Array Value) (meth : Method) (c : Code) (cc : ByteArray) (nL : Nat) (Ts : List Cond) (own : String) (A : Nat → Prop) : Prop :=
  p.tables.exec = Jvm.exec ∧ c.code = cc ∧ c.maxLocals = nL ∧ s.vm.findClass own = some m.cls ∧ (∀ w ∈ Ts, w.before args s = true) ∧ va_K D vwCl (xtyc cy) s ∧ (∀ q : Nat, s.heap.size ≤ q → A q) ∧ meth.locks = false
/-- the machine at pc, in the world ws, with k cells and n slots made so far -/
def xN (D : va_G) (p : Program) (l : Launch) (e : Env) (R : Room) (s : State) (m : MethodId) (args : Array Value) (below : List Frame) (meth : Method) (c : Code) (nL : Nat) (A : Nat → Prop) (Q : State → Prop) (pc : Nat) (lv : List (Nat × Value)) (st : List Value) (ws : va_W) (k n : Nat) : Prop :=
  ∀ (H : Heap) (locs : List Loc) (ls : Array Slot), va_P D vwCl ws H → va_D A ws → va_S A s.heap H locs → lv_has ls nL lv → W p l e R s m args below meth c H locs k n Q (F0 m pc ls st)
abbrev nPc (D : va_G) (cy : Nat → ClassId) (as : List Value) (ws : va_W) (sz : Nat) (Z : State → Prop) : Array Value → State → Prop := va_Pc as (fun U => U.heap.size = sz ∧ va_P D vwCl ws U.heap ∧ va_K D vwCl (xtyc cy) U ∧ va_D (fun _ => True) ws ∧ Z U)
abbrev nQv (D : va_G) (A : Nat → Prop) (w1 : (Nat → Nat) × (Nat → Nat) → va_W) : Array Value → State → Outcome → State → Prop := va_Qv (S := (Nat → Nat) × (Nat → Nat)) (fun _ => True) (fun u t => va_P D vwCl (w1 u) t.heap ∧ va_D A (w1 u)) A
def xZA (U : State) : Prop := (Cond.arrayOver (.array .long)).before #[] U = true
def xZD (U : State) : Prop := xZA U ∧ va_Nw (.methodLinkNest RX8 11 yX2_init RX8) U ∧ va_Nw (.methodLinkNest RX8 39 yX1_init RX8) U
theorem xZA_moved {s U : State} (hal : s.vm.Alike U.vm) (h : xZA s) : xZA U := arrayOver_alikeB hal h
theorem xZA_same (U V : State) (h : U.vm = V.vm) (hz : xZA U) : xZA V := xZA_moved (by rw [h]; exact Vm.Alike.refl _) hz
theorem xZD_same (U V : State) (h : U.vm = V.vm) (hz : xZD U) : xZD V := ⟨xZA_same U V h hz.1, hz.2.1.same rfl h, hz.2.2.same rfl h⟩
def xOut (cy : Nat → ClassId) (r : Nat → Nat) : va_E := .inl (cy 4, 16, .inr (.inr (.inr (.inr (fun j => if j < 16 then some (r j) else none)))))
def xRow (cy : Nat → ClassId) : va_E := .inl (cy 2, 16, .inr (.inl (fun _ => 0)))
section XN
variable {D : va_G} {cy : Nat → ClassId} {p : Program} {l : Launch} {e : Env} {R : Room} {s : State} {m : MethodId} {args : Array Value} {below : List Frame} {meth : Method} {c : Code} {nL : Nat} {A : Nat → Prop} {Q : State → Prop} {cc : ByteArray} {Ts : List Cond} {own : String} {pc : Nat} {lv : List (Nat × Value)} {st st0 : List Value} {ws : va_W} {k n : Nat}
theorem n_go {H : Heap} {locs : List Loc} {ls : Array Slot} (hP : va_P D vwCl ws H) (hD : va_D A ws) (hS : va_S A s.heap H locs) (hl : lv_has ls nL lv) (kk : xN D p l e R s m args below meth c nL A Q pc lv st ws k n) : W p l e R s m args below meth c H locs k n Q (F0 m pc ls st) := kk H locs ls hP hD hS hl
theorem n_eq {ws' : va_W} (h : ws = ws') (kk : xN D p l e R s m args below meth c nL A Q pc lv st ws' k n) : xN D p l e R s m args below meth c nL A Q pc lv st ws k n := h ▸ kk
theorem n_aload_n (C : xNc D cy p s m args meth c cc nL Ts own A) {a : Fin 4} {i x : Nat} (hd : decode cc pc = .ok (.aload_n a, 1)) (hi : (a : Nat) = i) (j : Nat) (hj : lv[j]? = some (i, .ref x)) (kk : xN D p l e R s m args below meth c nL A Q (pc + 1) lv (.ref x :: st) ws k n) : xN D p l e R s m args below meth c nL A Q pc lv st ws k n := fun H locs ls hP hD hS h1 => lv_aload_n C.1 C.2.1 hd hi (lv_at h1 j hj) (kk H locs ls hP hD hS h1)
theorem n_iload_n (C : xNc D cy p s m args meth c cc nL Ts own A) {a : Fin 4} {i : Nat} {x : Int32} (hd : decode cc pc = .ok (.iload_n a, 1)) (hi : (a : Nat) = i) (j : Nat) (hj : lv[j]? = some (i, .int x)) (kk : xN D p l e R s m args below meth c nL A Q (pc + 1) lv (.int x :: st) ws k n) : xN D p l e R s m args below meth c nL A Q pc lv st ws k n := fun H locs ls hP hD hS h1 => lv_iload_n C.1 C.2.1 hd hi (lv_at h1 j hj) (kk H locs ls hP hD hS h1)
theorem n_iconst (C : xNc D cy p s m args meth c cc nL Ts own A) {i : Int} {v : Int32} (hd : decode cc pc = .ok (.iconst i, 1)) (hv : Int32.ofInt i = v) (kk : xN D p l e R s m args below meth c nL A Q (pc + 1) lv (.int v :: st) ws k n) : xN D p l e R s m args below meth c nL A Q pc lv st ws k n := fun H locs ls hP hD hS h1 => lv_iconst C.1 C.2.1 hd hv (kk H locs ls hP hD hS h1)
theorem n_bipush (C : xNc D cy p s m args meth c cc nL Ts own A) {i : Int} {v : Int32} (hd : decode cc pc = .ok (.bipush i, 2)) (hv : (Int8.ofInt i).toInt32 = v) (kk : xN D p l e R s m args below meth c nL A Q (pc + 2) lv (.int v :: st) ws k n) : xN D p l e R s m args below meth c nL A Q pc lv st ws k n := fun H locs ls hP hD hS h1 => lv_bipush C.1 C.2.1 hd hv (kk H locs ls hP hD hS h1)
theorem n_sipush (C : xNc D cy p s m args meth c cc nL Ts own A) {i : Int} {v : Int32} (hd : decode cc pc = .ok (.sipush i, 3)) (hv : (Int16.ofInt i).toInt32 = v) (kk : xN D p l e R s m args below meth c nL A Q (pc + 3) lv (.int v :: st) ws k n) : xN D p l e R s m args below meth c nL A Q pc lv st ws k n := fun H locs ls hP hD hS h1 => lv_sipush C.1 C.2.1 hd hv (kk H locs ls hP hD hS h1)
theorem n_dup (C : xNc D cy p s m args meth c cc nL Ts own A) {v : Value} (hd : decode cc pc = .ok (.dup, 1)) (hv : v.category = 1) (kk : xN D p l e R s m args below meth c nL A Q (pc + 1) lv (v :: v :: st) ws k n) : xN D p l e R s m args below meth c nL A Q pc lv (v :: st) ws k n := fun H locs ls hP hD hS h1 => lv_dup C.1 C.2.1 hd hv (kk H locs ls hP hD hS h1)
theorem n_goto (C : xNc D cy p s m args meth c cc nL Ts own A) {off : Int} {tgt : Nat} (hd : decode cc pc = .ok (.goto off, 3)) (ht : (pc : Int) + off = (tgt : Int)) (kk : xN D p l e R s m args below meth c nL A Q tgt lv st ws k n) : xN D p l e R s m args below meth c nL A Q pc lv st ws k n := fun H locs ls hP hD hS h1 => lv_goto C.1 C.2.1 hd ht (kk H locs ls hP hD hS h1)
theorem n_if_le (C : xNc D cy p s m args meth c cc nL Ts own A) {x : Int32} {off : Int} {tgt : Nat} (hd : decode cc pc = .ok (.ifCond .le off, 3)) (ht : (pc : Int) + off = (tgt : Int)) (hx : ¬ x ≤ 0) (kk : xN D p l e R s m args below meth c nL A Q (pc + 3) lv st ws k n) : xN D p l e R s m args below meth c nL A Q pc lv (.int x :: st) ws k n := fun H locs ls hP hD hS h1 => lv_if_le C.1 C.2.1 hd ht (fun hc => absurd hc hx) (fun _ => kk H locs ls hP hD hS h1)
theorem n_objInit (C : xNc D cy p s m args meth c cc nL Ts own A) {idx a : Nat} (hlink : (Cond.methodLink own idx objectInit).before args s = true) (hinst : (Cond.instanceMethod objectInit).before args s = true) (hcode : (Cond.code objectInit ⟨#[0xb1]⟩ 1 none).before args s = true) (hd : decode cc pc = .ok (.invokespecial idx, 3)) (hf : 1 ≤ R.frames) (hl : (st.map fun v => v.category).sum + 12 ≤ R.locals) (kk : xN D p l e R s m args below meth c nL A Q (pc + 3) lv st ws k n) : xN D p l e R s m args below meth c nL A Q pc lv (.ref a :: st) ws k n := fun H locs ls hP hD hS h1 => by
  refine W.objInit C.1 C.2.1 C.2.2.2.1 hlink hinst hcode (g := F0 m pc ls (.ref a :: st)) rfl (by rw [C.2.2.1]; exact h1.1) rfl hd hf (by show 2 * 0 + _ + 12 ≤ _; omega) ?_
  exact kk H locs ls hP hD hS h1
theorem n_newa (C : xNc D cy p s m args meth c cc nL Ts own A) {ix N' : Nat} {ty : FieldType} {atype : ArrayType} {con : (Nat → Int32) ⊕ (Nat → Int64) ⊕ (Nat → UInt32) ⊕ (Nat → UInt64) ⊕ (Nat → Option Nat)} {i : Int32} (hix : (xtyc cy)[ix]? = some (cy ix, ty)) (harr : (Cond.arrayClass ty).before args s = true) (hty : newarray.typeOf atype = ty) (hRA : ∀ (U : State) (cA : ClassId), va_RA U cA ty → U.vm.findClass ("[" ++ ty.toString) = some cA) (ha : ∀ cA : ClassId, vp_cell cA (N', con) = arrV cA N' (fun _ => defaultValue ty)) (hn : ¬ i < 0) (hN : i.toNatClampNeg = N') (hbytes : N' * componentBytes ty ≤ 536870912) (hcells : k + 1 ≤ R.cells) (hslots : n + N' ≤ R.slots) (hd : decode cc pc = .ok (.newarray atype, 2)) (kk : ∀ q : Nat, xN D p l e R s m args below meth c nL A Q (pc + 2) lv (.ref q :: st) (ws ++ [(q, .inl (cy ix, N', con))]) (k + 1) (n + N')) : xN D p l e R s m args below meth c nL A Q pc lv (.int i :: st) ws k n := fun H locs ls hP hD hS h1 => by
  subst hty
  refine va_newa C.1 C.2.1 harr rfl C.2.2.2.2.2.1 hP hD hS C.2.2.2.2.2.2.1 ha hn hN hbytes hcells hslots hd (fun q cA H1 hK1 hP1 hD1 hS1 => ?_)
  have e1 := hRA s cA (hK1.2 5 _ rfl).2
  have e2 := hRA s (cy ix) (C.2.2.2.2.2.1.2 ix _ hix).2
  have e3 : cA = cy ix := Option.some.inj (e1.symm.trans e2)
  subst e3
  exact kk q H1 locs ls hP1 hD1 hS1 h1
theorem n_mna (C : xNc D cy p s m args meth c cc nL Ts own A) {idx : Nat} (hd : decode cc pc = .ok (.multianewarray idx 2, 4)) (hclink : (Cond.classLink own idx "[[J").before args s = true) (hZ : xZA s) (harr : (Cond.arrayClass .long).before args s = true) (hcells : k + 17 ≤ R.cells) (hslots : n + 272 ≤ R.slots) (kk : ∀ (q : Nat) (r : Nat → Nat), xN D p l e R s m args below meth c nL A Q (pc + 4) lv (.ref q :: st) ((ws ++ [(q, xOut cy r)]) ++ (List.range 16).map (fun i => (r i, xRow cy))) (k + 17) (n + 272)) : xN D p l e R s m args below meth c nL A Q pc lv (.int 16 :: .int 16 :: st) ws k n := fun H locs ls hP hD hS h1 => by
  have hK := C.2.2.2.2.2.1
  have hcy : s.vm.findClass (FieldType.array .long).toString = some (cy 2) := (hK.2 2 _ rfl).2
  have hP0 : va_P D vwCl (ws ++ va_pl [] (fun _ => xRow cy)) H := by rw [show va_pl [] (fun _ => xRow cy) = [] from rfl, List.append_nil]; exact hP
  have hD0 : va_D A (ws ++ va_pl [] (fun _ => xRow cy)) := by rw [show va_pl [] (fun _ => xRow cy) = [] from rfl, List.append_nil]; exact hD
  refine va_mna (N' := 16) (K' := 16) (z := (16, .inr (.inl (fun _ => 0)))) C.1 C.2.1 C.2.2.2.1 hclink (arrayOver_alikeB (Vm.Alike.refl _) hZ) harr hcy hK hP0 hD0 hS C.2.2.2.2.2.2.1 (by decide) (by decide) rfl rfl (by decide) (by decide) (by decide) rfl rfl (by omega) (by omega) (fun _ => rfl) hd (fun q r cA H1 hr1 hr2 hK1 hP1 hD1 hS1 => ?_)
  have e1 : s.vm.findClass "[[J" = some cA := (hK1.2 5 _ rfl).2
  have e2 : s.vm.findClass "[[J" = some (cy 4) := (hK.2 4 _ rfl).2
  have e3 : cA = cy 4 := Option.some.inj (e1.symm.trans e2)
  subst e3
  have hw : va_pl ([] ++ (List.range 16).map r) (vr_up (fun _ => xRow cy) ((List.range 16).map r) (.inl (cy 2, (16, .inr (.inl (fun _ => 0)))))) = (List.range 16).map (fun i => (r i, xRow cy)) := by
    unfold va_pl
    rw [List.nil_append, List.map_map]
    apply List.map_congr_left
    intro a ha
    show (r a, vr_up _ _ _ (r a)) = _
    rw [vr_up_in (List.mem_map.mpr ⟨a, ha, rfl⟩)]
    rfl
  rw [hw] at hP1 hD1
  have h2 := kk q r H1 locs ls hP1 hD1 hS1 h1
  rw [show k + 1 + 16 = k + 17 by omega, show n + 16 + 16 * 16 = n + 272 by omega]
  exact h2
theorem n_new (C : xNc D cy p s m args meth c cc nL Ts own A) {ci N idx : Nat} {fs : List Value} {C0 : String} {T : u_T} {ty0 : Nat → FieldType} (hin : ∀ w ∈ u_ws C0 T N, w ∈ Ts) (hty : ∀ k, k < N → parseFieldDescriptor (T k).2.2.1 = some (ty0 k)) (hcl : (Cond.classLink own idx C0).before args s = true) (hinst : (Cond.instantiable C0 N).before args s = true) (hini : (Cond.initialized C0).before args s = true) (hc : vwCl[ci]? = some (C0, T, N)) (hfs : (List.range N).map (fun j => defaultValue (ty0 j)) = (List.range N).map (vp_V fs)) (hcells : k + 1 ≤ R.cells) (hslots : n + N ≤ R.slots) (hd : decode cc pc = .ok (.new idx, 3)) (kk : ∀ q : Nat, xN D p l e R s m args below meth c nL A Q (pc + 3) lv (.ref q :: st) (ws ++ [(q, .inr (ci, fs))]) (k + 1) (n + N)) : xN D p l e R s m args below meth c nL A Q pc lv st ws k n := fun H locs ls hP hD hS h1 => by
  refine va_new C.1 C.2.1 C.2.2.2.2.1 hin ty0 hty C.2.2.2.1 hcl hinst hini C.2.2.2.2.2.1 hP hD hS C.2.2.2.2.2.2.1 hc (fun j hj => ?_) hcells hslots hd (fun q H1 hP1 hD1 hS1 => kk q H1 locs ls hP1 hD1 hS1 h1)
  have h2 := congrArg (fun l => l[j]?) hfs
  simp only [List.getElem?_map, List.getElem?_range hj, Option.map_some, Option.some.injEq] at h2
  exact h2
theorem n_put (C : xNc D cy p s m args meth c cc nL Ts own A) {C0 : String} {T : u_T} {N ci idx a : Nat} {ty0 : Nat → FieldType} {ty : FieldType} {v : Value} {fs : List Value} (q0 : Nat) (he : ws[q0]? = some (a, .inr (ci, fs))) (hc : vwCl[ci]? = some (C0, T, N)) (j : Nat) (hj : j < N) (hin : ∀ w ∈ u_ws C0 T N, w ∈ Ts) (hty : ∀ k, k < N → parseFieldDescriptor (T k).2.2.1 = some (ty0 k)) (hnm : ∀ a, a < N → ∀ b, b < N → a ≠ b → (T a).2.1 ≠ (T b).2.1) (hlink : (Cond.fieldLink own idx (T j).1 (T j).2.1 (T j).2.2.1).before args s = true) (hfin : (T j).2.2.2 = false) (hpd : parseFieldDescriptor (T j).2.2.1 = some ty) (hn : narrow ty v = v) (hfit : fits ty v = true) (hl : j < fs.length) (hd : decode cc pc = .ok (.putfield idx, 3)) (kk : xN D p l e R s m args below meth c nL A Q (pc + 3) lv st (ws.set q0 (a, .inr (ci, fs.set j v))) k n) : xN D p l e R s m args below meth c nL A Q pc lv (v :: .ref a :: st) ws k n := fun H locs ls hP hD hS h1 =>
  va_put C.1 C.2.1 C.2.2.2.2.1 hin ty0 hty hnm C.2.2.2.1 C.2.2.2.2.2.1 hP hD hS q0 he hc j hj hlink (fun _ h => h) hfin hpd hn hfit hl hd (fun H1 locs1 hP1 hD1 hS1 => kk H1 locs1 ls hP1 hD1 hS1 h1)
theorem n_putF (C : xNc D cy p s m args meth c cc nL Ts own A) {C0 : String} {T : u_T} {N ci idx a : Nat} {ty0 : Nat → FieldType} {ty : FieldType} {v : Value} {fs : List Value} (q0 : Nat) (he : ws[q0]? = some (a, .inr (ci, fs))) (hc : vwCl[ci]? = some (C0, T, N)) (j : Nat) (hj : j < N) (hin : ∀ w ∈ u_ws C0 T N, w ∈ Ts) (hty : ∀ k, k < N → parseFieldDescriptor (T k).2.2.1 = some (ty0 k)) (hnm : ∀ a, a < N → ∀ b, b < N → a ≠ b → (T a).2.1 ≠ (T b).2.1) (hlink : (Cond.fieldLink own idx (T j).1 (T j).2.1 (T j).2.2.1).before args s = true) (hfin : (T j).2.2.2 = true) (hinit : meth.name = "<init>") (hdecl : (T j).1 = own) (hpd : parseFieldDescriptor (T j).2.2.1 = some ty) (hn : narrow ty v = v) (hfit : fits ty v = true) (hl : j < fs.length) (hd : decode cc pc = .ok (.putfield idx, 3)) (kk : xN D p l e R s m args below meth c nL A Q (pc + 3) lv st (ws.set q0 (a, .inr (ci, fs.set j v))) k n) : xN D p l e R s m args below meth c nL A Q pc lv (v :: .ref a :: st) ws k n := fun H locs ls hP hD hS h1 =>
  va_putF C.1 C.2.1 C.2.2.2.2.1 hin ty0 hty hnm C.2.2.2.1 C.2.2.2.2.2.1 hP hD hS q0 he hc j hj hlink (fun _ h => h) hfin hinit hdecl hpd hn hfit hl hd (fun H1 locs1 hP1 hD1 hS1 => kk H1 locs1 ls hP1 hD1 hS1 h1)
theorem n_get (C : xNc D cy p s m args meth c cc nL Ts own A) {C0 : String} {T : u_T} {N ci idx a : Nat} {v : Value} {fs : List Value} (q0 : Nat) (he : ws[q0]? = some (a, .inr (ci, fs))) (hc : vwCl[ci]? = some (C0, T, N)) (j : Nat) (hj : j < N) (hin : ∀ w ∈ u_ws C0 T N, w ∈ Ts) (hlink : (Cond.fieldLink own idx (T j).1 (T j).2.1 (T j).2.2.1).before args s = true) (hv : fs[j]? = some v) (hd : decode cc pc = .ok (.getfield idx, 3)) (kk : xN D p l e R s m args below meth c nL A Q (pc + 3) lv (v :: st) ws k n) : xN D p l e R s m args below meth c nL A Q pc lv (.ref a :: st) ws k n := fun H locs ls hP hD hS h1 =>
  va_get C.1 C.2.1 C.2.2.2.2.1 hin C.2.2.2.1 C.2.2.2.2.2.1 hP q0 he hc j hj hlink (fun _ h => h) hv hd (kk H locs ls hP hD hS h1)
theorem nPc_blind {as : List Value} {w : va_W} {sz : Nat} {Z : State → Prop} (hZ0 : ∀ U V : State, U.vm = V.vm → Z U → Z V) : FrameBlind (nPc D cy as w sz Z) := fun a U g mk q => by
  obtain ⟨q0, q1, qP, qK, qD, qZ⟩ := q
  exact ⟨q0, q1, qP, va_K.moved (u := U) (U := U.calling g mk a) (Vm.Alike.refl U.vm) qK, qD, hZ0 U _ rfl qZ⟩
theorem n_call (C : xNc D cy p s m args meth c cc nL Ts own A) {y : MethodName} {bytes : ByteArray} {maxL idx n0 mc ms q : Nat} {wsC : List Cond} {rm : Room} {ent : va_E} {wr : va_W} {w1 : (Nat → Nat) × (Nat → Nat) → va_W} {As : List Value} {Z : State → Prop} (isC isR : List Nat) (hC : isC.map (fun i => (wr ++ [(q, ent)])[i]?) = [(q, ent)].map some) (hR : isR.map (fun i => (wr ++ [(q, ent)])[i]?) = wr.map some) (hnC : va_nd isC = true) (hnR : va_nd isR = true) (hdis : ∀ i ∈ isR, i ∉ isC)
    (hM : ∀ sz : Nat, Met l y wsC rm (nPc D cy (.ref q :: As) [(q, ent)] sz Z) (nQv D (va_A [(q, ent)] sz) w1) mc ms (va_A [(q, ent)] sz)) (cw : CallB R s args own idx y bytes maxL none wsC rm mc ms n0 ∧ y.name = "<init>" ∧ (Cond.instanceMethod y).before args s = true) (hZ0 : ∀ U V : State, U.vm = V.vm → Z U → Z V) (hZ : ∀ U : State, s.WarmedH U.vm → Z U) (hn : As.length = n0) (hstk : st0 = As.reverse ++ .ref q :: st) (hroom : (st.map fun v => v.category).sum ≤ 8) (hd : decode cc pc = .ok (.invokespecial idx, 3)) (hc : k + mc ≤ R.cells) (hs : n + ms ≤ R.slots)
    (kk : ∀ u : (Nat → Nat) × (Nat → Nat), xN D p l e R s m args below meth c nL A Q (pc + 3) lv st (wr ++ w1 u) (k + mc) (n + ms)) : xN D p l e R s m args below meth c nL A Q pc lv st0 (wr ++ [(q, ent)]) k n := fun H locs ls hP hD hS hl => by
  obtain ⟨hx, hb, hml, hown, hts, hK, hA, hlk⟩ := C
  have hDc : va_D A [(q, ent)] := hD.sub isC hnC hC
  have hPc : va_P D vwCl [(q, ent)] H := fun i z hz => by
    have h1 : (isC.map (fun i => (wr ++ [(q, ent)])[i]?))[i]? = some (some z) := by rw [hC, List.getElem?_map, hz]; rfl
    rw [List.getElem?_map] at h1
    obtain ⟨i', -, h2⟩ := Option.map_eq_some_iff.mp h1
    exact hP i' z h2
  have hFc := va_free (wc := [(q, ent)]) hD hS hA isC hC
  refine va_callv (va_runI (As := As) (rest := st) ⟨hx, hb, hml, hown, hts⟩ (hM H.size) cw ⟨nPc_blind hZ0, fun U hU hW => ⟨rfl, by rw [hU], by rw [hU]; exact hPc, va_K.moved hW.alike hK, hDc.weaken (fun _ _ _ _ => trivial), hZ U hW⟩⟩ rfl hn hl.1 hstk (lv_room hroom) hd ⟨hc, hs⟩) hS (fun q _ h => hFc q h) hFc (fun u t H1 locs1 ht hvm hw hB hz1 hk1 hS1 => ?_)
  obtain ⟨hP1, hD1⟩ := hB
  rw [ht] at hP1
  obtain ⟨hP2, hD2⟩ := va_join (wr := wr) (w1 := w1 u) hP hD isC isR hC hR hnR hdis hk1 hFc hP1 hD1
  exact kk u H1 locs1 ls hP2 hD2 hS1 hl
theorem n_callN (C : xNc D cy p s m args meth c cc nL Ts own A) {y : MethodName} {host : String} {bytes : ByteArray} {maxL idx n0 mc ms q : Nat} {wsC : List Cond} {rm : Room} {ent : va_E} {wr : va_W} {w1 : (Nat → Nat) × (Nat → Nat) → va_W} {As : List Value} {Z : State → Prop} (isC isR : List Nat) (hC : isC.map (fun i => (wr ++ [(q, ent)])[i]?) = [(q, ent)].map some) (hR : isR.map (fun i => (wr ++ [(q, ent)])[i]?) = wr.map some) (hnC : va_nd isC = true) (hnR : va_nd isR = true) (hdis : ∀ i ∈ isR, i ∉ isC)
    (hM : ∀ sz : Nat, Met l y wsC rm (nPc D cy (.ref q :: As) [(q, ent)] sz Z) (nQv D (va_A [(q, ent)] sz) w1) mc ms (va_A [(q, ent)] sz)) (cw : va_CN R s args own idx y host bytes maxL none wsC rm mc ms n0 ∧ y.name = "<init>" ∧ (Cond.instanceMethod y).before args s = true) (hZ0 : ∀ U V : State, U.vm = V.vm → Z U → Z V) (hZ : ∀ U : State, s.WarmedH U.vm → Z U) (hn : As.length = n0) (hstk : st0 = As.reverse ++ .ref q :: st) (hroom : (st.map fun v => v.category).sum ≤ 8) (hd : decode cc pc = .ok (.invokespecial idx, 3)) (hc : k + mc ≤ R.cells) (hs : n + ms ≤ R.slots)
    (kk : ∀ u : (Nat → Nat) × (Nat → Nat), xN D p l e R s m args below meth c nL A Q (pc + 3) lv st (wr ++ w1 u) (k + mc) (n + ms)) : xN D p l e R s m args below meth c nL A Q pc lv st0 (wr ++ [(q, ent)]) k n := fun H locs ls hP hD hS hl => by
  obtain ⟨hx, hb, hml, hown, hts, hK, hA, hlk⟩ := C
  have hDc : va_D A [(q, ent)] := hD.sub isC hnC hC
  have hPc : va_P D vwCl [(q, ent)] H := fun i z hz => by
    have h1 : (isC.map (fun i => (wr ++ [(q, ent)])[i]?))[i]? = some (some z) := by rw [hC, List.getElem?_map, hz]; rfl
    rw [List.getElem?_map] at h1
    obtain ⟨i', -, h2⟩ := Option.map_eq_some_iff.mp h1
    exact hP i' z h2
  have hFc := va_free (wc := [(q, ent)]) hD hS hA isC hC
  refine va_callv (va_runIN (As := As) (rest := st) ⟨hx, hb, hml, hown, hts⟩ (hM H.size) cw ⟨nPc_blind hZ0, fun U hU hW => ⟨rfl, by rw [hU], by rw [hU]; exact hPc, va_K.moved hW.alike hK, hDc.weaken (fun _ _ _ _ => trivial), hZ U hW⟩⟩ rfl hn hl.1 hstk (lv_room hroom) hd ⟨hc, hs⟩) hS (fun q _ h => hFc q h) hFc (fun u t H1 locs1 ht hvm hw hB hz1 hk1 hS1 => ?_)
  obtain ⟨hP1, hD1⟩ := hB
  rw [ht] at hP1
  obtain ⟨hP2, hD2⟩ := va_join (wr := wr) (w1 := w1 u) hP hD isC isR hC hR hnR hdis hk1 hFc hP1 hD1
  exact kk u H1 locs1 ls hP2 hD2 hS1 hl
theorem n_ret {w1 : (Nat → Nat) × (Nat → Nat) → va_W} {u : (Nat → Nat) × (Nat → Nat)} (C : xNc D cy p s m args meth c cc nL Ts own A) (hr : meth.sig.returnType = none) (hw : ws = w1 u) (hd : decode cc pc = .ok (.return_, 1)) : xN D p l e R s m args below meth c nL A (MQ below (nQv D A w1) args s k n A) pc lv [] ws k n := fun H locs ls hP hD hS hl => by
  subst hw
  exact W.vret C.1 C.2.1 hr (fun t ht hW => ⟨⟨u, rfl, trivial, by rw [ht]; exact hP, hD⟩, hS.F ht⟩) hS.2.2 hd C.2.2.2.2.2.2.2
end XN
