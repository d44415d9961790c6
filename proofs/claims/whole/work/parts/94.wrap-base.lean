/-! WRAPPERS of the law: a call that may throw; its answer goes into cell 77, its code is the wrapper's answer -/
abbrev rmL : Room := { frames := 31, cells := 1, slots := 6, locals := 800 }
def xN3 (U : State) : Prop := va_Nc (xexc 2) (xexc 1) U ∧ va_Nc (xexc 3) (xexc 1) U ∧ va_Nc (xexc 3) (xexc 2) U
theorem xN3.moved {u U : State} (hvm : u.vm.Alike U.vm) (h : xN3 u) : xN3 U := ⟨h.1.moved hvm, h.2.1.moved hvm, h.2.2.moved hvm⟩
def xPL (G : xG) (as : List Value) (h : xHp) : Array Value → State → Prop := va_Pc as (fun U => va_P (xD G) vwCl (xwd G h) U.heap ∧ va_K (xD G) vwCl (xtys G) U ∧ xgood G ∧ xbase G ≤ U.heap.size ∧ xZ G U ∧ xN3 U)
theorem xPL_blind {G : xG} {as : List Value} {h : xHp} : FrameBlind (xPL G as h) := fun a U g mk q => by
  obtain ⟨q0, qP, qK, qg, qb, qz, q3⟩ := q
  exact ⟨q0, qP, va_K.moved (u := U) (U := U.calling g mk a) (Vm.Alike.refl U.vm) qK, qg, qb, qz.calling g mk a, q3.moved (u := U) (U := U.calling g mk a) (Vm.Alike.refl U.vm)⟩
def LwI (o : Option (Int32 × xHp)) : Option (Int32 × xHp) := bnd2 o fun V h1 => grd (xin 0 1) (bnd (sJ h1 77 (Int32.toNatClampNeg 0) V.toInt64) fun h2 => some (0, h2))
def LwJ (o : Option (Int64 × xHp)) : Option (Int32 × xHp) := bnd2 o fun V h1 => grd (xin 0 1) (bnd (sJ h1 77 (Int32.toNatClampNeg 0) V) fun h2 => some (0, h2))
theorem LwI_of {o : Option (Int32 × xHp)} {V : Int32} {h1 : xHp} (h : o = some (V, h1)) : LwI o = some (0, sJ h1 77 0 V.toInt64) := by subst h; rfl
theorem LwJ_of {o : Option (Int64 × xHp)} {V : Int64} {h1 : xHp} (h : o = some (V, h1)) : LwJ o = some (0, sJ h1 77 0 V) := by subst h; rfl
section XW
variable {G : xG} {p : Program} {l : Launch} {e : Env} {R : Room} {s : State} {m : MethodId} {args : Array Value} {below : List Frame} {meth : Method} {c : Code} {nL : Nat} {cc : ByteArray} {own : String} {pc : Nat} {lv : List (Nat × Value)} {st st0 : List Value} {h : xHp} {Ts : List Cond}
variable {y : MethodName} {bytes : ByteArray} {maxL n idx : Nat} {ret : Option FieldType} {ws : List Cond} {rm : Room} {As : List Value}
theorem w_met {as : List Value} {fo : Option (Int32 × xHp)} {ws' : List Cond} {lv0 : List (Nat × Value)} {hh : List (Nat × Nat × Nat × Nat)} (hy : plainName y.cls = true) (ho : y.cls = own) (hw : ws = Cond.codeWith y cc maxL ret hh :: ws') (hlen : (lg_sl as).length ≤ maxL) (hlv : lv_args 0 as = lv0)
    (body : ∀ p e s m below meth c, xCz G p s m as.toArray meth c cc maxL ws own → xN3 s → c.exceptionTable.toList = tableOf hh → meth.sig.returnType = ret → xJ G p l e rm s m as.toArray below meth c maxL (fun res => MQ below (xQi G res) as.toArray s 1 6 (xA G)) 0 lv0 [] h fo) : ∀ r, fo = some r → Met l y ws rm (xPL G as h) (xQi G r) 1 6 (xA G) := by
  intro r hr
  refine va_MetW (cc := cc) (maxL := maxL) (ret := ret) (hh := hh) hy hw ?_
  intro p e s m args below meth c s₁ B hml hv
  obtain ⟨rfl, hP, hK, hG, hb, hz, h3⟩ := hv
  have hts := atoms_spec (ws := ws) B.pre
  have hown : s.vm.findClass own = some m.cls := by rw [← ho]; exact findClass_of_methodNamed B.named
  have htab : c.exceptionTable.toList = tableOf hh := vx_table (x := y) B (hts _ (by rw [hw]; exact List.mem_cons_self))
  have hl := lv_entry as (n := maxL) hlen
  rw [hlv] at hl
  rw [lg_entry_eq]
  exact body p e s m below meth c ⟨⟨B.exec, B.bytes, hml, hown, hts, hK, hG, hb, B.notSynchronized⟩, hz⟩ h3 htab B.returns r hr s.heap [] _ hP va_S.rf hl
theorem w_iret (C : xC G p s m args meth c cc nL Ts own) {v : Int32} (hd : decode cc pc = .ok (.ireturn, 1)) (hr : meth.sig.returnType = some .int) : xJ G p l e R s m args below meth c nL (fun res => MQ below (xQi G res) args s 1 6 (xA G)) pc lv [.int v] h (some (v, h)) := fun res er H locs ls hP hS h1 => by
  cases er
  refine W.widen (k := 1) (n := 6) (by decide) (by decide) ?_
  exact W.iret C.1 C.2.1 hr (fun t ht hW => ⟨⟨v, h, rfl, rfl, by show va_P (xD G) vwCl (xwd G h) t.heap; rw [ht]; exact hP⟩, hS.F ht⟩) hS.2.2 hd C.2.2.2.2.2.2.2.2
theorem w_hand (C : xC G p s m args meth c cc nL Ts own) {i a : Nat} {k : Int} {v : Int32} {H : Heap} {locs : List Loc} {ls : Array Slot} (d0 : decode cc pc = .ok (.astore i, 2)) (d1 : decode cc (pc + 2) = .ok (.iconst k, 1)) (d2 : decode cc (pc + 3) = .ok (.ireturn, 1)) (hi : i < nL) (hv : Int32.ofInt k = v) (hr : meth.sig.returnType = some .int) (hP : va_P (xD G) vwCl (xwd G h) H) (hS : va_S (xA G) s.heap H locs) (h1 : lv_has ls nL lv) : W p l e R s m args below meth c H locs 1 6 (MQ below (xQi G (v, h)) args s 1 6 (xA G)) (F0 m pc ls [.ref a]) := by
  refine lv_astore C.1 C.2.1 d0 h1 hi rfl (fun ls' h2 => ?_)
  refine lv_iconst C.1 C.2.1 d1 hv ?_
  exact W.iret C.1 C.2.1 hr (fun t ht hW => ⟨⟨v, h, rfl, rfl, by show va_P (xD G) vwCl (xwd G h) t.heap; rw [ht]; exact hP⟩, hS.F ht⟩) hS.2.2 d2 C.2.2.2.2.2.2.2.2
theorem w_handn (C : xC G p s m args meth c cc nL Ts own) {i a : Nat} {f : Fin 4} {k : Int} {v : Int32} {H : Heap} {locs : List Loc} {ls : Array Slot} (d0 : decode cc pc = .ok (.astore_n f, 1)) (d1 : decode cc (pc + 1) = .ok (.iconst k, 1)) (d2 : decode cc (pc + 2) = .ok (.ireturn, 1)) (hf : (f : Nat) = i) (hi : i < nL) (hv : Int32.ofInt k = v) (hr : meth.sig.returnType = some .int) (hP : va_P (xD G) vwCl (xwd G h) H) (hS : va_S (xA G) s.heap H locs) (h1 : lv_has ls nL lv) : W p l e R s m args below meth c H locs 1 6 (MQ below (xQi G (v, h)) args s 1 6 (xA G)) (F0 m pc ls [.ref a]) := by
  refine lv_astore_n C.1 C.2.1 d0 hf h1 hi rfl (fun ls' h2 => ?_)
  refine lv_iconst C.1 C.2.1 d1 hv ?_
  exact W.iret C.1 C.2.1 hr (fun t ht hW => ⟨⟨v, h, rfl, rfl, by show va_P (xD G) vwCl (xwd G h) t.heap; rw [ht]; exact hP⟩, hS.F ht⟩) hS.2.2 d2 C.2.2.2.2.2.2.2.2
theorem w_callXi (C : xCz G p s m args meth c cc nL Ts own) {i ci N t : Nat} {Cn : String} {T : u_T} {fs : List Value} {h1 : xHp} {v : Int32} (hd : decode cc pc = .ok (.invokevirtual idx, 3)) (hM : vx_Met l y ws rm (xPz G (.ref (xad G i) :: As) h) yNi (xXC G (t, h1)) 1 6 (xA G)) (cw : CallW R s args own Cn idx y bytes maxL ret ws rm 1 6 n) (hc : xcell G i (h.1 i) (h.2.1 i) h.2.2 = .inr (ci, fs)) (hi : i < xNC) (hcl : vwCl[ci]? = some (Cn, T, N)) (hn : As.length = n) (hstk : st0 = As.reverse ++ .ref (xad G i) :: st) (hroom : (st.map fun v => v.category).sum ≤ 8) (hrc : 1 ≤ R.cells) (hrs : 6 ≤ R.slots)
    (pre : List ExceptionTableEntry) (x : ExceptionTableEntry) (suf : List ExceptionTableEntry) (hsplit : c.exceptionTable.toList = pre ++ x :: suf) (hpass : ∀ z ∈ pre, covers z pc = false ∨ (z.catchType ≠ 0 ∧ ∃ nm : String, (Cond.classLink own z.catchType nm).before args s = true ∧ va_Nc (xexc t) nm s)) (hx : covers x pc = true) (h0 : x.catchType ≠ 0) (hlink : (Cond.classLink own x.catchType (xexc t)).before args s = true) (hcast : va_Nw (.castable (xexc t) (xexc t)) s)
    (kk : ∀ (H : Heap) (locs : List Loc) (ls : Array Slot) (q : Nat), va_P (xD G) vwCl (xwd G h1) H → va_S (xA G) s.heap H locs → lv_has ls nL lv → W p l e R s m args below meth c H locs 1 6 (MQ below (xQi G (v, h1)) args s 1 6 (xA G)) (F0 m x.handlerPc ls [.ref q])) : xJ G p l e R s m args below meth c nL (fun res => MQ below (xQi G res) args s 1 6 (xA G)) pc lv st0 h (some (v, h1)) := by
  intro res er H locs ls hP hS hl
  cases er
  obtain ⟨⟨hxx, hb, hml, hown, hts, hK, hG, hbs, hlk⟩, hz⟩ := C
  subst hstk
  refine vx_calli (A1 := fun _ => False) (AX := xA G) (vx_runV (As := As) (rest := st) ⟨hxx, hb, hml, hown, hts⟩ hM cw ⟨xPz_blind, va_recv hK hP hcl ((xwd_get hi).trans (by rw [hc])), fun U hU hW => ⟨rfl, by rw [hU]; exact hP, va_K.moved hW.alike hK, hG, by rw [hU]; exact Nat.le_trans hbs hS.1, hz.go hW (by rw [hU]; exact hS.2.1)⟩⟩ rfl hn hl.1 rfl (lv_room hroom) hd ⟨by omega, by omega⟩) hS (fun q _ h => h.elim) (fun q h => h) (fun q _ h => h) (fun E ce q9 u t' H1 locs1 ht hvm hp hB hz1 hk hS1 hce hcv hcl1 => ?_) (fun r u t' H1 locs1 _ _ hw _ _ _ _ => hw.elim)
  obtain ⟨hE, hP1⟩ := hB
  have hE : E = xexc t := hE
  have hp : u = h1 := hp
  subst hE
  subst hp
  rw [ht] at hP1
  exact vx_catch hown pre x suf hsplit hpass hx h0 hlink (va_Nw.use rfl hcast) hce hcv hcl1 (kk H1 locs1 ls q9 hP1 hS1 hl)
theorem w_callXl (C : xCz G p s m args meth c cc nL Ts own) {i ci N t : Nat} {Cn : String} {T : u_T} {fs : List Value} {h1 : xHp} {v : Int32} (hd : decode cc pc = .ok (.invokevirtual idx, 3)) (hM : vx_Met l y ws rm (xPz G (.ref (xad G i) :: As) h) yNl (xXC G (t, h1)) 1 6 (xA G)) (cw : CallW R s args own Cn idx y bytes maxL ret ws rm 1 6 n) (hc : xcell G i (h.1 i) (h.2.1 i) h.2.2 = .inr (ci, fs)) (hi : i < xNC) (hcl : vwCl[ci]? = some (Cn, T, N)) (hn : As.length = n) (hstk : st0 = As.reverse ++ .ref (xad G i) :: st) (hroom : (st.map fun v => v.category).sum ≤ 8) (hrc : 1 ≤ R.cells) (hrs : 6 ≤ R.slots)
    (pre : List ExceptionTableEntry) (x : ExceptionTableEntry) (suf : List ExceptionTableEntry) (hsplit : c.exceptionTable.toList = pre ++ x :: suf) (hpass : ∀ z ∈ pre, covers z pc = false ∨ (z.catchType ≠ 0 ∧ ∃ nm : String, (Cond.classLink own z.catchType nm).before args s = true ∧ va_Nc (xexc t) nm s)) (hx : covers x pc = true) (h0 : x.catchType ≠ 0) (hlink : (Cond.classLink own x.catchType (xexc t)).before args s = true) (hcast : va_Nw (.castable (xexc t) (xexc t)) s)
    (kk : ∀ (H : Heap) (locs : List Loc) (ls : Array Slot) (q : Nat), va_P (xD G) vwCl (xwd G h1) H → va_S (xA G) s.heap H locs → lv_has ls nL lv → W p l e R s m args below meth c H locs 1 6 (MQ below (xQi G (v, h1)) args s 1 6 (xA G)) (F0 m x.handlerPc ls [.ref q])) : xJ G p l e R s m args below meth c nL (fun res => MQ below (xQi G res) args s 1 6 (xA G)) pc lv st0 h (some (v, h1)) := by
  intro res er H locs ls hP hS hl
  cases er
  obtain ⟨⟨hxx, hb, hml, hown, hts, hK, hG, hbs, hlk⟩, hz⟩ := C
  subst hstk
  refine vx_calll (A1 := fun _ => False) (AX := xA G) (vx_runV (As := As) (rest := st) ⟨hxx, hb, hml, hown, hts⟩ hM cw ⟨xPz_blind, va_recv hK hP hcl ((xwd_get hi).trans (by rw [hc])), fun U hU hW => ⟨rfl, by rw [hU]; exact hP, va_K.moved hW.alike hK, hG, by rw [hU]; exact Nat.le_trans hbs hS.1, hz.go hW (by rw [hU]; exact hS.2.1)⟩⟩ rfl hn hl.1 rfl (lv_room hroom) hd ⟨by omega, by omega⟩) hS (fun q _ h => h.elim) (fun q h => h) (fun q _ h => h) (fun E ce q9 u t' H1 locs1 ht hvm hp hB hz1 hk hS1 hce hcv hcl1 => ?_) (fun r u t' H1 locs1 _ _ hw _ _ _ _ => hw.elim)
  obtain ⟨hE, hP1⟩ := hB
  have hE : E = xexc t := hE
  have hp : u = h1 := hp
  subst hE
  subst hp
  rw [ht] at hP1
  exact vx_catch hown pre x suf hsplit hpass hx h0 hlink (va_Nw.use rfl hcast) hce hcv hcl1 (kk H1 locs1 ls q9 hP1 hS1 hl)
end XW
