/-! the class: what its nest-mate calls and its throws need beside the world -/
def xZs (U : State) : Prop := (∃ sa, vk_R RX8 88 "c" sa U) ∧ (∃ sa, vk_R RX8 99 "there are 60 constraints" sa U) ∧ (∃ sa, vk_R RX8 120 "there are 20 levels" sa U) ∧ (∃ sa, vk_R RX8 122 "there are not so many levels" sa U) ∧ (∃ sa, vk_R RX8 132 "no such place of the core" sa U) ∧ (∃ sa, vk_R RX8 147 "place is below 0" sa U) ∧ (∃ sa, vk_R RX8 159 "no such constraint" sa U) ∧ (∃ sa, vk_R RX8 174 "no such thing of a constraint" sa U) ∧ (∃ sa, vk_R RX8 176 "n is not 1 .. 8" sa U) ∧ (∃ sa, vk_R RX8 181 "the tape has 400 bytes at most" sa U) ∧ (∃ sa, vk_R RX8 222 "no such thing of an atom" sa U) ∧ (∃ sa, vk_R RX8 260 "no such byte" sa U) ∧ (∃ sa, vk_R RX8 269 "no such thing is told" sa U) ∧ (∃ sa, vk_R RX8 274 "no such variable" sa U) ∧ (∃ sa, vk_R RX8 276 "no such atom" sa U)
def xZn (U : State) : Prop := va_Nw (.castable "java/lang/IndexOutOfBoundsException" "java/lang/IndexOutOfBoundsException") U ∧ va_Nw (.castable "java/lang/IllegalArgumentException" "java/lang/IllegalArgumentException") U ∧ va_Nw (.castable "java/lang/UnsupportedOperationException" "java/lang/UnsupportedOperationException") U ∧ va_Nw (.declares ⟨"java/lang/RuntimeException", "<init>", "(Ljava/lang/String;)V"⟩) U ∧ va_Nw (.declares ⟨"java/lang/Exception", "<init>", "(Ljava/lang/String;)V"⟩) U ∧ va_Nw (.declares ⟨"java/lang/Throwable", "<init>", "(Ljava/lang/String;)V"⟩) U
def xZ (G : xG) (U : State) : Prop := va_Nw (.methodLinkNest RX0 56 yX8_figureOf RX8) U ∧ va_Nw (.methodLinkNest RX4 37 yX8_figureOf RX8) U ∧ vx_Zq Bundle.tN "UNASSIGNED_STACK" Bundle.steD (xA G) U U.heap ∧ vx_Zq Bundle.tN "SUPPRESSED_SENTINEL" Bundle.listD (xA G) U U.heap ∧ xZs U ∧ xZn U
theorem xZs.warm {s U : State} (hW : s.WarmedH U.vm) (h : xZs s) : xZs U := by
  obtain ⟨⟨_, s0⟩, ⟨_, s1⟩, ⟨_, s2⟩, ⟨_, s3⟩, ⟨_, s4⟩, ⟨_, s5⟩, ⟨_, s6⟩, ⟨_, s7⟩, ⟨_, s8⟩, ⟨_, s9⟩, ⟨_, s10⟩, ⟨_, s11⟩, ⟨_, s12⟩, ⟨_, s13⟩, ⟨_, s14⟩⟩ := h
  exact ⟨⟨_, vk_R.warm hW s0⟩, ⟨_, vk_R.warm hW s1⟩, ⟨_, vk_R.warm hW s2⟩, ⟨_, vk_R.warm hW s3⟩, ⟨_, vk_R.warm hW s4⟩, ⟨_, vk_R.warm hW s5⟩, ⟨_, vk_R.warm hW s6⟩, ⟨_, vk_R.warm hW s7⟩, ⟨_, vk_R.warm hW s8⟩, ⟨_, vk_R.warm hW s9⟩, ⟨_, vk_R.warm hW s10⟩, ⟨_, vk_R.warm hW s11⟩, ⟨_, vk_R.warm hW s12⟩, ⟨_, vk_R.warm hW s13⟩, ⟨_, vk_R.warm hW s14⟩⟩
theorem xZs.same {s U : State} (hv : s.vm = U.vm) (h : xZs s) : xZs U := by
  obtain ⟨⟨_, s0⟩, ⟨_, s1⟩, ⟨_, s2⟩, ⟨_, s3⟩, ⟨_, s4⟩, ⟨_, s5⟩, ⟨_, s6⟩, ⟨_, s7⟩, ⟨_, s8⟩, ⟨_, s9⟩, ⟨_, s10⟩, ⟨_, s11⟩, ⟨_, s12⟩, ⟨_, s13⟩, ⟨_, s14⟩⟩ := h
  exact ⟨⟨_, vk_R.same hv.symm s0⟩, ⟨_, vk_R.same hv.symm s1⟩, ⟨_, vk_R.same hv.symm s2⟩, ⟨_, vk_R.same hv.symm s3⟩, ⟨_, vk_R.same hv.symm s4⟩, ⟨_, vk_R.same hv.symm s5⟩, ⟨_, vk_R.same hv.symm s6⟩, ⟨_, vk_R.same hv.symm s7⟩, ⟨_, vk_R.same hv.symm s8⟩, ⟨_, vk_R.same hv.symm s9⟩, ⟨_, vk_R.same hv.symm s10⟩, ⟨_, vk_R.same hv.symm s11⟩, ⟨_, vk_R.same hv.symm s12⟩, ⟨_, vk_R.same hv.symm s13⟩, ⟨_, vk_R.same hv.symm s14⟩⟩
theorem xZ.go {G : xG} {s U : State} (h : xZ G s) (hW : s.WarmedH U.vm) (hk : ∀ q : Nat, q < s.heap.size → ¬ xA G q → U.heap[q]? = s.heap[q]?) : xZ G U :=
  ⟨va_Nw.warmM hW h.1, va_Nw.warmM hW h.2.1, vx_Zq.moved hW.alike (h.2.2.1.kept hk), vx_Zq.moved hW.alike (h.2.2.2.1.kept hk), h.2.2.2.2.1.warm hW, va_Nw.warmC hW h.2.2.2.2.2.1, va_Nw.warmC hW h.2.2.2.2.2.2.1, va_Nw.warmC hW h.2.2.2.2.2.2.2.1, va_Nw.warmD hW h.2.2.2.2.2.2.2.2.1, va_Nw.warmD hW h.2.2.2.2.2.2.2.2.2.1, va_Nw.warmD hW h.2.2.2.2.2.2.2.2.2.2⟩
theorem xZ.calling {G : xG} {U : State} (h : xZ G U) (g : JFrame) (mk : MethodId) (a : Array Value) : xZ G (U.calling g mk a) :=
  ⟨va_Nw.same rfl rfl h.1, va_Nw.same rfl rfl h.2.1, vx_Zq.moved (u := U) (U := U.calling g mk a) (Vm.Alike.refl U.vm) h.2.2.1, vx_Zq.moved (u := U) (U := U.calling g mk a) (Vm.Alike.refl U.vm) h.2.2.2.1, h.2.2.2.2.1.same rfl, va_Nw.same rfl rfl h.2.2.2.2.2.1, va_Nw.same rfl rfl h.2.2.2.2.2.2.1, va_Nw.same rfl rfl h.2.2.2.2.2.2.2.1, va_Nw.same rfl rfl h.2.2.2.2.2.2.2.2.1, va_Nw.same rfl rfl h.2.2.2.2.2.2.2.2.2.1, va_Nw.same rfl rfl h.2.2.2.2.2.2.2.2.2.2⟩
def xPz (G : xG) (as : List Value) (h : xHp) : Array Value → State → Prop := va_Pc as (fun U => va_P (xD G) vwCl (xwd G h) U.heap ∧ va_K (xD G) vwCl (xtys G) U ∧ xgood G ∧ xbase G ≤ U.heap.size ∧ xZ G U)
theorem xPz_blind {G : xG} {as : List Value} {h : xHp} : FrameBlind (xPz G as h) := fun a U g mk q => by
  obtain ⟨q0, qP, qK, qg, qb, qz⟩ := q
  exact ⟨q0, qP, va_K.moved (u := U) (U := U.calling g mk a) (Vm.Alike.refl U.vm) qK, qg, qb, qz.calling g mk a⟩
def xCz (G : xG) (p : Program) (s : State) (m : MethodId) (args : Array Value) (meth : Method) (c : Code) (cc : ByteArray) (nL : Nat) (Ts : List Cond) (own : String) : Prop := xC G p s m args meth c cc nL Ts own ∧ xZ G s
section XZ
variable {G : xG} {p : Program} {l : Launch} {e : Env} {R : Room} {s : State} {m : MethodId} {args : Array Value} {below : List Frame} {meth : Method} {c : Code} {nL : Nat} {Rt : Type} {Qf : Rt → State → Prop} {cc : ByteArray} {Ts : List Cond} {own : String} {pc : Nat} {lv lv' : List (Nat × Value)} {st st0 : List Value} {h : xHp} {o o1 o2 : Option Rt}
variable {y : MethodName} {bytes : ByteArray} {maxL n idx : Nat} {ret : Option FieldType} {ws : List Cond} {rm : Room} {As : List Value}
theorem z_callVi (C : xCz G p s m args meth c cc nL Ts own) {i ci N : Nat} {Cn : String} {T : u_T} {fs : List Value} {fo : Option (Int32 × xHp)} {f : Int32 → xHp → Option Rt} (hd : decode cc pc = .ok (.invokevirtual idx, 3)) (hM : ∀ r, fo = some r → Met l y ws rm (xPz G (.ref (xad G i) :: As) h) (xQi G r) 0 0 (xA G)) (cw : CallW R s args own Cn idx y bytes maxL ret ws rm 0 0 n) (hc : xcell G i (h.1 i) (h.2.1 i) h.2.2 = .inr (ci, fs)) (hi : i < xNC) (hcl : vwCl[ci]? = some (Cn, T, N)) (hn : As.length = n) (hstk : st0 = As.reverse ++ .ref (xad G i) :: st) (hroom : (st.map fun v => v.category).sum ≤ 8) (kk : ∀ r h1, xJ G p l e R s m args below meth c nL Qf (pc + 3) lv (.int r :: st) h1 (f r h1)) : xJ G p l e R s m args below meth c nL Qf pc lv st0 h (bnd2 fo f) := fun res hr H locs ls hP hS h1 => by
  obtain ⟨q, hq, hf⟩ := bnd2_of hr
  obtain ⟨⟨hx, hb, hml, hown, hts, hK, hG, hbs, hlk⟩, hz⟩ := C
  refine va_calli (va_runV (As := As) (rest := st) ⟨hx, hb, hml, hown, hts⟩ (hM q hq) cw ⟨xPz_blind, va_recv hK hP hcl ((xwd_get hi).trans (by rw [hc])), fun U hU hW => ⟨rfl, by rw [hU]; exact hP, va_K.moved hW.alike hK, hG, by rw [hU]; exact Nat.le_trans hbs hS.1, hz.go hW (by rw [hU]; exact hS.2.1)⟩⟩ rfl hn h1.1 hstk (lv_room hroom) hd ⟨Nat.zero_le _, Nat.zero_le _⟩) hS (fun q _ h => h) (fun q h => h) (fun r u t H1 locs1 ht hvm hw hB hz1 hk hS1 => ?_)
  subst hw
  rw [ht] at hB
  exact kk r u res hf H1 locs1 ls hB hS1 h1
theorem z_callSi (C : xCz G p s m args meth c cc nL Ts own) {fo : Option (Int32 × xHp)} {f : Int32 → xHp → Option Rt} (hd : decode cc pc = .ok (.invokestatic idx, 3)) (hM : ∀ r, fo = some r → Met l y ws rm (xPz G As h) (xQi G r) 0 0 (xA G)) (cw : CallB R s args own idx y bytes maxL ret ws rm 0 0 n ∧ (Cond.static y).before args s = true) (hn : As.length = n) (hstk : st0 = As.reverse ++ st) (hroom : (st.map fun v => v.category).sum ≤ 8) (kk : ∀ r h1, xJ G p l e R s m args below meth c nL Qf (pc + 3) lv (.int r :: st) h1 (f r h1)) : xJ G p l e R s m args below meth c nL Qf pc lv st0 h (bnd2 fo f) := fun res hr H locs ls hP hS h1 => by
  obtain ⟨q, hq, hf⟩ := bnd2_of hr
  obtain ⟨⟨hx, hb, hml, hown, hts, hK, hG, hbs, hlk⟩, hz⟩ := C
  refine va_calli (va_runS (As := As) (rest := st) ⟨hx, hb, hml, hown, hts⟩ (hM q hq) cw ⟨xPz_blind, fun U hU hW => ⟨rfl, by rw [hU]; exact hP, va_K.moved hW.alike hK, hG, by rw [hU]; exact Nat.le_trans hbs hS.1, hz.go hW (by rw [hU]; exact hS.2.1)⟩⟩ rfl hn h1.1 hstk (lv_room hroom) hd ⟨Nat.zero_le _, Nat.zero_le _⟩) hS (fun q _ h => h) (fun q h => h) (fun r u t H1 locs1 ht hvm hw hB hz1 hk hS1 => ?_)
  subst hw
  rw [ht] at hB
  exact kk r u res hf H1 locs1 ls hB hS1 h1
theorem z_callVl (C : xCz G p s m args meth c cc nL Ts own) {i ci N : Nat} {Cn : String} {T : u_T} {fs : List Value} {fo : Option (Int64 × xHp)} {f : Int64 → xHp → Option Rt} (hd : decode cc pc = .ok (.invokevirtual idx, 3)) (hM : ∀ r, fo = some r → Met l y ws rm (xPz G (.ref (xad G i) :: As) h) (xQl G r) 0 0 (xA G)) (cw : CallW R s args own Cn idx y bytes maxL ret ws rm 0 0 n) (hc : xcell G i (h.1 i) (h.2.1 i) h.2.2 = .inr (ci, fs)) (hi : i < xNC) (hcl : vwCl[ci]? = some (Cn, T, N)) (hn : As.length = n) (hstk : st0 = As.reverse ++ .ref (xad G i) :: st) (hroom : (st.map fun v => v.category).sum ≤ 8) (kk : ∀ r h1, xJ G p l e R s m args below meth c nL Qf (pc + 3) lv (.long r :: st) h1 (f r h1)) : xJ G p l e R s m args below meth c nL Qf pc lv st0 h (bnd2 fo f) := fun res hr H locs ls hP hS h1 => by
  obtain ⟨q, hq, hf⟩ := bnd2_of hr
  obtain ⟨⟨hx, hb, hml, hown, hts, hK, hG, hbs, hlk⟩, hz⟩ := C
  refine va_calll (va_runV (As := As) (rest := st) ⟨hx, hb, hml, hown, hts⟩ (hM q hq) cw ⟨xPz_blind, va_recv hK hP hcl ((xwd_get hi).trans (by rw [hc])), fun U hU hW => ⟨rfl, by rw [hU]; exact hP, va_K.moved hW.alike hK, hG, by rw [hU]; exact Nat.le_trans hbs hS.1, hz.go hW (by rw [hU]; exact hS.2.1)⟩⟩ rfl hn h1.1 hstk (lv_room hroom) hd ⟨Nat.zero_le _, Nat.zero_le _⟩) hS (fun q _ h => h) (fun q h => h) (fun r u t H1 locs1 ht hvm hw hB hz1 hk hS1 => ?_)
  subst hw
  rw [ht] at hB
  exact kk r u res hf H1 locs1 ls hB hS1 h1
theorem z_callSl (C : xCz G p s m args meth c cc nL Ts own) {fo : Option (Int64 × xHp)} {f : Int64 → xHp → Option Rt} (hd : decode cc pc = .ok (.invokestatic idx, 3)) (hM : ∀ r, fo = some r → Met l y ws rm (xPz G As h) (xQl G r) 0 0 (xA G)) (cw : CallB R s args own idx y bytes maxL ret ws rm 0 0 n ∧ (Cond.static y).before args s = true) (hn : As.length = n) (hstk : st0 = As.reverse ++ st) (hroom : (st.map fun v => v.category).sum ≤ 8) (kk : ∀ r h1, xJ G p l e R s m args below meth c nL Qf (pc + 3) lv (.long r :: st) h1 (f r h1)) : xJ G p l e R s m args below meth c nL Qf pc lv st0 h (bnd2 fo f) := fun res hr H locs ls hP hS h1 => by
  obtain ⟨q, hq, hf⟩ := bnd2_of hr
  obtain ⟨⟨hx, hb, hml, hown, hts, hK, hG, hbs, hlk⟩, hz⟩ := C
  refine va_calll (va_runS (As := As) (rest := st) ⟨hx, hb, hml, hown, hts⟩ (hM q hq) cw ⟨xPz_blind, fun U hU hW => ⟨rfl, by rw [hU]; exact hP, va_K.moved hW.alike hK, hG, by rw [hU]; exact Nat.le_trans hbs hS.1, hz.go hW (by rw [hU]; exact hS.2.1)⟩⟩ rfl hn h1.1 hstk (lv_room hroom) hd ⟨Nat.zero_le _, Nat.zero_le _⟩) hS (fun q _ h => h) (fun q h => h) (fun r u t H1 locs1 ht hvm hw hB hz1 hk hS1 => ?_)
  subst hw
  rw [ht] at hB
  exact kk r u res hf H1 locs1 ls hB hS1 h1
theorem z_callVv (C : xCz G p s m args meth c cc nL Ts own) {i ci N : Nat} {Cn : String} {T : u_T} {fs : List Value} {fo : Option (Unit × xHp)} {f : Unit → xHp → Option Rt} (hd : decode cc pc = .ok (.invokevirtual idx, 3)) (hM : ∀ r, fo = some r → Met l y ws rm (xPz G (.ref (xad G i) :: As) h) (xQv G r) 0 0 (xA G)) (cw : CallW R s args own Cn idx y bytes maxL ret ws rm 0 0 n) (hc : xcell G i (h.1 i) (h.2.1 i) h.2.2 = .inr (ci, fs)) (hi : i < xNC) (hcl : vwCl[ci]? = some (Cn, T, N)) (hn : As.length = n) (hstk : st0 = As.reverse ++ .ref (xad G i) :: st) (hroom : (st.map fun v => v.category).sum ≤ 8) (kk : ∀ r h1, xJ G p l e R s m args below meth c nL Qf (pc + 3) lv st h1 (f r h1)) : xJ G p l e R s m args below meth c nL Qf pc lv st0 h (bnd2 fo f) := fun res hr H locs ls hP hS h1 => by
  obtain ⟨q, hq, hf⟩ := bnd2_of hr
  obtain ⟨⟨hx, hb, hml, hown, hts, hK, hG, hbs, hlk⟩, hz⟩ := C
  refine va_callv (va_runV (As := As) (rest := st) ⟨hx, hb, hml, hown, hts⟩ (hM q hq) cw ⟨xPz_blind, va_recv hK hP hcl ((xwd_get hi).trans (by rw [hc])), fun U hU hW => ⟨rfl, by rw [hU]; exact hP, va_K.moved hW.alike hK, hG, by rw [hU]; exact Nat.le_trans hbs hS.1, hz.go hW (by rw [hU]; exact hS.2.1)⟩⟩ rfl hn h1.1 hstk (lv_room hroom) hd ⟨Nat.zero_le _, Nat.zero_le _⟩) hS (fun q _ h => h) (fun q h => h) (fun u t H1 locs1 ht hvm hw hB hz1 hk hS1 => ?_)
  subst hw
  rw [ht] at hB
  exact kk () u res hf H1 locs1 ls hB hS1 h1
theorem z_callSv (C : xCz G p s m args meth c cc nL Ts own) {fo : Option (Unit × xHp)} {f : Unit → xHp → Option Rt} (hd : decode cc pc = .ok (.invokestatic idx, 3)) (hM : ∀ r, fo = some r → Met l y ws rm (xPz G As h) (xQv G r) 0 0 (xA G)) (cw : CallB R s args own idx y bytes maxL ret ws rm 0 0 n ∧ (Cond.static y).before args s = true) (hn : As.length = n) (hstk : st0 = As.reverse ++ st) (hroom : (st.map fun v => v.category).sum ≤ 8) (kk : ∀ r h1, xJ G p l e R s m args below meth c nL Qf (pc + 3) lv st h1 (f r h1)) : xJ G p l e R s m args below meth c nL Qf pc lv st0 h (bnd2 fo f) := fun res hr H locs ls hP hS h1 => by
  obtain ⟨q, hq, hf⟩ := bnd2_of hr
  obtain ⟨⟨hx, hb, hml, hown, hts, hK, hG, hbs, hlk⟩, hz⟩ := C
  refine va_callv (va_runS (As := As) (rest := st) ⟨hx, hb, hml, hown, hts⟩ (hM q hq) cw ⟨xPz_blind, fun U hU hW => ⟨rfl, by rw [hU]; exact hP, va_K.moved hW.alike hK, hG, by rw [hU]; exact Nat.le_trans hbs hS.1, hz.go hW (by rw [hU]; exact hS.2.1)⟩⟩ rfl hn h1.1 hstk (lv_room hroom) hd ⟨Nat.zero_le _, Nat.zero_le _⟩) hS (fun q _ h => h) (fun q h => h) (fun u t H1 locs1 ht hvm hw hB hz1 hk hS1 => ?_)
  subst hw
  rw [ht] at hB
  exact kk () u res hf H1 locs1 ls hB hS1 h1
/-- a private static method of the nest's host -/
theorem z_callNi (C : xCz G p s m args meth c cc nL Ts own) {host : String} {fo : Option (Int32 × xHp)} {f : Int32 → xHp → Option Rt} (hd : decode cc pc = .ok (.invokestatic idx, 3)) (hM : ∀ r, fo = some r → Met l y ws rm (xPz G As h) (xQi G r) 0 0 (xA G)) (cw : va_CN R s args own idx y host bytes maxL ret ws rm 0 0 n ∧ (Cond.static y).before args s = true ∧ True) (hn : As.length = n) (hstk : st0 = As.reverse ++ st) (hroom : (st.map fun v => v.category).sum ≤ 8) (kk : ∀ r h1, xJ G p l e R s m args below meth c nL Qf (pc + 3) lv (.int r :: st) h1 (f r h1)) : xJ G p l e R s m args below meth c nL Qf pc lv st0 h (bnd2 fo f) := fun res hr H locs ls hP hS h1 => by
  obtain ⟨q, hq, hf⟩ := bnd2_of hr
  obtain ⟨⟨hx, hb, hml, hown, hts, hK, hG, hbs, hlk⟩, hz⟩ := C
  refine va_calli (va_runSN (As := As) (rest := st) ⟨hx, hb, hml, hown, hts⟩ (hM q hq) cw ⟨xPz_blind, fun U hU hW => ⟨rfl, by rw [hU]; exact hP, va_K.moved hW.alike hK, hG, by rw [hU]; exact Nat.le_trans hbs hS.1, hz.go hW (by rw [hU]; exact hS.2.1)⟩⟩ rfl hn h1.1 hstk (lv_room hroom) hd ⟨Nat.zero_le _, Nat.zero_le _⟩) hS (fun q _ h => h) (fun q h => h) (fun r u t H1 locs1 ht hvm hw hB hz1 hk hS1 => ?_)
  subst hw
  rw [ht] at hB
  exact kk r u res hf H1 locs1 ls hB hS1 h1
theorem z_met {as : List Value} {fo : Option Rt} {Qc : Rt → Array Value → State → Outcome → State → Prop} {ws' : List Cond} {lv0 : List (Nat × Value)} (hy : plainName y.cls = true) (ho : y.cls = own) (hw : ws = Cond.code y cc maxL ret :: ws') (hlen : (lg_sl as).length ≤ maxL) (hlv : lv_args 0 as = lv0)
    (body : ∀ p e s m below meth c, xCz G p s m as.toArray meth c cc maxL ws own → meth.sig.returnType = ret → xJ G p l e rm s m as.toArray below meth c maxL (fun res => MQ below (Qc res) as.toArray s 0 0 (xA G)) 0 lv0 [] h fo) : ∀ r, fo = some r → Met l y ws rm (xPz G as h) (Qc r) 0 0 (xA G) := by
  intro r hr
  refine Met.ofW (cc := cc) (maxL := maxL) (ret := ret) hy hw ?_
  intro p e s m args below meth c s₁ B hml hv
  obtain ⟨rfl, hP, hK, hG, hb, hz⟩ := hv
  have hts := atoms_spec (ws := ws) B.pre
  have hown : s.vm.findClass own = some m.cls := by rw [← ho]; exact findClass_of_methodNamed B.named
  have hl := lv_entry as (n := maxL) hlen
  rw [hlv] at hl
  rw [lg_entry_eq]
  exact body p e s m below meth c ⟨⟨B.exec, B.bytes, hml, hown, hts, hK, hG, hb, B.notSynchronized⟩, hz⟩ B.returns r hr s.heap [] _ hP va_S.rf hl
/-- a case of a switch is looked at -/
theorem x_split {P : Prop} (inst : Decidable P) (kt : P → xJ G p l e R s m args below meth c nL Qf pc lv st h o1) (kf : ¬ P → xJ G p l e R s m args below meth c nL Qf pc lv st h o2) : xJ G p l e R s m args below meth c nL Qf pc lv st h (@ite _ P inst o1 o2) := fun res hr H locs ls hP hS h1 => by
  cases inst with
  | isTrue hp => exact kt hp res hr H locs ls hP hS h1
  | isFalse hp => exact kf hp res hr H locs ls hP hS h1
theorem x_lookup (C : xC G p s m args meth c cc nL Ts own) {dflt : Int} {ps : Array (Int × Int)} {len : Nat} {x : Int32} {off : Int} {tgt : Nat} (hd : decode cc pc = .ok (.lookupswitch dflt ps, len)) (hp : (ps.toList.zip (ps.toList.drop 1)).all (fun (a, next) => a.1 < next.1) = true) (ho : Op.lookupswitch.offset ps.toList dflt x.toInt = off) (ht : (pc : Int) + off = (tgt : Int)) (k : xJ G p l e R s m args below meth c nL Qf tgt lv st h o) : xJ G p l e R s m args below meth c nL Qf pc lv (.int x :: st) h o := fun res hr H locs ls hP hS h1 => lv_lookup C.1 C.2.1 hd hp ho ht (k res hr H locs ls hP hS h1)
theorem x_tableIn (C : xC G p s m args meth c cc nL Ts own) {dflt lo hi : Int} {offs : Array Int} {len : Nat} {x : Int32} {off : Int} {tgt : Nat} (hd : decode cc pc = .ok (.tableswitch dflt lo hi offs, len)) (h1 : ¬ x.toInt < lo) (h2 : ¬ hi < x.toInt) (ho : offs[(x.toInt - lo).toNat]? = some off) (ht : (pc : Int) + off = (tgt : Int)) (k : xJ G p l e R s m args below meth c nL Qf tgt lv st h o) : xJ G p l e R s m args below meth c nL Qf pc lv (.int x :: st) h o := fun res hr H locs ls hP hS h9 => lv_tableIn C.1 C.2.1 hd h1 h2 ho ht (k res hr H locs ls hP hS h9)
theorem x_tableOut (C : xC G p s m args meth c cc nL Ts own) {dflt lo hi : Int} {offs : Array Int} {len : Nat} {x : Int32} {tgt : Nat} (hd : decode cc pc = .ok (.tableswitch dflt lo hi offs, len)) (hx : x.toInt < lo ∨ hi < x.toInt) (ht : (pc : Int) + dflt = (tgt : Int)) (k : xJ G p l e R s m args below meth c nL Qf tgt lv st h o) : xJ G p l e R s m args below meth c nL Qf pc lv (.int x :: st) h o := fun res hr H locs ls hP hS h1 => lv_tableOut C.1 C.2.1 hd hx ht (k res hr H locs ls hP hS h1)
theorem x_mmax (C : xC G p s m args meth c cc nL Ts own) {x y : Int32} (hd : decode cc pc = .ok (.invokestatic idx, 3)) (hlink : (Cond.methodLink own idx Lib.Math.max.name).before args s = true) (hstat : (Cond.static Lib.Math.max.name).before args s = true) (hini : (Cond.initialized "java/lang/Math").before args s = true) (hcode : (Cond.code Lib.Math.max.name Lib.Math.max.code 2 (some .int)).before args s = true) (hfr : 1 ≤ R.frames) (hlo : (st.map fun v => v.category).sum + 13 ≤ R.locals) (k : xJ G p l e R s m args below meth c nL Qf (pc + 3) lv (.int (if x < y then y else x) :: st) h o) : xJ G p l e R s m args below meth c nL Qf pc lv (.int y :: .int x :: st) h o := fun res hr H locs ls hP hS h1 => va_mmax C.1 C.2.1 (C.2.2.1.trans h1.1.symm) C.2.2.2.1 hlink hstat hini hcode hfr hlo (Nat.zero_le _) (Nat.zero_le _) hd (k res hr H locs ls hP hS h1)
theorem x_mmin (C : xC G p s m args meth c cc nL Ts own) {x y : Int32} (hd : decode cc pc = .ok (.invokestatic idx, 3)) (hlink : (Cond.methodLink own idx Lib.Math.min.name).before args s = true) (hstat : (Cond.static Lib.Math.min.name).before args s = true) (hini : (Cond.initialized "java/lang/Math").before args s = true) (hcode : (Cond.code Lib.Math.min.name Lib.Math.min.code 2 (some .int)).before args s = true) (hfr : 1 ≤ R.frames) (hlo : (st.map fun v => v.category).sum + 13 ≤ R.locals) (k : xJ G p l e R s m args below meth c nL Qf (pc + 3) lv (.int (if y < x then y else x) :: st) h o) : xJ G p l e R s m args below meth c nL Qf pc lv (.int y :: .int x :: st) h o := fun res hr H locs ls hP hS h1 => va_mmin C.1 C.2.1 (C.2.2.1.trans h1.1.symm) C.2.2.2.1 hlink hstat hini hcode hfr hlo (Nat.zero_le _) (Nat.zero_le _) hd (k res hr H locs ls hP hS h1)
def cI (h : xHp) (a b sp dp n : Nat) : xHp := (va_up h.1 b (va_cpy (h.1 a) (h.1 b) sp dp n), h.2)
def cJ (h : xHp) (a b sp dp n : Nat) : xHp := (h.1, va_up h.2.1 b (va_cpy (h.2.1 a) (h.2.1 b) sp dp n), h.2.2)
theorem x_copyi (C : xC G p s m args meth c cc nL Ts own) {a b n0 n1 : Nat} {sp dp k : Int32} {f : xHp → Option Rt} (hd : decode cc pc = .ok (.invokestatic idx, 3)) (hlink : (Cond.methodLink own idx arraycopyName).before args s = true) (hnat : (Cond.native arraycopyName).before args s = true) (hstat : (Cond.static arraycopyName).before args s = true) (hini : (Cond.initialized "java/lang/System").before args s = true) (hc0 : ∀ g, xcell G a g (h.2.1 a) h.2.2 = .inl (xcy G 1, n0, .inl g)) (hc1 : ∀ g, xcell G b g (h.2.1 b) h.2.2 = .inl (xcy G 1, n1, .inl g)) (ha : a < xNC) (hb : b < xNC) (h1 : ¬ sp < 0) (h2 : ¬ dp < 0) (h3 : ¬ k < 0) (h4 : sp.toNatClampNeg + k.toNatClampNeg ≤ n0) (h5 : dp.toNatClampNeg + k.toNatClampNeg ≤ n1) (hfr : 1 ≤ R.frames) (hlo : (st.map fun v => v.category).sum + (nativeFrameWords "java/lang/System" "arraycopy" 5 + 11) ≤ R.locals) (kk : ∀ h1 : xHp, xJ G p l e R s m args below meth c nL Qf (pc + 3) lv st h1 (f h1)) : xJ G p l e R s m args below meth c nL Qf pc lv (.int k :: .int dp :: .ref (xad G b) :: .int sp :: .ref (xad G a) :: st) h (bnd (cI h a b sp.toNatClampNeg dp.toNatClampNeg k.toNatClampNeg) f) := fun res hr H locs ls hP hS h9 => by
  refine va_copyi C.1 C.2.1 (C.2.2.1.trans h9.1.symm) C.2.2.2.1 hlink hnat hstat hini C.2.2.2.2.2.1 hP (xwd_D C.2.2.2.2.2.2.1) hS a b 1 1 ((xwd_get ha).trans (by rw [hc0])) ((xwd_get hb).trans (by rw [hc1])) rfl rfl rfl h1 h2 h3 h4 h5 (fun _ _ => rfl) hfr hlo hd (fun H1 locs1 hP1 _ hS1 => ?_)
  rw [← hc1, xwd_setI] at hP1
  exact kk _ res hr H1 locs1 ls hP1 hS1 h9
theorem x_copyl (C : xC G p s m args meth c cc nL Ts own) {a b n0 n1 : Nat} {sp dp k : Int32} {f : xHp → Option Rt} (hd : decode cc pc = .ok (.invokestatic idx, 3)) (hlink : (Cond.methodLink own idx arraycopyName).before args s = true) (hnat : (Cond.native arraycopyName).before args s = true) (hstat : (Cond.static arraycopyName).before args s = true) (hini : (Cond.initialized "java/lang/System").before args s = true) (hc0 : ∀ g, xcell G a (h.1 a) g h.2.2 = .inl (xcy G 2, n0, .inr (.inl g))) (hc1 : ∀ g, xcell G b (h.1 b) g h.2.2 = .inl (xcy G 2, n1, .inr (.inl g))) (ha : a < xNC) (hb : b < xNC) (h1 : ¬ sp < 0) (h2 : ¬ dp < 0) (h3 : ¬ k < 0) (h4 : sp.toNatClampNeg + k.toNatClampNeg ≤ n0) (h5 : dp.toNatClampNeg + k.toNatClampNeg ≤ n1) (hfr : 1 ≤ R.frames) (hlo : (st.map fun v => v.category).sum + (nativeFrameWords "java/lang/System" "arraycopy" 5 + 11) ≤ R.locals) (kk : ∀ h1 : xHp, xJ G p l e R s m args below meth c nL Qf (pc + 3) lv st h1 (f h1)) : xJ G p l e R s m args below meth c nL Qf pc lv (.int k :: .int dp :: .ref (xad G b) :: .int sp :: .ref (xad G a) :: st) h (bnd (cJ h a b sp.toNatClampNeg dp.toNatClampNeg k.toNatClampNeg) f) := fun res hr H locs ls hP hS h9 => by
  refine va_copyl C.1 C.2.1 (C.2.2.1.trans h9.1.symm) C.2.2.2.1 hlink hnat hstat hini C.2.2.2.2.2.1 hP (xwd_D C.2.2.2.2.2.2.1) hS a b 2 2 ((xwd_get ha).trans (by rw [hc0])) ((xwd_get hb).trans (by rw [hc1])) rfl rfl rfl h1 h2 h3 h4 h5 (fun _ _ => rfl) hfr hlo hd (fun H1 locs1 hP1 _ hS1 => ?_)
  rw [← hc1, xwd_setJ] at hP1
  exact kk _ res hr H1 locs1 ls hP1 hS1 h9
theorem xcell_t (G : xG) (f : Nat → Int32) (g : Nat → Int64) (t t2 : Nat) : ∀ i, i < xNC → i ≠ 50 → xcell G i f g t = xcell G i f g t2
  | 0, _, _ => rfl
  | 1, _, _ => rfl
  | 2, _, _ => rfl
  | 3, _, _ => rfl
  | 4, _, _ => rfl
  | 5, _, _ => rfl
  | 6, _, _ => rfl
  | 7, _, _ => rfl
  | 8, _, _ => rfl
  | 9, _, _ => rfl
  | 10, _, _ => rfl
  | 11, _, _ => rfl
  | 12, _, _ => rfl
  | 13, _, _ => rfl
  | 14, _, _ => rfl
  | 15, _, _ => rfl
  | 16, _, _ => rfl
  | 17, _, _ => rfl
  | 18, _, _ => rfl
  | 19, _, _ => rfl
  | 20, _, _ => rfl
  | 21, _, _ => rfl
  | 22, _, _ => rfl
  | 23, _, _ => rfl
  | 24, _, _ => rfl
  | 25, _, _ => rfl
  | 26, _, _ => rfl
  | 27, _, _ => rfl
  | 28, _, _ => rfl
  | 29, _, _ => rfl
  | 30, _, _ => rfl
  | 31, _, _ => rfl
  | 32, _, _ => rfl
  | 33, _, _ => rfl
  | 34, _, _ => rfl
  | 35, _, _ => rfl
  | 36, _, _ => rfl
  | 37, _, _ => rfl
  | 38, _, _ => rfl
  | 39, _, _ => rfl
  | 40, _, _ => rfl
  | 41, _, _ => rfl
  | 42, _, _ => rfl
  | 43, _, _ => rfl
  | 44, _, _ => rfl
  | 45, _, _ => rfl
  | 46, _, _ => rfl
  | 47, _, _ => rfl
  | 48, _, _ => rfl
  | 49, _, _ => rfl
  | 50, _, hn => absurd rfl hn
  | 51, _, _ => rfl
  | 52, _, _ => rfl
  | 53, _, _ => rfl
  | 54, _, _ => rfl
  | 55, _, _ => rfl
  | 56, _, _ => rfl
  | 57, _, _ => rfl
  | 58, _, _ => rfl
  | 59, _, _ => rfl
  | 60, _, _ => rfl
  | 61, _, _ => rfl
  | 62, _, _ => rfl
  | 63, _, _ => rfl
  | 64, _, _ => rfl
  | 65, _, _ => rfl
  | 66, _, _ => rfl
  | 67, _, _ => rfl
  | 68, _, _ => rfl
  | 69, _, _ => rfl
  | 70, _, _ => rfl
  | 71, _, _ => rfl
  | 72, _, _ => rfl
  | 73, _, _ => rfl
  | 74, _, _ => rfl
  | 75, _, _ => rfl
  | 76, _, _ => rfl
  | 77, _, _ => rfl
  | n + 78, hn, _ => absurd hn (by unfold xNC; omega)
theorem xwd_setT {G : xG} {h : xHp} {t : Nat} : (xwd G h).set 50 (xad G 50, xcell G 50 (h.1 50) (h.2.1 50) t) = xwd G (sT h t) := by
  apply List.ext_getElem?
  intro i
  by_cases hi : i < xNC
  · rw [xwd_get hi]
    by_cases hc : 50 = i
    · subst hc
      rw [List.getElem?_set_self (by rw [xwd_len]; exact hi)]
      rfl
    · rw [List.getElem?_set_ne hc, xwd_get hi]
      exact congrArg (fun z => some (xad G i, z)) (xcell_t G _ _ _ _ i hi (Ne.symm hc))
  · rw [List.getElem?_eq_none (by rw [List.length_set, xwd_len]; omega), List.getElem?_eq_none (by rw [xwd_len]; omega)]
theorem x_putT (C : xC G p s m args meth c cc nL Ts own) {N : Nat} {fs : List Value} {T : u_T} {Cn ref : String} {ty0 : Nat → FieldType} {ty : FieldType} (k : Nat) {t : Nat} {f : xHp → Option Rt} (hd : decode cc pc = .ok (.putfield idx, 3)) (hc : xcell G 50 (h.1 50) (h.2.1 50) h.2.2 = .inr (0, fs)) (hc2 : xcell G 50 (h.1 50) (h.2.1 50) t = .inr (0, fs.set k (.ref (xad G t)))) (hl : k < fs.length) (hi : 50 < xNC) (hcl : vwCl[0]? = some (Cn, T, N)) (hin : ∀ w ∈ u_ws Cn T N, w ∈ Ts) (hty : ∀ k, k < N → parseFieldDescriptor (T k).2.2.1 = some (ty0 k)) (hnm : ∀ a, a < N → ∀ b, b < N → a ≠ b → (T a).2.1 ≠ (T b).2.1) (hk : k < N) (hr : ref = (T k).1) (hfin : (T k).2.2.2 = false) (hpd : parseFieldDescriptor (T k).2.2.1 = some ty) (hn : narrow ty (.ref (xad G t)) = .ref (xad G t)) (hfit : fits ty (.ref (xad G t)) = true) (hlink : (Cond.fieldLink own idx ref (T k).2.1 (T k).2.2.1).before args s = true) (kk : ∀ h1 : xHp, xJ G p l e R s m args below meth c nL Qf (pc + 3) lv st h1 (f h1)) : xJ G p l e R s m args below meth c nL Qf pc lv (.ref (xad G t) :: .ref (xad G 50) :: st) h (bnd (sT h t) f) := fun res hr1 H locs ls hP hS h1 => by
  refine va_put C.1 C.2.1 C.2.2.2.2.1 hin ty0 hty hnm C.2.2.2.1 C.2.2.2.2.2.1 hP (xwd_D C.2.2.2.2.2.2.1) hS 50 ((xwd_get hi).trans (by rw [hc])) hcl k hk hlink (fun x hx => by rw [hr]; exact hx) hfin hpd hn hfit hl hd (fun H1 locs1 hP1 _ hS1 => ?_)
  rw [← hc2, xwd_setT] at hP1
  exact kk (sT h t) res hr1 H1 locs1 ls hP1 hS1 h1
theorem x_getT (C : xC G p s m args meth c cc nL Ts own) {N : Nat} {fs : List Value} {T : u_T} {Cn ref : String} (k : Nat) {t : Nat} (hd : decode cc pc = .ok (.getfield idx, 3)) (hc : xcell G 50 (h.1 50) (h.2.1 50) h.2.2 = .inr (0, fs)) (hv : fs[k]? = some (.ref (xad G h.2.2))) (hi : 50 < xNC) (hcl : vwCl[0]? = some (Cn, T, N)) (hin : ∀ w ∈ u_ws Cn T N, w ∈ Ts) (hk : k < N) (hr : ref = (T k).1) (hlink : (Cond.fieldLink own idx ref (T k).2.1 (T k).2.2.1).before args s = true) (kk : xJ G p l e R s m args below meth c nL Qf (pc + 3) lv (.ref (xad G t) :: st) h o) : xJ G p l e R s m args below meth c nL Qf pc lv (.ref (xad G 50) :: st) h (grd (decide (h.2.2 = t)) o) := fun res hr1 H locs ls hP hS h1 => by
  have ht : h.2.2 = t := of_decide_eq_true (grd_of hr1).1
  subst ht
  exact va_get C.1 C.2.1 C.2.2.2.2.1 hin C.2.2.2.1 C.2.2.2.2.2.1 hP 50 ((xwd_get hi).trans (by rw [hc])) hcl k hk hlink (fun x hx => by rw [hr]; exact hx) hv hd (kk res (grd_of hr1).2 H locs ls hP hS h1)
end XZ
