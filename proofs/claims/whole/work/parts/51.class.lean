/-! X3_putMark: 22 instructions -/
abbrev J_X3_putMark (G : xG) (p : Program) (l : Launch) (e : Env) (s : State) (m : MethodId) (args : Array Value) (below : List Frame) (meth : Method) (c : Code) : Nat → List (Nat × Value) → List Value → xHp → Option (Unit × xHp) → Prop := xJ G p l e ({ frames := 0, cells := 0, slots := 0, locals := 0 } : Room) s m args below meth c 2 (fun res => MQ below (xQv G res) args s 0 0 (xA G))
def F_X3_putMark_32 (N : Nat) (h : xHp) : Option (Unit × xHp) := bnd (sI h 44 6 0) fun h1 => some ((), h1)
def F_X3_putMark (N : Nat) (p1 : Int32) (h : xHp) : Option (Unit × xHp) := if (64 : Int32) ≤ (gI h 44 3) then F_X3_putMark_32 N h else grd (xin (gI h 44 3) 64) (bnd (sI h 45 (gI h 44 3).toNatClampNeg p1) fun h1 => bnd (sI h1 44 3 ((gI h1 44 3) + 1)) fun h2 => F_X3_putMark_32 N h2)
set_option maxHeartbeats 4000000 in
set_option maxRecDepth 100000 in
theorem T_X3_putMark_32 {G : xG} {p : Program} {l : Launch} {e : Env} {s : State} {m : MethodId} {args : Array Value} {below : List Frame} {meth : Method} {c : Code} {N : Nat} (C : xCz G p s m args meth c cX3_putMark 2 vX3_putMark RX3) (hr : meth.sig.returnType = none) (h : xHp) : J_X3_putMark G p l e s m args below meth c 32 [(0, .ref (xad G 44))] [] h (F_X3_putMark_32 N h) := by
  unfold F_X3_putMark_32
  refine x_aload_n C.1 dX3_putMark_32 rfl 0 rfl ?_
  refine x_iconst (v := 0) C.1 dX3_putMark_33 (by decide) ?_
  refine x_putI (ty0 := tyX3) (ty := .int) C.1 6 dX3_putMark_34 (xc_44 G h) rfl (Nat.le_of_ble_eq_true rfl) (by decide) rfl (fun w h => List.mem_cons_of_mem _ (iWC_X3 w h)) tyX3_ok nmX3 (by decide) rfl rfl (by decide +kernel) rfl rfl (C.1.2.2.2.2.1 _ (List.mem_cons_of_mem _ qC_181)) (fun h1 => ?_)
  exact x_vret C.1 dX3_putMark_37 hr
set_option maxHeartbeats 4000000 in
set_option maxRecDepth 100000 in
theorem M_X3_putMark (G : xG) (l : Launch) (N : Nat) (p1 : Int32) (h : xHp) : ∀ r, F_X3_putMark N p1 h = some r → Met l yX3_putMark vX3_putMark ({ frames := 0, cells := 0, slots := 0, locals := 0 } : Room) (xPz G [.ref (xad G 44), .int p1] h) (xQv G r) 0 0 (xA G) := by
  refine z_met (own := RX3) (cc := cX3_putMark) (maxL := 2) (ret := none) (lv0 := [(0, .ref (xad G 44)), (1, .int p1)]) (by decide +kernel) rfl rfl (Nat.le_of_ble_eq_true rfl) rfl ?_
  intro p e s m below meth c C hr
  unfold F_X3_putMark
  refine x_aload_n C.1 dX3_putMark_0 rfl 0 rfl ?_
  refine x_get (v := .int (gI h 44 3)) C.1 3 dX3_putMark_1 (xc_44 G h) rfl (by decide) rfl (fun w h => List.mem_cons_of_mem _ (iWC_X3 w h)) (by decide) rfl (C.1.2.2.2.2.1 _ (List.mem_cons_of_mem _ qC_178)) ?_
  refine x_aload_n C.1 dX3_putMark_4 rfl 0 rfl ?_
  refine x_get (v := .ref (xad G 45)) C.1 2 dX3_putMark_5 (xc_44 G h) rfl (by decide) rfl (fun w h => List.mem_cons_of_mem _ (iWC_X3 w h)) (by decide) rfl (C.1.2.2.2.2.1 _ (List.mem_cons_of_mem _ qC_212)) ?_
  refine x_alen (v := 64) (t0 := 1) C.1 dX3_putMark_8 (xc_45 G h) rfl rfl (by decide) ?_
  refine x_icmp_ge (tgt := 32) C.1 dX3_putMark_9 (by decide) ?_ ?_
  · exact x_sub [0] rfl (T_X3_putMark_32 C hr h)
  · refine x_aload_n C.1 dX3_putMark_12 rfl 0 rfl ?_
    refine x_get (v := .ref (xad G 45)) C.1 2 dX3_putMark_13 (xc_44 G h) rfl (by decide) rfl (fun w h => List.mem_cons_of_mem _ (iWC_X3 w h)) (by decide) rfl (C.1.2.2.2.2.1 _ (List.mem_cons_of_mem _ qC_212)) ?_
    refine x_aload_n C.1 dX3_putMark_16 rfl 0 rfl ?_
    refine x_get (v := .int (gI h 44 3)) C.1 3 dX3_putMark_17 (xc_44 G h) rfl (by decide) rfl (fun w h => List.mem_cons_of_mem _ (iWC_X3 w h)) (by decide) rfl (C.1.2.2.2.2.1 _ (List.mem_cons_of_mem _ qC_178)) ?_
    refine x_iload_n C.1 dX3_putMark_20 rfl 1 rfl ?_
    refine x_iast (n := 64) C.1 dX3_putMark_21 (fun g => xp_45 G g _ _) (by decide) (fun h1 => ?_)
    refine x_aload_n C.1 dX3_putMark_22 rfl 0 rfl ?_
    refine x_dup C.1 dX3_putMark_23 rfl ?_
    refine x_get (v := .int (gI h1 44 3)) C.1 3 dX3_putMark_24 (xc_44 G h1) rfl (by decide) rfl (fun w h => List.mem_cons_of_mem _ (iWC_X3 w h)) (by decide) rfl (C.1.2.2.2.2.1 _ (List.mem_cons_of_mem _ qC_178)) ?_
    refine x_iconst (v := 1) C.1 dX3_putMark_27 (by decide) ?_
    refine x_iadd C.1 dX3_putMark_28 ?_
    refine x_putI (ty0 := tyX3) (ty := .int) C.1 3 dX3_putMark_29 (xc_44 G h1) rfl (Nat.le_of_ble_eq_true rfl) (by decide) rfl (fun w h => List.mem_cons_of_mem _ (iWC_X3 w h)) tyX3_ok nmX3 (by decide) rfl rfl (by decide +kernel) rfl rfl (C.1.2.2.2.2.1 _ (List.mem_cons_of_mem _ qC_178)) (fun h2 => ?_)
    exact x_sub [0] rfl (T_X3_putMark_32 C hr h2)
/-! X3_openMark: 26 instructions -/
abbrev J_X3_openMark (G : xG) (p : Program) (l : Launch) (e : Env) (s : State) (m : MethodId) (args : Array Value) (below : List Frame) (meth : Method) (c : Code) : Nat → List (Nat × Value) → List Value → xHp → Option (Int32 × xHp) → Prop := xJ G p l e ({ frames := 1, cells := 0, slots := 0, locals := 21 } : Room) s m args below meth c 2 (fun res => MQ below (xQi G res) args s 0 0 (xA G))
def F_X3_openMark_37 (N : Nat) (x1 : Int32) (h : xHp) : Option (Int32 × xHp) := bnd2 (F_X3_putMark N x1 h) fun r1 h2 => some (0, h2)
def F_X3_openMark (N : Nat) (p1 : Int32) (h : xHp) : Option (Int32 × xHp) := if (gI h 44 4) < 20 then bnd (sI h 44 4 ((gI h 44 4) + 1)) fun h1 => if p1 = 40 then bnd (sI h1 44 5 ((gI h1 44 5) + 1)) fun h2 => F_X3_openMark_37 N p1 h2 else F_X3_openMark_37 N p1 h1 else some (4, h)
set_option maxHeartbeats 4000000 in
set_option maxRecDepth 100000 in
theorem T_X3_openMark_37 {G : xG} {p : Program} {l : Launch} {e : Env} {s : State} {m : MethodId} {args : Array Value} {below : List Frame} {meth : Method} {c : Code} {N : Nat} (C : xCz G p s m args meth c cX3_openMark 2 vX3_openMark RX3) (hr : meth.sig.returnType = (some .int)) (x1 : Int32) (h : xHp) : J_X3_openMark G p l e s m args below meth c 37 [(0, .ref (xad G 44)), (1, .int x1)] [] h (F_X3_openMark_37 N x1 h) := by
  unfold F_X3_openMark_37
  refine x_aload_n C.1 dX3_openMark_37 rfl 0 rfl ?_
  refine x_iload_n C.1 dX3_openMark_38 rfl 1 rfl ?_
  refine z_callVv C dX3_openMark_39 (M_X3_putMark G l N x1 h) (cwV 1 C.1.2.2.2.2.1 (gdV gWC qC_229 qC_230 qC_231 qC_217 qC_227) rfl rfl rfl (by decide +kernel) ⟨Nat.le_of_ble_eq_true rfl, Nat.le_of_ble_eq_true rfl⟩) (xc_44 G h) (by decide) rfl rfl rfl (Nat.le_of_ble_eq_true rfl) (fun r1 h2 => ?_)
  refine x_iconst (v := 0) C.1 dX3_openMark_42 (by decide) ?_
  exact x_iret C.1 dX3_openMark_43 hr
set_option maxHeartbeats 4000000 in
set_option maxRecDepth 100000 in
theorem M_X3_openMark (G : xG) (l : Launch) (N : Nat) (p1 : Int32) (h : xHp) : ∀ r, F_X3_openMark N p1 h = some r → Met l yX3_openMark vX3_openMark ({ frames := 1, cells := 0, slots := 0, locals := 21 } : Room) (xPz G [.ref (xad G 44), .int p1] h) (xQi G r) 0 0 (xA G) := by
  refine z_met (own := RX3) (cc := cX3_openMark) (maxL := 2) (ret := (some .int)) (lv0 := [(0, .ref (xad G 44)), (1, .int p1)]) (by decide +kernel) rfl rfl (Nat.le_of_ble_eq_true rfl) rfl ?_
  intro p e s m below meth c C hr
  unfold F_X3_openMark
  refine x_aload_n C.1 dX3_openMark_0 rfl 0 rfl ?_
  refine x_get (v := .int (gI h 44 4)) C.1 4 dX3_openMark_1 (xc_44 G h) rfl (by decide) rfl (fun w h => List.mem_cons_of_mem _ (iWC_X3 w h)) (by decide) rfl (C.1.2.2.2.2.1 _ (List.mem_cons_of_mem _ qC_179)) ?_
  refine x_bipush (v := 20) C.1 dX3_openMark_4 (by decide) ?_
  refine x_icmp_lt (tgt := 11) C.1 dX3_openMark_6 (by decide) ?_ ?_
  · refine x_aload_n C.1 dX3_openMark_11 rfl 0 rfl ?_
    refine x_dup C.1 dX3_openMark_12 rfl ?_
    refine x_get (v := .int (gI h 44 4)) C.1 4 dX3_openMark_13 (xc_44 G h) rfl (by decide) rfl (fun w h => List.mem_cons_of_mem _ (iWC_X3 w h)) (by decide) rfl (C.1.2.2.2.2.1 _ (List.mem_cons_of_mem _ qC_179)) ?_
    refine x_iconst (v := 1) C.1 dX3_openMark_16 (by decide) ?_
    refine x_iadd C.1 dX3_openMark_17 ?_
    refine x_putI (ty0 := tyX3) (ty := .int) C.1 4 dX3_openMark_18 (xc_44 G h) rfl (Nat.le_of_ble_eq_true rfl) (by decide) rfl (fun w h => List.mem_cons_of_mem _ (iWC_X3 w h)) tyX3_ok nmX3 (by decide) rfl rfl (by decide +kernel) rfl rfl (C.1.2.2.2.2.1 _ (List.mem_cons_of_mem _ qC_179)) (fun h1 => ?_)
    refine x_iload_n C.1 dX3_openMark_21 rfl 1 rfl ?_
    refine x_bipush (v := 40) C.1 dX3_openMark_22 (by decide) ?_
    refine x_icmp_ne (tgt := 37) C.1 dX3_openMark_24 (by decide) ?_ ?_
    · refine x_aload_n C.1 dX3_openMark_27 rfl 0 rfl ?_
      refine x_dup C.1 dX3_openMark_28 rfl ?_
      refine x_get (v := .int (gI h1 44 5)) C.1 5 dX3_openMark_29 (xc_44 G h1) rfl (by decide) rfl (fun w h => List.mem_cons_of_mem _ (iWC_X3 w h)) (by decide) rfl (C.1.2.2.2.2.1 _ (List.mem_cons_of_mem _ qC_180)) ?_
      refine x_iconst (v := 1) C.1 dX3_openMark_32 (by decide) ?_
      refine x_iadd C.1 dX3_openMark_33 ?_
      refine x_putI (ty0 := tyX3) (ty := .int) C.1 5 dX3_openMark_34 (xc_44 G h1) rfl (Nat.le_of_ble_eq_true rfl) (by decide) rfl (fun w h => List.mem_cons_of_mem _ (iWC_X3 w h)) tyX3_ok nmX3 (by decide) rfl rfl (by decide +kernel) rfl rfl (C.1.2.2.2.2.1 _ (List.mem_cons_of_mem _ qC_180)) (fun h2 => ?_)
      exact x_sub [0, 1] rfl (T_X3_openMark_37 C hr p1 h2)
    · exact x_sub [0, 1] rfl (T_X3_openMark_37 C hr p1 h1)
  · refine x_iconst (v := 4) C.1 dX3_openMark_9 (by decide) ?_
    exact x_iret C.1 dX3_openMark_10 hr
/-! X3_takeUnit: 31 instructions -/
abbrev J_X3_takeUnit (G : xG) (p : Program) (l : Launch) (e : Env) (s : State) (m : MethodId) (args : Array Value) (below : List Frame) (meth : Method) (c : Code) : Nat → List (Nat × Value) → List Value → xHp → Option (Int32 × xHp) → Prop := xJ G p l e ({ frames := 2, cells := 0, slots := 0, locals := 42 } : Room) s m args below meth c 2 (fun res => MQ below (xQi G res) args s 0 0 (xA G))
def F_X3_takeUnit_47 (N : Nat) (x1 : Int32) (h : xHp) : Option (Int32 × xHp) := bnd2 (F_X3_openMark N x1 h) fun r1 h2 => some (r1, h2)
def F_X3_takeUnit (N : Nat) (p1 : Int32) (h : xHp) : Option (Int32 × xHp) := if p1 = 259 then bnd (sI h 44 7 (gI h 46 4)) fun h1 => bnd (sI h1 44 8 0) fun h2 => bnd (sI h2 44 10 0) fun h3 => bnd (sI h3 44 6 1) fun h4 => some (0, h4) else if p1 = 40 then F_X3_takeUnit_47 N p1 h else if p1 = 126 then F_X3_takeUnit_47 N p1 h else some (2, h)
set_option maxHeartbeats 4000000 in
set_option maxRecDepth 100000 in
theorem T_X3_takeUnit_47 {G : xG} {p : Program} {l : Launch} {e : Env} {s : State} {m : MethodId} {args : Array Value} {below : List Frame} {meth : Method} {c : Code} {N : Nat} (C : xCz G p s m args meth c cX3_takeUnit 2 vX3_takeUnit RX3) (hr : meth.sig.returnType = (some .int)) (x1 : Int32) (h : xHp) : J_X3_takeUnit G p l e s m args below meth c 47 [(0, .ref (xad G 44)), (1, .int x1)] [] h (F_X3_takeUnit_47 N x1 h) := by
  unfold F_X3_takeUnit_47
  refine x_aload_n C.1 dX3_takeUnit_47 rfl 0 rfl ?_
  refine x_iload_n C.1 dX3_takeUnit_48 rfl 1 rfl ?_
  refine z_callVi C dX3_takeUnit_49 (M_X3_openMark G l N x1 h) (cwV 1 C.1.2.2.2.2.1 (gdV gWC qC_237 qC_238 qC_239 qC_217 qC_228) rfl rfl rfl (by decide +kernel) ⟨Nat.le_of_ble_eq_true rfl, Nat.le_of_ble_eq_true rfl⟩) (xc_44 G h) (by decide) rfl rfl rfl (Nat.le_of_ble_eq_true rfl) (fun r1 h2 => ?_)
  refine x_goto (tgt := 56) C.1 dX3_takeUnit_52 (by decide) ?_
  exact x_iret C.1 dX3_takeUnit_56 hr
set_option maxHeartbeats 4000000 in
set_option maxRecDepth 100000 in
theorem M_X3_takeUnit (G : xG) (l : Launch) (N : Nat) (p1 : Int32) (h : xHp) : ∀ r, F_X3_takeUnit N p1 h = some r → Met l yX3_takeUnit vX3_takeUnit ({ frames := 2, cells := 0, slots := 0, locals := 42 } : Room) (xPz G [.ref (xad G 44), .int p1] h) (xQi G r) 0 0 (xA G) := by
  refine z_met (own := RX3) (cc := cX3_takeUnit) (maxL := 2) (ret := (some .int)) (lv0 := [(0, .ref (xad G 44)), (1, .int p1)]) (by decide +kernel) rfl rfl (Nat.le_of_ble_eq_true rfl) rfl ?_
  intro p e s m below meth c C hr
  unfold F_X3_takeUnit
  refine x_iload_n C.1 dX3_takeUnit_0 rfl 1 rfl ?_
  refine x_sipush (v := 259) C.1 dX3_takeUnit_1 (by decide) ?_
  refine x_icmp_ne (tgt := 35) C.1 dX3_takeUnit_4 (by decide) ?_ ?_
  · refine x_aload_n C.1 dX3_takeUnit_7 rfl 0 rfl ?_
    refine x_aload_n C.1 dX3_takeUnit_8 rfl 0 rfl ?_
    refine x_get (v := .ref (xad G 46)) C.1 0 dX3_takeUnit_9 (xc_44 G h) rfl (by decide) rfl (fun w h => List.mem_cons_of_mem _ (iWC_X3 w h)) (by decide) rfl (C.1.2.2.2.2.1 _ (List.mem_cons_of_mem _ qC_176)) ?_
    refine x_get (v := .int (gI h 46 4)) C.1 4 dX3_takeUnit_12 (xc_46 G h) rfl (by decide) rfl (fun w h => List.mem_cons_of_mem _ (iWC_X4 w h)) (by decide) rfl (C.1.2.2.2.2.1 _ (List.mem_cons_of_mem _ qC_233)) ?_
    refine x_putI (ty0 := tyX3) (ty := .int) C.1 7 dX3_takeUnit_15 (xc_44 G h) rfl (Nat.le_of_ble_eq_true rfl) (by decide) rfl (fun w h => List.mem_cons_of_mem _ (iWC_X3 w h)) tyX3_ok nmX3 (by decide) rfl rfl (by decide +kernel) rfl rfl (C.1.2.2.2.2.1 _ (List.mem_cons_of_mem _ qC_234)) (fun h1 => ?_)
    refine x_aload_n C.1 dX3_takeUnit_18 rfl 0 rfl ?_
    refine x_iconst (v := 0) C.1 dX3_takeUnit_19 (by decide) ?_
    refine x_putI (ty0 := tyX3) (ty := .int) C.1 8 dX3_takeUnit_20 (xc_44 G h1) rfl (Nat.le_of_ble_eq_true rfl) (by decide) rfl (fun w h => List.mem_cons_of_mem _ (iWC_X3 w h)) tyX3_ok nmX3 (by decide) rfl rfl (by decide +kernel) rfl rfl (C.1.2.2.2.2.1 _ (List.mem_cons_of_mem _ qC_235)) (fun h2 => ?_)
    refine x_aload_n C.1 dX3_takeUnit_23 rfl 0 rfl ?_
    refine x_iconst (v := 0) C.1 dX3_takeUnit_24 (by decide) ?_
    refine x_putI (ty0 := tyX3) (ty := .boolean) C.1 10 dX3_takeUnit_25 (xc_44 G h2) rfl (Nat.le_of_ble_eq_true rfl) (by decide) rfl (fun w h => List.mem_cons_of_mem _ (iWC_X3 w h)) tyX3_ok nmX3 (by decide) rfl rfl (by decide +kernel) rfl rfl (C.1.2.2.2.2.1 _ (List.mem_cons_of_mem _ qC_236)) (fun h3 => ?_)
    refine x_aload_n C.1 dX3_takeUnit_28 rfl 0 rfl ?_
    refine x_iconst (v := 1) C.1 dX3_takeUnit_29 (by decide) ?_
    refine x_putI (ty0 := tyX3) (ty := .int) C.1 6 dX3_takeUnit_30 (xc_44 G h3) rfl (Nat.le_of_ble_eq_true rfl) (by decide) rfl (fun w h => List.mem_cons_of_mem _ (iWC_X3 w h)) tyX3_ok nmX3 (by decide) rfl rfl (by decide +kernel) rfl rfl (C.1.2.2.2.2.1 _ (List.mem_cons_of_mem _ qC_181)) (fun h4 => ?_)
    refine x_iconst (v := 0) C.1 dX3_takeUnit_33 (by decide) ?_
    exact x_iret C.1 dX3_takeUnit_34 hr
  · refine x_iload_n C.1 dX3_takeUnit_35 rfl 1 rfl ?_
    refine x_bipush (v := 40) C.1 dX3_takeUnit_36 (by decide) ?_
    refine x_icmp_eq (tgt := 47) C.1 dX3_takeUnit_38 (by decide) ?_ ?_
    · exact x_sub [0, 1] rfl (T_X3_takeUnit_47 C hr p1 h)
    · refine x_iload_n C.1 dX3_takeUnit_41 rfl 1 rfl ?_
      refine x_bipush (v := 126) C.1 dX3_takeUnit_42 (by decide) ?_
      refine x_icmp_ne (tgt := 55) C.1 dX3_takeUnit_44 (by decide) ?_ ?_
      · exact x_sub [0, 1] rfl (T_X3_takeUnit_47 C hr p1 h)
      · refine x_iconst (v := 2) C.1 dX3_takeUnit_55 (by decide) ?_
        exact x_iret C.1 dX3_takeUnit_56 hr
/-! X3_closeBracket: 27 instructions -/
abbrev J_X3_closeBracket (G : xG) (p : Program) (l : Launch) (e : Env) (s : State) (m : MethodId) (args : Array Value) (below : List Frame) (meth : Method) (c : Code) : Nat → List (Nat × Value) → List Value → xHp → Option (Int32 × xHp) → Prop := xJ G p l e ({ frames := 3, cells := 0, slots := 0, locals := 62 } : Room) s m args below meth c 1 (fun res => MQ below (xQi G res) args s 0 0 (xA G))
def F_X3_closeBracket (N : Nat) (h : xHp) : Option (Int32 × xHp) := if (gI h 44 5) = 0 then some (2, h) else bnd2 (F_X3_endFormula N h) fun r1 h2 => bnd (sI h2 44 5 ((gI h2 44 5) - 1)) fun h3 => bnd (sI h3 44 4 ((gI h3 44 4) - 1)) fun h4 => bnd2 (F_X3_dropMark N 40 h4) fun r5 h6 => bnd2 (F_X3_endUnit N h6) fun r7 h8 => some (0, h8)
set_option maxHeartbeats 4000000 in
set_option maxRecDepth 100000 in
theorem M_X3_closeBracket (G : xG) (l : Launch) (N : Nat) (h : xHp) : ∀ r, F_X3_closeBracket N h = some r → Met l yX3_closeBracket vX3_closeBracket ({ frames := 3, cells := 0, slots := 0, locals := 62 } : Room) (xPz G [.ref (xad G 44)] h) (xQi G r) 0 0 (xA G) := by
  refine z_met (own := RX3) (cc := cX3_closeBracket) (maxL := 1) (ret := (some .int)) (lv0 := [(0, .ref (xad G 44))]) (by decide +kernel) rfl rfl (Nat.le_of_ble_eq_true rfl) rfl ?_
  intro p e s m below meth c C hr
  unfold F_X3_closeBracket
  refine x_aload_n C.1 dX3_closeBracket_0 rfl 0 rfl ?_
  refine x_get (v := .int (gI h 44 5)) C.1 5 dX3_closeBracket_1 (xc_44 G h) rfl (by decide) rfl (fun w h => List.mem_cons_of_mem _ (iWC_X3 w h)) (by decide) rfl (C.1.2.2.2.2.1 _ (List.mem_cons_of_mem _ qC_180)) ?_
  refine x_if_ne (tgt := 9) C.1 dX3_closeBracket_4 (by decide) ?_ ?_
  · refine x_iconst (v := 2) C.1 dX3_closeBracket_7 (by decide) ?_
    exact x_iret C.1 dX3_closeBracket_8 hr
  · refine x_aload_n C.1 dX3_closeBracket_9 rfl 0 rfl ?_
    refine z_callVv C dX3_closeBracket_10 (M_X3_endFormula G l N h) (cwV 0 C.1.2.2.2.2.1 (gdV gWC qC_223 qC_224 qC_225 qC_217 qC_219) rfl rfl rfl (by decide +kernel) ⟨Nat.le_of_ble_eq_true rfl, Nat.le_of_ble_eq_true rfl⟩) (xc_44 G h) (by decide) rfl rfl rfl (Nat.le_of_ble_eq_true rfl) (fun r1 h2 => ?_)
    refine x_aload_n C.1 dX3_closeBracket_13 rfl 0 rfl ?_
    refine x_dup C.1 dX3_closeBracket_14 rfl ?_
    refine x_get (v := .int (gI h2 44 5)) C.1 5 dX3_closeBracket_15 (xc_44 G h2) rfl (by decide) rfl (fun w h => List.mem_cons_of_mem _ (iWC_X3 w h)) (by decide) rfl (C.1.2.2.2.2.1 _ (List.mem_cons_of_mem _ qC_180)) ?_
    refine x_iconst (v := 1) C.1 dX3_closeBracket_18 (by decide) ?_
    refine x_isub C.1 dX3_closeBracket_19 ?_
    refine x_putI (ty0 := tyX3) (ty := .int) C.1 5 dX3_closeBracket_20 (xc_44 G h2) rfl (Nat.le_of_ble_eq_true rfl) (by decide) rfl (fun w h => List.mem_cons_of_mem _ (iWC_X3 w h)) tyX3_ok nmX3 (by decide) rfl rfl (by decide +kernel) rfl rfl (C.1.2.2.2.2.1 _ (List.mem_cons_of_mem _ qC_180)) (fun h3 => ?_)
    refine x_aload_n C.1 dX3_closeBracket_23 rfl 0 rfl ?_
    refine x_dup C.1 dX3_closeBracket_24 rfl ?_
    refine x_get (v := .int (gI h3 44 4)) C.1 4 dX3_closeBracket_25 (xc_44 G h3) rfl (by decide) rfl (fun w h => List.mem_cons_of_mem _ (iWC_X3 w h)) (by decide) rfl (C.1.2.2.2.2.1 _ (List.mem_cons_of_mem _ qC_179)) ?_
    refine x_iconst (v := 1) C.1 dX3_closeBracket_28 (by decide) ?_
    refine x_isub C.1 dX3_closeBracket_29 ?_
    refine x_putI (ty0 := tyX3) (ty := .int) C.1 4 dX3_closeBracket_30 (xc_44 G h3) rfl (Nat.le_of_ble_eq_true rfl) (by decide) rfl (fun w h => List.mem_cons_of_mem _ (iWC_X3 w h)) tyX3_ok nmX3 (by decide) rfl rfl (by decide +kernel) rfl rfl (C.1.2.2.2.2.1 _ (List.mem_cons_of_mem _ qC_179)) (fun h4 => ?_)
    refine x_aload_n C.1 dX3_closeBracket_33 rfl 0 rfl ?_
    refine x_bipush (v := 40) C.1 dX3_closeBracket_34 (by decide) ?_
    refine z_callVi C dX3_closeBracket_36 (M_X3_dropMark G l N 40 h4) (cwV 1 C.1.2.2.2.2.1 (gdV gWC qC_214 qC_215 qC_216 qC_217 qC_211) rfl rfl rfl (by decide +kernel) ⟨Nat.le_of_ble_eq_true rfl, Nat.le_of_ble_eq_true rfl⟩) (xc_44 G h4) (by decide) rfl rfl rfl (Nat.le_of_ble_eq_true rfl) (fun r5 h6 => ?_)
    refine x_pop C.1 dX3_closeBracket_39 rfl ?_
    refine x_aload_n C.1 dX3_closeBracket_40 rfl 0 rfl ?_
    refine z_callVv C dX3_closeBracket_41 (M_X3_endUnit G l N h6) (cwV 0 C.1.2.2.2.2.1 (gdV gWC qC_241 qC_242 qC_243 qC_217 qC_240) rfl rfl rfl (by decide +kernel) ⟨Nat.le_of_ble_eq_true rfl, Nat.le_of_ble_eq_true rfl⟩) (xc_44 G h6) (by decide) rfl rfl rfl (Nat.le_of_ble_eq_true rfl) (fun r7 h8 => ?_)
    refine x_iconst (v := 0) C.1 dX3_closeBracket_44 (by decide) ?_
    exact x_iret C.1 dX3_closeBracket_45 hr
/-! X3_takeJoint: 25 instructions -/
abbrev J_X3_takeJoint (G : xG) (p : Program) (l : Launch) (e : Env) (s : State) (m : MethodId) (args : Array Value) (below : List Frame) (meth : Method) (c : Code) : Nat → List (Nat × Value) → List Value → xHp → Option (Int32 × xHp) → Prop := xJ G p l e ({ frames := 4, cells := 0, slots := 0, locals := 82 } : Room) s m args below meth c 2 (fun res => MQ below (xQi G res) args s 0 0 (xA G))
def F_X3_takeJoint (N : Nat) (p1 : Int32) (h : xHp) : Option (Int32 × xHp) := if (p1 : Int32) = 38 then bnd2 (F_X3_putMark N 38 h) fun r2 h3 => some (0, h3) else if (p1 : Int32) = 41 then bnd2 (F_X3_closeBracket N h) fun r4 h5 => some (r4, h5) else if (p1 : Int32) = 124 then bnd2 (F_X3_endEither N h) fun r6 h7 => bnd2 (F_X3_putMark N 124 h7) fun r8 h9 => some (0, h9) else if (p1 : Int32) = 258 then bnd2 (F_X3_endEither N h) fun r10 h11 => bnd2 (F_X3_openMark N 258 h11) fun r12 h13 => some (r12, h13) else some (2, h)
set_option maxHeartbeats 4000000 in
set_option maxRecDepth 100000 in
theorem M_X3_takeJoint (G : xG) (l : Launch) (N : Nat) (p1 : Int32) (h : xHp) : ∀ r, F_X3_takeJoint N p1 h = some r → Met l yX3_takeJoint vX3_takeJoint ({ frames := 4, cells := 0, slots := 0, locals := 82 } : Room) (xPz G [.ref (xad G 44), .int p1] h) (xQi G r) 0 0 (xA G) := by
  refine z_met (own := RX3) (cc := cX3_takeJoint) (maxL := 2) (ret := (some .int)) (lv0 := [(0, .ref (xad G 44)), (1, .int p1)]) (by decide +kernel) rfl rfl (Nat.le_of_ble_eq_true rfl) rfl ?_
  intro p e s m below meth c C hr
  unfold F_X3_takeJoint
  refine x_iload_n C.1 dX3_takeJoint_0 rfl 1 rfl ?_
  refine x_split _ (fun q1_0 => ?_) (fun q1_0 => ?_)
  · refine x_lookup (off := 43) (tgt := 44) C.1 dX3_takeJoint_1 (by decide) (by rw [q1_0]; decide) (by decide) ?_
    refine x_aload_n C.1 dX3_takeJoint_44 rfl 0 rfl ?_
    refine x_bipush (v := 38) C.1 dX3_takeJoint_45 (by decide) ?_
    refine z_callVv C dX3_takeJoint_47 (M_X3_putMark G l N 38 h) (cwV 1 C.1.2.2.2.2.1 (gdV gWC qC_229 qC_230 qC_231 qC_217 qC_227) rfl rfl rfl (by decide +kernel) ⟨Nat.le_of_ble_eq_true rfl, Nat.le_of_ble_eq_true rfl⟩) (xc_44 G h) (by decide) rfl rfl rfl (Nat.le_of_ble_eq_true rfl) (fun r2 h3 => ?_)
    refine x_iconst (v := 0) C.1 dX3_takeJoint_50 (by decide) ?_
    exact x_iret C.1 dX3_takeJoint_51 hr
  · skip
    refine x_split _ (fun q1_1 => ?_) (fun q1_1 => ?_)
    · refine x_lookup (off := 75) (tgt := 76) C.1 dX3_takeJoint_1 (by decide) (by rw [q1_1]; decide) (by decide) ?_
      refine x_aload_n C.1 dX3_takeJoint_76 rfl 0 rfl ?_
      refine z_callVi C dX3_takeJoint_77 (M_X3_closeBracket G l N h) (cwV 0 C.1.2.2.2.2.1 (gdV gWC qC_245 qC_246 qC_247 qC_217 qC_244) rfl rfl rfl (by decide +kernel) ⟨Nat.le_of_ble_eq_true rfl, Nat.le_of_ble_eq_true rfl⟩) (xc_44 G h) (by decide) rfl rfl rfl (Nat.le_of_ble_eq_true rfl) (fun r4 h5 => ?_)
      exact x_iret C.1 dX3_takeJoint_80 hr
    · skip
      refine x_split _ (fun q1_2 => ?_) (fun q1_2 => ?_)
      · refine x_lookup (off := 51) (tgt := 52) C.1 dX3_takeJoint_1 (by decide) (by rw [q1_2]; decide) (by decide) ?_
        refine x_aload_n C.1 dX3_takeJoint_52 rfl 0 rfl ?_
        refine z_callVv C dX3_takeJoint_53 (M_X3_endEither G l N h) (cwV 0 C.1.2.2.2.2.1 (gdV gWC qC_220 qC_221 qC_222 qC_217 qC_213) rfl rfl rfl (by decide +kernel) ⟨Nat.le_of_ble_eq_true rfl, Nat.le_of_ble_eq_true rfl⟩) (xc_44 G h) (by decide) rfl rfl rfl (Nat.le_of_ble_eq_true rfl) (fun r6 h7 => ?_)
        refine x_aload_n C.1 dX3_takeJoint_56 rfl 0 rfl ?_
        refine x_bipush (v := 124) C.1 dX3_takeJoint_57 (by decide) ?_
        refine z_callVv C dX3_takeJoint_59 (M_X3_putMark G l N 124 h7) (cwV 1 C.1.2.2.2.2.1 (gdV gWC qC_229 qC_230 qC_231 qC_217 qC_227) rfl rfl rfl (by decide +kernel) ⟨Nat.le_of_ble_eq_true rfl, Nat.le_of_ble_eq_true rfl⟩) (xc_44 G h7) (by decide) rfl rfl rfl (Nat.le_of_ble_eq_true rfl) (fun r8 h9 => ?_)
        refine x_iconst (v := 0) C.1 dX3_takeJoint_62 (by decide) ?_
        exact x_iret C.1 dX3_takeJoint_63 hr
      · skip
        refine x_split _ (fun q1_3 => ?_) (fun q1_3 => ?_)
        · refine x_lookup (off := 63) (tgt := 64) C.1 dX3_takeJoint_1 (by decide) (by rw [q1_3]; decide) (by decide) ?_
          refine x_aload_n C.1 dX3_takeJoint_64 rfl 0 rfl ?_
          refine z_callVv C dX3_takeJoint_65 (M_X3_endEither G l N h) (cwV 0 C.1.2.2.2.2.1 (gdV gWC qC_220 qC_221 qC_222 qC_217 qC_213) rfl rfl rfl (by decide +kernel) ⟨Nat.le_of_ble_eq_true rfl, Nat.le_of_ble_eq_true rfl⟩) (xc_44 G h) (by decide) rfl rfl rfl (Nat.le_of_ble_eq_true rfl) (fun r10 h11 => ?_)
          refine x_aload_n C.1 dX3_takeJoint_68 rfl 0 rfl ?_
          refine x_sipush (v := 258) C.1 dX3_takeJoint_69 (by decide) ?_
          refine z_callVi C dX3_takeJoint_72 (M_X3_openMark G l N 258 h11) (cwV 1 C.1.2.2.2.2.1 (gdV gWC qC_237 qC_238 qC_239 qC_217 qC_228) rfl rfl rfl (by decide +kernel) ⟨Nat.le_of_ble_eq_true rfl, Nat.le_of_ble_eq_true rfl⟩) (xc_44 G h11) (by decide) rfl rfl rfl (Nat.le_of_ble_eq_true rfl) (fun r12 h13 => ?_)
          exact x_iret C.1 dX3_takeJoint_75 hr
        · skip
          refine x_lookup (off := 80) (tgt := 81) C.1 dX3_takeJoint_1 (by decide) (by show Op.lookupswitch.offset [(38, 43), (41, 75), (124, 51), (258, 63)] _ _ = _; rw [lv_osw q1_0 (by decide), lv_osw q1_1 (by decide), lv_osw q1_2 (by decide), lv_osw q1_3 (by decide)]; rfl) (by decide) ?_
          refine x_iconst (v := 2) C.1 dX3_takeJoint_81 (by decide) ?_
          exact x_iret C.1 dX3_takeJoint_82 hr
/-! X3_take: 24 instructions -/
abbrev J_X3_take (G : xG) (p : Program) (l : Launch) (e : Env) (s : State) (m : MethodId) (args : Array Value) (below : List Frame) (meth : Method) (c : Code) : Nat → List (Nat × Value) → List Value → xHp → Option (Int32 × xHp) → Prop := xJ G p l e ({ frames := 5, cells := 0, slots := 0, locals := 103 } : Room) s m args below meth c 2 (fun res => MQ below (xQi G res) args s 0 0 (xA G))
def F_X3_take_68 (N : Nat) (x1 : Int32) (h : xHp) : Option (Int32 × xHp) := bnd2 (F_X3_takeInt N x1 h) fun r1 h2 => some (r1, h2)
def F_X3_take_74 (N : Nat) (x1 : Int32) (h : xHp) : Option (Int32 × xHp) := bnd2 (F_X3_takeDifference N x1 h) fun r1 h2 => some (r1, h2)
def F_X3_take (N : Nat) (p1 : Int32) (h : xHp) : Option (Int32 × xHp) := if p1 = 262 then some (1, h) else if ((gI h 44 6) : Int32) = 0 then bnd2 (F_X3_takeUnit N p1 h) fun r2 h3 => some (r2, h3) else if ((gI h 44 6) : Int32) = 1 then F_X3_take_74 N p1 h else if ((gI h 44 6) : Int32) = 2 then F_X3_take_74 N p1 h else if ((gI h 44 6) : Int32) = 3 then F_X3_take_74 N p1 h else if ((gI h 44 6) : Int32) = 4 then F_X3_take_68 N p1 h else if ((gI h 44 6) : Int32) = 5 then F_X3_take_68 N p1 h else if ((gI h 44 6) : Int32) = 6 then bnd2 (F_X3_takeJoint N p1 h) fun r4 h5 => some (r4, h5) else F_X3_take_74 N p1 h
set_option maxHeartbeats 4000000 in
set_option maxRecDepth 100000 in
theorem T_X3_take_68 {G : xG} {p : Program} {l : Launch} {e : Env} {s : State} {m : MethodId} {args : Array Value} {below : List Frame} {meth : Method} {c : Code} {N : Nat} (C : xCz G p s m args meth c cX3_take 2 vX3_take RX3) (hr : meth.sig.returnType = (some .int)) (x1 : Int32) (h : xHp) : J_X3_take G p l e s m args below meth c 68 [(0, .ref (xad G 44)), (1, .int x1)] [] h (F_X3_take_68 N x1 h) := by
  unfold F_X3_take_68
  refine x_aload_n C.1 dX3_take_68 rfl 0 rfl ?_
  refine x_iload_n C.1 dX3_take_69 rfl 1 rfl ?_
  refine z_callVi C dX3_take_70 (M_X3_takeInt G l N x1 h) (cwV 1 C.1.2.2.2.2.1 (gdV gWC qC_264 qC_265 qC_266 qC_217 qC_253) rfl rfl rfl (by decide +kernel) ⟨Nat.le_of_ble_eq_true rfl, Nat.le_of_ble_eq_true rfl⟩) (xc_44 G h) (by decide) rfl rfl rfl (Nat.le_of_ble_eq_true rfl) (fun r1 h2 => ?_)
  exact x_iret C.1 dX3_take_73 hr
set_option maxHeartbeats 4000000 in
set_option maxRecDepth 100000 in
theorem T_X3_take_74 {G : xG} {p : Program} {l : Launch} {e : Env} {s : State} {m : MethodId} {args : Array Value} {below : List Frame} {meth : Method} {c : Code} {N : Nat} (C : xCz G p s m args meth c cX3_take 2 vX3_take RX3) (hr : meth.sig.returnType = (some .int)) (x1 : Int32) (h : xHp) : J_X3_take G p l e s m args below meth c 74 [(0, .ref (xad G 44)), (1, .int x1)] [] h (F_X3_take_74 N x1 h) := by
  unfold F_X3_take_74
  refine x_aload_n C.1 dX3_take_74 rfl 0 rfl ?_
  refine x_iload_n C.1 dX3_take_75 rfl 1 rfl ?_
  refine z_callVi C dX3_take_76 (M_X3_takeDifference G l N x1 h) (cwV 1 C.1.2.2.2.2.1 (gdV gWC qC_267 qC_268 qC_269 qC_217 qC_255) rfl rfl rfl (by decide +kernel) ⟨Nat.le_of_ble_eq_true rfl, Nat.le_of_ble_eq_true rfl⟩) (xc_44 G h) (by decide) rfl rfl rfl (Nat.le_of_ble_eq_true rfl) (fun r1 h2 => ?_)
  exact x_iret C.1 dX3_take_79 hr
set_option maxHeartbeats 4000000 in
set_option maxRecDepth 100000 in
theorem M_X3_take (G : xG) (l : Launch) (N : Nat) (p1 : Int32) (h : xHp) : ∀ r, F_X3_take N p1 h = some r → Met l yX3_take vX3_take ({ frames := 5, cells := 0, slots := 0, locals := 103 } : Room) (xPz G [.ref (xad G 44), .int p1] h) (xQi G r) 0 0 (xA G) := by
  refine z_met (own := RX3) (cc := cX3_take) (maxL := 2) (ret := (some .int)) (lv0 := [(0, .ref (xad G 44)), (1, .int p1)]) (by decide +kernel) rfl rfl (Nat.le_of_ble_eq_true rfl) rfl ?_
  intro p e s m below meth c C hr
  unfold F_X3_take
  refine x_iload_n C.1 dX3_take_0 rfl 1 rfl ?_
  refine x_sipush (v := 262) C.1 dX3_take_1 (by decide) ?_
  refine x_icmp_ne (tgt := 9) C.1 dX3_take_4 (by decide) ?_ ?_
  · refine x_iconst (v := 1) C.1 dX3_take_7 (by decide) ?_
    exact x_iret C.1 dX3_take_8 hr
  · refine x_aload_n C.1 dX3_take_9 rfl 0 rfl ?_
    refine x_get (v := .int (gI h 44 6)) C.1 6 dX3_take_10 (xc_44 G h) rfl (by decide) rfl (fun w h => List.mem_cons_of_mem _ (iWC_X3 w h)) (by decide) rfl (C.1.2.2.2.2.1 _ (List.mem_cons_of_mem _ qC_181)) ?_
    refine x_split _ (fun q1_0 => ?_) (fun q1_0 => ?_)
    · refine x_tableIn (off := 43) (tgt := 56) C.1 dX3_take_13 (by rw [q1_0]; decide) (by rw [q1_0]; decide) (by rw [q1_0]; rfl) (by decide) ?_
      refine x_aload_n C.1 dX3_take_56 rfl 0 rfl ?_
      refine x_iload_n C.1 dX3_take_57 rfl 1 rfl ?_
      refine z_callVi C dX3_take_58 (M_X3_takeUnit G l N p1 h) (cwV 1 C.1.2.2.2.2.1 (gdV gWC qC_258 qC_259 qC_260 qC_217 qC_232) rfl rfl rfl (by decide +kernel) ⟨Nat.le_of_ble_eq_true rfl, Nat.le_of_ble_eq_true rfl⟩) (xc_44 G h) (by decide) rfl rfl rfl (Nat.le_of_ble_eq_true rfl) (fun r2 h3 => ?_)
      exact x_iret C.1 dX3_take_61 hr
    · skip
      refine x_split _ (fun q1_1 => ?_) (fun q1_1 => ?_)
      · refine x_tableIn (off := 61) (tgt := 74) C.1 dX3_take_13 (by rw [q1_1]; decide) (by rw [q1_1]; decide) (by rw [q1_1]; rfl) (by decide) ?_
        exact x_sub [0, 1] rfl (T_X3_take_74 C hr p1 h)
      · skip
        refine x_split _ (fun q1_2 => ?_) (fun q1_2 => ?_)
        · refine x_tableIn (off := 61) (tgt := 74) C.1 dX3_take_13 (by rw [q1_2]; decide) (by rw [q1_2]; decide) (by rw [q1_2]; rfl) (by decide) ?_
          exact x_sub [0, 1] rfl (T_X3_take_74 C hr p1 h)
        · skip
          refine x_split _ (fun q1_3 => ?_) (fun q1_3 => ?_)
          · refine x_tableIn (off := 61) (tgt := 74) C.1 dX3_take_13 (by rw [q1_3]; decide) (by rw [q1_3]; decide) (by rw [q1_3]; rfl) (by decide) ?_
            exact x_sub [0, 1] rfl (T_X3_take_74 C hr p1 h)
          · skip
            refine x_split _ (fun q1_4 => ?_) (fun q1_4 => ?_)
            · refine x_tableIn (off := 55) (tgt := 68) C.1 dX3_take_13 (by rw [q1_4]; decide) (by rw [q1_4]; decide) (by rw [q1_4]; rfl) (by decide) ?_
              exact x_sub [0, 1] rfl (T_X3_take_68 C hr p1 h)
            · skip
              refine x_split _ (fun q1_5 => ?_) (fun q1_5 => ?_)
              · refine x_tableIn (off := 55) (tgt := 68) C.1 dX3_take_13 (by rw [q1_5]; decide) (by rw [q1_5]; decide) (by rw [q1_5]; rfl) (by decide) ?_
                exact x_sub [0, 1] rfl (T_X3_take_68 C hr p1 h)
              · skip
                refine x_split _ (fun q1_6 => ?_) (fun q1_6 => ?_)
                · refine x_tableIn (off := 49) (tgt := 62) C.1 dX3_take_13 (by rw [q1_6]; decide) (by rw [q1_6]; decide) (by rw [q1_6]; rfl) (by decide) ?_
                  refine x_aload_n C.1 dX3_take_62 rfl 0 rfl ?_
                  refine x_iload_n C.1 dX3_take_63 rfl 1 rfl ?_
                  refine z_callVi C dX3_take_64 (M_X3_takeJoint G l N p1 h) (cwV 1 C.1.2.2.2.2.1 (gdV gWC qC_261 qC_262 qC_263 qC_217 qC_248) rfl rfl rfl (by decide +kernel) ⟨Nat.le_of_ble_eq_true rfl, Nat.le_of_ble_eq_true rfl⟩) (xc_44 G h) (by decide) rfl rfl rfl (Nat.le_of_ble_eq_true rfl) (fun r4 h5 => ?_)
                  exact x_iret C.1 dX3_take_67 hr
                · skip
                  have hout : ((gI h 44 6) : Int32).toInt < 0 ∨ 6 < ((gI h 44 6) : Int32).toInt := by
                    have e0 := lv_neT q1_0 (a := 0) (by decide)
                    have e1 := lv_neT q1_1 (a := 1) (by decide)
                    have e2 := lv_neT q1_2 (a := 2) (by decide)
                    have e3 := lv_neT q1_3 (a := 3) (by decide)
                    have e4 := lv_neT q1_4 (a := 4) (by decide)
                    have e5 := lv_neT q1_5 (a := 5) (by decide)
                    have e6 := lv_neT q1_6 (a := 6) (by decide)
                    omega
                  refine x_tableOut (tgt := 74) C.1 dX3_take_13 hout (by decide) ?_
                  exact x_sub [0, 1] rfl (T_X3_take_74 C hr p1 h)
/-! X4_rewind: 10 instructions -/
abbrev J_X4_rewind (G : xG) (p : Program) (l : Launch) (e : Env) (s : State) (m : MethodId) (args : Array Value) (below : List Frame) (meth : Method) (c : Code) : Nat → List (Nat × Value) → List Value → xHp → Option (Unit × xHp) → Prop := xJ G p l e ({ frames := 0, cells := 0, slots := 0, locals := 0 } : Room) s m args below meth c 1 (fun res => MQ below (xQv G res) args s 0 0 (xA G))
def F_X4_rewind (N : Nat) (h : xHp) : Option (Unit × xHp) := bnd (sI h 46 1 0) fun h1 => bnd (sI h1 46 2 0) fun h2 => bnd (sI h2 46 3 261) fun h3 => some ((), h3)
set_option maxHeartbeats 4000000 in
set_option maxRecDepth 100000 in
theorem M_X4_rewind (G : xG) (l : Launch) (N : Nat) (h : xHp) : ∀ r, F_X4_rewind N h = some r → Met l yX4_rewind vX4_rewind ({ frames := 0, cells := 0, slots := 0, locals := 0 } : Room) (xPz G [.ref (xad G 46)] h) (xQv G r) 0 0 (xA G) := by
  refine z_met (own := RX4) (cc := cX4_rewind) (maxL := 1) (ret := none) (lv0 := [(0, .ref (xad G 46))]) (by decide +kernel) rfl rfl (Nat.le_of_ble_eq_true rfl) rfl ?_
  intro p e s m below meth c C hr
  unfold F_X4_rewind
  refine x_aload_n C.1 dX4_rewind_0 rfl 0 rfl ?_
  refine x_iconst (v := 0) C.1 dX4_rewind_1 (by decide) ?_
  refine x_putI (ty0 := tyX4) (ty := .int) C.1 1 dX4_rewind_2 (xc_46 G h) rfl (Nat.le_of_ble_eq_true rfl) (by decide) rfl (fun w h => List.mem_cons_of_mem _ (iWC_X4 w h)) tyX4_ok nmX4 (by decide) rfl rfl (by decide +kernel) rfl rfl (C.1.2.2.2.2.1 _ (List.mem_cons_of_mem _ qC_172)) (fun h1 => ?_)
  refine x_aload_n C.1 dX4_rewind_5 rfl 0 rfl ?_
  refine x_iconst (v := 0) C.1 dX4_rewind_6 (by decide) ?_
  refine x_putI (ty0 := tyX4) (ty := .int) C.1 2 dX4_rewind_7 (xc_46 G h1) rfl (Nat.le_of_ble_eq_true rfl) (by decide) rfl (fun w h => List.mem_cons_of_mem _ (iWC_X4 w h)) tyX4_ok nmX4 (by decide) rfl rfl (by decide +kernel) rfl rfl (C.1.2.2.2.2.1 _ (List.mem_cons_of_mem _ qC_173)) (fun h2 => ?_)
  refine x_aload_n C.1 dX4_rewind_10 rfl 0 rfl ?_
  refine x_sipush (v := 261) C.1 dX4_rewind_11 (by decide) ?_
  refine x_putI (ty0 := tyX4) (ty := .int) C.1 3 dX4_rewind_14 (xc_46 G h2) rfl (Nat.le_of_ble_eq_true rfl) (by decide) rfl (fun w h => List.mem_cons_of_mem _ (iWC_X4 w h)) tyX4_ok nmX4 (by decide) rfl rfl (by decide +kernel) rfl rfl (C.1.2.2.2.2.1 _ (List.mem_cons_of_mem _ qC_174)) (fun h3 => ?_)
  exact x_vret C.1 dX4_rewind_17 hr
/-! X1_makeEmpty_37: 7 instructions -/
abbrev J_X1_makeEmpty_37 (G : xG) (p : Program) (l : Launch) (e : Env) (s : State) (m : MethodId) (args : Array Value) (below : List Frame) (meth : Method) (c : Code) : Nat → List (Nat × Value) → List Value → xHp → Option (Unit × xHp) → Prop := xJ G p l e ({ frames := 0, cells := 0, slots := 0, locals := 0 } : Room) s m args below meth c 1 (fun res => MQ below (xQv G res) args s 0 0 (xA G))
def F_X1_makeEmpty_37 (N : Nat) (h : xHp) : Option (Unit × xHp) := bnd (sI h 37 3 0) fun h1 => bnd (sI h1 37 6 0) fun h2 => some ((), h2)
set_option maxHeartbeats 4000000 in
set_option maxRecDepth 100000 in
theorem M_X1_makeEmpty_37 (G : xG) (l : Launch) (N : Nat) (h : xHp) : ∀ r, F_X1_makeEmpty_37 N h = some r → Met l yX1_makeEmpty vX1_makeEmpty ({ frames := 0, cells := 0, slots := 0, locals := 0 } : Room) (xPz G [.ref (xad G 37)] h) (xQv G r) 0 0 (xA G) := by
  refine z_met (own := RX1) (cc := cX1_makeEmpty) (maxL := 1) (ret := none) (lv0 := [(0, .ref (xad G 37))]) (by decide +kernel) rfl rfl (Nat.le_of_ble_eq_true rfl) rfl ?_
  intro p e s m below meth c C hr
  unfold F_X1_makeEmpty_37
  refine x_aload_n C.1 dX1_makeEmpty_0 rfl 0 rfl ?_
  refine x_iconst (v := 0) C.1 dX1_makeEmpty_1 (by decide) ?_
  refine x_putI (ty0 := tyX1) (ty := .int) C.1 3 dX1_makeEmpty_2 (xc_37 G h) rfl (Nat.le_of_ble_eq_true rfl) (by decide) rfl (fun w h => List.mem_cons_of_mem _ (iWC_X1 w h)) tyX1_ok nmX1 (by decide) rfl rfl (by decide +kernel) rfl rfl (C.1.2.2.2.2.1 _ (List.mem_cons_of_mem _ qC_104)) (fun h1 => ?_)
  refine x_aload_n C.1 dX1_makeEmpty_5 rfl 0 rfl ?_
  refine x_iconst (v := 0) C.1 dX1_makeEmpty_6 (by decide) ?_
  refine x_putI (ty0 := tyX1) (ty := .int) C.1 6 dX1_makeEmpty_7 (xc_37 G h1) rfl (Nat.le_of_ble_eq_true rfl) (by decide) rfl (fun w h => List.mem_cons_of_mem _ (iWC_X1 w h)) tyX1_ok nmX1 (by decide) rfl rfl (by decide +kernel) rfl rfl (C.1.2.2.2.2.1 _ (List.mem_cons_of_mem _ qC_27)) (fun h2 => ?_)
  exact x_vret C.1 dX1_makeEmpty_10 hr
/-! X3_begin: 19 instructions -/
abbrev J_X3_begin (G : xG) (p : Program) (l : Launch) (e : Env) (s : State) (m : MethodId) (args : Array Value) (below : List Frame) (meth : Method) (c : Code) : Nat → List (Nat × Value) → List Value → xHp → Option (Unit × xHp) → Prop := xJ G p l e ({ frames := 1, cells := 0, slots := 0, locals := 20 } : Room) s m args below meth c 1 (fun res => MQ below (xQv G res) args s 0 0 (xA G))
def F_X3_begin (N : Nat) (h : xHp) : Option (Unit × xHp) := bnd2 (F_X4_rewind N h) fun r1 h2 => bnd2 (F_X1_makeEmpty_37 N h2) fun r3 h4 => bnd (sI h4 44 3 0) fun h5 => bnd (sI h5 44 4 0) fun h6 => bnd (sI h6 44 5 0) fun h7 => bnd (sI h7 44 6 0) fun h8 => some ((), h8)
set_option maxHeartbeats 4000000 in
set_option maxRecDepth 100000 in
theorem M_X3_begin (G : xG) (l : Launch) (N : Nat) (h : xHp) : ∀ r, F_X3_begin N h = some r → Met l yX3_begin vX3_begin ({ frames := 1, cells := 0, slots := 0, locals := 20 } : Room) (xPz G [.ref (xad G 44)] h) (xQv G r) 0 0 (xA G) := by
  refine z_met (own := RX3) (cc := cX3_begin) (maxL := 1) (ret := none) (lv0 := [(0, .ref (xad G 44))]) (by decide +kernel) rfl rfl (Nat.le_of_ble_eq_true rfl) rfl ?_
  intro p e s m below meth c C hr
  unfold F_X3_begin
  refine x_aload_n C.1 dX3_begin_0 rfl 0 rfl ?_
  refine x_get (v := .ref (xad G 46)) C.1 0 dX3_begin_1 (xc_44 G h) rfl (by decide) rfl (fun w h => List.mem_cons_of_mem _ (iWC_X3 w h)) (by decide) rfl (C.1.2.2.2.2.1 _ (List.mem_cons_of_mem _ qC_176)) ?_
  refine z_callVv C dX3_begin_4 (M_X4_rewind G l N h) (cwV 0 C.1.2.2.2.2.1 (gdV gWC qC_182 qC_183 qC_184 qC_185 qC_171) rfl rfl rfl (by decide +kernel) ⟨Nat.le_of_ble_eq_true rfl, Nat.le_of_ble_eq_true rfl⟩) (xc_46 G h) (by decide) rfl rfl rfl (Nat.le_of_ble_eq_true rfl) (fun r1 h2 => ?_)
  refine x_aload_n C.1 dX3_begin_7 rfl 0 rfl ?_
  refine x_get (v := .ref (xad G 37)) C.1 1 dX3_begin_8 (xc_44 G h2) rfl (by decide) rfl (fun w h => List.mem_cons_of_mem _ (iWC_X3 w h)) (by decide) rfl (C.1.2.2.2.2.1 _ (List.mem_cons_of_mem _ qC_177)) ?_
  refine z_callVv C dX3_begin_11 (M_X1_makeEmpty_37 G l N h2) (cwV 0 C.1.2.2.2.2.1 (gdV gWC qC_186 qC_187 qC_188 qC_32 qC_103) rfl rfl rfl (by decide +kernel) ⟨Nat.le_of_ble_eq_true rfl, Nat.le_of_ble_eq_true rfl⟩) (xc_37 G h2) (by decide) rfl rfl rfl (Nat.le_of_ble_eq_true rfl) (fun r3 h4 => ?_)
  refine x_aload_n C.1 dX3_begin_14 rfl 0 rfl ?_
  refine x_iconst (v := 0) C.1 dX3_begin_15 (by decide) ?_
  refine x_putI (ty0 := tyX3) (ty := .int) C.1 3 dX3_begin_16 (xc_44 G h4) rfl (Nat.le_of_ble_eq_true rfl) (by decide) rfl (fun w h => List.mem_cons_of_mem _ (iWC_X3 w h)) tyX3_ok nmX3 (by decide) rfl rfl (by decide +kernel) rfl rfl (C.1.2.2.2.2.1 _ (List.mem_cons_of_mem _ qC_178)) (fun h5 => ?_)
  refine x_aload_n C.1 dX3_begin_19 rfl 0 rfl ?_
  refine x_iconst (v := 0) C.1 dX3_begin_20 (by decide) ?_
  refine x_putI (ty0 := tyX3) (ty := .int) C.1 4 dX3_begin_21 (xc_44 G h5) rfl (Nat.le_of_ble_eq_true rfl) (by decide) rfl (fun w h => List.mem_cons_of_mem _ (iWC_X3 w h)) tyX3_ok nmX3 (by decide) rfl rfl (by decide +kernel) rfl rfl (C.1.2.2.2.2.1 _ (List.mem_cons_of_mem _ qC_179)) (fun h6 => ?_)
  refine x_aload_n C.1 dX3_begin_24 rfl 0 rfl ?_
  refine x_iconst (v := 0) C.1 dX3_begin_25 (by decide) ?_
  refine x_putI (ty0 := tyX3) (ty := .int) C.1 5 dX3_begin_26 (xc_44 G h6) rfl (Nat.le_of_ble_eq_true rfl) (by decide) rfl (fun w h => List.mem_cons_of_mem _ (iWC_X3 w h)) tyX3_ok nmX3 (by decide) rfl rfl (by decide +kernel) rfl rfl (C.1.2.2.2.2.1 _ (List.mem_cons_of_mem _ qC_180)) (fun h7 => ?_)
  refine x_aload_n C.1 dX3_begin_29 rfl 0 rfl ?_
  refine x_iconst (v := 0) C.1 dX3_begin_30 (by decide) ?_
  refine x_putI (ty0 := tyX3) (ty := .int) C.1 6 dX3_begin_31 (xc_44 G h7) rfl (Nat.le_of_ble_eq_true rfl) (by decide) rfl (fun w h => List.mem_cons_of_mem _ (iWC_X3 w h)) tyX3_ok nmX3 (by decide) rfl rfl (by decide +kernel) rfl rfl (C.1.2.2.2.2.1 _ (List.mem_cons_of_mem _ qC_181)) (fun h8 => ?_)
  exact x_vret C.1 dX3_begin_34 hr
/-! X3_readFormula: 32 instructions -/
abbrev J_X3_readFormula (G : xG) (p : Program) (l : Launch) (e : Env) (s : State) (m : MethodId) (args : Array Value) (below : List Frame) (meth : Method) (c : Code) : Nat → List (Nat × Value) → List Value → xHp → Option (Int32 × xHp) → Prop := xJ G p l e ({ frames := 6, cells := 0, slots := 0, locals := 124 } : Room) s m args below meth c 3 (fun res => MQ below (xQi G res) args s 0 0 (xA G))
def F_X3_readFormula_6_b (N : Nat) (k6 : Int32 → xHp → Option (Int32 × xHp)) (x1 : Int32) (h : xHp) : Option (Int32 × xHp) := if 101 < x1 then some (5, h) else bnd2 (F_X4_next N h) fun r1 h2 => if (gI h2 46 3) = 261 then bnd2 (F_X3_finish N h2) fun r3 h4 => some (r3, h4) else bnd2 (F_X3_take N (gI h2 46 3) h2) fun r5 h6 => if r5 = 0 then k6 (x1 + 1) h6 else some (r5, h6)
def F_X3_readFormula_6 (N : Nat) (x1 : Int32) (h : xHp) : Option (Int32 × xHp) := xit (F_X3_readFormula_6_b N) (fun _ _ => none) N x1 h
def F_X3_readFormula (N : Nat) (h : xHp) : Option (Int32 × xHp) := bnd2 (F_X3_begin N h) fun r1 h2 => F_X3_readFormula_6 N 1 h2
set_option maxHeartbeats 4000000 in
set_option maxRecDepth 100000 in
theorem T_X3_readFormula_6_b {G : xG} {p : Program} {l : Launch} {e : Env} {s : State} {m : MethodId} {args : Array Value} {below : List Frame} {meth : Method} {c : Code} {N : Nat} (C : xCz G p s m args meth c cX3_readFormula 3 vX3_readFormula RX3) (hr : meth.sig.returnType = (some .int)) {k6 : Int32 → xHp → Option (Int32 × xHp)} (hk6 : ∀ (x1 : Int32) (h : xHp), J_X3_readFormula G p l e s m args below meth c 6 [(0, .ref (xad G 44)), (1, .int x1)] [] h (k6 x1 h)) (x1 : Int32) (h : xHp) : J_X3_readFormula G p l e s m args below meth c 6 [(0, .ref (xad G 44)), (1, .int x1)] [] h (F_X3_readFormula_6_b N k6 x1 h) := by
  unfold F_X3_readFormula_6_b
  refine x_iload_n C.1 dX3_readFormula_6 rfl 1 rfl ?_
  refine x_bipush (v := 101) C.1 dX3_readFormula_7 (by decide) ?_
  refine x_icmp_gt (tgt := 61) C.1 dX3_readFormula_9 (by decide) ?_ ?_
  · refine x_iconst (v := 5) C.1 dX3_readFormula_61 (by decide) ?_
    exact x_iret C.1 dX3_readFormula_62 hr
  · refine x_aload_n C.1 dX3_readFormula_12 rfl 0 rfl ?_
    refine x_get (v := .ref (xad G 46)) C.1 0 dX3_readFormula_13 (xc_44 G h) rfl (by decide) rfl (fun w h => List.mem_cons_of_mem _ (iWC_X3 w h)) (by decide) rfl (C.1.2.2.2.2.1 _ (List.mem_cons_of_mem _ qC_176)) ?_
    refine z_callVv C dX3_readFormula_16 (M_X4_next G l N h) (cwV 0 C.1.2.2.2.2.1 (gdV gWC qC_275 qC_276 qC_277 qC_185 qC_210) rfl rfl rfl (by decide +kernel) ⟨Nat.le_of_ble_eq_true rfl, Nat.le_of_ble_eq_true rfl⟩) (xc_46 G h) (by decide) rfl rfl rfl (Nat.le_of_ble_eq_true rfl) (fun r1 h2 => ?_)
    refine x_aload_n C.1 dX3_readFormula_19 rfl 0 rfl ?_
    refine x_get (v := .ref (xad G 46)) C.1 0 dX3_readFormula_20 (xc_44 G h2) rfl (by decide) rfl (fun w h => List.mem_cons_of_mem _ (iWC_X3 w h)) (by decide) rfl (C.1.2.2.2.2.1 _ (List.mem_cons_of_mem _ qC_176)) ?_
    refine x_get (v := .int (gI h2 46 3)) C.1 3 dX3_readFormula_23 (xc_46 G h2) rfl (by decide) rfl (fun w h => List.mem_cons_of_mem _ (iWC_X4 w h)) (by decide) rfl (C.1.2.2.2.2.1 _ (List.mem_cons_of_mem _ qC_271)) ?_
    refine x_sipush (v := 261) C.1 dX3_readFormula_26 (by decide) ?_
    refine x_icmp_ne (tgt := 37) C.1 dX3_readFormula_29 (by decide) ?_ ?_
    · refine x_aload_n C.1 dX3_readFormula_32 rfl 0 rfl ?_
      refine z_callVi C dX3_readFormula_33 (M_X3_finish G l N h2) (cwV 0 C.1.2.2.2.2.1 (gdV gWC qC_278 qC_279 qC_280 qC_217 qC_226) rfl rfl rfl (by decide +kernel) ⟨Nat.le_of_ble_eq_true rfl, Nat.le_of_ble_eq_true rfl⟩) (xc_44 G h2) (by decide) rfl rfl rfl (Nat.le_of_ble_eq_true rfl) (fun r3 h4 => ?_)
      exact x_iret C.1 dX3_readFormula_36 hr
    · refine x_aload_n C.1 dX3_readFormula_37 rfl 0 rfl ?_
      refine x_aload_n C.1 dX3_readFormula_38 rfl 0 rfl ?_
      refine x_get (v := .ref (xad G 46)) C.1 0 dX3_readFormula_39 (xc_44 G h2) rfl (by decide) rfl (fun w h => List.mem_cons_of_mem _ (iWC_X3 w h)) (by decide) rfl (C.1.2.2.2.2.1 _ (List.mem_cons_of_mem _ qC_176)) ?_
      refine x_get (v := .int (gI h2 46 3)) C.1 3 dX3_readFormula_42 (xc_46 G h2) rfl (by decide) rfl (fun w h => List.mem_cons_of_mem _ (iWC_X4 w h)) (by decide) rfl (C.1.2.2.2.2.1 _ (List.mem_cons_of_mem _ qC_271)) ?_
      refine z_callVi C dX3_readFormula_45 (M_X3_take G l N (gI h2 46 3) h2) (cwV 1 C.1.2.2.2.2.1 (gdV gWC qC_281 qC_282 qC_283 qC_217 qC_270) rfl rfl rfl (by decide +kernel) ⟨Nat.le_of_ble_eq_true rfl, Nat.le_of_ble_eq_true rfl⟩) (xc_44 G h2) (by decide) rfl rfl rfl (Nat.le_of_ble_eq_true rfl) (fun r5 h6 => ?_)
      refine x_istore_n (lv' := [(2, .int r5), (0, .ref (xad G 44)), (1, .int x1)]) C.1 dX3_readFormula_48 rfl (by decide) rfl ?_
      refine x_iload_n C.1 dX3_readFormula_49 rfl 0 rfl ?_
      refine x_if_eq (tgt := 55) C.1 dX3_readFormula_50 (by decide) ?_ ?_
      · refine x_iinc (v := (x1 + 1)) (j := 2) (lv' := [(1, .int (x1 + 1)), (2, .int r5), (0, .ref (xad G 44))]) C.1 dX3_readFormula_55 rfl (by rfl) (by decide) rfl ?_
        refine x_goto (tgt := 6) C.1 dX3_readFormula_58 (by decide) ?_
        exact x_sub [2, 0] rfl (hk6 (x1 + 1) h6)
      · refine x_iload_n C.1 dX3_readFormula_53 rfl 0 rfl ?_
        exact x_iret C.1 dX3_readFormula_54 hr
set_option maxHeartbeats 4000000 in
set_option maxRecDepth 100000 in
theorem T_X3_readFormula_6_n {G : xG} {p : Program} {l : Launch} {e : Env} {s : State} {m : MethodId} {args : Array Value} {below : List Frame} {meth : Method} {c : Code} {N : Nat} (C : xCz G p s m args meth c cX3_readFormula 3 vX3_readFormula RX3) (hr : meth.sig.returnType = (some .int)) : ∀ (n : Nat) (x1 : Int32) (h : xHp), J_X3_readFormula G p l e s m args below meth c 6 [(0, .ref (xad G 44)), (1, .int x1)] [] h (xit (F_X3_readFormula_6_b N) (fun _ _ => none) n x1 h) := by
  intro n
  induction n with
  | zero => intros; exact x_none
  | succ n ih => intros; exact T_X3_readFormula_6_b C hr ih _ _
set_option maxHeartbeats 4000000 in
set_option maxRecDepth 100000 in
theorem T_X3_readFormula_6 {G : xG} {p : Program} {l : Launch} {e : Env} {s : State} {m : MethodId} {args : Array Value} {below : List Frame} {meth : Method} {c : Code} {N : Nat} (C : xCz G p s m args meth c cX3_readFormula 3 vX3_readFormula RX3) (hr : meth.sig.returnType = (some .int)) (x1 : Int32) (h : xHp) : J_X3_readFormula G p l e s m args below meth c 6 [(0, .ref (xad G 44)), (1, .int x1)] [] h (F_X3_readFormula_6 N x1 h) := T_X3_readFormula_6_n C hr N x1 h
set_option maxHeartbeats 4000000 in
set_option maxRecDepth 100000 in
theorem M_X3_readFormula (G : xG) (l : Launch) (N : Nat) (h : xHp) : ∀ r, F_X3_readFormula N h = some r → Met l yX3_readFormula vX3_readFormula ({ frames := 6, cells := 0, slots := 0, locals := 124 } : Room) (xPz G [.ref (xad G 44)] h) (xQi G r) 0 0 (xA G) := by
  refine z_met (own := RX3) (cc := cX3_readFormula) (maxL := 3) (ret := (some .int)) (lv0 := [(0, .ref (xad G 44))]) (by decide +kernel) rfl rfl (Nat.le_of_ble_eq_true rfl) rfl ?_
  intro p e s m below meth c C hr
  unfold F_X3_readFormula
  refine x_aload_n C.1 dX3_readFormula_0 rfl 0 rfl ?_
  refine z_callVv C dX3_readFormula_1 (M_X3_begin G l N h) (cwV 0 C.1.2.2.2.2.1 (gdV gWC qC_272 qC_273 qC_274 qC_217 qC_175) rfl rfl rfl (by decide +kernel) ⟨Nat.le_of_ble_eq_true rfl, Nat.le_of_ble_eq_true rfl⟩) (xc_44 G h) (by decide) rfl rfl rfl (Nat.le_of_ble_eq_true rfl) (fun r1 h2 => ?_)
  refine x_iconst (v := 1) C.1 dX3_readFormula_4 (by decide) ?_
  refine x_istore_n (lv' := [(1, .int 1), (0, .ref (xad G 44))]) C.1 dX3_readFormula_5 rfl (by decide) rfl ?_
  exact x_sub [1, 0] rfl (T_X3_readFormula_6 C hr 1 h2)
/-! X1_copyFrom_30_37: 41 instructions -/
abbrev J_X1_copyFrom_30_37 (G : xG) (p : Program) (l : Launch) (e : Env) (s : State) (m : MethodId) (args : Array Value) (below : List Frame) (meth : Method) (c : Code) : Nat → List (Nat × Value) → List Value → xHp → Option (Unit × xHp) → Prop := xJ G p l e ({ frames := 1, cells := 0, slots := 0, locals := 80 } : Room) s m args below meth c 2 (fun res => MQ below (xQv G res) args s 0 0 (xA G))
def F_X1_copyFrom_30_37 (N : Nat) (h : xHp) : Option (Unit × xHp) := bnd (sI h 30 3 (gI h 37 3)) fun h1 => bnd (sI h1 30 6 (gI h1 37 6)) fun h2 => bnd (cI h2 38 31 (0 : Int32).toNatClampNeg (0 : Int32).toNatClampNeg (10 : Int32).toNatClampNeg) fun h3 => bnd (cI h3 39 32 (0 : Int32).toNatClampNeg (0 : Int32).toNatClampNeg (10 : Int32).toNatClampNeg) fun h4 => bnd (cI h4 40 33 (0 : Int32).toNatClampNeg (0 : Int32).toNatClampNeg (10 : Int32).toNatClampNeg) fun h5 => bnd (cI h5 42 35 (0 : Int32).toNatClampNeg (0 : Int32).toNatClampNeg (240 : Int32).toNatClampNeg) fun h6 => some ((), h6)
set_option maxHeartbeats 4000000 in
set_option maxRecDepth 100000 in
theorem M_X1_copyFrom_30_37 (G : xG) (l : Launch) (N : Nat) (h : xHp) : ∀ r, F_X1_copyFrom_30_37 N h = some r → Met l yX1_copyFrom vX1_copyFrom ({ frames := 1, cells := 0, slots := 0, locals := 80 } : Room) (xPz G [.ref (xad G 30), .ref (xad G 37)] h) (xQv G r) 0 0 (xA G) := by
  refine z_met (own := RX1) (cc := cX1_copyFrom) (maxL := 2) (ret := none) (lv0 := [(0, .ref (xad G 30)), (1, .ref (xad G 37))]) (by decide +kernel) rfl rfl (Nat.le_of_ble_eq_true rfl) rfl ?_
  intro p e s m below meth c C hr
  unfold F_X1_copyFrom_30_37
  refine x_aload_n C.1 dX1_copyFrom_0 rfl 0 rfl ?_
  refine x_aload_n C.1 dX1_copyFrom_1 rfl 1 rfl ?_
  refine x_get (v := .int (gI h 37 3)) C.1 3 dX1_copyFrom_2 (xc_37 G h) rfl (by decide) rfl (fun w h => List.mem_cons_of_mem _ (iWC_X1 w h)) (by decide) rfl (C.1.2.2.2.2.1 _ (List.mem_cons_of_mem _ qC_104)) ?_
  refine x_putI (ty0 := tyX1) (ty := .int) C.1 3 dX1_copyFrom_5 (xc_30 G h) rfl (Nat.le_of_ble_eq_true rfl) (by decide) rfl (fun w h => List.mem_cons_of_mem _ (iWC_X1 w h)) tyX1_ok nmX1 (by decide) rfl rfl (by decide +kernel) rfl rfl (C.1.2.2.2.2.1 _ (List.mem_cons_of_mem _ qC_104)) (fun h1 => ?_)
  refine x_aload_n C.1 dX1_copyFrom_8 rfl 0 rfl ?_
  refine x_aload_n C.1 dX1_copyFrom_9 rfl 1 rfl ?_
  refine x_get (v := .int (gI h1 37 6)) C.1 6 dX1_copyFrom_10 (xc_37 G h1) rfl (by decide) rfl (fun w h => List.mem_cons_of_mem _ (iWC_X1 w h)) (by decide) rfl (C.1.2.2.2.2.1 _ (List.mem_cons_of_mem _ qC_27)) ?_
  refine x_putI (ty0 := tyX1) (ty := .int) C.1 6 dX1_copyFrom_13 (xc_30 G h1) rfl (Nat.le_of_ble_eq_true rfl) (by decide) rfl (fun w h => List.mem_cons_of_mem _ (iWC_X1 w h)) tyX1_ok nmX1 (by decide) rfl rfl (by decide +kernel) rfl rfl (C.1.2.2.2.2.1 _ (List.mem_cons_of_mem _ qC_27)) (fun h2 => ?_)
  refine x_aload_n C.1 dX1_copyFrom_16 rfl 1 rfl ?_
  refine x_get (v := .ref (xad G 38)) C.1 0 dX1_copyFrom_17 (xc_37 G h2) rfl (by decide) rfl (fun w h => List.mem_cons_of_mem _ (iWC_X1 w h)) (by decide) rfl (C.1.2.2.2.2.1 _ (List.mem_cons_of_mem _ qC_58)) ?_
  refine x_iconst (v := 0) C.1 dX1_copyFrom_20 (by decide) ?_
  refine x_aload_n C.1 dX1_copyFrom_21 rfl 0 rfl ?_
  refine x_get (v := .ref (xad G 31)) C.1 0 dX1_copyFrom_22 (xc_30 G h2) rfl (by decide) rfl (fun w h => List.mem_cons_of_mem _ (iWC_X1 w h)) (by decide) rfl (C.1.2.2.2.2.1 _ (List.mem_cons_of_mem _ qC_58)) ?_
  refine x_iconst (v := 0) C.1 dX1_copyFrom_25 (by decide) ?_
  refine x_bipush (v := 10) C.1 dX1_copyFrom_26 (by decide) ?_
  refine x_copyi C.1 dX1_copyFrom_28 (C.1.2.2.2.2.1 _ (List.mem_cons_of_mem _ qC_106)) (C.1.2.2.2.2.1 _ (List.mem_cons_of_mem _ qC_107)) (C.1.2.2.2.2.1 _ (List.mem_cons_of_mem _ qC_108)) (C.1.2.2.2.2.1 _ (List.mem_cons_of_mem _ qC_109)) (fun g => xp_38 G g _ _) (fun g => xp_31 G g _ _) (by decide) (by decide) (by decide) (by decide) (by decide) (by decide) (by decide) (by decide) (by decide) (fun h3 => ?_)
  refine x_aload_n C.1 dX1_copyFrom_31 rfl 1 rfl ?_
  refine x_get (v := .ref (xad G 39)) C.1 1 dX1_copyFrom_32 (xc_37 G h3) rfl (by decide) rfl (fun w h => List.mem_cons_of_mem _ (iWC_X1 w h)) (by decide) rfl (C.1.2.2.2.2.1 _ (List.mem_cons_of_mem _ qC_59)) ?_
  refine x_iconst (v := 0) C.1 dX1_copyFrom_35 (by decide) ?_
  refine x_aload_n C.1 dX1_copyFrom_36 rfl 0 rfl ?_
  refine x_get (v := .ref (xad G 32)) C.1 1 dX1_copyFrom_37 (xc_30 G h3) rfl (by decide) rfl (fun w h => List.mem_cons_of_mem _ (iWC_X1 w h)) (by decide) rfl (C.1.2.2.2.2.1 _ (List.mem_cons_of_mem _ qC_59)) ?_
  refine x_iconst (v := 0) C.1 dX1_copyFrom_40 (by decide) ?_
  refine x_bipush (v := 10) C.1 dX1_copyFrom_41 (by decide) ?_
  refine x_copyi C.1 dX1_copyFrom_43 (C.1.2.2.2.2.1 _ (List.mem_cons_of_mem _ qC_106)) (C.1.2.2.2.2.1 _ (List.mem_cons_of_mem _ qC_107)) (C.1.2.2.2.2.1 _ (List.mem_cons_of_mem _ qC_108)) (C.1.2.2.2.2.1 _ (List.mem_cons_of_mem _ qC_109)) (fun g => xp_39 G g _ _) (fun g => xp_32 G g _ _) (by decide) (by decide) (by decide) (by decide) (by decide) (by decide) (by decide) (by decide) (by decide) (fun h4 => ?_)
  refine x_aload_n C.1 dX1_copyFrom_46 rfl 1 rfl ?_
  refine x_get (v := .ref (xad G 40)) C.1 2 dX1_copyFrom_47 (xc_37 G h4) rfl (by decide) rfl (fun w h => List.mem_cons_of_mem _ (iWC_X1 w h)) (by decide) rfl (C.1.2.2.2.2.1 _ (List.mem_cons_of_mem _ qC_62)) ?_
  refine x_iconst (v := 0) C.1 dX1_copyFrom_50 (by decide) ?_
  refine x_aload_n C.1 dX1_copyFrom_51 rfl 0 rfl ?_
  refine x_get (v := .ref (xad G 33)) C.1 2 dX1_copyFrom_52 (xc_30 G h4) rfl (by decide) rfl (fun w h => List.mem_cons_of_mem _ (iWC_X1 w h)) (by decide) rfl (C.1.2.2.2.2.1 _ (List.mem_cons_of_mem _ qC_62)) ?_
  refine x_iconst (v := 0) C.1 dX1_copyFrom_55 (by decide) ?_
  refine x_bipush (v := 10) C.1 dX1_copyFrom_56 (by decide) ?_
  refine x_copyi C.1 dX1_copyFrom_58 (C.1.2.2.2.2.1 _ (List.mem_cons_of_mem _ qC_106)) (C.1.2.2.2.2.1 _ (List.mem_cons_of_mem _ qC_107)) (C.1.2.2.2.2.1 _ (List.mem_cons_of_mem _ qC_108)) (C.1.2.2.2.2.1 _ (List.mem_cons_of_mem _ qC_109)) (fun g => xp_40 G g _ _) (fun g => xp_33 G g _ _) (by decide) (by decide) (by decide) (by decide) (by decide) (by decide) (by decide) (by decide) (by decide) (fun h5 => ?_)
  refine x_aload_n C.1 dX1_copyFrom_61 rfl 1 rfl ?_
  refine x_get (v := .ref (xad G 42)) C.1 5 dX1_copyFrom_62 (xc_37 G h5) rfl (by decide) rfl (fun w h => List.mem_cons_of_mem _ (iWC_X1 w h)) (by decide) rfl (C.1.2.2.2.2.1 _ (List.mem_cons_of_mem _ qC_28)) ?_
  refine x_iconst (v := 0) C.1 dX1_copyFrom_65 (by decide) ?_
  refine x_aload_n C.1 dX1_copyFrom_66 rfl 0 rfl ?_
  refine x_get (v := .ref (xad G 35)) C.1 5 dX1_copyFrom_67 (xc_30 G h5) rfl (by decide) rfl (fun w h => List.mem_cons_of_mem _ (iWC_X1 w h)) (by decide) rfl (C.1.2.2.2.2.1 _ (List.mem_cons_of_mem _ qC_28)) ?_
  refine x_iconst (v := 0) C.1 dX1_copyFrom_70 (by decide) ?_
  refine x_sipush (v := 240) C.1 dX1_copyFrom_71 (by decide) ?_
  refine x_copyi C.1 dX1_copyFrom_74 (C.1.2.2.2.2.1 _ (List.mem_cons_of_mem _ qC_106)) (C.1.2.2.2.2.1 _ (List.mem_cons_of_mem _ qC_107)) (C.1.2.2.2.2.1 _ (List.mem_cons_of_mem _ qC_108)) (C.1.2.2.2.2.1 _ (List.mem_cons_of_mem _ qC_109)) (fun g => xp_42 G g _ _) (fun g => xp_35 G g _ _) (by decide) (by decide) (by decide) (by decide) (by decide) (by decide) (by decide) (by decide) (by decide) (fun h6 => ?_)
  exact x_vret C.1 dX1_copyFrom_77 hr
/-! X8_read: 35 instructions -/
abbrev J_X8_read (G : xG) (p : Program) (l : Launch) (e : Env) (s : State) (m : MethodId) (args : Array Value) (below : List Frame) (meth : Method) (c : Code) : Nat → List (Nat × Value) → List Value → xHp → Option (Int32 × xHp) → Prop := xJ G p l e ({ frames := 7, cells := 0, slots := 0, locals := 146 } : Room) s m args below meth c 1 (fun res => MQ below (xQi G res) args s 0 0 (xA G))
def F_X8_read (N : Nat) (h : xHp) : Option (Int32 × xHp) := bnd2 (F_X3_readFormula N h) fun r1 h2 => bnd (sI h2 0 10 r1) fun h3 => bnd (sI h3 26 1 0) fun h4 => if (gI h4 0 10) = 0 then bnd2 (F_X1_copyFrom_30_37 N h4) fun r5 h6 => bnd (sI h6 0 9 1) fun h7 => bnd (sI h7 47 2 0) fun h8 => some ((gI h8 30 3), h8) else some (((-1) - (gI h4 46 2)), h4)
set_option maxHeartbeats 4000000 in
set_option maxRecDepth 100000 in
theorem M_X8_read (G : xG) (l : Launch) (N : Nat) (h : xHp) : ∀ r, F_X8_read N h = some r → Met l yX8_read vX8_read ({ frames := 7, cells := 0, slots := 0, locals := 146 } : Room) (xPz G [.ref (xad G 0)] h) (xQi G r) 0 0 (xA G) := by
  refine z_met (own := RX8) (cc := cX8_read) (maxL := 1) (ret := (some .int)) (lv0 := [(0, .ref (xad G 0))]) (by decide +kernel) rfl rfl (Nat.le_of_ble_eq_true rfl) rfl ?_
  intro p e s m below meth c C hr
  unfold F_X8_read
  refine x_aload_n C.1 dX8_read_0 rfl 0 rfl ?_
  refine x_aload_n C.1 dX8_read_1 rfl 0 rfl ?_
  refine x_get (v := .ref (xad G 44)) C.1 11 dX8_read_2 (xc_0 G h) rfl (by decide) rfl (fun w h => List.mem_cons_of_mem _ (iWC_X8 w h)) (by decide) rfl (C.1.2.2.2.2.1 _ (List.mem_cons_of_mem _ qC_414)) ?_
  refine z_callVi C dX8_read_5 (M_X3_readFormula G l N h) (cwV 0 C.1.2.2.2.2.1 (gdV gWC qC_422 qC_423 qC_424 qC_217 qC_284) rfl rfl rfl (by decide +kernel) ⟨Nat.le_of_ble_eq_true rfl, Nat.le_of_ble_eq_true rfl⟩) (xc_44 G h) (by decide) rfl rfl rfl (Nat.le_of_ble_eq_true rfl) (fun r1 h2 => ?_)
  refine x_putI (ty0 := tyX8) (ty := .int) C.1 10 dX8_read_8 (xc_0 G h2) rfl (Nat.le_of_ble_eq_true rfl) (by decide) rfl (fun w h => List.mem_cons_of_mem _ (iWC_X8 w h)) tyX8_ok nmX8 (by decide) rfl rfl (by decide +kernel) rfl rfl (C.1.2.2.2.2.1 _ (List.mem_cons_of_mem _ qC_415)) (fun h3 => ?_)
  refine x_aload_n C.1 dX8_read_11 rfl 0 rfl ?_
  refine x_get (v := .ref (xad G 26)) C.1 5 dX8_read_12 (xc_0 G h3) rfl (by decide) rfl (fun w h => List.mem_cons_of_mem _ (iWC_X8 w h)) (by decide) rfl (C.1.2.2.2.2.1 _ (List.mem_cons_of_mem _ qC_411)) ?_
  refine x_iconst (v := 0) C.1 dX8_read_15 (by decide) ?_
  refine x_putI (ty0 := tyX6) (ty := .int) C.1 1 dX8_read_16 (xc_26 G h3) rfl (Nat.le_of_ble_eq_true rfl) (by decide) rfl (fun w h => List.mem_cons_of_mem _ (iWC_X6 w h)) tyX6_ok nmX6 (by decide) rfl rfl (by decide +kernel) rfl rfl (C.1.2.2.2.2.1 _ (List.mem_cons_of_mem _ qC_412)) (fun h4 => ?_)
  refine x_aload_n C.1 dX8_read_19 rfl 0 rfl ?_
  refine x_get (v := .int (gI h4 0 10)) C.1 10 dX8_read_20 (xc_0 G h4) rfl (by decide) rfl (fun w h => List.mem_cons_of_mem _ (iWC_X8 w h)) (by decide) rfl (C.1.2.2.2.2.1 _ (List.mem_cons_of_mem _ qC_415)) ?_
  refine x_if_eq (tgt := 39) C.1 dX8_read_23 (by decide) ?_ ?_
  · refine x_aload_n C.1 dX8_read_39 rfl 0 rfl ?_
    refine x_get (v := .ref (xad G 30)) C.1 7 dX8_read_40 (xc_0 G h4) rfl (by decide) rfl (fun w h => List.mem_cons_of_mem _ (iWC_X8 w h)) (by decide) rfl (C.1.2.2.2.2.1 _ (List.mem_cons_of_mem _ qC_418)) ?_
    refine x_aload_n C.1 dX8_read_43 rfl 0 rfl ?_
    refine x_get (v := .ref (xad G 37)) C.1 8 dX8_read_44 (xc_0 G h4) rfl (by decide) rfl (fun w h => List.mem_cons_of_mem _ (iWC_X8 w h)) (by decide) rfl (C.1.2.2.2.2.1 _ (List.mem_cons_of_mem _ qC_419)) ?_
    refine z_callVv C dX8_read_47 (M_X1_copyFrom_30_37 G l N h4) (cwV 1 C.1.2.2.2.2.1 (gdV gWC qC_425 qC_426 qC_427 qC_32 qC_105) rfl rfl rfl (by decide +kernel) ⟨Nat.le_of_ble_eq_true rfl, Nat.le_of_ble_eq_true rfl⟩) (xc_30 G h4) (by decide) rfl rfl rfl (Nat.le_of_ble_eq_true rfl) (fun r5 h6 => ?_)
    refine x_aload_n C.1 dX8_read_50 rfl 0 rfl ?_
    refine x_iconst (v := 1) C.1 dX8_read_51 (by decide) ?_
    refine x_putI (ty0 := tyX8) (ty := .boolean) C.1 9 dX8_read_52 (xc_0 G h6) rfl (Nat.le_of_ble_eq_true rfl) (by decide) rfl (fun w h => List.mem_cons_of_mem _ (iWC_X8 w h)) tyX8_ok nmX8 (by decide) rfl rfl (by decide +kernel) rfl rfl (C.1.2.2.2.2.1 _ (List.mem_cons_of_mem _ qC_420)) (fun h7 => ?_)
    refine x_aload_n C.1 dX8_read_55 rfl 0 rfl ?_
    refine x_get (v := .ref (xad G 47)) C.1 12 dX8_read_56 (xc_0 G h7) rfl (by decide) rfl (fun w h => List.mem_cons_of_mem _ (iWC_X8 w h)) (by decide) rfl (C.1.2.2.2.2.1 _ (List.mem_cons_of_mem _ qC_373)) ?_
    refine x_iconst (v := 0) C.1 dX8_read_59 (by decide) ?_
    refine x_putI (ty0 := tyX5) (ty := .boolean) C.1 2 dX8_read_60 (xc_47 G h7) rfl (Nat.le_of_ble_eq_true rfl) (by decide) rfl (fun w h => List.mem_cons_of_mem _ (iWC_X5 w h)) tyX5_ok nmX5 (by decide) rfl rfl (by decide +kernel) rfl rfl (C.1.2.2.2.2.1 _ (List.mem_cons_of_mem _ qC_374)) (fun h8 => ?_)
    refine x_aload_n C.1 dX8_read_63 rfl 0 rfl ?_
    refine x_get (v := .ref (xad G 30)) C.1 7 dX8_read_64 (xc_0 G h8) rfl (by decide) rfl (fun w h => List.mem_cons_of_mem _ (iWC_X8 w h)) (by decide) rfl (C.1.2.2.2.2.1 _ (List.mem_cons_of_mem _ qC_418)) ?_
    refine x_get (v := .int (gI h8 30 3)) C.1 3 dX8_read_67 (xc_30 G h8) rfl (by decide) rfl (fun w h => List.mem_cons_of_mem _ (iWC_X1 w h)) (by decide) rfl (C.1.2.2.2.2.1 _ (List.mem_cons_of_mem _ qC_421)) ?_
    exact x_iret C.1 dX8_read_70 hr
  · refine x_iconst (v := (-1)) C.1 dX8_read_26 (by decide) ?_
    refine x_aload_n C.1 dX8_read_27 rfl 0 rfl ?_
    refine x_get (v := .ref (xad G 44)) C.1 11 dX8_read_28 (xc_0 G h4) rfl (by decide) rfl (fun w h => List.mem_cons_of_mem _ (iWC_X8 w h)) (by decide) rfl (C.1.2.2.2.2.1 _ (List.mem_cons_of_mem _ qC_414)) ?_
    refine x_get (v := .ref (xad G 46)) C.1 0 dX8_read_31 (xc_44 G h4) rfl (by decide) rfl (fun w h => List.mem_cons_of_mem _ (iWC_X3 w h)) (by decide) rfl (C.1.2.2.2.2.1 _ (List.mem_cons_of_mem _ qC_416)) ?_
    refine x_get (v := .int (gI h4 46 2)) C.1 2 dX8_read_34 (xc_46 G h4) rfl (by decide) rfl (fun w h => List.mem_cons_of_mem _ (iWC_X4 w h)) (by decide) rfl (C.1.2.2.2.2.1 _ (List.mem_cons_of_mem _ qC_417)) ?_
    refine x_isub C.1 dX8_read_37 ?_
    exact x_iret C.1 dX8_read_38 hr
/-! X8_fault: 3 instructions -/
abbrev J_X8_fault (G : xG) (p : Program) (l : Launch) (e : Env) (s : State) (m : MethodId) (args : Array Value) (below : List Frame) (meth : Method) (c : Code) : Nat → List (Nat × Value) → List Value → xHp → Option (Int32 × xHp) → Prop := xJ G p l e ({ frames := 0, cells := 0, slots := 0, locals := 0 } : Room) s m args below meth c 1 (fun res => MQ below (xQi G res) args s 0 0 (xA G))
def F_X8_fault (N : Nat) (h : xHp) : Option (Int32 × xHp) := some ((gI h 0 10), h)
set_option maxHeartbeats 4000000 in
set_option maxRecDepth 100000 in
theorem M_X8_fault (G : xG) (l : Launch) (N : Nat) (h : xHp) : ∀ r, F_X8_fault N h = some r → Met l yX8_fault vX8_fault ({ frames := 0, cells := 0, slots := 0, locals := 0 } : Room) (xPz G [.ref (xad G 0)] h) (xQi G r) 0 0 (xA G) := by
  refine z_met (own := RX8) (cc := cX8_fault) (maxL := 1) (ret := (some .int)) (lv0 := [(0, .ref (xad G 0))]) (by decide +kernel) rfl rfl (Nat.le_of_ble_eq_true rfl) rfl ?_
  intro p e s m below meth c C hr
  unfold F_X8_fault
  refine x_aload_n C.1 dX8_fault_0 rfl 0 rfl ?_
  refine x_get (v := .int (gI h 0 10)) C.1 10 dX8_fault_1 (xc_0 G h) rfl (by decide) rfl (fun w h => List.mem_cons_of_mem _ (iWC_X8 w h)) (by decide) rfl (C.1.2.2.2.2.1 _ (List.mem_cons_of_mem _ qC_415)) ?_
  exact x_iret C.1 dX8_fault_4 hr
/-! J7_fill_53178_34: 15 instructions -/
abbrev J_J7_fill_53178_34 (G : xG) (p : Program) (l : Launch) (e : Env) (s : State) (m : MethodId) (args : Array Value) (below : List Frame) (meth : Method) (c : Code) : Nat → List (Nat × Value) → List Value → xHp → Option (Unit × xHp) → Prop := xJ G p l e ({ frames := 0, cells := 0, slots := 0, locals := 0 } : Room) s m args below meth c 4 (fun res => MQ below (xQv G res) args s 0 0 (xA G))
def F_J7_fill_53178_34_5_b (N : Nat) (k5 : Int32 → Int32 → Int32 → xHp → Option (Unit × xHp)) (x1 : Int32) (x2 : Int32) (x3 : Int32) (h : xHp) : Option (Unit × xHp) := if x3 ≤ x2 then some ((), h) else grd (xin x2 10) (bnd (sI h 34 x2.toNatClampNeg x1) fun h1 => k5 x1 (x2 + 1) x3 h1)
def F_J7_fill_53178_34_5 (N : Nat) (x1 : Int32) (x2 : Int32) (x3 : Int32) (h : xHp) : Option (Unit × xHp) := xit (F_J7_fill_53178_34_5_b N) (fun _ _ _ _ => none) N x1 x2 x3 h
def F_J7_fill_53178_34 (N : Nat) (p1 : Int32) (h : xHp) : Option (Unit × xHp) := F_J7_fill_53178_34_5 N p1 0 10 h
set_option maxHeartbeats 4000000 in
set_option maxRecDepth 100000 in
theorem T_J7_fill_53178_34_5_b {G : xG} {p : Program} {l : Launch} {e : Env} {s : State} {m : MethodId} {args : Array Value} {below : List Frame} {meth : Method} {c : Code} {N : Nat} (C : xCz G p s m args meth c cJ7_fill_53178 4 vJ7_fill_53178 RJ7) (hr : meth.sig.returnType = none) {k5 : Int32 → Int32 → Int32 → xHp → Option (Unit × xHp)} (hk5 : ∀ (x1 : Int32) (x2 : Int32) (x3 : Int32) (h : xHp), J_J7_fill_53178_34 G p l e s m args below meth c 5 [(0, .ref (xad G 34)), (1, .int x1), (2, .int x2), (3, .int x3)] [] h (k5 x1 x2 x3 h)) (x1 : Int32) (x2 : Int32) (x3 : Int32) (h : xHp) : J_J7_fill_53178_34 G p l e s m args below meth c 5 [(0, .ref (xad G 34)), (1, .int x1), (2, .int x2), (3, .int x3)] [] h (F_J7_fill_53178_34_5_b N k5 x1 x2 x3 h) := by
  unfold F_J7_fill_53178_34_5_b
  refine x_iload_n C.1 dJ7_fill_53178_5 rfl 2 rfl ?_
  refine x_iload_n C.1 dJ7_fill_53178_6 rfl 3 rfl ?_
  refine x_icmp_ge (tgt := 20) C.1 dJ7_fill_53178_7 (by decide) ?_ ?_
  · exact x_vret C.1 dJ7_fill_53178_20 hr
  · refine x_aload_n C.1 dJ7_fill_53178_10 rfl 0 rfl ?_
    refine x_iload_n C.1 dJ7_fill_53178_11 rfl 2 rfl ?_
    refine x_iload_n C.1 dJ7_fill_53178_12 rfl 1 rfl ?_
    refine x_iast (n := 10) C.1 dJ7_fill_53178_13 (fun g => xp_34 G g _ _) (by decide) (fun h1 => ?_)
    refine x_iinc (v := (x2 + 1)) (j := 2) (lv' := [(2, .int (x2 + 1)), (0, .ref (xad G 34)), (1, .int x1), (3, .int x3)]) C.1 dJ7_fill_53178_14 rfl (by rfl) (by decide) rfl ?_
    refine x_goto (tgt := 5) C.1 dJ7_fill_53178_17 (by decide) ?_
    exact x_sub [1, 2, 0, 3] rfl (hk5 x1 (x2 + 1) x3 h1)
set_option maxHeartbeats 4000000 in
set_option maxRecDepth 100000 in
theorem T_J7_fill_53178_34_5_n {G : xG} {p : Program} {l : Launch} {e : Env} {s : State} {m : MethodId} {args : Array Value} {below : List Frame} {meth : Method} {c : Code} {N : Nat} (C : xCz G p s m args meth c cJ7_fill_53178 4 vJ7_fill_53178 RJ7) (hr : meth.sig.returnType = none) : ∀ (n : Nat) (x1 : Int32) (x2 : Int32) (x3 : Int32) (h : xHp), J_J7_fill_53178_34 G p l e s m args below meth c 5 [(0, .ref (xad G 34)), (1, .int x1), (2, .int x2), (3, .int x3)] [] h (xit (F_J7_fill_53178_34_5_b N) (fun _ _ _ _ => none) n x1 x2 x3 h) := by
  intro n
  induction n with
  | zero => intros; exact x_none
  | succ n ih => intros; exact T_J7_fill_53178_34_5_b C hr ih _ _ _ _
set_option maxHeartbeats 4000000 in
set_option maxRecDepth 100000 in
theorem T_J7_fill_53178_34_5 {G : xG} {p : Program} {l : Launch} {e : Env} {s : State} {m : MethodId} {args : Array Value} {below : List Frame} {meth : Method} {c : Code} {N : Nat} (C : xCz G p s m args meth c cJ7_fill_53178 4 vJ7_fill_53178 RJ7) (hr : meth.sig.returnType = none) (x1 : Int32) (x2 : Int32) (x3 : Int32) (h : xHp) : J_J7_fill_53178_34 G p l e s m args below meth c 5 [(0, .ref (xad G 34)), (1, .int x1), (2, .int x2), (3, .int x3)] [] h (F_J7_fill_53178_34_5 N x1 x2 x3 h) := T_J7_fill_53178_34_5_n C hr N x1 x2 x3 h
set_option maxHeartbeats 4000000 in
set_option maxRecDepth 100000 in
theorem M_J7_fill_53178_34 (G : xG) (l : Launch) (N : Nat) (p1 : Int32) (h : xHp) : ∀ r, F_J7_fill_53178_34 N p1 h = some r → Met l yJ7_fill_53178 vJ7_fill_53178 ({ frames := 0, cells := 0, slots := 0, locals := 0 } : Room) (xPz G [.ref (xad G 34), .int p1] h) (xQv G r) 0 0 (xA G) := by
  refine z_met (own := RJ7) (cc := cJ7_fill_53178) (maxL := 4) (ret := none) (lv0 := [(0, .ref (xad G 34)), (1, .int p1)]) (by decide +kernel) rfl rfl (Nat.le_of_ble_eq_true rfl) rfl ?_
  intro p e s m below meth c C hr
  unfold F_J7_fill_53178_34
  refine x_iconst (v := 0) C.1 dJ7_fill_53178_0 (by decide) ?_
  refine x_istore_n (lv' := [(2, .int 0), (0, .ref (xad G 34)), (1, .int p1)]) C.1 dJ7_fill_53178_1 rfl (by decide) rfl ?_
  refine x_aload_n C.1 dJ7_fill_53178_2 rfl 1 rfl ?_
  refine x_alen (v := 10) (t0 := 1) C.1 dJ7_fill_53178_3 (xc_34 G h) rfl rfl (by decide) ?_
  refine x_istore_n (lv' := [(3, .int 10), (2, .int 0), (0, .ref (xad G 34)), (1, .int p1)]) C.1 dJ7_fill_53178_4 rfl (by decide) rfl ?_
  exact x_sub [2, 3, 1, 0] rfl (T_J7_fill_53178_34_5 C hr p1 0 10 h)
/-! X1_giveNothing_30: 5 instructions -/
abbrev J_X1_giveNothing_30 (G : xG) (p : Program) (l : Launch) (e : Env) (s : State) (m : MethodId) (args : Array Value) (below : List Frame) (meth : Method) (c : Code) : Nat → List (Nat × Value) → List Value → xHp → Option (Unit × xHp) → Prop := xJ G p l e ({ frames := 1, cells := 0, slots := 0, locals := 23 } : Room) s m args below meth c 1 (fun res => MQ below (xQv G res) args s 0 0 (xA G))
def F_X1_giveNothing_30 (N : Nat) (h : xHp) : Option (Unit × xHp) := bnd2 (F_J7_fill_53178_34 N 1 h) fun r1 h2 => some ((), h2)
set_option maxHeartbeats 4000000 in
set_option maxRecDepth 100000 in
theorem M_X1_giveNothing_30 (G : xG) (l : Launch) (N : Nat) (h : xHp) : ∀ r, F_X1_giveNothing_30 N h = some r → Met l yX1_giveNothing vX1_giveNothing ({ frames := 1, cells := 0, slots := 0, locals := 23 } : Room) (xPz G [.ref (xad G 30)] h) (xQv G r) 0 0 (xA G) := by
  refine z_met (own := RX1) (cc := cX1_giveNothing) (maxL := 1) (ret := none) (lv0 := [(0, .ref (xad G 30))]) (by decide +kernel) rfl rfl (Nat.le_of_ble_eq_true rfl) rfl ?_
  intro p e s m below meth c C hr
  unfold F_X1_giveNothing_30
  refine x_aload_n C.1 dX1_giveNothing_0 rfl 0 rfl ?_
  refine x_get (v := .ref (xad G 34)) C.1 4 dX1_giveNothing_1 (xc_30 G h) rfl (by decide) rfl (fun w h => List.mem_cons_of_mem _ (iWC_X1 w h)) (by decide) rfl (C.1.2.2.2.2.1 _ (List.mem_cons_of_mem _ qC_3)) ?_
  refine x_iconst (v := 1) C.1 dX1_giveNothing_4 (by decide) ?_
  refine z_callSv C dX1_giveNothing_5 (M_J7_fill_53178_34 G l N 1 h) (va_cwS 2 C.1.2.2.2.2.1 (gdS gWC qC_4 qC_5 qC_6 qC_1) rfl rfl rfl (by decide +kernel) ⟨Nat.le_of_ble_eq_true rfl, Nat.le_of_ble_eq_true rfl⟩) rfl rfl (Nat.le_of_ble_eq_true rfl) (fun r1 h2 => ?_)
  exact x_vret C.1 dX1_giveNothing_8 hr
/-! X1_leafTruth_30: 17 instructions -/
abbrev J_X1_leafTruth_30 (G : xG) (p : Program) (l : Launch) (e : Env) (s : State) (m : MethodId) (args : Array Value) (below : List Frame) (meth : Method) (c : Code) : Nat → List (Nat × Value) → List Value → xHp → Option (Int32 × xHp) → Prop := xJ G p l e ({ frames := 0, cells := 0, slots := 0, locals := 0 } : Room) s m args below meth c 2 (fun res => MQ below (xQi G res) args s 0 0 (xA G))
def F_X1_leafTruth_30_27 (N : Nat) (h : xHp) : Option (Int32 × xHp) := some (2, h)
def F_X1_leafTruth_30 (N : Nat) (p1 : Int32) (h : xHp) : Option (Int32 × xHp) := if p1 = 10 then some (0, h) else if p1 < 0 then F_X1_leafTruth_30_27 N h else if 10 ≤ p1 then F_X1_leafTruth_30_27 N h else grd (xin p1 10) (some ((gI h 34 p1.toNatClampNeg), h))
set_option maxHeartbeats 4000000 in
set_option maxRecDepth 100000 in
theorem T_X1_leafTruth_30_27 {G : xG} {p : Program} {l : Launch} {e : Env} {s : State} {m : MethodId} {args : Array Value} {below : List Frame} {meth : Method} {c : Code} {N : Nat} (C : xCz G p s m args meth c cX1_leafTruth 2 vX1_leafTruth RX1) (hr : meth.sig.returnType = (some .int)) (h : xHp) : J_X1_leafTruth_30 G p l e s m args below meth c 27 [] [] h (F_X1_leafTruth_30_27 N h) := by
  unfold F_X1_leafTruth_30_27
  refine x_iconst (v := 2) C.1 dX1_leafTruth_27 (by decide) ?_
  exact x_iret C.1 dX1_leafTruth_28 hr
set_option maxHeartbeats 4000000 in
set_option maxRecDepth 100000 in
theorem M_X1_leafTruth_30 (G : xG) (l : Launch) (N : Nat) (p1 : Int32) (h : xHp) : ∀ r, F_X1_leafTruth_30 N p1 h = some r → Met l yX1_leafTruth vX1_leafTruth ({ frames := 0, cells := 0, slots := 0, locals := 0 } : Room) (xPz G [.ref (xad G 30), .int p1] h) (xQi G r) 0 0 (xA G) := by
  refine z_met (own := RX1) (cc := cX1_leafTruth) (maxL := 2) (ret := (some .int)) (lv0 := [(0, .ref (xad G 30)), (1, .int p1)]) (by decide +kernel) rfl rfl (Nat.le_of_ble_eq_true rfl) rfl ?_
  intro p e s m below meth c C hr
  unfold F_X1_leafTruth_30
  refine x_iload_n C.1 dX1_leafTruth_0 rfl 1 rfl ?_
  refine x_bipush (v := 10) C.1 dX1_leafTruth_1 (by decide) ?_
  refine x_icmp_ne (tgt := 8) C.1 dX1_leafTruth_3 (by decide) ?_ ?_
  · refine x_iconst (v := 0) C.1 dX1_leafTruth_6 (by decide) ?_
    exact x_iret C.1 dX1_leafTruth_7 hr
  · refine x_iload_n C.1 dX1_leafTruth_8 rfl 1 rfl ?_
    refine x_if_lt (tgt := 27) C.1 dX1_leafTruth_9 (by decide) ?_ ?_
    · exact x_sub [] rfl (T_X1_leafTruth_30_27 C hr h)
    · refine x_iload_n C.1 dX1_leafTruth_12 rfl 1 rfl ?_
      refine x_bipush (v := 10) C.1 dX1_leafTruth_13 (by decide) ?_
      refine x_icmp_ge (tgt := 27) C.1 dX1_leafTruth_15 (by decide) ?_ ?_
      · exact x_sub [] rfl (T_X1_leafTruth_30_27 C hr h)
      · refine x_aload_n C.1 dX1_leafTruth_18 rfl 0 rfl ?_
        refine x_get (v := .ref (xad G 34)) C.1 4 dX1_leafTruth_19 (xc_30 G h) rfl (by decide) rfl (fun w h => List.mem_cons_of_mem _ (iWC_X1 w h)) (by decide) rfl (C.1.2.2.2.2.1 _ (List.mem_cons_of_mem _ qC_3)) ?_
        refine x_iload_n C.1 dX1_leafTruth_22 rfl 1 rfl ?_
        refine x_iald (n := 10) C.1 dX1_leafTruth_23 (xc_34 G h) (by decide) ?_
        refine x_goto (tgt := 28) C.1 dX1_leafTruth_24 (by decide) ?_
        exact x_iret C.1 dX1_leafTruth_28 hr
/-! X1_judge_30: 87 instructions -/
abbrev J_X1_judge_30 (G : xG) (p : Program) (l : Launch) (e : Env) (s : State) (m : MethodId) (args : Array Value) (below : List Frame) (meth : Method) (c : Code) : Nat → List (Nat × Value) → List Value → xHp → Option (Int32 × xHp) → Prop := xJ G p l e ({ frames := 2, cells := 0, slots := 0, locals := 102 } : Room) s m args below meth c 4 (fun res => MQ below (xQi G res) args s 0 0 (xA G))
def F_X1_judge_30_118 (N : Nat) (k4 : Int32 → Int32 → xHp → Option (Int32 × xHp)) (x1 : Int32) (x2 : Int32) (h : xHp) : Option (Int32 × xHp) := k4 x1 (x2 + 1) h
def F_X1_judge_30_4_b (N : Nat) (k4 : Int32 → Int32 → xHp → Option (Int32 × xHp)) (x1 : Int32) (x2 : Int32) (h : xHp) : Option (Int32 × xHp) := if (gI h 30 6) ≤ x2 then if x1 ≤ 0 then some (1, h) else grd (xin (x1 - 1) 32) (some ((gI h 36 (x1 - 1).toNatClampNeg), h)) else grd (xin x2 240) (if (gI h 35 x2.toNatClampNeg) = 12 then if x1 ≤ 0 then F_X1_judge_30_118 N k4 x1 x2 h else grd (xin (x1 - 1) 32) (grd (xin (x1 - 1) 32) (bnd (sI h 36 (x1 - 1).toNatClampNeg (2 - (gI h 36 (x1 - 1).toNatClampNeg))) fun h1 => F_X1_judge_30_118 N k4 x1 x2 h1)) else if (gI h 35 x2.toNatClampNeg) < 13 then if 32 ≤ x1 then F_X1_judge_30_118 N k4 x1 x2 h else bnd2 (F_X1_leafTruth_30 N (gI h 35 x2.toNatClampNeg) h) fun r2 h3 => grd (xin x1 32) (bnd (sI h3 36 x1.toNatClampNeg r2) fun h4 => F_X1_judge_30_118 N k4 (x1 + 1) x2 h4) else if x1 ≤ 1 then F_X1_judge_30_118 N k4 x1 x2 h else grd (xin (x1 - 2) 32) (grd (xin (x1 - 1) 32) (bnd2 (F_X1_joined_ N (gI h 35 x2.toNatClampNeg) (gI h 36 (x1 - 2).toNatClampNeg) (gI h 36 (x1 - 1).toNatClampNeg) h) fun r5 h6 => grd (xin (x1 - 2) 32) (bnd (sI h6 36 (x1 - 2).toNatClampNeg r5) fun h7 => F_X1_judge_30_118 N k4 (x1 + (-1)) x2 h7))))
def F_X1_judge_30_4 (N : Nat) (x1 : Int32) (x2 : Int32) (h : xHp) : Option (Int32 × xHp) := xit (F_X1_judge_30_4_b N) (fun _ _ _ => none) N x1 x2 h
def F_X1_judge_30 (N : Nat) (h : xHp) : Option (Int32 × xHp) := F_X1_judge_30_4 N 0 0 h
set_option maxHeartbeats 4000000 in
set_option maxRecDepth 100000 in
theorem T_X1_judge_30_118 {G : xG} {p : Program} {l : Launch} {e : Env} {s : State} {m : MethodId} {args : Array Value} {below : List Frame} {meth : Method} {c : Code} {N : Nat} (C : xCz G p s m args meth c cX1_judge 4 vX1_judge RX1) (hr : meth.sig.returnType = (some .int)) {k4 : Int32 → Int32 → xHp → Option (Int32 × xHp)} (hk4 : ∀ (x1 : Int32) (x2 : Int32) (h : xHp), J_X1_judge_30 G p l e s m args below meth c 4 [(0, .ref (xad G 30)), (1, .int x1), (2, .int x2)] [] h (k4 x1 x2 h)) (x1 : Int32) (x2 : Int32) (h : xHp) : J_X1_judge_30 G p l e s m args below meth c 118 [(0, .ref (xad G 30)), (1, .int x1), (2, .int x2)] [] h (F_X1_judge_30_118 N k4 x1 x2 h) := by
  unfold F_X1_judge_30_118
  refine x_iinc (v := (x2 + 1)) (j := 2) (lv' := [(2, .int (x2 + 1)), (0, .ref (xad G 30)), (1, .int x1)]) C.1 dX1_judge_118 rfl (by rfl) (by decide) rfl ?_
  refine x_goto (tgt := 4) C.1 dX1_judge_121 (by decide) ?_
  exact x_sub [1, 2, 0] rfl (hk4 x1 (x2 + 1) h)
set_option maxHeartbeats 4000000 in
set_option maxRecDepth 100000 in
theorem T_X1_judge_30_4_b {G : xG} {p : Program} {l : Launch} {e : Env} {s : State} {m : MethodId} {args : Array Value} {below : List Frame} {meth : Method} {c : Code} {N : Nat} (C : xCz G p s m args meth c cX1_judge 4 vX1_judge RX1) (hr : meth.sig.returnType = (some .int)) {k4 : Int32 → Int32 → xHp → Option (Int32 × xHp)} (hk4 : ∀ (x1 : Int32) (x2 : Int32) (h : xHp), J_X1_judge_30 G p l e s m args below meth c 4 [(0, .ref (xad G 30)), (1, .int x1), (2, .int x2)] [] h (k4 x1 x2 h)) (x1 : Int32) (x2 : Int32) (h : xHp) : J_X1_judge_30 G p l e s m args below meth c 4 [(0, .ref (xad G 30)), (1, .int x1), (2, .int x2)] [] h (F_X1_judge_30_4_b N k4 x1 x2 h) := by
  unfold F_X1_judge_30_4_b
  refine x_iload_n C.1 dX1_judge_4 rfl 2 rfl ?_
  refine x_aload_n C.1 dX1_judge_5 rfl 0 rfl ?_
  refine x_get (v := .int (gI h 30 6)) C.1 6 dX1_judge_6 (xc_30 G h) rfl (by decide) rfl (fun w h => List.mem_cons_of_mem _ (iWC_X1 w h)) (by decide) rfl (C.1.2.2.2.2.1 _ (List.mem_cons_of_mem _ qC_27)) ?_
  refine x_icmp_ge (tgt := 124) C.1 dX1_judge_9 (by decide) ?_ ?_
  · refine x_iload_n C.1 dX1_judge_124 rfl 1 rfl ?_
    refine x_if_le (tgt := 139) C.1 dX1_judge_125 (by decide) ?_ ?_
    · refine x_iconst (v := 1) C.1 dX1_judge_139 (by decide) ?_
      exact x_iret C.1 dX1_judge_140 hr
    · refine x_aload_n C.1 dX1_judge_128 rfl 0 rfl ?_
      refine x_get (v := .ref (xad G 36)) C.1 7 dX1_judge_129 (xc_30 G h) rfl (by decide) rfl (fun w h => List.mem_cons_of_mem _ (iWC_X1 w h)) (by decide) rfl (C.1.2.2.2.2.1 _ (List.mem_cons_of_mem _ qC_29)) ?_
      refine x_iload_n C.1 dX1_judge_132 rfl 1 rfl ?_
      refine x_iconst (v := 1) C.1 dX1_judge_133 (by decide) ?_
      refine x_isub C.1 dX1_judge_134 ?_
      refine x_iald (n := 32) C.1 dX1_judge_135 (xc_36 G h) (by decide) ?_
      refine x_goto (tgt := 140) C.1 dX1_judge_136 (by decide) ?_
      exact x_iret C.1 dX1_judge_140 hr
  · refine x_aload_n C.1 dX1_judge_12 rfl 0 rfl ?_
    refine x_get (v := .ref (xad G 35)) C.1 5 dX1_judge_13 (xc_30 G h) rfl (by decide) rfl (fun w h => List.mem_cons_of_mem _ (iWC_X1 w h)) (by decide) rfl (C.1.2.2.2.2.1 _ (List.mem_cons_of_mem _ qC_28)) ?_
    refine x_iload_n C.1 dX1_judge_16 rfl 2 rfl ?_
    refine x_iald (n := 240) C.1 dX1_judge_17 (xc_35 G h) (by decide) ?_
    refine x_istore_n (lv' := [(3, .int (gI h 35 x2.toNatClampNeg)), (0, .ref (xad G 30)), (1, .int x1), (2, .int x2)]) C.1 dX1_judge_18 rfl (by decide) rfl ?_
    refine x_iload_n C.1 dX1_judge_19 rfl 0 rfl ?_
    refine x_bipush (v := 12) C.1 dX1_judge_20 (by decide) ?_
    refine x_icmp_ne (tgt := 50) C.1 dX1_judge_22 (by decide) ?_ ?_
    · refine x_iload_n C.1 dX1_judge_25 rfl 2 rfl ?_
      refine x_if_le (tgt := 118) C.1 dX1_judge_26 (by decide) ?_ ?_
      · exact x_sub [1, 2, 3] rfl (T_X1_judge_30_118 C hr hk4 x1 x2 h)
      · refine x_aload_n C.1 dX1_judge_29 rfl 1 rfl ?_
        refine x_get (v := .ref (xad G 36)) C.1 7 dX1_judge_30 (xc_30 G h) rfl (by decide) rfl (fun w h => List.mem_cons_of_mem _ (iWC_X1 w h)) (by decide) rfl (C.1.2.2.2.2.1 _ (List.mem_cons_of_mem _ qC_29)) ?_
        refine x_iload_n C.1 dX1_judge_33 rfl 2 rfl ?_
        refine x_iconst (v := 1) C.1 dX1_judge_34 (by decide) ?_
        refine x_isub C.1 dX1_judge_35 ?_
        refine x_iconst (v := 2) C.1 dX1_judge_36 (by decide) ?_
        refine x_aload_n C.1 dX1_judge_37 rfl 1 rfl ?_
        refine x_get (v := .ref (xad G 36)) C.1 7 dX1_judge_38 (xc_30 G h) rfl (by decide) rfl (fun w h => List.mem_cons_of_mem _ (iWC_X1 w h)) (by decide) rfl (C.1.2.2.2.2.1 _ (List.mem_cons_of_mem _ qC_29)) ?_
        refine x_iload_n C.1 dX1_judge_41 rfl 2 rfl ?_
        refine x_iconst (v := 1) C.1 dX1_judge_42 (by decide) ?_
        refine x_isub C.1 dX1_judge_43 ?_
        refine x_iald (n := 32) C.1 dX1_judge_44 (xc_36 G h) (by decide) ?_
        refine x_isub C.1 dX1_judge_45 ?_
        refine x_iast (n := 32) C.1 dX1_judge_46 (fun g => xp_36 G g _ _) (by decide) (fun h1 => ?_)
        refine x_goto (tgt := 118) C.1 dX1_judge_47 (by decide) ?_
        exact x_sub [1, 2, 3] rfl (T_X1_judge_30_118 C hr hk4 x1 x2 h1)
    · refine x_iload_n C.1 dX1_judge_50 rfl 0 rfl ?_
      refine x_bipush (v := 13) C.1 dX1_judge_51 (by decide) ?_
      refine x_icmp_lt (tgt := 95) C.1 dX1_judge_53 (by decide) ?_ ?_
      · refine x_iload_n C.1 dX1_judge_95 rfl 2 rfl ?_
        refine x_aload_n C.1 dX1_judge_96 rfl 1 rfl ?_
        refine x_get (v := .ref (xad G 36)) C.1 7 dX1_judge_97 (xc_30 G h) rfl (by decide) rfl (fun w h => List.mem_cons_of_mem _ (iWC_X1 w h)) (by decide) rfl (C.1.2.2.2.2.1 _ (List.mem_cons_of_mem _ qC_29)) ?_
        refine x_alen (v := 32) (t0 := 1) C.1 dX1_judge_100 (xc_36 G h) rfl rfl (by decide) ?_
        refine x_icmp_ge (tgt := 118) C.1 dX1_judge_101 (by decide) ?_ ?_
        · exact x_sub [1, 2, 3] rfl (T_X1_judge_30_118 C hr hk4 x1 x2 h)
        · refine x_aload_n C.1 dX1_judge_104 rfl 1 rfl ?_
          refine x_get (v := .ref (xad G 36)) C.1 7 dX1_judge_105 (xc_30 G h) rfl (by decide) rfl (fun w h => List.mem_cons_of_mem _ (iWC_X1 w h)) (by decide) rfl (C.1.2.2.2.2.1 _ (List.mem_cons_of_mem _ qC_29)) ?_
          refine x_iload_n C.1 dX1_judge_108 rfl 2 rfl ?_
          refine x_aload_n C.1 dX1_judge_109 rfl 1 rfl ?_
          refine x_iload_n C.1 dX1_judge_110 rfl 0 rfl ?_
          refine z_callVi C dX1_judge_111 (M_X1_leafTruth_30 G l N (gI h 35 x2.toNatClampNeg) h) (cwV 1 C.1.2.2.2.2.1 (gdV gWC qC_33 qC_34 qC_35 qC_32 qC_25) rfl rfl rfl (by decide +kernel) ⟨Nat.le_of_ble_eq_true rfl, Nat.le_of_ble_eq_true rfl⟩) (xc_30 G h) (by decide) rfl rfl rfl (Nat.le_of_ble_eq_true rfl) (fun r2 h3 => ?_)
          refine x_iast (n := 32) C.1 dX1_judge_114 (fun g => xp_36 G g _ _) (by decide) (fun h4 => ?_)
          refine x_iinc (v := (x1 + 1)) (j := 2) (lv' := [(1, .int (x1 + 1)), (3, .int (gI h 35 x2.toNatClampNeg)), (0, .ref (xad G 30)), (2, .int x2)]) C.1 dX1_judge_115 rfl (by rfl) (by decide) rfl ?_
          exact x_sub [2, 0, 3] rfl (T_X1_judge_30_118 C hr hk4 (x1 + 1) x2 h4)
      · refine x_iload_n C.1 dX1_judge_56 rfl 2 rfl ?_
        refine x_iconst (v := 1) C.1 dX1_judge_57 (by decide) ?_
        refine x_icmp_le (tgt := 118) C.1 dX1_judge_58 (by decide) ?_ ?_
        · exact x_sub [1, 2, 3] rfl (T_X1_judge_30_118 C hr hk4 x1 x2 h)
        · refine x_aload_n C.1 dX1_judge_61 rfl 1 rfl ?_
          refine x_get (v := .ref (xad G 36)) C.1 7 dX1_judge_62 (xc_30 G h) rfl (by decide) rfl (fun w h => List.mem_cons_of_mem _ (iWC_X1 w h)) (by decide) rfl (C.1.2.2.2.2.1 _ (List.mem_cons_of_mem _ qC_29)) ?_
          refine x_iload_n C.1 dX1_judge_65 rfl 2 rfl ?_
          refine x_iconst (v := 2) C.1 dX1_judge_66 (by decide) ?_
          refine x_isub C.1 dX1_judge_67 ?_
          refine x_iload_n C.1 dX1_judge_68 rfl 0 rfl ?_
          refine x_aload_n C.1 dX1_judge_69 rfl 1 rfl ?_
          refine x_get (v := .ref (xad G 36)) C.1 7 dX1_judge_70 (xc_30 G h) rfl (by decide) rfl (fun w h => List.mem_cons_of_mem _ (iWC_X1 w h)) (by decide) rfl (C.1.2.2.2.2.1 _ (List.mem_cons_of_mem _ qC_29)) ?_
          refine x_iload_n C.1 dX1_judge_73 rfl 2 rfl ?_
          refine x_iconst (v := 2) C.1 dX1_judge_74 (by decide) ?_
          refine x_isub C.1 dX1_judge_75 ?_
          refine x_iald (n := 32) C.1 dX1_judge_76 (xc_36 G h) (by decide) ?_
          refine x_aload_n C.1 dX1_judge_77 rfl 1 rfl ?_
          refine x_get (v := .ref (xad G 36)) C.1 7 dX1_judge_78 (xc_30 G h) rfl (by decide) rfl (fun w h => List.mem_cons_of_mem _ (iWC_X1 w h)) (by decide) rfl (C.1.2.2.2.2.1 _ (List.mem_cons_of_mem _ qC_29)) ?_
          refine x_iload_n C.1 dX1_judge_81 rfl 2 rfl ?_
          refine x_iconst (v := 1) C.1 dX1_judge_82 (by decide) ?_
          refine x_isub C.1 dX1_judge_83 ?_
          refine x_iald (n := 32) C.1 dX1_judge_84 (xc_36 G h) (by decide) ?_
          refine z_callSi C dX1_judge_85 (M_X1_joined_ G l N (gI h 35 x2.toNatClampNeg) (gI h 36 (x1 - 2).toNatClampNeg) (gI h 36 (x1 - 1).toNatClampNeg) h) (va_cwS 3 C.1.2.2.2.2.1 (gdS gWC qC_30 qC_31 qC_32 qC_17) rfl rfl rfl (by decide +kernel) ⟨Nat.le_of_ble_eq_true rfl, Nat.le_of_ble_eq_true rfl⟩) rfl rfl (Nat.le_of_ble_eq_true rfl) (fun r5 h6 => ?_)
          refine x_iast (n := 32) C.1 dX1_judge_88 (fun g => xp_36 G g _ _) (by decide) (fun h7 => ?_)
          refine x_iinc (v := (x1 + (-1))) (j := 2) (lv' := [(1, .int (x1 + (-1))), (3, .int (gI h 35 x2.toNatClampNeg)), (0, .ref (xad G 30)), (2, .int x2)]) C.1 dX1_judge_89 rfl (by rfl) (by decide) rfl ?_
          refine x_goto (tgt := 118) C.1 dX1_judge_92 (by decide) ?_
          exact x_sub [2, 0, 3] rfl (T_X1_judge_30_118 C hr hk4 (x1 + (-1)) x2 h7)
set_option maxHeartbeats 4000000 in
set_option maxRecDepth 100000 in
theorem T_X1_judge_30_4_n {G : xG} {p : Program} {l : Launch} {e : Env} {s : State} {m : MethodId} {args : Array Value} {below : List Frame} {meth : Method} {c : Code} {N : Nat} (C : xCz G p s m args meth c cX1_judge 4 vX1_judge RX1) (hr : meth.sig.returnType = (some .int)) : ∀ (n : Nat) (x1 : Int32) (x2 : Int32) (h : xHp), J_X1_judge_30 G p l e s m args below meth c 4 [(0, .ref (xad G 30)), (1, .int x1), (2, .int x2)] [] h (xit (F_X1_judge_30_4_b N) (fun _ _ _ => none) n x1 x2 h) := by
  intro n
  induction n with
  | zero => intros; exact x_none
  | succ n ih => intros; exact T_X1_judge_30_4_b C hr ih _ _ _
set_option maxHeartbeats 4000000 in
set_option maxRecDepth 100000 in
theorem T_X1_judge_30_4 {G : xG} {p : Program} {l : Launch} {e : Env} {s : State} {m : MethodId} {args : Array Value} {below : List Frame} {meth : Method} {c : Code} {N : Nat} (C : xCz G p s m args meth c cX1_judge 4 vX1_judge RX1) (hr : meth.sig.returnType = (some .int)) (x1 : Int32) (x2 : Int32) (h : xHp) : J_X1_judge_30 G p l e s m args below meth c 4 [(0, .ref (xad G 30)), (1, .int x1), (2, .int x2)] [] h (F_X1_judge_30_4 N x1 x2 h) := T_X1_judge_30_4_n C hr N x1 x2 h
set_option maxHeartbeats 4000000 in
set_option maxRecDepth 100000 in
theorem M_X1_judge_30 (G : xG) (l : Launch) (N : Nat) (h : xHp) : ∀ r, F_X1_judge_30 N h = some r → Met l yX1_judge vX1_judge ({ frames := 2, cells := 0, slots := 0, locals := 102 } : Room) (xPz G [.ref (xad G 30)] h) (xQi G r) 0 0 (xA G) := by
  refine z_met (own := RX1) (cc := cX1_judge) (maxL := 4) (ret := (some .int)) (lv0 := [(0, .ref (xad G 30))]) (by decide +kernel) rfl rfl (Nat.le_of_ble_eq_true rfl) rfl ?_
  intro p e s m below meth c C hr
  unfold F_X1_judge_30
  refine x_iconst (v := 0) C.1 dX1_judge_0 (by decide) ?_
  refine x_istore_n (lv' := [(1, .int 0), (0, .ref (xad G 30))]) C.1 dX1_judge_1 rfl (by decide) rfl ?_
  refine x_iconst (v := 0) C.1 dX1_judge_2 (by decide) ?_
  refine x_istore_n (lv' := [(2, .int 0), (1, .int 0), (0, .ref (xad G 30))]) C.1 dX1_judge_3 rfl (by decide) rfl ?_
  exact x_sub [2, 1, 0] rfl (T_X1_judge_30_4 C hr 0 0 h)
/-! X2_cutTo: 10 instructions -/
abbrev J_X2_cutTo (G : xG) (p : Program) (l : Launch) (e : Env) (s : State) (m : MethodId) (args : Array Value) (below : List Frame) (meth : Method) (c : Code) : Nat → List (Nat × Value) → List Value → xHp → Option (Unit × xHp) → Prop := xJ G p l e ({ frames := 0, cells := 0, slots := 0, locals := 0 } : Room) s m args below meth c 2 (fun res => MQ below (xQv G res) args s 0 0 (xA G))
def F_X2_cutTo (N : Nat) (p1 : Int32) (h : xHp) : Option (Unit × xHp) := if p1 < 0 then some ((), h) else if (gI h 1 3) ≤ p1 then some ((), h) else bnd (sI h 1 3 p1) fun h1 => some ((), h1)
set_option maxHeartbeats 4000000 in
set_option maxRecDepth 100000 in
theorem M_X2_cutTo (G : xG) (l : Launch) (N : Nat) (p1 : Int32) (h : xHp) : ∀ r, F_X2_cutTo N p1 h = some r → Met l yX2_cutTo vX2_cutTo ({ frames := 0, cells := 0, slots := 0, locals := 0 } : Room) (xPz G [.ref (xad G 1), .int p1] h) (xQv G r) 0 0 (xA G) := by
  refine z_met (own := RX2) (cc := cX2_cutTo) (maxL := 2) (ret := none) (lv0 := [(0, .ref (xad G 1)), (1, .int p1)]) (by decide +kernel) rfl rfl (Nat.le_of_ble_eq_true rfl) rfl ?_
  intro p e s m below meth c C hr
  unfold F_X2_cutTo
  refine x_iload_n C.1 dX2_cutTo_0 rfl 1 rfl ?_
  refine x_if_lt (tgt := 17) C.1 dX2_cutTo_1 (by decide) ?_ ?_
  · exact x_vret C.1 dX2_cutTo_17 hr
  · refine x_iload_n C.1 dX2_cutTo_4 rfl 1 rfl ?_
    refine x_aload_n C.1 dX2_cutTo_5 rfl 0 rfl ?_
    refine x_get (v := .int (gI h 1 3)) C.1 3 dX2_cutTo_6 (xc_1 G h) rfl (by decide) rfl (fun w h => List.mem_cons_of_mem _ (iWC_X2 w h)) (by decide) rfl (C.1.2.2.2.2.1 _ (List.mem_cons_of_mem _ qC_131)) ?_
    refine x_icmp_ge (tgt := 17) C.1 dX2_cutTo_9 (by decide) ?_ ?_
    · exact x_vret C.1 dX2_cutTo_17 hr
    · refine x_aload_n C.1 dX2_cutTo_12 rfl 0 rfl ?_
      refine x_iload_n C.1 dX2_cutTo_13 rfl 1 rfl ?_
      refine x_putI (ty0 := tyX2) (ty := .int) C.1 3 dX2_cutTo_14 (xc_1 G h) rfl (Nat.le_of_ble_eq_true rfl) (by decide) rfl (fun w h => List.mem_cons_of_mem _ (iWC_X2 w h)) tyX2_ok nmX2 (by decide) rfl rfl (by decide +kernel) rfl rfl (C.1.2.2.2.2.1 _ (List.mem_cons_of_mem _ qC_131)) (fun h1 => ?_)
      exact x_vret C.1 dX2_cutTo_17 hr
/-! X1_fromOf_30: 16 instructions -/
abbrev J_X1_fromOf_30 (G : xG) (p : Program) (l : Launch) (e : Env) (s : State) (m : MethodId) (args : Array Value) (below : List Frame) (meth : Method) (c : Code) : Nat → List (Nat × Value) → List Value → xHp → Option (Int32 × xHp) → Prop := xJ G p l e ({ frames := 0, cells := 0, slots := 0, locals := 0 } : Room) s m args below meth c 2 (fun res => MQ below (xQi G res) args s 0 0 (xA G))
def F_X1_fromOf_30 (N : Nat) (p1 : Int32) (h : xHp) : Option (Int32 × xHp) := grd (xin p1 10) (if (gI h 34 p1.toNatClampNeg) = 2 then grd (xin p1 10) (some ((gI h 31 p1.toNatClampNeg), h)) else grd (xin p1 10) (some ((gI h 32 p1.toNatClampNeg), h)))
set_option maxHeartbeats 4000000 in
set_option maxRecDepth 100000 in
theorem M_X1_fromOf_30 (G : xG) (l : Launch) (N : Nat) (p1 : Int32) (h : xHp) : ∀ r, F_X1_fromOf_30 N p1 h = some r → Met l yX1_fromOf vX1_fromOf ({ frames := 0, cells := 0, slots := 0, locals := 0 } : Room) (xPz G [.ref (xad G 30), .int p1] h) (xQi G r) 0 0 (xA G) := by
  refine z_met (own := RX1) (cc := cX1_fromOf) (maxL := 2) (ret := (some .int)) (lv0 := [(0, .ref (xad G 30)), (1, .int p1)]) (by decide +kernel) rfl rfl (Nat.le_of_ble_eq_true rfl) rfl ?_
  intro p e s m below meth c C hr
  unfold F_X1_fromOf_30
  refine x_aload_n C.1 dX1_fromOf_0 rfl 0 rfl ?_
  refine x_get (v := .ref (xad G 34)) C.1 4 dX1_fromOf_1 (xc_30 G h) rfl (by decide) rfl (fun w h => List.mem_cons_of_mem _ (iWC_X1 w h)) (by decide) rfl (C.1.2.2.2.2.1 _ (List.mem_cons_of_mem _ qC_3)) ?_
  refine x_iload_n C.1 dX1_fromOf_4 rfl 1 rfl ?_
  refine x_iald (n := 10) C.1 dX1_fromOf_5 (xc_34 G h) (by decide) ?_
  refine x_iconst (v := 2) C.1 dX1_fromOf_6 (by decide) ?_
  refine x_icmp_ne (tgt := 19) C.1 dX1_fromOf_7 (by decide) ?_ ?_
  · refine x_aload_n C.1 dX1_fromOf_10 rfl 0 rfl ?_
    refine x_get (v := .ref (xad G 31)) C.1 0 dX1_fromOf_11 (xc_30 G h) rfl (by decide) rfl (fun w h => List.mem_cons_of_mem _ (iWC_X1 w h)) (by decide) rfl (C.1.2.2.2.2.1 _ (List.mem_cons_of_mem _ qC_58)) ?_
    refine x_iload_n C.1 dX1_fromOf_14 rfl 1 rfl ?_
    refine x_iald (n := 10) C.1 dX1_fromOf_15 (xc_31 G h) (by decide) ?_
    refine x_goto (tgt := 25) C.1 dX1_fromOf_16 (by decide) ?_
    exact x_iret C.1 dX1_fromOf_25 hr
  · refine x_aload_n C.1 dX1_fromOf_19 rfl 0 rfl ?_
    refine x_get (v := .ref (xad G 32)) C.1 1 dX1_fromOf_20 (xc_30 G h) rfl (by decide) rfl (fun w h => List.mem_cons_of_mem _ (iWC_X1 w h)) (by decide) rfl (C.1.2.2.2.2.1 _ (List.mem_cons_of_mem _ qC_59)) ?_
    refine x_iload_n C.1 dX1_fromOf_23 rfl 1 rfl ?_
    refine x_iald (n := 10) C.1 dX1_fromOf_24 (xc_32 G h) (by decide) ?_
    exact x_iret C.1 dX1_fromOf_25 hr
/-! X1_toOf_30: 16 instructions -/
abbrev J_X1_toOf_30 (G : xG) (p : Program) (l : Launch) (e : Env) (s : State) (m : MethodId) (args : Array Value) (below : List Frame) (meth : Method) (c : Code) : Nat → List (Nat × Value) → List Value → xHp → Option (Int32 × xHp) → Prop := xJ G p l e ({ frames := 0, cells := 0, slots := 0, locals := 0 } : Room) s m args below meth c 2 (fun res => MQ below (xQi G res) args s 0 0 (xA G))
def F_X1_toOf_30 (N : Nat) (p1 : Int32) (h : xHp) : Option (Int32 × xHp) := grd (xin p1 10) (if (gI h 34 p1.toNatClampNeg) = 2 then grd (xin p1 10) (some ((gI h 32 p1.toNatClampNeg), h)) else grd (xin p1 10) (some ((gI h 31 p1.toNatClampNeg), h)))
set_option maxHeartbeats 4000000 in
set_option maxRecDepth 100000 in
theorem M_X1_toOf_30 (G : xG) (l : Launch) (N : Nat) (p1 : Int32) (h : xHp) : ∀ r, F_X1_toOf_30 N p1 h = some r → Met l yX1_toOf vX1_toOf ({ frames := 0, cells := 0, slots := 0, locals := 0 } : Room) (xPz G [.ref (xad G 30), .int p1] h) (xQi G r) 0 0 (xA G) := by
  refine z_met (own := RX1) (cc := cX1_toOf) (maxL := 2) (ret := (some .int)) (lv0 := [(0, .ref (xad G 30)), (1, .int p1)]) (by decide +kernel) rfl rfl (Nat.le_of_ble_eq_true rfl) rfl ?_
  intro p e s m below meth c C hr
  unfold F_X1_toOf_30
  refine x_aload_n C.1 dX1_toOf_0 rfl 0 rfl ?_
  refine x_get (v := .ref (xad G 34)) C.1 4 dX1_toOf_1 (xc_30 G h) rfl (by decide) rfl (fun w h => List.mem_cons_of_mem _ (iWC_X1 w h)) (by decide) rfl (C.1.2.2.2.2.1 _ (List.mem_cons_of_mem _ qC_3)) ?_
  refine x_iload_n C.1 dX1_toOf_4 rfl 1 rfl ?_
  refine x_iald (n := 10) C.1 dX1_toOf_5 (xc_34 G h) (by decide) ?_
  refine x_iconst (v := 2) C.1 dX1_toOf_6 (by decide) ?_
  refine x_icmp_ne (tgt := 19) C.1 dX1_toOf_7 (by decide) ?_ ?_
  · refine x_aload_n C.1 dX1_toOf_10 rfl 0 rfl ?_
    refine x_get (v := .ref (xad G 32)) C.1 1 dX1_toOf_11 (xc_30 G h) rfl (by decide) rfl (fun w h => List.mem_cons_of_mem _ (iWC_X1 w h)) (by decide) rfl (C.1.2.2.2.2.1 _ (List.mem_cons_of_mem _ qC_59)) ?_
    refine x_iload_n C.1 dX1_toOf_14 rfl 1 rfl ?_
    refine x_iald (n := 10) C.1 dX1_toOf_15 (xc_32 G h) (by decide) ?_
    refine x_goto (tgt := 25) C.1 dX1_toOf_16 (by decide) ?_
    exact x_iret C.1 dX1_toOf_25 hr
  · refine x_aload_n C.1 dX1_toOf_19 rfl 0 rfl ?_
    refine x_get (v := .ref (xad G 31)) C.1 0 dX1_toOf_20 (xc_30 G h) rfl (by decide) rfl (fun w h => List.mem_cons_of_mem _ (iWC_X1 w h)) (by decide) rfl (C.1.2.2.2.2.1 _ (List.mem_cons_of_mem _ qC_58)) ?_
    refine x_iload_n C.1 dX1_toOf_23 rfl 1 rfl ?_
    refine x_iald (n := 10) C.1 dX1_toOf_24 (xc_31 G h) (by decide) ?_
    exact x_iret C.1 dX1_toOf_25 hr
/-! X1_mostOf_30: 19 instructions -/
abbrev J_X1_mostOf_30 (G : xG) (p : Program) (l : Launch) (e : Env) (s : State) (m : MethodId) (args : Array Value) (below : List Frame) (meth : Method) (c : Code) : Nat → List (Nat × Value) → List Value → xHp → Option (Int32 × xHp) → Prop := xJ G p l e ({ frames := 0, cells := 0, slots := 0, locals := 0 } : Room) s m args below meth c 2 (fun res => MQ below (xQi G res) args s 0 0 (xA G))
def F_X1_mostOf_30 (N : Nat) (p1 : Int32) (h : xHp) : Option (Int32 × xHp) := grd (xin p1 10) (if (gI h 34 p1.toNatClampNeg) = 2 then grd (xin p1 10) (some ((gI h 33 p1.toNatClampNeg), h)) else grd (xin p1 10) (some (((-(gI h 33 p1.toNatClampNeg)) - 1), h)))
set_option maxHeartbeats 4000000 in
set_option maxRecDepth 100000 in
theorem M_X1_mostOf_30 (G : xG) (l : Launch) (N : Nat) (p1 : Int32) (h : xHp) : ∀ r, F_X1_mostOf_30 N p1 h = some r → Met l yX1_mostOf vX1_mostOf ({ frames := 0, cells := 0, slots := 0, locals := 0 } : Room) (xPz G [.ref (xad G 30), .int p1] h) (xQi G r) 0 0 (xA G) := by
  refine z_met (own := RX1) (cc := cX1_mostOf) (maxL := 2) (ret := (some .int)) (lv0 := [(0, .ref (xad G 30)), (1, .int p1)]) (by decide +kernel) rfl rfl (Nat.le_of_ble_eq_true rfl) rfl ?_
  intro p e s m below meth c C hr
  unfold F_X1_mostOf_30
  refine x_aload_n C.1 dX1_mostOf_0 rfl 0 rfl ?_
  refine x_get (v := .ref (xad G 34)) C.1 4 dX1_mostOf_1 (xc_30 G h) rfl (by decide) rfl (fun w h => List.mem_cons_of_mem _ (iWC_X1 w h)) (by decide) rfl (C.1.2.2.2.2.1 _ (List.mem_cons_of_mem _ qC_3)) ?_
  refine x_iload_n C.1 dX1_mostOf_4 rfl 1 rfl ?_
  refine x_iald (n := 10) C.1 dX1_mostOf_5 (xc_34 G h) (by decide) ?_
  refine x_iconst (v := 2) C.1 dX1_mostOf_6 (by decide) ?_
  refine x_icmp_ne (tgt := 19) C.1 dX1_mostOf_7 (by decide) ?_ ?_
  · refine x_aload_n C.1 dX1_mostOf_10 rfl 0 rfl ?_
    refine x_get (v := .ref (xad G 33)) C.1 2 dX1_mostOf_11 (xc_30 G h) rfl (by decide) rfl (fun w h => List.mem_cons_of_mem _ (iWC_X1 w h)) (by decide) rfl (C.1.2.2.2.2.1 _ (List.mem_cons_of_mem _ qC_62)) ?_
    refine x_iload_n C.1 dX1_mostOf_14 rfl 1 rfl ?_
    refine x_iald (n := 10) C.1 dX1_mostOf_15 (xc_33 G h) (by decide) ?_
    refine x_goto (tgt := 28) C.1 dX1_mostOf_16 (by decide) ?_
    exact x_iret C.1 dX1_mostOf_28 hr
  · refine x_aload_n C.1 dX1_mostOf_19 rfl 0 rfl ?_
    refine x_get (v := .ref (xad G 33)) C.1 2 dX1_mostOf_20 (xc_30 G h) rfl (by decide) rfl (fun w h => List.mem_cons_of_mem _ (iWC_X1 w h)) (by decide) rfl (C.1.2.2.2.2.1 _ (List.mem_cons_of_mem _ qC_62)) ?_
    refine x_iload_n C.1 dX1_mostOf_23 rfl 1 rfl ?_
    refine x_iald (n := 10) C.1 dX1_mostOf_24 (xc_33 G h) (by decide) ?_
    refine x_ineg C.1 dX1_mostOf_25 ?_
    refine x_iconst (v := 1) C.1 dX1_mostOf_26 (by decide) ?_
    refine x_isub C.1 dX1_mostOf_27 ?_
    exact x_iret C.1 dX1_mostOf_28 hr
/-! J7_fill_d0a16_8: 15 instructions -/
abbrev J_J7_fill_d0a16_8 (G : xG) (p : Program) (l : Launch) (e : Env) (s : State) (m : MethodId) (args : Array Value) (below : List Frame) (meth : Method) (c : Code) : Nat → List (Nat × Value) → List Value → xHp → Option (Unit × xHp) → Prop := xJ G p l e ({ frames := 0, cells := 0, slots := 0, locals := 0 } : Room) s m args below meth c 5 (fun res => MQ below (xQv G res) args s 0 0 (xA G))
def F_J7_fill_d0a16_8_6_b (N : Nat) (k6 : Int64 → Int32 → Int32 → xHp → Option (Unit × xHp)) (x1 : Int64) (x3 : Int32) (x4 : Int32) (h : xHp) : Option (Unit × xHp) := if x4 ≤ x3 then some ((), h) else grd (xin x3 16) (bnd (sJ h 8 x3.toNatClampNeg x1) fun h1 => k6 x1 (x3 + 1) x4 h1)
def F_J7_fill_d0a16_8_6 (N : Nat) (x1 : Int64) (x3 : Int32) (x4 : Int32) (h : xHp) : Option (Unit × xHp) := xit (F_J7_fill_d0a16_8_6_b N) (fun _ _ _ _ => none) N x1 x3 x4 h
def F_J7_fill_d0a16_8 (N : Nat) (p1 : Int64) (h : xHp) : Option (Unit × xHp) := F_J7_fill_d0a16_8_6 N p1 0 16 h
set_option maxHeartbeats 4000000 in
set_option maxRecDepth 100000 in
theorem T_J7_fill_d0a16_8_6_b {G : xG} {p : Program} {l : Launch} {e : Env} {s : State} {m : MethodId} {args : Array Value} {below : List Frame} {meth : Method} {c : Code} {N : Nat} (C : xCz G p s m args meth c cJ7_fill_d0a16 5 vJ7_fill_d0a16 RJ7) (hr : meth.sig.returnType = none) {k6 : Int64 → Int32 → Int32 → xHp → Option (Unit × xHp)} (hk6 : ∀ (x1 : Int64) (x3 : Int32) (x4 : Int32) (h : xHp), J_J7_fill_d0a16_8 G p l e s m args below meth c 6 [(0, .ref (xad G 8)), (1, .long x1), (3, .int x3), (4, .int x4)] [] h (k6 x1 x3 x4 h)) (x1 : Int64) (x3 : Int32) (x4 : Int32) (h : xHp) : J_J7_fill_d0a16_8 G p l e s m args below meth c 6 [(0, .ref (xad G 8)), (1, .long x1), (3, .int x3), (4, .int x4)] [] h (F_J7_fill_d0a16_8_6_b N k6 x1 x3 x4 h) := by
  unfold F_J7_fill_d0a16_8_6_b
  refine x_iload_n C.1 dJ7_fill_d0a16_6 rfl 2 rfl ?_
  refine x_iload C.1 dJ7_fill_d0a16_7 3 rfl ?_
  refine x_icmp_ge (tgt := 22) C.1 dJ7_fill_d0a16_9 (by decide) ?_ ?_
  · exact x_vret C.1 dJ7_fill_d0a16_22 hr
  · refine x_aload_n C.1 dJ7_fill_d0a16_12 rfl 0 rfl ?_
    refine x_iload_n C.1 dJ7_fill_d0a16_13 rfl 2 rfl ?_
    refine x_lload_n C.1 dJ7_fill_d0a16_14 rfl 1 rfl ?_
    refine x_last (n := 16) C.1 dJ7_fill_d0a16_15 (fun g => xp_8 G _ g _) (by decide) (fun h1 => ?_)
    refine x_iinc (v := (x3 + 1)) (j := 2) (lv' := [(3, .int (x3 + 1)), (0, .ref (xad G 8)), (1, .long x1), (4, .int x4)]) C.1 dJ7_fill_d0a16_16 rfl (by rfl) (by decide) rfl ?_
    refine x_goto (tgt := 6) C.1 dJ7_fill_d0a16_19 (by decide) ?_
    exact x_sub [1, 2, 0, 3] rfl (hk6 x1 (x3 + 1) x4 h1)
set_option maxHeartbeats 4000000 in
set_option maxRecDepth 100000 in
theorem T_J7_fill_d0a16_8_6_n {G : xG} {p : Program} {l : Launch} {e : Env} {s : State} {m : MethodId} {args : Array Value} {below : List Frame} {meth : Method} {c : Code} {N : Nat} (C : xCz G p s m args meth c cJ7_fill_d0a16 5 vJ7_fill_d0a16 RJ7) (hr : meth.sig.returnType = none) : ∀ (n : Nat) (x1 : Int64) (x3 : Int32) (x4 : Int32) (h : xHp), J_J7_fill_d0a16_8 G p l e s m args below meth c 6 [(0, .ref (xad G 8)), (1, .long x1), (3, .int x3), (4, .int x4)] [] h (xit (F_J7_fill_d0a16_8_6_b N) (fun _ _ _ _ => none) n x1 x3 x4 h) := by
  intro n
  induction n with
  | zero => intros; exact x_none
  | succ n ih => intros; exact T_J7_fill_d0a16_8_6_b C hr ih _ _ _ _
set_option maxHeartbeats 4000000 in
set_option maxRecDepth 100000 in
theorem T_J7_fill_d0a16_8_6 {G : xG} {p : Program} {l : Launch} {e : Env} {s : State} {m : MethodId} {args : Array Value} {below : List Frame} {meth : Method} {c : Code} {N : Nat} (C : xCz G p s m args meth c cJ7_fill_d0a16 5 vJ7_fill_d0a16 RJ7) (hr : meth.sig.returnType = none) (x1 : Int64) (x3 : Int32) (x4 : Int32) (h : xHp) : J_J7_fill_d0a16_8 G p l e s m args below meth c 6 [(0, .ref (xad G 8)), (1, .long x1), (3, .int x3), (4, .int x4)] [] h (F_J7_fill_d0a16_8_6 N x1 x3 x4 h) := T_J7_fill_d0a16_8_6_n C hr N x1 x3 x4 h
set_option maxHeartbeats 4000000 in
set_option maxRecDepth 100000 in
theorem M_J7_fill_d0a16_8 (G : xG) (l : Launch) (N : Nat) (p1 : Int64) (h : xHp) : ∀ r, F_J7_fill_d0a16_8 N p1 h = some r → Met l yJ7_fill_d0a16 vJ7_fill_d0a16 ({ frames := 0, cells := 0, slots := 0, locals := 0 } : Room) (xPz G [.ref (xad G 8), .long p1] h) (xQv G r) 0 0 (xA G) := by
  refine z_met (own := RJ7) (cc := cJ7_fill_d0a16) (maxL := 5) (ret := none) (lv0 := [(0, .ref (xad G 8)), (1, .long p1)]) (by decide +kernel) rfl rfl (Nat.le_of_ble_eq_true rfl) rfl ?_
  intro p e s m below meth c C hr
  unfold F_J7_fill_d0a16_8
  refine x_iconst (v := 0) C.1 dJ7_fill_d0a16_0 (by decide) ?_
  refine x_istore_n (lv' := [(3, .int 0), (0, .ref (xad G 8)), (1, .long p1)]) C.1 dJ7_fill_d0a16_1 rfl (by decide) rfl ?_
  refine x_aload_n C.1 dJ7_fill_d0a16_2 rfl 1 rfl ?_
  refine x_alen (v := 16) (t0 := 2) C.1 dJ7_fill_d0a16_3 (xc_8 G h) rfl rfl (by decide) ?_
  refine x_istore (lv' := [(4, .int 16), (3, .int 0), (0, .ref (xad G 8)), (1, .long p1)]) C.1 dJ7_fill_d0a16_4 (by decide) rfl ?_
  exact x_sub [2, 3, 1, 0] rfl (T_J7_fill_d0a16_8_6 C hr p1 0 16 h)
/-! X2_measure: 110 instructions -/
abbrev J_X2_measure (G : xG) (p : Program) (l : Launch) (e : Env) (s : State) (m : MethodId) (args : Array Value) (below : List Frame) (meth : Method) (c : Code) : Nat → List (Nat × Value) → List Value → xHp → Option (Unit × xHp) → Prop := xJ G p l e ({ frames := 1, cells := 0, slots := 0, locals := 80 } : Room) s m args below meth c 8 (fun res => MQ below (xQv G res) args s 0 0 (xA G))
def F_X2_measure_171 (N : Nat) (k31 : Int32 → Int32 → Int32 → xHp → Option (Unit × xHp)) (k70 : Int32 → Int32 → Int32 → Int32 → xHp → Option (Unit × xHp)) (x2 : Int32) (x3 : Int32) (x4 : Int32) (x5 : Int32) (h : xHp) : Option (Unit × xHp) := k70 x2 x3 x4 (x5 + 1) h
def F_X2_measure_70_b (N : Nat) (k31 : Int32 → Int32 → Int32 → xHp → Option (Unit × xHp)) (k70 : Int32 → Int32 → Int32 → Int32 → xHp → Option (Unit × xHp)) (x2 : Int32) (x3 : Int32) (x4 : Int32) (x5 : Int32) (h : xHp) : Option (Unit × xHp) := if (gI h 1 3) ≤ x5 then bnd (sI h 1 7 x4) fun h1 => k31 x2 x3 (x4 + 1) h1 else grd (xin (x4 - 1) 16) (grd (xin x5 70) (grd (xin (gI h 3 x5.toNatClampNeg) 16) (if x5 = x2 then F_X2_measure_171 N k31 k70 x2 x3 x4 x5 h else if (lg_cmp (gJ h (8 + (x4 - 1).toNatClampNeg) (gI h 3 x5.toNatClampNeg).toNatClampNeg) 9223372036854775807) = 0 then F_X2_measure_171 N k31 k70 x2 x3 x4 x5 h else grd (xin x5 70) (grd (xin x4 16) (grd (xin x5 70) (grd (xin (gI h 2 x5.toNatClampNeg) 16) (if 0 ≤ (lg_cmp (((gI h 4 x5.toNatClampNeg).toInt64) + (gJ h (8 + (x4 - 1).toNatClampNeg) (gI h 3 x5.toNatClampNeg).toNatClampNeg)) (gJ h (8 + x4.toNatClampNeg) (gI h 2 x5.toNatClampNeg).toNatClampNeg)) then F_X2_measure_171 N k31 k70 x2 x3 x4 x5 h else grd (xin x4 16) (grd (xin x5 70) (grd (xin x5 70) (grd (xin (gI h 2 x5.toNatClampNeg) 16) (bnd (sJ h (8 + x4.toNatClampNeg) (gI h 2 x5.toNatClampNeg).toNatClampNeg (((gI h 4 x5.toNatClampNeg).toInt64) + (gJ h (8 + (x4 - 1).toNatClampNeg) (gI h 3 x5.toNatClampNeg).toNatClampNeg))) fun h5 => F_X2_measure_171 N k31 k70 x2 1 x4 x5 h5)))))))))))
def F_X2_measure_70 (N : Nat) (k31 : Int32 → Int32 → Int32 → xHp → Option (Unit × xHp)) (x2 : Int32) (x3 : Int32) (x4 : Int32) (x5 : Int32) (h : xHp) : Option (Unit × xHp) := xit (F_X2_measure_70_b N k31) (fun _ _ _ _ _ => none) N x2 x3 x4 x5 h
def F_X2_measure_31_b (N : Nat) (k31 : Int32 → Int32 → Int32 → xHp → Option (Unit × xHp)) (x2 : Int32) (x3 : Int32) (x4 : Int32) (h : xHp) : Option (Unit × xHp) := if 16 ≤ x4 then some ((), h) else if x3 = 0 then some ((), h) else grd (xin (x4 - 1) 16) (grd (xin x4 16) (bnd (cJ h (8 + (x4 - 1).toNatClampNeg) (8 + x4.toNatClampNeg) (0 : Int32).toNatClampNeg (0 : Int32).toNatClampNeg (16 : Int32).toNatClampNeg) fun h3 => F_X2_measure_70 N k31 x2 0 x4 0 h3))
def F_X2_measure_31 (N : Nat) (x2 : Int32) (x3 : Int32) (x4 : Int32) (h : xHp) : Option (Unit × xHp) := xit (F_X2_measure_31_b N) (fun _ _ _ _ => none) N x2 x3 x4 h
def F_X2_measure (N : Nat) (p1 : Int32) (p2 : Int32) (h : xHp) : Option (Unit × xHp) := grd (xin 0 16) (bnd2 (F_J7_fill_d0a16_8 N 9223372036854775807 h) fun r2 h3 => grd (xin 0 16) (grd (xin p1 16) (bnd (sJ h3 8 p1.toNatClampNeg 0) fun h5 => bnd (sI h5 1 7 0) fun h6 => F_X2_measure_31 N p2 1 1 h6)))
set_option maxHeartbeats 4000000 in
set_option maxRecDepth 100000 in
theorem T_X2_measure_171 {G : xG} {p : Program} {l : Launch} {e : Env} {s : State} {m : MethodId} {args : Array Value} {below : List Frame} {meth : Method} {c : Code} {N : Nat} (C : xCz G p s m args meth c cX2_measure 8 vX2_measure RX2) (hr : meth.sig.returnType = none) {k31 : Int32 → Int32 → Int32 → xHp → Option (Unit × xHp)} (hk31 : ∀ (x2 : Int32) (x3 : Int32) (x4 : Int32) (h : xHp), J_X2_measure G p l e s m args below meth c 31 [(0, .ref (xad G 1)), (2, .int x2), (3, .int x3), (4, .int x4)] [] h (k31 x2 x3 x4 h)) {k70 : Int32 → Int32 → Int32 → Int32 → xHp → Option (Unit × xHp)} (hk70 : ∀ (x2 : Int32) (x3 : Int32) (x4 : Int32) (x5 : Int32) (h : xHp), J_X2_measure G p l e s m args below meth c 70 [(0, .ref (xad G 1)), (2, .int x2), (3, .int x3), (4, .int x4), (5, .int x5)] [] h (k70 x2 x3 x4 x5 h)) (x2 : Int32) (x3 : Int32) (x4 : Int32) (x5 : Int32) (h : xHp) : J_X2_measure G p l e s m args below meth c 171 [(0, .ref (xad G 1)), (2, .int x2), (3, .int x3), (4, .int x4), (5, .int x5)] [] h (F_X2_measure_171 N k31 k70 x2 x3 x4 x5 h) := by
  unfold F_X2_measure_171
  refine x_iinc (v := (x5 + 1)) (j := 4) (lv' := [(5, .int (x5 + 1)), (0, .ref (xad G 1)), (2, .int x2), (3, .int x3), (4, .int x4)]) C.1 dX2_measure_171 rfl (by rfl) (by decide) rfl ?_
  refine x_goto (tgt := 70) C.1 dX2_measure_174 (by decide) ?_
  exact x_sub [1, 2, 3, 4, 0] rfl (hk70 x2 x3 x4 (x5 + 1) h)
set_option maxHeartbeats 4000000 in
set_option maxRecDepth 100000 in
theorem T_X2_measure_70_b {G : xG} {p : Program} {l : Launch} {e : Env} {s : State} {m : MethodId} {args : Array Value} {below : List Frame} {meth : Method} {c : Code} {N : Nat} (C : xCz G p s m args meth c cX2_measure 8 vX2_measure RX2) (hr : meth.sig.returnType = none) {k31 : Int32 → Int32 → Int32 → xHp → Option (Unit × xHp)} (hk31 : ∀ (x2 : Int32) (x3 : Int32) (x4 : Int32) (h : xHp), J_X2_measure G p l e s m args below meth c 31 [(0, .ref (xad G 1)), (2, .int x2), (3, .int x3), (4, .int x4)] [] h (k31 x2 x3 x4 h)) {k70 : Int32 → Int32 → Int32 → Int32 → xHp → Option (Unit × xHp)} (hk70 : ∀ (x2 : Int32) (x3 : Int32) (x4 : Int32) (x5 : Int32) (h : xHp), J_X2_measure G p l e s m args below meth c 70 [(0, .ref (xad G 1)), (2, .int x2), (3, .int x3), (4, .int x4), (5, .int x5)] [] h (k70 x2 x3 x4 x5 h)) (x2 : Int32) (x3 : Int32) (x4 : Int32) (x5 : Int32) (h : xHp) : J_X2_measure G p l e s m args below meth c 70 [(0, .ref (xad G 1)), (2, .int x2), (3, .int x3), (4, .int x4), (5, .int x5)] [] h (F_X2_measure_70_b N k31 k70 x2 x3 x4 x5 h) := by
  unfold F_X2_measure_70_b
  refine x_iload C.1 dX2_measure_70 4 rfl ?_
  refine x_aload_n C.1 dX2_measure_72 rfl 0 rfl ?_
  refine x_get (v := .int (gI h 1 3)) C.1 3 dX2_measure_73 (xc_1 G h) rfl (by decide) rfl (fun w h => List.mem_cons_of_mem _ (iWC_X2 w h)) (by decide) rfl (C.1.2.2.2.2.1 _ (List.mem_cons_of_mem _ qC_131)) ?_
  refine x_icmp_ge (tgt := 177) C.1 dX2_measure_76 (by decide) ?_ ?_
  · refine x_aload_n C.1 dX2_measure_177 rfl 0 rfl ?_
    refine x_iload C.1 dX2_measure_178 3 rfl ?_
    refine x_putI (ty0 := tyX2) (ty := .int) C.1 7 dX2_measure_180 (xc_1 G h) rfl (Nat.le_of_ble_eq_true rfl) (by decide) rfl (fun w h => List.mem_cons_of_mem _ (iWC_X2 w h)) tyX2_ok nmX2 (by decide) rfl rfl (by decide +kernel) rfl rfl (C.1.2.2.2.2.1 _ (List.mem_cons_of_mem _ qC_129)) (fun h1 => ?_)
    refine x_iinc (v := (x4 + 1)) (j := 3) (lv' := [(4, .int (x4 + 1)), (0, .ref (xad G 1)), (2, .int x2), (3, .int x3), (5, .int x5)]) C.1 dX2_measure_183 rfl (by rfl) (by decide) rfl ?_
    refine x_goto (tgt := 31) C.1 dX2_measure_186 (by decide) ?_
    exact x_sub [1, 2, 3, 0] rfl (hk31 x2 x3 (x4 + 1) h1)
  · refine x_aload_n C.1 dX2_measure_79 rfl 0 rfl ?_
    refine x_get (v := .ref (xad G 6)) C.1 6 dX2_measure_80 (xc_1 G h) rfl (by decide) rfl (fun w h => List.mem_cons_of_mem _ (iWC_X2 w h)) (by decide) rfl (C.1.2.2.2.2.1 _ (List.mem_cons_of_mem _ qC_127)) ?_
    refine x_iload C.1 dX2_measure_83 3 rfl ?_
    refine x_iconst (v := 1) C.1 dX2_measure_85 (by decide) ?_
    refine x_isub C.1 dX2_measure_86 ?_
    refine x_aald (a := (8 + (x4 - 1).toNatClampNeg)) C.1 dX2_measure_87 rfl (fun hl2 => ?_)
    refine x_aload_n C.1 dX2_measure_88 rfl 0 rfl ?_
    refine x_get (v := .ref (xad G 3)) C.1 1 dX2_measure_89 (xc_1 G h) rfl (by decide) rfl (fun w h => List.mem_cons_of_mem _ (iWC_X2 w h)) (by decide) rfl (C.1.2.2.2.2.1 _ (List.mem_cons_of_mem _ qC_132)) ?_
    refine x_iload C.1 dX2_measure_92 4 rfl ?_
    refine x_iald (n := 70) C.1 dX2_measure_94 (xc_3 G h) (by decide) ?_
    refine x_lald (n := 16) C.1 dX2_measure_95 (xcell_row G (Nat.le_add_right 8 _) (Nat.add_lt_add_left hl2 8) _ _ _) (Nat.lt_of_lt_of_le (Nat.add_lt_add_left hl2 8) (by decide)) ?_
    refine x_lstore (lv' := [(6, .long (gJ h (8 + (x4 - 1).toNatClampNeg) (gI h 3 x5.toNatClampNeg).toNatClampNeg)), (0, .ref (xad G 1)), (2, .int x2), (3, .int x3), (4, .int x4), (5, .int x5)]) C.1 dX2_measure_96 (by decide) rfl ?_
    refine x_iload C.1 dX2_measure_98 5 rfl ?_
    refine x_iload_n C.1 dX2_measure_100 rfl 2 rfl ?_
    refine x_icmp_eq (tgt := 171) C.1 dX2_measure_101 (by decide) ?_ ?_
    · exact x_sub [1, 2, 3, 4, 5] rfl (T_X2_measure_171 C hr hk31 hk70 x2 x3 x4 x5 h)
    · refine x_lload C.1 dX2_measure_104 0 rfl ?_
      refine x_ldc2 (v := 9223372036854775807) C.1 dX2_measure_106 (C.1.2.2.2.2.1 _ (List.mem_cons_of_mem _ qC_128)) ?_
      refine x_lcmp C.1 dX2_measure_109 ?_
      refine x_if_eq (tgt := 171) C.1 dX2_measure_110 (by decide) ?_ ?_
      · exact x_sub [1, 2, 3, 4, 5] rfl (T_X2_measure_171 C hr hk31 hk70 x2 x3 x4 x5 h)
      · refine x_aload_n C.1 dX2_measure_113 rfl 1 rfl ?_
        refine x_get (v := .ref (xad G 4)) C.1 2 dX2_measure_114 (xc_1 G h) rfl (by decide) rfl (fun w h => List.mem_cons_of_mem _ (iWC_X2 w h)) (by decide) rfl (C.1.2.2.2.2.1 _ (List.mem_cons_of_mem _ qC_133)) ?_
        refine x_iload C.1 dX2_measure_117 5 rfl ?_
        refine x_iald (n := 70) C.1 dX2_measure_119 (xc_4 G h) (by decide) ?_
        refine x_i2l C.1 dX2_measure_120 ?_
        refine x_lload C.1 dX2_measure_121 0 rfl ?_
        refine x_ladd C.1 dX2_measure_123 ?_
        refine x_aload_n C.1 dX2_measure_124 rfl 1 rfl ?_
        refine x_get (v := .ref (xad G 6)) C.1 6 dX2_measure_125 (xc_1 G h) rfl (by decide) rfl (fun w h => List.mem_cons_of_mem _ (iWC_X2 w h)) (by decide) rfl (C.1.2.2.2.2.1 _ (List.mem_cons_of_mem _ qC_127)) ?_
        refine x_iload C.1 dX2_measure_128 4 rfl ?_
        refine x_aald (a := (8 + x4.toNatClampNeg)) C.1 dX2_measure_130 rfl (fun hl3 => ?_)
        refine x_aload_n C.1 dX2_measure_131 rfl 1 rfl ?_
        refine x_get (v := .ref (xad G 2)) C.1 0 dX2_measure_132 (xc_1 G h) rfl (by decide) rfl (fun w h => List.mem_cons_of_mem _ (iWC_X2 w h)) (by decide) rfl (C.1.2.2.2.2.1 _ (List.mem_cons_of_mem _ qC_134)) ?_
        refine x_iload C.1 dX2_measure_135 5 rfl ?_
        refine x_iald (n := 70) C.1 dX2_measure_137 (xc_2 G h) (by decide) ?_
        refine x_lald (n := 16) C.1 dX2_measure_138 (xcell_row G (Nat.le_add_right 8 _) (Nat.add_lt_add_left hl3 8) _ _ _) (Nat.lt_of_lt_of_le (Nat.add_lt_add_left hl3 8) (by decide)) ?_
        refine x_lcmp C.1 dX2_measure_139 ?_
        refine x_if_ge (tgt := 171) C.1 dX2_measure_140 (by decide) ?_ ?_
        · exact x_sub [1, 2, 3, 4, 5] rfl (T_X2_measure_171 C hr hk31 hk70 x2 x3 x4 x5 h)
        · refine x_aload_n C.1 dX2_measure_143 rfl 1 rfl ?_
          refine x_get (v := .ref (xad G 6)) C.1 6 dX2_measure_144 (xc_1 G h) rfl (by decide) rfl (fun w h => List.mem_cons_of_mem _ (iWC_X2 w h)) (by decide) rfl (C.1.2.2.2.2.1 _ (List.mem_cons_of_mem _ qC_127)) ?_
          refine x_iload C.1 dX2_measure_147 4 rfl ?_
          refine x_aald (a := (8 + x4.toNatClampNeg)) C.1 dX2_measure_149 rfl (fun hl4 => ?_)
          refine x_aload_n C.1 dX2_measure_150 rfl 1 rfl ?_
          refine x_get (v := .ref (xad G 2)) C.1 0 dX2_measure_151 (xc_1 G h) rfl (by decide) rfl (fun w h => List.mem_cons_of_mem _ (iWC_X2 w h)) (by decide) rfl (C.1.2.2.2.2.1 _ (List.mem_cons_of_mem _ qC_134)) ?_
          refine x_iload C.1 dX2_measure_154 5 rfl ?_
          refine x_iald (n := 70) C.1 dX2_measure_156 (xc_2 G h) (by decide) ?_
          refine x_aload_n C.1 dX2_measure_157 rfl 1 rfl ?_
          refine x_get (v := .ref (xad G 4)) C.1 2 dX2_measure_158 (xc_1 G h) rfl (by decide) rfl (fun w h => List.mem_cons_of_mem _ (iWC_X2 w h)) (by decide) rfl (C.1.2.2.2.2.1 _ (List.mem_cons_of_mem _ qC_133)) ?_
          refine x_iload C.1 dX2_measure_161 5 rfl ?_
          refine x_iald (n := 70) C.1 dX2_measure_163 (xc_4 G h) (by decide) ?_
          refine x_i2l C.1 dX2_measure_164 ?_
          refine x_lload C.1 dX2_measure_165 0 rfl ?_
          refine x_ladd C.1 dX2_measure_167 ?_
          refine x_last (n := 16) C.1 dX2_measure_168 (fun g => xcell_row G (Nat.le_add_right 8 _) (Nat.add_lt_add_left hl4 8) _ g _) (Nat.lt_of_lt_of_le (Nat.add_lt_add_left hl4 8) (by decide)) (fun h5 => ?_)
          refine x_iconst (v := 1) C.1 dX2_measure_169 (by decide) ?_
          refine x_istore_n (lv' := [(3, .int 1), (6, .long (gJ h (8 + (x4 - 1).toNatClampNeg) (gI h 3 x5.toNatClampNeg).toNatClampNeg)), (0, .ref (xad G 1)), (2, .int x2), (4, .int x4), (5, .int x5)]) C.1 dX2_measure_170 rfl (by decide) rfl ?_
          exact x_sub [2, 3, 0, 4, 5] rfl (T_X2_measure_171 C hr hk31 hk70 x2 1 x4 x5 h5)
set_option maxHeartbeats 4000000 in
set_option maxRecDepth 100000 in
theorem T_X2_measure_70_n {G : xG} {p : Program} {l : Launch} {e : Env} {s : State} {m : MethodId} {args : Array Value} {below : List Frame} {meth : Method} {c : Code} {N : Nat} (C : xCz G p s m args meth c cX2_measure 8 vX2_measure RX2) (hr : meth.sig.returnType = none) {k31 : Int32 → Int32 → Int32 → xHp → Option (Unit × xHp)} (hk31 : ∀ (x2 : Int32) (x3 : Int32) (x4 : Int32) (h : xHp), J_X2_measure G p l e s m args below meth c 31 [(0, .ref (xad G 1)), (2, .int x2), (3, .int x3), (4, .int x4)] [] h (k31 x2 x3 x4 h)) : ∀ (n : Nat) (x2 : Int32) (x3 : Int32) (x4 : Int32) (x5 : Int32) (h : xHp), J_X2_measure G p l e s m args below meth c 70 [(0, .ref (xad G 1)), (2, .int x2), (3, .int x3), (4, .int x4), (5, .int x5)] [] h (xit (F_X2_measure_70_b N k31) (fun _ _ _ _ _ => none) n x2 x3 x4 x5 h) := by
  intro n
  induction n with
  | zero => intros; exact x_none
  | succ n ih => intros; exact T_X2_measure_70_b C hr hk31 ih _ _ _ _ _
set_option maxHeartbeats 4000000 in
set_option maxRecDepth 100000 in
theorem T_X2_measure_70 {G : xG} {p : Program} {l : Launch} {e : Env} {s : State} {m : MethodId} {args : Array Value} {below : List Frame} {meth : Method} {c : Code} {N : Nat} (C : xCz G p s m args meth c cX2_measure 8 vX2_measure RX2) (hr : meth.sig.returnType = none) {k31 : Int32 → Int32 → Int32 → xHp → Option (Unit × xHp)} (hk31 : ∀ (x2 : Int32) (x3 : Int32) (x4 : Int32) (h : xHp), J_X2_measure G p l e s m args below meth c 31 [(0, .ref (xad G 1)), (2, .int x2), (3, .int x3), (4, .int x4)] [] h (k31 x2 x3 x4 h)) (x2 : Int32) (x3 : Int32) (x4 : Int32) (x5 : Int32) (h : xHp) : J_X2_measure G p l e s m args below meth c 70 [(0, .ref (xad G 1)), (2, .int x2), (3, .int x3), (4, .int x4), (5, .int x5)] [] h (F_X2_measure_70 N k31 x2 x3 x4 x5 h) := T_X2_measure_70_n C hr hk31 N x2 x3 x4 x5 h
set_option maxHeartbeats 4000000 in
set_option maxRecDepth 100000 in
theorem T_X2_measure_31_b {G : xG} {p : Program} {l : Launch} {e : Env} {s : State} {m : MethodId} {args : Array Value} {below : List Frame} {meth : Method} {c : Code} {N : Nat} (C : xCz G p s m args meth c cX2_measure 8 vX2_measure RX2) (hr : meth.sig.returnType = none) {k31 : Int32 → Int32 → Int32 → xHp → Option (Unit × xHp)} (hk31 : ∀ (x2 : Int32) (x3 : Int32) (x4 : Int32) (h : xHp), J_X2_measure G p l e s m args below meth c 31 [(0, .ref (xad G 1)), (2, .int x2), (3, .int x3), (4, .int x4)] [] h (k31 x2 x3 x4 h)) (x2 : Int32) (x3 : Int32) (x4 : Int32) (h : xHp) : J_X2_measure G p l e s m args below meth c 31 [(0, .ref (xad G 1)), (2, .int x2), (3, .int x3), (4, .int x4)] [] h (F_X2_measure_31_b N k31 x2 x3 x4 h) := by
  unfold F_X2_measure_31_b
  refine x_iload C.1 dX2_measure_31 3 rfl ?_
  refine x_bipush (v := 16) C.1 dX2_measure_33 (by decide) ?_
  refine x_icmp_ge (tgt := 189) C.1 dX2_measure_35 (by decide) ?_ ?_
  · exact x_vret C.1 dX2_measure_189 hr
  · refine x_iload_n C.1 dX2_measure_38 rfl 2 rfl ?_
    refine x_if_eq (tgt := 189) C.1 dX2_measure_39 (by decide) ?_ ?_
    · exact x_vret C.1 dX2_measure_189 hr
    · refine x_aload_n C.1 dX2_measure_42 rfl 0 rfl ?_
      refine x_get (v := .ref (xad G 6)) C.1 6 dX2_measure_43 (xc_1 G h) rfl (by decide) rfl (fun w h => List.mem_cons_of_mem _ (iWC_X2 w h)) (by decide) rfl (C.1.2.2.2.2.1 _ (List.mem_cons_of_mem _ qC_127)) ?_
      refine x_iload C.1 dX2_measure_46 3 rfl ?_
      refine x_iconst (v := 1) C.1 dX2_measure_48 (by decide) ?_
      refine x_isub C.1 dX2_measure_49 ?_
      refine x_aald (a := (8 + (x4 - 1).toNatClampNeg)) C.1 dX2_measure_50 rfl (fun hl1 => ?_)
      refine x_iconst (v := 0) C.1 dX2_measure_51 (by decide) ?_
      refine x_aload_n C.1 dX2_measure_52 rfl 0 rfl ?_
      refine x_get (v := .ref (xad G 6)) C.1 6 dX2_measure_53 (xc_1 G h) rfl (by decide) rfl (fun w h => List.mem_cons_of_mem _ (iWC_X2 w h)) (by decide) rfl (C.1.2.2.2.2.1 _ (List.mem_cons_of_mem _ qC_127)) ?_
      refine x_iload C.1 dX2_measure_56 3 rfl ?_
      refine x_aald (a := (8 + x4.toNatClampNeg)) C.1 dX2_measure_58 rfl (fun hl2 => ?_)
      refine x_iconst (v := 0) C.1 dX2_measure_59 (by decide) ?_
      refine x_bipush (v := 16) C.1 dX2_measure_60 (by decide) ?_
      refine x_copyl C.1 dX2_measure_62 (C.1.2.2.2.2.1 _ (List.mem_cons_of_mem _ qC_130)) (C.1.2.2.2.2.1 _ (List.mem_cons_of_mem _ qC_107)) (C.1.2.2.2.2.1 _ (List.mem_cons_of_mem _ qC_108)) (C.1.2.2.2.2.1 _ (List.mem_cons_of_mem _ qC_109)) (fun g => xcell_row G (Nat.le_add_right 8 _) (Nat.add_lt_add_left hl1 8) _ g _) (fun g => xcell_row G (Nat.le_add_right 8 _) (Nat.add_lt_add_left hl2 8) _ g _) (Nat.lt_of_lt_of_le (Nat.add_lt_add_left hl1 8) (by decide)) (Nat.lt_of_lt_of_le (Nat.add_lt_add_left hl2 8) (by decide)) (by decide) (by decide) (by decide) (by decide) (by decide) (by decide) (by decide) (fun h3 => ?_)
      refine x_iconst (v := 0) C.1 dX2_measure_65 (by decide) ?_
      refine x_istore_n (lv' := [(3, .int 0), (0, .ref (xad G 1)), (2, .int x2), (4, .int x4)]) C.1 dX2_measure_66 rfl (by decide) rfl ?_
      refine x_iconst (v := 0) C.1 dX2_measure_67 (by decide) ?_
      refine x_istore (lv' := [(5, .int 0), (3, .int 0), (0, .ref (xad G 1)), (2, .int x2), (4, .int x4)]) C.1 dX2_measure_68 (by decide) rfl ?_
      exact x_sub [2, 3, 1, 4, 0] rfl (T_X2_measure_70 C hr hk31 x2 0 x4 0 h3)
set_option maxHeartbeats 4000000 in
set_option maxRecDepth 100000 in
theorem T_X2_measure_31_n {G : xG} {p : Program} {l : Launch} {e : Env} {s : State} {m : MethodId} {args : Array Value} {below : List Frame} {meth : Method} {c : Code} {N : Nat} (C : xCz G p s m args meth c cX2_measure 8 vX2_measure RX2) (hr : meth.sig.returnType = none) : ∀ (n : Nat) (x2 : Int32) (x3 : Int32) (x4 : Int32) (h : xHp), J_X2_measure G p l e s m args below meth c 31 [(0, .ref (xad G 1)), (2, .int x2), (3, .int x3), (4, .int x4)] [] h (xit (F_X2_measure_31_b N) (fun _ _ _ _ => none) n x2 x3 x4 h) := by
  intro n
  induction n with
  | zero => intros; exact x_none
  | succ n ih => intros; exact T_X2_measure_31_b C hr ih _ _ _ _
set_option maxHeartbeats 4000000 in
set_option maxRecDepth 100000 in
theorem T_X2_measure_31 {G : xG} {p : Program} {l : Launch} {e : Env} {s : State} {m : MethodId} {args : Array Value} {below : List Frame} {meth : Method} {c : Code} {N : Nat} (C : xCz G p s m args meth c cX2_measure 8 vX2_measure RX2) (hr : meth.sig.returnType = none) (x2 : Int32) (x3 : Int32) (x4 : Int32) (h : xHp) : J_X2_measure G p l e s m args below meth c 31 [(0, .ref (xad G 1)), (2, .int x2), (3, .int x3), (4, .int x4)] [] h (F_X2_measure_31 N x2 x3 x4 h) := T_X2_measure_31_n C hr N x2 x3 x4 h
set_option maxHeartbeats 4000000 in
set_option maxRecDepth 100000 in
theorem M_X2_measure (G : xG) (l : Launch) (N : Nat) (p1 : Int32) (p2 : Int32) (h : xHp) : ∀ r, F_X2_measure N p1 p2 h = some r → Met l yX2_measure vX2_measure ({ frames := 1, cells := 0, slots := 0, locals := 80 } : Room) (xPz G [.ref (xad G 1), .int p1, .int p2] h) (xQv G r) 0 0 (xA G) := by
  refine z_met (own := RX2) (cc := cX2_measure) (maxL := 8) (ret := none) (lv0 := [(0, .ref (xad G 1)), (1, .int p1), (2, .int p2)]) (by decide +kernel) rfl rfl (Nat.le_of_ble_eq_true rfl) rfl ?_
  intro p e s m below meth c C hr
  unfold F_X2_measure
  refine x_aload_n C.1 dX2_measure_0 rfl 0 rfl ?_
  refine x_get (v := .ref (xad G 6)) C.1 6 dX2_measure_1 (xc_1 G h) rfl (by decide) rfl (fun w h => List.mem_cons_of_mem _ (iWC_X2 w h)) (by decide) rfl (C.1.2.2.2.2.1 _ (List.mem_cons_of_mem _ qC_127)) ?_
  refine x_iconst (v := 0) C.1 dX2_measure_4 (by decide) ?_
  refine x_aald (a := 8) C.1 dX2_measure_5 (by decide) (fun _ => ?_)
  refine x_ldc2 (v := 9223372036854775807) C.1 dX2_measure_6 (C.1.2.2.2.2.1 _ (List.mem_cons_of_mem _ qC_128)) ?_
  refine z_callSv C dX2_measure_9 (M_J7_fill_d0a16_8 G l N 9223372036854775807 h) (va_cwS 2 C.1.2.2.2.2.1 (gdS gWC qC_135 qC_136 qC_6 qC_125) rfl rfl rfl (by decide +kernel) ⟨Nat.le_of_ble_eq_true rfl, Nat.le_of_ble_eq_true rfl⟩) rfl rfl (Nat.le_of_ble_eq_true rfl) (fun r2 h3 => ?_)
  refine x_aload_n C.1 dX2_measure_12 rfl 0 rfl ?_
  refine x_get (v := .ref (xad G 6)) C.1 6 dX2_measure_13 (xc_1 G h3) rfl (by decide) rfl (fun w h => List.mem_cons_of_mem _ (iWC_X2 w h)) (by decide) rfl (C.1.2.2.2.2.1 _ (List.mem_cons_of_mem _ qC_127)) ?_
  refine x_iconst (v := 0) C.1 dX2_measure_16 (by decide) ?_
  refine x_aald (a := 8) C.1 dX2_measure_17 (by decide) (fun _ => ?_)
  refine x_iload_n C.1 dX2_measure_18 rfl 1 rfl ?_
  refine x_lconst (v := 0) C.1 dX2_measure_19 (by decide) ?_
  refine x_last (n := 16) C.1 dX2_measure_20 (fun g => xp_8 G _ g _) (by decide) (fun h5 => ?_)
  refine x_aload_n C.1 dX2_measure_21 rfl 0 rfl ?_
  refine x_iconst (v := 0) C.1 dX2_measure_22 (by decide) ?_
  refine x_putI (ty0 := tyX2) (ty := .int) C.1 7 dX2_measure_23 (xc_1 G h5) rfl (Nat.le_of_ble_eq_true rfl) (by decide) rfl (fun w h => List.mem_cons_of_mem _ (iWC_X2 w h)) tyX2_ok nmX2 (by decide) rfl rfl (by decide +kernel) rfl rfl (C.1.2.2.2.2.1 _ (List.mem_cons_of_mem _ qC_129)) (fun h6 => ?_)
  refine x_iconst (v := 1) C.1 dX2_measure_26 (by decide) ?_
  refine x_istore_n (lv' := [(3, .int 1), (0, .ref (xad G 1)), (1, .int p1), (2, .int p2)]) C.1 dX2_measure_27 rfl (by decide) rfl ?_
  refine x_iconst (v := 1) C.1 dX2_measure_28 (by decide) ?_
  refine x_istore (lv' := [(4, .int 1), (3, .int 1), (0, .ref (xad G 1)), (1, .int p1), (2, .int p2)]) C.1 dX2_measure_29 (by decide) rfl ?_
  exact x_sub [2, 4, 1, 0] rfl (T_X2_measure_31 C hr p2 1 1 h6)
