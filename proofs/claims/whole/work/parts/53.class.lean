/-! X6_at_28: 20 instructions -/
abbrev J_X6_at_28 (G : xG) (p : Program) (l : Launch) (e : Env) (s : State) (m : MethodId) (args : Array Value) (below : List Frame) (meth : Method) (c : Code) : Nat → List (Nat × Value) → List Value → xHp → Option (Int32 × xHp) → Prop := xJ G p l e ({ frames := 0, cells := 0, slots := 0, locals := 0 } : Room) s m args below meth c 2 (fun res => MQ below (xQi G res) args s 0 0 (xA G))
def F_X6_at_28_34 (N : Nat) (h : xHp) : Option (Int32 × xHp) := some ((-1), h)
def F_X6_at_28 (N : Nat) (p1 : Int32) (h : xHp) : Option (Int32 × xHp) := if p1 < 0 then F_X6_at_28_34 N h else if (gI h 28 1) ≤ p1 then F_X6_at_28_34 N h else if 6000 ≤ p1 then F_X6_at_28_34 N h else grd (xin p1 6000) (some (((gI h 29 p1.toNatClampNeg) &&& 255), h))
set_option maxHeartbeats 4000000 in
set_option maxRecDepth 100000 in
theorem T_X6_at_28_34 {G : xG} {p : Program} {l : Launch} {e : Env} {s : State} {m : MethodId} {args : Array Value} {below : List Frame} {meth : Method} {c : Code} {N : Nat} (C : xCz G p s m args meth c cX6_at 2 vX6_at RX6) (hr : meth.sig.returnType = (some .int)) (h : xHp) : J_X6_at_28 G p l e s m args below meth c 34 [] [] h (F_X6_at_28_34 N h) := by
  unfold F_X6_at_28_34
  refine x_iconst (v := (-1)) C.1 dX6_at_34 (by decide) ?_
  exact x_iret C.1 dX6_at_35 hr
set_option maxHeartbeats 4000000 in
set_option maxRecDepth 100000 in
theorem M_X6_at_28 (G : xG) (l : Launch) (N : Nat) (p1 : Int32) (h : xHp) : ∀ r, F_X6_at_28 N p1 h = some r → Met l yX6_at vX6_at ({ frames := 0, cells := 0, slots := 0, locals := 0 } : Room) (xPz G [.ref (xad G 28), .int p1] h) (xQi G r) 0 0 (xA G) := by
  refine z_met (own := RX6) (cc := cX6_at) (maxL := 2) (ret := (some .int)) (lv0 := [(0, .ref (xad G 28)), (1, .int p1)]) (by decide +kernel) rfl rfl (Nat.le_of_ble_eq_true rfl) rfl ?_
  intro p e s m below meth c C hr
  unfold F_X6_at_28
  refine x_iload_n C.1 dX6_at_0 rfl 1 rfl ?_
  refine x_if_lt (tgt := 34) C.1 dX6_at_1 (by decide) ?_ ?_
  · exact x_sub [] rfl (T_X6_at_28_34 C hr h)
  · refine x_iload_n C.1 dX6_at_4 rfl 1 rfl ?_
    refine x_aload_n C.1 dX6_at_5 rfl 0 rfl ?_
    refine x_get (v := .int (gI h 28 1)) C.1 1 dX6_at_6 (xc_28 G h) rfl (by decide) rfl (fun w h => List.mem_cons_of_mem _ (iWC_X6 w h)) (by decide) rfl (C.1.2.2.2.2.1 _ (List.mem_cons_of_mem _ qC_8)) ?_
    refine x_icmp_ge (tgt := 34) C.1 dX6_at_9 (by decide) ?_ ?_
    · exact x_sub [] rfl (T_X6_at_28_34 C hr h)
    · refine x_iload_n C.1 dX6_at_12 rfl 1 rfl ?_
      refine x_aload_n C.1 dX6_at_13 rfl 0 rfl ?_
      refine x_get (v := .ref (xad G 29)) C.1 0 dX6_at_14 (xc_28 G h) rfl (by decide) rfl (fun w h => List.mem_cons_of_mem _ (iWC_X6 w h)) (by decide) rfl (C.1.2.2.2.2.1 _ (List.mem_cons_of_mem _ qC_9)) ?_
      refine x_alen (v := 6000) (t0 := 0) C.1 dX6_at_17 (xc_29 G h) rfl rfl (by decide) ?_
      refine x_icmp_ge (tgt := 34) C.1 dX6_at_18 (by decide) ?_ ?_
      · exact x_sub [] rfl (T_X6_at_28_34 C hr h)
      · refine x_aload_n C.1 dX6_at_21 rfl 0 rfl ?_
        refine x_get (v := .ref (xad G 29)) C.1 0 dX6_at_22 (xc_28 G h) rfl (by decide) rfl (fun w h => List.mem_cons_of_mem _ (iWC_X6 w h)) (by decide) rfl (C.1.2.2.2.2.1 _ (List.mem_cons_of_mem _ qC_9)) ?_
        refine x_iload_n C.1 dX6_at_25 rfl 1 rfl ?_
        refine x_bald (n := 6000) C.1 dX6_at_26 (xc_29 G h) (by decide) ?_
        refine x_sipush (v := 255) C.1 dX6_at_27 (by decide) ?_
        refine x_iand C.1 dX6_at_30 ?_
        refine x_goto (tgt := 35) C.1 dX6_at_31 (by decide) ?_
        exact x_iret C.1 dX6_at_35 hr
/-! X0_pass_t28: 17 instructions -/
abbrev J_X0_pass_t28 (G : xG) (p : Program) (l : Launch) (e : Env) (s : State) (m : MethodId) (args : Array Value) (below : List Frame) (meth : Method) (c : Code) : Nat → List (Nat × Value) → List Value → xHp → Option (Int32 × xHp) → Prop := xJ G p l e ({ frames := 1, cells := 0, slots := 0, locals := 21 } : Room) s m args below meth c 2 (fun res => MQ below (xQi G res) args s 0 0 (xA G))
def F_X0_pass_t28 (N : Nat) (p1 : Int32) (h : xHp) : Option (Int32 × xHp) := grd (decide (h.2.2 = 28)) (bnd2 (F_X6_at_28 N (gI h 50 3) h) fun r1 h2 => if r1 = p1 then bnd (sI h2 50 3 ((gI h2 50 3) + 1)) fun h3 => some (1, h3) else some (0, h2))
set_option maxHeartbeats 4000000 in
set_option maxRecDepth 100000 in
theorem M_X0_pass_t28 (G : xG) (l : Launch) (N : Nat) (p1 : Int32) (h : xHp) : ∀ r, F_X0_pass_t28 N p1 h = some r → Met l yX0_pass vX0_pass ({ frames := 1, cells := 0, slots := 0, locals := 21 } : Room) (xPz G [.ref (xad G 50), .int p1] h) (xQi G r) 0 0 (xA G) := by
  refine z_met (own := RX0) (cc := cX0_pass) (maxL := 2) (ret := (some .boolean)) (lv0 := [(0, .ref (xad G 50)), (1, .int p1)]) (by decide +kernel) rfl rfl (Nat.le_of_ble_eq_true rfl) rfl ?_
  intro p e s m below meth c C hr
  unfold F_X0_pass_t28
  refine x_aload_n C.1 dX0_pass_0 rfl 0 rfl ?_
  refine x_getT (t := 28) C.1 2 dX0_pass_1 (xc_50 G h) rfl (by decide) rfl (fun w h => List.mem_cons_of_mem _ (iWC_X0 w h)) (by decide) rfl (C.1.2.2.2.2.1 _ (List.mem_cons_of_mem _ qC_11)) ?_
  refine x_aload_n C.1 dX0_pass_4 rfl 0 rfl ?_
  refine x_get (v := .int (gI h 50 3)) C.1 3 dX0_pass_5 (xc_50 G h) rfl (by decide) rfl (fun w h => List.mem_cons_of_mem _ (iWC_X0 w h)) (by decide) rfl (C.1.2.2.2.2.1 _ (List.mem_cons_of_mem _ qC_12)) ?_
  refine z_callVi C dX0_pass_8 (M_X6_at_28 G l N (gI h 50 3) h) (cwV 1 C.1.2.2.2.2.1 (gdV gWC qC_13 qC_14 qC_15 qC_16 qC_7) rfl rfl rfl (by decide +kernel) ⟨Nat.le_of_ble_eq_true rfl, Nat.le_of_ble_eq_true rfl⟩) (xc_28 G h) (by decide) rfl rfl rfl (Nat.le_of_ble_eq_true rfl) (fun r1 h2 => ?_)
  refine x_iload_n C.1 dX0_pass_11 rfl 1 rfl ?_
  refine x_icmp_eq (tgt := 17) C.1 dX0_pass_12 (by decide) ?_ ?_
  · refine x_aload_n C.1 dX0_pass_17 rfl 0 rfl ?_
    refine x_dup C.1 dX0_pass_18 rfl ?_
    refine x_get (v := .int (gI h2 50 3)) C.1 3 dX0_pass_19 (xc_50 G h2) rfl (by decide) rfl (fun w h => List.mem_cons_of_mem _ (iWC_X0 w h)) (by decide) rfl (C.1.2.2.2.2.1 _ (List.mem_cons_of_mem _ qC_12)) ?_
    refine x_iconst (v := 1) C.1 dX0_pass_22 (by decide) ?_
    refine x_iadd C.1 dX0_pass_23 ?_
    refine x_putI (ty0 := tyX0) (ty := .int) C.1 3 dX0_pass_24 (xc_50 G h2) rfl (Nat.le_of_ble_eq_true rfl) (by decide) rfl (fun w h => List.mem_cons_of_mem _ (iWC_X0 w h)) tyX0_ok nmX0 (by decide) rfl rfl (by decide +kernel) rfl rfl (C.1.2.2.2.2.1 _ (List.mem_cons_of_mem _ qC_12)) (fun h3 => ?_)
    refine x_iconst (v := 1) C.1 dX0_pass_27 (by decide) ?_
    exact x_zretL C.1 dX0_pass_28 hr rfl
  · refine x_iconst (v := 0) C.1 dX0_pass_15 (by decide) ?_
    exact x_zretL C.1 dX0_pass_16 hr rfl
/-! X0_leadOn_t28: 30 instructions -/
abbrev J_X0_leadOn_t28 (G : xG) (p : Program) (l : Launch) (e : Env) (s : State) (m : MethodId) (args : Array Value) (below : List Frame) (meth : Method) (c : Code) : Nat → List (Nat × Value) → List Value → xHp → Option (Int32 × xHp) → Prop := xJ G p l e ({ frames := 0, cells := 0, slots := 0, locals := 0 } : Room) s m args below meth c 4 (fun res => MQ below (xQi G res) args s 0 0 (xA G))
def F_X0_leadOn_t28_34 (N : Nat) (x2 : Int32) (x3 : Int32) (h : xHp) : Option (Int32 × xHp) := bnd (sI h 50 6 x2) fun h1 => bnd (sJ h1 50 7 ((gJ h1 50 7) + (x3.toInt64))) fun h2 => some (1, h2)
def F_X0_leadOn_t28_17 (N : Nat) (x1 : Int32) (x2 : Int32) (x3 : Int32) (h : xHp) : Option (Int32 × xHp) := if (gI h 50 4) = 0 then bnd (sI h 50 5 x1) fun h1 => bnd (sI h1 50 4 1) fun h2 => F_X0_leadOn_t28_34 N x2 x3 h2 else F_X0_leadOn_t28_34 N x2 x3 h
def F_X0_leadOn_t28 (N : Nat) (p1 : Int32) (p2 : Int32) (p3 : Int32) (h : xHp) : Option (Int32 × xHp) := if (gI h 50 4) = 0 then F_X0_leadOn_t28_17 N p1 p2 p3 h else if p1 = (gI h 50 6) then F_X0_leadOn_t28_17 N p1 p2 p3 h else some (0, h)
set_option maxHeartbeats 4000000 in
set_option maxRecDepth 100000 in
theorem T_X0_leadOn_t28_34 {G : xG} {p : Program} {l : Launch} {e : Env} {s : State} {m : MethodId} {args : Array Value} {below : List Frame} {meth : Method} {c : Code} {N : Nat} (C : xCz G p s m args meth c cX0_leadOn 4 vX0_leadOn RX0) (hr : meth.sig.returnType = (some .boolean)) (x2 : Int32) (x3 : Int32) (h : xHp) : J_X0_leadOn_t28 G p l e s m args below meth c 34 [(0, .ref (xad G 50)), (2, .int x2), (3, .int x3)] [] h (F_X0_leadOn_t28_34 N x2 x3 h) := by
  unfold F_X0_leadOn_t28_34
  refine x_aload_n C.1 dX0_leadOn_34 rfl 0 rfl ?_
  refine x_iload_n C.1 dX0_leadOn_35 rfl 1 rfl ?_
  refine x_putI (ty0 := tyX0) (ty := .int) C.1 6 dX0_leadOn_36 (xc_50 G h) rfl (Nat.le_of_ble_eq_true rfl) (by decide) rfl (fun w h => List.mem_cons_of_mem _ (iWC_X0 w h)) tyX0_ok nmX0 (by decide) rfl rfl (by decide +kernel) rfl rfl (C.1.2.2.2.2.1 _ (List.mem_cons_of_mem _ qC_39)) (fun h1 => ?_)
  refine x_aload_n C.1 dX0_leadOn_39 rfl 0 rfl ?_
  refine x_dup C.1 dX0_leadOn_40 rfl ?_
  refine x_get (v := .long (gJ h1 50 7)) C.1 7 dX0_leadOn_41 (xc_50 G h1) rfl (by decide) rfl (fun w h => List.mem_cons_of_mem _ (iWC_X0 w h)) (by decide) rfl (C.1.2.2.2.2.1 _ (List.mem_cons_of_mem _ qC_41)) ?_
  refine x_iload_n C.1 dX0_leadOn_44 rfl 2 rfl ?_
  refine x_i2l C.1 dX0_leadOn_45 ?_
  refine x_ladd C.1 dX0_leadOn_46 ?_
  refine x_putJ (ty0 := tyX0) (ty := .long) C.1 7 dX0_leadOn_47 (xc_50 G h1) rfl (Nat.le_of_ble_eq_true rfl) (by decide) rfl (fun w h => List.mem_cons_of_mem _ (iWC_X0 w h)) tyX0_ok nmX0 (by decide) rfl rfl (by decide +kernel) rfl rfl (C.1.2.2.2.2.1 _ (List.mem_cons_of_mem _ qC_41)) (fun h2 => ?_)
  refine x_iconst (v := 1) C.1 dX0_leadOn_50 (by decide) ?_
  exact x_zretL C.1 dX0_leadOn_51 hr rfl
set_option maxHeartbeats 4000000 in
set_option maxRecDepth 100000 in
theorem T_X0_leadOn_t28_17 {G : xG} {p : Program} {l : Launch} {e : Env} {s : State} {m : MethodId} {args : Array Value} {below : List Frame} {meth : Method} {c : Code} {N : Nat} (C : xCz G p s m args meth c cX0_leadOn 4 vX0_leadOn RX0) (hr : meth.sig.returnType = (some .boolean)) (x1 : Int32) (x2 : Int32) (x3 : Int32) (h : xHp) : J_X0_leadOn_t28 G p l e s m args below meth c 17 [(0, .ref (xad G 50)), (1, .int x1), (2, .int x2), (3, .int x3)] [] h (F_X0_leadOn_t28_17 N x1 x2 x3 h) := by
  unfold F_X0_leadOn_t28_17
  refine x_aload_n C.1 dX0_leadOn_17 rfl 0 rfl ?_
  refine x_get (v := .int (gI h 50 4)) C.1 4 dX0_leadOn_18 (xc_50 G h) rfl (by decide) rfl (fun w h => List.mem_cons_of_mem _ (iWC_X0 w h)) (by decide) rfl (C.1.2.2.2.2.1 _ (List.mem_cons_of_mem _ qC_38)) ?_
  refine x_if_ne (tgt := 34) C.1 dX0_leadOn_21 (by decide) ?_ ?_
  · refine x_aload_n C.1 dX0_leadOn_24 rfl 0 rfl ?_
    refine x_iload_n C.1 dX0_leadOn_25 rfl 1 rfl ?_
    refine x_putI (ty0 := tyX0) (ty := .int) C.1 5 dX0_leadOn_26 (xc_50 G h) rfl (Nat.le_of_ble_eq_true rfl) (by decide) rfl (fun w h => List.mem_cons_of_mem _ (iWC_X0 w h)) tyX0_ok nmX0 (by decide) rfl rfl (by decide +kernel) rfl rfl (C.1.2.2.2.2.1 _ (List.mem_cons_of_mem _ qC_40)) (fun h1 => ?_)
    refine x_aload_n C.1 dX0_leadOn_29 rfl 0 rfl ?_
    refine x_iconst (v := 1) C.1 dX0_leadOn_30 (by decide) ?_
    refine x_putI (ty0 := tyX0) (ty := .boolean) C.1 4 dX0_leadOn_31 (xc_50 G h1) rfl (Nat.le_of_ble_eq_true rfl) (by decide) rfl (fun w h => List.mem_cons_of_mem _ (iWC_X0 w h)) tyX0_ok nmX0 (by decide) rfl rfl (by decide +kernel) rfl rfl (C.1.2.2.2.2.1 _ (List.mem_cons_of_mem _ qC_38)) (fun h2 => ?_)
    exact x_sub [0, 2, 3] rfl (T_X0_leadOn_t28_34 C hr x2 x3 h2)
  · exact x_sub [0, 2, 3] rfl (T_X0_leadOn_t28_34 C hr x2 x3 h)
set_option maxHeartbeats 4000000 in
set_option maxRecDepth 100000 in
theorem M_X0_leadOn_t28 (G : xG) (l : Launch) (N : Nat) (p1 : Int32) (p2 : Int32) (p3 : Int32) (h : xHp) : ∀ r, F_X0_leadOn_t28 N p1 p2 p3 h = some r → Met l yX0_leadOn vX0_leadOn ({ frames := 0, cells := 0, slots := 0, locals := 0 } : Room) (xPz G [.ref (xad G 50), .int p1, .int p2, .int p3] h) (xQi G r) 0 0 (xA G) := by
  refine z_met (own := RX0) (cc := cX0_leadOn) (maxL := 4) (ret := (some .boolean)) (lv0 := [(0, .ref (xad G 50)), (1, .int p1), (2, .int p2), (3, .int p3)]) (by decide +kernel) rfl rfl (Nat.le_of_ble_eq_true rfl) rfl ?_
  intro p e s m below meth c C hr
  unfold F_X0_leadOn_t28
  refine x_aload_n C.1 dX0_leadOn_0 rfl 0 rfl ?_
  refine x_get (v := .int (gI h 50 4)) C.1 4 dX0_leadOn_1 (xc_50 G h) rfl (by decide) rfl (fun w h => List.mem_cons_of_mem _ (iWC_X0 w h)) (by decide) rfl (C.1.2.2.2.2.1 _ (List.mem_cons_of_mem _ qC_38)) ?_
  refine x_if_eq (tgt := 17) C.1 dX0_leadOn_4 (by decide) ?_ ?_
  · exact x_sub [0, 1, 2, 3] rfl (T_X0_leadOn_t28_17 C hr p1 p2 p3 h)
  · refine x_iload_n C.1 dX0_leadOn_7 rfl 1 rfl ?_
    refine x_aload_n C.1 dX0_leadOn_8 rfl 0 rfl ?_
    refine x_get (v := .int (gI h 50 6)) C.1 6 dX0_leadOn_9 (xc_50 G h) rfl (by decide) rfl (fun w h => List.mem_cons_of_mem _ (iWC_X0 w h)) (by decide) rfl (C.1.2.2.2.2.1 _ (List.mem_cons_of_mem _ qC_39)) ?_
    refine x_icmp_eq (tgt := 17) C.1 dX0_leadOn_12 (by decide) ?_ ?_
    · exact x_sub [0, 1, 2, 3] rfl (T_X0_leadOn_t28_17 C hr p1 p2 p3 h)
    · refine x_iconst (v := 0) C.1 dX0_leadOn_15 (by decide) ?_
      exact x_zretL C.1 dX0_leadOn_16 hr rfl
/-! X0_passConstraint_t28: 85 instructions -/
abbrev J_X0_passConstraint_t28 (G : xG) (p : Program) (l : Launch) (e : Env) (s : State) (m : MethodId) (args : Array Value) (below : List Frame) (meth : Method) (c : Code) : Nat → List (Nat × Value) → List Value → xHp → Option (Int32 × xHp) → Prop := xJ G p l e ({ frames := 2, cells := 0, slots := 0, locals := 42 } : Room) s m args below meth c 4 (fun res => MQ below (xQi G res) args s 0 0 (xA G))
def F_X0_passConstraint_t28_141 (N : Nat) (x1 : Int32) (h : xHp) : Option (Int32 × xHp) := bnd (sI h 50 3 x1) fun h1 => some (0, h1)
def F_X0_passConstraint_t28_85 (N : Nat) (x1 : Int32) (x2 : Int32) (h : xHp) : Option (Int32 × xHp) := bnd2 (F_X0_pass_t28 N 93 h) fun r1 h2 => if r1 = 0 then some (0, h2) else if (gI h2 1 3) ≤ x2 then F_X0_passConstraint_t28_141 N x1 h2 else grd (xin x2 70) (grd (xin x2 70) (grd (xin x2 70) (bnd2 (F_X0_leadOn_t28 N (gI h2 2 x2.toNatClampNeg) (gI h2 3 x2.toNatClampNeg) (gI h2 4 x2.toNatClampNeg) h2) fun r3 h4 => if r3 = 0 then F_X0_passConstraint_t28_141 N x1 h4 else some (1, h4))))
def F_X0_passConstraint_t28 (N : Nat) (h : xHp) : Option (Int32 × xHp) := bnd2 (F_X0_pass_t28 N 91 h) fun r1 h2 => if r1 = 0 then some (0, h2) else grd (decide (h2.2.2 = 28)) (bnd2 (F_X6_at_28 N (gI h2 50 3) h2) fun r3 h4 => bnd2 (F_X8_figureOf N r3 h4) fun r5 h6 => if r5 = (-1) then some (0, h6) else bnd (sI h6 50 3 ((gI h6 50 3) + 1)) fun h7 => grd (decide (h7.2.2 = 28)) (bnd2 (F_X6_at_28 N (gI h7 50 3) h7) fun r8 h9 => bnd2 (F_X8_figureOf N r8 h9) fun r10 h11 => if r10 = (-1) then F_X0_passConstraint_t28_85 N (gI h 50 3) r5 h11 else bnd (sI h11 50 3 ((gI h11 50 3) + 1)) fun h12 => F_X0_passConstraint_t28_85 N (gI h 50 3) ((10 * r5) + r10) h12))
set_option maxHeartbeats 4000000 in
set_option maxRecDepth 100000 in
theorem T_X0_passConstraint_t28_141 {G : xG} {p : Program} {l : Launch} {e : Env} {s : State} {m : MethodId} {args : Array Value} {below : List Frame} {meth : Method} {c : Code} {N : Nat} (C : xCz G p s m args meth c cX0_passConstraint 4 vX0_passConstraint RX0) (hr : meth.sig.returnType = (some .boolean)) (x1 : Int32) (h : xHp) : J_X0_passConstraint_t28 G p l e s m args below meth c 141 [(0, .ref (xad G 50)), (1, .int x1)] [] h (F_X0_passConstraint_t28_141 N x1 h) := by
  unfold F_X0_passConstraint_t28_141
  refine x_aload_n C.1 dX0_passConstraint_141 rfl 0 rfl ?_
  refine x_iload_n C.1 dX0_passConstraint_142 rfl 1 rfl ?_
  refine x_putI (ty0 := tyX0) (ty := .int) C.1 3 dX0_passConstraint_143 (xc_50 G h) rfl (Nat.le_of_ble_eq_true rfl) (by decide) rfl (fun w h => List.mem_cons_of_mem _ (iWC_X0 w h)) tyX0_ok nmX0 (by decide) rfl rfl (by decide +kernel) rfl rfl (C.1.2.2.2.2.1 _ (List.mem_cons_of_mem _ qC_12)) (fun h1 => ?_)
  refine x_iconst (v := 0) C.1 dX0_passConstraint_146 (by decide) ?_
  exact x_zretL C.1 dX0_passConstraint_147 hr rfl
set_option maxHeartbeats 4000000 in
set_option maxRecDepth 100000 in
theorem T_X0_passConstraint_t28_85 {G : xG} {p : Program} {l : Launch} {e : Env} {s : State} {m : MethodId} {args : Array Value} {below : List Frame} {meth : Method} {c : Code} {N : Nat} (C : xCz G p s m args meth c cX0_passConstraint 4 vX0_passConstraint RX0) (hr : meth.sig.returnType = (some .boolean)) (x1 : Int32) (x2 : Int32) (h : xHp) : J_X0_passConstraint_t28 G p l e s m args below meth c 85 [(0, .ref (xad G 50)), (1, .int x1), (2, .int x2)] [] h (F_X0_passConstraint_t28_85 N x1 x2 h) := by
  unfold F_X0_passConstraint_t28_85
  refine x_aload_n C.1 dX0_passConstraint_85 rfl 0 rfl ?_
  refine x_bipush (v := 93) C.1 dX0_passConstraint_86 (by decide) ?_
  refine z_callVi C dX0_passConstraint_88 (M_X0_pass_t28 G l N 93 h) (cwV 1 C.1.2.2.2.2.1 (gdV gWC qC_47 qC_48 qC_49 qC_50 qC_10) rfl rfl rfl (by decide +kernel) ⟨Nat.le_of_ble_eq_true rfl, Nat.le_of_ble_eq_true rfl⟩) (xc_50 G h) (by decide) rfl rfl rfl (Nat.le_of_ble_eq_true rfl) (fun r1 h2 => ?_)
  refine x_if_ne (tgt := 96) C.1 dX0_passConstraint_91 (by decide) ?_ ?_
  · refine x_iconst (v := 0) C.1 dX0_passConstraint_94 (by decide) ?_
    exact x_zretL C.1 dX0_passConstraint_95 hr rfl
  · refine x_iload_n C.1 dX0_passConstraint_96 rfl 2 rfl ?_
    refine x_aload_n C.1 dX0_passConstraint_97 rfl 0 rfl ?_
    refine x_get (v := .ref (xad G 1)) C.1 1 dX0_passConstraint_98 (xc_50 G h2) rfl (by decide) rfl (fun w h => List.mem_cons_of_mem _ (iWC_X0 w h)) (by decide) rfl (C.1.2.2.2.2.1 _ (List.mem_cons_of_mem _ qC_42)) ?_
    refine x_get (v := .int (gI h2 1 3)) C.1 3 dX0_passConstraint_101 (xc_1 G h2) rfl (by decide) rfl (fun w h => List.mem_cons_of_mem _ (iWC_X2 w h)) (by decide) rfl (C.1.2.2.2.2.1 _ (List.mem_cons_of_mem _ qC_43)) ?_
    refine x_icmp_ge (tgt := 141) C.1 dX0_passConstraint_104 (by decide) ?_ ?_
    · exact x_sub [0, 1] rfl (T_X0_passConstraint_t28_141 C hr x1 h2)
    · refine x_aload_n C.1 dX0_passConstraint_107 rfl 0 rfl ?_
      refine x_aload_n C.1 dX0_passConstraint_108 rfl 0 rfl ?_
      refine x_get (v := .ref (xad G 1)) C.1 1 dX0_passConstraint_109 (xc_50 G h2) rfl (by decide) rfl (fun w h => List.mem_cons_of_mem _ (iWC_X0 w h)) (by decide) rfl (C.1.2.2.2.2.1 _ (List.mem_cons_of_mem _ qC_42)) ?_
      refine x_get (v := .ref (xad G 2)) C.1 0 dX0_passConstraint_112 (xc_1 G h2) rfl (by decide) rfl (fun w h => List.mem_cons_of_mem _ (iWC_X2 w h)) (by decide) rfl (C.1.2.2.2.2.1 _ (List.mem_cons_of_mem _ qC_44)) ?_
      refine x_iload_n C.1 dX0_passConstraint_115 rfl 2 rfl ?_
      refine x_iald (n := 70) C.1 dX0_passConstraint_116 (xc_2 G h2) (by decide) ?_
      refine x_aload_n C.1 dX0_passConstraint_117 rfl 0 rfl ?_
      refine x_get (v := .ref (xad G 1)) C.1 1 dX0_passConstraint_118 (xc_50 G h2) rfl (by decide) rfl (fun w h => List.mem_cons_of_mem _ (iWC_X0 w h)) (by decide) rfl (C.1.2.2.2.2.1 _ (List.mem_cons_of_mem _ qC_42)) ?_
      refine x_get (v := .ref (xad G 3)) C.1 1 dX0_passConstraint_121 (xc_1 G h2) rfl (by decide) rfl (fun w h => List.mem_cons_of_mem _ (iWC_X2 w h)) (by decide) rfl (C.1.2.2.2.2.1 _ (List.mem_cons_of_mem _ qC_45)) ?_
      refine x_iload_n C.1 dX0_passConstraint_124 rfl 2 rfl ?_
      refine x_iald (n := 70) C.1 dX0_passConstraint_125 (xc_3 G h2) (by decide) ?_
      refine x_aload_n C.1 dX0_passConstraint_126 rfl 0 rfl ?_
      refine x_get (v := .ref (xad G 1)) C.1 1 dX0_passConstraint_127 (xc_50 G h2) rfl (by decide) rfl (fun w h => List.mem_cons_of_mem _ (iWC_X0 w h)) (by decide) rfl (C.1.2.2.2.2.1 _ (List.mem_cons_of_mem _ qC_42)) ?_
      refine x_get (v := .ref (xad G 4)) C.1 2 dX0_passConstraint_130 (xc_1 G h2) rfl (by decide) rfl (fun w h => List.mem_cons_of_mem _ (iWC_X2 w h)) (by decide) rfl (C.1.2.2.2.2.1 _ (List.mem_cons_of_mem _ qC_46)) ?_
      refine x_iload_n C.1 dX0_passConstraint_133 rfl 2 rfl ?_
      refine x_iald (n := 70) C.1 dX0_passConstraint_134 (xc_4 G h2) (by decide) ?_
      refine z_callVi C dX0_passConstraint_135 (M_X0_leadOn_t28 G l N (gI h2 2 x2.toNatClampNeg) (gI h2 3 x2.toNatClampNeg) (gI h2 4 x2.toNatClampNeg) h2) (cwV 3 C.1.2.2.2.2.1 (gdV gWC qC_53 qC_54 qC_55 qC_50 qC_37) rfl rfl rfl (by decide +kernel) ⟨Nat.le_of_ble_eq_true rfl, Nat.le_of_ble_eq_true rfl⟩) (xc_50 G h2) (by decide) rfl rfl rfl (Nat.le_of_ble_eq_true rfl) (fun r3 h4 => ?_)
      refine x_if_ne (tgt := 148) C.1 dX0_passConstraint_138 (by decide) ?_ ?_
      · exact x_sub [0, 1] rfl (T_X0_passConstraint_t28_141 C hr x1 h4)
      · refine x_iconst (v := 1) C.1 dX0_passConstraint_148 (by decide) ?_
        exact x_zretL C.1 dX0_passConstraint_149 hr rfl
set_option maxHeartbeats 4000000 in
set_option maxRecDepth 100000 in
theorem M_X0_passConstraint_t28 (G : xG) (l : Launch) (N : Nat) (h : xHp) : ∀ r, F_X0_passConstraint_t28 N h = some r → Met l yX0_passConstraint vX0_passConstraint ({ frames := 2, cells := 0, slots := 0, locals := 42 } : Room) (xPz G [.ref (xad G 50)] h) (xQi G r) 0 0 (xA G) := by
  refine z_met (own := RX0) (cc := cX0_passConstraint) (maxL := 4) (ret := (some .boolean)) (lv0 := [(0, .ref (xad G 50))]) (by decide +kernel) rfl rfl (Nat.le_of_ble_eq_true rfl) rfl ?_
  intro p e s m below meth c C hr
  unfold F_X0_passConstraint_t28
  refine x_aload_n C.1 dX0_passConstraint_0 rfl 0 rfl ?_
  refine x_get (v := .int (gI h 50 3)) C.1 3 dX0_passConstraint_1 (xc_50 G h) rfl (by decide) rfl (fun w h => List.mem_cons_of_mem _ (iWC_X0 w h)) (by decide) rfl (C.1.2.2.2.2.1 _ (List.mem_cons_of_mem _ qC_12)) ?_
  refine x_istore_n (lv' := [(1, .int (gI h 50 3)), (0, .ref (xad G 50))]) C.1 dX0_passConstraint_4 rfl (by decide) rfl ?_
  refine x_aload_n C.1 dX0_passConstraint_5 rfl 1 rfl ?_
  refine x_bipush (v := 91) C.1 dX0_passConstraint_6 (by decide) ?_
  refine z_callVi C dX0_passConstraint_8 (M_X0_pass_t28 G l N 91 h) (cwV 1 C.1.2.2.2.2.1 (gdV gWC qC_47 qC_48 qC_49 qC_50 qC_10) rfl rfl rfl (by decide +kernel) ⟨Nat.le_of_ble_eq_true rfl, Nat.le_of_ble_eq_true rfl⟩) (xc_50 G h) (by decide) rfl rfl rfl (Nat.le_of_ble_eq_true rfl) (fun r1 h2 => ?_)
  refine x_if_ne (tgt := 16) C.1 dX0_passConstraint_11 (by decide) ?_ ?_
  · refine x_iconst (v := 0) C.1 dX0_passConstraint_14 (by decide) ?_
    exact x_zretL C.1 dX0_passConstraint_15 hr rfl
  · refine x_aload_n C.1 dX0_passConstraint_16 rfl 1 rfl ?_
    refine x_getT (t := 28) C.1 2 dX0_passConstraint_17 (xc_50 G h2) rfl (by decide) rfl (fun w h => List.mem_cons_of_mem _ (iWC_X0 w h)) (by decide) rfl (C.1.2.2.2.2.1 _ (List.mem_cons_of_mem _ qC_11)) ?_
    refine x_aload_n C.1 dX0_passConstraint_20 rfl 1 rfl ?_
    refine x_get (v := .int (gI h2 50 3)) C.1 3 dX0_passConstraint_21 (xc_50 G h2) rfl (by decide) rfl (fun w h => List.mem_cons_of_mem _ (iWC_X0 w h)) (by decide) rfl (C.1.2.2.2.2.1 _ (List.mem_cons_of_mem _ qC_12)) ?_
    refine z_callVi C dX0_passConstraint_24 (M_X6_at_28 G l N (gI h2 50 3) h2) (cwV 1 C.1.2.2.2.2.1 (gdV gWC qC_13 qC_14 qC_15 qC_16 qC_7) rfl rfl rfl (by decide +kernel) ⟨Nat.le_of_ble_eq_true rfl, Nat.le_of_ble_eq_true rfl⟩) (xc_28 G h2) (by decide) rfl rfl rfl (Nat.le_of_ble_eq_true rfl) (fun r3 h4 => ?_)
    refine z_callNi (host := RX8) C dX0_passConstraint_27 (M_X8_figureOf G l N r3 h4) ⟨va_cnB 1 C.1.2.2.2.2.1 (gdN gWC qC_36) rfl rfl rfl C.2.1 (C.1.2.2.2.2.1 _ (List.mem_cons_of_mem _ qC_52)) (by decide +kernel) ⟨Nat.le_of_ble_eq_true rfl, Nat.le_of_ble_eq_true rfl⟩, (C.1.2.2.2.2.1 _ (List.mem_cons_of_mem _ qC_51)), trivial⟩ rfl rfl (Nat.le_of_ble_eq_true rfl) (fun r5 h6 => ?_)
    refine x_istore_n (lv' := [(2, .int r5), (1, .int (gI h 50 3)), (0, .ref (xad G 50))]) C.1 dX0_passConstraint_30 rfl (by decide) rfl ?_
    refine x_iload_n C.1 dX0_passConstraint_31 rfl 0 rfl ?_
    refine x_iconst (v := (-1)) C.1 dX0_passConstraint_32 (by decide) ?_
    refine x_icmp_ne (tgt := 38) C.1 dX0_passConstraint_33 (by decide) ?_ ?_
    · refine x_iconst (v := 0) C.1 dX0_passConstraint_36 (by decide) ?_
      exact x_zretL C.1 dX0_passConstraint_37 hr rfl
    · refine x_aload_n C.1 dX0_passConstraint_38 rfl 2 rfl ?_
      refine x_dup C.1 dX0_passConstraint_39 rfl ?_
      refine x_get (v := .int (gI h6 50 3)) C.1 3 dX0_passConstraint_40 (xc_50 G h6) rfl (by decide) rfl (fun w h => List.mem_cons_of_mem _ (iWC_X0 w h)) (by decide) rfl (C.1.2.2.2.2.1 _ (List.mem_cons_of_mem _ qC_12)) ?_
      refine x_iconst (v := 1) C.1 dX0_passConstraint_43 (by decide) ?_
      refine x_iadd C.1 dX0_passConstraint_44 ?_
      refine x_putI (ty0 := tyX0) (ty := .int) C.1 3 dX0_passConstraint_45 (xc_50 G h6) rfl (Nat.le_of_ble_eq_true rfl) (by decide) rfl (fun w h => List.mem_cons_of_mem _ (iWC_X0 w h)) tyX0_ok nmX0 (by decide) rfl rfl (by decide +kernel) rfl rfl (C.1.2.2.2.2.1 _ (List.mem_cons_of_mem _ qC_12)) (fun h7 => ?_)
      refine x_aload_n C.1 dX0_passConstraint_48 rfl 2 rfl ?_
      refine x_getT (t := 28) C.1 2 dX0_passConstraint_49 (xc_50 G h7) rfl (by decide) rfl (fun w h => List.mem_cons_of_mem _ (iWC_X0 w h)) (by decide) rfl (C.1.2.2.2.2.1 _ (List.mem_cons_of_mem _ qC_11)) ?_
      refine x_aload_n C.1 dX0_passConstraint_52 rfl 2 rfl ?_
      refine x_get (v := .int (gI h7 50 3)) C.1 3 dX0_passConstraint_53 (xc_50 G h7) rfl (by decide) rfl (fun w h => List.mem_cons_of_mem _ (iWC_X0 w h)) (by decide) rfl (C.1.2.2.2.2.1 _ (List.mem_cons_of_mem _ qC_12)) ?_
      refine z_callVi C dX0_passConstraint_56 (M_X6_at_28 G l N (gI h7 50 3) h7) (cwV 1 C.1.2.2.2.2.1 (gdV gWC qC_13 qC_14 qC_15 qC_16 qC_7) rfl rfl rfl (by decide +kernel) ⟨Nat.le_of_ble_eq_true rfl, Nat.le_of_ble_eq_true rfl⟩) (xc_28 G h7) (by decide) rfl rfl rfl (Nat.le_of_ble_eq_true rfl) (fun r8 h9 => ?_)
      refine z_callNi (host := RX8) C dX0_passConstraint_59 (M_X8_figureOf G l N r8 h9) ⟨va_cnB 1 C.1.2.2.2.2.1 (gdN gWC qC_36) rfl rfl rfl C.2.1 (C.1.2.2.2.2.1 _ (List.mem_cons_of_mem _ qC_52)) (by decide +kernel) ⟨Nat.le_of_ble_eq_true rfl, Nat.le_of_ble_eq_true rfl⟩, (C.1.2.2.2.2.1 _ (List.mem_cons_of_mem _ qC_51)), trivial⟩ rfl rfl (Nat.le_of_ble_eq_true rfl) (fun r10 h11 => ?_)
      refine x_istore_n (lv' := [(3, .int r10), (2, .int r5), (1, .int (gI h 50 3)), (0, .ref (xad G 50))]) C.1 dX0_passConstraint_62 rfl (by decide) rfl ?_
      refine x_iload_n C.1 dX0_passConstraint_63 rfl 0 rfl ?_
      refine x_iconst (v := (-1)) C.1 dX0_passConstraint_64 (by decide) ?_
      refine x_icmp_eq (tgt := 85) C.1 dX0_passConstraint_65 (by decide) ?_ ?_
      · exact x_sub [3, 2, 1] rfl (T_X0_passConstraint_t28_85 C hr (gI h 50 3) r5 h11)
      · refine x_bipush (v := 10) C.1 dX0_passConstraint_68 (by decide) ?_
        refine x_iload_n C.1 dX0_passConstraint_70 rfl 1 rfl ?_
        refine x_imul C.1 dX0_passConstraint_71 ?_
        refine x_iload_n C.1 dX0_passConstraint_72 rfl 0 rfl ?_
        refine x_iadd C.1 dX0_passConstraint_73 ?_
        refine x_istore_n (lv' := [(2, .int ((10 * r5) + r10)), (3, .int r10), (1, .int (gI h 50 3)), (0, .ref (xad G 50))]) C.1 dX0_passConstraint_74 rfl (by decide) rfl ?_
        refine x_aload_n C.1 dX0_passConstraint_75 rfl 3 rfl ?_
        refine x_dup C.1 dX0_passConstraint_76 rfl ?_
        refine x_get (v := .int (gI h11 50 3)) C.1 3 dX0_passConstraint_77 (xc_50 G h11) rfl (by decide) rfl (fun w h => List.mem_cons_of_mem _ (iWC_X0 w h)) (by decide) rfl (C.1.2.2.2.2.1 _ (List.mem_cons_of_mem _ qC_12)) ?_
        refine x_iconst (v := 1) C.1 dX0_passConstraint_80 (by decide) ?_
        refine x_iadd C.1 dX0_passConstraint_81 ?_
        refine x_putI (ty0 := tyX0) (ty := .int) C.1 3 dX0_passConstraint_82 (xc_50 G h11) rfl (Nat.le_of_ble_eq_true rfl) (by decide) rfl (fun w h => List.mem_cons_of_mem _ (iWC_X0 w h)) tyX0_ok nmX0 (by decide) rfl rfl (by decide +kernel) rfl rfl (C.1.2.2.2.2.1 _ (List.mem_cons_of_mem _ qC_12)) (fun h12 => ?_)
        exact x_sub [3, 2, 0] rfl (T_X0_passConstraint_t28_85 C hr (gI h 50 3) ((10 * r5) + r10) h12)
/-! X0_passGiven_t28: 41 instructions -/
abbrev J_X0_passGiven_t28 (G : xG) (p : Program) (l : Launch) (e : Env) (s : State) (m : MethodId) (args : Array Value) (below : List Frame) (meth : Method) (c : Code) : Nat → List (Nat × Value) → List Value → xHp → Option (Int32 × xHp) → Prop := xJ G p l e ({ frames := 1, cells := 0, slots := 0, locals := 23 } : Room) s m args below meth c 2 (fun res => MQ below (xQi G res) args s 0 0 (xA G))
def F_X0_passGiven_t28_28 (N : Nat) (h : xHp) : Option (Int32 × xHp) := some (0, h)
def F_X0_passGiven_t28 (N : Nat) (p1 : Int32) (h : xHp) : Option (Int32 × xHp) := if p1 < 0 then F_X0_passGiven_t28_28 N h else if (gI h 30 3) ≤ p1 then F_X0_passGiven_t28_28 N h else grd (xin p1 10) (if (gI h 34 p1.toNatClampNeg) = 1 then F_X0_passGiven_t28_28 N h else bnd2 (F_X1_fromOf_30 N p1 h) fun r1 h2 => bnd2 (F_X1_toOf_30 N p1 h2) fun r3 h4 => bnd2 (F_X1_mostOf_30 N p1 h4) fun r5 h6 => bnd2 (F_X0_leadOn_t28 N r1 r3 r5 h6) fun r7 h8 => if r7 = 0 then some (0, h8) else bnd (sI h8 50 3 ((gI h8 50 3) + 1)) fun h9 => some (1, h9))
set_option maxHeartbeats 4000000 in
set_option maxRecDepth 100000 in
theorem T_X0_passGiven_t28_28 {G : xG} {p : Program} {l : Launch} {e : Env} {s : State} {m : MethodId} {args : Array Value} {below : List Frame} {meth : Method} {c : Code} {N : Nat} (C : xCz G p s m args meth c cX0_passGiven 2 vX0_passGiven RX0) (hr : meth.sig.returnType = (some .boolean)) (h : xHp) : J_X0_passGiven_t28 G p l e s m args below meth c 28 [] [] h (F_X0_passGiven_t28_28 N h) := by
  unfold F_X0_passGiven_t28_28
  refine x_iconst (v := 0) C.1 dX0_passGiven_28 (by decide) ?_
  exact x_zretL C.1 dX0_passGiven_29 hr rfl
set_option maxHeartbeats 4000000 in
set_option maxRecDepth 100000 in
theorem M_X0_passGiven_t28 (G : xG) (l : Launch) (N : Nat) (p1 : Int32) (h : xHp) : ∀ r, F_X0_passGiven_t28 N p1 h = some r → Met l yX0_passGiven vX0_passGiven ({ frames := 1, cells := 0, slots := 0, locals := 23 } : Room) (xPz G [.ref (xad G 50), .int p1] h) (xQi G r) 0 0 (xA G) := by
  refine z_met (own := RX0) (cc := cX0_passGiven) (maxL := 2) (ret := (some .boolean)) (lv0 := [(0, .ref (xad G 50)), (1, .int p1)]) (by decide +kernel) rfl rfl (Nat.le_of_ble_eq_true rfl) rfl ?_
  intro p e s m below meth c C hr
  unfold F_X0_passGiven_t28
  refine x_iload_n C.1 dX0_passGiven_0 rfl 1 rfl ?_
  refine x_if_lt (tgt := 28) C.1 dX0_passGiven_1 (by decide) ?_ ?_
  · exact x_sub [] rfl (T_X0_passGiven_t28_28 C hr h)
  · refine x_iload_n C.1 dX0_passGiven_4 rfl 1 rfl ?_
    refine x_aload_n C.1 dX0_passGiven_5 rfl 0 rfl ?_
    refine x_get (v := .ref (xad G 30)) C.1 0 dX0_passGiven_6 (xc_50 G h) rfl (by decide) rfl (fun w h => List.mem_cons_of_mem _ (iWC_X0 w h)) (by decide) rfl (C.1.2.2.2.2.1 _ (List.mem_cons_of_mem _ qC_63)) ?_
    refine x_get (v := .int (gI h 30 3)) C.1 3 dX0_passGiven_9 (xc_30 G h) rfl (by decide) rfl (fun w h => List.mem_cons_of_mem _ (iWC_X1 w h)) (by decide) rfl (C.1.2.2.2.2.1 _ (List.mem_cons_of_mem _ qC_64)) ?_
    refine x_icmp_ge (tgt := 28) C.1 dX0_passGiven_12 (by decide) ?_ ?_
    · exact x_sub [] rfl (T_X0_passGiven_t28_28 C hr h)
    · refine x_aload_n C.1 dX0_passGiven_15 rfl 0 rfl ?_
      refine x_get (v := .ref (xad G 30)) C.1 0 dX0_passGiven_16 (xc_50 G h) rfl (by decide) rfl (fun w h => List.mem_cons_of_mem _ (iWC_X0 w h)) (by decide) rfl (C.1.2.2.2.2.1 _ (List.mem_cons_of_mem _ qC_63)) ?_
      refine x_get (v := .ref (xad G 34)) C.1 4 dX0_passGiven_19 (xc_30 G h) rfl (by decide) rfl (fun w h => List.mem_cons_of_mem _ (iWC_X1 w h)) (by decide) rfl (C.1.2.2.2.2.1 _ (List.mem_cons_of_mem _ qC_65)) ?_
      refine x_iload_n C.1 dX0_passGiven_22 rfl 1 rfl ?_
      refine x_iald (n := 10) C.1 dX0_passGiven_23 (xc_34 G h) (by decide) ?_
      refine x_iconst (v := 1) C.1 dX0_passGiven_24 (by decide) ?_
      refine x_icmp_ne (tgt := 30) C.1 dX0_passGiven_25 (by decide) ?_ ?_
      · exact x_sub [] rfl (T_X0_passGiven_t28_28 C hr h)
      · refine x_aload_n C.1 dX0_passGiven_30 rfl 0 rfl ?_
        refine x_aload_n C.1 dX0_passGiven_31 rfl 0 rfl ?_
        refine x_get (v := .ref (xad G 30)) C.1 0 dX0_passGiven_32 (xc_50 G h) rfl (by decide) rfl (fun w h => List.mem_cons_of_mem _ (iWC_X0 w h)) (by decide) rfl (C.1.2.2.2.2.1 _ (List.mem_cons_of_mem _ qC_63)) ?_
        refine x_iload_n C.1 dX0_passGiven_35 rfl 1 rfl ?_
        refine z_callVi C dX0_passGiven_36 (M_X1_fromOf_30 G l N p1 h) (cwV 1 C.1.2.2.2.2.1 (gdV gWC qC_66 qC_67 qC_68 qC_32 qC_57) rfl rfl rfl (by decide +kernel) ⟨Nat.le_of_ble_eq_true rfl, Nat.le_of_ble_eq_true rfl⟩) (xc_30 G h) (by decide) rfl rfl rfl (Nat.le_of_ble_eq_true rfl) (fun r1 h2 => ?_)
        refine x_aload_n C.1 dX0_passGiven_39 rfl 0 rfl ?_
        refine x_get (v := .ref (xad G 30)) C.1 0 dX0_passGiven_40 (xc_50 G h2) rfl (by decide) rfl (fun w h => List.mem_cons_of_mem _ (iWC_X0 w h)) (by decide) rfl (C.1.2.2.2.2.1 _ (List.mem_cons_of_mem _ qC_63)) ?_
        refine x_iload_n C.1 dX0_passGiven_43 rfl 1 rfl ?_
        refine z_callVi C dX0_passGiven_44 (M_X1_toOf_30 G l N p1 h2) (cwV 1 C.1.2.2.2.2.1 (gdV gWC qC_69 qC_70 qC_71 qC_32 qC_60) rfl rfl rfl (by decide +kernel) ⟨Nat.le_of_ble_eq_true rfl, Nat.le_of_ble_eq_true rfl⟩) (xc_30 G h2) (by decide) rfl rfl rfl (Nat.le_of_ble_eq_true rfl) (fun r3 h4 => ?_)
        refine x_aload_n C.1 dX0_passGiven_47 rfl 0 rfl ?_
        refine x_get (v := .ref (xad G 30)) C.1 0 dX0_passGiven_48 (xc_50 G h4) rfl (by decide) rfl (fun w h => List.mem_cons_of_mem _ (iWC_X0 w h)) (by decide) rfl (C.1.2.2.2.2.1 _ (List.mem_cons_of_mem _ qC_63)) ?_
        refine x_iload_n C.1 dX0_passGiven_51 rfl 1 rfl ?_
        refine z_callVi C dX0_passGiven_52 (M_X1_mostOf_30 G l N p1 h4) (cwV 1 C.1.2.2.2.2.1 (gdV gWC qC_72 qC_73 qC_74 qC_32 qC_61) rfl rfl rfl (by decide +kernel) ⟨Nat.le_of_ble_eq_true rfl, Nat.le_of_ble_eq_true rfl⟩) (xc_30 G h4) (by decide) rfl rfl rfl (Nat.le_of_ble_eq_true rfl) (fun r5 h6 => ?_)
        refine z_callVi C dX0_passGiven_55 (M_X0_leadOn_t28 G l N r1 r3 r5 h6) (cwV 3 C.1.2.2.2.2.1 (gdV gWC qC_53 qC_54 qC_55 qC_50 qC_37) rfl rfl rfl (by decide +kernel) ⟨Nat.le_of_ble_eq_true rfl, Nat.le_of_ble_eq_true rfl⟩) (xc_50 G h6) (by decide) rfl rfl rfl (Nat.le_of_ble_eq_true rfl) (fun r7 h8 => ?_)
        refine x_if_ne (tgt := 63) C.1 dX0_passGiven_58 (by decide) ?_ ?_
        · refine x_iconst (v := 0) C.1 dX0_passGiven_61 (by decide) ?_
          exact x_zretL C.1 dX0_passGiven_62 hr rfl
        · refine x_aload_n C.1 dX0_passGiven_63 rfl 0 rfl ?_
          refine x_dup C.1 dX0_passGiven_64 rfl ?_
          refine x_get (v := .int (gI h8 50 3)) C.1 3 dX0_passGiven_65 (xc_50 G h8) rfl (by decide) rfl (fun w h => List.mem_cons_of_mem _ (iWC_X0 w h)) (by decide) rfl (C.1.2.2.2.2.1 _ (List.mem_cons_of_mem _ qC_12)) ?_
          refine x_iconst (v := 1) C.1 dX0_passGiven_68 (by decide) ?_
          refine x_iadd C.1 dX0_passGiven_69 ?_
          refine x_putI (ty0 := tyX0) (ty := .int) C.1 3 dX0_passGiven_70 (xc_50 G h8) rfl (Nat.le_of_ble_eq_true rfl) (by decide) rfl (fun w h => List.mem_cons_of_mem _ (iWC_X0 w h)) tyX0_ok nmX0 (by decide) rfl rfl (by decide +kernel) rfl rfl (C.1.2.2.2.2.1 _ (List.mem_cons_of_mem _ qC_12)) (fun h9 => ?_)
          refine x_iconst (v := 1) C.1 dX0_passGiven_73 (by decide) ?_
          exact x_zretL C.1 dX0_passGiven_74 hr rfl
/-! X0_passRound_t28: 67 instructions -/
abbrev J_X0_passRound_t28 (G : xG) (p : Program) (l : Launch) (e : Env) (s : State) (m : MethodId) (args : Array Value) (below : List Frame) (meth : Method) (c : Code) : Nat → List (Nat × Value) → List Value → xHp → Option (Int32 × xHp) → Prop := xJ G p l e ({ frames := 3, cells := 0, slots := 0, locals := 65 } : Room) s m args below meth c 3 (fun res => MQ below (xQi G res) args s 0 0 (xA G))
def F_X0_passRound_t28_83 (N : Nat) (h : xHp) : Option (Int32 × xHp) := some (0, h)
def F_X0_passRound_t28_85 (N : Nat) (k22 : Int32 → xHp → Option (Int32 × xHp)) (x1 : Int32) (h : xHp) : Option (Int32 × xHp) := k22 (x1 + 1) h
def F_X0_passRound_t28_131 (N : Nat) (h : xHp) : Option (Int32 × xHp) := some (0, h)
def F_X0_passRound_t28_91 (N : Nat) (h : xHp) : Option (Int32 × xHp) := if (gI h 50 4) = 0 then F_X0_passRound_t28_131 N h else if (gI h 50 6) = (gI h 50 5) then if (0 : Int32) ≤ (lg_cmp (gJ h 50 7) 0) then F_X0_passRound_t28_131 N h else bnd2 (F_X0_pass_t28 N 59 h) fun r1 h2 => if r1 = 0 then F_X0_passRound_t28_131 N h2 else some (1, h2) else F_X0_passRound_t28_131 N h
def F_X0_passRound_t28_22_b (N : Nat) (k22 : Int32 → xHp → Option (Int32 × xHp)) (x1 : Int32) (h : xHp) : Option (Int32 × xHp) := if 6000 ≤ x1 then F_X0_passRound_t28_91 N h else grd (decide (h.2.2 = 28)) (bnd2 (F_X6_at_28 N (gI h 50 3) h) fun r1 h2 => if r1 = 59 then F_X0_passRound_t28_91 N h2 else grd (decide (h2.2.2 = 28)) (bnd2 (F_X6_at_28 N (gI h2 50 3) h2) fun r3 h4 => bnd2 (F_X8_figureOf N r3 h4) fun r5 h6 => if r5 = (-1) then bnd2 (F_X0_passConstraint_t28 N h6) fun r7 h8 => if r7 = 0 then F_X0_passRound_t28_83 N h8 else F_X0_passRound_t28_85 N k22 x1 h8 else bnd2 (F_X0_passGiven_t28 N r5 h6) fun r9 h10 => if r9 = 0 then F_X0_passRound_t28_83 N h10 else F_X0_passRound_t28_85 N k22 x1 h10))
def F_X0_passRound_t28_22 (N : Nat) (x1 : Int32) (h : xHp) : Option (Int32 × xHp) := xit (F_X0_passRound_t28_22_b N) (fun _ _ => none) N x1 h
def F_X0_passRound_t28 (N : Nat) (h : xHp) : Option (Int32 × xHp) := bnd (sI h 50 3 ((gI h 50 3) + 1)) fun h1 => bnd (sI h1 50 4 0) fun h2 => bnd (sJ h2 50 7 0) fun h3 => F_X0_passRound_t28_22 N 0 h3
set_option maxHeartbeats 4000000 in
set_option maxRecDepth 100000 in
theorem T_X0_passRound_t28_83 {G : xG} {p : Program} {l : Launch} {e : Env} {s : State} {m : MethodId} {args : Array Value} {below : List Frame} {meth : Method} {c : Code} {N : Nat} (C : xCz G p s m args meth c cX0_passRound 3 vX0_passRound RX0) (hr : meth.sig.returnType = (some .boolean)) (h : xHp) : J_X0_passRound_t28 G p l e s m args below meth c 83 [] [] h (F_X0_passRound_t28_83 N h) := by
  unfold F_X0_passRound_t28_83
  refine x_iconst (v := 0) C.1 dX0_passRound_83 (by decide) ?_
  exact x_zretL C.1 dX0_passRound_84 hr rfl
set_option maxHeartbeats 4000000 in
set_option maxRecDepth 100000 in
theorem T_X0_passRound_t28_85 {G : xG} {p : Program} {l : Launch} {e : Env} {s : State} {m : MethodId} {args : Array Value} {below : List Frame} {meth : Method} {c : Code} {N : Nat} (C : xCz G p s m args meth c cX0_passRound 3 vX0_passRound RX0) (hr : meth.sig.returnType = (some .boolean)) {k22 : Int32 → xHp → Option (Int32 × xHp)} (hk22 : ∀ (x1 : Int32) (h : xHp), J_X0_passRound_t28 G p l e s m args below meth c 22 [(0, .ref (xad G 50)), (1, .int x1)] [] h (k22 x1 h)) (x1 : Int32) (h : xHp) : J_X0_passRound_t28 G p l e s m args below meth c 85 [(0, .ref (xad G 50)), (1, .int x1)] [] h (F_X0_passRound_t28_85 N k22 x1 h) := by
  unfold F_X0_passRound_t28_85
  refine x_iinc (v := (x1 + 1)) (j := 1) (lv' := [(1, .int (x1 + 1)), (0, .ref (xad G 50))]) C.1 dX0_passRound_85 rfl (by rfl) (by decide) rfl ?_
  refine x_goto (tgt := 22) C.1 dX0_passRound_88 (by decide) ?_
  exact x_sub [1, 0] rfl (hk22 (x1 + 1) h)
set_option maxHeartbeats 4000000 in
set_option maxRecDepth 100000 in
theorem T_X0_passRound_t28_131 {G : xG} {p : Program} {l : Launch} {e : Env} {s : State} {m : MethodId} {args : Array Value} {below : List Frame} {meth : Method} {c : Code} {N : Nat} (C : xCz G p s m args meth c cX0_passRound 3 vX0_passRound RX0) (hr : meth.sig.returnType = (some .boolean)) (h : xHp) : J_X0_passRound_t28 G p l e s m args below meth c 131 [] [] h (F_X0_passRound_t28_131 N h) := by
  unfold F_X0_passRound_t28_131
  refine x_iconst (v := 0) C.1 dX0_passRound_131 (by decide) ?_
  exact x_zretL C.1 dX0_passRound_132 hr rfl
set_option maxHeartbeats 4000000 in
set_option maxRecDepth 100000 in
theorem T_X0_passRound_t28_91 {G : xG} {p : Program} {l : Launch} {e : Env} {s : State} {m : MethodId} {args : Array Value} {below : List Frame} {meth : Method} {c : Code} {N : Nat} (C : xCz G p s m args meth c cX0_passRound 3 vX0_passRound RX0) (hr : meth.sig.returnType = (some .boolean)) (h : xHp) : J_X0_passRound_t28 G p l e s m args below meth c 91 [(0, .ref (xad G 50))] [] h (F_X0_passRound_t28_91 N h) := by
  unfold F_X0_passRound_t28_91
  refine x_aload_n C.1 dX0_passRound_91 rfl 0 rfl ?_
  refine x_get (v := .int (gI h 50 4)) C.1 4 dX0_passRound_92 (xc_50 G h) rfl (by decide) rfl (fun w h => List.mem_cons_of_mem _ (iWC_X0 w h)) (by decide) rfl (C.1.2.2.2.2.1 _ (List.mem_cons_of_mem _ qC_38)) ?_
  refine x_if_eq (tgt := 131) C.1 dX0_passRound_95 (by decide) ?_ ?_
  · exact x_sub [] rfl (T_X0_passRound_t28_131 C hr h)
  · refine x_aload_n C.1 dX0_passRound_98 rfl 0 rfl ?_
    refine x_get (v := .int (gI h 50 6)) C.1 6 dX0_passRound_99 (xc_50 G h) rfl (by decide) rfl (fun w h => List.mem_cons_of_mem _ (iWC_X0 w h)) (by decide) rfl (C.1.2.2.2.2.1 _ (List.mem_cons_of_mem _ qC_39)) ?_
    refine x_aload_n C.1 dX0_passRound_102 rfl 0 rfl ?_
    refine x_get (v := .int (gI h 50 5)) C.1 5 dX0_passRound_103 (xc_50 G h) rfl (by decide) rfl (fun w h => List.mem_cons_of_mem _ (iWC_X0 w h)) (by decide) rfl (C.1.2.2.2.2.1 _ (List.mem_cons_of_mem _ qC_40)) ?_
    refine x_icmp_ne (tgt := 131) C.1 dX0_passRound_106 (by decide) ?_ ?_
    · refine x_aload_n C.1 dX0_passRound_109 rfl 0 rfl ?_
      refine x_get (v := .long (gJ h 50 7)) C.1 7 dX0_passRound_110 (xc_50 G h) rfl (by decide) rfl (fun w h => List.mem_cons_of_mem _ (iWC_X0 w h)) (by decide) rfl (C.1.2.2.2.2.1 _ (List.mem_cons_of_mem _ qC_41)) ?_
      refine x_lconst (v := 0) C.1 dX0_passRound_113 (by decide) ?_
      refine x_lcmp C.1 dX0_passRound_114 ?_
      refine x_if_ge (tgt := 131) C.1 dX0_passRound_115 (by decide) ?_ ?_
      · exact x_sub [] rfl (T_X0_passRound_t28_131 C hr h)
      · refine x_aload_n C.1 dX0_passRound_118 rfl 0 rfl ?_
        refine x_bipush (v := 59) C.1 dX0_passRound_119 (by decide) ?_
        refine z_callVi C dX0_passRound_121 (M_X0_pass_t28 G l N 59 h) (cwV 1 C.1.2.2.2.2.1 (gdV gWC qC_47 qC_48 qC_49 qC_50 qC_10) rfl rfl rfl (by decide +kernel) ⟨Nat.le_of_ble_eq_true rfl, Nat.le_of_ble_eq_true rfl⟩) (xc_50 G h) (by decide) rfl rfl rfl (Nat.le_of_ble_eq_true rfl) (fun r1 h2 => ?_)
        refine x_if_eq (tgt := 131) C.1 dX0_passRound_124 (by decide) ?_ ?_
        · exact x_sub [] rfl (T_X0_passRound_t28_131 C hr h2)
        · refine x_iconst (v := 1) C.1 dX0_passRound_127 (by decide) ?_
          refine x_goto (tgt := 132) C.1 dX0_passRound_128 (by decide) ?_
          exact x_zretL C.1 dX0_passRound_132 hr rfl
    · exact x_sub [] rfl (T_X0_passRound_t28_131 C hr h)
set_option maxHeartbeats 4000000 in
set_option maxRecDepth 100000 in
theorem T_X0_passRound_t28_22_b {G : xG} {p : Program} {l : Launch} {e : Env} {s : State} {m : MethodId} {args : Array Value} {below : List Frame} {meth : Method} {c : Code} {N : Nat} (C : xCz G p s m args meth c cX0_passRound 3 vX0_passRound RX0) (hr : meth.sig.returnType = (some .boolean)) {k22 : Int32 → xHp → Option (Int32 × xHp)} (hk22 : ∀ (x1 : Int32) (h : xHp), J_X0_passRound_t28 G p l e s m args below meth c 22 [(0, .ref (xad G 50)), (1, .int x1)] [] h (k22 x1 h)) (x1 : Int32) (h : xHp) : J_X0_passRound_t28 G p l e s m args below meth c 22 [(0, .ref (xad G 50)), (1, .int x1)] [] h (F_X0_passRound_t28_22_b N k22 x1 h) := by
  unfold F_X0_passRound_t28_22_b
  refine x_iload_n C.1 dX0_passRound_22 rfl 1 rfl ?_
  refine x_sipush (v := 6000) C.1 dX0_passRound_23 (by decide) ?_
  refine x_icmp_ge (tgt := 91) C.1 dX0_passRound_26 (by decide) ?_ ?_
  · exact x_sub [0] rfl (T_X0_passRound_t28_91 C hr h)
  · refine x_aload_n C.1 dX0_passRound_29 rfl 0 rfl ?_
    refine x_getT (t := 28) C.1 2 dX0_passRound_30 (xc_50 G h) rfl (by decide) rfl (fun w h => List.mem_cons_of_mem _ (iWC_X0 w h)) (by decide) rfl (C.1.2.2.2.2.1 _ (List.mem_cons_of_mem _ qC_11)) ?_
    refine x_aload_n C.1 dX0_passRound_33 rfl 0 rfl ?_
    refine x_get (v := .int (gI h 50 3)) C.1 3 dX0_passRound_34 (xc_50 G h) rfl (by decide) rfl (fun w h => List.mem_cons_of_mem _ (iWC_X0 w h)) (by decide) rfl (C.1.2.2.2.2.1 _ (List.mem_cons_of_mem _ qC_12)) ?_
    refine z_callVi C dX0_passRound_37 (M_X6_at_28 G l N (gI h 50 3) h) (cwV 1 C.1.2.2.2.2.1 (gdV gWC qC_13 qC_14 qC_15 qC_16 qC_7) rfl rfl rfl (by decide +kernel) ⟨Nat.le_of_ble_eq_true rfl, Nat.le_of_ble_eq_true rfl⟩) (xc_28 G h) (by decide) rfl rfl rfl (Nat.le_of_ble_eq_true rfl) (fun r1 h2 => ?_)
    refine x_bipush (v := 59) C.1 dX0_passRound_40 (by decide) ?_
    refine x_icmp_eq (tgt := 91) C.1 dX0_passRound_42 (by decide) ?_ ?_
    · exact x_sub [0] rfl (T_X0_passRound_t28_91 C hr h2)
    · refine x_aload_n C.1 dX0_passRound_45 rfl 0 rfl ?_
      refine x_getT (t := 28) C.1 2 dX0_passRound_46 (xc_50 G h2) rfl (by decide) rfl (fun w h => List.mem_cons_of_mem _ (iWC_X0 w h)) (by decide) rfl (C.1.2.2.2.2.1 _ (List.mem_cons_of_mem _ qC_11)) ?_
      refine x_aload_n C.1 dX0_passRound_49 rfl 0 rfl ?_
      refine x_get (v := .int (gI h2 50 3)) C.1 3 dX0_passRound_50 (xc_50 G h2) rfl (by decide) rfl (fun w h => List.mem_cons_of_mem _ (iWC_X0 w h)) (by decide) rfl (C.1.2.2.2.2.1 _ (List.mem_cons_of_mem _ qC_12)) ?_
      refine z_callVi C dX0_passRound_53 (M_X6_at_28 G l N (gI h2 50 3) h2) (cwV 1 C.1.2.2.2.2.1 (gdV gWC qC_13 qC_14 qC_15 qC_16 qC_7) rfl rfl rfl (by decide +kernel) ⟨Nat.le_of_ble_eq_true rfl, Nat.le_of_ble_eq_true rfl⟩) (xc_28 G h2) (by decide) rfl rfl rfl (Nat.le_of_ble_eq_true rfl) (fun r3 h4 => ?_)
      refine z_callNi (host := RX8) C dX0_passRound_56 (M_X8_figureOf G l N r3 h4) ⟨va_cnB 1 C.1.2.2.2.2.1 (gdN gWC qC_36) rfl rfl rfl C.2.1 (C.1.2.2.2.2.1 _ (List.mem_cons_of_mem _ qC_52)) (by decide +kernel) ⟨Nat.le_of_ble_eq_true rfl, Nat.le_of_ble_eq_true rfl⟩, (C.1.2.2.2.2.1 _ (List.mem_cons_of_mem _ qC_51)), trivial⟩ rfl rfl (Nat.le_of_ble_eq_true rfl) (fun r5 h6 => ?_)
      refine x_istore_n (lv' := [(2, .int r5), (0, .ref (xad G 50)), (1, .int x1)]) C.1 dX0_passRound_59 rfl (by decide) rfl ?_
      refine x_iload_n C.1 dX0_passRound_60 rfl 0 rfl ?_
      refine x_iconst (v := (-1)) C.1 dX0_passRound_61 (by decide) ?_
      refine x_icmp_ne (tgt := 75) C.1 dX0_passRound_62 (by decide) ?_ ?_
      · refine x_aload_n C.1 dX0_passRound_65 rfl 1 rfl ?_
        refine z_callVi C dX0_passRound_66 (M_X0_passConstraint_t28 G l N h6) (cwV 0 C.1.2.2.2.2.1 (gdV gWC qC_76 qC_77 qC_78 qC_50 qC_56) rfl rfl rfl (by decide +kernel) ⟨Nat.le_of_ble_eq_true rfl, Nat.le_of_ble_eq_true rfl⟩) (xc_50 G h6) (by decide) rfl rfl rfl (Nat.le_of_ble_eq_true rfl) (fun r7 h8 => ?_)
        refine x_if_ne (tgt := 85) C.1 dX0_passRound_69 (by decide) ?_ ?_
        · refine x_goto (tgt := 83) C.1 dX0_passRound_72 (by decide) ?_
          exact x_sub [] rfl (T_X0_passRound_t28_83 C hr h8)
        · exact x_sub [1, 2] rfl (T_X0_passRound_t28_85 C hr hk22 x1 h8)
      · refine x_aload_n C.1 dX0_passRound_75 rfl 1 rfl ?_
        refine x_iload_n C.1 dX0_passRound_76 rfl 0 rfl ?_
        refine z_callVi C dX0_passRound_77 (M_X0_passGiven_t28 G l N r5 h6) (cwV 1 C.1.2.2.2.2.1 (gdV gWC qC_79 qC_80 qC_81 qC_50 qC_75) rfl rfl rfl (by decide +kernel) ⟨Nat.le_of_ble_eq_true rfl, Nat.le_of_ble_eq_true rfl⟩) (xc_50 G h6) (by decide) rfl rfl rfl (Nat.le_of_ble_eq_true rfl) (fun r9 h10 => ?_)
        refine x_if_ne (tgt := 85) C.1 dX0_passRound_80 (by decide) ?_ ?_
        · exact x_sub [] rfl (T_X0_passRound_t28_83 C hr h10)
        · exact x_sub [1, 2] rfl (T_X0_passRound_t28_85 C hr hk22 x1 h10)
set_option maxHeartbeats 4000000 in
set_option maxRecDepth 100000 in
theorem T_X0_passRound_t28_22_n {G : xG} {p : Program} {l : Launch} {e : Env} {s : State} {m : MethodId} {args : Array Value} {below : List Frame} {meth : Method} {c : Code} {N : Nat} (C : xCz G p s m args meth c cX0_passRound 3 vX0_passRound RX0) (hr : meth.sig.returnType = (some .boolean)) : ∀ (n : Nat) (x1 : Int32) (h : xHp), J_X0_passRound_t28 G p l e s m args below meth c 22 [(0, .ref (xad G 50)), (1, .int x1)] [] h (xit (F_X0_passRound_t28_22_b N) (fun _ _ => none) n x1 h) := by
  intro n
  induction n with
  | zero => intros; exact x_none
  | succ n ih => intros; exact T_X0_passRound_t28_22_b C hr ih _ _
set_option maxHeartbeats 4000000 in
set_option maxRecDepth 100000 in
theorem T_X0_passRound_t28_22 {G : xG} {p : Program} {l : Launch} {e : Env} {s : State} {m : MethodId} {args : Array Value} {below : List Frame} {meth : Method} {c : Code} {N : Nat} (C : xCz G p s m args meth c cX0_passRound 3 vX0_passRound RX0) (hr : meth.sig.returnType = (some .boolean)) (x1 : Int32) (h : xHp) : J_X0_passRound_t28 G p l e s m args below meth c 22 [(0, .ref (xad G 50)), (1, .int x1)] [] h (F_X0_passRound_t28_22 N x1 h) := T_X0_passRound_t28_22_n C hr N x1 h
set_option maxHeartbeats 4000000 in
set_option maxRecDepth 100000 in
theorem M_X0_passRound_t28 (G : xG) (l : Launch) (N : Nat) (h : xHp) : ∀ r, F_X0_passRound_t28 N h = some r → Met l yX0_passRound vX0_passRound ({ frames := 3, cells := 0, slots := 0, locals := 65 } : Room) (xPz G [.ref (xad G 50)] h) (xQi G r) 0 0 (xA G) := by
  refine z_met (own := RX0) (cc := cX0_passRound) (maxL := 3) (ret := (some .boolean)) (lv0 := [(0, .ref (xad G 50))]) (by decide +kernel) rfl rfl (Nat.le_of_ble_eq_true rfl) rfl ?_
  intro p e s m below meth c C hr
  unfold F_X0_passRound_t28
  refine x_aload_n C.1 dX0_passRound_0 rfl 0 rfl ?_
  refine x_dup C.1 dX0_passRound_1 rfl ?_
  refine x_get (v := .int (gI h 50 3)) C.1 3 dX0_passRound_2 (xc_50 G h) rfl (by decide) rfl (fun w h => List.mem_cons_of_mem _ (iWC_X0 w h)) (by decide) rfl (C.1.2.2.2.2.1 _ (List.mem_cons_of_mem _ qC_12)) ?_
  refine x_iconst (v := 1) C.1 dX0_passRound_5 (by decide) ?_
  refine x_iadd C.1 dX0_passRound_6 ?_
  refine x_putI (ty0 := tyX0) (ty := .int) C.1 3 dX0_passRound_7 (xc_50 G h) rfl (Nat.le_of_ble_eq_true rfl) (by decide) rfl (fun w h => List.mem_cons_of_mem _ (iWC_X0 w h)) tyX0_ok nmX0 (by decide) rfl rfl (by decide +kernel) rfl rfl (C.1.2.2.2.2.1 _ (List.mem_cons_of_mem _ qC_12)) (fun h1 => ?_)
  refine x_aload_n C.1 dX0_passRound_10 rfl 0 rfl ?_
  refine x_iconst (v := 0) C.1 dX0_passRound_11 (by decide) ?_
  refine x_putI (ty0 := tyX0) (ty := .boolean) C.1 4 dX0_passRound_12 (xc_50 G h1) rfl (Nat.le_of_ble_eq_true rfl) (by decide) rfl (fun w h => List.mem_cons_of_mem _ (iWC_X0 w h)) tyX0_ok nmX0 (by decide) rfl rfl (by decide +kernel) rfl rfl (C.1.2.2.2.2.1 _ (List.mem_cons_of_mem _ qC_38)) (fun h2 => ?_)
  refine x_aload_n C.1 dX0_passRound_15 rfl 0 rfl ?_
  refine x_lconst (v := 0) C.1 dX0_passRound_16 (by decide) ?_
  refine x_putJ (ty0 := tyX0) (ty := .long) C.1 7 dX0_passRound_17 (xc_50 G h2) rfl (Nat.le_of_ble_eq_true rfl) (by decide) rfl (fun w h => List.mem_cons_of_mem _ (iWC_X0 w h)) tyX0_ok nmX0 (by decide) rfl rfl (by decide +kernel) rfl rfl (C.1.2.2.2.2.1 _ (List.mem_cons_of_mem _ qC_41)) (fun h3 => ?_)
  refine x_iconst (v := 0) C.1 dX0_passRound_20 (by decide) ?_
  refine x_istore_n (lv' := [(1, .int 0), (0, .ref (xad G 50))]) C.1 dX0_passRound_21 rfl (by decide) rfl ?_
  exact x_sub [1, 0] rfl (T_X0_passRound_t28_22 C hr 0 h3)
/-! X0_passBranches_t28: 72 instructions -/
abbrev J_X0_passBranches_t28 (d : Nat) (G : xG) (p : Program) (l : Launch) (e : Env) (s : State) (m : MethodId) (args : Array Value) (below : List Frame) (meth : Method) (c : Code) : Nat → List (Nat × Value) → List Value → xHp → Option (Int32 × xHp) → Prop := xJ G p l e ({ frames := 4 + 2 * d + 1, cells := 0, slots := 0, locals := 125 + 44 * d + 22 } : Room) s m args below meth c 3 (fun res => MQ below (xQi G res) args s 0 0 (xA G))
def F_X0_passBranches_t28_28 (N : Nat) (rA : Int32 → xHp → Option (Int32 × xHp)) (h : xHp) : Option (Int32 × xHp) := some (0, h)
def F_X0_passBranches_t28_80 (N : Nat) (rA : Int32 → xHp → Option (Int32 × xHp)) (h : xHp) : Option (Int32 × xHp) := some (0, h)
def F_X0_passBranches_t28_111 (N : Nat) (rA : Int32 → xHp → Option (Int32 × xHp)) (h : xHp) : Option (Int32 × xHp) := some (0, h)
def F_X0_passBranches_t28 (N : Nat) (rA : Int32 → xHp → Option (Int32 × xHp)) (p1 : Int32) (p2 : Int32) (h : xHp) : Option (Int32 × xHp) := if p1 < 0 then F_X0_passBranches_t28_28 N rA h else if (gI h 30 3) ≤ p1 then F_X0_passBranches_t28_28 N rA h else grd (xin p1 10) (if (gI h 34 p1.toNatClampNeg) = 1 then bnd (sI h 50 3 ((gI h 50 3) + 1)) fun h1 => bnd2 (F_X0_pass_t28 N 40 h1) fun r2 h3 => if r2 = 0 then some (0, h3) else grd (xin p1 10) (bnd (sI h3 34 p1.toNatClampNeg 0) fun h4 => bnd2 (rA (p2 + 1) h4) fun r5 h6 => if r5 = 0 then F_X0_passBranches_t28_80 N rA h6 else bnd2 (F_X0_pass_t28 N 44 h6) fun r7 h8 => if r7 = 0 then F_X0_passBranches_t28_80 N rA h8 else grd (xin p1 10) (bnd (sI h8 34 p1.toNatClampNeg 2) fun h9 => bnd2 (rA (p2 + 1) h9) fun r10 h11 => if r10 = 0 then F_X0_passBranches_t28_111 N rA h11 else bnd2 (F_X0_pass_t28 N 41 h11) fun r12 h13 => if r12 = 0 then F_X0_passBranches_t28_111 N rA h13 else grd (xin p1 10) (bnd (sI h13 34 p1.toNatClampNeg 1) fun h14 => some (1, h14)))) else F_X0_passBranches_t28_28 N rA h)
set_option maxHeartbeats 4000000 in
set_option maxRecDepth 100000 in
theorem T_X0_passBranches_t28_28 {G : xG} {p : Program} {l : Launch} {e : Env} {s : State} {m : MethodId} {args : Array Value} {below : List Frame} {meth : Method} {c : Code} {N : Nat} (C : xCz G p s m args meth c cX0_passBranches 3 vX0_passBranches RX0) (hr : meth.sig.returnType = (some .boolean)) {d : Nat} {rA : Int32 → xHp → Option (Int32 × xHp)} (hA : ∀ (a0 : Int32) (h : xHp) (r : Int32 × xHp), rA a0 h = some r → Met l yX0_passTree vX0_passTree ({ frames := 4 + 2 * d, cells := 0, slots := 0, locals := 125 + 44 * d } : Room) (xPz G [.ref (xad G 50), .int a0] h) (xQi G r) 0 0 (xA G)) (h : xHp) : J_X0_passBranches_t28 d G p l e s m args below meth c 28 [] [] h (F_X0_passBranches_t28_28 N rA h) := by
  unfold F_X0_passBranches_t28_28
  refine x_iconst (v := 0) C.1 dX0_passBranches_28 (by decide) ?_
  exact x_zretL C.1 dX0_passBranches_29 hr rfl
set_option maxHeartbeats 4000000 in
set_option maxRecDepth 100000 in
theorem T_X0_passBranches_t28_80 {G : xG} {p : Program} {l : Launch} {e : Env} {s : State} {m : MethodId} {args : Array Value} {below : List Frame} {meth : Method} {c : Code} {N : Nat} (C : xCz G p s m args meth c cX0_passBranches 3 vX0_passBranches RX0) (hr : meth.sig.returnType = (some .boolean)) {d : Nat} {rA : Int32 → xHp → Option (Int32 × xHp)} (hA : ∀ (a0 : Int32) (h : xHp) (r : Int32 × xHp), rA a0 h = some r → Met l yX0_passTree vX0_passTree ({ frames := 4 + 2 * d, cells := 0, slots := 0, locals := 125 + 44 * d } : Room) (xPz G [.ref (xad G 50), .int a0] h) (xQi G r) 0 0 (xA G)) (h : xHp) : J_X0_passBranches_t28 d G p l e s m args below meth c 80 [] [] h (F_X0_passBranches_t28_80 N rA h) := by
  unfold F_X0_passBranches_t28_80
  refine x_iconst (v := 0) C.1 dX0_passBranches_80 (by decide) ?_
  exact x_zretL C.1 dX0_passBranches_81 hr rfl
set_option maxHeartbeats 4000000 in
set_option maxRecDepth 100000 in
theorem T_X0_passBranches_t28_111 {G : xG} {p : Program} {l : Launch} {e : Env} {s : State} {m : MethodId} {args : Array Value} {below : List Frame} {meth : Method} {c : Code} {N : Nat} (C : xCz G p s m args meth c cX0_passBranches 3 vX0_passBranches RX0) (hr : meth.sig.returnType = (some .boolean)) {d : Nat} {rA : Int32 → xHp → Option (Int32 × xHp)} (hA : ∀ (a0 : Int32) (h : xHp) (r : Int32 × xHp), rA a0 h = some r → Met l yX0_passTree vX0_passTree ({ frames := 4 + 2 * d, cells := 0, slots := 0, locals := 125 + 44 * d } : Room) (xPz G [.ref (xad G 50), .int a0] h) (xQi G r) 0 0 (xA G)) (h : xHp) : J_X0_passBranches_t28 d G p l e s m args below meth c 111 [] [] h (F_X0_passBranches_t28_111 N rA h) := by
  unfold F_X0_passBranches_t28_111
  refine x_iconst (v := 0) C.1 dX0_passBranches_111 (by decide) ?_
  exact x_zretL C.1 dX0_passBranches_112 hr rfl
set_option maxHeartbeats 4000000 in
set_option maxRecDepth 100000 in
theorem M_X0_passBranches_t28 (G : xG) (l : Launch) (N : Nat) {d : Nat} {rA : Int32 → xHp → Option (Int32 × xHp)} (hA : ∀ (a0 : Int32) (h : xHp) (r : Int32 × xHp), rA a0 h = some r → Met l yX0_passTree vX0_passTree ({ frames := 4 + 2 * d, cells := 0, slots := 0, locals := 125 + 44 * d } : Room) (xPz G [.ref (xad G 50), .int a0] h) (xQi G r) 0 0 (xA G)) (p1 : Int32) (p2 : Int32) (h : xHp) : ∀ r, F_X0_passBranches_t28 N rA p1 p2 h = some r → Met l yX0_passBranches vX0_passBranches ({ frames := 4 + 2 * d + 1, cells := 0, slots := 0, locals := 125 + 44 * d + 22 } : Room) (xPz G [.ref (xad G 50), .int p1, .int p2] h) (xQi G r) 0 0 (xA G) := by
  refine z_met (own := RX0) (cc := cX0_passBranches) (maxL := 3) (ret := (some .boolean)) (lv0 := [(0, .ref (xad G 50)), (1, .int p1), (2, .int p2)]) (by decide +kernel) rfl rfl (Nat.le_of_ble_eq_true rfl) rfl ?_
  intro p e s m below meth c C hr
  unfold F_X0_passBranches_t28
  refine x_iload_n C.1 dX0_passBranches_0 rfl 1 rfl ?_
  refine x_if_lt (tgt := 28) C.1 dX0_passBranches_1 (by decide) ?_ ?_
  · exact x_sub [] rfl (T_X0_passBranches_t28_28 C hr hA h)
  · refine x_iload_n C.1 dX0_passBranches_4 rfl 1 rfl ?_
    refine x_aload_n C.1 dX0_passBranches_5 rfl 0 rfl ?_
    refine x_get (v := .ref (xad G 30)) C.1 0 dX0_passBranches_6 (xc_50 G h) rfl (by decide) rfl (fun w h => List.mem_cons_of_mem _ (iWC_X0 w h)) (by decide) rfl (C.1.2.2.2.2.1 _ (List.mem_cons_of_mem _ qC_63)) ?_
    refine x_get (v := .int (gI h 30 3)) C.1 3 dX0_passBranches_9 (xc_30 G h) rfl (by decide) rfl (fun w h => List.mem_cons_of_mem _ (iWC_X1 w h)) (by decide) rfl (C.1.2.2.2.2.1 _ (List.mem_cons_of_mem _ qC_64)) ?_
    refine x_icmp_ge (tgt := 28) C.1 dX0_passBranches_12 (by decide) ?_ ?_
    · exact x_sub [] rfl (T_X0_passBranches_t28_28 C hr hA h)
    · refine x_aload_n C.1 dX0_passBranches_15 rfl 0 rfl ?_
      refine x_get (v := .ref (xad G 30)) C.1 0 dX0_passBranches_16 (xc_50 G h) rfl (by decide) rfl (fun w h => List.mem_cons_of_mem _ (iWC_X0 w h)) (by decide) rfl (C.1.2.2.2.2.1 _ (List.mem_cons_of_mem _ qC_63)) ?_
      refine x_get (v := .ref (xad G 34)) C.1 4 dX0_passBranches_19 (xc_30 G h) rfl (by decide) rfl (fun w h => List.mem_cons_of_mem _ (iWC_X1 w h)) (by decide) rfl (C.1.2.2.2.2.1 _ (List.mem_cons_of_mem _ qC_65)) ?_
      refine x_iload_n C.1 dX0_passBranches_22 rfl 1 rfl ?_
      refine x_iald (n := 10) C.1 dX0_passBranches_23 (xc_34 G h) (by decide) ?_
      refine x_iconst (v := 1) C.1 dX0_passBranches_24 (by decide) ?_
      refine x_icmp_eq (tgt := 30) C.1 dX0_passBranches_25 (by decide) ?_ ?_
      · refine x_aload_n C.1 dX0_passBranches_30 rfl 0 rfl ?_
        refine x_dup C.1 dX0_passBranches_31 rfl ?_
        refine x_get (v := .int (gI h 50 3)) C.1 3 dX0_passBranches_32 (xc_50 G h) rfl (by decide) rfl (fun w h => List.mem_cons_of_mem _ (iWC_X0 w h)) (by decide) rfl (C.1.2.2.2.2.1 _ (List.mem_cons_of_mem _ qC_12)) ?_
        refine x_iconst (v := 1) C.1 dX0_passBranches_35 (by decide) ?_
        refine x_iadd C.1 dX0_passBranches_36 ?_
        refine x_putI (ty0 := tyX0) (ty := .int) C.1 3 dX0_passBranches_37 (xc_50 G h) rfl (Nat.le_of_ble_eq_true rfl) (by decide) rfl (fun w h => List.mem_cons_of_mem _ (iWC_X0 w h)) tyX0_ok nmX0 (by decide) rfl rfl (by decide +kernel) rfl rfl (C.1.2.2.2.2.1 _ (List.mem_cons_of_mem _ qC_12)) (fun h1 => ?_)
        refine x_aload_n C.1 dX0_passBranches_40 rfl 0 rfl ?_
        refine x_bipush (v := 40) C.1 dX0_passBranches_41 (by decide) ?_
        refine z_callVi C dX0_passBranches_43 (M_X0_pass_t28 G l N 40 h1) (cwV 1 C.1.2.2.2.2.1 (gdV gWC qC_47 qC_48 qC_49 qC_50 qC_10) rfl rfl rfl (by decide +kernel) ⟨by dsimp only; omega, by dsimp only; omega⟩) (xc_50 G h1) (by decide) rfl rfl rfl (Nat.le_of_ble_eq_true rfl) (fun r2 h3 => ?_)
        refine x_if_ne (tgt := 51) C.1 dX0_passBranches_46 (by decide) ?_ ?_
        · refine x_iconst (v := 0) C.1 dX0_passBranches_49 (by decide) ?_
          exact x_zretL C.1 dX0_passBranches_50 hr rfl
        · refine x_aload_n C.1 dX0_passBranches_51 rfl 0 rfl ?_
          refine x_get (v := .ref (xad G 30)) C.1 0 dX0_passBranches_52 (xc_50 G h3) rfl (by decide) rfl (fun w h => List.mem_cons_of_mem _ (iWC_X0 w h)) (by decide) rfl (C.1.2.2.2.2.1 _ (List.mem_cons_of_mem _ qC_63)) ?_
          refine x_get (v := .ref (xad G 34)) C.1 4 dX0_passBranches_55 (xc_30 G h3) rfl (by decide) rfl (fun w h => List.mem_cons_of_mem _ (iWC_X1 w h)) (by decide) rfl (C.1.2.2.2.2.1 _ (List.mem_cons_of_mem _ qC_65)) ?_
          refine x_iload_n C.1 dX0_passBranches_58 rfl 1 rfl ?_
          refine x_iconst (v := 0) C.1 dX0_passBranches_59 (by decide) ?_
          refine x_iast (n := 10) C.1 dX0_passBranches_60 (fun g => xp_34 G g _ _) (by decide) (fun h4 => ?_)
          refine x_aload_n C.1 dX0_passBranches_61 rfl 0 rfl ?_
          refine x_iload_n C.1 dX0_passBranches_62 rfl 2 rfl ?_
          refine x_iconst (v := 1) C.1 dX0_passBranches_63 (by decide) ?_
          refine x_iadd C.1 dX0_passBranches_64 ?_
          refine z_callVi C dX0_passBranches_65 (hA (p2 + 1) h4) (cwV 1 C.1.2.2.2.2.1 (gdV gWC qC_83 qC_84 qC_85 qC_50 qC_86) rfl rfl rfl (by decide +kernel) ⟨by dsimp only; omega, by dsimp only; omega⟩) (xc_50 G h4) (by decide) rfl rfl rfl (Nat.le_of_ble_eq_true rfl) (fun r5 h6 => ?_)
          refine x_if_eq (tgt := 80) C.1 dX0_passBranches_68 (by decide) ?_ ?_
          · exact x_sub [] rfl (T_X0_passBranches_t28_80 C hr hA h6)
          · refine x_aload_n C.1 dX0_passBranches_71 rfl 0 rfl ?_
            refine x_bipush (v := 44) C.1 dX0_passBranches_72 (by decide) ?_
            refine z_callVi C dX0_passBranches_74 (M_X0_pass_t28 G l N 44 h6) (cwV 1 C.1.2.2.2.2.1 (gdV gWC qC_47 qC_48 qC_49 qC_50 qC_10) rfl rfl rfl (by decide +kernel) ⟨by dsimp only; omega, by dsimp only; omega⟩) (xc_50 G h6) (by decide) rfl rfl rfl (Nat.le_of_ble_eq_true rfl) (fun r7 h8 => ?_)
            refine x_if_ne (tgt := 82) C.1 dX0_passBranches_77 (by decide) ?_ ?_
            · exact x_sub [] rfl (T_X0_passBranches_t28_80 C hr hA h8)
            · refine x_aload_n C.1 dX0_passBranches_82 rfl 0 rfl ?_
              refine x_get (v := .ref (xad G 30)) C.1 0 dX0_passBranches_83 (xc_50 G h8) rfl (by decide) rfl (fun w h => List.mem_cons_of_mem _ (iWC_X0 w h)) (by decide) rfl (C.1.2.2.2.2.1 _ (List.mem_cons_of_mem _ qC_63)) ?_
              refine x_get (v := .ref (xad G 34)) C.1 4 dX0_passBranches_86 (xc_30 G h8) rfl (by decide) rfl (fun w h => List.mem_cons_of_mem _ (iWC_X1 w h)) (by decide) rfl (C.1.2.2.2.2.1 _ (List.mem_cons_of_mem _ qC_65)) ?_
              refine x_iload_n C.1 dX0_passBranches_89 rfl 1 rfl ?_
              refine x_iconst (v := 2) C.1 dX0_passBranches_90 (by decide) ?_
              refine x_iast (n := 10) C.1 dX0_passBranches_91 (fun g => xp_34 G g _ _) (by decide) (fun h9 => ?_)
              refine x_aload_n C.1 dX0_passBranches_92 rfl 0 rfl ?_
              refine x_iload_n C.1 dX0_passBranches_93 rfl 2 rfl ?_
              refine x_iconst (v := 1) C.1 dX0_passBranches_94 (by decide) ?_
              refine x_iadd C.1 dX0_passBranches_95 ?_
              refine z_callVi C dX0_passBranches_96 (hA (p2 + 1) h9) (cwV 1 C.1.2.2.2.2.1 (gdV gWC qC_83 qC_84 qC_85 qC_50 qC_86) rfl rfl rfl (by decide +kernel) ⟨by dsimp only; omega, by dsimp only; omega⟩) (xc_50 G h9) (by decide) rfl rfl rfl (Nat.le_of_ble_eq_true rfl) (fun r10 h11 => ?_)
              refine x_if_eq (tgt := 111) C.1 dX0_passBranches_99 (by decide) ?_ ?_
              · exact x_sub [] rfl (T_X0_passBranches_t28_111 C hr hA h11)
              · refine x_aload_n C.1 dX0_passBranches_102 rfl 0 rfl ?_
                refine x_bipush (v := 41) C.1 dX0_passBranches_103 (by decide) ?_
                refine z_callVi C dX0_passBranches_105 (M_X0_pass_t28 G l N 41 h11) (cwV 1 C.1.2.2.2.2.1 (gdV gWC qC_47 qC_48 qC_49 qC_50 qC_10) rfl rfl rfl (by decide +kernel) ⟨by dsimp only; omega, by dsimp only; omega⟩) (xc_50 G h11) (by decide) rfl rfl rfl (Nat.le_of_ble_eq_true rfl) (fun r12 h13 => ?_)
                refine x_if_ne (tgt := 113) C.1 dX0_passBranches_108 (by decide) ?_ ?_
                · exact x_sub [] rfl (T_X0_passBranches_t28_111 C hr hA h13)
                · refine x_aload_n C.1 dX0_passBranches_113 rfl 0 rfl ?_
                  refine x_get (v := .ref (xad G 30)) C.1 0 dX0_passBranches_114 (xc_50 G h13) rfl (by decide) rfl (fun w h => List.mem_cons_of_mem _ (iWC_X0 w h)) (by decide) rfl (C.1.2.2.2.2.1 _ (List.mem_cons_of_mem _ qC_63)) ?_
                  refine x_get (v := .ref (xad G 34)) C.1 4 dX0_passBranches_117 (xc_30 G h13) rfl (by decide) rfl (fun w h => List.mem_cons_of_mem _ (iWC_X1 w h)) (by decide) rfl (C.1.2.2.2.2.1 _ (List.mem_cons_of_mem _ qC_65)) ?_
                  refine x_iload_n C.1 dX0_passBranches_120 rfl 1 rfl ?_
                  refine x_iconst (v := 1) C.1 dX0_passBranches_121 (by decide) ?_
                  refine x_iast (n := 10) C.1 dX0_passBranches_122 (fun g => xp_34 G g _ _) (by decide) (fun h14 => ?_)
                  refine x_iconst (v := 1) C.1 dX0_passBranches_123 (by decide) ?_
                  exact x_zretL C.1 dX0_passBranches_124 hr rfl
      · exact x_sub [] rfl (T_X0_passBranches_t28_28 C hr hA h)
/-! X0_passTree_t28: 40 instructions -/
abbrev J_X0_passTree_t28 (d : Nat) (G : xG) (p : Program) (l : Launch) (e : Env) (s : State) (m : MethodId) (args : Array Value) (below : List Frame) (meth : Method) (c : Code) : Nat → List (Nat × Value) → List Value → xHp → Option (Int32 × xHp) → Prop := xJ G p l e ({ frames := 4 + 2 * (d + 1), cells := 0, slots := 0, locals := 125 + 44 * (d + 1) } : Room) s m args below meth c 3 (fun res => MQ below (xQi G res) args s 0 0 (xA G))
def F_X0_passTree_t28_41 (N : Nat) (rA : Int32 → xHp → Option (Int32 × xHp)) (h : xHp) : Option (Int32 × xHp) := some (0, h)
def F_X0_passTree_t28_76 (N : Nat) (rA : Int32 → xHp → Option (Int32 × xHp)) (h : xHp) : Option (Int32 × xHp) := some (0, h)
def F_X0_passTree_t28_r (N : Nat) (rA : Int32 → xHp → Option (Int32 × xHp)) (p1 : Int32) (h : xHp) : Option (Int32 × xHp) := grd (decide (h.2.2 = 28)) (bnd2 (F_X6_at_28 N (gI h 50 3) h) fun r1 h2 => if r1 = 46 then bnd2 (F_X1_judge_30 N h2) fun r3 h4 => if r3 = 0 then bnd2 (F_X0_pass_t28 N 46 h4) fun r5 h6 => if r5 = 0 then F_X0_passTree_t28_41 N rA h6 else some (1, h6) else F_X0_passTree_t28_41 N rA h4 else if r1 = 33 then bnd2 (F_X0_passRound_t28 N h2) fun r7 h8 => some (vp_nar .boolean r7, h8) else if 10 ≤ p1 then F_X0_passTree_t28_76 N rA h2 else bnd2 (F_X8_figureOf N r1 h2) fun r9 h10 => bnd2 (F_X0_passBranches_t28 N rA r9 p1 h10) fun r11 h12 => if r11 = 0 then F_X0_passTree_t28_76 N rA h12 else some (1, h12))
def F_X0_passTree_t28 (N d : Nat) (p1 : Int32) (h : xHp) : Option (Int32 × xHp) := xit (F_X0_passTree_t28_r N) (fun _ _ => none) d p1 h
set_option maxHeartbeats 4000000 in
set_option maxRecDepth 100000 in
theorem T_X0_passTree_t28_41 {G : xG} {p : Program} {l : Launch} {e : Env} {s : State} {m : MethodId} {args : Array Value} {below : List Frame} {meth : Method} {c : Code} {N : Nat} (C : xCz G p s m args meth c cX0_passTree 3 vX0_passTree RX0) (hr : meth.sig.returnType = (some .boolean)) {d : Nat} {rA : Int32 → xHp → Option (Int32 × xHp)} (hA : ∀ (a0 : Int32) (h : xHp) (r : Int32 × xHp), rA a0 h = some r → Met l yX0_passTree vX0_passTree ({ frames := 4 + 2 * d, cells := 0, slots := 0, locals := 125 + 44 * d } : Room) (xPz G [.ref (xad G 50), .int a0] h) (xQi G r) 0 0 (xA G)) (h : xHp) : J_X0_passTree_t28 d G p l e s m args below meth c 41 [] [] h (F_X0_passTree_t28_41 N rA h) := by
  unfold F_X0_passTree_t28_41
  refine x_iconst (v := 0) C.1 dX0_passTree_41 (by decide) ?_
  exact x_zretL C.1 dX0_passTree_42 hr rfl
set_option maxHeartbeats 4000000 in
set_option maxRecDepth 100000 in
theorem T_X0_passTree_t28_76 {G : xG} {p : Program} {l : Launch} {e : Env} {s : State} {m : MethodId} {args : Array Value} {below : List Frame} {meth : Method} {c : Code} {N : Nat} (C : xCz G p s m args meth c cX0_passTree 3 vX0_passTree RX0) (hr : meth.sig.returnType = (some .boolean)) {d : Nat} {rA : Int32 → xHp → Option (Int32 × xHp)} (hA : ∀ (a0 : Int32) (h : xHp) (r : Int32 × xHp), rA a0 h = some r → Met l yX0_passTree vX0_passTree ({ frames := 4 + 2 * d, cells := 0, slots := 0, locals := 125 + 44 * d } : Room) (xPz G [.ref (xad G 50), .int a0] h) (xQi G r) 0 0 (xA G)) (h : xHp) : J_X0_passTree_t28 d G p l e s m args below meth c 76 [] [] h (F_X0_passTree_t28_76 N rA h) := by
  unfold F_X0_passTree_t28_76
  refine x_iconst (v := 0) C.1 dX0_passTree_76 (by decide) ?_
  exact x_zretL C.1 dX0_passTree_77 hr rfl
set_option maxHeartbeats 4000000 in
set_option maxRecDepth 100000 in
theorem M_X0_passTree_t28_r (G : xG) (l : Launch) (N : Nat) {d : Nat} {rA : Int32 → xHp → Option (Int32 × xHp)} (hA : ∀ (a0 : Int32) (h : xHp) (r : Int32 × xHp), rA a0 h = some r → Met l yX0_passTree vX0_passTree ({ frames := 4 + 2 * d, cells := 0, slots := 0, locals := 125 + 44 * d } : Room) (xPz G [.ref (xad G 50), .int a0] h) (xQi G r) 0 0 (xA G)) (p1 : Int32) (h : xHp) : ∀ r, F_X0_passTree_t28_r N rA p1 h = some r → Met l yX0_passTree vX0_passTree ({ frames := 4 + 2 * (d + 1), cells := 0, slots := 0, locals := 125 + 44 * (d + 1) } : Room) (xPz G [.ref (xad G 50), .int p1] h) (xQi G r) 0 0 (xA G) := by
  refine z_met (own := RX0) (cc := cX0_passTree) (maxL := 3) (ret := (some .boolean)) (lv0 := [(0, .ref (xad G 50)), (1, .int p1)]) (by decide +kernel) rfl rfl (Nat.le_of_ble_eq_true rfl) rfl ?_
  intro p e s m below meth c C hr
  unfold F_X0_passTree_t28_r
  refine x_aload_n C.1 dX0_passTree_0 rfl 0 rfl ?_
  refine x_getT (t := 28) C.1 2 dX0_passTree_1 (xc_50 G h) rfl (by decide) rfl (fun w h => List.mem_cons_of_mem _ (iWC_X0 w h)) (by decide) rfl (C.1.2.2.2.2.1 _ (List.mem_cons_of_mem _ qC_11)) ?_
  refine x_aload_n C.1 dX0_passTree_4 rfl 0 rfl ?_
  refine x_get (v := .int (gI h 50 3)) C.1 3 dX0_passTree_5 (xc_50 G h) rfl (by decide) rfl (fun w h => List.mem_cons_of_mem _ (iWC_X0 w h)) (by decide) rfl (C.1.2.2.2.2.1 _ (List.mem_cons_of_mem _ qC_12)) ?_
  refine z_callVi C dX0_passTree_8 (M_X6_at_28 G l N (gI h 50 3) h) (cwV 1 C.1.2.2.2.2.1 (gdV gWC qC_13 qC_14 qC_15 qC_16 qC_7) rfl rfl rfl (by decide +kernel) ⟨by dsimp only; omega, by dsimp only; omega⟩) (xc_28 G h) (by decide) rfl rfl rfl (Nat.le_of_ble_eq_true rfl) (fun r1 h2 => ?_)
  refine x_istore_n (lv' := [(2, .int r1), (0, .ref (xad G 50)), (1, .int p1)]) C.1 dX0_passTree_11 rfl (by decide) rfl ?_
  refine x_iload_n C.1 dX0_passTree_12 rfl 0 rfl ?_
  refine x_bipush (v := 46) C.1 dX0_passTree_13 (by decide) ?_
  refine x_icmp_ne (tgt := 43) C.1 dX0_passTree_15 (by decide) ?_ ?_
  · refine x_aload_n C.1 dX0_passTree_18 rfl 1 rfl ?_
    refine x_get (v := .ref (xad G 30)) C.1 0 dX0_passTree_19 (xc_50 G h2) rfl (by decide) rfl (fun w h => List.mem_cons_of_mem _ (iWC_X0 w h)) (by decide) rfl (C.1.2.2.2.2.1 _ (List.mem_cons_of_mem _ qC_63)) ?_
    refine z_callVi C dX0_passTree_22 (M_X1_judge_30 G l N h2) (cwV 0 C.1.2.2.2.2.1 (gdV gWC qC_87 qC_88 qC_89 qC_32 qC_26) rfl rfl rfl (by decide +kernel) ⟨by dsimp only; omega, by dsimp only; omega⟩) (xc_30 G h2) (by decide) rfl rfl rfl (Nat.le_of_ble_eq_true rfl) (fun r3 h4 => ?_)
    refine x_if_ne (tgt := 41) C.1 dX0_passTree_25 (by decide) ?_ ?_
    · refine x_aload_n C.1 dX0_passTree_28 rfl 1 rfl ?_
      refine x_bipush (v := 46) C.1 dX0_passTree_29 (by decide) ?_
      refine z_callVi C dX0_passTree_31 (M_X0_pass_t28 G l N 46 h4) (cwV 1 C.1.2.2.2.2.1 (gdV gWC qC_47 qC_48 qC_49 qC_50 qC_10) rfl rfl rfl (by decide +kernel) ⟨by dsimp only; omega, by dsimp only; omega⟩) (xc_50 G h4) (by decide) rfl rfl rfl (Nat.le_of_ble_eq_true rfl) (fun r5 h6 => ?_)
      refine x_if_eq (tgt := 41) C.1 dX0_passTree_34 (by decide) ?_ ?_
      · exact x_sub [] rfl (T_X0_passTree_t28_41 C hr hA h6)
      · refine x_iconst (v := 1) C.1 dX0_passTree_37 (by decide) ?_
        refine x_goto (tgt := 42) C.1 dX0_passTree_38 (by decide) ?_
        exact x_zretL C.1 dX0_passTree_42 hr rfl
    · exact x_sub [] rfl (T_X0_passTree_t28_41 C hr hA h4)
  · refine x_iload_n C.1 dX0_passTree_43 rfl 0 rfl ?_
    refine x_bipush (v := 33) C.1 dX0_passTree_44 (by decide) ?_
    refine x_icmp_ne (tgt := 54) C.1 dX0_passTree_46 (by decide) ?_ ?_
    · refine x_aload_n C.1 dX0_passTree_49 rfl 1 rfl ?_
      refine z_callVi C dX0_passTree_50 (M_X0_passRound_t28 G l N h2) (cwV 0 C.1.2.2.2.2.1 (gdV gWC qC_90 qC_91 qC_92 qC_50 qC_82) rfl rfl rfl (by decide +kernel) ⟨by dsimp only; omega, by dsimp only; omega⟩) (xc_50 G h2) (by decide) rfl rfl rfl (Nat.le_of_ble_eq_true rfl) (fun r7 h8 => ?_)
      exact x_zret C.1 dX0_passTree_53 hr
    · refine x_iload_n C.1 dX0_passTree_54 rfl 2 rfl ?_
      refine x_bipush (v := 10) C.1 dX0_passTree_55 (by decide) ?_
      refine x_icmp_ge (tgt := 76) C.1 dX0_passTree_57 (by decide) ?_ ?_
      · exact x_sub [] rfl (T_X0_passTree_t28_76 C hr hA h2)
      · refine x_aload_n C.1 dX0_passTree_60 rfl 1 rfl ?_
        refine x_iload_n C.1 dX0_passTree_61 rfl 0 rfl ?_
        refine z_callNi (host := RX8) C dX0_passTree_62 (M_X8_figureOf G l N r1 h2) ⟨va_cnB 1 C.1.2.2.2.2.1 (gdN gWC qC_36) rfl rfl rfl C.2.1 (C.1.2.2.2.2.1 _ (List.mem_cons_of_mem _ qC_52)) (by decide +kernel) ⟨by dsimp only; omega, by dsimp only; omega⟩, (C.1.2.2.2.2.1 _ (List.mem_cons_of_mem _ qC_51)), trivial⟩ rfl rfl (Nat.le_of_ble_eq_true rfl) (fun r9 h10 => ?_)
        refine x_iload_n C.1 dX0_passTree_65 rfl 2 rfl ?_
        refine z_callVi C dX0_passTree_66 (M_X0_passBranches_t28 G l N hA r9 p1 h10) (cwV 2 C.1.2.2.2.2.1 (gdV gWC qC_93 qC_94 qC_95 qC_50 qC_96) rfl rfl rfl (by decide +kernel) ⟨by dsimp only; omega, by dsimp only; omega⟩) (xc_50 G h10) (by decide) rfl rfl rfl (Nat.le_of_ble_eq_true rfl) (fun r11 h12 => ?_)
        refine x_if_eq (tgt := 76) C.1 dX0_passTree_69 (by decide) ?_ ?_
        · exact x_sub [] rfl (T_X0_passTree_t28_76 C hr hA h12)
        · refine x_iconst (v := 1) C.1 dX0_passTree_72 (by decide) ?_
          refine x_goto (tgt := 77) C.1 dX0_passTree_73 (by decide) ?_
          exact x_zretL C.1 dX0_passTree_77 hr rfl
set_option maxHeartbeats 4000000 in
set_option maxRecDepth 100000 in
theorem M_X0_passTree_t28 (G : xG) (l : Launch) (N : Nat) : ∀ (d : Nat) (p1 : Int32) (h : xHp) (r : Int32 × xHp), F_X0_passTree_t28 N d p1 h = some r → Met l yX0_passTree vX0_passTree ({ frames := 4 + 2 * d, cells := 0, slots := 0, locals := 125 + 44 * d } : Room) (xPz G [.ref (xad G 50), .int p1] h) (xQi G r) 0 0 (xA G) := by
  intro d
  induction d with
  | zero => intros; rename_i hx; cases hx
  | succ d ih => intro p1 h r hx; exact M_X0_passTree_t28_r G l N (rA := F_X0_passTree_t28 N d) ih p1 h r hx
/-! X0_findFault_t28: 24 instructions -/
abbrev J_X0_findFault_t28 (G : xG) (p : Program) (l : Launch) (e : Env) (s : State) (m : MethodId) (args : Array Value) (below : List Frame) (meth : Method) (c : Code) : Nat → List (Nat × Value) → List Value → xHp → Option (Int32 × xHp) → Prop := xJ G p l e ({ frames := 29, cells := 0, slots := 0, locals := 675 } : Room) s m args below meth c 2 (fun res => MQ below (xQi G res) args s 0 0 (xA G))
def F_X0_findFault_t28_43 (N : Nat) (h : xHp) : Option (Int32 × xHp) := some ((gI h 50 3), h)
def F_X0_findFault_t28 (N : Nat) (h : xHp) : Option (Int32 × xHp) := bnd (sT h 28) fun h1 => bnd (sI h1 50 3 0) fun h2 => bnd2 (F_X1_giveNothing_30 N h2) fun r3 h4 => bnd2 (F_X0_passTree_t28 N 12 0 h4) fun r5 h6 => if r5 = 0 then F_X0_findFault_t28_43 N h6 else grd (decide (h6.2.2 = 28)) (if (gI h6 50 3) = (gI h6 28 1) then some ((-1), h6) else F_X0_findFault_t28_43 N h6)
set_option maxHeartbeats 4000000 in
set_option maxRecDepth 100000 in
theorem T_X0_findFault_t28_43 {G : xG} {p : Program} {l : Launch} {e : Env} {s : State} {m : MethodId} {args : Array Value} {below : List Frame} {meth : Method} {c : Code} {N : Nat} (C : xCz G p s m args meth c cX0_findFault 2 vX0_findFault RX0) (hr : meth.sig.returnType = (some .int)) (h : xHp) : J_X0_findFault_t28 G p l e s m args below meth c 43 [(0, .ref (xad G 50))] [] h (F_X0_findFault_t28_43 N h) := by
  unfold F_X0_findFault_t28_43
  refine x_aload_n C.1 dX0_findFault_43 rfl 0 rfl ?_
  refine x_get (v := .int (gI h 50 3)) C.1 3 dX0_findFault_44 (xc_50 G h) rfl (by decide) rfl (fun w h => List.mem_cons_of_mem _ (iWC_X0 w h)) (by decide) rfl (C.1.2.2.2.2.1 _ (List.mem_cons_of_mem _ qC_12)) ?_
  exact x_iret C.1 dX0_findFault_47 hr
set_option maxHeartbeats 4000000 in
set_option maxRecDepth 100000 in
theorem M_X0_findFault_t28 (G : xG) (l : Launch) (N : Nat) (h : xHp) : ∀ r, F_X0_findFault_t28 N h = some r → Met l yX0_findFault vX0_findFault ({ frames := 29, cells := 0, slots := 0, locals := 675 } : Room) (xPz G [.ref (xad G 50), .ref (xad G 28)] h) (xQi G r) 0 0 (xA G) := by
  refine z_met (own := RX0) (cc := cX0_findFault) (maxL := 2) (ret := (some .int)) (lv0 := [(0, .ref (xad G 50)), (1, .ref (xad G 28))]) (by decide +kernel) rfl rfl (Nat.le_of_ble_eq_true rfl) rfl ?_
  intro p e s m below meth c C hr
  unfold F_X0_findFault_t28
  refine x_aload_n C.1 dX0_findFault_0 rfl 0 rfl ?_
  refine x_aload_n C.1 dX0_findFault_1 rfl 1 rfl ?_
  refine x_putT (ty0 := tyX0) (ty := .object "DistanceSolver$Text") C.1 2 dX0_findFault_2 (xc_50 G h) rfl (Nat.le_of_ble_eq_true rfl) (by decide) rfl (fun w h => List.mem_cons_of_mem _ (iWC_X0 w h)) tyX0_ok nmX0 (by decide) rfl rfl (by decide +kernel) rfl rfl (C.1.2.2.2.2.1 _ (List.mem_cons_of_mem _ qC_11)) (fun h1 => ?_)
  refine x_aload_n C.1 dX0_findFault_5 rfl 0 rfl ?_
  refine x_iconst (v := 0) C.1 dX0_findFault_6 (by decide) ?_
  refine x_putI (ty0 := tyX0) (ty := .int) C.1 3 dX0_findFault_7 (xc_50 G h1) rfl (Nat.le_of_ble_eq_true rfl) (by decide) rfl (fun w h => List.mem_cons_of_mem _ (iWC_X0 w h)) tyX0_ok nmX0 (by decide) rfl rfl (by decide +kernel) rfl rfl (C.1.2.2.2.2.1 _ (List.mem_cons_of_mem _ qC_12)) (fun h2 => ?_)
  refine x_aload_n C.1 dX0_findFault_10 rfl 0 rfl ?_
  refine x_get (v := .ref (xad G 30)) C.1 0 dX0_findFault_11 (xc_50 G h2) rfl (by decide) rfl (fun w h => List.mem_cons_of_mem _ (iWC_X0 w h)) (by decide) rfl (C.1.2.2.2.2.1 _ (List.mem_cons_of_mem _ qC_63)) ?_
  refine z_callVv C dX0_findFault_14 (M_X1_giveNothing_30 G l N h2) (cwV 0 C.1.2.2.2.2.1 (gdV gWC qC_98 qC_99 qC_100 qC_32 qC_2) rfl rfl rfl (by decide +kernel) ⟨Nat.le_of_ble_eq_true rfl, Nat.le_of_ble_eq_true rfl⟩) (xc_30 G h2) (by decide) rfl rfl rfl (Nat.le_of_ble_eq_true rfl) (fun r3 h4 => ?_)
  refine x_aload_n C.1 dX0_findFault_17 rfl 0 rfl ?_
  refine x_iconst (v := 0) C.1 dX0_findFault_18 (by decide) ?_
  refine z_callVi C dX0_findFault_19 (M_X0_passTree_t28 G l N 12 0 h4) (cwV 1 C.1.2.2.2.2.1 (gdV gWC qC_83 qC_84 qC_85 qC_50 qC_86) rfl rfl rfl (by decide +kernel) ⟨Nat.le_of_ble_eq_true rfl, Nat.le_of_ble_eq_true rfl⟩) (xc_50 G h4) (by decide) rfl rfl rfl (Nat.le_of_ble_eq_true rfl) (fun r5 h6 => ?_)
  refine x_if_eq (tgt := 43) C.1 dX0_findFault_22 (by decide) ?_ ?_
  · exact x_sub [0] rfl (T_X0_findFault_t28_43 C hr h6)
  · refine x_aload_n C.1 dX0_findFault_25 rfl 0 rfl ?_
    refine x_get (v := .int (gI h6 50 3)) C.1 3 dX0_findFault_26 (xc_50 G h6) rfl (by decide) rfl (fun w h => List.mem_cons_of_mem _ (iWC_X0 w h)) (by decide) rfl (C.1.2.2.2.2.1 _ (List.mem_cons_of_mem _ qC_12)) ?_
    refine x_aload_n C.1 dX0_findFault_29 rfl 0 rfl ?_
    refine x_getT (t := 28) C.1 2 dX0_findFault_30 (xc_50 G h6) rfl (by decide) rfl (fun w h => List.mem_cons_of_mem _ (iWC_X0 w h)) (by decide) rfl (C.1.2.2.2.2.1 _ (List.mem_cons_of_mem _ qC_11)) ?_
    refine x_get (v := .int (gI h6 28 1)) C.1 1 dX0_findFault_33 (xc_28 G h6) rfl (by decide) rfl (fun w h => List.mem_cons_of_mem _ (iWC_X6 w h)) (by decide) rfl (C.1.2.2.2.2.1 _ (List.mem_cons_of_mem _ qC_97)) ?_
    refine x_icmp_ne (tgt := 43) C.1 dX0_findFault_36 (by decide) ?_ ?_
    · refine x_iconst (v := (-1)) C.1 dX0_findFault_39 (by decide) ?_
      refine x_goto (tgt := 47) C.1 dX0_findFault_40 (by decide) ?_
      exact x_iret C.1 dX0_findFault_47 hr
    · exact x_sub [0] rfl (T_X0_findFault_t28_43 C hr h6)
/-! X0_pass_t26: 17 instructions -/
abbrev J_X0_pass_t26 (G : xG) (p : Program) (l : Launch) (e : Env) (s : State) (m : MethodId) (args : Array Value) (below : List Frame) (meth : Method) (c : Code) : Nat → List (Nat × Value) → List Value → xHp → Option (Int32 × xHp) → Prop := xJ G p l e ({ frames := 1, cells := 0, slots := 0, locals := 21 } : Room) s m args below meth c 2 (fun res => MQ below (xQi G res) args s 0 0 (xA G))
def F_X0_pass_t26 (N : Nat) (p1 : Int32) (h : xHp) : Option (Int32 × xHp) := grd (decide (h.2.2 = 26)) (bnd2 (F_X6_at_26 N (gI h 50 3) h) fun r1 h2 => if r1 = p1 then bnd (sI h2 50 3 ((gI h2 50 3) + 1)) fun h3 => some (1, h3) else some (0, h2))
set_option maxHeartbeats 4000000 in
set_option maxRecDepth 100000 in
theorem M_X0_pass_t26 (G : xG) (l : Launch) (N : Nat) (p1 : Int32) (h : xHp) : ∀ r, F_X0_pass_t26 N p1 h = some r → Met l yX0_pass vX0_pass ({ frames := 1, cells := 0, slots := 0, locals := 21 } : Room) (xPz G [.ref (xad G 50), .int p1] h) (xQi G r) 0 0 (xA G) := by
  refine z_met (own := RX0) (cc := cX0_pass) (maxL := 2) (ret := (some .boolean)) (lv0 := [(0, .ref (xad G 50)), (1, .int p1)]) (by decide +kernel) rfl rfl (Nat.le_of_ble_eq_true rfl) rfl ?_
  intro p e s m below meth c C hr
  unfold F_X0_pass_t26
  refine x_aload_n C.1 dX0_pass_0 rfl 0 rfl ?_
  refine x_getT (t := 26) C.1 2 dX0_pass_1 (xc_50 G h) rfl (by decide) rfl (fun w h => List.mem_cons_of_mem _ (iWC_X0 w h)) (by decide) rfl (C.1.2.2.2.2.1 _ (List.mem_cons_of_mem _ qC_11)) ?_
  refine x_aload_n C.1 dX0_pass_4 rfl 0 rfl ?_
  refine x_get (v := .int (gI h 50 3)) C.1 3 dX0_pass_5 (xc_50 G h) rfl (by decide) rfl (fun w h => List.mem_cons_of_mem _ (iWC_X0 w h)) (by decide) rfl (C.1.2.2.2.2.1 _ (List.mem_cons_of_mem _ qC_12)) ?_
  refine z_callVi C dX0_pass_8 (M_X6_at_26 G l N (gI h 50 3) h) (cwV 1 C.1.2.2.2.2.1 (gdV gWC qC_13 qC_14 qC_15 qC_16 qC_7) rfl rfl rfl (by decide +kernel) ⟨Nat.le_of_ble_eq_true rfl, Nat.le_of_ble_eq_true rfl⟩) (xc_26 G h) (by decide) rfl rfl rfl (Nat.le_of_ble_eq_true rfl) (fun r1 h2 => ?_)
  refine x_iload_n C.1 dX0_pass_11 rfl 1 rfl ?_
  refine x_icmp_eq (tgt := 17) C.1 dX0_pass_12 (by decide) ?_ ?_
  · refine x_aload_n C.1 dX0_pass_17 rfl 0 rfl ?_
    refine x_dup C.1 dX0_pass_18 rfl ?_
    refine x_get (v := .int (gI h2 50 3)) C.1 3 dX0_pass_19 (xc_50 G h2) rfl (by decide) rfl (fun w h => List.mem_cons_of_mem _ (iWC_X0 w h)) (by decide) rfl (C.1.2.2.2.2.1 _ (List.mem_cons_of_mem _ qC_12)) ?_
    refine x_iconst (v := 1) C.1 dX0_pass_22 (by decide) ?_
    refine x_iadd C.1 dX0_pass_23 ?_
    refine x_putI (ty0 := tyX0) (ty := .int) C.1 3 dX0_pass_24 (xc_50 G h2) rfl (Nat.le_of_ble_eq_true rfl) (by decide) rfl (fun w h => List.mem_cons_of_mem _ (iWC_X0 w h)) tyX0_ok nmX0 (by decide) rfl rfl (by decide +kernel) rfl rfl (C.1.2.2.2.2.1 _ (List.mem_cons_of_mem _ qC_12)) (fun h3 => ?_)
    refine x_iconst (v := 1) C.1 dX0_pass_27 (by decide) ?_
    exact x_zretL C.1 dX0_pass_28 hr rfl
  · refine x_iconst (v := 0) C.1 dX0_pass_15 (by decide) ?_
    exact x_zretL C.1 dX0_pass_16 hr rfl
/-! X0_leadOn_t26: 30 instructions -/
abbrev J_X0_leadOn_t26 (G : xG) (p : Program) (l : Launch) (e : Env) (s : State) (m : MethodId) (args : Array Value) (below : List Frame) (meth : Method) (c : Code) : Nat → List (Nat × Value) → List Value → xHp → Option (Int32 × xHp) → Prop := xJ G p l e ({ frames := 0, cells := 0, slots := 0, locals := 0 } : Room) s m args below meth c 4 (fun res => MQ below (xQi G res) args s 0 0 (xA G))
def F_X0_leadOn_t26_34 (N : Nat) (x2 : Int32) (x3 : Int32) (h : xHp) : Option (Int32 × xHp) := bnd (sI h 50 6 x2) fun h1 => bnd (sJ h1 50 7 ((gJ h1 50 7) + (x3.toInt64))) fun h2 => some (1, h2)
def F_X0_leadOn_t26_17 (N : Nat) (x1 : Int32) (x2 : Int32) (x3 : Int32) (h : xHp) : Option (Int32 × xHp) := if (gI h 50 4) = 0 then bnd (sI h 50 5 x1) fun h1 => bnd (sI h1 50 4 1) fun h2 => F_X0_leadOn_t26_34 N x2 x3 h2 else F_X0_leadOn_t26_34 N x2 x3 h
def F_X0_leadOn_t26 (N : Nat) (p1 : Int32) (p2 : Int32) (p3 : Int32) (h : xHp) : Option (Int32 × xHp) := if (gI h 50 4) = 0 then F_X0_leadOn_t26_17 N p1 p2 p3 h else if p1 = (gI h 50 6) then F_X0_leadOn_t26_17 N p1 p2 p3 h else some (0, h)
set_option maxHeartbeats 4000000 in
set_option maxRecDepth 100000 in
theorem T_X0_leadOn_t26_34 {G : xG} {p : Program} {l : Launch} {e : Env} {s : State} {m : MethodId} {args : Array Value} {below : List Frame} {meth : Method} {c : Code} {N : Nat} (C : xCz G p s m args meth c cX0_leadOn 4 vX0_leadOn RX0) (hr : meth.sig.returnType = (some .boolean)) (x2 : Int32) (x3 : Int32) (h : xHp) : J_X0_leadOn_t26 G p l e s m args below meth c 34 [(0, .ref (xad G 50)), (2, .int x2), (3, .int x3)] [] h (F_X0_leadOn_t26_34 N x2 x3 h) := by
  unfold F_X0_leadOn_t26_34
  refine x_aload_n C.1 dX0_leadOn_34 rfl 0 rfl ?_
  refine x_iload_n C.1 dX0_leadOn_35 rfl 1 rfl ?_
  refine x_putI (ty0 := tyX0) (ty := .int) C.1 6 dX0_leadOn_36 (xc_50 G h) rfl (Nat.le_of_ble_eq_true rfl) (by decide) rfl (fun w h => List.mem_cons_of_mem _ (iWC_X0 w h)) tyX0_ok nmX0 (by decide) rfl rfl (by decide +kernel) rfl rfl (C.1.2.2.2.2.1 _ (List.mem_cons_of_mem _ qC_39)) (fun h1 => ?_)
  refine x_aload_n C.1 dX0_leadOn_39 rfl 0 rfl ?_
  refine x_dup C.1 dX0_leadOn_40 rfl ?_
  refine x_get (v := .long (gJ h1 50 7)) C.1 7 dX0_leadOn_41 (xc_50 G h1) rfl (by decide) rfl (fun w h => List.mem_cons_of_mem _ (iWC_X0 w h)) (by decide) rfl (C.1.2.2.2.2.1 _ (List.mem_cons_of_mem _ qC_41)) ?_
  refine x_iload_n C.1 dX0_leadOn_44 rfl 2 rfl ?_
  refine x_i2l C.1 dX0_leadOn_45 ?_
  refine x_ladd C.1 dX0_leadOn_46 ?_
  refine x_putJ (ty0 := tyX0) (ty := .long) C.1 7 dX0_leadOn_47 (xc_50 G h1) rfl (Nat.le_of_ble_eq_true rfl) (by decide) rfl (fun w h => List.mem_cons_of_mem _ (iWC_X0 w h)) tyX0_ok nmX0 (by decide) rfl rfl (by decide +kernel) rfl rfl (C.1.2.2.2.2.1 _ (List.mem_cons_of_mem _ qC_41)) (fun h2 => ?_)
  refine x_iconst (v := 1) C.1 dX0_leadOn_50 (by decide) ?_
  exact x_zretL C.1 dX0_leadOn_51 hr rfl
set_option maxHeartbeats 4000000 in
set_option maxRecDepth 100000 in
theorem T_X0_leadOn_t26_17 {G : xG} {p : Program} {l : Launch} {e : Env} {s : State} {m : MethodId} {args : Array Value} {below : List Frame} {meth : Method} {c : Code} {N : Nat} (C : xCz G p s m args meth c cX0_leadOn 4 vX0_leadOn RX0) (hr : meth.sig.returnType = (some .boolean)) (x1 : Int32) (x2 : Int32) (x3 : Int32) (h : xHp) : J_X0_leadOn_t26 G p l e s m args below meth c 17 [(0, .ref (xad G 50)), (1, .int x1), (2, .int x2), (3, .int x3)] [] h (F_X0_leadOn_t26_17 N x1 x2 x3 h) := by
  unfold F_X0_leadOn_t26_17
  refine x_aload_n C.1 dX0_leadOn_17 rfl 0 rfl ?_
  refine x_get (v := .int (gI h 50 4)) C.1 4 dX0_leadOn_18 (xc_50 G h) rfl (by decide) rfl (fun w h => List.mem_cons_of_mem _ (iWC_X0 w h)) (by decide) rfl (C.1.2.2.2.2.1 _ (List.mem_cons_of_mem _ qC_38)) ?_
  refine x_if_ne (tgt := 34) C.1 dX0_leadOn_21 (by decide) ?_ ?_
  · refine x_aload_n C.1 dX0_leadOn_24 rfl 0 rfl ?_
    refine x_iload_n C.1 dX0_leadOn_25 rfl 1 rfl ?_
    refine x_putI (ty0 := tyX0) (ty := .int) C.1 5 dX0_leadOn_26 (xc_50 G h) rfl (Nat.le_of_ble_eq_true rfl) (by decide) rfl (fun w h => List.mem_cons_of_mem _ (iWC_X0 w h)) tyX0_ok nmX0 (by decide) rfl rfl (by decide +kernel) rfl rfl (C.1.2.2.2.2.1 _ (List.mem_cons_of_mem _ qC_40)) (fun h1 => ?_)
    refine x_aload_n C.1 dX0_leadOn_29 rfl 0 rfl ?_
    refine x_iconst (v := 1) C.1 dX0_leadOn_30 (by decide) ?_
    refine x_putI (ty0 := tyX0) (ty := .boolean) C.1 4 dX0_leadOn_31 (xc_50 G h1) rfl (Nat.le_of_ble_eq_true rfl) (by decide) rfl (fun w h => List.mem_cons_of_mem _ (iWC_X0 w h)) tyX0_ok nmX0 (by decide) rfl rfl (by decide +kernel) rfl rfl (C.1.2.2.2.2.1 _ (List.mem_cons_of_mem _ qC_38)) (fun h2 => ?_)
    exact x_sub [0, 2, 3] rfl (T_X0_leadOn_t26_34 C hr x2 x3 h2)
  · exact x_sub [0, 2, 3] rfl (T_X0_leadOn_t26_34 C hr x2 x3 h)
set_option maxHeartbeats 4000000 in
set_option maxRecDepth 100000 in
theorem M_X0_leadOn_t26 (G : xG) (l : Launch) (N : Nat) (p1 : Int32) (p2 : Int32) (p3 : Int32) (h : xHp) : ∀ r, F_X0_leadOn_t26 N p1 p2 p3 h = some r → Met l yX0_leadOn vX0_leadOn ({ frames := 0, cells := 0, slots := 0, locals := 0 } : Room) (xPz G [.ref (xad G 50), .int p1, .int p2, .int p3] h) (xQi G r) 0 0 (xA G) := by
  refine z_met (own := RX0) (cc := cX0_leadOn) (maxL := 4) (ret := (some .boolean)) (lv0 := [(0, .ref (xad G 50)), (1, .int p1), (2, .int p2), (3, .int p3)]) (by decide +kernel) rfl rfl (Nat.le_of_ble_eq_true rfl) rfl ?_
  intro p e s m below meth c C hr
  unfold F_X0_leadOn_t26
  refine x_aload_n C.1 dX0_leadOn_0 rfl 0 rfl ?_
  refine x_get (v := .int (gI h 50 4)) C.1 4 dX0_leadOn_1 (xc_50 G h) rfl (by decide) rfl (fun w h => List.mem_cons_of_mem _ (iWC_X0 w h)) (by decide) rfl (C.1.2.2.2.2.1 _ (List.mem_cons_of_mem _ qC_38)) ?_
  refine x_if_eq (tgt := 17) C.1 dX0_leadOn_4 (by decide) ?_ ?_
  · exact x_sub [0, 1, 2, 3] rfl (T_X0_leadOn_t26_17 C hr p1 p2 p3 h)
  · refine x_iload_n C.1 dX0_leadOn_7 rfl 1 rfl ?_
    refine x_aload_n C.1 dX0_leadOn_8 rfl 0 rfl ?_
    refine x_get (v := .int (gI h 50 6)) C.1 6 dX0_leadOn_9 (xc_50 G h) rfl (by decide) rfl (fun w h => List.mem_cons_of_mem _ (iWC_X0 w h)) (by decide) rfl (C.1.2.2.2.2.1 _ (List.mem_cons_of_mem _ qC_39)) ?_
    refine x_icmp_eq (tgt := 17) C.1 dX0_leadOn_12 (by decide) ?_ ?_
    · exact x_sub [0, 1, 2, 3] rfl (T_X0_leadOn_t26_17 C hr p1 p2 p3 h)
    · refine x_iconst (v := 0) C.1 dX0_leadOn_15 (by decide) ?_
      exact x_zretL C.1 dX0_leadOn_16 hr rfl
/-! X0_passConstraint_t26: 85 instructions -/
abbrev J_X0_passConstraint_t26 (G : xG) (p : Program) (l : Launch) (e : Env) (s : State) (m : MethodId) (args : Array Value) (below : List Frame) (meth : Method) (c : Code) : Nat → List (Nat × Value) → List Value → xHp → Option (Int32 × xHp) → Prop := xJ G p l e ({ frames := 2, cells := 0, slots := 0, locals := 42 } : Room) s m args below meth c 4 (fun res => MQ below (xQi G res) args s 0 0 (xA G))
def F_X0_passConstraint_t26_141 (N : Nat) (x1 : Int32) (h : xHp) : Option (Int32 × xHp) := bnd (sI h 50 3 x1) fun h1 => some (0, h1)
def F_X0_passConstraint_t26_85 (N : Nat) (x1 : Int32) (x2 : Int32) (h : xHp) : Option (Int32 × xHp) := bnd2 (F_X0_pass_t26 N 93 h) fun r1 h2 => if r1 = 0 then some (0, h2) else if (gI h2 1 3) ≤ x2 then F_X0_passConstraint_t26_141 N x1 h2 else grd (xin x2 70) (grd (xin x2 70) (grd (xin x2 70) (bnd2 (F_X0_leadOn_t26 N (gI h2 2 x2.toNatClampNeg) (gI h2 3 x2.toNatClampNeg) (gI h2 4 x2.toNatClampNeg) h2) fun r3 h4 => if r3 = 0 then F_X0_passConstraint_t26_141 N x1 h4 else some (1, h4))))
def F_X0_passConstraint_t26 (N : Nat) (h : xHp) : Option (Int32 × xHp) := bnd2 (F_X0_pass_t26 N 91 h) fun r1 h2 => if r1 = 0 then some (0, h2) else grd (decide (h2.2.2 = 26)) (bnd2 (F_X6_at_26 N (gI h2 50 3) h2) fun r3 h4 => bnd2 (F_X8_figureOf N r3 h4) fun r5 h6 => if r5 = (-1) then some (0, h6) else bnd (sI h6 50 3 ((gI h6 50 3) + 1)) fun h7 => grd (decide (h7.2.2 = 26)) (bnd2 (F_X6_at_26 N (gI h7 50 3) h7) fun r8 h9 => bnd2 (F_X8_figureOf N r8 h9) fun r10 h11 => if r10 = (-1) then F_X0_passConstraint_t26_85 N (gI h 50 3) r5 h11 else bnd (sI h11 50 3 ((gI h11 50 3) + 1)) fun h12 => F_X0_passConstraint_t26_85 N (gI h 50 3) ((10 * r5) + r10) h12))
set_option maxHeartbeats 4000000 in
set_option maxRecDepth 100000 in
theorem T_X0_passConstraint_t26_141 {G : xG} {p : Program} {l : Launch} {e : Env} {s : State} {m : MethodId} {args : Array Value} {below : List Frame} {meth : Method} {c : Code} {N : Nat} (C : xCz G p s m args meth c cX0_passConstraint 4 vX0_passConstraint RX0) (hr : meth.sig.returnType = (some .boolean)) (x1 : Int32) (h : xHp) : J_X0_passConstraint_t26 G p l e s m args below meth c 141 [(0, .ref (xad G 50)), (1, .int x1)] [] h (F_X0_passConstraint_t26_141 N x1 h) := by
  unfold F_X0_passConstraint_t26_141
  refine x_aload_n C.1 dX0_passConstraint_141 rfl 0 rfl ?_
  refine x_iload_n C.1 dX0_passConstraint_142 rfl 1 rfl ?_
  refine x_putI (ty0 := tyX0) (ty := .int) C.1 3 dX0_passConstraint_143 (xc_50 G h) rfl (Nat.le_of_ble_eq_true rfl) (by decide) rfl (fun w h => List.mem_cons_of_mem _ (iWC_X0 w h)) tyX0_ok nmX0 (by decide) rfl rfl (by decide +kernel) rfl rfl (C.1.2.2.2.2.1 _ (List.mem_cons_of_mem _ qC_12)) (fun h1 => ?_)
  refine x_iconst (v := 0) C.1 dX0_passConstraint_146 (by decide) ?_
  exact x_zretL C.1 dX0_passConstraint_147 hr rfl
set_option maxHeartbeats 4000000 in
set_option maxRecDepth 100000 in
theorem T_X0_passConstraint_t26_85 {G : xG} {p : Program} {l : Launch} {e : Env} {s : State} {m : MethodId} {args : Array Value} {below : List Frame} {meth : Method} {c : Code} {N : Nat} (C : xCz G p s m args meth c cX0_passConstraint 4 vX0_passConstraint RX0) (hr : meth.sig.returnType = (some .boolean)) (x1 : Int32) (x2 : Int32) (h : xHp) : J_X0_passConstraint_t26 G p l e s m args below meth c 85 [(0, .ref (xad G 50)), (1, .int x1), (2, .int x2)] [] h (F_X0_passConstraint_t26_85 N x1 x2 h) := by
  unfold F_X0_passConstraint_t26_85
  refine x_aload_n C.1 dX0_passConstraint_85 rfl 0 rfl ?_
  refine x_bipush (v := 93) C.1 dX0_passConstraint_86 (by decide) ?_
  refine z_callVi C dX0_passConstraint_88 (M_X0_pass_t26 G l N 93 h) (cwV 1 C.1.2.2.2.2.1 (gdV gWC qC_47 qC_48 qC_49 qC_50 qC_10) rfl rfl rfl (by decide +kernel) ⟨Nat.le_of_ble_eq_true rfl, Nat.le_of_ble_eq_true rfl⟩) (xc_50 G h) (by decide) rfl rfl rfl (Nat.le_of_ble_eq_true rfl) (fun r1 h2 => ?_)
  refine x_if_ne (tgt := 96) C.1 dX0_passConstraint_91 (by decide) ?_ ?_
  · refine x_iconst (v := 0) C.1 dX0_passConstraint_94 (by decide) ?_
    exact x_zretL C.1 dX0_passConstraint_95 hr rfl
  · refine x_iload_n C.1 dX0_passConstraint_96 rfl 2 rfl ?_
    refine x_aload_n C.1 dX0_passConstraint_97 rfl 0 rfl ?_
    refine x_get (v := .ref (xad G 1)) C.1 1 dX0_passConstraint_98 (xc_50 G h2) rfl (by decide) rfl (fun w h => List.mem_cons_of_mem _ (iWC_X0 w h)) (by decide) rfl (C.1.2.2.2.2.1 _ (List.mem_cons_of_mem _ qC_42)) ?_
    refine x_get (v := .int (gI h2 1 3)) C.1 3 dX0_passConstraint_101 (xc_1 G h2) rfl (by decide) rfl (fun w h => List.mem_cons_of_mem _ (iWC_X2 w h)) (by decide) rfl (C.1.2.2.2.2.1 _ (List.mem_cons_of_mem _ qC_43)) ?_
    refine x_icmp_ge (tgt := 141) C.1 dX0_passConstraint_104 (by decide) ?_ ?_
    · exact x_sub [0, 1] rfl (T_X0_passConstraint_t26_141 C hr x1 h2)
    · refine x_aload_n C.1 dX0_passConstraint_107 rfl 0 rfl ?_
      refine x_aload_n C.1 dX0_passConstraint_108 rfl 0 rfl ?_
      refine x_get (v := .ref (xad G 1)) C.1 1 dX0_passConstraint_109 (xc_50 G h2) rfl (by decide) rfl (fun w h => List.mem_cons_of_mem _ (iWC_X0 w h)) (by decide) rfl (C.1.2.2.2.2.1 _ (List.mem_cons_of_mem _ qC_42)) ?_
      refine x_get (v := .ref (xad G 2)) C.1 0 dX0_passConstraint_112 (xc_1 G h2) rfl (by decide) rfl (fun w h => List.mem_cons_of_mem _ (iWC_X2 w h)) (by decide) rfl (C.1.2.2.2.2.1 _ (List.mem_cons_of_mem _ qC_44)) ?_
      refine x_iload_n C.1 dX0_passConstraint_115 rfl 2 rfl ?_
      refine x_iald (n := 70) C.1 dX0_passConstraint_116 (xc_2 G h2) (by decide) ?_
      refine x_aload_n C.1 dX0_passConstraint_117 rfl 0 rfl ?_
      refine x_get (v := .ref (xad G 1)) C.1 1 dX0_passConstraint_118 (xc_50 G h2) rfl (by decide) rfl (fun w h => List.mem_cons_of_mem _ (iWC_X0 w h)) (by decide) rfl (C.1.2.2.2.2.1 _ (List.mem_cons_of_mem _ qC_42)) ?_
      refine x_get (v := .ref (xad G 3)) C.1 1 dX0_passConstraint_121 (xc_1 G h2) rfl (by decide) rfl (fun w h => List.mem_cons_of_mem _ (iWC_X2 w h)) (by decide) rfl (C.1.2.2.2.2.1 _ (List.mem_cons_of_mem _ qC_45)) ?_
      refine x_iload_n C.1 dX0_passConstraint_124 rfl 2 rfl ?_
      refine x_iald (n := 70) C.1 dX0_passConstraint_125 (xc_3 G h2) (by decide) ?_
      refine x_aload_n C.1 dX0_passConstraint_126 rfl 0 rfl ?_
      refine x_get (v := .ref (xad G 1)) C.1 1 dX0_passConstraint_127 (xc_50 G h2) rfl (by decide) rfl (fun w h => List.mem_cons_of_mem _ (iWC_X0 w h)) (by decide) rfl (C.1.2.2.2.2.1 _ (List.mem_cons_of_mem _ qC_42)) ?_
      refine x_get (v := .ref (xad G 4)) C.1 2 dX0_passConstraint_130 (xc_1 G h2) rfl (by decide) rfl (fun w h => List.mem_cons_of_mem _ (iWC_X2 w h)) (by decide) rfl (C.1.2.2.2.2.1 _ (List.mem_cons_of_mem _ qC_46)) ?_
      refine x_iload_n C.1 dX0_passConstraint_133 rfl 2 rfl ?_
      refine x_iald (n := 70) C.1 dX0_passConstraint_134 (xc_4 G h2) (by decide) ?_
      refine z_callVi C dX0_passConstraint_135 (M_X0_leadOn_t26 G l N (gI h2 2 x2.toNatClampNeg) (gI h2 3 x2.toNatClampNeg) (gI h2 4 x2.toNatClampNeg) h2) (cwV 3 C.1.2.2.2.2.1 (gdV gWC qC_53 qC_54 qC_55 qC_50 qC_37) rfl rfl rfl (by decide +kernel) ⟨Nat.le_of_ble_eq_true rfl, Nat.le_of_ble_eq_true rfl⟩) (xc_50 G h2) (by decide) rfl rfl rfl (Nat.le_of_ble_eq_true rfl) (fun r3 h4 => ?_)
      refine x_if_ne (tgt := 148) C.1 dX0_passConstraint_138 (by decide) ?_ ?_
      · exact x_sub [0, 1] rfl (T_X0_passConstraint_t26_141 C hr x1 h4)
      · refine x_iconst (v := 1) C.1 dX0_passConstraint_148 (by decide) ?_
        exact x_zretL C.1 dX0_passConstraint_149 hr rfl
set_option maxHeartbeats 4000000 in
set_option maxRecDepth 100000 in
theorem M_X0_passConstraint_t26 (G : xG) (l : Launch) (N : Nat) (h : xHp) : ∀ r, F_X0_passConstraint_t26 N h = some r → Met l yX0_passConstraint vX0_passConstraint ({ frames := 2, cells := 0, slots := 0, locals := 42 } : Room) (xPz G [.ref (xad G 50)] h) (xQi G r) 0 0 (xA G) := by
  refine z_met (own := RX0) (cc := cX0_passConstraint) (maxL := 4) (ret := (some .boolean)) (lv0 := [(0, .ref (xad G 50))]) (by decide +kernel) rfl rfl (Nat.le_of_ble_eq_true rfl) rfl ?_
  intro p e s m below meth c C hr
  unfold F_X0_passConstraint_t26
  refine x_aload_n C.1 dX0_passConstraint_0 rfl 0 rfl ?_
  refine x_get (v := .int (gI h 50 3)) C.1 3 dX0_passConstraint_1 (xc_50 G h) rfl (by decide) rfl (fun w h => List.mem_cons_of_mem _ (iWC_X0 w h)) (by decide) rfl (C.1.2.2.2.2.1 _ (List.mem_cons_of_mem _ qC_12)) ?_
  refine x_istore_n (lv' := [(1, .int (gI h 50 3)), (0, .ref (xad G 50))]) C.1 dX0_passConstraint_4 rfl (by decide) rfl ?_
  refine x_aload_n C.1 dX0_passConstraint_5 rfl 1 rfl ?_
  refine x_bipush (v := 91) C.1 dX0_passConstraint_6 (by decide) ?_
  refine z_callVi C dX0_passConstraint_8 (M_X0_pass_t26 G l N 91 h) (cwV 1 C.1.2.2.2.2.1 (gdV gWC qC_47 qC_48 qC_49 qC_50 qC_10) rfl rfl rfl (by decide +kernel) ⟨Nat.le_of_ble_eq_true rfl, Nat.le_of_ble_eq_true rfl⟩) (xc_50 G h) (by decide) rfl rfl rfl (Nat.le_of_ble_eq_true rfl) (fun r1 h2 => ?_)
  refine x_if_ne (tgt := 16) C.1 dX0_passConstraint_11 (by decide) ?_ ?_
  · refine x_iconst (v := 0) C.1 dX0_passConstraint_14 (by decide) ?_
    exact x_zretL C.1 dX0_passConstraint_15 hr rfl
  · refine x_aload_n C.1 dX0_passConstraint_16 rfl 1 rfl ?_
    refine x_getT (t := 26) C.1 2 dX0_passConstraint_17 (xc_50 G h2) rfl (by decide) rfl (fun w h => List.mem_cons_of_mem _ (iWC_X0 w h)) (by decide) rfl (C.1.2.2.2.2.1 _ (List.mem_cons_of_mem _ qC_11)) ?_
    refine x_aload_n C.1 dX0_passConstraint_20 rfl 1 rfl ?_
    refine x_get (v := .int (gI h2 50 3)) C.1 3 dX0_passConstraint_21 (xc_50 G h2) rfl (by decide) rfl (fun w h => List.mem_cons_of_mem _ (iWC_X0 w h)) (by decide) rfl (C.1.2.2.2.2.1 _ (List.mem_cons_of_mem _ qC_12)) ?_
    refine z_callVi C dX0_passConstraint_24 (M_X6_at_26 G l N (gI h2 50 3) h2) (cwV 1 C.1.2.2.2.2.1 (gdV gWC qC_13 qC_14 qC_15 qC_16 qC_7) rfl rfl rfl (by decide +kernel) ⟨Nat.le_of_ble_eq_true rfl, Nat.le_of_ble_eq_true rfl⟩) (xc_26 G h2) (by decide) rfl rfl rfl (Nat.le_of_ble_eq_true rfl) (fun r3 h4 => ?_)
    refine z_callNi (host := RX8) C dX0_passConstraint_27 (M_X8_figureOf G l N r3 h4) ⟨va_cnB 1 C.1.2.2.2.2.1 (gdN gWC qC_36) rfl rfl rfl C.2.1 (C.1.2.2.2.2.1 _ (List.mem_cons_of_mem _ qC_52)) (by decide +kernel) ⟨Nat.le_of_ble_eq_true rfl, Nat.le_of_ble_eq_true rfl⟩, (C.1.2.2.2.2.1 _ (List.mem_cons_of_mem _ qC_51)), trivial⟩ rfl rfl (Nat.le_of_ble_eq_true rfl) (fun r5 h6 => ?_)
    refine x_istore_n (lv' := [(2, .int r5), (1, .int (gI h 50 3)), (0, .ref (xad G 50))]) C.1 dX0_passConstraint_30 rfl (by decide) rfl ?_
    refine x_iload_n C.1 dX0_passConstraint_31 rfl 0 rfl ?_
    refine x_iconst (v := (-1)) C.1 dX0_passConstraint_32 (by decide) ?_
    refine x_icmp_ne (tgt := 38) C.1 dX0_passConstraint_33 (by decide) ?_ ?_
    · refine x_iconst (v := 0) C.1 dX0_passConstraint_36 (by decide) ?_
      exact x_zretL C.1 dX0_passConstraint_37 hr rfl
    · refine x_aload_n C.1 dX0_passConstraint_38 rfl 2 rfl ?_
      refine x_dup C.1 dX0_passConstraint_39 rfl ?_
      refine x_get (v := .int (gI h6 50 3)) C.1 3 dX0_passConstraint_40 (xc_50 G h6) rfl (by decide) rfl (fun w h => List.mem_cons_of_mem _ (iWC_X0 w h)) (by decide) rfl (C.1.2.2.2.2.1 _ (List.mem_cons_of_mem _ qC_12)) ?_
      refine x_iconst (v := 1) C.1 dX0_passConstraint_43 (by decide) ?_
      refine x_iadd C.1 dX0_passConstraint_44 ?_
      refine x_putI (ty0 := tyX0) (ty := .int) C.1 3 dX0_passConstraint_45 (xc_50 G h6) rfl (Nat.le_of_ble_eq_true rfl) (by decide) rfl (fun w h => List.mem_cons_of_mem _ (iWC_X0 w h)) tyX0_ok nmX0 (by decide) rfl rfl (by decide +kernel) rfl rfl (C.1.2.2.2.2.1 _ (List.mem_cons_of_mem _ qC_12)) (fun h7 => ?_)
      refine x_aload_n C.1 dX0_passConstraint_48 rfl 2 rfl ?_
      refine x_getT (t := 26) C.1 2 dX0_passConstraint_49 (xc_50 G h7) rfl (by decide) rfl (fun w h => List.mem_cons_of_mem _ (iWC_X0 w h)) (by decide) rfl (C.1.2.2.2.2.1 _ (List.mem_cons_of_mem _ qC_11)) ?_
      refine x_aload_n C.1 dX0_passConstraint_52 rfl 2 rfl ?_
      refine x_get (v := .int (gI h7 50 3)) C.1 3 dX0_passConstraint_53 (xc_50 G h7) rfl (by decide) rfl (fun w h => List.mem_cons_of_mem _ (iWC_X0 w h)) (by decide) rfl (C.1.2.2.2.2.1 _ (List.mem_cons_of_mem _ qC_12)) ?_
      refine z_callVi C dX0_passConstraint_56 (M_X6_at_26 G l N (gI h7 50 3) h7) (cwV 1 C.1.2.2.2.2.1 (gdV gWC qC_13 qC_14 qC_15 qC_16 qC_7) rfl rfl rfl (by decide +kernel) ⟨Nat.le_of_ble_eq_true rfl, Nat.le_of_ble_eq_true rfl⟩) (xc_26 G h7) (by decide) rfl rfl rfl (Nat.le_of_ble_eq_true rfl) (fun r8 h9 => ?_)
      refine z_callNi (host := RX8) C dX0_passConstraint_59 (M_X8_figureOf G l N r8 h9) ⟨va_cnB 1 C.1.2.2.2.2.1 (gdN gWC qC_36) rfl rfl rfl C.2.1 (C.1.2.2.2.2.1 _ (List.mem_cons_of_mem _ qC_52)) (by decide +kernel) ⟨Nat.le_of_ble_eq_true rfl, Nat.le_of_ble_eq_true rfl⟩, (C.1.2.2.2.2.1 _ (List.mem_cons_of_mem _ qC_51)), trivial⟩ rfl rfl (Nat.le_of_ble_eq_true rfl) (fun r10 h11 => ?_)
      refine x_istore_n (lv' := [(3, .int r10), (2, .int r5), (1, .int (gI h 50 3)), (0, .ref (xad G 50))]) C.1 dX0_passConstraint_62 rfl (by decide) rfl ?_
      refine x_iload_n C.1 dX0_passConstraint_63 rfl 0 rfl ?_
      refine x_iconst (v := (-1)) C.1 dX0_passConstraint_64 (by decide) ?_
      refine x_icmp_eq (tgt := 85) C.1 dX0_passConstraint_65 (by decide) ?_ ?_
      · exact x_sub [3, 2, 1] rfl (T_X0_passConstraint_t26_85 C hr (gI h 50 3) r5 h11)
      · refine x_bipush (v := 10) C.1 dX0_passConstraint_68 (by decide) ?_
        refine x_iload_n C.1 dX0_passConstraint_70 rfl 1 rfl ?_
        refine x_imul C.1 dX0_passConstraint_71 ?_
        refine x_iload_n C.1 dX0_passConstraint_72 rfl 0 rfl ?_
        refine x_iadd C.1 dX0_passConstraint_73 ?_
        refine x_istore_n (lv' := [(2, .int ((10 * r5) + r10)), (3, .int r10), (1, .int (gI h 50 3)), (0, .ref (xad G 50))]) C.1 dX0_passConstraint_74 rfl (by decide) rfl ?_
        refine x_aload_n C.1 dX0_passConstraint_75 rfl 3 rfl ?_
        refine x_dup C.1 dX0_passConstraint_76 rfl ?_
        refine x_get (v := .int (gI h11 50 3)) C.1 3 dX0_passConstraint_77 (xc_50 G h11) rfl (by decide) rfl (fun w h => List.mem_cons_of_mem _ (iWC_X0 w h)) (by decide) rfl (C.1.2.2.2.2.1 _ (List.mem_cons_of_mem _ qC_12)) ?_
        refine x_iconst (v := 1) C.1 dX0_passConstraint_80 (by decide) ?_
        refine x_iadd C.1 dX0_passConstraint_81 ?_
        refine x_putI (ty0 := tyX0) (ty := .int) C.1 3 dX0_passConstraint_82 (xc_50 G h11) rfl (Nat.le_of_ble_eq_true rfl) (by decide) rfl (fun w h => List.mem_cons_of_mem _ (iWC_X0 w h)) tyX0_ok nmX0 (by decide) rfl rfl (by decide +kernel) rfl rfl (C.1.2.2.2.2.1 _ (List.mem_cons_of_mem _ qC_12)) (fun h12 => ?_)
        exact x_sub [3, 2, 0] rfl (T_X0_passConstraint_t26_85 C hr (gI h 50 3) ((10 * r5) + r10) h12)
/-! X0_passGiven_t26: 41 instructions -/
abbrev J_X0_passGiven_t26 (G : xG) (p : Program) (l : Launch) (e : Env) (s : State) (m : MethodId) (args : Array Value) (below : List Frame) (meth : Method) (c : Code) : Nat → List (Nat × Value) → List Value → xHp → Option (Int32 × xHp) → Prop := xJ G p l e ({ frames := 1, cells := 0, slots := 0, locals := 23 } : Room) s m args below meth c 2 (fun res => MQ below (xQi G res) args s 0 0 (xA G))
def F_X0_passGiven_t26_28 (N : Nat) (h : xHp) : Option (Int32 × xHp) := some (0, h)
def F_X0_passGiven_t26 (N : Nat) (p1 : Int32) (h : xHp) : Option (Int32 × xHp) := if p1 < 0 then F_X0_passGiven_t26_28 N h else if (gI h 30 3) ≤ p1 then F_X0_passGiven_t26_28 N h else grd (xin p1 10) (if (gI h 34 p1.toNatClampNeg) = 1 then F_X0_passGiven_t26_28 N h else bnd2 (F_X1_fromOf_30 N p1 h) fun r1 h2 => bnd2 (F_X1_toOf_30 N p1 h2) fun r3 h4 => bnd2 (F_X1_mostOf_30 N p1 h4) fun r5 h6 => bnd2 (F_X0_leadOn_t26 N r1 r3 r5 h6) fun r7 h8 => if r7 = 0 then some (0, h8) else bnd (sI h8 50 3 ((gI h8 50 3) + 1)) fun h9 => some (1, h9))
set_option maxHeartbeats 4000000 in
set_option maxRecDepth 100000 in
theorem T_X0_passGiven_t26_28 {G : xG} {p : Program} {l : Launch} {e : Env} {s : State} {m : MethodId} {args : Array Value} {below : List Frame} {meth : Method} {c : Code} {N : Nat} (C : xCz G p s m args meth c cX0_passGiven 2 vX0_passGiven RX0) (hr : meth.sig.returnType = (some .boolean)) (h : xHp) : J_X0_passGiven_t26 G p l e s m args below meth c 28 [] [] h (F_X0_passGiven_t26_28 N h) := by
  unfold F_X0_passGiven_t26_28
  refine x_iconst (v := 0) C.1 dX0_passGiven_28 (by decide) ?_
  exact x_zretL C.1 dX0_passGiven_29 hr rfl
set_option maxHeartbeats 4000000 in
set_option maxRecDepth 100000 in
theorem M_X0_passGiven_t26 (G : xG) (l : Launch) (N : Nat) (p1 : Int32) (h : xHp) : ∀ r, F_X0_passGiven_t26 N p1 h = some r → Met l yX0_passGiven vX0_passGiven ({ frames := 1, cells := 0, slots := 0, locals := 23 } : Room) (xPz G [.ref (xad G 50), .int p1] h) (xQi G r) 0 0 (xA G) := by
  refine z_met (own := RX0) (cc := cX0_passGiven) (maxL := 2) (ret := (some .boolean)) (lv0 := [(0, .ref (xad G 50)), (1, .int p1)]) (by decide +kernel) rfl rfl (Nat.le_of_ble_eq_true rfl) rfl ?_
  intro p e s m below meth c C hr
  unfold F_X0_passGiven_t26
  refine x_iload_n C.1 dX0_passGiven_0 rfl 1 rfl ?_
  refine x_if_lt (tgt := 28) C.1 dX0_passGiven_1 (by decide) ?_ ?_
  · exact x_sub [] rfl (T_X0_passGiven_t26_28 C hr h)
  · refine x_iload_n C.1 dX0_passGiven_4 rfl 1 rfl ?_
    refine x_aload_n C.1 dX0_passGiven_5 rfl 0 rfl ?_
    refine x_get (v := .ref (xad G 30)) C.1 0 dX0_passGiven_6 (xc_50 G h) rfl (by decide) rfl (fun w h => List.mem_cons_of_mem _ (iWC_X0 w h)) (by decide) rfl (C.1.2.2.2.2.1 _ (List.mem_cons_of_mem _ qC_63)) ?_
    refine x_get (v := .int (gI h 30 3)) C.1 3 dX0_passGiven_9 (xc_30 G h) rfl (by decide) rfl (fun w h => List.mem_cons_of_mem _ (iWC_X1 w h)) (by decide) rfl (C.1.2.2.2.2.1 _ (List.mem_cons_of_mem _ qC_64)) ?_
    refine x_icmp_ge (tgt := 28) C.1 dX0_passGiven_12 (by decide) ?_ ?_
    · exact x_sub [] rfl (T_X0_passGiven_t26_28 C hr h)
    · refine x_aload_n C.1 dX0_passGiven_15 rfl 0 rfl ?_
      refine x_get (v := .ref (xad G 30)) C.1 0 dX0_passGiven_16 (xc_50 G h) rfl (by decide) rfl (fun w h => List.mem_cons_of_mem _ (iWC_X0 w h)) (by decide) rfl (C.1.2.2.2.2.1 _ (List.mem_cons_of_mem _ qC_63)) ?_
      refine x_get (v := .ref (xad G 34)) C.1 4 dX0_passGiven_19 (xc_30 G h) rfl (by decide) rfl (fun w h => List.mem_cons_of_mem _ (iWC_X1 w h)) (by decide) rfl (C.1.2.2.2.2.1 _ (List.mem_cons_of_mem _ qC_65)) ?_
      refine x_iload_n C.1 dX0_passGiven_22 rfl 1 rfl ?_
      refine x_iald (n := 10) C.1 dX0_passGiven_23 (xc_34 G h) (by decide) ?_
      refine x_iconst (v := 1) C.1 dX0_passGiven_24 (by decide) ?_
      refine x_icmp_ne (tgt := 30) C.1 dX0_passGiven_25 (by decide) ?_ ?_
      · exact x_sub [] rfl (T_X0_passGiven_t26_28 C hr h)
      · refine x_aload_n C.1 dX0_passGiven_30 rfl 0 rfl ?_
        refine x_aload_n C.1 dX0_passGiven_31 rfl 0 rfl ?_
        refine x_get (v := .ref (xad G 30)) C.1 0 dX0_passGiven_32 (xc_50 G h) rfl (by decide) rfl (fun w h => List.mem_cons_of_mem _ (iWC_X0 w h)) (by decide) rfl (C.1.2.2.2.2.1 _ (List.mem_cons_of_mem _ qC_63)) ?_
        refine x_iload_n C.1 dX0_passGiven_35 rfl 1 rfl ?_
        refine z_callVi C dX0_passGiven_36 (M_X1_fromOf_30 G l N p1 h) (cwV 1 C.1.2.2.2.2.1 (gdV gWC qC_66 qC_67 qC_68 qC_32 qC_57) rfl rfl rfl (by decide +kernel) ⟨Nat.le_of_ble_eq_true rfl, Nat.le_of_ble_eq_true rfl⟩) (xc_30 G h) (by decide) rfl rfl rfl (Nat.le_of_ble_eq_true rfl) (fun r1 h2 => ?_)
        refine x_aload_n C.1 dX0_passGiven_39 rfl 0 rfl ?_
        refine x_get (v := .ref (xad G 30)) C.1 0 dX0_passGiven_40 (xc_50 G h2) rfl (by decide) rfl (fun w h => List.mem_cons_of_mem _ (iWC_X0 w h)) (by decide) rfl (C.1.2.2.2.2.1 _ (List.mem_cons_of_mem _ qC_63)) ?_
        refine x_iload_n C.1 dX0_passGiven_43 rfl 1 rfl ?_
        refine z_callVi C dX0_passGiven_44 (M_X1_toOf_30 G l N p1 h2) (cwV 1 C.1.2.2.2.2.1 (gdV gWC qC_69 qC_70 qC_71 qC_32 qC_60) rfl rfl rfl (by decide +kernel) ⟨Nat.le_of_ble_eq_true rfl, Nat.le_of_ble_eq_true rfl⟩) (xc_30 G h2) (by decide) rfl rfl rfl (Nat.le_of_ble_eq_true rfl) (fun r3 h4 => ?_)
        refine x_aload_n C.1 dX0_passGiven_47 rfl 0 rfl ?_
        refine x_get (v := .ref (xad G 30)) C.1 0 dX0_passGiven_48 (xc_50 G h4) rfl (by decide) rfl (fun w h => List.mem_cons_of_mem _ (iWC_X0 w h)) (by decide) rfl (C.1.2.2.2.2.1 _ (List.mem_cons_of_mem _ qC_63)) ?_
        refine x_iload_n C.1 dX0_passGiven_51 rfl 1 rfl ?_
        refine z_callVi C dX0_passGiven_52 (M_X1_mostOf_30 G l N p1 h4) (cwV 1 C.1.2.2.2.2.1 (gdV gWC qC_72 qC_73 qC_74 qC_32 qC_61) rfl rfl rfl (by decide +kernel) ⟨Nat.le_of_ble_eq_true rfl, Nat.le_of_ble_eq_true rfl⟩) (xc_30 G h4) (by decide) rfl rfl rfl (Nat.le_of_ble_eq_true rfl) (fun r5 h6 => ?_)
        refine z_callVi C dX0_passGiven_55 (M_X0_leadOn_t26 G l N r1 r3 r5 h6) (cwV 3 C.1.2.2.2.2.1 (gdV gWC qC_53 qC_54 qC_55 qC_50 qC_37) rfl rfl rfl (by decide +kernel) ⟨Nat.le_of_ble_eq_true rfl, Nat.le_of_ble_eq_true rfl⟩) (xc_50 G h6) (by decide) rfl rfl rfl (Nat.le_of_ble_eq_true rfl) (fun r7 h8 => ?_)
        refine x_if_ne (tgt := 63) C.1 dX0_passGiven_58 (by decide) ?_ ?_
        · refine x_iconst (v := 0) C.1 dX0_passGiven_61 (by decide) ?_
          exact x_zretL C.1 dX0_passGiven_62 hr rfl
        · refine x_aload_n C.1 dX0_passGiven_63 rfl 0 rfl ?_
          refine x_dup C.1 dX0_passGiven_64 rfl ?_
          refine x_get (v := .int (gI h8 50 3)) C.1 3 dX0_passGiven_65 (xc_50 G h8) rfl (by decide) rfl (fun w h => List.mem_cons_of_mem _ (iWC_X0 w h)) (by decide) rfl (C.1.2.2.2.2.1 _ (List.mem_cons_of_mem _ qC_12)) ?_
          refine x_iconst (v := 1) C.1 dX0_passGiven_68 (by decide) ?_
          refine x_iadd C.1 dX0_passGiven_69 ?_
          refine x_putI (ty0 := tyX0) (ty := .int) C.1 3 dX0_passGiven_70 (xc_50 G h8) rfl (Nat.le_of_ble_eq_true rfl) (by decide) rfl (fun w h => List.mem_cons_of_mem _ (iWC_X0 w h)) tyX0_ok nmX0 (by decide) rfl rfl (by decide +kernel) rfl rfl (C.1.2.2.2.2.1 _ (List.mem_cons_of_mem _ qC_12)) (fun h9 => ?_)
          refine x_iconst (v := 1) C.1 dX0_passGiven_73 (by decide) ?_
          exact x_zretL C.1 dX0_passGiven_74 hr rfl
/-! X0_passRound_t26: 67 instructions -/
abbrev J_X0_passRound_t26 (G : xG) (p : Program) (l : Launch) (e : Env) (s : State) (m : MethodId) (args : Array Value) (below : List Frame) (meth : Method) (c : Code) : Nat → List (Nat × Value) → List Value → xHp → Option (Int32 × xHp) → Prop := xJ G p l e ({ frames := 3, cells := 0, slots := 0, locals := 65 } : Room) s m args below meth c 3 (fun res => MQ below (xQi G res) args s 0 0 (xA G))
def F_X0_passRound_t26_83 (N : Nat) (h : xHp) : Option (Int32 × xHp) := some (0, h)
def F_X0_passRound_t26_85 (N : Nat) (k22 : Int32 → xHp → Option (Int32 × xHp)) (x1 : Int32) (h : xHp) : Option (Int32 × xHp) := k22 (x1 + 1) h
def F_X0_passRound_t26_131 (N : Nat) (h : xHp) : Option (Int32 × xHp) := some (0, h)
def F_X0_passRound_t26_91 (N : Nat) (h : xHp) : Option (Int32 × xHp) := if (gI h 50 4) = 0 then F_X0_passRound_t26_131 N h else if (gI h 50 6) = (gI h 50 5) then if (0 : Int32) ≤ (lg_cmp (gJ h 50 7) 0) then F_X0_passRound_t26_131 N h else bnd2 (F_X0_pass_t26 N 59 h) fun r1 h2 => if r1 = 0 then F_X0_passRound_t26_131 N h2 else some (1, h2) else F_X0_passRound_t26_131 N h
def F_X0_passRound_t26_22_b (N : Nat) (k22 : Int32 → xHp → Option (Int32 × xHp)) (x1 : Int32) (h : xHp) : Option (Int32 × xHp) := if 6000 ≤ x1 then F_X0_passRound_t26_91 N h else grd (decide (h.2.2 = 26)) (bnd2 (F_X6_at_26 N (gI h 50 3) h) fun r1 h2 => if r1 = 59 then F_X0_passRound_t26_91 N h2 else grd (decide (h2.2.2 = 26)) (bnd2 (F_X6_at_26 N (gI h2 50 3) h2) fun r3 h4 => bnd2 (F_X8_figureOf N r3 h4) fun r5 h6 => if r5 = (-1) then bnd2 (F_X0_passConstraint_t26 N h6) fun r7 h8 => if r7 = 0 then F_X0_passRound_t26_83 N h8 else F_X0_passRound_t26_85 N k22 x1 h8 else bnd2 (F_X0_passGiven_t26 N r5 h6) fun r9 h10 => if r9 = 0 then F_X0_passRound_t26_83 N h10 else F_X0_passRound_t26_85 N k22 x1 h10))
def F_X0_passRound_t26_22 (N : Nat) (x1 : Int32) (h : xHp) : Option (Int32 × xHp) := xit (F_X0_passRound_t26_22_b N) (fun _ _ => none) N x1 h
def F_X0_passRound_t26 (N : Nat) (h : xHp) : Option (Int32 × xHp) := bnd (sI h 50 3 ((gI h 50 3) + 1)) fun h1 => bnd (sI h1 50 4 0) fun h2 => bnd (sJ h2 50 7 0) fun h3 => F_X0_passRound_t26_22 N 0 h3
set_option maxHeartbeats 4000000 in
set_option maxRecDepth 100000 in
theorem T_X0_passRound_t26_83 {G : xG} {p : Program} {l : Launch} {e : Env} {s : State} {m : MethodId} {args : Array Value} {below : List Frame} {meth : Method} {c : Code} {N : Nat} (C : xCz G p s m args meth c cX0_passRound 3 vX0_passRound RX0) (hr : meth.sig.returnType = (some .boolean)) (h : xHp) : J_X0_passRound_t26 G p l e s m args below meth c 83 [] [] h (F_X0_passRound_t26_83 N h) := by
  unfold F_X0_passRound_t26_83
  refine x_iconst (v := 0) C.1 dX0_passRound_83 (by decide) ?_
  exact x_zretL C.1 dX0_passRound_84 hr rfl
set_option maxHeartbeats 4000000 in
set_option maxRecDepth 100000 in
theorem T_X0_passRound_t26_85 {G : xG} {p : Program} {l : Launch} {e : Env} {s : State} {m : MethodId} {args : Array Value} {below : List Frame} {meth : Method} {c : Code} {N : Nat} (C : xCz G p s m args meth c cX0_passRound 3 vX0_passRound RX0) (hr : meth.sig.returnType = (some .boolean)) {k22 : Int32 → xHp → Option (Int32 × xHp)} (hk22 : ∀ (x1 : Int32) (h : xHp), J_X0_passRound_t26 G p l e s m args below meth c 22 [(0, .ref (xad G 50)), (1, .int x1)] [] h (k22 x1 h)) (x1 : Int32) (h : xHp) : J_X0_passRound_t26 G p l e s m args below meth c 85 [(0, .ref (xad G 50)), (1, .int x1)] [] h (F_X0_passRound_t26_85 N k22 x1 h) := by
  unfold F_X0_passRound_t26_85
  refine x_iinc (v := (x1 + 1)) (j := 1) (lv' := [(1, .int (x1 + 1)), (0, .ref (xad G 50))]) C.1 dX0_passRound_85 rfl (by rfl) (by decide) rfl ?_
  refine x_goto (tgt := 22) C.1 dX0_passRound_88 (by decide) ?_
  exact x_sub [1, 0] rfl (hk22 (x1 + 1) h)
set_option maxHeartbeats 4000000 in
set_option maxRecDepth 100000 in
theorem T_X0_passRound_t26_131 {G : xG} {p : Program} {l : Launch} {e : Env} {s : State} {m : MethodId} {args : Array Value} {below : List Frame} {meth : Method} {c : Code} {N : Nat} (C : xCz G p s m args meth c cX0_passRound 3 vX0_passRound RX0) (hr : meth.sig.returnType = (some .boolean)) (h : xHp) : J_X0_passRound_t26 G p l e s m args below meth c 131 [] [] h (F_X0_passRound_t26_131 N h) := by
  unfold F_X0_passRound_t26_131
  refine x_iconst (v := 0) C.1 dX0_passRound_131 (by decide) ?_
  exact x_zretL C.1 dX0_passRound_132 hr rfl
set_option maxHeartbeats 4000000 in
set_option maxRecDepth 100000 in
theorem T_X0_passRound_t26_91 {G : xG} {p : Program} {l : Launch} {e : Env} {s : State} {m : MethodId} {args : Array Value} {below : List Frame} {meth : Method} {c : Code} {N : Nat} (C : xCz G p s m args meth c cX0_passRound 3 vX0_passRound RX0) (hr : meth.sig.returnType = (some .boolean)) (h : xHp) : J_X0_passRound_t26 G p l e s m args below meth c 91 [(0, .ref (xad G 50))] [] h (F_X0_passRound_t26_91 N h) := by
  unfold F_X0_passRound_t26_91
  refine x_aload_n C.1 dX0_passRound_91 rfl 0 rfl ?_
  refine x_get (v := .int (gI h 50 4)) C.1 4 dX0_passRound_92 (xc_50 G h) rfl (by decide) rfl (fun w h => List.mem_cons_of_mem _ (iWC_X0 w h)) (by decide) rfl (C.1.2.2.2.2.1 _ (List.mem_cons_of_mem _ qC_38)) ?_
  refine x_if_eq (tgt := 131) C.1 dX0_passRound_95 (by decide) ?_ ?_
  · exact x_sub [] rfl (T_X0_passRound_t26_131 C hr h)
  · refine x_aload_n C.1 dX0_passRound_98 rfl 0 rfl ?_
    refine x_get (v := .int (gI h 50 6)) C.1 6 dX0_passRound_99 (xc_50 G h) rfl (by decide) rfl (fun w h => List.mem_cons_of_mem _ (iWC_X0 w h)) (by decide) rfl (C.1.2.2.2.2.1 _ (List.mem_cons_of_mem _ qC_39)) ?_
    refine x_aload_n C.1 dX0_passRound_102 rfl 0 rfl ?_
    refine x_get (v := .int (gI h 50 5)) C.1 5 dX0_passRound_103 (xc_50 G h) rfl (by decide) rfl (fun w h => List.mem_cons_of_mem _ (iWC_X0 w h)) (by decide) rfl (C.1.2.2.2.2.1 _ (List.mem_cons_of_mem _ qC_40)) ?_
    refine x_icmp_ne (tgt := 131) C.1 dX0_passRound_106 (by decide) ?_ ?_
    · refine x_aload_n C.1 dX0_passRound_109 rfl 0 rfl ?_
      refine x_get (v := .long (gJ h 50 7)) C.1 7 dX0_passRound_110 (xc_50 G h) rfl (by decide) rfl (fun w h => List.mem_cons_of_mem _ (iWC_X0 w h)) (by decide) rfl (C.1.2.2.2.2.1 _ (List.mem_cons_of_mem _ qC_41)) ?_
      refine x_lconst (v := 0) C.1 dX0_passRound_113 (by decide) ?_
      refine x_lcmp C.1 dX0_passRound_114 ?_
      refine x_if_ge (tgt := 131) C.1 dX0_passRound_115 (by decide) ?_ ?_
      · exact x_sub [] rfl (T_X0_passRound_t26_131 C hr h)
      · refine x_aload_n C.1 dX0_passRound_118 rfl 0 rfl ?_
        refine x_bipush (v := 59) C.1 dX0_passRound_119 (by decide) ?_
        refine z_callVi C dX0_passRound_121 (M_X0_pass_t26 G l N 59 h) (cwV 1 C.1.2.2.2.2.1 (gdV gWC qC_47 qC_48 qC_49 qC_50 qC_10) rfl rfl rfl (by decide +kernel) ⟨Nat.le_of_ble_eq_true rfl, Nat.le_of_ble_eq_true rfl⟩) (xc_50 G h) (by decide) rfl rfl rfl (Nat.le_of_ble_eq_true rfl) (fun r1 h2 => ?_)
        refine x_if_eq (tgt := 131) C.1 dX0_passRound_124 (by decide) ?_ ?_
        · exact x_sub [] rfl (T_X0_passRound_t26_131 C hr h2)
        · refine x_iconst (v := 1) C.1 dX0_passRound_127 (by decide) ?_
          refine x_goto (tgt := 132) C.1 dX0_passRound_128 (by decide) ?_
          exact x_zretL C.1 dX0_passRound_132 hr rfl
    · exact x_sub [] rfl (T_X0_passRound_t26_131 C hr h)
set_option maxHeartbeats 4000000 in
set_option maxRecDepth 100000 in
theorem T_X0_passRound_t26_22_b {G : xG} {p : Program} {l : Launch} {e : Env} {s : State} {m : MethodId} {args : Array Value} {below : List Frame} {meth : Method} {c : Code} {N : Nat} (C : xCz G p s m args meth c cX0_passRound 3 vX0_passRound RX0) (hr : meth.sig.returnType = (some .boolean)) {k22 : Int32 → xHp → Option (Int32 × xHp)} (hk22 : ∀ (x1 : Int32) (h : xHp), J_X0_passRound_t26 G p l e s m args below meth c 22 [(0, .ref (xad G 50)), (1, .int x1)] [] h (k22 x1 h)) (x1 : Int32) (h : xHp) : J_X0_passRound_t26 G p l e s m args below meth c 22 [(0, .ref (xad G 50)), (1, .int x1)] [] h (F_X0_passRound_t26_22_b N k22 x1 h) := by
  unfold F_X0_passRound_t26_22_b
  refine x_iload_n C.1 dX0_passRound_22 rfl 1 rfl ?_
  refine x_sipush (v := 6000) C.1 dX0_passRound_23 (by decide) ?_
  refine x_icmp_ge (tgt := 91) C.1 dX0_passRound_26 (by decide) ?_ ?_
  · exact x_sub [0] rfl (T_X0_passRound_t26_91 C hr h)
  · refine x_aload_n C.1 dX0_passRound_29 rfl 0 rfl ?_
    refine x_getT (t := 26) C.1 2 dX0_passRound_30 (xc_50 G h) rfl (by decide) rfl (fun w h => List.mem_cons_of_mem _ (iWC_X0 w h)) (by decide) rfl (C.1.2.2.2.2.1 _ (List.mem_cons_of_mem _ qC_11)) ?_
    refine x_aload_n C.1 dX0_passRound_33 rfl 0 rfl ?_
    refine x_get (v := .int (gI h 50 3)) C.1 3 dX0_passRound_34 (xc_50 G h) rfl (by decide) rfl (fun w h => List.mem_cons_of_mem _ (iWC_X0 w h)) (by decide) rfl (C.1.2.2.2.2.1 _ (List.mem_cons_of_mem _ qC_12)) ?_
    refine z_callVi C dX0_passRound_37 (M_X6_at_26 G l N (gI h 50 3) h) (cwV 1 C.1.2.2.2.2.1 (gdV gWC qC_13 qC_14 qC_15 qC_16 qC_7) rfl rfl rfl (by decide +kernel) ⟨Nat.le_of_ble_eq_true rfl, Nat.le_of_ble_eq_true rfl⟩) (xc_26 G h) (by decide) rfl rfl rfl (Nat.le_of_ble_eq_true rfl) (fun r1 h2 => ?_)
    refine x_bipush (v := 59) C.1 dX0_passRound_40 (by decide) ?_
    refine x_icmp_eq (tgt := 91) C.1 dX0_passRound_42 (by decide) ?_ ?_
    · exact x_sub [0] rfl (T_X0_passRound_t26_91 C hr h2)
    · refine x_aload_n C.1 dX0_passRound_45 rfl 0 rfl ?_
      refine x_getT (t := 26) C.1 2 dX0_passRound_46 (xc_50 G h2) rfl (by decide) rfl (fun w h => List.mem_cons_of_mem _ (iWC_X0 w h)) (by decide) rfl (C.1.2.2.2.2.1 _ (List.mem_cons_of_mem _ qC_11)) ?_
      refine x_aload_n C.1 dX0_passRound_49 rfl 0 rfl ?_
      refine x_get (v := .int (gI h2 50 3)) C.1 3 dX0_passRound_50 (xc_50 G h2) rfl (by decide) rfl (fun w h => List.mem_cons_of_mem _ (iWC_X0 w h)) (by decide) rfl (C.1.2.2.2.2.1 _ (List.mem_cons_of_mem _ qC_12)) ?_
      refine z_callVi C dX0_passRound_53 (M_X6_at_26 G l N (gI h2 50 3) h2) (cwV 1 C.1.2.2.2.2.1 (gdV gWC qC_13 qC_14 qC_15 qC_16 qC_7) rfl rfl rfl (by decide +kernel) ⟨Nat.le_of_ble_eq_true rfl, Nat.le_of_ble_eq_true rfl⟩) (xc_26 G h2) (by decide) rfl rfl rfl (Nat.le_of_ble_eq_true rfl) (fun r3 h4 => ?_)
      refine z_callNi (host := RX8) C dX0_passRound_56 (M_X8_figureOf G l N r3 h4) ⟨va_cnB 1 C.1.2.2.2.2.1 (gdN gWC qC_36) rfl rfl rfl C.2.1 (C.1.2.2.2.2.1 _ (List.mem_cons_of_mem _ qC_52)) (by decide +kernel) ⟨Nat.le_of_ble_eq_true rfl, Nat.le_of_ble_eq_true rfl⟩, (C.1.2.2.2.2.1 _ (List.mem_cons_of_mem _ qC_51)), trivial⟩ rfl rfl (Nat.le_of_ble_eq_true rfl) (fun r5 h6 => ?_)
      refine x_istore_n (lv' := [(2, .int r5), (0, .ref (xad G 50)), (1, .int x1)]) C.1 dX0_passRound_59 rfl (by decide) rfl ?_
      refine x_iload_n C.1 dX0_passRound_60 rfl 0 rfl ?_
      refine x_iconst (v := (-1)) C.1 dX0_passRound_61 (by decide) ?_
      refine x_icmp_ne (tgt := 75) C.1 dX0_passRound_62 (by decide) ?_ ?_
      · refine x_aload_n C.1 dX0_passRound_65 rfl 1 rfl ?_
        refine z_callVi C dX0_passRound_66 (M_X0_passConstraint_t26 G l N h6) (cwV 0 C.1.2.2.2.2.1 (gdV gWC qC_76 qC_77 qC_78 qC_50 qC_56) rfl rfl rfl (by decide +kernel) ⟨Nat.le_of_ble_eq_true rfl, Nat.le_of_ble_eq_true rfl⟩) (xc_50 G h6) (by decide) rfl rfl rfl (Nat.le_of_ble_eq_true rfl) (fun r7 h8 => ?_)
        refine x_if_ne (tgt := 85) C.1 dX0_passRound_69 (by decide) ?_ ?_
        · refine x_goto (tgt := 83) C.1 dX0_passRound_72 (by decide) ?_
          exact x_sub [] rfl (T_X0_passRound_t26_83 C hr h8)
        · exact x_sub [1, 2] rfl (T_X0_passRound_t26_85 C hr hk22 x1 h8)
      · refine x_aload_n C.1 dX0_passRound_75 rfl 1 rfl ?_
        refine x_iload_n C.1 dX0_passRound_76 rfl 0 rfl ?_
        refine z_callVi C dX0_passRound_77 (M_X0_passGiven_t26 G l N r5 h6) (cwV 1 C.1.2.2.2.2.1 (gdV gWC qC_79 qC_80 qC_81 qC_50 qC_75) rfl rfl rfl (by decide +kernel) ⟨Nat.le_of_ble_eq_true rfl, Nat.le_of_ble_eq_true rfl⟩) (xc_50 G h6) (by decide) rfl rfl rfl (Nat.le_of_ble_eq_true rfl) (fun r9 h10 => ?_)
        refine x_if_ne (tgt := 85) C.1 dX0_passRound_80 (by decide) ?_ ?_
        · exact x_sub [] rfl (T_X0_passRound_t26_83 C hr h10)
        · exact x_sub [1, 2] rfl (T_X0_passRound_t26_85 C hr hk22 x1 h10)
set_option maxHeartbeats 4000000 in
set_option maxRecDepth 100000 in
theorem T_X0_passRound_t26_22_n {G : xG} {p : Program} {l : Launch} {e : Env} {s : State} {m : MethodId} {args : Array Value} {below : List Frame} {meth : Method} {c : Code} {N : Nat} (C : xCz G p s m args meth c cX0_passRound 3 vX0_passRound RX0) (hr : meth.sig.returnType = (some .boolean)) : ∀ (n : Nat) (x1 : Int32) (h : xHp), J_X0_passRound_t26 G p l e s m args below meth c 22 [(0, .ref (xad G 50)), (1, .int x1)] [] h (xit (F_X0_passRound_t26_22_b N) (fun _ _ => none) n x1 h) := by
  intro n
  induction n with
  | zero => intros; exact x_none
  | succ n ih => intros; exact T_X0_passRound_t26_22_b C hr ih _ _
set_option maxHeartbeats 4000000 in
set_option maxRecDepth 100000 in
theorem T_X0_passRound_t26_22 {G : xG} {p : Program} {l : Launch} {e : Env} {s : State} {m : MethodId} {args : Array Value} {below : List Frame} {meth : Method} {c : Code} {N : Nat} (C : xCz G p s m args meth c cX0_passRound 3 vX0_passRound RX0) (hr : meth.sig.returnType = (some .boolean)) (x1 : Int32) (h : xHp) : J_X0_passRound_t26 G p l e s m args below meth c 22 [(0, .ref (xad G 50)), (1, .int x1)] [] h (F_X0_passRound_t26_22 N x1 h) := T_X0_passRound_t26_22_n C hr N x1 h
set_option maxHeartbeats 4000000 in
set_option maxRecDepth 100000 in
theorem M_X0_passRound_t26 (G : xG) (l : Launch) (N : Nat) (h : xHp) : ∀ r, F_X0_passRound_t26 N h = some r → Met l yX0_passRound vX0_passRound ({ frames := 3, cells := 0, slots := 0, locals := 65 } : Room) (xPz G [.ref (xad G 50)] h) (xQi G r) 0 0 (xA G) := by
  refine z_met (own := RX0) (cc := cX0_passRound) (maxL := 3) (ret := (some .boolean)) (lv0 := [(0, .ref (xad G 50))]) (by decide +kernel) rfl rfl (Nat.le_of_ble_eq_true rfl) rfl ?_
  intro p e s m below meth c C hr
  unfold F_X0_passRound_t26
  refine x_aload_n C.1 dX0_passRound_0 rfl 0 rfl ?_
  refine x_dup C.1 dX0_passRound_1 rfl ?_
  refine x_get (v := .int (gI h 50 3)) C.1 3 dX0_passRound_2 (xc_50 G h) rfl (by decide) rfl (fun w h => List.mem_cons_of_mem _ (iWC_X0 w h)) (by decide) rfl (C.1.2.2.2.2.1 _ (List.mem_cons_of_mem _ qC_12)) ?_
  refine x_iconst (v := 1) C.1 dX0_passRound_5 (by decide) ?_
  refine x_iadd C.1 dX0_passRound_6 ?_
  refine x_putI (ty0 := tyX0) (ty := .int) C.1 3 dX0_passRound_7 (xc_50 G h) rfl (Nat.le_of_ble_eq_true rfl) (by decide) rfl (fun w h => List.mem_cons_of_mem _ (iWC_X0 w h)) tyX0_ok nmX0 (by decide) rfl rfl (by decide +kernel) rfl rfl (C.1.2.2.2.2.1 _ (List.mem_cons_of_mem _ qC_12)) (fun h1 => ?_)
  refine x_aload_n C.1 dX0_passRound_10 rfl 0 rfl ?_
  refine x_iconst (v := 0) C.1 dX0_passRound_11 (by decide) ?_
  refine x_putI (ty0 := tyX0) (ty := .boolean) C.1 4 dX0_passRound_12 (xc_50 G h1) rfl (Nat.le_of_ble_eq_true rfl) (by decide) rfl (fun w h => List.mem_cons_of_mem _ (iWC_X0 w h)) tyX0_ok nmX0 (by decide) rfl rfl (by decide +kernel) rfl rfl (C.1.2.2.2.2.1 _ (List.mem_cons_of_mem _ qC_38)) (fun h2 => ?_)
  refine x_aload_n C.1 dX0_passRound_15 rfl 0 rfl ?_
  refine x_lconst (v := 0) C.1 dX0_passRound_16 (by decide) ?_
  refine x_putJ (ty0 := tyX0) (ty := .long) C.1 7 dX0_passRound_17 (xc_50 G h2) rfl (Nat.le_of_ble_eq_true rfl) (by decide) rfl (fun w h => List.mem_cons_of_mem _ (iWC_X0 w h)) tyX0_ok nmX0 (by decide) rfl rfl (by decide +kernel) rfl rfl (C.1.2.2.2.2.1 _ (List.mem_cons_of_mem _ qC_41)) (fun h3 => ?_)
  refine x_iconst (v := 0) C.1 dX0_passRound_20 (by decide) ?_
  refine x_istore_n (lv' := [(1, .int 0), (0, .ref (xad G 50))]) C.1 dX0_passRound_21 rfl (by decide) rfl ?_
  exact x_sub [1, 0] rfl (T_X0_passRound_t26_22 C hr 0 h3)
