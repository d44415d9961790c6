/-! X7_writeProof: 32 instructions -/
abbrev J_X7_writeProof (G : xG) (p : Program) (l : Launch) (e : Env) (s : State) (m : MethodId) (args : Array Value) (below : List Frame) (meth : Method) (c : Code) : Nat → List (Nat × Value) → List Value → xHp → Option (Int32 × xHp) → Prop := xJ G p l e ({ frames := 29, cells := 0, slots := 0, locals := 690 } : Room) s m args below meth c 1 (fun res => MQ below (xQi G res) args s 0 0 (xA G))
def F_X7_writeProof_51 (N : Nat) (h : xHp) : Option (Int32 × xHp) := if (gI h 49 4) = 0 then some (1, h) else some (0, h)
def F_X7_writeProof (N : Nat) (h : xHp) : Option (Int32 × xHp) := bnd (sI h 28 1 0) fun h1 => bnd (sI h1 49 4 0) fun h2 => bnd (sI h2 49 3 (gI h2 1 3)) fun h3 => bnd2 (F_X1_giveNothing_30 N h3) fun r4 h5 => bnd2 (F_X7_writeTree N 12 0 h5) fun r6 h7 => if (gI h7 49 4) = 0 then F_X7_writeProof_51 N h7 else bnd (sI h7 28 1 0) fun h8 => F_X7_writeProof_51 N h8
set_option maxHeartbeats 4000000 in
set_option maxRecDepth 100000 in
theorem T_X7_writeProof_51 {G : xG} {p : Program} {l : Launch} {e : Env} {s : State} {m : MethodId} {args : Array Value} {below : List Frame} {meth : Method} {c : Code} {N : Nat} (C : xCz G p s m args meth c cX7_writeProof 1 vX7_writeProof RX7) (hr : meth.sig.returnType = (some .boolean)) (h : xHp) : J_X7_writeProof G p l e s m args below meth c 51 [(0, .ref (xad G 49))] [] h (F_X7_writeProof_51 N h) := by
  unfold F_X7_writeProof_51
  refine x_aload_n C.1 dX7_writeProof_51 rfl 0 rfl ?_
  refine x_get (v := .int (gI h 49 4)) C.1 4 dX7_writeProof_52 (xc_49 G h) rfl (by decide) rfl (fun w h => List.mem_cons_of_mem _ (iWC_X7 w h)) (by decide) rfl (C.1.2.2.2.2.1 _ (List.mem_cons_of_mem _ qC_318)) ?_
  refine x_if_ne (tgt := 62) C.1 dX7_writeProof_55 (by decide) ?_ ?_
  · refine x_iconst (v := 1) C.1 dX7_writeProof_58 (by decide) ?_
    refine x_goto (tgt := 63) C.1 dX7_writeProof_59 (by decide) ?_
    exact x_zretL C.1 dX7_writeProof_63 hr rfl
  · refine x_iconst (v := 0) C.1 dX7_writeProof_62 (by decide) ?_
    exact x_zretL C.1 dX7_writeProof_63 hr rfl
set_option maxHeartbeats 4000000 in
set_option maxRecDepth 100000 in
theorem M_X7_writeProof (G : xG) (l : Launch) (N : Nat) (h : xHp) : ∀ r, F_X7_writeProof N h = some r → Met l yX7_writeProof vX7_writeProof ({ frames := 29, cells := 0, slots := 0, locals := 690 } : Room) (xPz G [.ref (xad G 49)] h) (xQi G r) 0 0 (xA G) := by
  refine z_met (own := RX7) (cc := cX7_writeProof) (maxL := 1) (ret := (some .boolean)) (lv0 := [(0, .ref (xad G 49))]) (by decide +kernel) rfl rfl (Nat.le_of_ble_eq_true rfl) rfl ?_
  intro p e s m below meth c C hr
  unfold F_X7_writeProof
  refine x_aload_n C.1 dX7_writeProof_0 rfl 0 rfl ?_
  refine x_get (v := .ref (xad G 28)) C.1 2 dX7_writeProof_1 (xc_49 G h) rfl (by decide) rfl (fun w h => List.mem_cons_of_mem _ (iWC_X7 w h)) (by decide) rfl (C.1.2.2.2.2.1 _ (List.mem_cons_of_mem _ qC_317)) ?_
  refine x_iconst (v := 0) C.1 dX7_writeProof_4 (by decide) ?_
  refine x_putI (ty0 := tyX6) (ty := .int) C.1 1 dX7_writeProof_5 (xc_28 G h) rfl (Nat.le_of_ble_eq_true rfl) (by decide) rfl (fun w h => List.mem_cons_of_mem _ (iWC_X6 w h)) tyX6_ok nmX6 (by decide) rfl rfl (by decide +kernel) rfl rfl (C.1.2.2.2.2.1 _ (List.mem_cons_of_mem _ qC_353)) (fun h1 => ?_)
  refine x_aload_n C.1 dX7_writeProof_8 rfl 0 rfl ?_
  refine x_iconst (v := 0) C.1 dX7_writeProof_9 (by decide) ?_
  refine x_putI (ty0 := tyX7) (ty := .boolean) C.1 4 dX7_writeProof_10 (xc_49 G h1) rfl (Nat.le_of_ble_eq_true rfl) (by decide) rfl (fun w h => List.mem_cons_of_mem _ (iWC_X7 w h)) tyX7_ok nmX7 (by decide) rfl rfl (by decide +kernel) rfl rfl (C.1.2.2.2.2.1 _ (List.mem_cons_of_mem _ qC_318)) (fun h2 => ?_)
  refine x_aload_n C.1 dX7_writeProof_13 rfl 0 rfl ?_
  refine x_aload_n C.1 dX7_writeProof_14 rfl 0 rfl ?_
  refine x_get (v := .ref (xad G 1)) C.1 1 dX7_writeProof_15 (xc_49 G h2) rfl (by decide) rfl (fun w h => List.mem_cons_of_mem _ (iWC_X7 w h)) (by decide) rfl (C.1.2.2.2.2.1 _ (List.mem_cons_of_mem _ qC_329)) ?_
  refine x_get (v := .int (gI h2 1 3)) C.1 3 dX7_writeProof_18 (xc_1 G h2) rfl (by decide) rfl (fun w h => List.mem_cons_of_mem _ (iWC_X2 w h)) (by decide) rfl (C.1.2.2.2.2.1 _ (List.mem_cons_of_mem _ qC_341)) ?_
  refine x_putI (ty0 := tyX7) (ty := .int) C.1 3 dX7_writeProof_21 (xc_49 G h2) rfl (Nat.le_of_ble_eq_true rfl) (by decide) rfl (fun w h => List.mem_cons_of_mem _ (iWC_X7 w h)) tyX7_ok nmX7 (by decide) rfl rfl (by decide +kernel) rfl rfl (C.1.2.2.2.2.1 _ (List.mem_cons_of_mem _ qC_323)) (fun h3 => ?_)
  refine x_aload_n C.1 dX7_writeProof_24 rfl 0 rfl ?_
  refine x_get (v := .ref (xad G 30)) C.1 0 dX7_writeProof_25 (xc_49 G h3) rfl (by decide) rfl (fun w h => List.mem_cons_of_mem _ (iWC_X7 w h)) (by decide) rfl (C.1.2.2.2.2.1 _ (List.mem_cons_of_mem _ qC_335)) ?_
  refine z_callVv C dX7_writeProof_28 (M_X1_giveNothing_30 G l N h3) (cwV 0 C.1.2.2.2.2.1 (gdV gWC qC_354 qC_99 qC_100 qC_32 qC_2) rfl rfl rfl (by decide +kernel) ⟨Nat.le_of_ble_eq_true rfl, Nat.le_of_ble_eq_true rfl⟩) (xc_30 G h3) (by decide) rfl rfl rfl (Nat.le_of_ble_eq_true rfl) (fun r4 h5 => ?_)
  refine x_aload_n C.1 dX7_writeProof_31 rfl 0 rfl ?_
  refine x_iconst (v := 0) C.1 dX7_writeProof_32 (by decide) ?_
  refine z_callVv C dX7_writeProof_33 (M_X7_writeTree G l N 12 0 h5) (cwV 1 C.1.2.2.2.2.1 (gdV gWC qC_337 qC_338 qC_339 qC_327 qC_340) rfl rfl rfl (by decide +kernel) ⟨Nat.le_of_ble_eq_true rfl, Nat.le_of_ble_eq_true rfl⟩) (xc_49 G h5) (by decide) rfl rfl rfl (Nat.le_of_ble_eq_true rfl) (fun r6 h7 => ?_)
  refine x_aload_n C.1 dX7_writeProof_36 rfl 0 rfl ?_
  refine x_get (v := .int (gI h7 49 4)) C.1 4 dX7_writeProof_37 (xc_49 G h7) rfl (by decide) rfl (fun w h => List.mem_cons_of_mem _ (iWC_X7 w h)) (by decide) rfl (C.1.2.2.2.2.1 _ (List.mem_cons_of_mem _ qC_318)) ?_
  refine x_if_eq (tgt := 51) C.1 dX7_writeProof_40 (by decide) ?_ ?_
  · exact x_sub [0] rfl (T_X7_writeProof_51 C hr h7)
  · refine x_aload_n C.1 dX7_writeProof_43 rfl 0 rfl ?_
    refine x_get (v := .ref (xad G 28)) C.1 2 dX7_writeProof_44 (xc_49 G h7) rfl (by decide) rfl (fun w h => List.mem_cons_of_mem _ (iWC_X7 w h)) (by decide) rfl (C.1.2.2.2.2.1 _ (List.mem_cons_of_mem _ qC_317)) ?_
    refine x_iconst (v := 0) C.1 dX7_writeProof_47 (by decide) ?_
    refine x_putI (ty0 := tyX6) (ty := .int) C.1 1 dX7_writeProof_48 (xc_28 G h7) rfl (Nat.le_of_ble_eq_true rfl) (by decide) rfl (fun w h => List.mem_cons_of_mem _ (iWC_X6 w h)) tyX6_ok nmX6 (by decide) rfl rfl (by decide +kernel) rfl rfl (C.1.2.2.2.2.1 _ (List.mem_cons_of_mem _ qC_353)) (fun h8 => ?_)
    exact x_sub [0] rfl (T_X7_writeProof_51 C hr h8)
/-! X8_prove: 26 instructions -/
abbrev J_X8_prove (G : xG) (p : Program) (l : Launch) (e : Env) (s : State) (m : MethodId) (args : Array Value) (below : List Frame) (meth : Method) (c : Code) : Nat → List (Nat × Value) → List Value → xHp → Option (Int32 × xHp) → Prop := xJ G p l e ({ frames := 30, cells := 0, slots := 0, locals := 760 } : Room) s m args below meth c 1 (fun res => MQ below (xQi G res) args s 0 0 (xA G))
def F_X8_prove_44 (N : Nat) (h : xHp) : Option (Int32 × xHp) := some ((-1), h)
def F_X8_prove (N : Nat) (h : xHp) : Option (Int32 × xHp) := bnd (sI h 28 1 0) fun h1 => if (gI h1 0 9) = 0 then some ((-1), h1) else bnd2 (F_X5_fill N h1) fun r2 h3 => if (0 : Int32) < (gI h3 47 1) then F_X8_prove_44 N h3 else bnd2 (F_X7_writeProof N h3) fun r4 h5 => if r4 = 0 then F_X8_prove_44 N h5 else some ((gI h5 28 1), h5)
set_option maxHeartbeats 4000000 in
set_option maxRecDepth 100000 in
theorem T_X8_prove_44 {G : xG} {p : Program} {l : Launch} {e : Env} {s : State} {m : MethodId} {args : Array Value} {below : List Frame} {meth : Method} {c : Code} {N : Nat} (C : xCz G p s m args meth c cX8_prove 1 vX8_prove RX8) (hr : meth.sig.returnType = (some .int)) (h : xHp) : J_X8_prove G p l e s m args below meth c 44 [] [] h (F_X8_prove_44 N h) := by
  unfold F_X8_prove_44
  refine x_iconst (v := (-1)) C.1 dX8_prove_44 (by decide) ?_
  exact x_iret C.1 dX8_prove_45 hr
set_option maxHeartbeats 4000000 in
set_option maxRecDepth 100000 in
theorem M_X8_prove (G : xG) (l : Launch) (N : Nat) (h : xHp) : ∀ r, F_X8_prove N h = some r → Met l yX8_prove vX8_prove ({ frames := 30, cells := 0, slots := 0, locals := 760 } : Room) (xPz G [.ref (xad G 0)] h) (xQi G r) 0 0 (xA G) := by
  refine z_met (own := RX8) (cc := cX8_prove) (maxL := 1) (ret := (some .int)) (lv0 := [(0, .ref (xad G 0))]) (by decide +kernel) rfl rfl (Nat.le_of_ble_eq_true rfl) rfl ?_
  intro p e s m below meth c C hr
  unfold F_X8_prove
  refine x_aload_n C.1 dX8_prove_0 rfl 0 rfl ?_
  refine x_get (v := .ref (xad G 28)) C.1 6 dX8_prove_1 (xc_0 G h) rfl (by decide) rfl (fun w h => List.mem_cons_of_mem _ (iWC_X8 w h)) (by decide) rfl (C.1.2.2.2.2.1 _ (List.mem_cons_of_mem _ qC_460)) ?_
  refine x_iconst (v := 0) C.1 dX8_prove_4 (by decide) ?_
  refine x_putI (ty0 := tyX6) (ty := .int) C.1 1 dX8_prove_5 (xc_28 G h) rfl (Nat.le_of_ble_eq_true rfl) (by decide) rfl (fun w h => List.mem_cons_of_mem _ (iWC_X6 w h)) tyX6_ok nmX6 (by decide) rfl rfl (by decide +kernel) rfl rfl (C.1.2.2.2.2.1 _ (List.mem_cons_of_mem _ qC_412)) (fun h1 => ?_)
  refine x_aload_n C.1 dX8_prove_8 rfl 0 rfl ?_
  refine x_get (v := .int (gI h1 0 9)) C.1 9 dX8_prove_9 (xc_0 G h1) rfl (by decide) rfl (fun w h => List.mem_cons_of_mem _ (iWC_X8 w h)) (by decide) rfl (C.1.2.2.2.2.1 _ (List.mem_cons_of_mem _ qC_420)) ?_
  refine x_if_ne (tgt := 17) C.1 dX8_prove_12 (by decide) ?_ ?_
  · refine x_iconst (v := (-1)) C.1 dX8_prove_15 (by decide) ?_
    exact x_iret C.1 dX8_prove_16 hr
  · refine x_aload_n C.1 dX8_prove_17 rfl 0 rfl ?_
    refine x_get (v := .ref (xad G 47)) C.1 12 dX8_prove_18 (xc_0 G h1) rfl (by decide) rfl (fun w h => List.mem_cons_of_mem _ (iWC_X8 w h)) (by decide) rfl (C.1.2.2.2.2.1 _ (List.mem_cons_of_mem _ qC_373)) ?_
    refine z_callVv C dX8_prove_21 (M_X5_fill G l N h1) (cwV 0 C.1.2.2.2.2.1 (gdV gWC qC_439 qC_440 qC_441 qC_295 qC_311) rfl rfl rfl (by decide +kernel) ⟨Nat.le_of_ble_eq_true rfl, Nat.le_of_ble_eq_true rfl⟩) (xc_47 G h1) (by decide) rfl rfl rfl (Nat.le_of_ble_eq_true rfl) (fun r2 h3 => ?_)
    refine x_aload_n C.1 dX8_prove_24 rfl 0 rfl ?_
    refine x_get (v := .ref (xad G 47)) C.1 12 dX8_prove_25 (xc_0 G h3) rfl (by decide) rfl (fun w h => List.mem_cons_of_mem _ (iWC_X8 w h)) (by decide) rfl (C.1.2.2.2.2.1 _ (List.mem_cons_of_mem _ qC_373)) ?_
    refine x_get (v := .int (gI h3 47 1)) C.1 1 dX8_prove_28 (xc_47 G h3) rfl (by decide) rfl (fun w h => List.mem_cons_of_mem _ (iWC_X5 w h)) (by decide) rfl (C.1.2.2.2.2.1 _ (List.mem_cons_of_mem _ qC_438)) ?_
    refine x_if_gt (tgt := 44) C.1 dX8_prove_31 (by decide) ?_ ?_
    · exact x_sub [] rfl (T_X8_prove_44 C hr h3)
    · refine x_aload_n C.1 dX8_prove_34 rfl 0 rfl ?_
      refine x_get (v := .ref (xad G 49)) C.1 13 dX8_prove_35 (xc_0 G h3) rfl (by decide) rfl (fun w h => List.mem_cons_of_mem _ (iWC_X8 w h)) (by decide) rfl (C.1.2.2.2.2.1 _ (List.mem_cons_of_mem _ qC_461)) ?_
      refine z_callVi C dX8_prove_38 (M_X7_writeProof G l N h3) (cwV 0 C.1.2.2.2.2.1 (gdV gWC qC_462 qC_463 qC_464 qC_327 qC_355) rfl rfl rfl (by decide +kernel) ⟨Nat.le_of_ble_eq_true rfl, Nat.le_of_ble_eq_true rfl⟩) (xc_49 G h3) (by decide) rfl rfl rfl (Nat.le_of_ble_eq_true rfl) (fun r4 h5 => ?_)
      refine x_if_ne (tgt := 46) C.1 dX8_prove_41 (by decide) ?_ ?_
      · exact x_sub [] rfl (T_X8_prove_44 C hr h5)
      · refine x_aload_n C.1 dX8_prove_46 rfl 0 rfl ?_
        refine x_get (v := .ref (xad G 28)) C.1 6 dX8_prove_47 (xc_0 G h5) rfl (by decide) rfl (fun w h => List.mem_cons_of_mem _ (iWC_X8 w h)) (by decide) rfl (C.1.2.2.2.2.1 _ (List.mem_cons_of_mem _ qC_460)) ?_
        refine x_get (v := .int (gI h5 28 1)) C.1 1 dX8_prove_50 (xc_28 G h5) rfl (by decide) rfl (fun w h => List.mem_cons_of_mem _ (iWC_X6 w h)) (by decide) rfl (C.1.2.2.2.2.1 _ (List.mem_cons_of_mem _ qC_412)) ?_
        exact x_iret C.1 dX8_prove_53 hr
/-! X6_at_28: 20 instructions -/
abbrev J_X6_at_28 (G : xG) (p : Program) (l : Launch) (e : Env) (s : State) (m : MethodId) (args : Array Value) (below : List Frame) (meth : Method) (c : Code) : Nat → List (Nat × Value) → List Value → xHp → Option (Int32 × xHp) → Prop := xJ G p l e ({ frames := 0, cells := 0, slots := 0, locals := 0 } : Room) s m args below meth c 2 (fun res => MQ below (xQi G res) args s 0 0 (xA G))
def F_X6_at_28_34 (N : Nat) (h : xHp) : Option (Int32 × xHp) := some ((-1), h)
def F_X6_at_28 (N : Nat) (p1 : Int32) (h : xHp) : Option (Int32 × xHp) := if p1 < 0 then F_X6_at_28_34 N h else if (gI h 28 1) ≤ p1 then F_X6_at_28_34 N h else if 6000 ≤ p1 then F_X6_at_28_34 N h else grd (xin p1 6000) (some (((gI h 29 p1.toNatClampNeg) &&& 255), h))
set_option maxHeartbeats 4000000 in
set_option maxRecDepth 100000 in
theorem T_X6_at_28_34 {G : xG} {p : Program} {l : Launch} {e : Env} {s : State} {m : MethodId} {args : Array Value} {below : List Frame} {meth : Method} {c : Code} {N : Nat} (C : xCz G p s m args meth c cX6_at 2 vX6_at RX6) (hr : meth.sig.returnType = (some .int)) (h : xHp) : J_X6_at_28 G p l e s m args below meth c 34 [] [] h (F_X6_at_28_34 N h) := by
  unfold F_X6_at_28_34
  refine x_iconst (v := (-1)) C.1 dX6_at_34 (by decide) ?_
  exact x_iret C.1 dX6_at_35 hr
set_option maxHeartbeats 4000000 in
set_option maxRecDepth 100000 in
theorem M_X6_at_28 (G : xG) (l : Launch) (N : Nat) (p1 : Int32) (h : xHp) : ∀ r, F_X6_at_28 N p1 h = some r → Met l yX6_at vX6_at ({ frames := 0, cells := 0, slots := 0, locals := 0 } : Room) (xPz G [.ref (xad G 28), .int p1] h) (xQi G r) 0 0 (xA G) := by
  refine z_met (own := RX6) (cc := cX6_at) (maxL := 2) (ret := (some .int)) (lv0 := [(0, .ref (xad G 28)), (1, .int p1)]) (by decide +kernel) rfl rfl (Nat.le_of_ble_eq_true rfl) rfl ?_
  intro p e s m below meth c C hr
  unfold F_X6_at_28
  refine x_iload_n C.1 dX6_at_0 rfl 1 rfl ?_
  refine x_if_lt (tgt := 34) C.1 dX6_at_1 (by decide) ?_ ?_
  · exact x_sub [] rfl (T_X6_at_28_34 C hr h)
  · refine x_iload_n C.1 dX6_at_4 rfl 1 rfl ?_
    refine x_aload_n C.1 dX6_at_5 rfl 0 rfl ?_
    refine x_get (v := .int (gI h 28 1)) C.1 1 dX6_at_6 (xc_28 G h) rfl (by decide) rfl (fun w h => List.mem_cons_of_mem _ (iWC_X6 w h)) (by decide) rfl (C.1.2.2.2.2.1 _ (List.mem_cons_of_mem _ qC_8)) ?_
    refine x_icmp_ge (tgt := 34) C.1 dX6_at_9 (by decide) ?_ ?_
    · exact x_sub [] rfl (T_X6_at_28_34 C hr h)
    · refine x_iload_n C.1 dX6_at_12 rfl 1 rfl ?_
      refine x_aload_n C.1 dX6_at_13 rfl 0 rfl ?_
      refine x_get (v := .ref (xad G 29)) C.1 0 dX6_at_14 (xc_28 G h) rfl (by decide) rfl (fun w h => List.mem_cons_of_mem _ (iWC_X6 w h)) (by decide) rfl (C.1.2.2.2.2.1 _ (List.mem_cons_of_mem _ qC_9)) ?_
      refine x_alen (v := 6000) (t0 := 0) C.1 dX6_at_17 (xc_29 G h) rfl rfl (by decide) ?_
      refine x_icmp_ge (tgt := 34) C.1 dX6_at_18 (by decide) ?_ ?_
      · exact x_sub [] rfl (T_X6_at_28_34 C hr h)
      · refine x_aload_n C.1 dX6_at_21 rfl 0 rfl ?_
        refine x_get (v := .ref (xad G 29)) C.1 0 dX6_at_22 (xc_28 G h) rfl (by decide) rfl (fun w h => List.mem_cons_of_mem _ (iWC_X6 w h)) (by decide) rfl (C.1.2.2.2.2.1 _ (List.mem_cons_of_mem _ qC_9)) ?_
        refine x_iload_n C.1 dX6_at_25 rfl 1 rfl ?_
        refine x_bald (n := 6000) C.1 dX6_at_26 (xc_29 G h) (by decide) ?_
        refine x_sipush (v := 255) C.1 dX6_at_27 (by decide) ?_
        refine x_iand C.1 dX6_at_30 ?_
        refine x_goto (tgt := 35) C.1 dX6_at_31 (by decide) ?_
        exact x_iret C.1 dX6_at_35 hr
