/-! X8_requireVariable: 11 instructions -/
abbrev J_X8_requireVariable (G : xG) (p : Program) (l : Launch) (e : Env) (s : State) (m : MethodId) (args : Array Value) (below : List Frame) (meth : Method) (c : Code) : Nat → List (Nat × Value) → List Value → xHp → Option (Unit × xHp) → Prop := xJ G p l e ({ frames := 0, cells := 0, slots := 0, locals := 0 } : Room) s m args below meth c 2 (fun res => MQ below (xQv G res) args s 0 0 (xA G))
def F_X8_requireVariable_10 (N : Nat) (h : xHp) : Option (Unit × xHp) := none
def F_X8_requireVariable (N : Nat) (p1 : Int32) (h : xHp) : Option (Unit × xHp) := if p1 < 0 then F_X8_requireVariable_10 N h else if p1 < 16 then some ((), h) else F_X8_requireVariable_10 N h
set_option maxHeartbeats 4000000 in
set_option maxRecDepth 100000 in
theorem T_X8_requireVariable_10 {G : xG} {p : Program} {l : Launch} {e : Env} {s : State} {m : MethodId} {args : Array Value} {below : List Frame} {meth : Method} {c : Code} {N : Nat} (C : xCz G p s m args meth c cX8_requireVariable 2 vX8_requireVariable RX8) (hr : meth.sig.returnType = none) (h : xHp) : J_X8_requireVariable G p l e s m args below meth c 10 [] [] h (F_X8_requireVariable_10 N h) := by
  unfold F_X8_requireVariable_10
  exact x_none
set_option maxHeartbeats 4000000 in
set_option maxRecDepth 100000 in
theorem M_X8_requireVariable (G : xG) (l : Launch) (N : Nat) (p1 : Int32) (h : xHp) : ∀ r, F_X8_requireVariable N p1 h = some r → Met l yX8_requireVariable vX8_requireVariable ({ frames := 0, cells := 0, slots := 0, locals := 0 } : Room) (xPz G [.ref (xad G 0), .int p1] h) (xQv G r) 0 0 (xA G) := by
  refine z_met (own := RX8) (cc := cX8_requireVariable) (maxL := 2) (ret := none) (lv0 := [(0, .ref (xad G 0)), (1, .int p1)]) (by decide +kernel) rfl rfl (Nat.le_of_ble_eq_true rfl) rfl ?_
  intro p e s m below meth c C hr
  unfold F_X8_requireVariable
  refine x_iload_n C.1 dX8_requireVariable_0 rfl 1 rfl ?_
  refine x_if_lt (tgt := 10) C.1 dX8_requireVariable_1 (by decide) ?_ ?_
  · exact x_sub [] rfl (T_X8_requireVariable_10 C hr h)
  · refine x_iload_n C.1 dX8_requireVariable_4 rfl 1 rfl ?_
    refine x_bipush (v := 16) C.1 dX8_requireVariable_5 (by decide) ?_
    refine x_icmp_lt (tgt := 21) C.1 dX8_requireVariable_7 (by decide) ?_ ?_
    · exact x_vret C.1 dX8_requireVariable_21 hr
    · exact x_sub [] rfl (T_X8_requireVariable_10 C hr h)
/-! X8_add: 54 instructions -/
abbrev J_X8_add (G : xG) (p : Program) (l : Launch) (e : Env) (s : State) (m : MethodId) (args : Array Value) (below : List Frame) (meth : Method) (c : Code) : Nat → List (Nat × Value) → List Value → xHp → Option (Int32 × xHp) → Prop := xJ G p l e ({ frames := 3, cells := 0, slots := 0, locals := 130 } : Room) s m args below meth c 4 (fun res => MQ below (xQi G res) args s 0 0 (xA G))
def F_X8_add_22 (N : Nat) (h : xHp) : Option (Int32 × xHp) := none
def F_X8_add (N : Nat) (p1 : Int32) (p2 : Int32) (p3 : Int32) (h : xHp) : Option (Int32 × xHp) := bnd2 (F_X8_requireVariable N p1 h) fun r1 h2 => bnd2 (F_X8_requireVariable N p2 h2) fun r3 h4 => if p3 < (-1000000) then F_X8_add_22 N h4 else if p3 ≤ 1000000 then if (gI h4 1 3) < 60 then bnd2 (F_X2_refuses N p1 p2 p3 h4) fun r5 h6 => if r5 = 0 then bnd2 (F_X2_append N p1 p2 p3 h6) fun r7 h8 => bnd (sI h8 47 2 0) fun h9 => some (((gI h9 1 3) - 1), h9) else bnd2 (F_X8_keepCore N h6) fun r10 h11 => some ((-1), h11) else none else F_X8_add_22 N h4
set_option maxHeartbeats 4000000 in
set_option maxRecDepth 100000 in
theorem T_X8_add_22 {G : xG} {p : Program} {l : Launch} {e : Env} {s : State} {m : MethodId} {args : Array Value} {below : List Frame} {meth : Method} {c : Code} {N : Nat} (C : xCz G p s m args meth c cX8_add 4 vX8_add RX8) (hr : meth.sig.returnType = (some .int)) (h : xHp) : J_X8_add G p l e s m args below meth c 22 [] [] h (F_X8_add_22 N h) := by
  unfold F_X8_add_22
  exact x_none
set_option maxHeartbeats 4000000 in
set_option maxRecDepth 100000 in
theorem M_X8_add (G : xG) (l : Launch) (N : Nat) (p1 : Int32) (p2 : Int32) (p3 : Int32) (h : xHp) : ∀ r, F_X8_add N p1 p2 p3 h = some r → Met l yX8_add vX8_add ({ frames := 3, cells := 0, slots := 0, locals := 130 } : Room) (xPz G [.ref (xad G 0), .int p1, .int p2, .int p3] h) (xQi G r) 0 0 (xA G) := by
  refine z_met (own := RX8) (cc := cX8_add) (maxL := 4) (ret := (some .int)) (lv0 := [(0, .ref (xad G 0)), (1, .int p1), (2, .int p2), (3, .int p3)]) (by decide +kernel) rfl rfl (Nat.le_of_ble_eq_true rfl) rfl ?_
  intro p e s m below meth c C hr
  unfold F_X8_add
  refine x_aload_n C.1 dX8_add_0 rfl 0 rfl ?_
  refine x_iload_n C.1 dX8_add_1 rfl 1 rfl ?_
  refine z_callVv C dX8_add_2 (M_X8_requireVariable G l N p1 h) (cwV 1 C.1.2.2.2.2.1 (gdV gWT (wcWT _ qC_375) (wcWT _ qC_376) (wcWT _ qC_377) (wcWT _ qC_52) (wcWT _ qC_357)) rfl rfl rfl (by decide +kernel) ⟨Nat.le_of_ble_eq_true rfl, Nat.le_of_ble_eq_true rfl⟩) (xc_0 G h) (by decide) rfl rfl rfl (Nat.le_of_ble_eq_true rfl) (fun r1 h2 => ?_)
  refine x_aload_n C.1 dX8_add_5 rfl 0 rfl ?_
  refine x_iload_n C.1 dX8_add_6 rfl 2 rfl ?_
  refine z_callVv C dX8_add_7 (M_X8_requireVariable G l N p2 h2) (cwV 1 C.1.2.2.2.2.1 (gdV gWT (wcWT _ qC_375) (wcWT _ qC_376) (wcWT _ qC_377) (wcWT _ qC_52) (wcWT _ qC_357)) rfl rfl rfl (by decide +kernel) ⟨Nat.le_of_ble_eq_true rfl, Nat.le_of_ble_eq_true rfl⟩) (xc_0 G h2) (by decide) rfl rfl rfl (Nat.le_of_ble_eq_true rfl) (fun r3 h4 => ?_)
  refine x_iload_n C.1 dX8_add_10 rfl 3 rfl ?_
  refine x_ldc (v := (-1000000)) C.1 dX8_add_11 (C.1.2.2.2.2.1 _ (List.mem_cons_of_mem _ (wcWT _ qC_370))) ?_
  refine x_icmp_lt (tgt := 22) C.1 dX8_add_13 (by decide) ?_ ?_
  · exact x_sub [] rfl (T_X8_add_22 C hr h4)
  · refine x_iload_n C.1 dX8_add_16 rfl 3 rfl ?_
    refine x_ldc (v := 1000000) C.1 dX8_add_17 (C.1.2.2.2.2.1 _ (List.mem_cons_of_mem _ (wcWT _ qC_371))) ?_
    refine x_icmp_le (tgt := 32) C.1 dX8_add_19 (by decide) ?_ ?_
    · refine x_aload_n C.1 dX8_add_32 rfl 0 rfl ?_
      refine x_get (v := .ref (xad G 1)) C.1 0 dX8_add_33 (xc_0 G h4) rfl (by decide) rfl (fun w h => List.mem_cons_of_mem _ (wcWT w (iWC_X8 w h))) (by decide) rfl (C.1.2.2.2.2.1 _ (List.mem_cons_of_mem _ (wcWT _ qC_363))) ?_
      refine x_get (v := .int (gI h4 1 3)) C.1 3 dX8_add_36 (xc_1 G h4) rfl (by decide) rfl (fun w h => List.mem_cons_of_mem _ (wcWT w (iWC_X2 w h))) (by decide) rfl (C.1.2.2.2.2.1 _ (List.mem_cons_of_mem _ (wcWT _ qC_372))) ?_
      refine x_bipush (v := 60) C.1 dX8_add_39 (by decide) ?_
      refine x_icmp_lt (tgt := 54) C.1 dX8_add_41 (by decide) ?_ ?_
      · refine x_aload_n C.1 dX8_add_54 rfl 0 rfl ?_
        refine x_get (v := .ref (xad G 1)) C.1 0 dX8_add_55 (xc_0 G h4) rfl (by decide) rfl (fun w h => List.mem_cons_of_mem _ (wcWT w (iWC_X8 w h))) (by decide) rfl (C.1.2.2.2.2.1 _ (List.mem_cons_of_mem _ (wcWT _ qC_363))) ?_
        refine x_iload_n C.1 dX8_add_58 rfl 1 rfl ?_
        refine x_iload_n C.1 dX8_add_59 rfl 2 rfl ?_
        refine x_iload_n C.1 dX8_add_60 rfl 3 rfl ?_
        refine z_callVi C dX8_add_61 (M_X2_refuses G l N p1 p2 p3 h4) (cwV 3 C.1.2.2.2.2.1 (gdV2 wcWT gWT (wcWT _ qC_378) (wcWT _ qC_158) (wcWT _ qC_159) (wcWT _ qC_144) (wcWT _ qC_152)) rfl rfl rfl (by decide +kernel) ⟨Nat.le_of_ble_eq_true rfl, Nat.le_of_ble_eq_true rfl⟩) (xc_1 G h4) (by decide) rfl rfl rfl (Nat.le_of_ble_eq_true rfl) (fun r5 h6 => ?_)
        refine x_if_eq (tgt := 73) C.1 dX8_add_64 (by decide) ?_ ?_
        · refine x_aload_n C.1 dX8_add_73 rfl 0 rfl ?_
          refine x_get (v := .ref (xad G 1)) C.1 0 dX8_add_74 (xc_0 G h6) rfl (by decide) rfl (fun w h => List.mem_cons_of_mem _ (wcWT w (iWC_X8 w h))) (by decide) rfl (C.1.2.2.2.2.1 _ (List.mem_cons_of_mem _ (wcWT _ qC_363))) ?_
          refine x_iload_n C.1 dX8_add_77 rfl 1 rfl ?_
          refine x_iload_n C.1 dX8_add_78 rfl 2 rfl ?_
          refine x_iload_n C.1 dX8_add_79 rfl 3 rfl ?_
          refine z_callVv C dX8_add_80 (M_X2_append G l N p1 p2 p3 h6) (cwV 3 C.1.2.2.2.2.1 (gdV2 wcWT gWT (wcWT _ qC_382) (wcWT _ qC_161) (wcWT _ qC_162) (wcWT _ qC_144) (wcWT _ qC_153)) rfl rfl rfl (by decide +kernel) ⟨Nat.le_of_ble_eq_true rfl, Nat.le_of_ble_eq_true rfl⟩) (xc_1 G h6) (by decide) rfl rfl rfl (Nat.le_of_ble_eq_true rfl) (fun r7 h8 => ?_)
          refine x_aload_n C.1 dX8_add_83 rfl 0 rfl ?_
          refine x_get (v := .ref (xad G 47)) C.1 12 dX8_add_84 (xc_0 G h8) rfl (by decide) rfl (fun w h => List.mem_cons_of_mem _ (wcWT w (iWC_X8 w h))) (by decide) rfl (C.1.2.2.2.2.1 _ (List.mem_cons_of_mem _ (wcWT _ qC_373))) ?_
          refine x_iconst (v := 0) C.1 dX8_add_87 (by decide) ?_
          refine x_putI (ty0 := tyX5) (ty := .boolean) C.1 2 dX8_add_88 (xc_47 G h8) rfl (Nat.le_of_ble_eq_true rfl) (by decide) rfl (fun w h => List.mem_cons_of_mem _ (wcWT w (iWC_X5 w h))) tyX5_ok nmX5 (by decide) rfl rfl (by decide +kernel) rfl rfl (C.1.2.2.2.2.1 _ (List.mem_cons_of_mem _ (wcWT _ qC_374))) (fun h9 => ?_)
          refine x_aload_n C.1 dX8_add_91 rfl 0 rfl ?_
          refine x_get (v := .ref (xad G 1)) C.1 0 dX8_add_92 (xc_0 G h9) rfl (by decide) rfl (fun w h => List.mem_cons_of_mem _ (wcWT w (iWC_X8 w h))) (by decide) rfl (C.1.2.2.2.2.1 _ (List.mem_cons_of_mem _ (wcWT _ qC_363))) ?_
          refine x_get (v := .int (gI h9 1 3)) C.1 3 dX8_add_95 (xc_1 G h9) rfl (by decide) rfl (fun w h => List.mem_cons_of_mem _ (wcWT w (iWC_X2 w h))) (by decide) rfl (C.1.2.2.2.2.1 _ (List.mem_cons_of_mem _ (wcWT _ qC_372))) ?_
          refine x_iconst (v := 1) C.1 dX8_add_98 (by decide) ?_
          refine x_isub C.1 dX8_add_99 ?_
          exact x_iret C.1 dX8_add_100 hr
        · refine x_aload_n C.1 dX8_add_67 rfl 0 rfl ?_
          refine z_callVv C dX8_add_68 (M_X8_keepCore G l N h6) (cwV 0 C.1.2.2.2.2.1 (gdV2 wcWT gWT (wcWT _ qC_379) (wcWT _ qC_380) (wcWT _ qC_381) (wcWT _ qC_52) (wcWT _ qC_360)) rfl rfl rfl (by decide +kernel) ⟨Nat.le_of_ble_eq_true rfl, Nat.le_of_ble_eq_true rfl⟩) (xc_0 G h6) (by decide) rfl rfl rfl (Nat.le_of_ble_eq_true rfl) (fun r10 h11 => ?_)
          refine x_iconst (v := (-1)) C.1 dX8_add_71 (by decide) ?_
          exact x_iret C.1 dX8_add_72 hr
      · exact x_none
    · exact x_sub [] rfl (T_X8_add_22 C hr h4)
/-! X8_requireVariable_T: 11 instructions -/
abbrev J_X8_requireVariable_T (G : xG) (p : Program) (l : Launch) (e : Env) (s : State) (m : MethodId) (args : Array Value) (below : List Frame) (meth : Method) (c : Code) : Nat → List (Nat × Value) → List Value → xHp → Option (Nat × xHp) → Prop := xJ G p l e ({ frames := 6, cells := 1, slots := 6, locals := 100 } : Room) s m args below meth c 2 (fun res => vx_MQ below yNv (xXC G res) args s 1 6 (xA G))
def F_X8_requireVariable_T_10 (N : Nat) (h : xHp) : Option (Nat × xHp) := some (1, h)
def F_X8_requireVariable_T (N : Nat) (p1 : Int32) (h : xHp) : Option (Nat × xHp) := if p1 < 0 then F_X8_requireVariable_T_10 N h else if p1 < 16 then none else F_X8_requireVariable_T_10 N h
set_option maxHeartbeats 4000000 in
set_option maxRecDepth 100000 in
theorem T_X8_requireVariable_T_10 {G : xG} {p : Program} {l : Launch} {e : Env} {s : State} {m : MethodId} {args : Array Value} {below : List Frame} {meth : Method} {c : Code} {N : Nat} (C : xCz G p s m args meth c cX8_requireVariable 2 vX8_requireVariable RX8)  (hlt : l.stackTraces = false) (hex : ∀ x ∈ c.exceptionTable.toList, False) (h : xHp) : J_X8_requireVariable_T G p l e s m args below meth c 10 [] [] h (F_X8_requireVariable_T_10 N h) := by
  unfold F_X8_requireVariable_T_10
  obtain ⟨sa, hsa⟩ := C.2.2.2.2.2.1.2.2.2.2.2.2.2.2.2.2.2.2.2.1
  exact y_throwW_1 C hlt hex hsa dX8_requireVariable_10 dX8_requireVariable_13 dX8_requireVariable_14 dX8_requireVariable_17 dX8_requireVariable_20 (by decide) (by decide) (by decide) (by decide)
set_option maxHeartbeats 4000000 in
set_option maxRecDepth 100000 in
theorem M_X8_requireVariable_T (G : xG) (l : Launch) (hlt : l.stackTraces = false) (N : Nat) (p1 : Int32) (h : xHp) : ∀ r, F_X8_requireVariable_T N p1 h = some r → vx_Met l yX8_requireVariable vX8_requireVariable ({ frames := 6, cells := 1, slots := 6, locals := 100 } : Room) (xPz G [.ref (xad G 0), .int p1] h) yNv (xXC G r) 1 6 (xA G) := by
  refine y_met (own := RX8) (cc := cX8_requireVariable) (maxL := 2) (ret := none) (lv0 := [(0, .ref (xad G 0)), (1, .int p1)]) (by decide +kernel) rfl rfl (Nat.le_of_ble_eq_true rfl) rfl ?_
  intro p e s m below meth c C hex
  unfold F_X8_requireVariable_T
  refine x_iload_n C.1 dX8_requireVariable_0 rfl 1 rfl ?_
  refine x_if_lt (tgt := 10) C.1 dX8_requireVariable_1 (by decide) ?_ ?_
  · exact x_sub [] rfl (T_X8_requireVariable_T_10 C hlt hex h)
  · refine x_iload_n C.1 dX8_requireVariable_4 rfl 1 rfl ?_
    refine x_bipush (v := 16) C.1 dX8_requireVariable_5 (by decide) ?_
    refine x_icmp_lt (tgt := 21) C.1 dX8_requireVariable_7 (by decide) ?_ ?_
    · exact x_none
    · exact x_sub [] rfl (T_X8_requireVariable_T_10 C hlt hex h)
/-! X8_add_T: 54 instructions -/
abbrev J_X8_add_T (G : xG) (p : Program) (l : Launch) (e : Env) (s : State) (m : MethodId) (args : Array Value) (below : List Frame) (meth : Method) (c : Code) : Nat → List (Nat × Value) → List Value → xHp → Option (Nat × xHp) → Prop := xJ G p l e ({ frames := 7, cells := 1, slots := 6, locals := 130 } : Room) s m args below meth c 4 (fun res => vx_MQ below yNi (xXC G res) args s 1 6 (xA G))
def F_X8_add_T_22 (N : Nat) (h : xHp) : Option (Nat × xHp) := some (2, h)
def F_X8_add_T (N : Nat) (p1 : Int32) (p2 : Int32) (p3 : Int32) (h : xHp) : Option (Nat × xHp) := orX (F_X8_requireVariable_T N p1 h) (bnd2 (F_X8_requireVariable N p1 h) fun r1 h2 => orX (F_X8_requireVariable_T N p2 h2) (bnd2 (F_X8_requireVariable N p2 h2) fun r3 h4 => if p3 < (-1000000) then F_X8_add_T_22 N h4 else if p3 ≤ 1000000 then if (gI h4 1 3) < 60 then bnd2 (F_X2_refuses N p1 p2 p3 h4) fun r5 h6 => if r5 = 0 then bnd2 (F_X2_append N p1 p2 p3 h6) fun r7 h8 => bnd (sI h8 47 2 0) fun h9 => none else bnd2 (F_X8_keepCore N h6) fun r10 h11 => none else some (3, h4) else F_X8_add_T_22 N h4))
set_option maxHeartbeats 4000000 in
set_option maxRecDepth 100000 in
theorem T_X8_add_T_22 {G : xG} {p : Program} {l : Launch} {e : Env} {s : State} {m : MethodId} {args : Array Value} {below : List Frame} {meth : Method} {c : Code} {N : Nat} (C : xCz G p s m args meth c cX8_add 4 vX8_add RX8)  (hlt : l.stackTraces = false) (hex : ∀ x ∈ c.exceptionTable.toList, False) (h : xHp) : J_X8_add_T G p l e s m args below meth c 22 [] [] h (F_X8_add_T_22 N h) := by
  unfold F_X8_add_T_22
  obtain ⟨sa, hsa⟩ := C.2.2.2.2.2.1.1
  exact y_throw_2 C hlt hex hsa dX8_add_22 dX8_add_25 dX8_add_26 dX8_add_28 dX8_add_31 (by decide) (by decide) (by decide) (by decide)
set_option maxHeartbeats 4000000 in
set_option maxRecDepth 100000 in
theorem M_X8_add_T (G : xG) (l : Launch) (hlt : l.stackTraces = false) (N : Nat) (p1 : Int32) (p2 : Int32) (p3 : Int32) (h : xHp) : ∀ r, F_X8_add_T N p1 p2 p3 h = some r → vx_Met l yX8_add vX8_add ({ frames := 7, cells := 1, slots := 6, locals := 130 } : Room) (xPz G [.ref (xad G 0), .int p1, .int p2, .int p3] h) yNi (xXC G r) 1 6 (xA G) := by
  refine y_met (own := RX8) (cc := cX8_add) (maxL := 4) (ret := (some .int)) (lv0 := [(0, .ref (xad G 0)), (1, .int p1), (2, .int p2), (3, .int p3)]) (by decide +kernel) rfl rfl (Nat.le_of_ble_eq_true rfl) rfl ?_
  intro p e s m below meth c C hex
  unfold F_X8_add_T
  refine x_aload_n C.1 dX8_add_0 rfl 0 rfl ?_
  refine x_iload_n C.1 dX8_add_1 rfl 1 rfl ?_
  refine y_callVv C hex dX8_add_2 (M_X8_requireVariable_T G l hlt N p1 h) (cwV 1 C.1.2.2.2.2.1 (gdV gWT (wcWT _ qC_375) (wcWT _ qC_376) (wcWT _ qC_377) (wcWT _ qC_52) (wcWT _ qC_357)) rfl rfl rfl (by decide +kernel) ⟨Nat.le_of_ble_eq_true rfl, Nat.le_of_ble_eq_true rfl⟩) (xc_0 G h) (by decide) rfl rfl rfl (Nat.le_of_ble_eq_true rfl) (by decide) (by decide) ?_
  refine z_callVv C dX8_add_2 (M_X8_requireVariable G l N p1 h) (cwV 1 C.1.2.2.2.2.1 (gdV gWT (wcWT _ qC_375) (wcWT _ qC_376) (wcWT _ qC_377) (wcWT _ qC_52) (wcWT _ qC_357)) rfl rfl rfl (by decide +kernel) ⟨Nat.le_of_ble_eq_true rfl, Nat.le_of_ble_eq_true rfl⟩) (xc_0 G h) (by decide) rfl rfl rfl (Nat.le_of_ble_eq_true rfl) (fun r1 h2 => ?_)
  refine x_aload_n C.1 dX8_add_5 rfl 0 rfl ?_
  refine x_iload_n C.1 dX8_add_6 rfl 2 rfl ?_
  refine y_callVv C hex dX8_add_7 (M_X8_requireVariable_T G l hlt N p2 h2) (cwV 1 C.1.2.2.2.2.1 (gdV gWT (wcWT _ qC_375) (wcWT _ qC_376) (wcWT _ qC_377) (wcWT _ qC_52) (wcWT _ qC_357)) rfl rfl rfl (by decide +kernel) ⟨Nat.le_of_ble_eq_true rfl, Nat.le_of_ble_eq_true rfl⟩) (xc_0 G h2) (by decide) rfl rfl rfl (Nat.le_of_ble_eq_true rfl) (by decide) (by decide) ?_
  refine z_callVv C dX8_add_7 (M_X8_requireVariable G l N p2 h2) (cwV 1 C.1.2.2.2.2.1 (gdV gWT (wcWT _ qC_375) (wcWT _ qC_376) (wcWT _ qC_377) (wcWT _ qC_52) (wcWT _ qC_357)) rfl rfl rfl (by decide +kernel) ⟨Nat.le_of_ble_eq_true rfl, Nat.le_of_ble_eq_true rfl⟩) (xc_0 G h2) (by decide) rfl rfl rfl (Nat.le_of_ble_eq_true rfl) (fun r3 h4 => ?_)
  refine x_iload_n C.1 dX8_add_10 rfl 3 rfl ?_
  refine x_ldc (v := (-1000000)) C.1 dX8_add_11 (C.1.2.2.2.2.1 _ (List.mem_cons_of_mem _ (wcWT _ qC_370))) ?_
  refine x_icmp_lt (tgt := 22) C.1 dX8_add_13 (by decide) ?_ ?_
  · exact x_sub [] rfl (T_X8_add_T_22 C hlt hex h4)
  · refine x_iload_n C.1 dX8_add_16 rfl 3 rfl ?_
    refine x_ldc (v := 1000000) C.1 dX8_add_17 (C.1.2.2.2.2.1 _ (List.mem_cons_of_mem _ (wcWT _ qC_371))) ?_
    refine x_icmp_le (tgt := 32) C.1 dX8_add_19 (by decide) ?_ ?_
    · refine x_aload_n C.1 dX8_add_32 rfl 0 rfl ?_
      refine x_get (v := .ref (xad G 1)) C.1 0 dX8_add_33 (xc_0 G h4) rfl (by decide) rfl (fun w h => List.mem_cons_of_mem _ (wcWT w (iWC_X8 w h))) (by decide) rfl (C.1.2.2.2.2.1 _ (List.mem_cons_of_mem _ (wcWT _ qC_363))) ?_
      refine x_get (v := .int (gI h4 1 3)) C.1 3 dX8_add_36 (xc_1 G h4) rfl (by decide) rfl (fun w h => List.mem_cons_of_mem _ (wcWT w (iWC_X2 w h))) (by decide) rfl (C.1.2.2.2.2.1 _ (List.mem_cons_of_mem _ (wcWT _ qC_372))) ?_
      refine x_bipush (v := 60) C.1 dX8_add_39 (by decide) ?_
      refine x_icmp_lt (tgt := 54) C.1 dX8_add_41 (by decide) ?_ ?_
      · refine x_aload_n C.1 dX8_add_54 rfl 0 rfl ?_
        refine x_get (v := .ref (xad G 1)) C.1 0 dX8_add_55 (xc_0 G h4) rfl (by decide) rfl (fun w h => List.mem_cons_of_mem _ (wcWT w (iWC_X8 w h))) (by decide) rfl (C.1.2.2.2.2.1 _ (List.mem_cons_of_mem _ (wcWT _ qC_363))) ?_
        refine x_iload_n C.1 dX8_add_58 rfl 1 rfl ?_
        refine x_iload_n C.1 dX8_add_59 rfl 2 rfl ?_
        refine x_iload_n C.1 dX8_add_60 rfl 3 rfl ?_
        refine z_callVi C dX8_add_61 (M_X2_refuses G l N p1 p2 p3 h4) (cwV 3 C.1.2.2.2.2.1 (gdV2 wcWT gWT (wcWT _ qC_378) (wcWT _ qC_158) (wcWT _ qC_159) (wcWT _ qC_144) (wcWT _ qC_152)) rfl rfl rfl (by decide +kernel) ⟨Nat.le_of_ble_eq_true rfl, Nat.le_of_ble_eq_true rfl⟩) (xc_1 G h4) (by decide) rfl rfl rfl (Nat.le_of_ble_eq_true rfl) (fun r5 h6 => ?_)
        refine x_if_eq (tgt := 73) C.1 dX8_add_64 (by decide) ?_ ?_
        · refine x_aload_n C.1 dX8_add_73 rfl 0 rfl ?_
          refine x_get (v := .ref (xad G 1)) C.1 0 dX8_add_74 (xc_0 G h6) rfl (by decide) rfl (fun w h => List.mem_cons_of_mem _ (wcWT w (iWC_X8 w h))) (by decide) rfl (C.1.2.2.2.2.1 _ (List.mem_cons_of_mem _ (wcWT _ qC_363))) ?_
          refine x_iload_n C.1 dX8_add_77 rfl 1 rfl ?_
          refine x_iload_n C.1 dX8_add_78 rfl 2 rfl ?_
          refine x_iload_n C.1 dX8_add_79 rfl 3 rfl ?_
          refine z_callVv C dX8_add_80 (M_X2_append G l N p1 p2 p3 h6) (cwV 3 C.1.2.2.2.2.1 (gdV2 wcWT gWT (wcWT _ qC_382) (wcWT _ qC_161) (wcWT _ qC_162) (wcWT _ qC_144) (wcWT _ qC_153)) rfl rfl rfl (by decide +kernel) ⟨Nat.le_of_ble_eq_true rfl, Nat.le_of_ble_eq_true rfl⟩) (xc_1 G h6) (by decide) rfl rfl rfl (Nat.le_of_ble_eq_true rfl) (fun r7 h8 => ?_)
          refine x_aload_n C.1 dX8_add_83 rfl 0 rfl ?_
          refine x_get (v := .ref (xad G 47)) C.1 12 dX8_add_84 (xc_0 G h8) rfl (by decide) rfl (fun w h => List.mem_cons_of_mem _ (wcWT w (iWC_X8 w h))) (by decide) rfl (C.1.2.2.2.2.1 _ (List.mem_cons_of_mem _ (wcWT _ qC_373))) ?_
          refine x_iconst (v := 0) C.1 dX8_add_87 (by decide) ?_
          refine x_putI (ty0 := tyX5) (ty := .boolean) C.1 2 dX8_add_88 (xc_47 G h8) rfl (Nat.le_of_ble_eq_true rfl) (by decide) rfl (fun w h => List.mem_cons_of_mem _ (wcWT w (iWC_X5 w h))) tyX5_ok nmX5 (by decide) rfl rfl (by decide +kernel) rfl rfl (C.1.2.2.2.2.1 _ (List.mem_cons_of_mem _ (wcWT _ qC_374))) (fun h9 => ?_)
          refine x_aload_n C.1 dX8_add_91 rfl 0 rfl ?_
          refine x_get (v := .ref (xad G 1)) C.1 0 dX8_add_92 (xc_0 G h9) rfl (by decide) rfl (fun w h => List.mem_cons_of_mem _ (wcWT w (iWC_X8 w h))) (by decide) rfl (C.1.2.2.2.2.1 _ (List.mem_cons_of_mem _ (wcWT _ qC_363))) ?_
          refine x_get (v := .int (gI h9 1 3)) C.1 3 dX8_add_95 (xc_1 G h9) rfl (by decide) rfl (fun w h => List.mem_cons_of_mem _ (wcWT w (iWC_X2 w h))) (by decide) rfl (C.1.2.2.2.2.1 _ (List.mem_cons_of_mem _ (wcWT _ qC_372))) ?_
          refine x_iconst (v := 1) C.1 dX8_add_98 (by decide) ?_
          refine x_isub C.1 dX8_add_99 ?_
          exact x_none
        · refine x_aload_n C.1 dX8_add_67 rfl 0 rfl ?_
          refine z_callVv C dX8_add_68 (M_X8_keepCore G l N h6) (cwV 0 C.1.2.2.2.2.1 (gdV2 wcWT gWT (wcWT _ qC_379) (wcWT _ qC_380) (wcWT _ qC_381) (wcWT _ qC_52) (wcWT _ qC_360)) rfl rfl rfl (by decide +kernel) ⟨Nat.le_of_ble_eq_true rfl, Nat.le_of_ble_eq_true rfl⟩) (xc_0 G h6) (by decide) rfl rfl rfl (Nat.le_of_ble_eq_true rfl) (fun r10 h11 => ?_)
          refine x_iconst (v := (-1)) C.1 dX8_add_71 (by decide) ?_
          exact x_none
      · obtain ⟨sa, hsa⟩ := C.2.2.2.2.2.1.2.1
        exact y_throw_3 C hlt hex hsa dX8_add_44 dX8_add_47 dX8_add_48 dX8_add_50 dX8_add_53 (by decide) (by decide) (by decide) (by decide)
    · exact x_sub [] rfl (T_X8_add_T_22 C hlt hex h4)
/-! X8_requireAtom: 13 instructions -/
abbrev J_X8_requireAtom (G : xG) (p : Program) (l : Launch) (e : Env) (s : State) (m : MethodId) (args : Array Value) (below : List Frame) (meth : Method) (c : Code) : Nat → List (Nat × Value) → List Value → xHp → Option (Unit × xHp) → Prop := xJ G p l e ({ frames := 0, cells := 0, slots := 0, locals := 0 } : Room) s m args below meth c 2 (fun res => MQ below (xQv G res) args s 0 0 (xA G))
def F_X8_requireAtom_15 (N : Nat) (h : xHp) : Option (Unit × xHp) := none
def F_X8_requireAtom (N : Nat) (p1 : Int32) (h : xHp) : Option (Unit × xHp) := if p1 < 0 then F_X8_requireAtom_15 N h else if p1 < (gI h 30 3) then some ((), h) else F_X8_requireAtom_15 N h
set_option maxHeartbeats 4000000 in
set_option maxRecDepth 100000 in
theorem T_X8_requireAtom_15 {G : xG} {p : Program} {l : Launch} {e : Env} {s : State} {m : MethodId} {args : Array Value} {below : List Frame} {meth : Method} {c : Code} {N : Nat} (C : xCz G p s m args meth c cX8_requireAtom 2 vX8_requireAtom RX8) (hr : meth.sig.returnType = none) (h : xHp) : J_X8_requireAtom G p l e s m args below meth c 15 [] [] h (F_X8_requireAtom_15 N h) := by
  unfold F_X8_requireAtom_15
  exact x_none
set_option maxHeartbeats 4000000 in
set_option maxRecDepth 100000 in
theorem M_X8_requireAtom (G : xG) (l : Launch) (N : Nat) (p1 : Int32) (h : xHp) : ∀ r, F_X8_requireAtom N p1 h = some r → Met l yX8_requireAtom vX8_requireAtom ({ frames := 0, cells := 0, slots := 0, locals := 0 } : Room) (xPz G [.ref (xad G 0), .int p1] h) (xQv G r) 0 0 (xA G) := by
  refine z_met (own := RX8) (cc := cX8_requireAtom) (maxL := 2) (ret := none) (lv0 := [(0, .ref (xad G 0)), (1, .int p1)]) (by decide +kernel) rfl rfl (Nat.le_of_ble_eq_true rfl) rfl ?_
  intro p e s m below meth c C hr
  unfold F_X8_requireAtom
  refine x_iload_n C.1 dX8_requireAtom_0 rfl 1 rfl ?_
  refine x_if_lt (tgt := 15) C.1 dX8_requireAtom_1 (by decide) ?_ ?_
  · exact x_sub [] rfl (T_X8_requireAtom_15 C hr h)
  · refine x_iload_n C.1 dX8_requireAtom_4 rfl 1 rfl ?_
    refine x_aload_n C.1 dX8_requireAtom_5 rfl 0 rfl ?_
    refine x_get (v := .ref (xad G 30)) C.1 7 dX8_requireAtom_6 (xc_0 G h) rfl (by decide) rfl (fun w h => List.mem_cons_of_mem _ (wcWT w (iWC_X8 w h))) (by decide) rfl (C.1.2.2.2.2.1 _ (List.mem_cons_of_mem _ (wcWT _ qC_418))) ?_
    refine x_get (v := .int (gI h 30 3)) C.1 3 dX8_requireAtom_9 (xc_30 G h) rfl (by decide) rfl (fun w h => List.mem_cons_of_mem _ (wcWT w (iWC_X1 w h))) (by decide) rfl (C.1.2.2.2.2.1 _ (List.mem_cons_of_mem _ (wcWT _ qC_421))) ?_
    refine x_icmp_lt (tgt := 26) C.1 dX8_requireAtom_12 (by decide) ?_ ?_
    · exact x_vret C.1 dX8_requireAtom_26 hr
    · exact x_sub [] rfl (T_X8_requireAtom_15 C hr h)
/-! X8_atom: 28 instructions -/
abbrev J_X8_atom (G : xG) (p : Program) (l : Launch) (e : Env) (s : State) (m : MethodId) (args : Array Value) (below : List Frame) (meth : Method) (c : Code) : Nat → List (Nat × Value) → List Value → xHp → Option (Int32 × xHp) → Prop := xJ G p l e ({ frames := 1, cells := 0, slots := 0, locals := 21 } : Room) s m args below meth c 3 (fun res => MQ below (xQi G res) args s 0 0 (xA G))
def F_X8_atom (N : Nat) (p1 : Int32) (p2 : Int32) (h : xHp) : Option (Int32 × xHp) := bnd2 (F_X8_requireAtom N p1 h) fun r1 h2 => if (p2 : Int32) = 0 then grd (xin p1 10) (some ((gI h2 31 p1.toNatClampNeg), h2)) else if (p2 : Int32) = 1 then grd (xin p1 10) (some ((gI h2 32 p1.toNatClampNeg), h2)) else if (p2 : Int32) = 2 then grd (xin p1 10) (some ((gI h2 33 p1.toNatClampNeg), h2)) else none
set_option maxHeartbeats 4000000 in
set_option maxRecDepth 100000 in
theorem M_X8_atom (G : xG) (l : Launch) (N : Nat) (p1 : Int32) (p2 : Int32) (h : xHp) : ∀ r, F_X8_atom N p1 p2 h = some r → Met l yX8_atom vX8_atom ({ frames := 1, cells := 0, slots := 0, locals := 21 } : Room) (xPz G [.ref (xad G 0), .int p1, .int p2] h) (xQi G r) 0 0 (xA G) := by
  refine z_met (own := RX8) (cc := cX8_atom) (maxL := 3) (ret := (some .int)) (lv0 := [(0, .ref (xad G 0)), (1, .int p1), (2, .int p2)]) (by decide +kernel) rfl rfl (Nat.le_of_ble_eq_true rfl) rfl ?_
  intro p e s m below meth c C hr
  unfold F_X8_atom
  refine x_aload_n C.1 dX8_atom_0 rfl 0 rfl ?_
  refine x_iload_n C.1 dX8_atom_1 rfl 1 rfl ?_
  refine z_callVv C dX8_atom_2 (M_X8_requireAtom G l N p1 h) (cwV 1 C.1.2.2.2.2.1 (gdV gWT (wcWT _ qC_435) (wcWT _ qC_436) (wcWT _ qC_437) (wcWT _ qC_52) (wcWT _ qC_430)) rfl rfl rfl (by decide +kernel) ⟨Nat.le_of_ble_eq_true rfl, Nat.le_of_ble_eq_true rfl⟩) (xc_0 G h) (by decide) rfl rfl rfl (Nat.le_of_ble_eq_true rfl) (fun r1 h2 => ?_)
  refine x_iload_n C.1 dX8_atom_5 rfl 2 rfl ?_
  refine x_split _ (fun q3_0 => ?_) (fun q3_0 => ?_)
  · refine x_tableIn (off := 26) (tgt := 32) C.1 dX8_atom_6 (by rw [q3_0]; decide) (by rw [q3_0]; decide) (by rw [q3_0]; rfl) (by decide) ?_
    refine x_aload_n C.1 dX8_atom_32 rfl 0 rfl ?_
    refine x_get (v := .ref (xad G 30)) C.1 7 dX8_atom_33 (xc_0 G h2) rfl (by decide) rfl (fun w h => List.mem_cons_of_mem _ (wcWT w (iWC_X8 w h))) (by decide) rfl (C.1.2.2.2.2.1 _ (List.mem_cons_of_mem _ (wcWT _ qC_418))) ?_
    refine x_get (v := .ref (xad G 31)) C.1 0 dX8_atom_36 (xc_30 G h2) rfl (by decide) rfl (fun w h => List.mem_cons_of_mem _ (wcWT w (iWC_X1 w h))) (by decide) rfl (C.1.2.2.2.2.1 _ (List.mem_cons_of_mem _ (wcWT _ qC_432))) ?_
    refine x_iload_n C.1 dX8_atom_39 rfl 1 rfl ?_
    refine x_iald (n := 10) C.1 dX8_atom_40 (xc_31 G h2) (by decide) ?_
    exact x_iret C.1 dX8_atom_41 hr
  · skip
    refine x_split _ (fun q3_1 => ?_) (fun q3_1 => ?_)
    · refine x_tableIn (off := 36) (tgt := 42) C.1 dX8_atom_6 (by rw [q3_1]; decide) (by rw [q3_1]; decide) (by rw [q3_1]; rfl) (by decide) ?_
      refine x_aload_n C.1 dX8_atom_42 rfl 0 rfl ?_
      refine x_get (v := .ref (xad G 30)) C.1 7 dX8_atom_43 (xc_0 G h2) rfl (by decide) rfl (fun w h => List.mem_cons_of_mem _ (wcWT w (iWC_X8 w h))) (by decide) rfl (C.1.2.2.2.2.1 _ (List.mem_cons_of_mem _ (wcWT _ qC_418))) ?_
      refine x_get (v := .ref (xad G 32)) C.1 1 dX8_atom_46 (xc_30 G h2) rfl (by decide) rfl (fun w h => List.mem_cons_of_mem _ (wcWT w (iWC_X1 w h))) (by decide) rfl (C.1.2.2.2.2.1 _ (List.mem_cons_of_mem _ (wcWT _ qC_433))) ?_
      refine x_iload_n C.1 dX8_atom_49 rfl 1 rfl ?_
      refine x_iald (n := 10) C.1 dX8_atom_50 (xc_32 G h2) (by decide) ?_
      exact x_iret C.1 dX8_atom_51 hr
    · skip
      refine x_split _ (fun q3_2 => ?_) (fun q3_2 => ?_)
      · refine x_tableIn (off := 46) (tgt := 52) C.1 dX8_atom_6 (by rw [q3_2]; decide) (by rw [q3_2]; decide) (by rw [q3_2]; rfl) (by decide) ?_
        refine x_aload_n C.1 dX8_atom_52 rfl 0 rfl ?_
        refine x_get (v := .ref (xad G 30)) C.1 7 dX8_atom_53 (xc_0 G h2) rfl (by decide) rfl (fun w h => List.mem_cons_of_mem _ (wcWT w (iWC_X8 w h))) (by decide) rfl (C.1.2.2.2.2.1 _ (List.mem_cons_of_mem _ (wcWT _ qC_418))) ?_
        refine x_get (v := .ref (xad G 33)) C.1 2 dX8_atom_56 (xc_30 G h2) rfl (by decide) rfl (fun w h => List.mem_cons_of_mem _ (wcWT w (iWC_X1 w h))) (by decide) rfl (C.1.2.2.2.2.1 _ (List.mem_cons_of_mem _ (wcWT _ qC_434))) ?_
        refine x_iload_n C.1 dX8_atom_59 rfl 1 rfl ?_
        refine x_iald (n := 10) C.1 dX8_atom_60 (xc_33 G h2) (by decide) ?_
        exact x_iret C.1 dX8_atom_61 hr
      · skip
        have hout : (p2 : Int32).toInt < 0 ∨ 2 < (p2 : Int32).toInt := by
          have e0 := lv_neT q3_0 (a := 0) (by decide)
          have e1 := lv_neT q3_1 (a := 1) (by decide)
          have e2 := lv_neT q3_2 (a := 2) (by decide)
          omega
        refine x_tableOut (tgt := 62) C.1 dX8_atom_6 hout (by decide) ?_
        exact x_none
/-! X8_requireAtom_T: 13 instructions -/
abbrev J_X8_requireAtom_T (G : xG) (p : Program) (l : Launch) (e : Env) (s : State) (m : MethodId) (args : Array Value) (below : List Frame) (meth : Method) (c : Code) : Nat → List (Nat × Value) → List Value → xHp → Option (Nat × xHp) → Prop := xJ G p l e ({ frames := 6, cells := 1, slots := 6, locals := 100 } : Room) s m args below meth c 2 (fun res => vx_MQ below yNv (xXC G res) args s 1 6 (xA G))
def F_X8_requireAtom_T_15 (N : Nat) (h : xHp) : Option (Nat × xHp) := some (1, h)
def F_X8_requireAtom_T (N : Nat) (p1 : Int32) (h : xHp) : Option (Nat × xHp) := if p1 < 0 then F_X8_requireAtom_T_15 N h else if p1 < (gI h 30 3) then none else F_X8_requireAtom_T_15 N h
set_option maxHeartbeats 4000000 in
set_option maxRecDepth 100000 in
theorem T_X8_requireAtom_T_15 {G : xG} {p : Program} {l : Launch} {e : Env} {s : State} {m : MethodId} {args : Array Value} {below : List Frame} {meth : Method} {c : Code} {N : Nat} (C : xCz G p s m args meth c cX8_requireAtom 2 vX8_requireAtom RX8)  (hlt : l.stackTraces = false) (hex : ∀ x ∈ c.exceptionTable.toList, False) (h : xHp) : J_X8_requireAtom_T G p l e s m args below meth c 15 [] [] h (F_X8_requireAtom_T_15 N h) := by
  unfold F_X8_requireAtom_T_15
  obtain ⟨sa, hsa⟩ := C.2.2.2.2.2.1.2.2.2.2.2.2.2.2.2.2.2.2.2.2
  exact y_throwW_1 C hlt hex hsa dX8_requireAtom_15 dX8_requireAtom_18 dX8_requireAtom_19 dX8_requireAtom_22 dX8_requireAtom_25 (by decide) (by decide) (by decide) (by decide)
set_option maxHeartbeats 4000000 in
set_option maxRecDepth 100000 in
theorem M_X8_requireAtom_T (G : xG) (l : Launch) (hlt : l.stackTraces = false) (N : Nat) (p1 : Int32) (h : xHp) : ∀ r, F_X8_requireAtom_T N p1 h = some r → vx_Met l yX8_requireAtom vX8_requireAtom ({ frames := 6, cells := 1, slots := 6, locals := 100 } : Room) (xPz G [.ref (xad G 0), .int p1] h) yNv (xXC G r) 1 6 (xA G) := by
  refine y_met (own := RX8) (cc := cX8_requireAtom) (maxL := 2) (ret := none) (lv0 := [(0, .ref (xad G 0)), (1, .int p1)]) (by decide +kernel) rfl rfl (Nat.le_of_ble_eq_true rfl) rfl ?_
  intro p e s m below meth c C hex
  unfold F_X8_requireAtom_T
  refine x_iload_n C.1 dX8_requireAtom_0 rfl 1 rfl ?_
  refine x_if_lt (tgt := 15) C.1 dX8_requireAtom_1 (by decide) ?_ ?_
  · exact x_sub [] rfl (T_X8_requireAtom_T_15 C hlt hex h)
  · refine x_iload_n C.1 dX8_requireAtom_4 rfl 1 rfl ?_
    refine x_aload_n C.1 dX8_requireAtom_5 rfl 0 rfl ?_
    refine x_get (v := .ref (xad G 30)) C.1 7 dX8_requireAtom_6 (xc_0 G h) rfl (by decide) rfl (fun w h => List.mem_cons_of_mem _ (wcWT w (iWC_X8 w h))) (by decide) rfl (C.1.2.2.2.2.1 _ (List.mem_cons_of_mem _ (wcWT _ qC_418))) ?_
    refine x_get (v := .int (gI h 30 3)) C.1 3 dX8_requireAtom_9 (xc_30 G h) rfl (by decide) rfl (fun w h => List.mem_cons_of_mem _ (wcWT w (iWC_X1 w h))) (by decide) rfl (C.1.2.2.2.2.1 _ (List.mem_cons_of_mem _ (wcWT _ qC_421))) ?_
    refine x_icmp_lt (tgt := 26) C.1 dX8_requireAtom_12 (by decide) ?_ ?_
    · exact x_none
    · exact x_sub [] rfl (T_X8_requireAtom_T_15 C hlt hex h)
/-! X8_atom_T: 28 instructions -/
abbrev J_X8_atom_T (G : xG) (p : Program) (l : Launch) (e : Env) (s : State) (m : MethodId) (args : Array Value) (below : List Frame) (meth : Method) (c : Code) : Nat → List (Nat × Value) → List Value → xHp → Option (Nat × xHp) → Prop := xJ G p l e ({ frames := 7, cells := 1, slots := 6, locals := 121 } : Room) s m args below meth c 3 (fun res => vx_MQ below yNi (xXC G res) args s 1 6 (xA G))
def F_X8_atom_T (N : Nat) (p1 : Int32) (p2 : Int32) (h : xHp) : Option (Nat × xHp) := orX (F_X8_requireAtom_T N p1 h) (bnd2 (F_X8_requireAtom N p1 h) fun r1 h2 => if (p2 : Int32) = 0 then grd (xin p1 10) (none) else if (p2 : Int32) = 1 then grd (xin p1 10) (none) else if (p2 : Int32) = 2 then grd (xin p1 10) (none) else some (2, h2))
set_option maxHeartbeats 4000000 in
set_option maxRecDepth 100000 in
theorem M_X8_atom_T (G : xG) (l : Launch) (hlt : l.stackTraces = false) (N : Nat) (p1 : Int32) (p2 : Int32) (h : xHp) : ∀ r, F_X8_atom_T N p1 p2 h = some r → vx_Met l yX8_atom vX8_atom ({ frames := 7, cells := 1, slots := 6, locals := 121 } : Room) (xPz G [.ref (xad G 0), .int p1, .int p2] h) yNi (xXC G r) 1 6 (xA G) := by
  refine y_met (own := RX8) (cc := cX8_atom) (maxL := 3) (ret := (some .int)) (lv0 := [(0, .ref (xad G 0)), (1, .int p1), (2, .int p2)]) (by decide +kernel) rfl rfl (Nat.le_of_ble_eq_true rfl) rfl ?_
  intro p e s m below meth c C hex
  unfold F_X8_atom_T
  refine x_aload_n C.1 dX8_atom_0 rfl 0 rfl ?_
  refine x_iload_n C.1 dX8_atom_1 rfl 1 rfl ?_
  refine y_callVv C hex dX8_atom_2 (M_X8_requireAtom_T G l hlt N p1 h) (cwV 1 C.1.2.2.2.2.1 (gdV gWT (wcWT _ qC_435) (wcWT _ qC_436) (wcWT _ qC_437) (wcWT _ qC_52) (wcWT _ qC_430)) rfl rfl rfl (by decide +kernel) ⟨Nat.le_of_ble_eq_true rfl, Nat.le_of_ble_eq_true rfl⟩) (xc_0 G h) (by decide) rfl rfl rfl (Nat.le_of_ble_eq_true rfl) (by decide) (by decide) ?_
  refine z_callVv C dX8_atom_2 (M_X8_requireAtom G l N p1 h) (cwV 1 C.1.2.2.2.2.1 (gdV gWT (wcWT _ qC_435) (wcWT _ qC_436) (wcWT _ qC_437) (wcWT _ qC_52) (wcWT _ qC_430)) rfl rfl rfl (by decide +kernel) ⟨Nat.le_of_ble_eq_true rfl, Nat.le_of_ble_eq_true rfl⟩) (xc_0 G h) (by decide) rfl rfl rfl (Nat.le_of_ble_eq_true rfl) (fun r1 h2 => ?_)
  refine x_iload_n C.1 dX8_atom_5 rfl 2 rfl ?_
  refine x_split _ (fun q3_0 => ?_) (fun q3_0 => ?_)
  · refine x_tableIn (off := 26) (tgt := 32) C.1 dX8_atom_6 (by rw [q3_0]; decide) (by rw [q3_0]; decide) (by rw [q3_0]; rfl) (by decide) ?_
    refine x_aload_n C.1 dX8_atom_32 rfl 0 rfl ?_
    refine x_get (v := .ref (xad G 30)) C.1 7 dX8_atom_33 (xc_0 G h2) rfl (by decide) rfl (fun w h => List.mem_cons_of_mem _ (wcWT w (iWC_X8 w h))) (by decide) rfl (C.1.2.2.2.2.1 _ (List.mem_cons_of_mem _ (wcWT _ qC_418))) ?_
    refine x_get (v := .ref (xad G 31)) C.1 0 dX8_atom_36 (xc_30 G h2) rfl (by decide) rfl (fun w h => List.mem_cons_of_mem _ (wcWT w (iWC_X1 w h))) (by decide) rfl (C.1.2.2.2.2.1 _ (List.mem_cons_of_mem _ (wcWT _ qC_432))) ?_
    refine x_iload_n C.1 dX8_atom_39 rfl 1 rfl ?_
    refine x_iald (n := 10) C.1 dX8_atom_40 (xc_31 G h2) (by decide) ?_
    exact x_none
  · skip
    refine x_split _ (fun q3_1 => ?_) (fun q3_1 => ?_)
    · refine x_tableIn (off := 36) (tgt := 42) C.1 dX8_atom_6 (by rw [q3_1]; decide) (by rw [q3_1]; decide) (by rw [q3_1]; rfl) (by decide) ?_
      refine x_aload_n C.1 dX8_atom_42 rfl 0 rfl ?_
      refine x_get (v := .ref (xad G 30)) C.1 7 dX8_atom_43 (xc_0 G h2) rfl (by decide) rfl (fun w h => List.mem_cons_of_mem _ (wcWT w (iWC_X8 w h))) (by decide) rfl (C.1.2.2.2.2.1 _ (List.mem_cons_of_mem _ (wcWT _ qC_418))) ?_
      refine x_get (v := .ref (xad G 32)) C.1 1 dX8_atom_46 (xc_30 G h2) rfl (by decide) rfl (fun w h => List.mem_cons_of_mem _ (wcWT w (iWC_X1 w h))) (by decide) rfl (C.1.2.2.2.2.1 _ (List.mem_cons_of_mem _ (wcWT _ qC_433))) ?_
      refine x_iload_n C.1 dX8_atom_49 rfl 1 rfl ?_
      refine x_iald (n := 10) C.1 dX8_atom_50 (xc_32 G h2) (by decide) ?_
      exact x_none
    · skip
      refine x_split _ (fun q3_2 => ?_) (fun q3_2 => ?_)
      · refine x_tableIn (off := 46) (tgt := 52) C.1 dX8_atom_6 (by rw [q3_2]; decide) (by rw [q3_2]; decide) (by rw [q3_2]; rfl) (by decide) ?_
        refine x_aload_n C.1 dX8_atom_52 rfl 0 rfl ?_
        refine x_get (v := .ref (xad G 30)) C.1 7 dX8_atom_53 (xc_0 G h2) rfl (by decide) rfl (fun w h => List.mem_cons_of_mem _ (wcWT w (iWC_X8 w h))) (by decide) rfl (C.1.2.2.2.2.1 _ (List.mem_cons_of_mem _ (wcWT _ qC_418))) ?_
        refine x_get (v := .ref (xad G 33)) C.1 2 dX8_atom_56 (xc_30 G h2) rfl (by decide) rfl (fun w h => List.mem_cons_of_mem _ (wcWT w (iWC_X1 w h))) (by decide) rfl (C.1.2.2.2.2.1 _ (List.mem_cons_of_mem _ (wcWT _ qC_434))) ?_
        refine x_iload_n C.1 dX8_atom_59 rfl 1 rfl ?_
        refine x_iald (n := 10) C.1 dX8_atom_60 (xc_33 G h2) (by decide) ?_
        exact x_none
      · skip
        have hout : (p2 : Int32).toInt < 0 ∨ 2 < (p2 : Int32).toInt := by
          have e0 := lv_neT q3_0 (a := 0) (by decide)
          have e1 := lv_neT q3_1 (a := 1) (by decide)
          have e2 := lv_neT q3_2 (a := 2) (by decide)
          omega
        refine x_tableOut (tgt := 62) C.1 dX8_atom_6 hout (by decide) ?_
        obtain ⟨sa, hsa⟩ := C.2.2.2.2.2.1.2.2.2.2.2.2.2.2.2.2.1
        exact y_throw_2 C hlt hex hsa dX8_atom_62 dX8_atom_65 dX8_atom_66 dX8_atom_68 dX8_atom_71 (by decide) (by decide) (by decide) (by decide)
/-! X2_leastSum: 12 instructions -/
abbrev J_X2_leastSum (G : xG) (p : Program) (l : Launch) (e : Env) (s : State) (m : MethodId) (args : Array Value) (below : List Frame) (meth : Method) (c : Code) : Nat → List (Nat × Value) → List Value → xHp → Option (Int64 × xHp) → Prop := xJ G p l e ({ frames := 2, cells := 0, slots := 0, locals := 107 } : Room) s m args below meth c 4 (fun res => MQ below (xQl G res) args s 0 0 (xA G))
def F_X2_leastSum (N : Nat) (p1 : Int32) (p2 : Int32) (p3 : Int32) (h : xHp) : Option (Int64 × xHp) := bnd2 (F_X2_measure N p2 p3 h) fun r1 h2 => grd (xin (gI h2 1 7) 16) (grd (xin p1 16) (some ((gJ h2 (8 + (gI h2 1 7).toNatClampNeg) p1.toNatClampNeg), h2)))
set_option maxHeartbeats 4000000 in
set_option maxRecDepth 100000 in
theorem M_X2_leastSum (G : xG) (l : Launch) (N : Nat) (p1 : Int32) (p2 : Int32) (p3 : Int32) (h : xHp) : ∀ r, F_X2_leastSum N p1 p2 p3 h = some r → Met l yX2_leastSum vX2_leastSum ({ frames := 2, cells := 0, slots := 0, locals := 107 } : Room) (xPz G [.ref (xad G 1), .int p1, .int p2, .int p3] h) (xQl G r) 0 0 (xA G) := by
  refine z_met (own := RX2) (cc := cX2_leastSum) (maxL := 4) (ret := (some .long)) (lv0 := [(0, .ref (xad G 1)), (1, .int p1), (2, .int p2), (3, .int p3)]) (by decide +kernel) rfl rfl (Nat.le_of_ble_eq_true rfl) rfl ?_
  intro p e s m below meth c C hr
  unfold F_X2_leastSum
  refine x_aload_n C.1 dX2_leastSum_0 rfl 0 rfl ?_
  refine x_iload_n C.1 dX2_leastSum_1 rfl 2 rfl ?_
  refine x_iload_n C.1 dX2_leastSum_2 rfl 3 rfl ?_
  refine z_callVv C dX2_leastSum_3 (M_X2_measure G l N p2 p3 h) (cwV 2 C.1.2.2.2.2.1 (gdV gWC qC_146 qC_147 qC_148 qC_144 qC_126) rfl rfl rfl (by decide +kernel) ⟨Nat.le_of_ble_eq_true rfl, Nat.le_of_ble_eq_true rfl⟩) (xc_1 G h) (by decide) rfl rfl rfl (Nat.le_of_ble_eq_true rfl) (fun r1 h2 => ?_)
  refine x_aload_n C.1 dX2_leastSum_6 rfl 0 rfl ?_
  refine x_get (v := .ref (xad G 6)) C.1 6 dX2_leastSum_7 (xc_1 G h2) rfl (by decide) rfl (fun w h => List.mem_cons_of_mem _ (iWC_X2 w h)) (by decide) rfl (C.1.2.2.2.2.1 _ (List.mem_cons_of_mem _ qC_127)) ?_
  refine x_aload_n C.1 dX2_leastSum_10 rfl 0 rfl ?_
  refine x_get (v := .int (gI h2 1 7)) C.1 7 dX2_leastSum_11 (xc_1 G h2) rfl (by decide) rfl (fun w h => List.mem_cons_of_mem _ (iWC_X2 w h)) (by decide) rfl (C.1.2.2.2.2.1 _ (List.mem_cons_of_mem _ qC_129)) ?_
  refine x_aald (a := (8 + (gI h2 1 7).toNatClampNeg)) C.1 dX2_leastSum_14 rfl (fun hl3 => ?_)
  refine x_iload_n C.1 dX2_leastSum_15 rfl 1 rfl ?_
  refine x_lald (n := 16) C.1 dX2_leastSum_16 (xcell_row G (Nat.le_add_right 8 _) (Nat.add_lt_add_left hl3 8) _ _ _) (Nat.lt_of_lt_of_le (Nat.add_lt_add_left hl3 8) (by decide)) ?_
  exact x_lret C.1 dX2_leastSum_17 hr
/-! X8_bound: 21 instructions -/
abbrev J_X8_bound (G : xG) (p : Program) (l : Launch) (e : Env) (s : State) (m : MethodId) (args : Array Value) (below : List Frame) (meth : Method) (c : Code) : Nat → List (Nat × Value) → List Value → xHp → Option (Int64 × xHp) → Prop := xJ G p l e ({ frames := 3, cells := 0, slots := 0, locals := 130 } : Room) s m args below meth c 5 (fun res => MQ below (xQl G res) args s 0 0 (xA G))
def F_X8_bound (N : Nat) (p1 : Int32) (p2 : Int32) (h : xHp) : Option (Int64 × xHp) := bnd2 (F_X8_requireVariable N p1 h) fun r1 h2 => bnd2 (F_X8_requireVariable N p2 h2) fun r3 h4 => bnd2 (F_X2_leastSum N p1 p2 (-1) h4) fun r5 h6 => if (lg_cmp r5 9223372036854775807) = 0 then some ((-9223372036854775808), h6) else some (r5, h6)
set_option maxHeartbeats 4000000 in
set_option maxRecDepth 100000 in
theorem M_X8_bound (G : xG) (l : Launch) (N : Nat) (p1 : Int32) (p2 : Int32) (h : xHp) : ∀ r, F_X8_bound N p1 p2 h = some r → Met l yX8_bound vX8_bound ({ frames := 3, cells := 0, slots := 0, locals := 130 } : Room) (xPz G [.ref (xad G 0), .int p1, .int p2] h) (xQl G r) 0 0 (xA G) := by
  refine z_met (own := RX8) (cc := cX8_bound) (maxL := 5) (ret := (some .long)) (lv0 := [(0, .ref (xad G 0)), (1, .int p1), (2, .int p2)]) (by decide +kernel) rfl rfl (Nat.le_of_ble_eq_true rfl) rfl ?_
  intro p e s m below meth c C hr
  unfold F_X8_bound
  refine x_aload_n C.1 dX8_bound_0 rfl 0 rfl ?_
  refine x_iload_n C.1 dX8_bound_1 rfl 1 rfl ?_
  refine z_callVv C dX8_bound_2 (M_X8_requireVariable G l N p1 h) (cwV 1 C.1.2.2.2.2.1 (gdV gWT (wcWT _ qC_375) (wcWT _ qC_376) (wcWT _ qC_377) (wcWT _ qC_52) (wcWT _ qC_357)) rfl rfl rfl (by decide +kernel) ⟨Nat.le_of_ble_eq_true rfl, Nat.le_of_ble_eq_true rfl⟩) (xc_0 G h) (by decide) rfl rfl rfl (Nat.le_of_ble_eq_true rfl) (fun r1 h2 => ?_)
  refine x_aload_n C.1 dX8_bound_5 rfl 0 rfl ?_
  refine x_iload_n C.1 dX8_bound_6 rfl 2 rfl ?_
  refine z_callVv C dX8_bound_7 (M_X8_requireVariable G l N p2 h2) (cwV 1 C.1.2.2.2.2.1 (gdV gWT (wcWT _ qC_375) (wcWT _ qC_376) (wcWT _ qC_377) (wcWT _ qC_52) (wcWT _ qC_357)) rfl rfl rfl (by decide +kernel) ⟨Nat.le_of_ble_eq_true rfl, Nat.le_of_ble_eq_true rfl⟩) (xc_0 G h2) (by decide) rfl rfl rfl (Nat.le_of_ble_eq_true rfl) (fun r3 h4 => ?_)
  refine x_aload_n C.1 dX8_bound_10 rfl 0 rfl ?_
  refine x_get (v := .ref (xad G 1)) C.1 0 dX8_bound_11 (xc_0 G h4) rfl (by decide) rfl (fun w h => List.mem_cons_of_mem _ (wcWT w (iWC_X8 w h))) (by decide) rfl (C.1.2.2.2.2.1 _ (List.mem_cons_of_mem _ (wcWT _ qC_363))) ?_
  refine x_iload_n C.1 dX8_bound_14 rfl 1 rfl ?_
  refine x_iload_n C.1 dX8_bound_15 rfl 2 rfl ?_
  refine x_iconst (v := (-1)) C.1 dX8_bound_16 (by decide) ?_
  refine z_callVl C dX8_bound_17 (M_X2_leastSum G l N p1 p2 (-1) h4) (cwV 3 C.1.2.2.2.2.1 (gdV2 wcWT gWT (wcWT _ qC_396) (wcWT _ qC_397) (wcWT _ qC_398) (wcWT _ qC_144) (wcWT _ qC_166)) rfl rfl rfl (by decide +kernel) ⟨Nat.le_of_ble_eq_true rfl, Nat.le_of_ble_eq_true rfl⟩) (xc_1 G h4) (by decide) rfl rfl rfl (Nat.le_of_ble_eq_true rfl) (fun r5 h6 => ?_)
  refine x_lstore_n (lv' := [(3, .long r5), (0, .ref (xad G 0)), (1, .int p1), (2, .int p2)]) C.1 dX8_bound_20 rfl (by decide) rfl ?_
  refine x_lload_n C.1 dX8_bound_21 rfl 0 rfl ?_
  refine x_ldc2 (v := 9223372036854775807) C.1 dX8_bound_22 (C.1.2.2.2.2.1 _ (List.mem_cons_of_mem _ (wcWT _ qC_394))) ?_
  refine x_lcmp C.1 dX8_bound_25 ?_
  refine x_if_ne (tgt := 35) C.1 dX8_bound_26 (by decide) ?_ ?_
  · refine x_ldc2 (v := (-9223372036854775808)) C.1 dX8_bound_29 (C.1.2.2.2.2.1 _ (List.mem_cons_of_mem _ (wcWT _ qC_395))) ?_
    refine x_goto (tgt := 36) C.1 dX8_bound_32 (by decide) ?_
    exact x_lret C.1 dX8_bound_36 hr
  · refine x_lload_n C.1 dX8_bound_35 rfl 0 rfl ?_
    exact x_lret C.1 dX8_bound_36 hr
/-! X8_bound_T: 21 instructions -/
abbrev J_X8_bound_T (G : xG) (p : Program) (l : Launch) (e : Env) (s : State) (m : MethodId) (args : Array Value) (below : List Frame) (meth : Method) (c : Code) : Nat → List (Nat × Value) → List Value → xHp → Option (Nat × xHp) → Prop := xJ G p l e ({ frames := 7, cells := 1, slots := 6, locals := 130 } : Room) s m args below meth c 5 (fun res => vx_MQ below yNl (xXC G res) args s 1 6 (xA G))
def F_X8_bound_T (N : Nat) (p1 : Int32) (p2 : Int32) (h : xHp) : Option (Nat × xHp) := orX (F_X8_requireVariable_T N p1 h) (bnd2 (F_X8_requireVariable N p1 h) fun r1 h2 => orX (F_X8_requireVariable_T N p2 h2) (bnd2 (F_X8_requireVariable N p2 h2) fun r3 h4 => bnd2 (F_X2_leastSum N p1 p2 (-1) h4) fun r5 h6 => if (lg_cmp r5 9223372036854775807) = 0 then none else none))
set_option maxHeartbeats 4000000 in
set_option maxRecDepth 100000 in
theorem M_X8_bound_T (G : xG) (l : Launch) (hlt : l.stackTraces = false) (N : Nat) (p1 : Int32) (p2 : Int32) (h : xHp) : ∀ r, F_X8_bound_T N p1 p2 h = some r → vx_Met l yX8_bound vX8_bound ({ frames := 7, cells := 1, slots := 6, locals := 130 } : Room) (xPz G [.ref (xad G 0), .int p1, .int p2] h) yNl (xXC G r) 1 6 (xA G) := by
  refine y_met (own := RX8) (cc := cX8_bound) (maxL := 5) (ret := (some .long)) (lv0 := [(0, .ref (xad G 0)), (1, .int p1), (2, .int p2)]) (by decide +kernel) rfl rfl (Nat.le_of_ble_eq_true rfl) rfl ?_
  intro p e s m below meth c C hex
  unfold F_X8_bound_T
  refine x_aload_n C.1 dX8_bound_0 rfl 0 rfl ?_
  refine x_iload_n C.1 dX8_bound_1 rfl 1 rfl ?_
  refine y_callVv C hex dX8_bound_2 (M_X8_requireVariable_T G l hlt N p1 h) (cwV 1 C.1.2.2.2.2.1 (gdV gWT (wcWT _ qC_375) (wcWT _ qC_376) (wcWT _ qC_377) (wcWT _ qC_52) (wcWT _ qC_357)) rfl rfl rfl (by decide +kernel) ⟨Nat.le_of_ble_eq_true rfl, Nat.le_of_ble_eq_true rfl⟩) (xc_0 G h) (by decide) rfl rfl rfl (Nat.le_of_ble_eq_true rfl) (by decide) (by decide) ?_
  refine z_callVv C dX8_bound_2 (M_X8_requireVariable G l N p1 h) (cwV 1 C.1.2.2.2.2.1 (gdV gWT (wcWT _ qC_375) (wcWT _ qC_376) (wcWT _ qC_377) (wcWT _ qC_52) (wcWT _ qC_357)) rfl rfl rfl (by decide +kernel) ⟨Nat.le_of_ble_eq_true rfl, Nat.le_of_ble_eq_true rfl⟩) (xc_0 G h) (by decide) rfl rfl rfl (Nat.le_of_ble_eq_true rfl) (fun r1 h2 => ?_)
  refine x_aload_n C.1 dX8_bound_5 rfl 0 rfl ?_
  refine x_iload_n C.1 dX8_bound_6 rfl 2 rfl ?_
  refine y_callVv C hex dX8_bound_7 (M_X8_requireVariable_T G l hlt N p2 h2) (cwV 1 C.1.2.2.2.2.1 (gdV gWT (wcWT _ qC_375) (wcWT _ qC_376) (wcWT _ qC_377) (wcWT _ qC_52) (wcWT _ qC_357)) rfl rfl rfl (by decide +kernel) ⟨Nat.le_of_ble_eq_true rfl, Nat.le_of_ble_eq_true rfl⟩) (xc_0 G h2) (by decide) rfl rfl rfl (Nat.le_of_ble_eq_true rfl) (by decide) (by decide) ?_
  refine z_callVv C dX8_bound_7 (M_X8_requireVariable G l N p2 h2) (cwV 1 C.1.2.2.2.2.1 (gdV gWT (wcWT _ qC_375) (wcWT _ qC_376) (wcWT _ qC_377) (wcWT _ qC_52) (wcWT _ qC_357)) rfl rfl rfl (by decide +kernel) ⟨Nat.le_of_ble_eq_true rfl, Nat.le_of_ble_eq_true rfl⟩) (xc_0 G h2) (by decide) rfl rfl rfl (Nat.le_of_ble_eq_true rfl) (fun r3 h4 => ?_)
  refine x_aload_n C.1 dX8_bound_10 rfl 0 rfl ?_
  refine x_get (v := .ref (xad G 1)) C.1 0 dX8_bound_11 (xc_0 G h4) rfl (by decide) rfl (fun w h => List.mem_cons_of_mem _ (wcWT w (iWC_X8 w h))) (by decide) rfl (C.1.2.2.2.2.1 _ (List.mem_cons_of_mem _ (wcWT _ qC_363))) ?_
  refine x_iload_n C.1 dX8_bound_14 rfl 1 rfl ?_
  refine x_iload_n C.1 dX8_bound_15 rfl 2 rfl ?_
  refine x_iconst (v := (-1)) C.1 dX8_bound_16 (by decide) ?_
  refine z_callVl C dX8_bound_17 (M_X2_leastSum G l N p1 p2 (-1) h4) (cwV 3 C.1.2.2.2.2.1 (gdV2 wcWT gWT (wcWT _ qC_396) (wcWT _ qC_397) (wcWT _ qC_398) (wcWT _ qC_144) (wcWT _ qC_166)) rfl rfl rfl (by decide +kernel) ⟨Nat.le_of_ble_eq_true rfl, Nat.le_of_ble_eq_true rfl⟩) (xc_1 G h4) (by decide) rfl rfl rfl (Nat.le_of_ble_eq_true rfl) (fun r5 h6 => ?_)
  refine x_lstore_n (lv' := [(3, .long r5), (0, .ref (xad G 0)), (1, .int p1), (2, .int p2)]) C.1 dX8_bound_20 rfl (by decide) rfl ?_
  refine x_lload_n C.1 dX8_bound_21 rfl 0 rfl ?_
  refine x_ldc2 (v := 9223372036854775807) C.1 dX8_bound_22 (C.1.2.2.2.2.1 _ (List.mem_cons_of_mem _ (wcWT _ qC_394))) ?_
  refine x_lcmp C.1 dX8_bound_25 ?_
  refine x_if_ne (tgt := 35) C.1 dX8_bound_26 (by decide) ?_ ?_
  · refine x_ldc2 (v := (-9223372036854775808)) C.1 dX8_bound_29 (C.1.2.2.2.2.1 _ (List.mem_cons_of_mem _ (wcWT _ qC_395))) ?_
    refine x_goto (tgt := 36) C.1 dX8_bound_32 (by decide) ?_
    exact x_none
  · refine x_lload_n C.1 dX8_bound_35 rfl 0 rfl ?_
    exact x_none
/-! X8_constraint: 67 instructions -/
abbrev J_X8_constraint (G : xG) (p : Program) (l : Launch) (e : Env) (s : State) (m : MethodId) (args : Array Value) (below : List Frame) (meth : Method) (c : Code) : Nat → List (Nat × Value) → List Value → xHp → Option (Int32 × xHp) → Prop := xJ G p l e ({ frames := 3, cells := 0, slots := 0, locals := 130 } : Room) s m args below meth c 3 (fun res => MQ below (xQi G res) args s 0 0 (xA G))
def F_X8_constraint_15 (N : Nat) (h : xHp) : Option (Int32 × xHp) := none
def F_X8_constraint (N : Nat) (p1 : Int32) (p2 : Int32) (h : xHp) : Option (Int32 × xHp) := if p1 < 0 then F_X8_constraint_15 N h else if p1 < (gI h 1 3) then if (p2 : Int32) = 0 then grd (xin p1 70) (some ((gI h 2 p1.toNatClampNeg), h)) else if (p2 : Int32) = 1 then grd (xin p1 70) (some ((gI h 3 p1.toNatClampNeg), h)) else if (p2 : Int32) = 2 then grd (xin p1 70) (some ((gI h 4 p1.toNatClampNeg), h)) else if (p2 : Int32) = 3 then grd (xin p1 70) (grd (xin p1 70) (bnd2 (F_X2_leastSum N (gI h 2 p1.toNatClampNeg) (gI h 3 p1.toNatClampNeg) p1 h) fun r2 h3 => grd (xin p1 70) (if 0 < (lg_cmp r2 ((gI h3 4 p1.toNatClampNeg).toInt64)) then some (0, h3) else some (1, h3)))) else if (p2 : Int32) = 4 then bnd2 (F_X8_levelsBefore N p1 h) fun r4 h5 => some (r4, h5) else none else F_X8_constraint_15 N h
set_option maxHeartbeats 4000000 in
set_option maxRecDepth 100000 in
theorem T_X8_constraint_15 {G : xG} {p : Program} {l : Launch} {e : Env} {s : State} {m : MethodId} {args : Array Value} {below : List Frame} {meth : Method} {c : Code} {N : Nat} (C : xCz G p s m args meth c cX8_constraint 3 vX8_constraint RX8) (hr : meth.sig.returnType = (some .int)) (h : xHp) : J_X8_constraint G p l e s m args below meth c 15 [] [] h (F_X8_constraint_15 N h) := by
  unfold F_X8_constraint_15
  exact x_none
set_option maxHeartbeats 4000000 in
set_option maxRecDepth 100000 in
theorem M_X8_constraint (G : xG) (l : Launch) (N : Nat) (p1 : Int32) (p2 : Int32) (h : xHp) : ∀ r, F_X8_constraint N p1 p2 h = some r → Met l yX8_constraint vX8_constraint ({ frames := 3, cells := 0, slots := 0, locals := 130 } : Room) (xPz G [.ref (xad G 0), .int p1, .int p2] h) (xQi G r) 0 0 (xA G) := by
  refine z_met (own := RX8) (cc := cX8_constraint) (maxL := 3) (ret := (some .int)) (lv0 := [(0, .ref (xad G 0)), (1, .int p1), (2, .int p2)]) (by decide +kernel) rfl rfl (Nat.le_of_ble_eq_true rfl) rfl ?_
  intro p e s m below meth c C hr
  unfold F_X8_constraint
  refine x_iload_n C.1 dX8_constraint_0 rfl 1 rfl ?_
  refine x_if_lt (tgt := 15) C.1 dX8_constraint_1 (by decide) ?_ ?_
  · exact x_sub [] rfl (T_X8_constraint_15 C hr h)
  · refine x_iload_n C.1 dX8_constraint_4 rfl 1 rfl ?_
    refine x_aload_n C.1 dX8_constraint_5 rfl 0 rfl ?_
    refine x_get (v := .ref (xad G 1)) C.1 0 dX8_constraint_6 (xc_0 G h) rfl (by decide) rfl (fun w h => List.mem_cons_of_mem _ (wcWT w (iWC_X8 w h))) (by decide) rfl (C.1.2.2.2.2.1 _ (List.mem_cons_of_mem _ (wcWT _ qC_363))) ?_
    refine x_get (v := .int (gI h 1 3)) C.1 3 dX8_constraint_9 (xc_1 G h) rfl (by decide) rfl (fun w h => List.mem_cons_of_mem _ (wcWT w (iWC_X2 w h))) (by decide) rfl (C.1.2.2.2.2.1 _ (List.mem_cons_of_mem _ (wcWT _ qC_372))) ?_
    refine x_icmp_lt (tgt := 25) C.1 dX8_constraint_12 (by decide) ?_ ?_
    · refine x_iload_n C.1 dX8_constraint_25 rfl 2 rfl ?_
      refine x_split _ (fun q1_0 => ?_) (fun q1_0 => ?_)
      · refine x_tableIn (off := 34) (tgt := 60) C.1 dX8_constraint_26 (by rw [q1_0]; decide) (by rw [q1_0]; decide) (by rw [q1_0]; rfl) (by decide) ?_
        refine x_aload_n C.1 dX8_constraint_60 rfl 0 rfl ?_
        refine x_get (v := .ref (xad G 1)) C.1 0 dX8_constraint_61 (xc_0 G h) rfl (by decide) rfl (fun w h => List.mem_cons_of_mem _ (wcWT w (iWC_X8 w h))) (by decide) rfl (C.1.2.2.2.2.1 _ (List.mem_cons_of_mem _ (wcWT _ qC_363))) ?_
        refine x_get (v := .ref (xad G 2)) C.1 0 dX8_constraint_64 (xc_1 G h) rfl (by decide) rfl (fun w h => List.mem_cons_of_mem _ (wcWT w (iWC_X2 w h))) (by decide) rfl (C.1.2.2.2.2.1 _ (List.mem_cons_of_mem _ (wcWT _ qC_403))) ?_
        refine x_iload_n C.1 dX8_constraint_67 rfl 1 rfl ?_
        refine x_iald (n := 70) C.1 dX8_constraint_68 (xc_2 G h) (by decide) ?_
        exact x_iret C.1 dX8_constraint_69 hr
      · skip
        refine x_split _ (fun q1_1 => ?_) (fun q1_1 => ?_)
        · refine x_tableIn (off := 44) (tgt := 70) C.1 dX8_constraint_26 (by rw [q1_1]; decide) (by rw [q1_1]; decide) (by rw [q1_1]; rfl) (by decide) ?_
          refine x_aload_n C.1 dX8_constraint_70 rfl 0 rfl ?_
          refine x_get (v := .ref (xad G 1)) C.1 0 dX8_constraint_71 (xc_0 G h) rfl (by decide) rfl (fun w h => List.mem_cons_of_mem _ (wcWT w (iWC_X8 w h))) (by decide) rfl (C.1.2.2.2.2.1 _ (List.mem_cons_of_mem _ (wcWT _ qC_363))) ?_
          refine x_get (v := .ref (xad G 3)) C.1 1 dX8_constraint_74 (xc_1 G h) rfl (by decide) rfl (fun w h => List.mem_cons_of_mem _ (wcWT w (iWC_X2 w h))) (by decide) rfl (C.1.2.2.2.2.1 _ (List.mem_cons_of_mem _ (wcWT _ qC_404))) ?_
          refine x_iload_n C.1 dX8_constraint_77 rfl 1 rfl ?_
          refine x_iald (n := 70) C.1 dX8_constraint_78 (xc_3 G h) (by decide) ?_
          exact x_iret C.1 dX8_constraint_79 hr
        · skip
          refine x_split _ (fun q1_2 => ?_) (fun q1_2 => ?_)
          · refine x_tableIn (off := 54) (tgt := 80) C.1 dX8_constraint_26 (by rw [q1_2]; decide) (by rw [q1_2]; decide) (by rw [q1_2]; rfl) (by decide) ?_
            refine x_aload_n C.1 dX8_constraint_80 rfl 0 rfl ?_
            refine x_get (v := .ref (xad G 1)) C.1 0 dX8_constraint_81 (xc_0 G h) rfl (by decide) rfl (fun w h => List.mem_cons_of_mem _ (wcWT w (iWC_X8 w h))) (by decide) rfl (C.1.2.2.2.2.1 _ (List.mem_cons_of_mem _ (wcWT _ qC_363))) ?_
            refine x_get (v := .ref (xad G 4)) C.1 2 dX8_constraint_84 (xc_1 G h) rfl (by decide) rfl (fun w h => List.mem_cons_of_mem _ (wcWT w (iWC_X2 w h))) (by decide) rfl (C.1.2.2.2.2.1 _ (List.mem_cons_of_mem _ (wcWT _ qC_405))) ?_
            refine x_iload_n C.1 dX8_constraint_87 rfl 1 rfl ?_
            refine x_iald (n := 70) C.1 dX8_constraint_88 (xc_4 G h) (by decide) ?_
            exact x_iret C.1 dX8_constraint_89 hr
          · skip
            refine x_split _ (fun q1_3 => ?_) (fun q1_3 => ?_)
            · refine x_tableIn (off := 64) (tgt := 90) C.1 dX8_constraint_26 (by rw [q1_3]; decide) (by rw [q1_3]; decide) (by rw [q1_3]; rfl) (by decide) ?_
              refine x_aload_n C.1 dX8_constraint_90 rfl 0 rfl ?_
              refine x_get (v := .ref (xad G 1)) C.1 0 dX8_constraint_91 (xc_0 G h) rfl (by decide) rfl (fun w h => List.mem_cons_of_mem _ (wcWT w (iWC_X8 w h))) (by decide) rfl (C.1.2.2.2.2.1 _ (List.mem_cons_of_mem _ (wcWT _ qC_363))) ?_
              refine x_aload_n C.1 dX8_constraint_94 rfl 0 rfl ?_
              refine x_get (v := .ref (xad G 1)) C.1 0 dX8_constraint_95 (xc_0 G h) rfl (by decide) rfl (fun w h => List.mem_cons_of_mem _ (wcWT w (iWC_X8 w h))) (by decide) rfl (C.1.2.2.2.2.1 _ (List.mem_cons_of_mem _ (wcWT _ qC_363))) ?_
              refine x_get (v := .ref (xad G 2)) C.1 0 dX8_constraint_98 (xc_1 G h) rfl (by decide) rfl (fun w h => List.mem_cons_of_mem _ (wcWT w (iWC_X2 w h))) (by decide) rfl (C.1.2.2.2.2.1 _ (List.mem_cons_of_mem _ (wcWT _ qC_403))) ?_
              refine x_iload_n C.1 dX8_constraint_101 rfl 1 rfl ?_
              refine x_iald (n := 70) C.1 dX8_constraint_102 (xc_2 G h) (by decide) ?_
              refine x_aload_n C.1 dX8_constraint_103 rfl 0 rfl ?_
              refine x_get (v := .ref (xad G 1)) C.1 0 dX8_constraint_104 (xc_0 G h) rfl (by decide) rfl (fun w h => List.mem_cons_of_mem _ (wcWT w (iWC_X8 w h))) (by decide) rfl (C.1.2.2.2.2.1 _ (List.mem_cons_of_mem _ (wcWT _ qC_363))) ?_
              refine x_get (v := .ref (xad G 3)) C.1 1 dX8_constraint_107 (xc_1 G h) rfl (by decide) rfl (fun w h => List.mem_cons_of_mem _ (wcWT w (iWC_X2 w h))) (by decide) rfl (C.1.2.2.2.2.1 _ (List.mem_cons_of_mem _ (wcWT _ qC_404))) ?_
              refine x_iload_n C.1 dX8_constraint_110 rfl 1 rfl ?_
              refine x_iald (n := 70) C.1 dX8_constraint_111 (xc_3 G h) (by decide) ?_
              refine x_iload_n C.1 dX8_constraint_112 rfl 1 rfl ?_
              refine z_callVl C dX8_constraint_113 (M_X2_leastSum G l N (gI h 2 p1.toNatClampNeg) (gI h 3 p1.toNatClampNeg) p1 h) (cwV 3 C.1.2.2.2.2.1 (gdV2 wcWT gWT (wcWT _ qC_396) (wcWT _ qC_397) (wcWT _ qC_398) (wcWT _ qC_144) (wcWT _ qC_166)) rfl rfl rfl (by decide +kernel) ⟨Nat.le_of_ble_eq_true rfl, Nat.le_of_ble_eq_true rfl⟩) (xc_1 G h) (by decide) rfl rfl rfl (Nat.le_of_ble_eq_true rfl) (fun r2 h3 => ?_)
              refine x_aload_n C.1 dX8_constraint_116 rfl 0 rfl ?_
              refine x_get (v := .ref (xad G 1)) C.1 0 dX8_constraint_117 (xc_0 G h3) rfl (by decide) rfl (fun w h => List.mem_cons_of_mem _ (wcWT w (iWC_X8 w h))) (by decide) rfl (C.1.2.2.2.2.1 _ (List.mem_cons_of_mem _ (wcWT _ qC_363))) ?_
              refine x_get (v := .ref (xad G 4)) C.1 2 dX8_constraint_120 (xc_1 G h3) rfl (by decide) rfl (fun w h => List.mem_cons_of_mem _ (wcWT w (iWC_X2 w h))) (by decide) rfl (C.1.2.2.2.2.1 _ (List.mem_cons_of_mem _ (wcWT _ qC_405))) ?_
              refine x_iload_n C.1 dX8_constraint_123 rfl 1 rfl ?_
              refine x_iald (n := 70) C.1 dX8_constraint_124 (xc_4 G h3) (by decide) ?_
              refine x_i2l C.1 dX8_constraint_125 ?_
              refine x_lcmp C.1 dX8_constraint_126 ?_
              refine x_if_gt (tgt := 134) C.1 dX8_constraint_127 (by decide) ?_ ?_
              · refine x_iconst (v := 0) C.1 dX8_constraint_134 (by decide) ?_
                exact x_iret C.1 dX8_constraint_135 hr
              · refine x_iconst (v := 1) C.1 dX8_constraint_130 (by decide) ?_
                refine x_goto (tgt := 135) C.1 dX8_constraint_131 (by decide) ?_
                exact x_iret C.1 dX8_constraint_135 hr
            · skip
              refine x_split _ (fun q1_4 => ?_) (fun q1_4 => ?_)
              · refine x_tableIn (off := 110) (tgt := 136) C.1 dX8_constraint_26 (by rw [q1_4]; decide) (by rw [q1_4]; decide) (by rw [q1_4]; rfl) (by decide) ?_
                refine x_aload_n C.1 dX8_constraint_136 rfl 0 rfl ?_
                refine x_iload_n C.1 dX8_constraint_137 rfl 1 rfl ?_
                refine z_callVi C dX8_constraint_138 (M_X8_levelsBefore G l N p1 h) (cwV 1 C.1.2.2.2.2.1 (gdV2 wcWT gWT (wcWT _ qC_406) (wcWT _ qC_407) (wcWT _ qC_408) (wcWT _ qC_52) (wcWT _ qC_402)) rfl rfl rfl (by decide +kernel) ⟨Nat.le_of_ble_eq_true rfl, Nat.le_of_ble_eq_true rfl⟩) (xc_0 G h) (by decide) rfl rfl rfl (Nat.le_of_ble_eq_true rfl) (fun r4 h5 => ?_)
                exact x_iret C.1 dX8_constraint_141 hr
              · skip
                have hout : (p2 : Int32).toInt < 0 ∨ 4 < (p2 : Int32).toInt := by
                  have e0 := lv_neT q1_0 (a := 0) (by decide)
                  have e1 := lv_neT q1_1 (a := 1) (by decide)
                  have e2 := lv_neT q1_2 (a := 2) (by decide)
                  have e3 := lv_neT q1_3 (a := 3) (by decide)
                  have e4 := lv_neT q1_4 (a := 4) (by decide)
                  omega
                refine x_tableOut (tgt := 142) C.1 dX8_constraint_26 hout (by decide) ?_
                exact x_none
    · exact x_sub [] rfl (T_X8_constraint_15 C hr h)
/-! X8_constraint_T: 67 instructions -/
abbrev J_X8_constraint_T (G : xG) (p : Program) (l : Launch) (e : Env) (s : State) (m : MethodId) (args : Array Value) (below : List Frame) (meth : Method) (c : Code) : Nat → List (Nat × Value) → List Value → xHp → Option (Nat × xHp) → Prop := xJ G p l e ({ frames := 6, cells := 1, slots := 6, locals := 130 } : Room) s m args below meth c 3 (fun res => vx_MQ below yNi (xXC G res) args s 1 6 (xA G))
def F_X8_constraint_T_15 (N : Nat) (h : xHp) : Option (Nat × xHp) := some (1, h)
def F_X8_constraint_T (N : Nat) (p1 : Int32) (p2 : Int32) (h : xHp) : Option (Nat × xHp) := if p1 < 0 then F_X8_constraint_T_15 N h else if p1 < (gI h 1 3) then if (p2 : Int32) = 0 then grd (xin p1 70) (none) else if (p2 : Int32) = 1 then grd (xin p1 70) (none) else if (p2 : Int32) = 2 then grd (xin p1 70) (none) else if (p2 : Int32) = 3 then grd (xin p1 70) (grd (xin p1 70) (bnd2 (F_X2_leastSum N (gI h 2 p1.toNatClampNeg) (gI h 3 p1.toNatClampNeg) p1 h) fun r2 h3 => grd (xin p1 70) (if 0 < (lg_cmp r2 ((gI h3 4 p1.toNatClampNeg).toInt64)) then none else none))) else if (p2 : Int32) = 4 then bnd2 (F_X8_levelsBefore N p1 h) fun r4 h5 => none else some (2, h) else F_X8_constraint_T_15 N h
set_option maxHeartbeats 4000000 in
set_option maxRecDepth 100000 in
theorem T_X8_constraint_T_15 {G : xG} {p : Program} {l : Launch} {e : Env} {s : State} {m : MethodId} {args : Array Value} {below : List Frame} {meth : Method} {c : Code} {N : Nat} (C : xCz G p s m args meth c cX8_constraint 3 vX8_constraint RX8)  (hlt : l.stackTraces = false) (hex : ∀ x ∈ c.exceptionTable.toList, False) (h : xHp) : J_X8_constraint_T G p l e s m args below meth c 15 [] [] h (F_X8_constraint_T_15 N h) := by
  unfold F_X8_constraint_T_15
  obtain ⟨sa, hsa⟩ := C.2.2.2.2.2.1.2.2.2.2.2.2.1
  exact y_throw_1 C hlt hex hsa dX8_constraint_15 dX8_constraint_18 dX8_constraint_19 dX8_constraint_21 dX8_constraint_24 (by decide) (by decide) (by decide) (by decide)
set_option maxHeartbeats 4000000 in
set_option maxRecDepth 100000 in
theorem M_X8_constraint_T (G : xG) (l : Launch) (hlt : l.stackTraces = false) (N : Nat) (p1 : Int32) (p2 : Int32) (h : xHp) : ∀ r, F_X8_constraint_T N p1 p2 h = some r → vx_Met l yX8_constraint vX8_constraint ({ frames := 6, cells := 1, slots := 6, locals := 130 } : Room) (xPz G [.ref (xad G 0), .int p1, .int p2] h) yNi (xXC G r) 1 6 (xA G) := by
  refine y_met (own := RX8) (cc := cX8_constraint) (maxL := 3) (ret := (some .int)) (lv0 := [(0, .ref (xad G 0)), (1, .int p1), (2, .int p2)]) (by decide +kernel) rfl rfl (Nat.le_of_ble_eq_true rfl) rfl ?_
  intro p e s m below meth c C hex
  unfold F_X8_constraint_T
  refine x_iload_n C.1 dX8_constraint_0 rfl 1 rfl ?_
  refine x_if_lt (tgt := 15) C.1 dX8_constraint_1 (by decide) ?_ ?_
  · exact x_sub [] rfl (T_X8_constraint_T_15 C hlt hex h)
  · refine x_iload_n C.1 dX8_constraint_4 rfl 1 rfl ?_
    refine x_aload_n C.1 dX8_constraint_5 rfl 0 rfl ?_
    refine x_get (v := .ref (xad G 1)) C.1 0 dX8_constraint_6 (xc_0 G h) rfl (by decide) rfl (fun w h => List.mem_cons_of_mem _ (wcWT w (iWC_X8 w h))) (by decide) rfl (C.1.2.2.2.2.1 _ (List.mem_cons_of_mem _ (wcWT _ qC_363))) ?_
    refine x_get (v := .int (gI h 1 3)) C.1 3 dX8_constraint_9 (xc_1 G h) rfl (by decide) rfl (fun w h => List.mem_cons_of_mem _ (wcWT w (iWC_X2 w h))) (by decide) rfl (C.1.2.2.2.2.1 _ (List.mem_cons_of_mem _ (wcWT _ qC_372))) ?_
    refine x_icmp_lt (tgt := 25) C.1 dX8_constraint_12 (by decide) ?_ ?_
    · refine x_iload_n C.1 dX8_constraint_25 rfl 2 rfl ?_
      refine x_split _ (fun q1_0 => ?_) (fun q1_0 => ?_)
      · refine x_tableIn (off := 34) (tgt := 60) C.1 dX8_constraint_26 (by rw [q1_0]; decide) (by rw [q1_0]; decide) (by rw [q1_0]; rfl) (by decide) ?_
        refine x_aload_n C.1 dX8_constraint_60 rfl 0 rfl ?_
        refine x_get (v := .ref (xad G 1)) C.1 0 dX8_constraint_61 (xc_0 G h) rfl (by decide) rfl (fun w h => List.mem_cons_of_mem _ (wcWT w (iWC_X8 w h))) (by decide) rfl (C.1.2.2.2.2.1 _ (List.mem_cons_of_mem _ (wcWT _ qC_363))) ?_
        refine x_get (v := .ref (xad G 2)) C.1 0 dX8_constraint_64 (xc_1 G h) rfl (by decide) rfl (fun w h => List.mem_cons_of_mem _ (wcWT w (iWC_X2 w h))) (by decide) rfl (C.1.2.2.2.2.1 _ (List.mem_cons_of_mem _ (wcWT _ qC_403))) ?_
        refine x_iload_n C.1 dX8_constraint_67 rfl 1 rfl ?_
        refine x_iald (n := 70) C.1 dX8_constraint_68 (xc_2 G h) (by decide) ?_
        exact x_none
      · skip
        refine x_split _ (fun q1_1 => ?_) (fun q1_1 => ?_)
        · refine x_tableIn (off := 44) (tgt := 70) C.1 dX8_constraint_26 (by rw [q1_1]; decide) (by rw [q1_1]; decide) (by rw [q1_1]; rfl) (by decide) ?_
          refine x_aload_n C.1 dX8_constraint_70 rfl 0 rfl ?_
          refine x_get (v := .ref (xad G 1)) C.1 0 dX8_constraint_71 (xc_0 G h) rfl (by decide) rfl (fun w h => List.mem_cons_of_mem _ (wcWT w (iWC_X8 w h))) (by decide) rfl (C.1.2.2.2.2.1 _ (List.mem_cons_of_mem _ (wcWT _ qC_363))) ?_
          refine x_get (v := .ref (xad G 3)) C.1 1 dX8_constraint_74 (xc_1 G h) rfl (by decide) rfl (fun w h => List.mem_cons_of_mem _ (wcWT w (iWC_X2 w h))) (by decide) rfl (C.1.2.2.2.2.1 _ (List.mem_cons_of_mem _ (wcWT _ qC_404))) ?_
          refine x_iload_n C.1 dX8_constraint_77 rfl 1 rfl ?_
          refine x_iald (n := 70) C.1 dX8_constraint_78 (xc_3 G h) (by decide) ?_
          exact x_none
        · skip
          refine x_split _ (fun q1_2 => ?_) (fun q1_2 => ?_)
          · refine x_tableIn (off := 54) (tgt := 80) C.1 dX8_constraint_26 (by rw [q1_2]; decide) (by rw [q1_2]; decide) (by rw [q1_2]; rfl) (by decide) ?_
            refine x_aload_n C.1 dX8_constraint_80 rfl 0 rfl ?_
            refine x_get (v := .ref (xad G 1)) C.1 0 dX8_constraint_81 (xc_0 G h) rfl (by decide) rfl (fun w h => List.mem_cons_of_mem _ (wcWT w (iWC_X8 w h))) (by decide) rfl (C.1.2.2.2.2.1 _ (List.mem_cons_of_mem _ (wcWT _ qC_363))) ?_
            refine x_get (v := .ref (xad G 4)) C.1 2 dX8_constraint_84 (xc_1 G h) rfl (by decide) rfl (fun w h => List.mem_cons_of_mem _ (wcWT w (iWC_X2 w h))) (by decide) rfl (C.1.2.2.2.2.1 _ (List.mem_cons_of_mem _ (wcWT _ qC_405))) ?_
            refine x_iload_n C.1 dX8_constraint_87 rfl 1 rfl ?_
            refine x_iald (n := 70) C.1 dX8_constraint_88 (xc_4 G h) (by decide) ?_
            exact x_none
          · skip
            refine x_split _ (fun q1_3 => ?_) (fun q1_3 => ?_)
            · refine x_tableIn (off := 64) (tgt := 90) C.1 dX8_constraint_26 (by rw [q1_3]; decide) (by rw [q1_3]; decide) (by rw [q1_3]; rfl) (by decide) ?_
              refine x_aload_n C.1 dX8_constraint_90 rfl 0 rfl ?_
              refine x_get (v := .ref (xad G 1)) C.1 0 dX8_constraint_91 (xc_0 G h) rfl (by decide) rfl (fun w h => List.mem_cons_of_mem _ (wcWT w (iWC_X8 w h))) (by decide) rfl (C.1.2.2.2.2.1 _ (List.mem_cons_of_mem _ (wcWT _ qC_363))) ?_
              refine x_aload_n C.1 dX8_constraint_94 rfl 0 rfl ?_
              refine x_get (v := .ref (xad G 1)) C.1 0 dX8_constraint_95 (xc_0 G h) rfl (by decide) rfl (fun w h => List.mem_cons_of_mem _ (wcWT w (iWC_X8 w h))) (by decide) rfl (C.1.2.2.2.2.1 _ (List.mem_cons_of_mem _ (wcWT _ qC_363))) ?_
              refine x_get (v := .ref (xad G 2)) C.1 0 dX8_constraint_98 (xc_1 G h) rfl (by decide) rfl (fun w h => List.mem_cons_of_mem _ (wcWT w (iWC_X2 w h))) (by decide) rfl (C.1.2.2.2.2.1 _ (List.mem_cons_of_mem _ (wcWT _ qC_403))) ?_
              refine x_iload_n C.1 dX8_constraint_101 rfl 1 rfl ?_
              refine x_iald (n := 70) C.1 dX8_constraint_102 (xc_2 G h) (by decide) ?_
              refine x_aload_n C.1 dX8_constraint_103 rfl 0 rfl ?_
              refine x_get (v := .ref (xad G 1)) C.1 0 dX8_constraint_104 (xc_0 G h) rfl (by decide) rfl (fun w h => List.mem_cons_of_mem _ (wcWT w (iWC_X8 w h))) (by decide) rfl (C.1.2.2.2.2.1 _ (List.mem_cons_of_mem _ (wcWT _ qC_363))) ?_
              refine x_get (v := .ref (xad G 3)) C.1 1 dX8_constraint_107 (xc_1 G h) rfl (by decide) rfl (fun w h => List.mem_cons_of_mem _ (wcWT w (iWC_X2 w h))) (by decide) rfl (C.1.2.2.2.2.1 _ (List.mem_cons_of_mem _ (wcWT _ qC_404))) ?_
              refine x_iload_n C.1 dX8_constraint_110 rfl 1 rfl ?_
              refine x_iald (n := 70) C.1 dX8_constraint_111 (xc_3 G h) (by decide) ?_
              refine x_iload_n C.1 dX8_constraint_112 rfl 1 rfl ?_
              refine z_callVl C dX8_constraint_113 (M_X2_leastSum G l N (gI h 2 p1.toNatClampNeg) (gI h 3 p1.toNatClampNeg) p1 h) (cwV 3 C.1.2.2.2.2.1 (gdV2 wcWT gWT (wcWT _ qC_396) (wcWT _ qC_397) (wcWT _ qC_398) (wcWT _ qC_144) (wcWT _ qC_166)) rfl rfl rfl (by decide +kernel) ⟨Nat.le_of_ble_eq_true rfl, Nat.le_of_ble_eq_true rfl⟩) (xc_1 G h) (by decide) rfl rfl rfl (Nat.le_of_ble_eq_true rfl) (fun r2 h3 => ?_)
              refine x_aload_n C.1 dX8_constraint_116 rfl 0 rfl ?_
              refine x_get (v := .ref (xad G 1)) C.1 0 dX8_constraint_117 (xc_0 G h3) rfl (by decide) rfl (fun w h => List.mem_cons_of_mem _ (wcWT w (iWC_X8 w h))) (by decide) rfl (C.1.2.2.2.2.1 _ (List.mem_cons_of_mem _ (wcWT _ qC_363))) ?_
              refine x_get (v := .ref (xad G 4)) C.1 2 dX8_constraint_120 (xc_1 G h3) rfl (by decide) rfl (fun w h => List.mem_cons_of_mem _ (wcWT w (iWC_X2 w h))) (by decide) rfl (C.1.2.2.2.2.1 _ (List.mem_cons_of_mem _ (wcWT _ qC_405))) ?_
              refine x_iload_n C.1 dX8_constraint_123 rfl 1 rfl ?_
              refine x_iald (n := 70) C.1 dX8_constraint_124 (xc_4 G h3) (by decide) ?_
              refine x_i2l C.1 dX8_constraint_125 ?_
              refine x_lcmp C.1 dX8_constraint_126 ?_
              refine x_if_gt (tgt := 134) C.1 dX8_constraint_127 (by decide) ?_ ?_
              · refine x_iconst (v := 0) C.1 dX8_constraint_134 (by decide) ?_
                exact x_none
              · refine x_iconst (v := 1) C.1 dX8_constraint_130 (by decide) ?_
                refine x_goto (tgt := 135) C.1 dX8_constraint_131 (by decide) ?_
                exact x_none
            · skip
              refine x_split _ (fun q1_4 => ?_) (fun q1_4 => ?_)
              · refine x_tableIn (off := 110) (tgt := 136) C.1 dX8_constraint_26 (by rw [q1_4]; decide) (by rw [q1_4]; decide) (by rw [q1_4]; rfl) (by decide) ?_
                refine x_aload_n C.1 dX8_constraint_136 rfl 0 rfl ?_
                refine x_iload_n C.1 dX8_constraint_137 rfl 1 rfl ?_
                refine z_callVi C dX8_constraint_138 (M_X8_levelsBefore G l N p1 h) (cwV 1 C.1.2.2.2.2.1 (gdV2 wcWT gWT (wcWT _ qC_406) (wcWT _ qC_407) (wcWT _ qC_408) (wcWT _ qC_52) (wcWT _ qC_402)) rfl rfl rfl (by decide +kernel) ⟨Nat.le_of_ble_eq_true rfl, Nat.le_of_ble_eq_true rfl⟩) (xc_0 G h) (by decide) rfl rfl rfl (Nat.le_of_ble_eq_true rfl) (fun r4 h5 => ?_)
                exact x_none
              · skip
                have hout : (p2 : Int32).toInt < 0 ∨ 4 < (p2 : Int32).toInt := by
                  have e0 := lv_neT q1_0 (a := 0) (by decide)
                  have e1 := lv_neT q1_1 (a := 1) (by decide)
                  have e2 := lv_neT q1_2 (a := 2) (by decide)
                  have e3 := lv_neT q1_3 (a := 3) (by decide)
                  have e4 := lv_neT q1_4 (a := 4) (by decide)
                  omega
                refine x_tableOut (tgt := 142) C.1 dX8_constraint_26 hout (by decide) ?_
                obtain ⟨sa, hsa⟩ := C.2.2.2.2.2.1.2.2.2.2.2.2.2.1
                exact y_throw_2 C hlt hex hsa dX8_constraint_142 dX8_constraint_145 dX8_constraint_146 dX8_constraint_148 dX8_constraint_151 (by decide) (by decide) (by decide) (by decide)
    · exact x_sub [] rfl (T_X8_constraint_T_15 C hlt hex h)
/-! X8_core: 16 instructions -/
abbrev J_X8_core (G : xG) (p : Program) (l : Launch) (e : Env) (s : State) (m : MethodId) (args : Array Value) (below : List Frame) (meth : Method) (c : Code) : Nat → List (Nat × Value) → List Value → xHp → Option (Int32 × xHp) → Prop := xJ G p l e ({ frames := 0, cells := 0, slots := 0, locals := 0 } : Room) s m args below meth c 2 (fun res => MQ below (xQi G res) args s 0 0 (xA G))
def F_X8_core_12 (N : Nat) (h : xHp) : Option (Int32 × xHp) := none
def F_X8_core (N : Nat) (p1 : Int32) (h : xHp) : Option (Int32 × xHp) := if p1 < 0 then F_X8_core_12 N h else if p1 < (gI h 0 4) then grd (xin p1 16) (some ((gI h 25 p1.toNatClampNeg), h)) else F_X8_core_12 N h
set_option maxHeartbeats 4000000 in
set_option maxRecDepth 100000 in
theorem T_X8_core_12 {G : xG} {p : Program} {l : Launch} {e : Env} {s : State} {m : MethodId} {args : Array Value} {below : List Frame} {meth : Method} {c : Code} {N : Nat} (C : xCz G p s m args meth c cX8_core 2 vX8_core RX8) (hr : meth.sig.returnType = (some .int)) (h : xHp) : J_X8_core G p l e s m args below meth c 12 [] [] h (F_X8_core_12 N h) := by
  unfold F_X8_core_12
  exact x_none
set_option maxHeartbeats 4000000 in
set_option maxRecDepth 100000 in
theorem M_X8_core (G : xG) (l : Launch) (N : Nat) (p1 : Int32) (h : xHp) : ∀ r, F_X8_core N p1 h = some r → Met l yX8_core vX8_core ({ frames := 0, cells := 0, slots := 0, locals := 0 } : Room) (xPz G [.ref (xad G 0), .int p1] h) (xQi G r) 0 0 (xA G) := by
  refine z_met (own := RX8) (cc := cX8_core) (maxL := 2) (ret := (some .int)) (lv0 := [(0, .ref (xad G 0)), (1, .int p1)]) (by decide +kernel) rfl rfl (Nat.le_of_ble_eq_true rfl) rfl ?_
  intro p e s m below meth c C hr
  unfold F_X8_core
  refine x_iload_n C.1 dX8_core_0 rfl 1 rfl ?_
  refine x_if_lt (tgt := 12) C.1 dX8_core_1 (by decide) ?_ ?_
  · exact x_sub [] rfl (T_X8_core_12 C hr h)
  · refine x_iload_n C.1 dX8_core_4 rfl 1 rfl ?_
    refine x_aload_n C.1 dX8_core_5 rfl 0 rfl ?_
    refine x_get (v := .int (gI h 0 4)) C.1 4 dX8_core_6 (xc_0 G h) rfl (by decide) rfl (fun w h => List.mem_cons_of_mem _ (wcWT w (iWC_X8 w h))) (by decide) rfl (C.1.2.2.2.2.1 _ (List.mem_cons_of_mem _ (wcWT _ qC_362))) ?_
    refine x_icmp_lt (tgt := 22) C.1 dX8_core_9 (by decide) ?_ ?_
    · refine x_aload_n C.1 dX8_core_22 rfl 0 rfl ?_
      refine x_get (v := .ref (xad G 25)) C.1 3 dX8_core_23 (xc_0 G h) rfl (by decide) rfl (fun w h => List.mem_cons_of_mem _ (wcWT w (iWC_X8 w h))) (by decide) rfl (C.1.2.2.2.2.1 _ (List.mem_cons_of_mem _ (wcWT _ qC_361))) ?_
      refine x_iload_n C.1 dX8_core_26 rfl 1 rfl ?_
      refine x_iald (n := 16) C.1 dX8_core_27 (xc_25 G h) (by decide) ?_
      exact x_iret C.1 dX8_core_28 hr
    · exact x_sub [] rfl (T_X8_core_12 C hr h)
/-! X8_core_T: 16 instructions -/
abbrev J_X8_core_T (G : xG) (p : Program) (l : Launch) (e : Env) (s : State) (m : MethodId) (args : Array Value) (below : List Frame) (meth : Method) (c : Code) : Nat → List (Nat × Value) → List Value → xHp → Option (Nat × xHp) → Prop := xJ G p l e ({ frames := 6, cells := 1, slots := 6, locals := 100 } : Room) s m args below meth c 2 (fun res => vx_MQ below yNi (xXC G res) args s 1 6 (xA G))
def F_X8_core_T_12 (N : Nat) (h : xHp) : Option (Nat × xHp) := some (1, h)
def F_X8_core_T (N : Nat) (p1 : Int32) (h : xHp) : Option (Nat × xHp) := if p1 < 0 then F_X8_core_T_12 N h else if p1 < (gI h 0 4) then grd (xin p1 16) (none) else F_X8_core_T_12 N h
set_option maxHeartbeats 4000000 in
set_option maxRecDepth 100000 in
theorem T_X8_core_T_12 {G : xG} {p : Program} {l : Launch} {e : Env} {s : State} {m : MethodId} {args : Array Value} {below : List Frame} {meth : Method} {c : Code} {N : Nat} (C : xCz G p s m args meth c cX8_core 2 vX8_core RX8)  (hlt : l.stackTraces = false) (hex : ∀ x ∈ c.exceptionTable.toList, False) (h : xHp) : J_X8_core_T G p l e s m args below meth c 12 [] [] h (F_X8_core_T_12 N h) := by
  unfold F_X8_core_T_12
  obtain ⟨sa, hsa⟩ := C.2.2.2.2.2.1.2.2.2.2.1
  exact y_throw_1 C hlt hex hsa dX8_core_12 dX8_core_15 dX8_core_16 dX8_core_18 dX8_core_21 (by decide) (by decide) (by decide) (by decide)
set_option maxHeartbeats 4000000 in
set_option maxRecDepth 100000 in
theorem M_X8_core_T (G : xG) (l : Launch) (hlt : l.stackTraces = false) (N : Nat) (p1 : Int32) (h : xHp) : ∀ r, F_X8_core_T N p1 h = some r → vx_Met l yX8_core vX8_core ({ frames := 6, cells := 1, slots := 6, locals := 100 } : Room) (xPz G [.ref (xad G 0), .int p1] h) yNi (xXC G r) 1 6 (xA G) := by
  refine y_met (own := RX8) (cc := cX8_core) (maxL := 2) (ret := (some .int)) (lv0 := [(0, .ref (xad G 0)), (1, .int p1)]) (by decide +kernel) rfl rfl (Nat.le_of_ble_eq_true rfl) rfl ?_
  intro p e s m below meth c C hex
  unfold F_X8_core_T
  refine x_iload_n C.1 dX8_core_0 rfl 1 rfl ?_
  refine x_if_lt (tgt := 12) C.1 dX8_core_1 (by decide) ?_ ?_
  · exact x_sub [] rfl (T_X8_core_T_12 C hlt hex h)
  · refine x_iload_n C.1 dX8_core_4 rfl 1 rfl ?_
    refine x_aload_n C.1 dX8_core_5 rfl 0 rfl ?_
    refine x_get (v := .int (gI h 0 4)) C.1 4 dX8_core_6 (xc_0 G h) rfl (by decide) rfl (fun w h => List.mem_cons_of_mem _ (wcWT w (iWC_X8 w h))) (by decide) rfl (C.1.2.2.2.2.1 _ (List.mem_cons_of_mem _ (wcWT _ qC_362))) ?_
    refine x_icmp_lt (tgt := 22) C.1 dX8_core_9 (by decide) ?_ ?_
    · refine x_aload_n C.1 dX8_core_22 rfl 0 rfl ?_
      refine x_get (v := .ref (xad G 25)) C.1 3 dX8_core_23 (xc_0 G h) rfl (by decide) rfl (fun w h => List.mem_cons_of_mem _ (wcWT w (iWC_X8 w h))) (by decide) rfl (C.1.2.2.2.2.1 _ (List.mem_cons_of_mem _ (wcWT _ qC_361))) ?_
      refine x_iload_n C.1 dX8_core_26 rfl 1 rfl ?_
      refine x_iald (n := 16) C.1 dX8_core_27 (xc_25 G h) (by decide) ?_
      exact x_none
    · exact x_sub [] rfl (T_X8_core_T_12 C hlt hex h)
/-! X6_append_26: 26 instructions -/
abbrev J_X6_append_26 (G : xG) (p : Program) (l : Launch) (e : Env) (s : State) (m : MethodId) (args : Array Value) (below : List Frame) (meth : Method) (c : Code) : Nat → List (Nat × Value) → List Value → xHp → Option (Int32 × xHp) → Prop := xJ G p l e ({ frames := 0, cells := 0, slots := 0, locals := 0 } : Room) s m args below meth c 2 (fun res => MQ below (xQi G res) args s 0 0 (xA G))
def F_X6_append_26_19 (N : Nat) (h : xHp) : Option (Int32 × xHp) := some (0, h)
def F_X6_append_26 (N : Nat) (p1 : Int32) (h : xHp) : Option (Int32 × xHp) := if (gI h 26 1) < 0 then F_X6_append_26_19 N h else if (gI h 26 1) < 400 then grd (xin (gI h 26 1) 400) (bnd (sI h 27 (gI h 26 1).toNatClampNeg (vp_nar .byte p1.toInt8.toInt32)) fun h1 => bnd (sI h1 26 1 ((gI h1 26 1) + 1)) fun h2 => some (1, h2)) else F_X6_append_26_19 N h
set_option maxHeartbeats 4000000 in
set_option maxRecDepth 100000 in
theorem T_X6_append_26_19 {G : xG} {p : Program} {l : Launch} {e : Env} {s : State} {m : MethodId} {args : Array Value} {below : List Frame} {meth : Method} {c : Code} {N : Nat} (C : xCz G p s m args meth c cX6_append 2 vX6_append RX6) (hr : meth.sig.returnType = (some .boolean)) (h : xHp) : J_X6_append_26 G p l e s m args below meth c 19 [] [] h (F_X6_append_26_19 N h) := by
  unfold F_X6_append_26_19
  refine x_iconst (v := 0) C.1 dX6_append_19 (by decide) ?_
  exact x_zretL C.1 dX6_append_20 hr rfl
set_option maxHeartbeats 4000000 in
set_option maxRecDepth 100000 in
theorem M_X6_append_26 (G : xG) (l : Launch) (N : Nat) (p1 : Int32) (h : xHp) : ∀ r, F_X6_append_26 N p1 h = some r → Met l yX6_append vX6_append ({ frames := 0, cells := 0, slots := 0, locals := 0 } : Room) (xPz G [.ref (xad G 26), .int p1] h) (xQi G r) 0 0 (xA G) := by
  refine z_met (own := RX6) (cc := cX6_append) (maxL := 2) (ret := (some .boolean)) (lv0 := [(0, .ref (xad G 26)), (1, .int p1)]) (by decide +kernel) rfl rfl (Nat.le_of_ble_eq_true rfl) rfl ?_
  intro p e s m below meth c C hr
  unfold F_X6_append_26
  refine x_aload_n C.1 dX6_append_0 rfl 0 rfl ?_
  refine x_get (v := .int (gI h 26 1)) C.1 1 dX6_append_1 (xc_26 G h) rfl (by decide) rfl (fun w h => List.mem_cons_of_mem _ (iWC_X6 w h)) (by decide) rfl (C.1.2.2.2.2.1 _ (List.mem_cons_of_mem _ qC_8)) ?_
  refine x_if_lt (tgt := 19) C.1 dX6_append_4 (by decide) ?_ ?_
  · exact x_sub [] rfl (T_X6_append_26_19 C hr h)
  · refine x_aload_n C.1 dX6_append_7 rfl 0 rfl ?_
    refine x_get (v := .int (gI h 26 1)) C.1 1 dX6_append_8 (xc_26 G h) rfl (by decide) rfl (fun w h => List.mem_cons_of_mem _ (iWC_X6 w h)) (by decide) rfl (C.1.2.2.2.2.1 _ (List.mem_cons_of_mem _ qC_8)) ?_
    refine x_aload_n C.1 dX6_append_11 rfl 0 rfl ?_
    refine x_get (v := .ref (xad G 27)) C.1 0 dX6_append_12 (xc_26 G h) rfl (by decide) rfl (fun w h => List.mem_cons_of_mem _ (iWC_X6 w h)) (by decide) rfl (C.1.2.2.2.2.1 _ (List.mem_cons_of_mem _ qC_9)) ?_
    refine x_alen (v := 400) (t0 := 0) C.1 dX6_append_15 (xc_27 G h) rfl rfl (by decide) ?_
    refine x_icmp_lt (tgt := 21) C.1 dX6_append_16 (by decide) ?_ ?_
    · refine x_aload_n C.1 dX6_append_21 rfl 0 rfl ?_
      refine x_get (v := .ref (xad G 27)) C.1 0 dX6_append_22 (xc_26 G h) rfl (by decide) rfl (fun w h => List.mem_cons_of_mem _ (iWC_X6 w h)) (by decide) rfl (C.1.2.2.2.2.1 _ (List.mem_cons_of_mem _ qC_9)) ?_
      refine x_aload_n C.1 dX6_append_25 rfl 0 rfl ?_
      refine x_get (v := .int (gI h 26 1)) C.1 1 dX6_append_26 (xc_26 G h) rfl (by decide) rfl (fun w h => List.mem_cons_of_mem _ (iWC_X6 w h)) (by decide) rfl (C.1.2.2.2.2.1 _ (List.mem_cons_of_mem _ qC_8)) ?_
      refine x_iload_n C.1 dX6_append_29 rfl 1 rfl ?_
      refine x_i2b C.1 dX6_append_30 ?_
      refine x_bast (n := 400) C.1 dX6_append_31 (fun g => xp_27 G g _ _) (by decide) (fun h1 => ?_)
      refine x_aload_n C.1 dX6_append_32 rfl 0 rfl ?_
      refine x_dup C.1 dX6_append_33 rfl ?_
      refine x_get (v := .int (gI h1 26 1)) C.1 1 dX6_append_34 (xc_26 G h1) rfl (by decide) rfl (fun w h => List.mem_cons_of_mem _ (iWC_X6 w h)) (by decide) rfl (C.1.2.2.2.2.1 _ (List.mem_cons_of_mem _ qC_8)) ?_
      refine x_iconst (v := 1) C.1 dX6_append_37 (by decide) ?_
      refine x_iadd C.1 dX6_append_38 ?_
      refine x_putI (ty0 := tyX6) (ty := .int) C.1 1 dX6_append_39 (xc_26 G h1) rfl (Nat.le_of_ble_eq_true rfl) (by decide) rfl (fun w h => List.mem_cons_of_mem _ (iWC_X6 w h)) tyX6_ok nmX6 (by decide) rfl rfl (by decide +kernel) rfl rfl (C.1.2.2.2.2.1 _ (List.mem_cons_of_mem _ qC_8)) (fun h2 => ?_)
      refine x_iconst (v := 1) C.1 dX6_append_42 (by decide) ?_
      exact x_zretL C.1 dX6_append_43 hr rfl
    · exact x_sub [] rfl (T_X6_append_26_19 C hr h)
/-! X8_feed: 47 instructions -/
abbrev J_X8_feed (G : xG) (p : Program) (l : Launch) (e : Env) (s : State) (m : MethodId) (args : Array Value) (below : List Frame) (meth : Method) (c : Code) : Nat → List (Nat × Value) → List Value → xHp → Option (Int32 × xHp) → Prop := xJ G p l e ({ frames := 1, cells := 0, slots := 0, locals := 21 } : Room) s m args below meth c 5 (fun res => MQ below (xQi G res) args s 0 0 (xA G))
def F_X8_feed_11 (N : Nat) (h : xHp) : Option (Int32 × xHp) := none
def F_X8_feed_51_b (N : Nat) (k51 : Int64 → Int32 → xHp → Option (Int32 × xHp)) (x1 : Int64) (x4 : Int32) (h : xHp) : Option (Int32 × xHp) := if x4 < 0 then some ((gI h 26 1), h) else bnd2 (F_X6_append_26 N ((((x1.toUInt64 >>> ((8 * x4).toInt64.toUInt64 &&& Int64.toUInt64 63)).toInt64).toInt32) &&& 255) h) fun r1 h2 => k51 x1 (x4 + (-1)) h2
def F_X8_feed_51 (N : Nat) (x1 : Int64) (x4 : Int32) (h : xHp) : Option (Int32 × xHp) := xit (F_X8_feed_51_b N) (fun _ _ _ => none) N x1 x4 h
def F_X8_feed (N : Nat) (p1 : Int64) (p3 : Int32) (h : xHp) : Option (Int32 × xHp) := if p3 < 1 then F_X8_feed_11 N h else if p3 ≤ 8 then if ((gI h 26 1) + p3) ≤ 400 then F_X8_feed_51 N p1 (p3 - 1) h else none else F_X8_feed_11 N h
set_option maxHeartbeats 4000000 in
set_option maxRecDepth 100000 in
theorem T_X8_feed_11 {G : xG} {p : Program} {l : Launch} {e : Env} {s : State} {m : MethodId} {args : Array Value} {below : List Frame} {meth : Method} {c : Code} {N : Nat} (C : xCz G p s m args meth c cX8_feed 5 vX8_feed RX8) (hr : meth.sig.returnType = (some .int)) (h : xHp) : J_X8_feed G p l e s m args below meth c 11 [] [] h (F_X8_feed_11 N h) := by
  unfold F_X8_feed_11
  exact x_none
set_option maxHeartbeats 4000000 in
set_option maxRecDepth 100000 in
theorem T_X8_feed_51_b {G : xG} {p : Program} {l : Launch} {e : Env} {s : State} {m : MethodId} {args : Array Value} {below : List Frame} {meth : Method} {c : Code} {N : Nat} (C : xCz G p s m args meth c cX8_feed 5 vX8_feed RX8) (hr : meth.sig.returnType = (some .int)) {k51 : Int64 → Int32 → xHp → Option (Int32 × xHp)} (hk51 : ∀ (x1 : Int64) (x4 : Int32) (h : xHp), J_X8_feed G p l e s m args below meth c 51 [(0, .ref (xad G 0)), (1, .long x1), (4, .int x4)] [] h (k51 x1 x4 h)) (x1 : Int64) (x4 : Int32) (h : xHp) : J_X8_feed G p l e s m args below meth c 51 [(0, .ref (xad G 0)), (1, .long x1), (4, .int x4)] [] h (F_X8_feed_51_b N k51 x1 x4 h) := by
  unfold F_X8_feed_51_b
  refine x_iload C.1 dX8_feed_51 2 rfl ?_
  refine x_if_lt (tgt := 82) C.1 dX8_feed_53 (by decide) ?_ ?_
  · refine x_aload_n C.1 dX8_feed_82 rfl 0 rfl ?_
    refine x_get (v := .ref (xad G 26)) C.1 5 dX8_feed_83 (xc_0 G h) rfl (by decide) rfl (fun w h => List.mem_cons_of_mem _ (wcWT w (iWC_X8 w h))) (by decide) rfl (C.1.2.2.2.2.1 _ (List.mem_cons_of_mem _ (wcWT _ qC_411))) ?_
    refine x_get (v := .int (gI h 26 1)) C.1 1 dX8_feed_86 (xc_26 G h) rfl (by decide) rfl (fun w h => List.mem_cons_of_mem _ (wcWT w (iWC_X6 w h))) (by decide) rfl (C.1.2.2.2.2.1 _ (List.mem_cons_of_mem _ (wcWT _ qC_412))) ?_
    exact x_iret C.1 dX8_feed_89 hr
  · refine x_aload_n C.1 dX8_feed_56 rfl 0 rfl ?_
    refine x_get (v := .ref (xad G 26)) C.1 5 dX8_feed_57 (xc_0 G h) rfl (by decide) rfl (fun w h => List.mem_cons_of_mem _ (wcWT w (iWC_X8 w h))) (by decide) rfl (C.1.2.2.2.2.1 _ (List.mem_cons_of_mem _ (wcWT _ qC_411))) ?_
    refine x_lload_n C.1 dX8_feed_60 rfl 1 rfl ?_
    refine x_bipush (v := 8) C.1 dX8_feed_61 (by decide) ?_
    refine x_iload C.1 dX8_feed_63 2 rfl ?_
    refine x_imul C.1 dX8_feed_65 ?_
    refine x_lushr C.1 dX8_feed_66 ?_
    refine x_l2i C.1 dX8_feed_67 ?_
    refine x_sipush (v := 255) C.1 dX8_feed_68 (by decide) ?_
    refine x_iand C.1 dX8_feed_71 ?_
    refine z_callVi C dX8_feed_72 (M_X6_append_26 G l N ((((x1.toUInt64 >>> ((8 * x4).toInt64.toUInt64 &&& Int64.toUInt64 63)).toInt64).toInt32) &&& 255) h) (cwV 1 C.1.2.2.2.2.1 (gdV2 wcWT gWT (wcWT _ qC_413) (wcWT _ qC_320) (wcWT _ qC_321) (wcWT _ qC_16) (wcWT _ qC_314)) rfl rfl rfl (by decide +kernel) ⟨Nat.le_of_ble_eq_true rfl, Nat.le_of_ble_eq_true rfl⟩) (xc_26 G h) (by decide) rfl rfl rfl (Nat.le_of_ble_eq_true rfl) (fun r1 h2 => ?_)
    refine x_pop C.1 dX8_feed_75 rfl ?_
    refine x_iinc (v := (x4 + (-1))) (j := 2) (lv' := [(4, .int (x4 + (-1))), (0, .ref (xad G 0)), (1, .long x1)]) C.1 dX8_feed_76 rfl (by rfl) (by decide) rfl ?_
    refine x_goto (tgt := 51) C.1 dX8_feed_79 (by decide) ?_
    exact x_sub [1, 2, 0] rfl (hk51 x1 (x4 + (-1)) h2)
set_option maxHeartbeats 4000000 in
set_option maxRecDepth 100000 in
theorem T_X8_feed_51_n {G : xG} {p : Program} {l : Launch} {e : Env} {s : State} {m : MethodId} {args : Array Value} {below : List Frame} {meth : Method} {c : Code} {N : Nat} (C : xCz G p s m args meth c cX8_feed 5 vX8_feed RX8) (hr : meth.sig.returnType = (some .int)) : ∀ (n : Nat) (x1 : Int64) (x4 : Int32) (h : xHp), J_X8_feed G p l e s m args below meth c 51 [(0, .ref (xad G 0)), (1, .long x1), (4, .int x4)] [] h (xit (F_X8_feed_51_b N) (fun _ _ _ => none) n x1 x4 h) := by
  intro n
  induction n with
  | zero => intros; exact x_none
  | succ n ih => intros; exact T_X8_feed_51_b C hr ih _ _ _
set_option maxHeartbeats 4000000 in
set_option maxRecDepth 100000 in
theorem T_X8_feed_51 {G : xG} {p : Program} {l : Launch} {e : Env} {s : State} {m : MethodId} {args : Array Value} {below : List Frame} {meth : Method} {c : Code} {N : Nat} (C : xCz G p s m args meth c cX8_feed 5 vX8_feed RX8) (hr : meth.sig.returnType = (some .int)) (x1 : Int64) (x4 : Int32) (h : xHp) : J_X8_feed G p l e s m args below meth c 51 [(0, .ref (xad G 0)), (1, .long x1), (4, .int x4)] [] h (F_X8_feed_51 N x1 x4 h) := T_X8_feed_51_n C hr N x1 x4 h
set_option maxHeartbeats 4000000 in
set_option maxRecDepth 100000 in
theorem M_X8_feed (G : xG) (l : Launch) (N : Nat) (p1 : Int64) (p3 : Int32) (h : xHp) : ∀ r, F_X8_feed N p1 p3 h = some r → Met l yX8_feed vX8_feed ({ frames := 1, cells := 0, slots := 0, locals := 21 } : Room) (xPz G [.ref (xad G 0), .long p1, .int p3] h) (xQi G r) 0 0 (xA G) := by
  refine z_met (own := RX8) (cc := cX8_feed) (maxL := 5) (ret := (some .int)) (lv0 := [(0, .ref (xad G 0)), (1, .long p1), (3, .int p3)]) (by decide +kernel) rfl rfl (Nat.le_of_ble_eq_true rfl) rfl ?_
  intro p e s m below meth c C hr
  unfold F_X8_feed
  refine x_iload_n C.1 dX8_feed_0 rfl 2 rfl ?_
  refine x_iconst (v := 1) C.1 dX8_feed_1 (by decide) ?_
  refine x_icmp_lt (tgt := 11) C.1 dX8_feed_2 (by decide) ?_ ?_
  · exact x_sub [] rfl (T_X8_feed_11 C hr h)
  · refine x_iload_n C.1 dX8_feed_5 rfl 2 rfl ?_
    refine x_bipush (v := 8) C.1 dX8_feed_6 (by decide) ?_
    refine x_icmp_le (tgt := 21) C.1 dX8_feed_8 (by decide) ?_ ?_
    · refine x_aload_n C.1 dX8_feed_21 rfl 0 rfl ?_
      refine x_get (v := .ref (xad G 26)) C.1 5 dX8_feed_22 (xc_0 G h) rfl (by decide) rfl (fun w h => List.mem_cons_of_mem _ (wcWT w (iWC_X8 w h))) (by decide) rfl (C.1.2.2.2.2.1 _ (List.mem_cons_of_mem _ (wcWT _ qC_411))) ?_
      refine x_get (v := .int (gI h 26 1)) C.1 1 dX8_feed_25 (xc_26 G h) rfl (by decide) rfl (fun w h => List.mem_cons_of_mem _ (wcWT w (iWC_X6 w h))) (by decide) rfl (C.1.2.2.2.2.1 _ (List.mem_cons_of_mem _ (wcWT _ qC_412))) ?_
      refine x_iload_n C.1 dX8_feed_28 rfl 2 rfl ?_
      refine x_iadd C.1 dX8_feed_29 ?_
      refine x_sipush (v := 400) C.1 dX8_feed_30 (by decide) ?_
      refine x_icmp_le (tgt := 46) C.1 dX8_feed_33 (by decide) ?_ ?_
      · refine x_iload_n C.1 dX8_feed_46 rfl 2 rfl ?_
        refine x_iconst (v := 1) C.1 dX8_feed_47 (by decide) ?_
        refine x_isub C.1 dX8_feed_48 ?_
        refine x_istore (lv' := [(4, .int (p3 - 1)), (0, .ref (xad G 0)), (1, .long p1), (3, .int p3)]) C.1 dX8_feed_49 (by decide) rfl ?_
        exact x_sub [1, 2, 0] rfl (T_X8_feed_51 C hr p1 (p3 - 1) h)
      · exact x_none
    · exact x_sub [] rfl (T_X8_feed_11 C hr h)
/-! X8_feed_T: 47 instructions -/
abbrev J_X8_feed_T (G : xG) (p : Program) (l : Launch) (e : Env) (s : State) (m : MethodId) (args : Array Value) (below : List Frame) (meth : Method) (c : Code) : Nat → List (Nat × Value) → List Value → xHp → Option (Nat × xHp) → Prop := xJ G p l e ({ frames := 6, cells := 1, slots := 6, locals := 100 } : Room) s m args below meth c 5 (fun res => vx_MQ below yNi (xXC G res) args s 1 6 (xA G))
def F_X8_feed_T_11 (N : Nat) (h : xHp) : Option (Nat × xHp) := some (2, h)
def F_X8_feed_T_51_b (N : Nat) (k51 : Int64 → Int32 → xHp → Option (Nat × xHp)) (x1 : Int64) (x4 : Int32) (h : xHp) : Option (Nat × xHp) := if x4 < 0 then none else bnd2 (F_X6_append_26 N ((((x1.toUInt64 >>> ((8 * x4).toInt64.toUInt64 &&& Int64.toUInt64 63)).toInt64).toInt32) &&& 255) h) fun r1 h2 => k51 x1 (x4 + (-1)) h2
def F_X8_feed_T_51 (N : Nat) (x1 : Int64) (x4 : Int32) (h : xHp) : Option (Nat × xHp) := xit (F_X8_feed_T_51_b N) (fun _ _ _ => none) N x1 x4 h
def F_X8_feed_T (N : Nat) (p1 : Int64) (p3 : Int32) (h : xHp) : Option (Nat × xHp) := if p3 < 1 then F_X8_feed_T_11 N h else if p3 ≤ 8 then if ((gI h 26 1) + p3) ≤ 400 then F_X8_feed_T_51 N p1 (p3 - 1) h else some (3, h) else F_X8_feed_T_11 N h
set_option maxHeartbeats 4000000 in
set_option maxRecDepth 100000 in
theorem T_X8_feed_T_11 {G : xG} {p : Program} {l : Launch} {e : Env} {s : State} {m : MethodId} {args : Array Value} {below : List Frame} {meth : Method} {c : Code} {N : Nat} (C : xCz G p s m args meth c cX8_feed 5 vX8_feed RX8)  (hlt : l.stackTraces = false) (hex : ∀ x ∈ c.exceptionTable.toList, False) (h : xHp) : J_X8_feed_T G p l e s m args below meth c 11 [] [] h (F_X8_feed_T_11 N h) := by
  unfold F_X8_feed_T_11
  obtain ⟨sa, hsa⟩ := C.2.2.2.2.2.1.2.2.2.2.2.2.2.2.1
  exact y_throw_2 C hlt hex hsa dX8_feed_11 dX8_feed_14 dX8_feed_15 dX8_feed_17 dX8_feed_20 (by decide) (by decide) (by decide) (by decide)
set_option maxHeartbeats 4000000 in
set_option maxRecDepth 100000 in
theorem T_X8_feed_T_51_b {G : xG} {p : Program} {l : Launch} {e : Env} {s : State} {m : MethodId} {args : Array Value} {below : List Frame} {meth : Method} {c : Code} {N : Nat} (C : xCz G p s m args meth c cX8_feed 5 vX8_feed RX8)  (hlt : l.stackTraces = false) (hex : ∀ x ∈ c.exceptionTable.toList, False) {k51 : Int64 → Int32 → xHp → Option (Nat × xHp)} (hk51 : ∀ (x1 : Int64) (x4 : Int32) (h : xHp), J_X8_feed_T G p l e s m args below meth c 51 [(0, .ref (xad G 0)), (1, .long x1), (4, .int x4)] [] h (k51 x1 x4 h)) (x1 : Int64) (x4 : Int32) (h : xHp) : J_X8_feed_T G p l e s m args below meth c 51 [(0, .ref (xad G 0)), (1, .long x1), (4, .int x4)] [] h (F_X8_feed_T_51_b N k51 x1 x4 h) := by
  unfold F_X8_feed_T_51_b
  refine x_iload C.1 dX8_feed_51 2 rfl ?_
  refine x_if_lt (tgt := 82) C.1 dX8_feed_53 (by decide) ?_ ?_
  · refine x_aload_n C.1 dX8_feed_82 rfl 0 rfl ?_
    refine x_get (v := .ref (xad G 26)) C.1 5 dX8_feed_83 (xc_0 G h) rfl (by decide) rfl (fun w h => List.mem_cons_of_mem _ (wcWT w (iWC_X8 w h))) (by decide) rfl (C.1.2.2.2.2.1 _ (List.mem_cons_of_mem _ (wcWT _ qC_411))) ?_
    refine x_get (v := .int (gI h 26 1)) C.1 1 dX8_feed_86 (xc_26 G h) rfl (by decide) rfl (fun w h => List.mem_cons_of_mem _ (wcWT w (iWC_X6 w h))) (by decide) rfl (C.1.2.2.2.2.1 _ (List.mem_cons_of_mem _ (wcWT _ qC_412))) ?_
    exact x_none
  · refine x_aload_n C.1 dX8_feed_56 rfl 0 rfl ?_
    refine x_get (v := .ref (xad G 26)) C.1 5 dX8_feed_57 (xc_0 G h) rfl (by decide) rfl (fun w h => List.mem_cons_of_mem _ (wcWT w (iWC_X8 w h))) (by decide) rfl (C.1.2.2.2.2.1 _ (List.mem_cons_of_mem _ (wcWT _ qC_411))) ?_
    refine x_lload_n C.1 dX8_feed_60 rfl 1 rfl ?_
    refine x_bipush (v := 8) C.1 dX8_feed_61 (by decide) ?_
    refine x_iload C.1 dX8_feed_63 2 rfl ?_
    refine x_imul C.1 dX8_feed_65 ?_
    refine x_lushr C.1 dX8_feed_66 ?_
    refine x_l2i C.1 dX8_feed_67 ?_
    refine x_sipush (v := 255) C.1 dX8_feed_68 (by decide) ?_
    refine x_iand C.1 dX8_feed_71 ?_
    refine z_callVi C dX8_feed_72 (M_X6_append_26 G l N ((((x1.toUInt64 >>> ((8 * x4).toInt64.toUInt64 &&& Int64.toUInt64 63)).toInt64).toInt32) &&& 255) h) (cwV 1 C.1.2.2.2.2.1 (gdV2 wcWT gWT (wcWT _ qC_413) (wcWT _ qC_320) (wcWT _ qC_321) (wcWT _ qC_16) (wcWT _ qC_314)) rfl rfl rfl (by decide +kernel) ⟨Nat.le_of_ble_eq_true rfl, Nat.le_of_ble_eq_true rfl⟩) (xc_26 G h) (by decide) rfl rfl rfl (Nat.le_of_ble_eq_true rfl) (fun r1 h2 => ?_)
    refine x_pop C.1 dX8_feed_75 rfl ?_
    refine x_iinc (v := (x4 + (-1))) (j := 2) (lv' := [(4, .int (x4 + (-1))), (0, .ref (xad G 0)), (1, .long x1)]) C.1 dX8_feed_76 rfl (by rfl) (by decide) rfl ?_
    refine x_goto (tgt := 51) C.1 dX8_feed_79 (by decide) ?_
    exact x_sub [1, 2, 0] rfl (hk51 x1 (x4 + (-1)) h2)
set_option maxHeartbeats 4000000 in
set_option maxRecDepth 100000 in
theorem T_X8_feed_T_51_n {G : xG} {p : Program} {l : Launch} {e : Env} {s : State} {m : MethodId} {args : Array Value} {below : List Frame} {meth : Method} {c : Code} {N : Nat} (C : xCz G p s m args meth c cX8_feed 5 vX8_feed RX8)  (hlt : l.stackTraces = false) (hex : ∀ x ∈ c.exceptionTable.toList, False) : ∀ (n : Nat) (x1 : Int64) (x4 : Int32) (h : xHp), J_X8_feed_T G p l e s m args below meth c 51 [(0, .ref (xad G 0)), (1, .long x1), (4, .int x4)] [] h (xit (F_X8_feed_T_51_b N) (fun _ _ _ => none) n x1 x4 h) := by
  intro n
  induction n with
  | zero => intros; exact x_none
  | succ n ih => intros; exact T_X8_feed_T_51_b C hlt hex ih _ _ _
set_option maxHeartbeats 4000000 in
set_option maxRecDepth 100000 in
theorem T_X8_feed_T_51 {G : xG} {p : Program} {l : Launch} {e : Env} {s : State} {m : MethodId} {args : Array Value} {below : List Frame} {meth : Method} {c : Code} {N : Nat} (C : xCz G p s m args meth c cX8_feed 5 vX8_feed RX8)  (hlt : l.stackTraces = false) (hex : ∀ x ∈ c.exceptionTable.toList, False) (x1 : Int64) (x4 : Int32) (h : xHp) : J_X8_feed_T G p l e s m args below meth c 51 [(0, .ref (xad G 0)), (1, .long x1), (4, .int x4)] [] h (F_X8_feed_T_51 N x1 x4 h) := T_X8_feed_T_51_n C hlt hex N x1 x4 h
set_option maxHeartbeats 4000000 in
set_option maxRecDepth 100000 in
theorem M_X8_feed_T (G : xG) (l : Launch) (hlt : l.stackTraces = false) (N : Nat) (p1 : Int64) (p3 : Int32) (h : xHp) : ∀ r, F_X8_feed_T N p1 p3 h = some r → vx_Met l yX8_feed vX8_feed ({ frames := 6, cells := 1, slots := 6, locals := 100 } : Room) (xPz G [.ref (xad G 0), .long p1, .int p3] h) yNi (xXC G r) 1 6 (xA G) := by
  refine y_met (own := RX8) (cc := cX8_feed) (maxL := 5) (ret := (some .int)) (lv0 := [(0, .ref (xad G 0)), (1, .long p1), (3, .int p3)]) (by decide +kernel) rfl rfl (Nat.le_of_ble_eq_true rfl) rfl ?_
  intro p e s m below meth c C hex
  unfold F_X8_feed_T
  refine x_iload_n C.1 dX8_feed_0 rfl 2 rfl ?_
  refine x_iconst (v := 1) C.1 dX8_feed_1 (by decide) ?_
  refine x_icmp_lt (tgt := 11) C.1 dX8_feed_2 (by decide) ?_ ?_
  · exact x_sub [] rfl (T_X8_feed_T_11 C hlt hex h)
  · refine x_iload_n C.1 dX8_feed_5 rfl 2 rfl ?_
    refine x_bipush (v := 8) C.1 dX8_feed_6 (by decide) ?_
    refine x_icmp_le (tgt := 21) C.1 dX8_feed_8 (by decide) ?_ ?_
    · refine x_aload_n C.1 dX8_feed_21 rfl 0 rfl ?_
      refine x_get (v := .ref (xad G 26)) C.1 5 dX8_feed_22 (xc_0 G h) rfl (by decide) rfl (fun w h => List.mem_cons_of_mem _ (wcWT w (iWC_X8 w h))) (by decide) rfl (C.1.2.2.2.2.1 _ (List.mem_cons_of_mem _ (wcWT _ qC_411))) ?_
      refine x_get (v := .int (gI h 26 1)) C.1 1 dX8_feed_25 (xc_26 G h) rfl (by decide) rfl (fun w h => List.mem_cons_of_mem _ (wcWT w (iWC_X6 w h))) (by decide) rfl (C.1.2.2.2.2.1 _ (List.mem_cons_of_mem _ (wcWT _ qC_412))) ?_
      refine x_iload_n C.1 dX8_feed_28 rfl 2 rfl ?_
      refine x_iadd C.1 dX8_feed_29 ?_
      refine x_sipush (v := 400) C.1 dX8_feed_30 (by decide) ?_
      refine x_icmp_le (tgt := 46) C.1 dX8_feed_33 (by decide) ?_ ?_
      · refine x_iload_n C.1 dX8_feed_46 rfl 2 rfl ?_
        refine x_iconst (v := 1) C.1 dX8_feed_47 (by decide) ?_
        refine x_isub C.1 dX8_feed_48 ?_
        refine x_istore (lv' := [(4, .int (p3 - 1)), (0, .ref (xad G 0)), (1, .long p1), (3, .int p3)]) C.1 dX8_feed_49 (by decide) rfl ?_
        exact x_sub [1, 2, 0] rfl (T_X8_feed_T_51 C hlt hex p1 (p3 - 1) h)
      · obtain ⟨sa, hsa⟩ := C.2.2.2.2.2.1.2.2.2.2.2.2.2.2.2.1
        exact y_throw_3 C hlt hex hsa dX8_feed_36 dX8_feed_39 dX8_feed_40 dX8_feed_42 dX8_feed_45 (by decide) (by decide) (by decide) (by decide)
    · exact x_sub [] rfl (T_X8_feed_T_11 C hlt hex h)
/-! X5_countTrue: 33 instructions -/
abbrev J_X5_countTrue (G : xG) (p : Program) (l : Launch) (e : Env) (s : State) (m : MethodId) (args : Array Value) (below : List Frame) (meth : Method) (c : Code) : Nat → List (Nat × Value) → List Value → xHp → Option (Int32 × xHp) → Prop := xJ G p l e ({ frames := 0, cells := 0, slots := 0, locals := 0 } : Room) s m args below meth c 5 (fun res => MQ below (xQi G res) args s 0 0 (xA G))
def F_X5_countTrue_49 (N : Nat) (k19 : Int32 → Int32 → Int32 → xHp → Option (Int32 × xHp)) (x2 : Int32) (x3 : Int32) (x4 : Int32) (h : xHp) : Option (Int32 × xHp) := k19 x2 x3 (x4 + 1) h
def F_X5_countTrue_19_b (N : Nat) (k19 : Int32 → Int32 → Int32 → xHp → Option (Int32 × xHp)) (x2 : Int32) (x3 : Int32) (x4 : Int32) (h : xHp) : Option (Int32 × xHp) := if 1024 ≤ x4 then some (x2, h) else grd (xin x4 1024) (if (gI h 48 x4.toNatClampNeg) = 0 then F_X5_countTrue_49 N k19 x2 x3 x4 h else if (x4 &&& x3) = 0 then F_X5_countTrue_49 N k19 x2 x3 x4 h else F_X5_countTrue_49 N k19 (x2 + 1) x3 x4 h)
def F_X5_countTrue_19 (N : Nat) (x2 : Int32) (x3 : Int32) (x4 : Int32) (h : xHp) : Option (Int32 × xHp) := xit (F_X5_countTrue_19_b N) (fun _ _ _ _ => none) N x2 x3 x4 h
def F_X5_countTrue (N : Nat) (p1 : Int32) (h : xHp) : Option (Int32 × xHp) := F_X5_countTrue_19 N 0 (1 <<< ((((gI h 30 3) - 1) - p1) &&& 31)) 0 h
set_option maxHeartbeats 4000000 in
set_option maxRecDepth 100000 in
theorem T_X5_countTrue_49 {G : xG} {p : Program} {l : Launch} {e : Env} {s : State} {m : MethodId} {args : Array Value} {below : List Frame} {meth : Method} {c : Code} {N : Nat} (C : xCz G p s m args meth c cX5_countTrue 5 vX5_countTrue RX5) (hr : meth.sig.returnType = (some .int)) {k19 : Int32 → Int32 → Int32 → xHp → Option (Int32 × xHp)} (hk19 : ∀ (x2 : Int32) (x3 : Int32) (x4 : Int32) (h : xHp), J_X5_countTrue G p l e s m args below meth c 19 [(0, .ref (xad G 47)), (2, .int x2), (3, .int x3), (4, .int x4)] [] h (k19 x2 x3 x4 h)) (x2 : Int32) (x3 : Int32) (x4 : Int32) (h : xHp) : J_X5_countTrue G p l e s m args below meth c 49 [(0, .ref (xad G 47)), (2, .int x2), (3, .int x3), (4, .int x4)] [] h (F_X5_countTrue_49 N k19 x2 x3 x4 h) := by
  unfold F_X5_countTrue_49
  refine x_iinc (v := (x4 + 1)) (j := 3) (lv' := [(4, .int (x4 + 1)), (0, .ref (xad G 47)), (2, .int x2), (3, .int x3)]) C.1 dX5_countTrue_49 rfl (by rfl) (by decide) rfl ?_
  refine x_goto (tgt := 19) C.1 dX5_countTrue_52 (by decide) ?_
  exact x_sub [1, 2, 3, 0] rfl (hk19 x2 x3 (x4 + 1) h)
set_option maxHeartbeats 4000000 in
set_option maxRecDepth 100000 in
theorem T_X5_countTrue_19_b {G : xG} {p : Program} {l : Launch} {e : Env} {s : State} {m : MethodId} {args : Array Value} {below : List Frame} {meth : Method} {c : Code} {N : Nat} (C : xCz G p s m args meth c cX5_countTrue 5 vX5_countTrue RX5) (hr : meth.sig.returnType = (some .int)) {k19 : Int32 → Int32 → Int32 → xHp → Option (Int32 × xHp)} (hk19 : ∀ (x2 : Int32) (x3 : Int32) (x4 : Int32) (h : xHp), J_X5_countTrue G p l e s m args below meth c 19 [(0, .ref (xad G 47)), (2, .int x2), (3, .int x3), (4, .int x4)] [] h (k19 x2 x3 x4 h)) (x2 : Int32) (x3 : Int32) (x4 : Int32) (h : xHp) : J_X5_countTrue G p l e s m args below meth c 19 [(0, .ref (xad G 47)), (2, .int x2), (3, .int x3), (4, .int x4)] [] h (F_X5_countTrue_19_b N k19 x2 x3 x4 h) := by
  unfold F_X5_countTrue_19_b
  refine x_iload C.1 dX5_countTrue_19 3 rfl ?_
  refine x_aload_n C.1 dX5_countTrue_21 rfl 0 rfl ?_
  refine x_get (v := .ref (xad G 48)) C.1 0 dX5_countTrue_22 (xc_47 G h) rfl (by decide) rfl (fun w h => List.mem_cons_of_mem _ (iWC_X5 w h)) (by decide) rfl (C.1.2.2.2.2.1 _ (List.mem_cons_of_mem _ qC_289)) ?_
  refine x_alen (v := 1024) (t0 := 3) C.1 dX5_countTrue_25 (xc_48 G h) rfl rfl (by decide) ?_
  refine x_icmp_ge (tgt := 55) C.1 dX5_countTrue_26 (by decide) ?_ ?_
  · refine x_iload_n C.1 dX5_countTrue_55 rfl 1 rfl ?_
    exact x_iret C.1 dX5_countTrue_56 hr
  · refine x_aload_n C.1 dX5_countTrue_29 rfl 0 rfl ?_
    refine x_get (v := .ref (xad G 48)) C.1 0 dX5_countTrue_30 (xc_47 G h) rfl (by decide) rfl (fun w h => List.mem_cons_of_mem _ (iWC_X5 w h)) (by decide) rfl (C.1.2.2.2.2.1 _ (List.mem_cons_of_mem _ qC_289)) ?_
    refine x_iload C.1 dX5_countTrue_33 3 rfl ?_
    refine x_zald (n := 1024) C.1 dX5_countTrue_35 (xc_48 G h) (by decide) ?_
    refine x_if_eq (tgt := 49) C.1 dX5_countTrue_36 (by decide) ?_ ?_
    · exact x_sub [0, 1, 2, 3] rfl (T_X5_countTrue_49 C hr hk19 x2 x3 x4 h)
    · refine x_iload C.1 dX5_countTrue_39 3 rfl ?_
      refine x_iload_n C.1 dX5_countTrue_41 rfl 2 rfl ?_
      refine x_iand C.1 dX5_countTrue_42 ?_
      refine x_if_eq (tgt := 49) C.1 dX5_countTrue_43 (by decide) ?_ ?_
      · exact x_sub [0, 1, 2, 3] rfl (T_X5_countTrue_49 C hr hk19 x2 x3 x4 h)
      · refine x_iinc (v := (x2 + 1)) (j := 1) (lv' := [(2, .int (x2 + 1)), (0, .ref (xad G 47)), (3, .int x3), (4, .int x4)]) C.1 dX5_countTrue_46 rfl (by rfl) (by decide) rfl ?_
        exact x_sub [1, 0, 2, 3] rfl (T_X5_countTrue_49 C hr hk19 (x2 + 1) x3 x4 h)
set_option maxHeartbeats 4000000 in
set_option maxRecDepth 100000 in
theorem T_X5_countTrue_19_n {G : xG} {p : Program} {l : Launch} {e : Env} {s : State} {m : MethodId} {args : Array Value} {below : List Frame} {meth : Method} {c : Code} {N : Nat} (C : xCz G p s m args meth c cX5_countTrue 5 vX5_countTrue RX5) (hr : meth.sig.returnType = (some .int)) : ∀ (n : Nat) (x2 : Int32) (x3 : Int32) (x4 : Int32) (h : xHp), J_X5_countTrue G p l e s m args below meth c 19 [(0, .ref (xad G 47)), (2, .int x2), (3, .int x3), (4, .int x4)] [] h (xit (F_X5_countTrue_19_b N) (fun _ _ _ _ => none) n x2 x3 x4 h) := by
  intro n
  induction n with
  | zero => intros; exact x_none
  | succ n ih => intros; exact T_X5_countTrue_19_b C hr ih _ _ _ _
set_option maxHeartbeats 4000000 in
set_option maxRecDepth 100000 in
theorem T_X5_countTrue_19 {G : xG} {p : Program} {l : Launch} {e : Env} {s : State} {m : MethodId} {args : Array Value} {below : List Frame} {meth : Method} {c : Code} {N : Nat} (C : xCz G p s m args meth c cX5_countTrue 5 vX5_countTrue RX5) (hr : meth.sig.returnType = (some .int)) (x2 : Int32) (x3 : Int32) (x4 : Int32) (h : xHp) : J_X5_countTrue G p l e s m args below meth c 19 [(0, .ref (xad G 47)), (2, .int x2), (3, .int x3), (4, .int x4)] [] h (F_X5_countTrue_19 N x2 x3 x4 h) := T_X5_countTrue_19_n C hr N x2 x3 x4 h
set_option maxHeartbeats 4000000 in
set_option maxRecDepth 100000 in
theorem M_X5_countTrue (G : xG) (l : Launch) (N : Nat) (p1 : Int32) (h : xHp) : ∀ r, F_X5_countTrue N p1 h = some r → Met l yX5_countTrue vX5_countTrue ({ frames := 0, cells := 0, slots := 0, locals := 0 } : Room) (xPz G [.ref (xad G 47), .int p1] h) (xQi G r) 0 0 (xA G) := by
  refine z_met (own := RX5) (cc := cX5_countTrue) (maxL := 5) (ret := (some .int)) (lv0 := [(0, .ref (xad G 47)), (1, .int p1)]) (by decide +kernel) rfl rfl (Nat.le_of_ble_eq_true rfl) rfl ?_
  intro p e s m below meth c C hr
  unfold F_X5_countTrue
  refine x_iconst (v := 0) C.1 dX5_countTrue_0 (by decide) ?_
  refine x_istore_n (lv' := [(2, .int 0), (0, .ref (xad G 47)), (1, .int p1)]) C.1 dX5_countTrue_1 rfl (by decide) rfl ?_
  refine x_iconst (v := 1) C.1 dX5_countTrue_2 (by decide) ?_
  refine x_aload_n C.1 dX5_countTrue_3 rfl 1 rfl ?_
  refine x_get (v := .ref (xad G 30)) C.1 3 dX5_countTrue_4 (xc_47 G h) rfl (by decide) rfl (fun w h => List.mem_cons_of_mem _ (iWC_X5 w h)) (by decide) rfl (C.1.2.2.2.2.1 _ (List.mem_cons_of_mem _ qC_286)) ?_
  refine x_get (v := .int (gI h 30 3)) C.1 3 dX5_countTrue_7 (xc_30 G h) rfl (by decide) rfl (fun w h => List.mem_cons_of_mem _ (iWC_X1 w h)) (by decide) rfl (C.1.2.2.2.2.1 _ (List.mem_cons_of_mem _ qC_287)) ?_
  refine x_iconst (v := 1) C.1 dX5_countTrue_10 (by decide) ?_
  refine x_isub C.1 dX5_countTrue_11 ?_
  refine x_iload_n C.1 dX5_countTrue_12 rfl 2 rfl ?_
  refine x_isub C.1 dX5_countTrue_13 ?_
  refine x_ishl C.1 dX5_countTrue_14 ?_
  refine x_istore_n (lv' := [(3, .int (1 <<< ((((gI h 30 3) - 1) - p1) &&& 31))), (2, .int 0), (0, .ref (xad G 47)), (1, .int p1)]) C.1 dX5_countTrue_15 rfl (by decide) rfl ?_
  refine x_iconst (v := 0) C.1 dX5_countTrue_16 (by decide) ?_
  refine x_istore (lv' := [(4, .int 0), (3, .int (1 <<< ((((gI h 30 3) - 1) - p1) &&& 31))), (2, .int 0), (0, .ref (xad G 47)), (1, .int p1)]) C.1 dX5_countTrue_17 (by decide) rfl ?_
  exact x_sub [3, 2, 1, 0] rfl (T_X5_countTrue_19 C hr 0 (1 <<< ((((gI h 30 3) - 1) - p1) &&& 31)) 0 h)
/-! X8_must: 30 instructions -/
abbrev J_X8_must (G : xG) (p : Program) (l : Launch) (e : Env) (s : State) (m : MethodId) (args : Array Value) (below : List Frame) (meth : Method) (c : Code) : Nat → List (Nat × Value) → List Value → xHp → Option (Int32 × xHp) → Prop := xJ G p l e ({ frames := 30, cells := 0, slots := 0, locals := 760 } : Room) s m args below meth c 3 (fun res => MQ below (xQi G res) args s 0 0 (xA G))
def F_X8_must_46 (N : Nat) (h : xHp) : Option (Int32 × xHp) := some ((-1), h)
def F_X8_must_48 (N : Nat) (x2 : Int32) (h : xHp) : Option (Int32 × xHp) := if x2 ≤ 0 then some (0, h) else some (1, h)
def F_X8_must (N : Nat) (p1 : Int32) (h : xHp) : Option (Int32 × xHp) := bnd2 (F_X8_requireAtom N p1 h) fun r1 h2 => bnd2 (F_X5_fill N h2) fun r3 h4 => bnd2 (F_X5_countTrue N p1 h4) fun r5 h6 => if (gI h6 47 1) = 0 then F_X8_must_46 N h6 else if r5 ≤ 0 then F_X8_must_48 N r5 h6 else if (gI h6 47 1) ≤ r5 then F_X8_must_48 N r5 h6 else F_X8_must_46 N h6
set_option maxHeartbeats 4000000 in
set_option maxRecDepth 100000 in
theorem T_X8_must_46 {G : xG} {p : Program} {l : Launch} {e : Env} {s : State} {m : MethodId} {args : Array Value} {below : List Frame} {meth : Method} {c : Code} {N : Nat} (C : xCz G p s m args meth c cX8_must 3 vX8_must RX8) (hr : meth.sig.returnType = (some .int)) (h : xHp) : J_X8_must G p l e s m args below meth c 46 [] [] h (F_X8_must_46 N h) := by
  unfold F_X8_must_46
  refine x_iconst (v := (-1)) C.1 dX8_must_46 (by decide) ?_
  exact x_iret C.1 dX8_must_47 hr
set_option maxHeartbeats 4000000 in
set_option maxRecDepth 100000 in
theorem T_X8_must_48 {G : xG} {p : Program} {l : Launch} {e : Env} {s : State} {m : MethodId} {args : Array Value} {below : List Frame} {meth : Method} {c : Code} {N : Nat} (C : xCz G p s m args meth c cX8_must 3 vX8_must RX8) (hr : meth.sig.returnType = (some .int)) (x2 : Int32) (h : xHp) : J_X8_must G p l e s m args below meth c 48 [(2, .int x2)] [] h (F_X8_must_48 N x2 h) := by
  unfold F_X8_must_48
  refine x_iload_n C.1 dX8_must_48 rfl 0 rfl ?_
  refine x_if_le (tgt := 56) C.1 dX8_must_49 (by decide) ?_ ?_
  · refine x_iconst (v := 0) C.1 dX8_must_56 (by decide) ?_
    exact x_iret C.1 dX8_must_57 hr
  · refine x_iconst (v := 1) C.1 dX8_must_52 (by decide) ?_
    refine x_goto (tgt := 57) C.1 dX8_must_53 (by decide) ?_
    exact x_iret C.1 dX8_must_57 hr
set_option maxHeartbeats 4000000 in
set_option maxRecDepth 100000 in
theorem M_X8_must (G : xG) (l : Launch) (N : Nat) (p1 : Int32) (h : xHp) : ∀ r, F_X8_must N p1 h = some r → Met l yX8_must vX8_must ({ frames := 30, cells := 0, slots := 0, locals := 760 } : Room) (xPz G [.ref (xad G 0), .int p1] h) (xQi G r) 0 0 (xA G) := by
  refine z_met (own := RX8) (cc := cX8_must) (maxL := 3) (ret := (some .int)) (lv0 := [(0, .ref (xad G 0)), (1, .int p1)]) (by decide +kernel) rfl rfl (Nat.le_of_ble_eq_true rfl) rfl ?_
  intro p e s m below meth c C hr
  unfold F_X8_must
  refine x_aload_n C.1 dX8_must_0 rfl 0 rfl ?_
  refine x_iload_n C.1 dX8_must_1 rfl 1 rfl ?_
  refine z_callVv C dX8_must_2 (M_X8_requireAtom G l N p1 h) (cwV 1 C.1.2.2.2.2.1 (gdV gWT (wcWT _ qC_435) (wcWT _ qC_436) (wcWT _ qC_437) (wcWT _ qC_52) (wcWT _ qC_430)) rfl rfl rfl (by decide +kernel) ⟨Nat.le_of_ble_eq_true rfl, Nat.le_of_ble_eq_true rfl⟩) (xc_0 G h) (by decide) rfl rfl rfl (Nat.le_of_ble_eq_true rfl) (fun r1 h2 => ?_)
  refine x_aload_n C.1 dX8_must_5 rfl 0 rfl ?_
  refine x_get (v := .ref (xad G 47)) C.1 12 dX8_must_6 (xc_0 G h2) rfl (by decide) rfl (fun w h => List.mem_cons_of_mem _ (wcWT w (iWC_X8 w h))) (by decide) rfl (C.1.2.2.2.2.1 _ (List.mem_cons_of_mem _ (wcWT _ qC_373))) ?_
  refine z_callVv C dX8_must_9 (M_X5_fill G l N h2) (cwV 0 C.1.2.2.2.2.1 (gdV2 wcWT gWT (wcWT _ qC_439) (wcWT _ qC_440) (wcWT _ qC_441) (wcWT _ qC_295) (wcWT _ qC_311)) rfl rfl rfl (by decide +kernel) ⟨Nat.le_of_ble_eq_true rfl, Nat.le_of_ble_eq_true rfl⟩) (xc_47 G h2) (by decide) rfl rfl rfl (Nat.le_of_ble_eq_true rfl) (fun r3 h4 => ?_)
  refine x_aload_n C.1 dX8_must_12 rfl 0 rfl ?_
  refine x_get (v := .ref (xad G 47)) C.1 12 dX8_must_13 (xc_0 G h4) rfl (by decide) rfl (fun w h => List.mem_cons_of_mem _ (wcWT w (iWC_X8 w h))) (by decide) rfl (C.1.2.2.2.2.1 _ (List.mem_cons_of_mem _ (wcWT _ qC_373))) ?_
  refine x_iload_n C.1 dX8_must_16 rfl 1 rfl ?_
  refine z_callVi C dX8_must_17 (M_X5_countTrue G l N p1 h4) (cwV 1 C.1.2.2.2.2.1 (gdV2 wcWT gWT (wcWT _ qC_456) (wcWT _ qC_457) (wcWT _ qC_458) (wcWT _ qC_295) (wcWT _ qC_312)) rfl rfl rfl (by decide +kernel) ⟨Nat.le_of_ble_eq_true rfl, Nat.le_of_ble_eq_true rfl⟩) (xc_47 G h4) (by decide) rfl rfl rfl (Nat.le_of_ble_eq_true rfl) (fun r5 h6 => ?_)
  refine x_istore_n (lv' := [(2, .int r5), (0, .ref (xad G 0)), (1, .int p1)]) C.1 dX8_must_20 rfl (by decide) rfl ?_
  refine x_aload_n C.1 dX8_must_21 rfl 1 rfl ?_
  refine x_get (v := .ref (xad G 47)) C.1 12 dX8_must_22 (xc_0 G h6) rfl (by decide) rfl (fun w h => List.mem_cons_of_mem _ (wcWT w (iWC_X8 w h))) (by decide) rfl (C.1.2.2.2.2.1 _ (List.mem_cons_of_mem _ (wcWT _ qC_373))) ?_
  refine x_get (v := .int (gI h6 47 1)) C.1 1 dX8_must_25 (xc_47 G h6) rfl (by decide) rfl (fun w h => List.mem_cons_of_mem _ (wcWT w (iWC_X5 w h))) (by decide) rfl (C.1.2.2.2.2.1 _ (List.mem_cons_of_mem _ (wcWT _ qC_438))) ?_
  refine x_if_eq (tgt := 46) C.1 dX8_must_28 (by decide) ?_ ?_
  · exact x_sub [] rfl (T_X8_must_46 C hr h6)
  · refine x_iload_n C.1 dX8_must_31 rfl 0 rfl ?_
    refine x_if_le (tgt := 48) C.1 dX8_must_32 (by decide) ?_ ?_
    · exact x_sub [0] rfl (T_X8_must_48 C hr r5 h6)
    · refine x_iload_n C.1 dX8_must_35 rfl 0 rfl ?_
      refine x_aload_n C.1 dX8_must_36 rfl 1 rfl ?_
      refine x_get (v := .ref (xad G 47)) C.1 12 dX8_must_37 (xc_0 G h6) rfl (by decide) rfl (fun w h => List.mem_cons_of_mem _ (wcWT w (iWC_X8 w h))) (by decide) rfl (C.1.2.2.2.2.1 _ (List.mem_cons_of_mem _ (wcWT _ qC_373))) ?_
      refine x_get (v := .int (gI h6 47 1)) C.1 1 dX8_must_40 (xc_47 G h6) rfl (by decide) rfl (fun w h => List.mem_cons_of_mem _ (wcWT w (iWC_X5 w h))) (by decide) rfl (C.1.2.2.2.2.1 _ (List.mem_cons_of_mem _ (wcWT _ qC_438))) ?_
      refine x_icmp_ge (tgt := 48) C.1 dX8_must_43 (by decide) ?_ ?_
      · exact x_sub [0] rfl (T_X8_must_48 C hr r5 h6)
      · exact x_sub [] rfl (T_X8_must_46 C hr h6)
/-! X8_must_T: 30 instructions -/
abbrev J_X8_must_T (G : xG) (p : Program) (l : Launch) (e : Env) (s : State) (m : MethodId) (args : Array Value) (below : List Frame) (meth : Method) (c : Code) : Nat → List (Nat × Value) → List Value → xHp → Option (Nat × xHp) → Prop := xJ G p l e ({ frames := 30, cells := 1, slots := 6, locals := 760 } : Room) s m args below meth c 3 (fun res => vx_MQ below yNi (xXC G res) args s 1 6 (xA G))
def F_X8_must_T_46 (N : Nat) (h : xHp) : Option (Nat × xHp) := none
def F_X8_must_T_48 (N : Nat) (x2 : Int32) (h : xHp) : Option (Nat × xHp) := if x2 ≤ 0 then none else none
def F_X8_must_T (N : Nat) (p1 : Int32) (h : xHp) : Option (Nat × xHp) := orX (F_X8_requireAtom_T N p1 h) (bnd2 (F_X8_requireAtom N p1 h) fun r1 h2 => bnd2 (F_X5_fill N h2) fun r3 h4 => bnd2 (F_X5_countTrue N p1 h4) fun r5 h6 => if (gI h6 47 1) = 0 then F_X8_must_T_46 N h6 else if r5 ≤ 0 then F_X8_must_T_48 N r5 h6 else if (gI h6 47 1) ≤ r5 then F_X8_must_T_48 N r5 h6 else F_X8_must_T_46 N h6)
set_option maxHeartbeats 4000000 in
set_option maxRecDepth 100000 in
theorem T_X8_must_T_46 {G : xG} {p : Program} {l : Launch} {e : Env} {s : State} {m : MethodId} {args : Array Value} {below : List Frame} {meth : Method} {c : Code} {N : Nat} (C : xCz G p s m args meth c cX8_must 3 vX8_must RX8)  (hlt : l.stackTraces = false) (hex : ∀ x ∈ c.exceptionTable.toList, False) (h : xHp) : J_X8_must_T G p l e s m args below meth c 46 [] [] h (F_X8_must_T_46 N h) := by
  unfold F_X8_must_T_46
  refine x_iconst (v := (-1)) C.1 dX8_must_46 (by decide) ?_
  exact x_none
set_option maxHeartbeats 4000000 in
set_option maxRecDepth 100000 in
theorem T_X8_must_T_48 {G : xG} {p : Program} {l : Launch} {e : Env} {s : State} {m : MethodId} {args : Array Value} {below : List Frame} {meth : Method} {c : Code} {N : Nat} (C : xCz G p s m args meth c cX8_must 3 vX8_must RX8)  (hlt : l.stackTraces = false) (hex : ∀ x ∈ c.exceptionTable.toList, False) (x2 : Int32) (h : xHp) : J_X8_must_T G p l e s m args below meth c 48 [(2, .int x2)] [] h (F_X8_must_T_48 N x2 h) := by
  unfold F_X8_must_T_48
  refine x_iload_n C.1 dX8_must_48 rfl 0 rfl ?_
  refine x_if_le (tgt := 56) C.1 dX8_must_49 (by decide) ?_ ?_
  · refine x_iconst (v := 0) C.1 dX8_must_56 (by decide) ?_
    exact x_none
  · refine x_iconst (v := 1) C.1 dX8_must_52 (by decide) ?_
    refine x_goto (tgt := 57) C.1 dX8_must_53 (by decide) ?_
    exact x_none
set_option maxHeartbeats 4000000 in
set_option maxRecDepth 100000 in
theorem M_X8_must_T (G : xG) (l : Launch) (hlt : l.stackTraces = false) (N : Nat) (p1 : Int32) (h : xHp) : ∀ r, F_X8_must_T N p1 h = some r → vx_Met l yX8_must vX8_must ({ frames := 30, cells := 1, slots := 6, locals := 760 } : Room) (xPz G [.ref (xad G 0), .int p1] h) yNi (xXC G r) 1 6 (xA G) := by
  refine y_met (own := RX8) (cc := cX8_must) (maxL := 3) (ret := (some .int)) (lv0 := [(0, .ref (xad G 0)), (1, .int p1)]) (by decide +kernel) rfl rfl (Nat.le_of_ble_eq_true rfl) rfl ?_
  intro p e s m below meth c C hex
  unfold F_X8_must_T
  refine x_aload_n C.1 dX8_must_0 rfl 0 rfl ?_
  refine x_iload_n C.1 dX8_must_1 rfl 1 rfl ?_
  refine y_callVv C hex dX8_must_2 (M_X8_requireAtom_T G l hlt N p1 h) (cwV 1 C.1.2.2.2.2.1 (gdV gWT (wcWT _ qC_435) (wcWT _ qC_436) (wcWT _ qC_437) (wcWT _ qC_52) (wcWT _ qC_430)) rfl rfl rfl (by decide +kernel) ⟨Nat.le_of_ble_eq_true rfl, Nat.le_of_ble_eq_true rfl⟩) (xc_0 G h) (by decide) rfl rfl rfl (Nat.le_of_ble_eq_true rfl) (by decide) (by decide) ?_
  refine z_callVv C dX8_must_2 (M_X8_requireAtom G l N p1 h) (cwV 1 C.1.2.2.2.2.1 (gdV gWT (wcWT _ qC_435) (wcWT _ qC_436) (wcWT _ qC_437) (wcWT _ qC_52) (wcWT _ qC_430)) rfl rfl rfl (by decide +kernel) ⟨Nat.le_of_ble_eq_true rfl, Nat.le_of_ble_eq_true rfl⟩) (xc_0 G h) (by decide) rfl rfl rfl (Nat.le_of_ble_eq_true rfl) (fun r1 h2 => ?_)
  refine x_aload_n C.1 dX8_must_5 rfl 0 rfl ?_
  refine x_get (v := .ref (xad G 47)) C.1 12 dX8_must_6 (xc_0 G h2) rfl (by decide) rfl (fun w h => List.mem_cons_of_mem _ (wcWT w (iWC_X8 w h))) (by decide) rfl (C.1.2.2.2.2.1 _ (List.mem_cons_of_mem _ (wcWT _ qC_373))) ?_
  refine z_callVv C dX8_must_9 (M_X5_fill G l N h2) (cwV 0 C.1.2.2.2.2.1 (gdV2 wcWT gWT (wcWT _ qC_439) (wcWT _ qC_440) (wcWT _ qC_441) (wcWT _ qC_295) (wcWT _ qC_311)) rfl rfl rfl (by decide +kernel) ⟨Nat.le_of_ble_eq_true rfl, Nat.le_of_ble_eq_true rfl⟩) (xc_47 G h2) (by decide) rfl rfl rfl (Nat.le_of_ble_eq_true rfl) (fun r3 h4 => ?_)
  refine x_aload_n C.1 dX8_must_12 rfl 0 rfl ?_
  refine x_get (v := .ref (xad G 47)) C.1 12 dX8_must_13 (xc_0 G h4) rfl (by decide) rfl (fun w h => List.mem_cons_of_mem _ (wcWT w (iWC_X8 w h))) (by decide) rfl (C.1.2.2.2.2.1 _ (List.mem_cons_of_mem _ (wcWT _ qC_373))) ?_
  refine x_iload_n C.1 dX8_must_16 rfl 1 rfl ?_
  refine z_callVi C dX8_must_17 (M_X5_countTrue G l N p1 h4) (cwV 1 C.1.2.2.2.2.1 (gdV2 wcWT gWT (wcWT _ qC_456) (wcWT _ qC_457) (wcWT _ qC_458) (wcWT _ qC_295) (wcWT _ qC_312)) rfl rfl rfl (by decide +kernel) ⟨Nat.le_of_ble_eq_true rfl, Nat.le_of_ble_eq_true rfl⟩) (xc_47 G h4) (by decide) rfl rfl rfl (Nat.le_of_ble_eq_true rfl) (fun r5 h6 => ?_)
  refine x_istore_n (lv' := [(2, .int r5), (0, .ref (xad G 0)), (1, .int p1)]) C.1 dX8_must_20 rfl (by decide) rfl ?_
  refine x_aload_n C.1 dX8_must_21 rfl 1 rfl ?_
  refine x_get (v := .ref (xad G 47)) C.1 12 dX8_must_22 (xc_0 G h6) rfl (by decide) rfl (fun w h => List.mem_cons_of_mem _ (wcWT w (iWC_X8 w h))) (by decide) rfl (C.1.2.2.2.2.1 _ (List.mem_cons_of_mem _ (wcWT _ qC_373))) ?_
  refine x_get (v := .int (gI h6 47 1)) C.1 1 dX8_must_25 (xc_47 G h6) rfl (by decide) rfl (fun w h => List.mem_cons_of_mem _ (wcWT w (iWC_X5 w h))) (by decide) rfl (C.1.2.2.2.2.1 _ (List.mem_cons_of_mem _ (wcWT _ qC_438))) ?_
  refine x_if_eq (tgt := 46) C.1 dX8_must_28 (by decide) ?_ ?_
  · exact x_sub [] rfl (T_X8_must_T_46 C hlt hex h6)
  · refine x_iload_n C.1 dX8_must_31 rfl 0 rfl ?_
    refine x_if_le (tgt := 48) C.1 dX8_must_32 (by decide) ?_ ?_
    · exact x_sub [0] rfl (T_X8_must_T_48 C hlt hex r5 h6)
    · refine x_iload_n C.1 dX8_must_35 rfl 0 rfl ?_
      refine x_aload_n C.1 dX8_must_36 rfl 1 rfl ?_
      refine x_get (v := .ref (xad G 47)) C.1 12 dX8_must_37 (xc_0 G h6) rfl (by decide) rfl (fun w h => List.mem_cons_of_mem _ (wcWT w (iWC_X8 w h))) (by decide) rfl (C.1.2.2.2.2.1 _ (List.mem_cons_of_mem _ (wcWT _ qC_373))) ?_
      refine x_get (v := .int (gI h6 47 1)) C.1 1 dX8_must_40 (xc_47 G h6) rfl (by decide) rfl (fun w h => List.mem_cons_of_mem _ (wcWT w (iWC_X5 w h))) (by decide) rfl (C.1.2.2.2.2.1 _ (List.mem_cons_of_mem _ (wcWT _ qC_438))) ?_
      refine x_icmp_ge (tgt := 48) C.1 dX8_must_43 (by decide) ?_ ?_
      · exact x_sub [0] rfl (T_X8_must_T_48 C hlt hex r5 h6)
      · exact x_sub [] rfl (T_X8_must_T_46 C hlt hex h6)
/-! X8_pop: 35 instructions -/
abbrev J_X8_pop (G : xG) (p : Program) (l : Launch) (e : Env) (s : State) (m : MethodId) (args : Array Value) (below : List Frame) (meth : Method) (c : Code) : Nat → List (Nat × Value) → List Value → xHp → Option (Int32 × xHp) → Prop := xJ G p l e ({ frames := 1, cells := 0, slots := 0, locals := 21 } : Room) s m args below meth c 2 (fun res => MQ below (xQi G res) args s 0 0 (xA G))
def F_X8_pop_12 (N : Nat) (h : xHp) : Option (Int32 × xHp) := none
def F_X8_pop_60 (N : Nat) (h : xHp) : Option (Int32 × xHp) := some ((gI h 1 3), h)
def F_X8_pop (N : Nat) (p1 : Int32) (h : xHp) : Option (Int32 × xHp) := if p1 < 0 then F_X8_pop_12 N h else if p1 ≤ (gI h 0 2) then if p1 ≤ 0 then F_X8_pop_60 N h else bnd (sI h 0 2 ((gI h 0 2) - p1)) fun h1 => grd (xin (gI h1 0 2) 20) (bnd2 (F_X2_cutTo N (gI h1 24 (gI h1 0 2).toNatClampNeg) h1) fun r2 h3 => bnd (sI h3 47 2 0) fun h4 => F_X8_pop_60 N h4) else F_X8_pop_12 N h
set_option maxHeartbeats 4000000 in
set_option maxRecDepth 100000 in
theorem T_X8_pop_12 {G : xG} {p : Program} {l : Launch} {e : Env} {s : State} {m : MethodId} {args : Array Value} {below : List Frame} {meth : Method} {c : Code} {N : Nat} (C : xCz G p s m args meth c cX8_pop 2 vX8_pop RX8) (hr : meth.sig.returnType = (some .int)) (h : xHp) : J_X8_pop G p l e s m args below meth c 12 [] [] h (F_X8_pop_12 N h) := by
  unfold F_X8_pop_12
  exact x_none
set_option maxHeartbeats 4000000 in
set_option maxRecDepth 100000 in
theorem T_X8_pop_60 {G : xG} {p : Program} {l : Launch} {e : Env} {s : State} {m : MethodId} {args : Array Value} {below : List Frame} {meth : Method} {c : Code} {N : Nat} (C : xCz G p s m args meth c cX8_pop 2 vX8_pop RX8) (hr : meth.sig.returnType = (some .int)) (h : xHp) : J_X8_pop G p l e s m args below meth c 60 [(0, .ref (xad G 0))] [] h (F_X8_pop_60 N h) := by
  unfold F_X8_pop_60
  refine x_aload_n C.1 dX8_pop_60 rfl 0 rfl ?_
  refine x_get (v := .ref (xad G 1)) C.1 0 dX8_pop_61 (xc_0 G h) rfl (by decide) rfl (fun w h => List.mem_cons_of_mem _ (wcWT w (iWC_X8 w h))) (by decide) rfl (C.1.2.2.2.2.1 _ (List.mem_cons_of_mem _ (wcWT _ qC_363))) ?_
  refine x_get (v := .int (gI h 1 3)) C.1 3 dX8_pop_64 (xc_1 G h) rfl (by decide) rfl (fun w h => List.mem_cons_of_mem _ (wcWT w (iWC_X2 w h))) (by decide) rfl (C.1.2.2.2.2.1 _ (List.mem_cons_of_mem _ (wcWT _ qC_372))) ?_
  exact x_iret C.1 dX8_pop_67 hr
set_option maxHeartbeats 4000000 in
set_option maxRecDepth 100000 in
theorem M_X8_pop (G : xG) (l : Launch) (N : Nat) (p1 : Int32) (h : xHp) : ∀ r, F_X8_pop N p1 h = some r → Met l yX8_pop vX8_pop ({ frames := 1, cells := 0, slots := 0, locals := 21 } : Room) (xPz G [.ref (xad G 0), .int p1] h) (xQi G r) 0 0 (xA G) := by
  refine z_met (own := RX8) (cc := cX8_pop) (maxL := 2) (ret := (some .int)) (lv0 := [(0, .ref (xad G 0)), (1, .int p1)]) (by decide +kernel) rfl rfl (Nat.le_of_ble_eq_true rfl) rfl ?_
  intro p e s m below meth c C hr
  unfold F_X8_pop
  refine x_iload_n C.1 dX8_pop_0 rfl 1 rfl ?_
  refine x_if_lt (tgt := 12) C.1 dX8_pop_1 (by decide) ?_ ?_
  · exact x_sub [] rfl (T_X8_pop_12 C hr h)
  · refine x_iload_n C.1 dX8_pop_4 rfl 1 rfl ?_
    refine x_aload_n C.1 dX8_pop_5 rfl 0 rfl ?_
    refine x_get (v := .int (gI h 0 2)) C.1 2 dX8_pop_6 (xc_0 G h) rfl (by decide) rfl (fun w h => List.mem_cons_of_mem _ (wcWT w (iWC_X8 w h))) (by decide) rfl (C.1.2.2.2.2.1 _ (List.mem_cons_of_mem _ (wcWT _ qC_385))) ?_
    refine x_icmp_le (tgt := 22) C.1 dX8_pop_9 (by decide) ?_ ?_
    · refine x_iload_n C.1 dX8_pop_22 rfl 1 rfl ?_
      refine x_if_le (tgt := 60) C.1 dX8_pop_23 (by decide) ?_ ?_
      · exact x_sub [0] rfl (T_X8_pop_60 C hr h)
      · refine x_aload_n C.1 dX8_pop_26 rfl 0 rfl ?_
        refine x_dup C.1 dX8_pop_27 rfl ?_
        refine x_get (v := .int (gI h 0 2)) C.1 2 dX8_pop_28 (xc_0 G h) rfl (by decide) rfl (fun w h => List.mem_cons_of_mem _ (wcWT w (iWC_X8 w h))) (by decide) rfl (C.1.2.2.2.2.1 _ (List.mem_cons_of_mem _ (wcWT _ qC_385))) ?_
        refine x_iload_n C.1 dX8_pop_31 rfl 1 rfl ?_
        refine x_isub C.1 dX8_pop_32 ?_
        refine x_putI (ty0 := tyX8) (ty := .int) C.1 2 dX8_pop_33 (xc_0 G h) rfl (Nat.le_of_ble_eq_true rfl) (by decide) rfl (fun w h => List.mem_cons_of_mem _ (wcWT w (iWC_X8 w h))) tyX8_ok nmX8 (by decide) rfl rfl (by decide +kernel) rfl rfl (C.1.2.2.2.2.1 _ (List.mem_cons_of_mem _ (wcWT _ qC_385))) (fun h1 => ?_)
        refine x_aload_n C.1 dX8_pop_36 rfl 0 rfl ?_
        refine x_get (v := .ref (xad G 1)) C.1 0 dX8_pop_37 (xc_0 G h1) rfl (by decide) rfl (fun w h => List.mem_cons_of_mem _ (wcWT w (iWC_X8 w h))) (by decide) rfl (C.1.2.2.2.2.1 _ (List.mem_cons_of_mem _ (wcWT _ qC_363))) ?_
        refine x_aload_n C.1 dX8_pop_40 rfl 0 rfl ?_
        refine x_get (v := .ref (xad G 24)) C.1 1 dX8_pop_41 (xc_0 G h1) rfl (by decide) rfl (fun w h => List.mem_cons_of_mem _ (wcWT w (iWC_X8 w h))) (by decide) rfl (C.1.2.2.2.2.1 _ (List.mem_cons_of_mem _ (wcWT _ qC_386))) ?_
        refine x_aload_n C.1 dX8_pop_44 rfl 0 rfl ?_
        refine x_get (v := .int (gI h1 0 2)) C.1 2 dX8_pop_45 (xc_0 G h1) rfl (by decide) rfl (fun w h => List.mem_cons_of_mem _ (wcWT w (iWC_X8 w h))) (by decide) rfl (C.1.2.2.2.2.1 _ (List.mem_cons_of_mem _ (wcWT _ qC_385))) ?_
        refine x_iald (n := 20) C.1 dX8_pop_48 (xc_24 G h1) (by decide) ?_
        refine z_callVv C dX8_pop_49 (M_X2_cutTo G l N (gI h1 24 (gI h1 0 2).toNatClampNeg) h1) (cwV 1 C.1.2.2.2.2.1 (gdV2 wcWT gWT (wcWT _ qC_388) (wcWT _ qC_306) (wcWT _ qC_307) (wcWT _ qC_144) (wcWT _ qC_165)) rfl rfl rfl (by decide +kernel) ⟨Nat.le_of_ble_eq_true rfl, Nat.le_of_ble_eq_true rfl⟩) (xc_1 G h1) (by decide) rfl rfl rfl (Nat.le_of_ble_eq_true rfl) (fun r2 h3 => ?_)
        refine x_aload_n C.1 dX8_pop_52 rfl 0 rfl ?_
        refine x_get (v := .ref (xad G 47)) C.1 12 dX8_pop_53 (xc_0 G h3) rfl (by decide) rfl (fun w h => List.mem_cons_of_mem _ (wcWT w (iWC_X8 w h))) (by decide) rfl (C.1.2.2.2.2.1 _ (List.mem_cons_of_mem _ (wcWT _ qC_373))) ?_
        refine x_iconst (v := 0) C.1 dX8_pop_56 (by decide) ?_
        refine x_putI (ty0 := tyX5) (ty := .boolean) C.1 2 dX8_pop_57 (xc_47 G h3) rfl (Nat.le_of_ble_eq_true rfl) (by decide) rfl (fun w h => List.mem_cons_of_mem _ (wcWT w (iWC_X5 w h))) tyX5_ok nmX5 (by decide) rfl rfl (by decide +kernel) rfl rfl (C.1.2.2.2.2.1 _ (List.mem_cons_of_mem _ (wcWT _ qC_374))) (fun h4 => ?_)
        exact x_sub [0] rfl (T_X8_pop_60 C hr h4)
    · exact x_sub [] rfl (T_X8_pop_12 C hr h)
/-! X8_pop_T: 35 instructions -/
abbrev J_X8_pop_T (G : xG) (p : Program) (l : Launch) (e : Env) (s : State) (m : MethodId) (args : Array Value) (below : List Frame) (meth : Method) (c : Code) : Nat → List (Nat × Value) → List Value → xHp → Option (Nat × xHp) → Prop := xJ G p l e ({ frames := 6, cells := 1, slots := 6, locals := 100 } : Room) s m args below meth c 2 (fun res => vx_MQ below yNi (xXC G res) args s 1 6 (xA G))
def F_X8_pop_T_12 (N : Nat) (h : xHp) : Option (Nat × xHp) := some (2, h)
def F_X8_pop_T_60 (N : Nat) (h : xHp) : Option (Nat × xHp) := none
def F_X8_pop_T (N : Nat) (p1 : Int32) (h : xHp) : Option (Nat × xHp) := if p1 < 0 then F_X8_pop_T_12 N h else if p1 ≤ (gI h 0 2) then if p1 ≤ 0 then F_X8_pop_T_60 N h else bnd (sI h 0 2 ((gI h 0 2) - p1)) fun h1 => grd (xin (gI h1 0 2) 20) (bnd2 (F_X2_cutTo N (gI h1 24 (gI h1 0 2).toNatClampNeg) h1) fun r2 h3 => bnd (sI h3 47 2 0) fun h4 => F_X8_pop_T_60 N h4) else F_X8_pop_T_12 N h
set_option maxHeartbeats 4000000 in
set_option maxRecDepth 100000 in
theorem T_X8_pop_T_12 {G : xG} {p : Program} {l : Launch} {e : Env} {s : State} {m : MethodId} {args : Array Value} {below : List Frame} {meth : Method} {c : Code} {N : Nat} (C : xCz G p s m args meth c cX8_pop 2 vX8_pop RX8)  (hlt : l.stackTraces = false) (hex : ∀ x ∈ c.exceptionTable.toList, False) (h : xHp) : J_X8_pop_T G p l e s m args below meth c 12 [] [] h (F_X8_pop_T_12 N h) := by
  unfold F_X8_pop_T_12
  obtain ⟨sa, hsa⟩ := C.2.2.2.2.2.1.2.2.2.1
  exact y_throw_2 C hlt hex hsa dX8_pop_12 dX8_pop_15 dX8_pop_16 dX8_pop_18 dX8_pop_21 (by decide) (by decide) (by decide) (by decide)
set_option maxHeartbeats 4000000 in
set_option maxRecDepth 100000 in
theorem T_X8_pop_T_60 {G : xG} {p : Program} {l : Launch} {e : Env} {s : State} {m : MethodId} {args : Array Value} {below : List Frame} {meth : Method} {c : Code} {N : Nat} (C : xCz G p s m args meth c cX8_pop 2 vX8_pop RX8)  (hlt : l.stackTraces = false) (hex : ∀ x ∈ c.exceptionTable.toList, False) (h : xHp) : J_X8_pop_T G p l e s m args below meth c 60 [(0, .ref (xad G 0))] [] h (F_X8_pop_T_60 N h) := by
  unfold F_X8_pop_T_60
  refine x_aload_n C.1 dX8_pop_60 rfl 0 rfl ?_
  refine x_get (v := .ref (xad G 1)) C.1 0 dX8_pop_61 (xc_0 G h) rfl (by decide) rfl (fun w h => List.mem_cons_of_mem _ (wcWT w (iWC_X8 w h))) (by decide) rfl (C.1.2.2.2.2.1 _ (List.mem_cons_of_mem _ (wcWT _ qC_363))) ?_
  refine x_get (v := .int (gI h 1 3)) C.1 3 dX8_pop_64 (xc_1 G h) rfl (by decide) rfl (fun w h => List.mem_cons_of_mem _ (wcWT w (iWC_X2 w h))) (by decide) rfl (C.1.2.2.2.2.1 _ (List.mem_cons_of_mem _ (wcWT _ qC_372))) ?_
  exact x_none
set_option maxHeartbeats 4000000 in
set_option maxRecDepth 100000 in
theorem M_X8_pop_T (G : xG) (l : Launch) (hlt : l.stackTraces = false) (N : Nat) (p1 : Int32) (h : xHp) : ∀ r, F_X8_pop_T N p1 h = some r → vx_Met l yX8_pop vX8_pop ({ frames := 6, cells := 1, slots := 6, locals := 100 } : Room) (xPz G [.ref (xad G 0), .int p1] h) yNi (xXC G r) 1 6 (xA G) := by
  refine y_met (own := RX8) (cc := cX8_pop) (maxL := 2) (ret := (some .int)) (lv0 := [(0, .ref (xad G 0)), (1, .int p1)]) (by decide +kernel) rfl rfl (Nat.le_of_ble_eq_true rfl) rfl ?_
  intro p e s m below meth c C hex
  unfold F_X8_pop_T
  refine x_iload_n C.1 dX8_pop_0 rfl 1 rfl ?_
  refine x_if_lt (tgt := 12) C.1 dX8_pop_1 (by decide) ?_ ?_
  · exact x_sub [] rfl (T_X8_pop_T_12 C hlt hex h)
  · refine x_iload_n C.1 dX8_pop_4 rfl 1 rfl ?_
    refine x_aload_n C.1 dX8_pop_5 rfl 0 rfl ?_
    refine x_get (v := .int (gI h 0 2)) C.1 2 dX8_pop_6 (xc_0 G h) rfl (by decide) rfl (fun w h => List.mem_cons_of_mem _ (wcWT w (iWC_X8 w h))) (by decide) rfl (C.1.2.2.2.2.1 _ (List.mem_cons_of_mem _ (wcWT _ qC_385))) ?_
    refine x_icmp_le (tgt := 22) C.1 dX8_pop_9 (by decide) ?_ ?_
    · refine x_iload_n C.1 dX8_pop_22 rfl 1 rfl ?_
      refine x_if_le (tgt := 60) C.1 dX8_pop_23 (by decide) ?_ ?_
      · exact x_sub [0] rfl (T_X8_pop_T_60 C hlt hex h)
      · refine x_aload_n C.1 dX8_pop_26 rfl 0 rfl ?_
        refine x_dup C.1 dX8_pop_27 rfl ?_
        refine x_get (v := .int (gI h 0 2)) C.1 2 dX8_pop_28 (xc_0 G h) rfl (by decide) rfl (fun w h => List.mem_cons_of_mem _ (wcWT w (iWC_X8 w h))) (by decide) rfl (C.1.2.2.2.2.1 _ (List.mem_cons_of_mem _ (wcWT _ qC_385))) ?_
        refine x_iload_n C.1 dX8_pop_31 rfl 1 rfl ?_
        refine x_isub C.1 dX8_pop_32 ?_
        refine x_putI (ty0 := tyX8) (ty := .int) C.1 2 dX8_pop_33 (xc_0 G h) rfl (Nat.le_of_ble_eq_true rfl) (by decide) rfl (fun w h => List.mem_cons_of_mem _ (wcWT w (iWC_X8 w h))) tyX8_ok nmX8 (by decide) rfl rfl (by decide +kernel) rfl rfl (C.1.2.2.2.2.1 _ (List.mem_cons_of_mem _ (wcWT _ qC_385))) (fun h1 => ?_)
        refine x_aload_n C.1 dX8_pop_36 rfl 0 rfl ?_
        refine x_get (v := .ref (xad G 1)) C.1 0 dX8_pop_37 (xc_0 G h1) rfl (by decide) rfl (fun w h => List.mem_cons_of_mem _ (wcWT w (iWC_X8 w h))) (by decide) rfl (C.1.2.2.2.2.1 _ (List.mem_cons_of_mem _ (wcWT _ qC_363))) ?_
        refine x_aload_n C.1 dX8_pop_40 rfl 0 rfl ?_
        refine x_get (v := .ref (xad G 24)) C.1 1 dX8_pop_41 (xc_0 G h1) rfl (by decide) rfl (fun w h => List.mem_cons_of_mem _ (wcWT w (iWC_X8 w h))) (by decide) rfl (C.1.2.2.2.2.1 _ (List.mem_cons_of_mem _ (wcWT _ qC_386))) ?_
        refine x_aload_n C.1 dX8_pop_44 rfl 0 rfl ?_
        refine x_get (v := .int (gI h1 0 2)) C.1 2 dX8_pop_45 (xc_0 G h1) rfl (by decide) rfl (fun w h => List.mem_cons_of_mem _ (wcWT w (iWC_X8 w h))) (by decide) rfl (C.1.2.2.2.2.1 _ (List.mem_cons_of_mem _ (wcWT _ qC_385))) ?_
        refine x_iald (n := 20) C.1 dX8_pop_48 (xc_24 G h1) (by decide) ?_
        refine z_callVv C dX8_pop_49 (M_X2_cutTo G l N (gI h1 24 (gI h1 0 2).toNatClampNeg) h1) (cwV 1 C.1.2.2.2.2.1 (gdV2 wcWT gWT (wcWT _ qC_388) (wcWT _ qC_306) (wcWT _ qC_307) (wcWT _ qC_144) (wcWT _ qC_165)) rfl rfl rfl (by decide +kernel) ⟨Nat.le_of_ble_eq_true rfl, Nat.le_of_ble_eq_true rfl⟩) (xc_1 G h1) (by decide) rfl rfl rfl (Nat.le_of_ble_eq_true rfl) (fun r2 h3 => ?_)
        refine x_aload_n C.1 dX8_pop_52 rfl 0 rfl ?_
        refine x_get (v := .ref (xad G 47)) C.1 12 dX8_pop_53 (xc_0 G h3) rfl (by decide) rfl (fun w h => List.mem_cons_of_mem _ (wcWT w (iWC_X8 w h))) (by decide) rfl (C.1.2.2.2.2.1 _ (List.mem_cons_of_mem _ (wcWT _ qC_373))) ?_
        refine x_iconst (v := 0) C.1 dX8_pop_56 (by decide) ?_
        refine x_putI (ty0 := tyX5) (ty := .boolean) C.1 2 dX8_pop_57 (xc_47 G h3) rfl (Nat.le_of_ble_eq_true rfl) (by decide) rfl (fun w h => List.mem_cons_of_mem _ (wcWT w (iWC_X5 w h))) tyX5_ok nmX5 (by decide) rfl rfl (by decide +kernel) rfl rfl (C.1.2.2.2.2.1 _ (List.mem_cons_of_mem _ (wcWT _ qC_374))) (fun h4 => ?_)
        exact x_sub [0] rfl (T_X8_pop_T_60 C hlt hex h4)
    · exact x_sub [] rfl (T_X8_pop_T_12 C hlt hex h)
/-! X8_push: 26 instructions -/
abbrev J_X8_push (G : xG) (p : Program) (l : Launch) (e : Env) (s : State) (m : MethodId) (args : Array Value) (below : List Frame) (meth : Method) (c : Code) : Nat → List (Nat × Value) → List Value → xHp → Option (Int32 × xHp) → Prop := xJ G p l e ({ frames := 0, cells := 0, slots := 0, locals := 0 } : Room) s m args below meth c 1 (fun res => MQ below (xQi G res) args s 0 0 (xA G))
def F_X8_push (N : Nat) (h : xHp) : Option (Int32 × xHp) := if (gI h 0 2) < 20 then grd (xin (gI h 0 2) 20) (bnd (sI h 24 (gI h 0 2).toNatClampNeg (gI h 1 3)) fun h1 => bnd (sI h1 0 2 ((gI h1 0 2) + 1)) fun h2 => some ((gI h2 0 2), h2)) else none
set_option maxHeartbeats 4000000 in
set_option maxRecDepth 100000 in
theorem M_X8_push (G : xG) (l : Launch) (N : Nat) (h : xHp) : ∀ r, F_X8_push N h = some r → Met l yX8_push vX8_push ({ frames := 0, cells := 0, slots := 0, locals := 0 } : Room) (xPz G [.ref (xad G 0)] h) (xQi G r) 0 0 (xA G) := by
  refine z_met (own := RX8) (cc := cX8_push) (maxL := 1) (ret := (some .int)) (lv0 := [(0, .ref (xad G 0))]) (by decide +kernel) rfl rfl (Nat.le_of_ble_eq_true rfl) rfl ?_
  intro p e s m below meth c C hr
  unfold F_X8_push
  refine x_aload_n C.1 dX8_push_0 rfl 0 rfl ?_
  refine x_get (v := .int (gI h 0 2)) C.1 2 dX8_push_1 (xc_0 G h) rfl (by decide) rfl (fun w h => List.mem_cons_of_mem _ (wcWT w (iWC_X8 w h))) (by decide) rfl (C.1.2.2.2.2.1 _ (List.mem_cons_of_mem _ (wcWT _ qC_385))) ?_
  refine x_bipush (v := 20) C.1 dX8_push_4 (by decide) ?_
  refine x_icmp_lt (tgt := 19) C.1 dX8_push_6 (by decide) ?_ ?_
  · refine x_aload_n C.1 dX8_push_19 rfl 0 rfl ?_
    refine x_get (v := .ref (xad G 24)) C.1 1 dX8_push_20 (xc_0 G h) rfl (by decide) rfl (fun w h => List.mem_cons_of_mem _ (wcWT w (iWC_X8 w h))) (by decide) rfl (C.1.2.2.2.2.1 _ (List.mem_cons_of_mem _ (wcWT _ qC_386))) ?_
    refine x_aload_n C.1 dX8_push_23 rfl 0 rfl ?_
    refine x_get (v := .int (gI h 0 2)) C.1 2 dX8_push_24 (xc_0 G h) rfl (by decide) rfl (fun w h => List.mem_cons_of_mem _ (wcWT w (iWC_X8 w h))) (by decide) rfl (C.1.2.2.2.2.1 _ (List.mem_cons_of_mem _ (wcWT _ qC_385))) ?_
    refine x_aload_n C.1 dX8_push_27 rfl 0 rfl ?_
    refine x_get (v := .ref (xad G 1)) C.1 0 dX8_push_28 (xc_0 G h) rfl (by decide) rfl (fun w h => List.mem_cons_of_mem _ (wcWT w (iWC_X8 w h))) (by decide) rfl (C.1.2.2.2.2.1 _ (List.mem_cons_of_mem _ (wcWT _ qC_363))) ?_
    refine x_get (v := .int (gI h 1 3)) C.1 3 dX8_push_31 (xc_1 G h) rfl (by decide) rfl (fun w h => List.mem_cons_of_mem _ (wcWT w (iWC_X2 w h))) (by decide) rfl (C.1.2.2.2.2.1 _ (List.mem_cons_of_mem _ (wcWT _ qC_372))) ?_
    refine x_iast (n := 20) C.1 dX8_push_34 (fun g => xp_24 G g _ _) (by decide) (fun h1 => ?_)
    refine x_aload_n C.1 dX8_push_35 rfl 0 rfl ?_
    refine x_dup C.1 dX8_push_36 rfl ?_
    refine x_get (v := .int (gI h1 0 2)) C.1 2 dX8_push_37 (xc_0 G h1) rfl (by decide) rfl (fun w h => List.mem_cons_of_mem _ (wcWT w (iWC_X8 w h))) (by decide) rfl (C.1.2.2.2.2.1 _ (List.mem_cons_of_mem _ (wcWT _ qC_385))) ?_
    refine x_iconst (v := 1) C.1 dX8_push_40 (by decide) ?_
    refine x_iadd C.1 dX8_push_41 ?_
    refine x_putI (ty0 := tyX8) (ty := .int) C.1 2 dX8_push_42 (xc_0 G h1) rfl (Nat.le_of_ble_eq_true rfl) (by decide) rfl (fun w h => List.mem_cons_of_mem _ (wcWT w (iWC_X8 w h))) tyX8_ok nmX8 (by decide) rfl rfl (by decide +kernel) rfl rfl (C.1.2.2.2.2.1 _ (List.mem_cons_of_mem _ (wcWT _ qC_385))) (fun h2 => ?_)
    refine x_aload_n C.1 dX8_push_45 rfl 0 rfl ?_
    refine x_get (v := .int (gI h2 0 2)) C.1 2 dX8_push_46 (xc_0 G h2) rfl (by decide) rfl (fun w h => List.mem_cons_of_mem _ (wcWT w (iWC_X8 w h))) (by decide) rfl (C.1.2.2.2.2.1 _ (List.mem_cons_of_mem _ (wcWT _ qC_385))) ?_
    exact x_iret C.1 dX8_push_49 hr
  · exact x_none
/-! X8_push_T: 26 instructions -/
abbrev J_X8_push_T (G : xG) (p : Program) (l : Launch) (e : Env) (s : State) (m : MethodId) (args : Array Value) (below : List Frame) (meth : Method) (c : Code) : Nat → List (Nat × Value) → List Value → xHp → Option (Nat × xHp) → Prop := xJ G p l e ({ frames := 6, cells := 1, slots := 6, locals := 100 } : Room) s m args below meth c 1 (fun res => vx_MQ below yNi (xXC G res) args s 1 6 (xA G))
def F_X8_push_T (N : Nat) (h : xHp) : Option (Nat × xHp) := if (gI h 0 2) < 20 then grd (xin (gI h 0 2) 20) (bnd (sI h 24 (gI h 0 2).toNatClampNeg (gI h 1 3)) fun h1 => bnd (sI h1 0 2 ((gI h1 0 2) + 1)) fun h2 => none) else some (3, h)
set_option maxHeartbeats 4000000 in
set_option maxRecDepth 100000 in
theorem M_X8_push_T (G : xG) (l : Launch) (hlt : l.stackTraces = false) (N : Nat) (h : xHp) : ∀ r, F_X8_push_T N h = some r → vx_Met l yX8_push vX8_push ({ frames := 6, cells := 1, slots := 6, locals := 100 } : Room) (xPz G [.ref (xad G 0)] h) yNi (xXC G r) 1 6 (xA G) := by
  refine y_met (own := RX8) (cc := cX8_push) (maxL := 1) (ret := (some .int)) (lv0 := [(0, .ref (xad G 0))]) (by decide +kernel) rfl rfl (Nat.le_of_ble_eq_true rfl) rfl ?_
  intro p e s m below meth c C hex
  unfold F_X8_push_T
  refine x_aload_n C.1 dX8_push_0 rfl 0 rfl ?_
  refine x_get (v := .int (gI h 0 2)) C.1 2 dX8_push_1 (xc_0 G h) rfl (by decide) rfl (fun w h => List.mem_cons_of_mem _ (wcWT w (iWC_X8 w h))) (by decide) rfl (C.1.2.2.2.2.1 _ (List.mem_cons_of_mem _ (wcWT _ qC_385))) ?_
  refine x_bipush (v := 20) C.1 dX8_push_4 (by decide) ?_
  refine x_icmp_lt (tgt := 19) C.1 dX8_push_6 (by decide) ?_ ?_
  · refine x_aload_n C.1 dX8_push_19 rfl 0 rfl ?_
    refine x_get (v := .ref (xad G 24)) C.1 1 dX8_push_20 (xc_0 G h) rfl (by decide) rfl (fun w h => List.mem_cons_of_mem _ (wcWT w (iWC_X8 w h))) (by decide) rfl (C.1.2.2.2.2.1 _ (List.mem_cons_of_mem _ (wcWT _ qC_386))) ?_
    refine x_aload_n C.1 dX8_push_23 rfl 0 rfl ?_
    refine x_get (v := .int (gI h 0 2)) C.1 2 dX8_push_24 (xc_0 G h) rfl (by decide) rfl (fun w h => List.mem_cons_of_mem _ (wcWT w (iWC_X8 w h))) (by decide) rfl (C.1.2.2.2.2.1 _ (List.mem_cons_of_mem _ (wcWT _ qC_385))) ?_
    refine x_aload_n C.1 dX8_push_27 rfl 0 rfl ?_
    refine x_get (v := .ref (xad G 1)) C.1 0 dX8_push_28 (xc_0 G h) rfl (by decide) rfl (fun w h => List.mem_cons_of_mem _ (wcWT w (iWC_X8 w h))) (by decide) rfl (C.1.2.2.2.2.1 _ (List.mem_cons_of_mem _ (wcWT _ qC_363))) ?_
    refine x_get (v := .int (gI h 1 3)) C.1 3 dX8_push_31 (xc_1 G h) rfl (by decide) rfl (fun w h => List.mem_cons_of_mem _ (wcWT w (iWC_X2 w h))) (by decide) rfl (C.1.2.2.2.2.1 _ (List.mem_cons_of_mem _ (wcWT _ qC_372))) ?_
    refine x_iast (n := 20) C.1 dX8_push_34 (fun g => xp_24 G g _ _) (by decide) (fun h1 => ?_)
    refine x_aload_n C.1 dX8_push_35 rfl 0 rfl ?_
    refine x_dup C.1 dX8_push_36 rfl ?_
    refine x_get (v := .int (gI h1 0 2)) C.1 2 dX8_push_37 (xc_0 G h1) rfl (by decide) rfl (fun w h => List.mem_cons_of_mem _ (wcWT w (iWC_X8 w h))) (by decide) rfl (C.1.2.2.2.2.1 _ (List.mem_cons_of_mem _ (wcWT _ qC_385))) ?_
    refine x_iconst (v := 1) C.1 dX8_push_40 (by decide) ?_
    refine x_iadd C.1 dX8_push_41 ?_
    refine x_putI (ty0 := tyX8) (ty := .int) C.1 2 dX8_push_42 (xc_0 G h1) rfl (Nat.le_of_ble_eq_true rfl) (by decide) rfl (fun w h => List.mem_cons_of_mem _ (wcWT w (iWC_X8 w h))) tyX8_ok nmX8 (by decide) rfl rfl (by decide +kernel) rfl rfl (C.1.2.2.2.2.1 _ (List.mem_cons_of_mem _ (wcWT _ qC_385))) (fun h2 => ?_)
    refine x_aload_n C.1 dX8_push_45 rfl 0 rfl ?_
    refine x_get (v := .int (gI h2 0 2)) C.1 2 dX8_push_46 (xc_0 G h2) rfl (by decide) rfl (fun w h => List.mem_cons_of_mem _ (wcWT w (iWC_X8 w h))) (by decide) rfl (C.1.2.2.2.2.1 _ (List.mem_cons_of_mem _ (wcWT _ qC_385))) ?_
    exact x_none
  · obtain ⟨sa, hsa⟩ := C.2.2.2.2.2.1.2.2.1
    exact y_throw_3 C hlt hex hsa dX8_push_9 dX8_push_12 dX8_push_13 dX8_push_15 dX8_push_18 (by decide) (by decide) (by decide) (by decide)
/-! X8_told: 36 instructions -/
abbrev J_X8_told (G : xG) (p : Program) (l : Launch) (e : Env) (s : State) (m : MethodId) (args : Array Value) (below : List Frame) (meth : Method) (c : Code) : Nat → List (Nat × Value) → List Value → xHp → Option (Int32 × xHp) → Prop := xJ G p l e ({ frames := 0, cells := 0, slots := 0, locals := 0 } : Room) s m args below meth c 2 (fun res => MQ below (xQi G res) args s 0 0 (xA G))
def F_X8_told (N : Nat) (p1 : Int32) (h : xHp) : Option (Int32 × xHp) := if (p1 : Int32) = 0 then some ((gI h 1 3), h) else if (p1 : Int32) = 1 then some ((gI h 0 2), h) else if (p1 : Int32) = 2 then some ((gI h 0 4), h) else if (p1 : Int32) = 3 then some ((gI h 30 3), h) else if (p1 : Int32) = 4 then some ((gI h 26 1), h) else if (p1 : Int32) = 5 then some ((gI h 28 1), h) else if (p1 : Int32) = 6 then if (gI h 0 9) = 0 then some (0, h) else some (1, h) else none
set_option maxHeartbeats 4000000 in
set_option maxRecDepth 100000 in
theorem M_X8_told (G : xG) (l : Launch) (N : Nat) (p1 : Int32) (h : xHp) : ∀ r, F_X8_told N p1 h = some r → Met l yX8_told vX8_told ({ frames := 0, cells := 0, slots := 0, locals := 0 } : Room) (xPz G [.ref (xad G 0), .int p1] h) (xQi G r) 0 0 (xA G) := by
  refine z_met (own := RX8) (cc := cX8_told) (maxL := 2) (ret := (some .int)) (lv0 := [(0, .ref (xad G 0)), (1, .int p1)]) (by decide +kernel) rfl rfl (Nat.le_of_ble_eq_true rfl) rfl ?_
  intro p e s m below meth c C hr
  unfold F_X8_told
  refine x_iload_n C.1 dX8_told_0 rfl 1 rfl ?_
  refine x_split _ (fun q1_0 => ?_) (fun q1_0 => ?_)
  · refine x_tableIn (off := 43) (tgt := 44) C.1 dX8_told_1 (by rw [q1_0]; decide) (by rw [q1_0]; decide) (by rw [q1_0]; rfl) (by decide) ?_
    refine x_aload_n C.1 dX8_told_44 rfl 0 rfl ?_
    refine x_get (v := .ref (xad G 1)) C.1 0 dX8_told_45 (xc_0 G h) rfl (by decide) rfl (fun w h => List.mem_cons_of_mem _ (wcWT w (iWC_X8 w h))) (by decide) rfl (C.1.2.2.2.2.1 _ (List.mem_cons_of_mem _ (wcWT _ qC_363))) ?_
    refine x_get (v := .int (gI h 1 3)) C.1 3 dX8_told_48 (xc_1 G h) rfl (by decide) rfl (fun w h => List.mem_cons_of_mem _ (wcWT w (iWC_X2 w h))) (by decide) rfl (C.1.2.2.2.2.1 _ (List.mem_cons_of_mem _ (wcWT _ qC_372))) ?_
    exact x_iret C.1 dX8_told_51 hr
  · skip
    refine x_split _ (fun q1_1 => ?_) (fun q1_1 => ?_)
    · refine x_tableIn (off := 51) (tgt := 52) C.1 dX8_told_1 (by rw [q1_1]; decide) (by rw [q1_1]; decide) (by rw [q1_1]; rfl) (by decide) ?_
      refine x_aload_n C.1 dX8_told_52 rfl 0 rfl ?_
      refine x_get (v := .int (gI h 0 2)) C.1 2 dX8_told_53 (xc_0 G h) rfl (by decide) rfl (fun w h => List.mem_cons_of_mem _ (wcWT w (iWC_X8 w h))) (by decide) rfl (C.1.2.2.2.2.1 _ (List.mem_cons_of_mem _ (wcWT _ qC_385))) ?_
      exact x_iret C.1 dX8_told_56 hr
    · skip
      refine x_split _ (fun q1_2 => ?_) (fun q1_2 => ?_)
      · refine x_tableIn (off := 56) (tgt := 57) C.1 dX8_told_1 (by rw [q1_2]; decide) (by rw [q1_2]; decide) (by rw [q1_2]; rfl) (by decide) ?_
        refine x_aload_n C.1 dX8_told_57 rfl 0 rfl ?_
        refine x_get (v := .int (gI h 0 4)) C.1 4 dX8_told_58 (xc_0 G h) rfl (by decide) rfl (fun w h => List.mem_cons_of_mem _ (wcWT w (iWC_X8 w h))) (by decide) rfl (C.1.2.2.2.2.1 _ (List.mem_cons_of_mem _ (wcWT _ qC_362))) ?_
        exact x_iret C.1 dX8_told_61 hr
      · skip
        refine x_split _ (fun q1_3 => ?_) (fun q1_3 => ?_)
        · refine x_tableIn (off := 61) (tgt := 62) C.1 dX8_told_1 (by rw [q1_3]; decide) (by rw [q1_3]; decide) (by rw [q1_3]; rfl) (by decide) ?_
          refine x_aload_n C.1 dX8_told_62 rfl 0 rfl ?_
          refine x_get (v := .ref (xad G 30)) C.1 7 dX8_told_63 (xc_0 G h) rfl (by decide) rfl (fun w h => List.mem_cons_of_mem _ (wcWT w (iWC_X8 w h))) (by decide) rfl (C.1.2.2.2.2.1 _ (List.mem_cons_of_mem _ (wcWT _ qC_418))) ?_
          refine x_get (v := .int (gI h 30 3)) C.1 3 dX8_told_66 (xc_30 G h) rfl (by decide) rfl (fun w h => List.mem_cons_of_mem _ (wcWT w (iWC_X1 w h))) (by decide) rfl (C.1.2.2.2.2.1 _ (List.mem_cons_of_mem _ (wcWT _ qC_421))) ?_
          exact x_iret C.1 dX8_told_69 hr
        · skip
          refine x_split _ (fun q1_4 => ?_) (fun q1_4 => ?_)
          · refine x_tableIn (off := 69) (tgt := 70) C.1 dX8_told_1 (by rw [q1_4]; decide) (by rw [q1_4]; decide) (by rw [q1_4]; rfl) (by decide) ?_
            refine x_aload_n C.1 dX8_told_70 rfl 0 rfl ?_
            refine x_get (v := .ref (xad G 26)) C.1 5 dX8_told_71 (xc_0 G h) rfl (by decide) rfl (fun w h => List.mem_cons_of_mem _ (wcWT w (iWC_X8 w h))) (by decide) rfl (C.1.2.2.2.2.1 _ (List.mem_cons_of_mem _ (wcWT _ qC_411))) ?_
            refine x_get (v := .int (gI h 26 1)) C.1 1 dX8_told_74 (xc_26 G h) rfl (by decide) rfl (fun w h => List.mem_cons_of_mem _ (wcWT w (iWC_X6 w h))) (by decide) rfl (C.1.2.2.2.2.1 _ (List.mem_cons_of_mem _ (wcWT _ qC_412))) ?_
            exact x_iret C.1 dX8_told_77 hr
          · skip
            refine x_split _ (fun q1_5 => ?_) (fun q1_5 => ?_)
            · refine x_tableIn (off := 77) (tgt := 78) C.1 dX8_told_1 (by rw [q1_5]; decide) (by rw [q1_5]; decide) (by rw [q1_5]; rfl) (by decide) ?_
              refine x_aload_n C.1 dX8_told_78 rfl 0 rfl ?_
              refine x_get (v := .ref (xad G 28)) C.1 6 dX8_told_79 (xc_0 G h) rfl (by decide) rfl (fun w h => List.mem_cons_of_mem _ (wcWT w (iWC_X8 w h))) (by decide) rfl (C.1.2.2.2.2.1 _ (List.mem_cons_of_mem _ (wcWT _ qC_460))) ?_
              refine x_get (v := .int (gI h 28 1)) C.1 1 dX8_told_82 (xc_28 G h) rfl (by decide) rfl (fun w h => List.mem_cons_of_mem _ (wcWT w (iWC_X6 w h))) (by decide) rfl (C.1.2.2.2.2.1 _ (List.mem_cons_of_mem _ (wcWT _ qC_412))) ?_
              exact x_iret C.1 dX8_told_85 hr
            · skip
              refine x_split _ (fun q1_6 => ?_) (fun q1_6 => ?_)
              · refine x_tableIn (off := 85) (tgt := 86) C.1 dX8_told_1 (by rw [q1_6]; decide) (by rw [q1_6]; decide) (by rw [q1_6]; rfl) (by decide) ?_
                refine x_aload_n C.1 dX8_told_86 rfl 0 rfl ?_
                refine x_get (v := .int (gI h 0 9)) C.1 9 dX8_told_87 (xc_0 G h) rfl (by decide) rfl (fun w h => List.mem_cons_of_mem _ (wcWT w (iWC_X8 w h))) (by decide) rfl (C.1.2.2.2.2.1 _ (List.mem_cons_of_mem _ (wcWT _ qC_420))) ?_
                refine x_if_eq (tgt := 97) C.1 dX8_told_90 (by decide) ?_ ?_
                · refine x_iconst (v := 0) C.1 dX8_told_97 (by decide) ?_
                  exact x_iret C.1 dX8_told_98 hr
                · refine x_iconst (v := 1) C.1 dX8_told_93 (by decide) ?_
                  refine x_goto (tgt := 98) C.1 dX8_told_94 (by decide) ?_
                  exact x_iret C.1 dX8_told_98 hr
              · skip
                have hout : (p1 : Int32).toInt < 0 ∨ 6 < (p1 : Int32).toInt := by
                  have e0 := lv_neT q1_0 (a := 0) (by decide)
                  have e1 := lv_neT q1_1 (a := 1) (by decide)
                  have e2 := lv_neT q1_2 (a := 2) (by decide)
                  have e3 := lv_neT q1_3 (a := 3) (by decide)
                  have e4 := lv_neT q1_4 (a := 4) (by decide)
                  have e5 := lv_neT q1_5 (a := 5) (by decide)
                  have e6 := lv_neT q1_6 (a := 6) (by decide)
                  omega
                refine x_tableOut (tgt := 99) C.1 dX8_told_1 hout (by decide) ?_
                exact x_none
/-! X8_told_T: 36 instructions -/
abbrev J_X8_told_T (G : xG) (p : Program) (l : Launch) (e : Env) (s : State) (m : MethodId) (args : Array Value) (below : List Frame) (meth : Method) (c : Code) : Nat → List (Nat × Value) → List Value → xHp → Option (Nat × xHp) → Prop := xJ G p l e ({ frames := 6, cells := 1, slots := 6, locals := 100 } : Room) s m args below meth c 2 (fun res => vx_MQ below yNi (xXC G res) args s 1 6 (xA G))
def F_X8_told_T (N : Nat) (p1 : Int32) (h : xHp) : Option (Nat × xHp) := if (p1 : Int32) = 0 then none else if (p1 : Int32) = 1 then none else if (p1 : Int32) = 2 then none else if (p1 : Int32) = 3 then none else if (p1 : Int32) = 4 then none else if (p1 : Int32) = 5 then none else if (p1 : Int32) = 6 then if (gI h 0 9) = 0 then none else none else some (2, h)
set_option maxHeartbeats 4000000 in
set_option maxRecDepth 100000 in
theorem M_X8_told_T (G : xG) (l : Launch) (hlt : l.stackTraces = false) (N : Nat) (p1 : Int32) (h : xHp) : ∀ r, F_X8_told_T N p1 h = some r → vx_Met l yX8_told vX8_told ({ frames := 6, cells := 1, slots := 6, locals := 100 } : Room) (xPz G [.ref (xad G 0), .int p1] h) yNi (xXC G r) 1 6 (xA G) := by
  refine y_met (own := RX8) (cc := cX8_told) (maxL := 2) (ret := (some .int)) (lv0 := [(0, .ref (xad G 0)), (1, .int p1)]) (by decide +kernel) rfl rfl (Nat.le_of_ble_eq_true rfl) rfl ?_
  intro p e s m below meth c C hex
  unfold F_X8_told_T
  refine x_iload_n C.1 dX8_told_0 rfl 1 rfl ?_
  refine x_split _ (fun q1_0 => ?_) (fun q1_0 => ?_)
  · refine x_tableIn (off := 43) (tgt := 44) C.1 dX8_told_1 (by rw [q1_0]; decide) (by rw [q1_0]; decide) (by rw [q1_0]; rfl) (by decide) ?_
    refine x_aload_n C.1 dX8_told_44 rfl 0 rfl ?_
    refine x_get (v := .ref (xad G 1)) C.1 0 dX8_told_45 (xc_0 G h) rfl (by decide) rfl (fun w h => List.mem_cons_of_mem _ (wcWT w (iWC_X8 w h))) (by decide) rfl (C.1.2.2.2.2.1 _ (List.mem_cons_of_mem _ (wcWT _ qC_363))) ?_
    refine x_get (v := .int (gI h 1 3)) C.1 3 dX8_told_48 (xc_1 G h) rfl (by decide) rfl (fun w h => List.mem_cons_of_mem _ (wcWT w (iWC_X2 w h))) (by decide) rfl (C.1.2.2.2.2.1 _ (List.mem_cons_of_mem _ (wcWT _ qC_372))) ?_
    exact x_none
  · skip
    refine x_split _ (fun q1_1 => ?_) (fun q1_1 => ?_)
    · refine x_tableIn (off := 51) (tgt := 52) C.1 dX8_told_1 (by rw [q1_1]; decide) (by rw [q1_1]; decide) (by rw [q1_1]; rfl) (by decide) ?_
      refine x_aload_n C.1 dX8_told_52 rfl 0 rfl ?_
      refine x_get (v := .int (gI h 0 2)) C.1 2 dX8_told_53 (xc_0 G h) rfl (by decide) rfl (fun w h => List.mem_cons_of_mem _ (wcWT w (iWC_X8 w h))) (by decide) rfl (C.1.2.2.2.2.1 _ (List.mem_cons_of_mem _ (wcWT _ qC_385))) ?_
      exact x_none
    · skip
      refine x_split _ (fun q1_2 => ?_) (fun q1_2 => ?_)
      · refine x_tableIn (off := 56) (tgt := 57) C.1 dX8_told_1 (by rw [q1_2]; decide) (by rw [q1_2]; decide) (by rw [q1_2]; rfl) (by decide) ?_
        refine x_aload_n C.1 dX8_told_57 rfl 0 rfl ?_
        refine x_get (v := .int (gI h 0 4)) C.1 4 dX8_told_58 (xc_0 G h) rfl (by decide) rfl (fun w h => List.mem_cons_of_mem _ (wcWT w (iWC_X8 w h))) (by decide) rfl (C.1.2.2.2.2.1 _ (List.mem_cons_of_mem _ (wcWT _ qC_362))) ?_
        exact x_none
      · skip
        refine x_split _ (fun q1_3 => ?_) (fun q1_3 => ?_)
        · refine x_tableIn (off := 61) (tgt := 62) C.1 dX8_told_1 (by rw [q1_3]; decide) (by rw [q1_3]; decide) (by rw [q1_3]; rfl) (by decide) ?_
          refine x_aload_n C.1 dX8_told_62 rfl 0 rfl ?_
          refine x_get (v := .ref (xad G 30)) C.1 7 dX8_told_63 (xc_0 G h) rfl (by decide) rfl (fun w h => List.mem_cons_of_mem _ (wcWT w (iWC_X8 w h))) (by decide) rfl (C.1.2.2.2.2.1 _ (List.mem_cons_of_mem _ (wcWT _ qC_418))) ?_
          refine x_get (v := .int (gI h 30 3)) C.1 3 dX8_told_66 (xc_30 G h) rfl (by decide) rfl (fun w h => List.mem_cons_of_mem _ (wcWT w (iWC_X1 w h))) (by decide) rfl (C.1.2.2.2.2.1 _ (List.mem_cons_of_mem _ (wcWT _ qC_421))) ?_
          exact x_none
        · skip
          refine x_split _ (fun q1_4 => ?_) (fun q1_4 => ?_)
          · refine x_tableIn (off := 69) (tgt := 70) C.1 dX8_told_1 (by rw [q1_4]; decide) (by rw [q1_4]; decide) (by rw [q1_4]; rfl) (by decide) ?_
            refine x_aload_n C.1 dX8_told_70 rfl 0 rfl ?_
            refine x_get (v := .ref (xad G 26)) C.1 5 dX8_told_71 (xc_0 G h) rfl (by decide) rfl (fun w h => List.mem_cons_of_mem _ (wcWT w (iWC_X8 w h))) (by decide) rfl (C.1.2.2.2.2.1 _ (List.mem_cons_of_mem _ (wcWT _ qC_411))) ?_
            refine x_get (v := .int (gI h 26 1)) C.1 1 dX8_told_74 (xc_26 G h) rfl (by decide) rfl (fun w h => List.mem_cons_of_mem _ (wcWT w (iWC_X6 w h))) (by decide) rfl (C.1.2.2.2.2.1 _ (List.mem_cons_of_mem _ (wcWT _ qC_412))) ?_
            exact x_none
          · skip
            refine x_split _ (fun q1_5 => ?_) (fun q1_5 => ?_)
            · refine x_tableIn (off := 77) (tgt := 78) C.1 dX8_told_1 (by rw [q1_5]; decide) (by rw [q1_5]; decide) (by rw [q1_5]; rfl) (by decide) ?_
              refine x_aload_n C.1 dX8_told_78 rfl 0 rfl ?_
              refine x_get (v := .ref (xad G 28)) C.1 6 dX8_told_79 (xc_0 G h) rfl (by decide) rfl (fun w h => List.mem_cons_of_mem _ (wcWT w (iWC_X8 w h))) (by decide) rfl (C.1.2.2.2.2.1 _ (List.mem_cons_of_mem _ (wcWT _ qC_460))) ?_
              refine x_get (v := .int (gI h 28 1)) C.1 1 dX8_told_82 (xc_28 G h) rfl (by decide) rfl (fun w h => List.mem_cons_of_mem _ (wcWT w (iWC_X6 w h))) (by decide) rfl (C.1.2.2.2.2.1 _ (List.mem_cons_of_mem _ (wcWT _ qC_412))) ?_
              exact x_none
            · skip
              refine x_split _ (fun q1_6 => ?_) (fun q1_6 => ?_)
              · refine x_tableIn (off := 85) (tgt := 86) C.1 dX8_told_1 (by rw [q1_6]; decide) (by rw [q1_6]; decide) (by rw [q1_6]; rfl) (by decide) ?_
                refine x_aload_n C.1 dX8_told_86 rfl 0 rfl ?_
                refine x_get (v := .int (gI h 0 9)) C.1 9 dX8_told_87 (xc_0 G h) rfl (by decide) rfl (fun w h => List.mem_cons_of_mem _ (wcWT w (iWC_X8 w h))) (by decide) rfl (C.1.2.2.2.2.1 _ (List.mem_cons_of_mem _ (wcWT _ qC_420))) ?_
                refine x_if_eq (tgt := 97) C.1 dX8_told_90 (by decide) ?_ ?_
                · refine x_iconst (v := 0) C.1 dX8_told_97 (by decide) ?_
                  exact x_none
                · refine x_iconst (v := 1) C.1 dX8_told_93 (by decide) ?_
                  refine x_goto (tgt := 98) C.1 dX8_told_94 (by decide) ?_
                  exact x_none
              · skip
                have hout : (p1 : Int32).toInt < 0 ∨ 6 < (p1 : Int32).toInt := by
                  have e0 := lv_neT q1_0 (a := 0) (by decide)
                  have e1 := lv_neT q1_1 (a := 1) (by decide)
                  have e2 := lv_neT q1_2 (a := 2) (by decide)
                  have e3 := lv_neT q1_3 (a := 3) (by decide)
                  have e4 := lv_neT q1_4 (a := 4) (by decide)
                  have e5 := lv_neT q1_5 (a := 5) (by decide)
                  have e6 := lv_neT q1_6 (a := 6) (by decide)
                  omega
                refine x_tableOut (tgt := 99) C.1 dX8_told_1 hout (by decide) ?_
                obtain ⟨sa, hsa⟩ := C.2.2.2.2.2.1.2.2.2.2.2.2.2.2.2.2.2.2.1
                exact y_throwW_2 C hlt hex hsa dX8_told_99 dX8_told_102 dX8_told_103 dX8_told_106 dX8_told_109 (by decide) (by decide) (by decide) (by decide)
/-! J7_fill_d0a16_7: 15 instructions -/
abbrev J_J7_fill_d0a16_7 (G : xG) (p : Program) (l : Launch) (e : Env) (s : State) (m : MethodId) (args : Array Value) (below : List Frame) (meth : Method) (c : Code) : Nat → List (Nat × Value) → List Value → xHp → Option (Unit × xHp) → Prop := xJ G p l e ({ frames := 0, cells := 0, slots := 0, locals := 0 } : Room) s m args below meth c 5 (fun res => MQ below (xQv G res) args s 0 0 (xA G))
def F_J7_fill_d0a16_7_6_b (N : Nat) (k6 : Int64 → Int32 → Int32 → xHp → Option (Unit × xHp)) (x1 : Int64) (x3 : Int32) (x4 : Int32) (h : xHp) : Option (Unit × xHp) := if x4 ≤ x3 then some ((), h) else grd (xin x3 16) (bnd (sJ h 7 x3.toNatClampNeg x1) fun h1 => k6 x1 (x3 + 1) x4 h1)
def F_J7_fill_d0a16_7_6 (N : Nat) (x1 : Int64) (x3 : Int32) (x4 : Int32) (h : xHp) : Option (Unit × xHp) := xit (F_J7_fill_d0a16_7_6_b N) (fun _ _ _ _ => none) N x1 x3 x4 h
def F_J7_fill_d0a16_7 (N : Nat) (p1 : Int64) (h : xHp) : Option (Unit × xHp) := F_J7_fill_d0a16_7_6 N p1 0 16 h
set_option maxHeartbeats 4000000 in
set_option maxRecDepth 100000 in
theorem T_J7_fill_d0a16_7_6_b {G : xG} {p : Program} {l : Launch} {e : Env} {s : State} {m : MethodId} {args : Array Value} {below : List Frame} {meth : Method} {c : Code} {N : Nat} (C : xCz G p s m args meth c cJ7_fill_d0a16 5 vJ7_fill_d0a16 RJ7) (hr : meth.sig.returnType = none) {k6 : Int64 → Int32 → Int32 → xHp → Option (Unit × xHp)} (hk6 : ∀ (x1 : Int64) (x3 : Int32) (x4 : Int32) (h : xHp), J_J7_fill_d0a16_7 G p l e s m args below meth c 6 [(0, .ref (xad G 7)), (1, .long x1), (3, .int x3), (4, .int x4)] [] h (k6 x1 x3 x4 h)) (x1 : Int64) (x3 : Int32) (x4 : Int32) (h : xHp) : J_J7_fill_d0a16_7 G p l e s m args below meth c 6 [(0, .ref (xad G 7)), (1, .long x1), (3, .int x3), (4, .int x4)] [] h (F_J7_fill_d0a16_7_6_b N k6 x1 x3 x4 h) := by
  unfold F_J7_fill_d0a16_7_6_b
  refine x_iload_n C.1 dJ7_fill_d0a16_6 rfl 2 rfl ?_
  refine x_iload C.1 dJ7_fill_d0a16_7 3 rfl ?_
  refine x_icmp_ge (tgt := 22) C.1 dJ7_fill_d0a16_9 (by decide) ?_ ?_
  · exact x_vret C.1 dJ7_fill_d0a16_22 hr
  · refine x_aload_n C.1 dJ7_fill_d0a16_12 rfl 0 rfl ?_
    refine x_iload_n C.1 dJ7_fill_d0a16_13 rfl 2 rfl ?_
    refine x_lload_n C.1 dJ7_fill_d0a16_14 rfl 1 rfl ?_
    refine x_last (n := 16) C.1 dJ7_fill_d0a16_15 (fun g => xp_7 G _ g _) (by decide) (fun h1 => ?_)
    refine x_iinc (v := (x3 + 1)) (j := 2) (lv' := [(3, .int (x3 + 1)), (0, .ref (xad G 7)), (1, .long x1), (4, .int x4)]) C.1 dJ7_fill_d0a16_16 rfl (by rfl) (by decide) rfl ?_
    refine x_goto (tgt := 6) C.1 dJ7_fill_d0a16_19 (by decide) ?_
    exact x_sub [1, 2, 0, 3] rfl (hk6 x1 (x3 + 1) x4 h1)
set_option maxHeartbeats 4000000 in
set_option maxRecDepth 100000 in
theorem T_J7_fill_d0a16_7_6_n {G : xG} {p : Program} {l : Launch} {e : Env} {s : State} {m : MethodId} {args : Array Value} {below : List Frame} {meth : Method} {c : Code} {N : Nat} (C : xCz G p s m args meth c cJ7_fill_d0a16 5 vJ7_fill_d0a16 RJ7) (hr : meth.sig.returnType = none) : ∀ (n : Nat) (x1 : Int64) (x3 : Int32) (x4 : Int32) (h : xHp), J_J7_fill_d0a16_7 G p l e s m args below meth c 6 [(0, .ref (xad G 7)), (1, .long x1), (3, .int x3), (4, .int x4)] [] h (xit (F_J7_fill_d0a16_7_6_b N) (fun _ _ _ _ => none) n x1 x3 x4 h) := by
  intro n
  induction n with
  | zero => intros; exact x_none
  | succ n ih => intros; exact T_J7_fill_d0a16_7_6_b C hr ih _ _ _ _
set_option maxHeartbeats 4000000 in
set_option maxRecDepth 100000 in
theorem T_J7_fill_d0a16_7_6 {G : xG} {p : Program} {l : Launch} {e : Env} {s : State} {m : MethodId} {args : Array Value} {below : List Frame} {meth : Method} {c : Code} {N : Nat} (C : xCz G p s m args meth c cJ7_fill_d0a16 5 vJ7_fill_d0a16 RJ7) (hr : meth.sig.returnType = none) (x1 : Int64) (x3 : Int32) (x4 : Int32) (h : xHp) : J_J7_fill_d0a16_7 G p l e s m args below meth c 6 [(0, .ref (xad G 7)), (1, .long x1), (3, .int x3), (4, .int x4)] [] h (F_J7_fill_d0a16_7_6 N x1 x3 x4 h) := T_J7_fill_d0a16_7_6_n C hr N x1 x3 x4 h
set_option maxHeartbeats 4000000 in
set_option maxRecDepth 100000 in
theorem M_J7_fill_d0a16_7 (G : xG) (l : Launch) (N : Nat) (p1 : Int64) (h : xHp) : ∀ r, F_J7_fill_d0a16_7 N p1 h = some r → Met l yJ7_fill_d0a16 vJ7_fill_d0a16 ({ frames := 0, cells := 0, slots := 0, locals := 0 } : Room) (xPz G [.ref (xad G 7), .long p1] h) (xQv G r) 0 0 (xA G) := by
  refine z_met (own := RJ7) (cc := cJ7_fill_d0a16) (maxL := 5) (ret := none) (lv0 := [(0, .ref (xad G 7)), (1, .long p1)]) (by decide +kernel) rfl rfl (Nat.le_of_ble_eq_true rfl) rfl ?_
  intro p e s m below meth c C hr
  unfold F_J7_fill_d0a16_7
  refine x_iconst (v := 0) C.1 dJ7_fill_d0a16_0 (by decide) ?_
  refine x_istore_n (lv' := [(3, .int 0), (0, .ref (xad G 7)), (1, .long p1)]) C.1 dJ7_fill_d0a16_1 rfl (by decide) rfl ?_
  refine x_aload_n C.1 dJ7_fill_d0a16_2 rfl 1 rfl ?_
  refine x_alen (v := 16) (t0 := 2) C.1 dJ7_fill_d0a16_3 (xc_7 G h) rfl rfl (by decide) ?_
  refine x_istore (lv' := [(4, .int 16), (3, .int 0), (0, .ref (xad G 7)), (1, .long p1)]) C.1 dJ7_fill_d0a16_4 (by decide) rfl ?_
  exact x_sub [2, 3, 1, 0] rfl (T_J7_fill_d0a16_7_6 C hr p1 0 16 h)
/-! X2_valueOf: 79 instructions -/
abbrev J_X2_valueOf (G : xG) (p : Program) (l : Launch) (e : Env) (s : State) (m : MethodId) (args : Array Value) (below : List Frame) (meth : Method) (c : Code) : Nat → List (Nat × Value) → List Value → xHp → Option (Int64 × xHp) → Prop := xJ G p l e ({ frames := 1, cells := 0, slots := 0, locals := 24 } : Room) s m args below meth c 5 (fun res => MQ below (xQl G res) args s 0 0 (xA G))
def F_X2_valueOf_108 (N : Nat) (k12 : Int32 → Int32 → Int32 → xHp → Option (Int64 × xHp)) (k27 : Int32 → Int32 → Int32 → Int32 → xHp → Option (Int64 × xHp)) (x1 : Int32) (x2 : Int32) (x3 : Int32) (x4 : Int32) (h : xHp) : Option (Int64 × xHp) := k27 x1 x2 x3 (x4 + 1) h
def F_X2_valueOf_27_b (N : Nat) (k12 : Int32 → Int32 → Int32 → xHp → Option (Int64 × xHp)) (k27 : Int32 → Int32 → Int32 → Int32 → xHp → Option (Int64 × xHp)) (x1 : Int32) (x2 : Int32) (x3 : Int32) (x4 : Int32) (h : xHp) : Option (Int64 × xHp) := if (gI h 1 3) ≤ x4 then k12 x1 x2 (x3 + 1) h else grd (xin x4 70) (grd (xin (gI h 3 x4.toNatClampNeg) 16) (grd (xin x4 70) (grd (xin x4 70) (grd (xin (gI h 2 x4.toNatClampNeg) 16) (if 0 ≤ (lg_cmp ((gJ h 7 (gI h 3 x4.toNatClampNeg).toNatClampNeg) + ((gI h 4 x4.toNatClampNeg).toInt64)) (gJ h 7 (gI h 2 x4.toNatClampNeg).toNatClampNeg)) then F_X2_valueOf_108 N k12 k27 x1 x2 x3 x4 h else grd (xin x4 70) (grd (xin x4 70) (grd (xin (gI h 3 x4.toNatClampNeg) 16) (grd (xin x4 70) (grd (xin (gI h 2 x4.toNatClampNeg) 16) (bnd (sJ h 7 (gI h 2 x4.toNatClampNeg).toNatClampNeg ((gJ h 7 (gI h 3 x4.toNatClampNeg).toNatClampNeg) + ((gI h 4 x4.toNatClampNeg).toInt64))) fun h1 => F_X2_valueOf_108 N k12 k27 x1 1 x3 x4 h1))))))))))
def F_X2_valueOf_27 (N : Nat) (k12 : Int32 → Int32 → Int32 → xHp → Option (Int64 × xHp)) (x1 : Int32) (x2 : Int32) (x3 : Int32) (x4 : Int32) (h : xHp) : Option (Int64 × xHp) := xit (F_X2_valueOf_27_b N k12) (fun _ _ _ _ _ => none) N x1 x2 x3 x4 h
def F_X2_valueOf_120 (N : Nat) (x1 : Int32) (h : xHp) : Option (Int64 × xHp) := grd (xin x1 16) (grd (xin 0 16) (some (((gJ h 7 x1.toNatClampNeg) - (gJ h 7 (0 : Int32).toNatClampNeg)), h)))
def F_X2_valueOf_12_b (N : Nat) (k12 : Int32 → Int32 → Int32 → xHp → Option (Int64 × xHp)) (x1 : Int32) (x2 : Int32) (x3 : Int32) (h : xHp) : Option (Int64 × xHp) := if 16 ≤ x3 then F_X2_valueOf_120 N x1 h else if x2 = 0 then F_X2_valueOf_120 N x1 h else F_X2_valueOf_27 N k12 x1 0 x3 0 h
def F_X2_valueOf_12 (N : Nat) (x1 : Int32) (x2 : Int32) (x3 : Int32) (h : xHp) : Option (Int64 × xHp) := xit (F_X2_valueOf_12_b N) (fun _ _ _ _ => none) N x1 x2 x3 h
def F_X2_valueOf (N : Nat) (p1 : Int32) (h : xHp) : Option (Int64 × xHp) := bnd2 (F_J7_fill_d0a16_7 N 0 h) fun r1 h2 => F_X2_valueOf_12 N p1 1 0 h2
set_option maxHeartbeats 4000000 in
set_option maxRecDepth 100000 in
theorem T_X2_valueOf_108 {G : xG} {p : Program} {l : Launch} {e : Env} {s : State} {m : MethodId} {args : Array Value} {below : List Frame} {meth : Method} {c : Code} {N : Nat} (C : xCz G p s m args meth c cX2_valueOf 5 vX2_valueOf RX2) (hr : meth.sig.returnType = (some .long)) {k12 : Int32 → Int32 → Int32 → xHp → Option (Int64 × xHp)} (hk12 : ∀ (x1 : Int32) (x2 : Int32) (x3 : Int32) (h : xHp), J_X2_valueOf G p l e s m args below meth c 12 [(0, .ref (xad G 1)), (1, .int x1), (2, .int x2), (3, .int x3)] [] h (k12 x1 x2 x3 h)) {k27 : Int32 → Int32 → Int32 → Int32 → xHp → Option (Int64 × xHp)} (hk27 : ∀ (x1 : Int32) (x2 : Int32) (x3 : Int32) (x4 : Int32) (h : xHp), J_X2_valueOf G p l e s m args below meth c 27 [(0, .ref (xad G 1)), (1, .int x1), (2, .int x2), (3, .int x3), (4, .int x4)] [] h (k27 x1 x2 x3 x4 h)) (x1 : Int32) (x2 : Int32) (x3 : Int32) (x4 : Int32) (h : xHp) : J_X2_valueOf G p l e s m args below meth c 108 [(0, .ref (xad G 1)), (1, .int x1), (2, .int x2), (3, .int x3), (4, .int x4)] [] h (F_X2_valueOf_108 N k12 k27 x1 x2 x3 x4 h) := by
  unfold F_X2_valueOf_108
  refine x_iinc (v := (x4 + 1)) (j := 4) (lv' := [(4, .int (x4 + 1)), (0, .ref (xad G 1)), (1, .int x1), (2, .int x2), (3, .int x3)]) C.1 dX2_valueOf_108 rfl (by rfl) (by decide) rfl ?_
  refine x_goto (tgt := 27) C.1 dX2_valueOf_111 (by decide) ?_
  exact x_sub [1, 2, 3, 4, 0] rfl (hk27 x1 x2 x3 (x4 + 1) h)
set_option maxHeartbeats 4000000 in
set_option maxRecDepth 100000 in
theorem T_X2_valueOf_27_b {G : xG} {p : Program} {l : Launch} {e : Env} {s : State} {m : MethodId} {args : Array Value} {below : List Frame} {meth : Method} {c : Code} {N : Nat} (C : xCz G p s m args meth c cX2_valueOf 5 vX2_valueOf RX2) (hr : meth.sig.returnType = (some .long)) {k12 : Int32 → Int32 → Int32 → xHp → Option (Int64 × xHp)} (hk12 : ∀ (x1 : Int32) (x2 : Int32) (x3 : Int32) (h : xHp), J_X2_valueOf G p l e s m args below meth c 12 [(0, .ref (xad G 1)), (1, .int x1), (2, .int x2), (3, .int x3)] [] h (k12 x1 x2 x3 h)) {k27 : Int32 → Int32 → Int32 → Int32 → xHp → Option (Int64 × xHp)} (hk27 : ∀ (x1 : Int32) (x2 : Int32) (x3 : Int32) (x4 : Int32) (h : xHp), J_X2_valueOf G p l e s m args below meth c 27 [(0, .ref (xad G 1)), (1, .int x1), (2, .int x2), (3, .int x3), (4, .int x4)] [] h (k27 x1 x2 x3 x4 h)) (x1 : Int32) (x2 : Int32) (x3 : Int32) (x4 : Int32) (h : xHp) : J_X2_valueOf G p l e s m args below meth c 27 [(0, .ref (xad G 1)), (1, .int x1), (2, .int x2), (3, .int x3), (4, .int x4)] [] h (F_X2_valueOf_27_b N k12 k27 x1 x2 x3 x4 h) := by
  unfold F_X2_valueOf_27_b
  refine x_iload C.1 dX2_valueOf_27 4 rfl ?_
  refine x_aload_n C.1 dX2_valueOf_29 rfl 0 rfl ?_
  refine x_get (v := .int (gI h 1 3)) C.1 3 dX2_valueOf_30 (xc_1 G h) rfl (by decide) rfl (fun w h => List.mem_cons_of_mem _ (iWC_X2 w h)) (by decide) rfl (C.1.2.2.2.2.1 _ (List.mem_cons_of_mem _ qC_131)) ?_
  refine x_icmp_ge (tgt := 114) C.1 dX2_valueOf_33 (by decide) ?_ ?_
  · refine x_iinc (v := (x3 + 1)) (j := 3) (lv' := [(3, .int (x3 + 1)), (0, .ref (xad G 1)), (1, .int x1), (2, .int x2), (4, .int x4)]) C.1 dX2_valueOf_114 rfl (by rfl) (by decide) rfl ?_
    refine x_goto (tgt := 12) C.1 dX2_valueOf_117 (by decide) ?_
    exact x_sub [1, 2, 3, 0] rfl (hk12 x1 x2 (x3 + 1) h)
  · refine x_aload_n C.1 dX2_valueOf_36 rfl 0 rfl ?_
    refine x_get (v := .ref (xad G 7)) C.1 8 dX2_valueOf_37 (xc_1 G h) rfl (by decide) rfl (fun w h => List.mem_cons_of_mem _ (iWC_X2 w h)) (by decide) rfl (C.1.2.2.2.2.1 _ (List.mem_cons_of_mem _ qC_168)) ?_
    refine x_aload_n C.1 dX2_valueOf_40 rfl 0 rfl ?_
    refine x_get (v := .ref (xad G 3)) C.1 1 dX2_valueOf_41 (xc_1 G h) rfl (by decide) rfl (fun w h => List.mem_cons_of_mem _ (iWC_X2 w h)) (by decide) rfl (C.1.2.2.2.2.1 _ (List.mem_cons_of_mem _ qC_132)) ?_
    refine x_iload C.1 dX2_valueOf_44 4 rfl ?_
    refine x_iald (n := 70) C.1 dX2_valueOf_46 (xc_3 G h) (by decide) ?_
    refine x_lald (n := 16) C.1 dX2_valueOf_47 (xc_7 G h) (by decide) ?_
    refine x_aload_n C.1 dX2_valueOf_48 rfl 0 rfl ?_
    refine x_get (v := .ref (xad G 4)) C.1 2 dX2_valueOf_49 (xc_1 G h) rfl (by decide) rfl (fun w h => List.mem_cons_of_mem _ (iWC_X2 w h)) (by decide) rfl (C.1.2.2.2.2.1 _ (List.mem_cons_of_mem _ qC_133)) ?_
    refine x_iload C.1 dX2_valueOf_52 4 rfl ?_
    refine x_iald (n := 70) C.1 dX2_valueOf_54 (xc_4 G h) (by decide) ?_
    refine x_i2l C.1 dX2_valueOf_55 ?_
    refine x_ladd C.1 dX2_valueOf_56 ?_
    refine x_aload_n C.1 dX2_valueOf_57 rfl 0 rfl ?_
    refine x_get (v := .ref (xad G 7)) C.1 8 dX2_valueOf_58 (xc_1 G h) rfl (by decide) rfl (fun w h => List.mem_cons_of_mem _ (iWC_X2 w h)) (by decide) rfl (C.1.2.2.2.2.1 _ (List.mem_cons_of_mem _ qC_168)) ?_
    refine x_aload_n C.1 dX2_valueOf_61 rfl 0 rfl ?_
    refine x_get (v := .ref (xad G 2)) C.1 0 dX2_valueOf_62 (xc_1 G h) rfl (by decide) rfl (fun w h => List.mem_cons_of_mem _ (iWC_X2 w h)) (by decide) rfl (C.1.2.2.2.2.1 _ (List.mem_cons_of_mem _ qC_134)) ?_
    refine x_iload C.1 dX2_valueOf_65 4 rfl ?_
    refine x_iald (n := 70) C.1 dX2_valueOf_67 (xc_2 G h) (by decide) ?_
    refine x_lald (n := 16) C.1 dX2_valueOf_68 (xc_7 G h) (by decide) ?_
    refine x_lcmp C.1 dX2_valueOf_69 ?_
    refine x_if_ge (tgt := 108) C.1 dX2_valueOf_70 (by decide) ?_ ?_
    · exact x_sub [0, 1, 2, 3, 4] rfl (T_X2_valueOf_108 C hr hk12 hk27 x1 x2 x3 x4 h)
    · refine x_aload_n C.1 dX2_valueOf_73 rfl 0 rfl ?_
      refine x_get (v := .ref (xad G 7)) C.1 8 dX2_valueOf_74 (xc_1 G h) rfl (by decide) rfl (fun w h => List.mem_cons_of_mem _ (iWC_X2 w h)) (by decide) rfl (C.1.2.2.2.2.1 _ (List.mem_cons_of_mem _ qC_168)) ?_
      refine x_aload_n C.1 dX2_valueOf_77 rfl 0 rfl ?_
      refine x_get (v := .ref (xad G 2)) C.1 0 dX2_valueOf_78 (xc_1 G h) rfl (by decide) rfl (fun w h => List.mem_cons_of_mem _ (iWC_X2 w h)) (by decide) rfl (C.1.2.2.2.2.1 _ (List.mem_cons_of_mem _ qC_134)) ?_
      refine x_iload C.1 dX2_valueOf_81 4 rfl ?_
      refine x_iald (n := 70) C.1 dX2_valueOf_83 (xc_2 G h) (by decide) ?_
      refine x_aload_n C.1 dX2_valueOf_84 rfl 0 rfl ?_
      refine x_get (v := .ref (xad G 7)) C.1 8 dX2_valueOf_85 (xc_1 G h) rfl (by decide) rfl (fun w h => List.mem_cons_of_mem _ (iWC_X2 w h)) (by decide) rfl (C.1.2.2.2.2.1 _ (List.mem_cons_of_mem _ qC_168)) ?_
      refine x_aload_n C.1 dX2_valueOf_88 rfl 0 rfl ?_
      refine x_get (v := .ref (xad G 3)) C.1 1 dX2_valueOf_89 (xc_1 G h) rfl (by decide) rfl (fun w h => List.mem_cons_of_mem _ (iWC_X2 w h)) (by decide) rfl (C.1.2.2.2.2.1 _ (List.mem_cons_of_mem _ qC_132)) ?_
      refine x_iload C.1 dX2_valueOf_92 4 rfl ?_
      refine x_iald (n := 70) C.1 dX2_valueOf_94 (xc_3 G h) (by decide) ?_
      refine x_lald (n := 16) C.1 dX2_valueOf_95 (xc_7 G h) (by decide) ?_
      refine x_aload_n C.1 dX2_valueOf_96 rfl 0 rfl ?_
      refine x_get (v := .ref (xad G 4)) C.1 2 dX2_valueOf_97 (xc_1 G h) rfl (by decide) rfl (fun w h => List.mem_cons_of_mem _ (iWC_X2 w h)) (by decide) rfl (C.1.2.2.2.2.1 _ (List.mem_cons_of_mem _ qC_133)) ?_
      refine x_iload C.1 dX2_valueOf_100 4 rfl ?_
      refine x_iald (n := 70) C.1 dX2_valueOf_102 (xc_4 G h) (by decide) ?_
      refine x_i2l C.1 dX2_valueOf_103 ?_
      refine x_ladd C.1 dX2_valueOf_104 ?_
      refine x_last (n := 16) C.1 dX2_valueOf_105 (fun g => xp_7 G _ g _) (by decide) (fun h1 => ?_)
      refine x_iconst (v := 1) C.1 dX2_valueOf_106 (by decide) ?_
      refine x_istore_n (lv' := [(2, .int 1), (0, .ref (xad G 1)), (1, .int x1), (3, .int x3), (4, .int x4)]) C.1 dX2_valueOf_107 rfl (by decide) rfl ?_
      exact x_sub [1, 2, 0, 3, 4] rfl (T_X2_valueOf_108 C hr hk12 hk27 x1 1 x3 x4 h1)
set_option maxHeartbeats 4000000 in
set_option maxRecDepth 100000 in
theorem T_X2_valueOf_27_n {G : xG} {p : Program} {l : Launch} {e : Env} {s : State} {m : MethodId} {args : Array Value} {below : List Frame} {meth : Method} {c : Code} {N : Nat} (C : xCz G p s m args meth c cX2_valueOf 5 vX2_valueOf RX2) (hr : meth.sig.returnType = (some .long)) {k12 : Int32 → Int32 → Int32 → xHp → Option (Int64 × xHp)} (hk12 : ∀ (x1 : Int32) (x2 : Int32) (x3 : Int32) (h : xHp), J_X2_valueOf G p l e s m args below meth c 12 [(0, .ref (xad G 1)), (1, .int x1), (2, .int x2), (3, .int x3)] [] h (k12 x1 x2 x3 h)) : ∀ (n : Nat) (x1 : Int32) (x2 : Int32) (x3 : Int32) (x4 : Int32) (h : xHp), J_X2_valueOf G p l e s m args below meth c 27 [(0, .ref (xad G 1)), (1, .int x1), (2, .int x2), (3, .int x3), (4, .int x4)] [] h (xit (F_X2_valueOf_27_b N k12) (fun _ _ _ _ _ => none) n x1 x2 x3 x4 h) := by
  intro n
  induction n with
  | zero => intros; exact x_none
  | succ n ih => intros; exact T_X2_valueOf_27_b C hr hk12 ih _ _ _ _ _
set_option maxHeartbeats 4000000 in
set_option maxRecDepth 100000 in
theorem T_X2_valueOf_27 {G : xG} {p : Program} {l : Launch} {e : Env} {s : State} {m : MethodId} {args : Array Value} {below : List Frame} {meth : Method} {c : Code} {N : Nat} (C : xCz G p s m args meth c cX2_valueOf 5 vX2_valueOf RX2) (hr : meth.sig.returnType = (some .long)) {k12 : Int32 → Int32 → Int32 → xHp → Option (Int64 × xHp)} (hk12 : ∀ (x1 : Int32) (x2 : Int32) (x3 : Int32) (h : xHp), J_X2_valueOf G p l e s m args below meth c 12 [(0, .ref (xad G 1)), (1, .int x1), (2, .int x2), (3, .int x3)] [] h (k12 x1 x2 x3 h)) (x1 : Int32) (x2 : Int32) (x3 : Int32) (x4 : Int32) (h : xHp) : J_X2_valueOf G p l e s m args below meth c 27 [(0, .ref (xad G 1)), (1, .int x1), (2, .int x2), (3, .int x3), (4, .int x4)] [] h (F_X2_valueOf_27 N k12 x1 x2 x3 x4 h) := T_X2_valueOf_27_n C hr hk12 N x1 x2 x3 x4 h
set_option maxHeartbeats 4000000 in
set_option maxRecDepth 100000 in
theorem T_X2_valueOf_120 {G : xG} {p : Program} {l : Launch} {e : Env} {s : State} {m : MethodId} {args : Array Value} {below : List Frame} {meth : Method} {c : Code} {N : Nat} (C : xCz G p s m args meth c cX2_valueOf 5 vX2_valueOf RX2) (hr : meth.sig.returnType = (some .long)) (x1 : Int32) (h : xHp) : J_X2_valueOf G p l e s m args below meth c 120 [(0, .ref (xad G 1)), (1, .int x1)] [] h (F_X2_valueOf_120 N x1 h) := by
  unfold F_X2_valueOf_120
  refine x_aload_n C.1 dX2_valueOf_120 rfl 0 rfl ?_
  refine x_get (v := .ref (xad G 7)) C.1 8 dX2_valueOf_121 (xc_1 G h) rfl (by decide) rfl (fun w h => List.mem_cons_of_mem _ (iWC_X2 w h)) (by decide) rfl (C.1.2.2.2.2.1 _ (List.mem_cons_of_mem _ qC_168)) ?_
  refine x_iload_n C.1 dX2_valueOf_124 rfl 1 rfl ?_
  refine x_lald (n := 16) C.1 dX2_valueOf_125 (xc_7 G h) (by decide) ?_
  refine x_aload_n C.1 dX2_valueOf_126 rfl 0 rfl ?_
  refine x_get (v := .ref (xad G 7)) C.1 8 dX2_valueOf_127 (xc_1 G h) rfl (by decide) rfl (fun w h => List.mem_cons_of_mem _ (iWC_X2 w h)) (by decide) rfl (C.1.2.2.2.2.1 _ (List.mem_cons_of_mem _ qC_168)) ?_
  refine x_iconst (v := 0) C.1 dX2_valueOf_130 (by decide) ?_
  refine x_lald (n := 16) C.1 dX2_valueOf_131 (xc_7 G h) (by decide) ?_
  refine x_lsub C.1 dX2_valueOf_132 ?_
  exact x_lret C.1 dX2_valueOf_133 hr
set_option maxHeartbeats 4000000 in
set_option maxRecDepth 100000 in
theorem T_X2_valueOf_12_b {G : xG} {p : Program} {l : Launch} {e : Env} {s : State} {m : MethodId} {args : Array Value} {below : List Frame} {meth : Method} {c : Code} {N : Nat} (C : xCz G p s m args meth c cX2_valueOf 5 vX2_valueOf RX2) (hr : meth.sig.returnType = (some .long)) {k12 : Int32 → Int32 → Int32 → xHp → Option (Int64 × xHp)} (hk12 : ∀ (x1 : Int32) (x2 : Int32) (x3 : Int32) (h : xHp), J_X2_valueOf G p l e s m args below meth c 12 [(0, .ref (xad G 1)), (1, .int x1), (2, .int x2), (3, .int x3)] [] h (k12 x1 x2 x3 h)) (x1 : Int32) (x2 : Int32) (x3 : Int32) (h : xHp) : J_X2_valueOf G p l e s m args below meth c 12 [(0, .ref (xad G 1)), (1, .int x1), (2, .int x2), (3, .int x3)] [] h (F_X2_valueOf_12_b N k12 x1 x2 x3 h) := by
  unfold F_X2_valueOf_12_b
  refine x_iload_n C.1 dX2_valueOf_12 rfl 3 rfl ?_
  refine x_bipush (v := 16) C.1 dX2_valueOf_13 (by decide) ?_
  refine x_icmp_ge (tgt := 120) C.1 dX2_valueOf_15 (by decide) ?_ ?_
  · exact x_sub [0, 1] rfl (T_X2_valueOf_120 C hr x1 h)
  · refine x_iload_n C.1 dX2_valueOf_18 rfl 2 rfl ?_
    refine x_if_eq (tgt := 120) C.1 dX2_valueOf_19 (by decide) ?_ ?_
    · exact x_sub [0, 1] rfl (T_X2_valueOf_120 C hr x1 h)
    · refine x_iconst (v := 0) C.1 dX2_valueOf_22 (by decide) ?_
      refine x_istore_n (lv' := [(2, .int 0), (0, .ref (xad G 1)), (1, .int x1), (3, .int x3)]) C.1 dX2_valueOf_23 rfl (by decide) rfl ?_
      refine x_iconst (v := 0) C.1 dX2_valueOf_24 (by decide) ?_
      refine x_istore (lv' := [(4, .int 0), (2, .int 0), (0, .ref (xad G 1)), (1, .int x1), (3, .int x3)]) C.1 dX2_valueOf_25 (by decide) rfl ?_
      exact x_sub [2, 3, 1, 4, 0] rfl (T_X2_valueOf_27 C hr hk12 x1 0 x3 0 h)
set_option maxHeartbeats 4000000 in
set_option maxRecDepth 100000 in
theorem T_X2_valueOf_12_n {G : xG} {p : Program} {l : Launch} {e : Env} {s : State} {m : MethodId} {args : Array Value} {below : List Frame} {meth : Method} {c : Code} {N : Nat} (C : xCz G p s m args meth c cX2_valueOf 5 vX2_valueOf RX2) (hr : meth.sig.returnType = (some .long)) : ∀ (n : Nat) (x1 : Int32) (x2 : Int32) (x3 : Int32) (h : xHp), J_X2_valueOf G p l e s m args below meth c 12 [(0, .ref (xad G 1)), (1, .int x1), (2, .int x2), (3, .int x3)] [] h (xit (F_X2_valueOf_12_b N) (fun _ _ _ _ => none) n x1 x2 x3 h) := by
  intro n
  induction n with
  | zero => intros; exact x_none
  | succ n ih => intros; exact T_X2_valueOf_12_b C hr ih _ _ _ _
set_option maxHeartbeats 4000000 in
set_option maxRecDepth 100000 in
theorem T_X2_valueOf_12 {G : xG} {p : Program} {l : Launch} {e : Env} {s : State} {m : MethodId} {args : Array Value} {below : List Frame} {meth : Method} {c : Code} {N : Nat} (C : xCz G p s m args meth c cX2_valueOf 5 vX2_valueOf RX2) (hr : meth.sig.returnType = (some .long)) (x1 : Int32) (x2 : Int32) (x3 : Int32) (h : xHp) : J_X2_valueOf G p l e s m args below meth c 12 [(0, .ref (xad G 1)), (1, .int x1), (2, .int x2), (3, .int x3)] [] h (F_X2_valueOf_12 N x1 x2 x3 h) := T_X2_valueOf_12_n C hr N x1 x2 x3 h
set_option maxHeartbeats 4000000 in
set_option maxRecDepth 100000 in
theorem M_X2_valueOf (G : xG) (l : Launch) (N : Nat) (p1 : Int32) (h : xHp) : ∀ r, F_X2_valueOf N p1 h = some r → Met l yX2_valueOf vX2_valueOf ({ frames := 1, cells := 0, slots := 0, locals := 24 } : Room) (xPz G [.ref (xad G 1), .int p1] h) (xQl G r) 0 0 (xA G) := by
  refine z_met (own := RX2) (cc := cX2_valueOf) (maxL := 5) (ret := (some .long)) (lv0 := [(0, .ref (xad G 1)), (1, .int p1)]) (by decide +kernel) rfl rfl (Nat.le_of_ble_eq_true rfl) rfl ?_
  intro p e s m below meth c C hr
  unfold F_X2_valueOf
  refine x_aload_n C.1 dX2_valueOf_0 rfl 0 rfl ?_
  refine x_get (v := .ref (xad G 7)) C.1 8 dX2_valueOf_1 (xc_1 G h) rfl (by decide) rfl (fun w h => List.mem_cons_of_mem _ (iWC_X2 w h)) (by decide) rfl (C.1.2.2.2.2.1 _ (List.mem_cons_of_mem _ qC_168)) ?_
  refine x_lconst (v := 0) C.1 dX2_valueOf_4 (by decide) ?_
  refine z_callSv C dX2_valueOf_5 (M_J7_fill_d0a16_7 G l N 0 h) (va_cwS 2 C.1.2.2.2.2.1 (gdS gWC qC_135 qC_136 qC_6 qC_125) rfl rfl rfl (by decide +kernel) ⟨Nat.le_of_ble_eq_true rfl, Nat.le_of_ble_eq_true rfl⟩) rfl rfl (Nat.le_of_ble_eq_true rfl) (fun r1 h2 => ?_)
  refine x_iconst (v := 1) C.1 dX2_valueOf_8 (by decide) ?_
  refine x_istore_n (lv' := [(2, .int 1), (0, .ref (xad G 1)), (1, .int p1)]) C.1 dX2_valueOf_9 rfl (by decide) rfl ?_
  refine x_iconst (v := 0) C.1 dX2_valueOf_10 (by decide) ?_
  refine x_istore_n (lv' := [(3, .int 0), (2, .int 1), (0, .ref (xad G 1)), (1, .int p1)]) C.1 dX2_valueOf_11 rfl (by decide) rfl ?_
  exact x_sub [2, 3, 1, 0] rfl (T_X2_valueOf_12 C hr p1 1 0 h2)
