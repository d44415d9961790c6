/-! X8_value: 8 instructions -/
abbrev J_X8_value (G : xG) (p : Program) (l : Launch) (e : Env) (s : State) (m : MethodId) (args : Array Value) (below : List Frame) (meth : Method) (c : Code) : Nat → List (Nat × Value) → List Value → xHp → Option (Int64 × xHp) → Prop := xJ G p l e ({ frames := 2, cells := 0, slots := 0, locals := 48 } : Room) s m args below meth c 2 (fun res => MQ below (xQl G res) args s 0 0 (xA G))
def F_X8_value (N : Nat) (p1 : Int32) (h : xHp) : Option (Int64 × xHp) := bnd2 (F_X8_requireVariable N p1 h) fun r1 h2 => bnd2 (F_X2_valueOf N p1 h2) fun r3 h4 => some (r3, h4)
set_option maxHeartbeats 4000000 in
set_option maxRecDepth 100000 in
theorem M_X8_value (G : xG) (l : Launch) (N : Nat) (p1 : Int32) (h : xHp) : ∀ r, F_X8_value N p1 h = some r → Met l yX8_value vX8_value ({ frames := 2, cells := 0, slots := 0, locals := 48 } : Room) (xPz G [.ref (xad G 0), .int p1] h) (xQl G r) 0 0 (xA G) := by
  refine z_met (own := RX8) (cc := cX8_value) (maxL := 2) (ret := (some .long)) (lv0 := [(0, .ref (xad G 0)), (1, .int p1)]) (by decide +kernel) rfl rfl (Nat.le_of_ble_eq_true rfl) rfl ?_
  intro p e s m below meth c C hr
  unfold F_X8_value
  refine x_aload_n C.1 dX8_value_0 rfl 0 rfl ?_
  refine x_iload_n C.1 dX8_value_1 rfl 1 rfl ?_
  refine z_callVv C dX8_value_2 (M_X8_requireVariable G l N p1 h) (cwV 1 C.1.2.2.2.2.1 (gdV gWT (wcWT _ qC_375) (wcWT _ qC_376) (wcWT _ qC_377) (wcWT _ qC_52) (wcWT _ qC_357)) rfl rfl rfl (by decide +kernel) ⟨Nat.le_of_ble_eq_true rfl, Nat.le_of_ble_eq_true rfl⟩) (xc_0 G h) (by decide) rfl rfl rfl (Nat.le_of_ble_eq_true rfl) (fun r1 h2 => ?_)
  refine x_aload_n C.1 dX8_value_5 rfl 0 rfl ?_
  refine x_get (v := .ref (xad G 1)) C.1 0 dX8_value_6 (xc_0 G h2) rfl (by decide) rfl (fun w h => List.mem_cons_of_mem _ (wcWT w (iWC_X8 w h))) (by decide) rfl (C.1.2.2.2.2.1 _ (List.mem_cons_of_mem _ (wcWT _ qC_363))) ?_
  refine x_iload_n C.1 dX8_value_9 rfl 1 rfl ?_
  refine z_callVl C dX8_value_10 (M_X2_valueOf G l N p1 h2) (cwV 1 C.1.2.2.2.2.1 (gdV2 wcWT gWT (wcWT _ qC_391) (wcWT _ qC_392) (wcWT _ qC_393) (wcWT _ qC_144) (wcWT _ qC_167)) rfl rfl rfl (by decide +kernel) ⟨Nat.le_of_ble_eq_true rfl, Nat.le_of_ble_eq_true rfl⟩) (xc_1 G h2) (by decide) rfl rfl rfl (Nat.le_of_ble_eq_true rfl) (fun r3 h4 => ?_)
  exact x_lret C.1 dX8_value_13 hr
/-! X8_value_T: 8 instructions -/
abbrev J_X8_value_T (G : xG) (p : Program) (l : Launch) (e : Env) (s : State) (m : MethodId) (args : Array Value) (below : List Frame) (meth : Method) (c : Code) : Nat → List (Nat × Value) → List Value → xHp → Option (Nat × xHp) → Prop := xJ G p l e ({ frames := 7, cells := 1, slots := 6, locals := 121 } : Room) s m args below meth c 2 (fun res => vx_MQ below yNl (xXC G res) args s 1 6 (xA G))
def F_X8_value_T (N : Nat) (p1 : Int32) (h : xHp) : Option (Nat × xHp) := orX (F_X8_requireVariable_T N p1 h) (bnd2 (F_X8_requireVariable N p1 h) fun r1 h2 => bnd2 (F_X2_valueOf N p1 h2) fun r3 h4 => none)
set_option maxHeartbeats 4000000 in
set_option maxRecDepth 100000 in
theorem M_X8_value_T (G : xG) (l : Launch) (hlt : l.stackTraces = false) (N : Nat) (p1 : Int32) (h : xHp) : ∀ r, F_X8_value_T N p1 h = some r → vx_Met l yX8_value vX8_value ({ frames := 7, cells := 1, slots := 6, locals := 121 } : Room) (xPz G [.ref (xad G 0), .int p1] h) yNl (xXC G r) 1 6 (xA G) := by
  refine y_met (own := RX8) (cc := cX8_value) (maxL := 2) (ret := (some .long)) (lv0 := [(0, .ref (xad G 0)), (1, .int p1)]) (by decide +kernel) rfl rfl (Nat.le_of_ble_eq_true rfl) rfl ?_
  intro p e s m below meth c C hex
  unfold F_X8_value_T
  refine x_aload_n C.1 dX8_value_0 rfl 0 rfl ?_
  refine x_iload_n C.1 dX8_value_1 rfl 1 rfl ?_
  refine y_callVv C hex dX8_value_2 (M_X8_requireVariable_T G l hlt N p1 h) (cwV 1 C.1.2.2.2.2.1 (gdV gWT (wcWT _ qC_375) (wcWT _ qC_376) (wcWT _ qC_377) (wcWT _ qC_52) (wcWT _ qC_357)) rfl rfl rfl (by decide +kernel) ⟨Nat.le_of_ble_eq_true rfl, Nat.le_of_ble_eq_true rfl⟩) (xc_0 G h) (by decide) rfl rfl rfl (Nat.le_of_ble_eq_true rfl) (by decide) (by decide) ?_
  refine z_callVv C dX8_value_2 (M_X8_requireVariable G l N p1 h) (cwV 1 C.1.2.2.2.2.1 (gdV gWT (wcWT _ qC_375) (wcWT _ qC_376) (wcWT _ qC_377) (wcWT _ qC_52) (wcWT _ qC_357)) rfl rfl rfl (by decide +kernel) ⟨Nat.le_of_ble_eq_true rfl, Nat.le_of_ble_eq_true rfl⟩) (xc_0 G h) (by decide) rfl rfl rfl (Nat.le_of_ble_eq_true rfl) (fun r1 h2 => ?_)
  refine x_aload_n C.1 dX8_value_5 rfl 0 rfl ?_
  refine x_get (v := .ref (xad G 1)) C.1 0 dX8_value_6 (xc_0 G h2) rfl (by decide) rfl (fun w h => List.mem_cons_of_mem _ (wcWT w (iWC_X8 w h))) (by decide) rfl (C.1.2.2.2.2.1 _ (List.mem_cons_of_mem _ (wcWT _ qC_363))) ?_
  refine x_iload_n C.1 dX8_value_9 rfl 1 rfl ?_
  refine z_callVl C dX8_value_10 (M_X2_valueOf G l N p1 h2) (cwV 1 C.1.2.2.2.2.1 (gdV2 wcWT gWT (wcWT _ qC_391) (wcWT _ qC_392) (wcWT _ qC_393) (wcWT _ qC_144) (wcWT _ qC_167)) rfl rfl rfl (by decide +kernel) ⟨Nat.le_of_ble_eq_true rfl, Nat.le_of_ble_eq_true rfl⟩) (xc_1 G h2) (by decide) rfl rfl rfl (Nat.le_of_ble_eq_true rfl) (fun r3 h4 => ?_)
  exact x_none
/-! X1_giveRow_30: 28 instructions -/
abbrev J_X1_giveRow_30 (G : xG) (p : Program) (l : Launch) (e : Env) (s : State) (m : MethodId) (args : Array Value) (below : List Frame) (meth : Method) (c : Code) : Nat → List (Nat × Value) → List Value → xHp → Option (Unit × xHp) → Prop := xJ G p l e ({ frames := 0, cells := 0, slots := 0, locals := 0 } : Room) s m args below meth c 3 (fun res => MQ below (xQv G res) args s 0 0 (xA G))
def F_X1_giveRow_30_36 (N : Nat) (k2 : Int32 → Int32 → xHp → Option (Unit × xHp)) (x1 : Int32) (x2 : Int32) (s2 : Int32) (s1 : Int32) (h : xHp) : Option (Unit × xHp) := grd (xin s1 10) (bnd (sI h 34 s1.toNatClampNeg s2) fun h1 => k2 x1 (x2 + 1) h1)
def F_X1_giveRow_30_2_b (N : Nat) (k2 : Int32 → Int32 → xHp → Option (Unit × xHp)) (x1 : Int32) (x2 : Int32) (h : xHp) : Option (Unit × xHp) := if (gI h 30 3) ≤ x2 then some ((), h) else if ((x1 >>> ((((gI h 30 3) - 1) - x2) &&& 31)) &&& 1) = 1 then F_X1_giveRow_30_36 N k2 x1 x2 2 x2 h else F_X1_giveRow_30_36 N k2 x1 x2 0 x2 h
def F_X1_giveRow_30_2 (N : Nat) (x1 : Int32) (x2 : Int32) (h : xHp) : Option (Unit × xHp) := xit (F_X1_giveRow_30_2_b N) (fun _ _ _ => none) N x1 x2 h
def F_X1_giveRow_30 (N : Nat) (p1 : Int32) (h : xHp) : Option (Unit × xHp) := F_X1_giveRow_30_2 N p1 0 h
set_option maxHeartbeats 4000000 in
set_option maxRecDepth 100000 in
theorem T_X1_giveRow_30_36 {G : xG} {p : Program} {l : Launch} {e : Env} {s : State} {m : MethodId} {args : Array Value} {below : List Frame} {meth : Method} {c : Code} {N : Nat} (C : xCz G p s m args meth c cX1_giveRow 3 vX1_giveRow RX1) (hr : meth.sig.returnType = none) {k2 : Int32 → Int32 → xHp → Option (Unit × xHp)} (hk2 : ∀ (x1 : Int32) (x2 : Int32) (h : xHp), J_X1_giveRow_30 G p l e s m args below meth c 2 [(0, .ref (xad G 30)), (1, .int x1), (2, .int x2)] [] h (k2 x1 x2 h)) (x1 : Int32) (x2 : Int32) (s2 : Int32) (s1 : Int32) (h : xHp) : J_X1_giveRow_30 G p l e s m args below meth c 36 [(0, .ref (xad G 30)), (1, .int x1), (2, .int x2)] [.int s2, .int s1, .ref (xad G 34)] h (F_X1_giveRow_30_36 N k2 x1 x2 s2 s1 h) := by
  unfold F_X1_giveRow_30_36
  refine x_iast (n := 10) C.1 dX1_giveRow_36 (fun g => xp_34 G g _ _) (by decide) (fun h1 => ?_)
  refine x_iinc (v := (x2 + 1)) (j := 2) (lv' := [(2, .int (x2 + 1)), (0, .ref (xad G 30)), (1, .int x1)]) C.1 dX1_giveRow_37 rfl (by rfl) (by decide) rfl ?_
  refine x_goto (tgt := 2) C.1 dX1_giveRow_40 (by decide) ?_
  exact x_sub [1, 2, 0] rfl (hk2 x1 (x2 + 1) h1)
set_option maxHeartbeats 4000000 in
set_option maxRecDepth 100000 in
theorem T_X1_giveRow_30_2_b {G : xG} {p : Program} {l : Launch} {e : Env} {s : State} {m : MethodId} {args : Array Value} {below : List Frame} {meth : Method} {c : Code} {N : Nat} (C : xCz G p s m args meth c cX1_giveRow 3 vX1_giveRow RX1) (hr : meth.sig.returnType = none) {k2 : Int32 → Int32 → xHp → Option (Unit × xHp)} (hk2 : ∀ (x1 : Int32) (x2 : Int32) (h : xHp), J_X1_giveRow_30 G p l e s m args below meth c 2 [(0, .ref (xad G 30)), (1, .int x1), (2, .int x2)] [] h (k2 x1 x2 h)) (x1 : Int32) (x2 : Int32) (h : xHp) : J_X1_giveRow_30 G p l e s m args below meth c 2 [(0, .ref (xad G 30)), (1, .int x1), (2, .int x2)] [] h (F_X1_giveRow_30_2_b N k2 x1 x2 h) := by
  unfold F_X1_giveRow_30_2_b
  refine x_iload_n C.1 dX1_giveRow_2 rfl 2 rfl ?_
  refine x_aload_n C.1 dX1_giveRow_3 rfl 0 rfl ?_
  refine x_get (v := .int (gI h 30 3)) C.1 3 dX1_giveRow_4 (xc_30 G h) rfl (by decide) rfl (fun w h => List.mem_cons_of_mem _ (iWC_X1 w h)) (by decide) rfl (C.1.2.2.2.2.1 _ (List.mem_cons_of_mem _ qC_104)) ?_
  refine x_icmp_ge (tgt := 43) C.1 dX1_giveRow_7 (by decide) ?_ ?_
  · exact x_vret C.1 dX1_giveRow_43 hr
  · refine x_aload_n C.1 dX1_giveRow_10 rfl 0 rfl ?_
    refine x_get (v := .ref (xad G 34)) C.1 4 dX1_giveRow_11 (xc_30 G h) rfl (by decide) rfl (fun w h => List.mem_cons_of_mem _ (iWC_X1 w h)) (by decide) rfl (C.1.2.2.2.2.1 _ (List.mem_cons_of_mem _ qC_3)) ?_
    refine x_iload_n C.1 dX1_giveRow_14 rfl 2 rfl ?_
    refine x_iload_n C.1 dX1_giveRow_15 rfl 1 rfl ?_
    refine x_aload_n C.1 dX1_giveRow_16 rfl 0 rfl ?_
    refine x_get (v := .int (gI h 30 3)) C.1 3 dX1_giveRow_17 (xc_30 G h) rfl (by decide) rfl (fun w h => List.mem_cons_of_mem _ (iWC_X1 w h)) (by decide) rfl (C.1.2.2.2.2.1 _ (List.mem_cons_of_mem _ qC_104)) ?_
    refine x_iconst (v := 1) C.1 dX1_giveRow_20 (by decide) ?_
    refine x_isub C.1 dX1_giveRow_21 ?_
    refine x_iload_n C.1 dX1_giveRow_22 rfl 2 rfl ?_
    refine x_isub C.1 dX1_giveRow_23 ?_
    refine x_ishr C.1 dX1_giveRow_24 ?_
    refine x_iconst (v := 1) C.1 dX1_giveRow_25 (by decide) ?_
    refine x_iand C.1 dX1_giveRow_26 ?_
    refine x_iconst (v := 1) C.1 dX1_giveRow_27 (by decide) ?_
    refine x_icmp_ne (tgt := 35) C.1 dX1_giveRow_28 (by decide) ?_ ?_
    · refine x_iconst (v := 2) C.1 dX1_giveRow_31 (by decide) ?_
      refine x_goto (tgt := 36) C.1 dX1_giveRow_32 (by decide) ?_
      exact x_sub [0, 1, 2] rfl (T_X1_giveRow_30_36 C hr hk2 x1 x2 2 x2 h)
    · refine x_iconst (v := 0) C.1 dX1_giveRow_35 (by decide) ?_
      exact x_sub [0, 1, 2] rfl (T_X1_giveRow_30_36 C hr hk2 x1 x2 0 x2 h)
set_option maxHeartbeats 4000000 in
set_option maxRecDepth 100000 in
theorem T_X1_giveRow_30_2_n {G : xG} {p : Program} {l : Launch} {e : Env} {s : State} {m : MethodId} {args : Array Value} {below : List Frame} {meth : Method} {c : Code} {N : Nat} (C : xCz G p s m args meth c cX1_giveRow 3 vX1_giveRow RX1) (hr : meth.sig.returnType = none) : ∀ (n : Nat) (x1 : Int32) (x2 : Int32) (h : xHp), J_X1_giveRow_30 G p l e s m args below meth c 2 [(0, .ref (xad G 30)), (1, .int x1), (2, .int x2)] [] h (xit (F_X1_giveRow_30_2_b N) (fun _ _ _ => none) n x1 x2 h) := by
  intro n
  induction n with
  | zero => intros; exact x_none
  | succ n ih => intros; exact T_X1_giveRow_30_2_b C hr ih _ _ _
set_option maxHeartbeats 4000000 in
set_option maxRecDepth 100000 in
theorem T_X1_giveRow_30_2 {G : xG} {p : Program} {l : Launch} {e : Env} {s : State} {m : MethodId} {args : Array Value} {below : List Frame} {meth : Method} {c : Code} {N : Nat} (C : xCz G p s m args meth c cX1_giveRow 3 vX1_giveRow RX1) (hr : meth.sig.returnType = none) (x1 : Int32) (x2 : Int32) (h : xHp) : J_X1_giveRow_30 G p l e s m args below meth c 2 [(0, .ref (xad G 30)), (1, .int x1), (2, .int x2)] [] h (F_X1_giveRow_30_2 N x1 x2 h) := T_X1_giveRow_30_2_n C hr N x1 x2 h
set_option maxHeartbeats 4000000 in
set_option maxRecDepth 100000 in
theorem M_X1_giveRow_30 (G : xG) (l : Launch) (N : Nat) (p1 : Int32) (h : xHp) : ∀ r, F_X1_giveRow_30 N p1 h = some r → Met l yX1_giveRow vX1_giveRow ({ frames := 0, cells := 0, slots := 0, locals := 0 } : Room) (xPz G [.ref (xad G 30), .int p1] h) (xQv G r) 0 0 (xA G) := by
  refine z_met (own := RX1) (cc := cX1_giveRow) (maxL := 3) (ret := none) (lv0 := [(0, .ref (xad G 30)), (1, .int p1)]) (by decide +kernel) rfl rfl (Nat.le_of_ble_eq_true rfl) rfl ?_
  intro p e s m below meth c C hr
  unfold F_X1_giveRow_30
  refine x_iconst (v := 0) C.1 dX1_giveRow_0 (by decide) ?_
  refine x_istore_n (lv' := [(2, .int 0), (0, .ref (xad G 30)), (1, .int p1)]) C.1 dX1_giveRow_1 rfl (by decide) rfl ?_
  exact x_sub [1, 2, 0] rfl (T_X1_giveRow_30_2 C hr p1 0 h)
/-! X8_valueIn: 69 instructions -/
abbrev J_X8_valueIn (G : xG) (p : Program) (l : Launch) (e : Env) (s : State) (m : MethodId) (args : Array Value) (below : List Frame) (meth : Method) (c : Code) : Nat → List (Nat × Value) → List Value → xHp → Option (Int64 × xHp) → Prop := xJ G p l e ({ frames := 30, cells := 0, slots := 0, locals := 760 } : Room) s m args below meth c 6 (fun res => MQ below (xQl G res) args s 0 0 (xA G))
def F_X8_valueIn_27 (N : Nat) (h : xHp) : Option (Int64 × xHp) := some ((-9223372036854775808), h)
def F_X8_valueIn_73_b (N : Nat) (k73 : Int32 → Int32 → Int32 → xHp → Option (Int64 × xHp)) (x2 : Int32) (x3 : Int32) (x4 : Int32) (h : xHp) : Option (Int64 × xHp) := if (gI h 30 3) ≤ x4 then bnd2 (F_X2_valueOf N x2 h) fun r1 h2 => bnd2 (F_X2_cutTo N x3 h2) fun r3 h4 => some (r1, h4) else bnd2 (F_X1_fromOf_30 N x4 h) fun r5 h6 => bnd2 (F_X1_toOf_30 N x4 h6) fun r7 h8 => bnd2 (F_X1_mostOf_30 N x4 h8) fun r9 h10 => bnd2 (F_X2_append N r5 r7 r9 h10) fun r11 h12 => k73 x2 x3 (x4 + 1) h12
def F_X8_valueIn_73 (N : Nat) (x2 : Int32) (x3 : Int32) (x4 : Int32) (h : xHp) : Option (Int64 × xHp) := xit (F_X8_valueIn_73_b N) (fun _ _ _ _ => none) N x2 x3 x4 h
def F_X8_valueIn (N : Nat) (p1 : Int32) (p2 : Int32) (h : xHp) : Option (Int64 × xHp) := bnd2 (F_X8_requireVariable N p2 h) fun r1 h2 => if (gI h2 0 9) = 0 then F_X8_valueIn_27 N h2 else if p1 < 0 then F_X8_valueIn_27 N h2 else bnd2 (F_X1_rows_30 N h2) fun r3 h4 => if p1 < r3 then bnd2 (F_X5_fill N h4) fun r5 h6 => grd (xin p1 1024) (if (gI h6 48 p1.toNatClampNeg) = 0 then some ((-9223372036854775808), h6) else bnd2 (F_X1_giveRow_30 N p1 h6) fun r7 h8 => F_X8_valueIn_73 N p2 (gI h6 1 3) 0 h8) else F_X8_valueIn_27 N h4
set_option maxHeartbeats 4000000 in
set_option maxRecDepth 100000 in
theorem T_X8_valueIn_27 {G : xG} {p : Program} {l : Launch} {e : Env} {s : State} {m : MethodId} {args : Array Value} {below : List Frame} {meth : Method} {c : Code} {N : Nat} (C : xCz G p s m args meth c cX8_valueIn 6 vX8_valueIn RX8) (hr : meth.sig.returnType = (some .long)) (h : xHp) : J_X8_valueIn G p l e s m args below meth c 27 [] [] h (F_X8_valueIn_27 N h) := by
  unfold F_X8_valueIn_27
  refine x_ldc2 (v := (-9223372036854775808)) C.1 dX8_valueIn_27 (C.1.2.2.2.2.1 _ (List.mem_cons_of_mem _ (wcWT _ qC_395))) ?_
  exact x_lret C.1 dX8_valueIn_30 hr
set_option maxHeartbeats 4000000 in
set_option maxRecDepth 100000 in
theorem T_X8_valueIn_73_b {G : xG} {p : Program} {l : Launch} {e : Env} {s : State} {m : MethodId} {args : Array Value} {below : List Frame} {meth : Method} {c : Code} {N : Nat} (C : xCz G p s m args meth c cX8_valueIn 6 vX8_valueIn RX8) (hr : meth.sig.returnType = (some .long)) {k73 : Int32 → Int32 → Int32 → xHp → Option (Int64 × xHp)} (hk73 : ∀ (x2 : Int32) (x3 : Int32) (x4 : Int32) (h : xHp), J_X8_valueIn G p l e s m args below meth c 73 [(0, .ref (xad G 0)), (2, .int x2), (3, .int x3), (4, .int x4)] [] h (k73 x2 x3 x4 h)) (x2 : Int32) (x3 : Int32) (x4 : Int32) (h : xHp) : J_X8_valueIn G p l e s m args below meth c 73 [(0, .ref (xad G 0)), (2, .int x2), (3, .int x3), (4, .int x4)] [] h (F_X8_valueIn_73_b N k73 x2 x3 x4 h) := by
  unfold F_X8_valueIn_73_b
  refine x_iload C.1 dX8_valueIn_73 3 rfl ?_
  refine x_aload_n C.1 dX8_valueIn_75 rfl 0 rfl ?_
  refine x_get (v := .ref (xad G 30)) C.1 7 dX8_valueIn_76 (xc_0 G h) rfl (by decide) rfl (fun w h => List.mem_cons_of_mem _ (wcWT w (iWC_X8 w h))) (by decide) rfl (C.1.2.2.2.2.1 _ (List.mem_cons_of_mem _ (wcWT _ qC_418))) ?_
  refine x_get (v := .int (gI h 30 3)) C.1 3 dX8_valueIn_79 (xc_30 G h) rfl (by decide) rfl (fun w h => List.mem_cons_of_mem _ (wcWT w (iWC_X1 w h))) (by decide) rfl (C.1.2.2.2.2.1 _ (List.mem_cons_of_mem _ (wcWT _ qC_421))) ?_
  refine x_icmp_ge (tgt := 125) C.1 dX8_valueIn_82 (by decide) ?_ ?_
  · refine x_aload_n C.1 dX8_valueIn_125 rfl 0 rfl ?_
    refine x_get (v := .ref (xad G 1)) C.1 0 dX8_valueIn_126 (xc_0 G h) rfl (by decide) rfl (fun w h => List.mem_cons_of_mem _ (wcWT w (iWC_X8 w h))) (by decide) rfl (C.1.2.2.2.2.1 _ (List.mem_cons_of_mem _ (wcWT _ qC_363))) ?_
    refine x_iload_n C.1 dX8_valueIn_129 rfl 1 rfl ?_
    refine z_callVl C dX8_valueIn_130 (M_X2_valueOf G l N x2 h) (cwV 1 C.1.2.2.2.2.1 (gdV2 wcWT gWT (wcWT _ qC_391) (wcWT _ qC_392) (wcWT _ qC_393) (wcWT _ qC_144) (wcWT _ qC_167)) rfl rfl rfl (by decide +kernel) ⟨Nat.le_of_ble_eq_true rfl, Nat.le_of_ble_eq_true rfl⟩) (xc_1 G h) (by decide) rfl rfl rfl (Nat.le_of_ble_eq_true rfl) (fun r1 h2 => ?_)
    refine x_lstore (lv' := [(4, .long r1), (0, .ref (xad G 0)), (2, .int x2), (3, .int x3)]) C.1 dX8_valueIn_133 (by decide) rfl ?_
    refine x_aload_n C.1 dX8_valueIn_135 rfl 1 rfl ?_
    refine x_get (v := .ref (xad G 1)) C.1 0 dX8_valueIn_136 (xc_0 G h2) rfl (by decide) rfl (fun w h => List.mem_cons_of_mem _ (wcWT w (iWC_X8 w h))) (by decide) rfl (C.1.2.2.2.2.1 _ (List.mem_cons_of_mem _ (wcWT _ qC_363))) ?_
    refine x_iload_n C.1 dX8_valueIn_139 rfl 3 rfl ?_
    refine z_callVv C dX8_valueIn_140 (M_X2_cutTo G l N x3 h2) (cwV 1 C.1.2.2.2.2.1 (gdV2 wcWT gWT (wcWT _ qC_388) (wcWT _ qC_306) (wcWT _ qC_307) (wcWT _ qC_144) (wcWT _ qC_165)) rfl rfl rfl (by decide +kernel) ⟨Nat.le_of_ble_eq_true rfl, Nat.le_of_ble_eq_true rfl⟩) (xc_1 G h2) (by decide) rfl rfl rfl (Nat.le_of_ble_eq_true rfl) (fun r3 h4 => ?_)
    refine x_lload C.1 dX8_valueIn_143 0 rfl ?_
    exact x_lret C.1 dX8_valueIn_145 hr
  · refine x_aload_n C.1 dX8_valueIn_85 rfl 0 rfl ?_
    refine x_get (v := .ref (xad G 1)) C.1 0 dX8_valueIn_86 (xc_0 G h) rfl (by decide) rfl (fun w h => List.mem_cons_of_mem _ (wcWT w (iWC_X8 w h))) (by decide) rfl (C.1.2.2.2.2.1 _ (List.mem_cons_of_mem _ (wcWT _ qC_363))) ?_
    refine x_aload_n C.1 dX8_valueIn_89 rfl 0 rfl ?_
    refine x_get (v := .ref (xad G 30)) C.1 7 dX8_valueIn_90 (xc_0 G h) rfl (by decide) rfl (fun w h => List.mem_cons_of_mem _ (wcWT w (iWC_X8 w h))) (by decide) rfl (C.1.2.2.2.2.1 _ (List.mem_cons_of_mem _ (wcWT _ qC_418))) ?_
    refine x_iload C.1 dX8_valueIn_93 3 rfl ?_
    refine z_callVi C dX8_valueIn_95 (M_X1_fromOf_30 G l N x4 h) (cwV 1 C.1.2.2.2.2.1 (gdV2 wcWT gWT (wcWT _ qC_452) (wcWT _ qC_67) (wcWT _ qC_68) (wcWT _ qC_32) (wcWT _ qC_57)) rfl rfl rfl (by decide +kernel) ⟨Nat.le_of_ble_eq_true rfl, Nat.le_of_ble_eq_true rfl⟩) (xc_30 G h) (by decide) rfl rfl rfl (Nat.le_of_ble_eq_true rfl) (fun r5 h6 => ?_)
    refine x_aload_n C.1 dX8_valueIn_98 rfl 0 rfl ?_
    refine x_get (v := .ref (xad G 30)) C.1 7 dX8_valueIn_99 (xc_0 G h6) rfl (by decide) rfl (fun w h => List.mem_cons_of_mem _ (wcWT w (iWC_X8 w h))) (by decide) rfl (C.1.2.2.2.2.1 _ (List.mem_cons_of_mem _ (wcWT _ qC_418))) ?_
    refine x_iload C.1 dX8_valueIn_102 3 rfl ?_
    refine z_callVi C dX8_valueIn_104 (M_X1_toOf_30 G l N x4 h6) (cwV 1 C.1.2.2.2.2.1 (gdV2 wcWT gWT (wcWT _ qC_453) (wcWT _ qC_70) (wcWT _ qC_71) (wcWT _ qC_32) (wcWT _ qC_60)) rfl rfl rfl (by decide +kernel) ⟨Nat.le_of_ble_eq_true rfl, Nat.le_of_ble_eq_true rfl⟩) (xc_30 G h6) (by decide) rfl rfl rfl (Nat.le_of_ble_eq_true rfl) (fun r7 h8 => ?_)
    refine x_aload_n C.1 dX8_valueIn_107 rfl 0 rfl ?_
    refine x_get (v := .ref (xad G 30)) C.1 7 dX8_valueIn_108 (xc_0 G h8) rfl (by decide) rfl (fun w h => List.mem_cons_of_mem _ (wcWT w (iWC_X8 w h))) (by decide) rfl (C.1.2.2.2.2.1 _ (List.mem_cons_of_mem _ (wcWT _ qC_418))) ?_
    refine x_iload C.1 dX8_valueIn_111 3 rfl ?_
    refine z_callVi C dX8_valueIn_113 (M_X1_mostOf_30 G l N x4 h8) (cwV 1 C.1.2.2.2.2.1 (gdV2 wcWT gWT (wcWT _ qC_454) (wcWT _ qC_73) (wcWT _ qC_74) (wcWT _ qC_32) (wcWT _ qC_61)) rfl rfl rfl (by decide +kernel) ⟨Nat.le_of_ble_eq_true rfl, Nat.le_of_ble_eq_true rfl⟩) (xc_30 G h8) (by decide) rfl rfl rfl (Nat.le_of_ble_eq_true rfl) (fun r9 h10 => ?_)
    refine z_callVv C dX8_valueIn_116 (M_X2_append G l N r5 r7 r9 h10) (cwV 3 C.1.2.2.2.2.1 (gdV2 wcWT gWT (wcWT _ qC_382) (wcWT _ qC_161) (wcWT _ qC_162) (wcWT _ qC_144) (wcWT _ qC_153)) rfl rfl rfl (by decide +kernel) ⟨Nat.le_of_ble_eq_true rfl, Nat.le_of_ble_eq_true rfl⟩) (xc_1 G h10) (by decide) rfl rfl rfl (Nat.le_of_ble_eq_true rfl) (fun r11 h12 => ?_)
    refine x_iinc (v := (x4 + 1)) (j := 3) (lv' := [(4, .int (x4 + 1)), (0, .ref (xad G 0)), (2, .int x2), (3, .int x3)]) C.1 dX8_valueIn_119 rfl (by rfl) (by decide) rfl ?_
    refine x_goto (tgt := 73) C.1 dX8_valueIn_122 (by decide) ?_
    exact x_sub [1, 2, 3, 0] rfl (hk73 x2 x3 (x4 + 1) h12)
set_option maxHeartbeats 4000000 in
set_option maxRecDepth 100000 in
theorem T_X8_valueIn_73_n {G : xG} {p : Program} {l : Launch} {e : Env} {s : State} {m : MethodId} {args : Array Value} {below : List Frame} {meth : Method} {c : Code} {N : Nat} (C : xCz G p s m args meth c cX8_valueIn 6 vX8_valueIn RX8) (hr : meth.sig.returnType = (some .long)) : ∀ (n : Nat) (x2 : Int32) (x3 : Int32) (x4 : Int32) (h : xHp), J_X8_valueIn G p l e s m args below meth c 73 [(0, .ref (xad G 0)), (2, .int x2), (3, .int x3), (4, .int x4)] [] h (xit (F_X8_valueIn_73_b N) (fun _ _ _ _ => none) n x2 x3 x4 h) := by
  intro n
  induction n with
  | zero => intros; exact x_none
  | succ n ih => intros; exact T_X8_valueIn_73_b C hr ih _ _ _ _
set_option maxHeartbeats 4000000 in
set_option maxRecDepth 100000 in
theorem T_X8_valueIn_73 {G : xG} {p : Program} {l : Launch} {e : Env} {s : State} {m : MethodId} {args : Array Value} {below : List Frame} {meth : Method} {c : Code} {N : Nat} (C : xCz G p s m args meth c cX8_valueIn 6 vX8_valueIn RX8) (hr : meth.sig.returnType = (some .long)) (x2 : Int32) (x3 : Int32) (x4 : Int32) (h : xHp) : J_X8_valueIn G p l e s m args below meth c 73 [(0, .ref (xad G 0)), (2, .int x2), (3, .int x3), (4, .int x4)] [] h (F_X8_valueIn_73 N x2 x3 x4 h) := T_X8_valueIn_73_n C hr N x2 x3 x4 h
set_option maxHeartbeats 4000000 in
set_option maxRecDepth 100000 in
theorem M_X8_valueIn (G : xG) (l : Launch) (N : Nat) (p1 : Int32) (p2 : Int32) (h : xHp) : ∀ r, F_X8_valueIn N p1 p2 h = some r → Met l yX8_valueIn vX8_valueIn ({ frames := 30, cells := 0, slots := 0, locals := 760 } : Room) (xPz G [.ref (xad G 0), .int p1, .int p2] h) (xQl G r) 0 0 (xA G) := by
  refine z_met (own := RX8) (cc := cX8_valueIn) (maxL := 6) (ret := (some .long)) (lv0 := [(0, .ref (xad G 0)), (1, .int p1), (2, .int p2)]) (by decide +kernel) rfl rfl (Nat.le_of_ble_eq_true rfl) rfl ?_
  intro p e s m below meth c C hr
  unfold F_X8_valueIn
  refine x_aload_n C.1 dX8_valueIn_0 rfl 0 rfl ?_
  refine x_iload_n C.1 dX8_valueIn_1 rfl 2 rfl ?_
  refine z_callVv C dX8_valueIn_2 (M_X8_requireVariable G l N p2 h) (cwV 1 C.1.2.2.2.2.1 (gdV gWT (wcWT _ qC_375) (wcWT _ qC_376) (wcWT _ qC_377) (wcWT _ qC_52) (wcWT _ qC_357)) rfl rfl rfl (by decide +kernel) ⟨Nat.le_of_ble_eq_true rfl, Nat.le_of_ble_eq_true rfl⟩) (xc_0 G h) (by decide) rfl rfl rfl (Nat.le_of_ble_eq_true rfl) (fun r1 h2 => ?_)
  refine x_aload_n C.1 dX8_valueIn_5 rfl 0 rfl ?_
  refine x_get (v := .int (gI h2 0 9)) C.1 9 dX8_valueIn_6 (xc_0 G h2) rfl (by decide) rfl (fun w h => List.mem_cons_of_mem _ (wcWT w (iWC_X8 w h))) (by decide) rfl (C.1.2.2.2.2.1 _ (List.mem_cons_of_mem _ (wcWT _ qC_420))) ?_
  refine x_if_eq (tgt := 27) C.1 dX8_valueIn_9 (by decide) ?_ ?_
  · exact x_sub [] rfl (T_X8_valueIn_27 C hr h2)
  · refine x_iload_n C.1 dX8_valueIn_12 rfl 1 rfl ?_
    refine x_if_lt (tgt := 27) C.1 dX8_valueIn_13 (by decide) ?_ ?_
    · exact x_sub [] rfl (T_X8_valueIn_27 C hr h2)
    · refine x_iload_n C.1 dX8_valueIn_16 rfl 1 rfl ?_
      refine x_aload_n C.1 dX8_valueIn_17 rfl 0 rfl ?_
      refine x_get (v := .ref (xad G 30)) C.1 7 dX8_valueIn_18 (xc_0 G h2) rfl (by decide) rfl (fun w h => List.mem_cons_of_mem _ (wcWT w (iWC_X8 w h))) (by decide) rfl (C.1.2.2.2.2.1 _ (List.mem_cons_of_mem _ (wcWT _ qC_418))) ?_
      refine z_callVi C dX8_valueIn_21 (M_X1_rows_30 G l N h2) (cwV 0 C.1.2.2.2.2.1 (gdV2 wcWT gWT (wcWT _ qC_445) (wcWT _ qC_446) (wcWT _ qC_447) (wcWT _ qC_32) (wcWT _ qC_110)) rfl rfl rfl (by decide +kernel) ⟨Nat.le_of_ble_eq_true rfl, Nat.le_of_ble_eq_true rfl⟩) (xc_30 G h2) (by decide) rfl rfl rfl (Nat.le_of_ble_eq_true rfl) (fun r3 h4 => ?_)
      refine x_icmp_lt (tgt := 31) C.1 dX8_valueIn_24 (by decide) ?_ ?_
      · refine x_aload_n C.1 dX8_valueIn_31 rfl 0 rfl ?_
        refine x_get (v := .ref (xad G 47)) C.1 12 dX8_valueIn_32 (xc_0 G h4) rfl (by decide) rfl (fun w h => List.mem_cons_of_mem _ (wcWT w (iWC_X8 w h))) (by decide) rfl (C.1.2.2.2.2.1 _ (List.mem_cons_of_mem _ (wcWT _ qC_373))) ?_
        refine z_callVv C dX8_valueIn_35 (M_X5_fill G l N h4) (cwV 0 C.1.2.2.2.2.1 (gdV2 wcWT gWT (wcWT _ qC_439) (wcWT _ qC_440) (wcWT _ qC_441) (wcWT _ qC_295) (wcWT _ qC_311)) rfl rfl rfl (by decide +kernel) ⟨Nat.le_of_ble_eq_true rfl, Nat.le_of_ble_eq_true rfl⟩) (xc_47 G h4) (by decide) rfl rfl rfl (Nat.le_of_ble_eq_true rfl) (fun r5 h6 => ?_)
        refine x_aload_n C.1 dX8_valueIn_38 rfl 0 rfl ?_
        refine x_get (v := .ref (xad G 47)) C.1 12 dX8_valueIn_39 (xc_0 G h6) rfl (by decide) rfl (fun w h => List.mem_cons_of_mem _ (wcWT w (iWC_X8 w h))) (by decide) rfl (C.1.2.2.2.2.1 _ (List.mem_cons_of_mem _ (wcWT _ qC_373))) ?_
        refine x_get (v := .ref (xad G 48)) C.1 0 dX8_valueIn_42 (xc_47 G h6) rfl (by decide) rfl (fun w h => List.mem_cons_of_mem _ (wcWT w (iWC_X5 w h))) (by decide) rfl (C.1.2.2.2.2.1 _ (List.mem_cons_of_mem _ (wcWT _ qC_444))) ?_
        refine x_iload_n C.1 dX8_valueIn_45 rfl 1 rfl ?_
        refine x_zald (n := 1024) C.1 dX8_valueIn_46 (xc_48 G h6) (by decide) ?_
        refine x_if_ne (tgt := 54) C.1 dX8_valueIn_47 (by decide) ?_ ?_
        · refine x_ldc2 (v := (-9223372036854775808)) C.1 dX8_valueIn_50 (C.1.2.2.2.2.1 _ (List.mem_cons_of_mem _ (wcWT _ qC_395))) ?_
          exact x_lret C.1 dX8_valueIn_53 hr
        · refine x_aload_n C.1 dX8_valueIn_54 rfl 0 rfl ?_
          refine x_get (v := .ref (xad G 1)) C.1 0 dX8_valueIn_55 (xc_0 G h6) rfl (by decide) rfl (fun w h => List.mem_cons_of_mem _ (wcWT w (iWC_X8 w h))) (by decide) rfl (C.1.2.2.2.2.1 _ (List.mem_cons_of_mem _ (wcWT _ qC_363))) ?_
          refine x_get (v := .int (gI h6 1 3)) C.1 3 dX8_valueIn_58 (xc_1 G h6) rfl (by decide) rfl (fun w h => List.mem_cons_of_mem _ (wcWT w (iWC_X2 w h))) (by decide) rfl (C.1.2.2.2.2.1 _ (List.mem_cons_of_mem _ (wcWT _ qC_372))) ?_
          refine x_istore_n (lv' := [(3, .int (gI h6 1 3)), (0, .ref (xad G 0)), (1, .int p1), (2, .int p2)]) C.1 dX8_valueIn_61 rfl (by decide) rfl ?_
          refine x_aload_n C.1 dX8_valueIn_62 rfl 1 rfl ?_
          refine x_get (v := .ref (xad G 30)) C.1 7 dX8_valueIn_63 (xc_0 G h6) rfl (by decide) rfl (fun w h => List.mem_cons_of_mem _ (wcWT w (iWC_X8 w h))) (by decide) rfl (C.1.2.2.2.2.1 _ (List.mem_cons_of_mem _ (wcWT _ qC_418))) ?_
          refine x_iload_n C.1 dX8_valueIn_66 rfl 2 rfl ?_
          refine z_callVv C dX8_valueIn_67 (M_X1_giveRow_30 G l N p1 h6) (cwV 1 C.1.2.2.2.2.1 (gdV2 wcWT gWT (wcWT _ qC_449) (wcWT _ qC_450) (wcWT _ qC_451) (wcWT _ qC_32) (wcWT _ qC_124)) rfl rfl rfl (by decide +kernel) ⟨Nat.le_of_ble_eq_true rfl, Nat.le_of_ble_eq_true rfl⟩) (xc_30 G h6) (by decide) rfl rfl rfl (Nat.le_of_ble_eq_true rfl) (fun r7 h8 => ?_)
          refine x_iconst (v := 0) C.1 dX8_valueIn_70 (by decide) ?_
          refine x_istore (lv' := [(4, .int 0), (3, .int (gI h6 1 3)), (0, .ref (xad G 0)), (1, .int p1), (2, .int p2)]) C.1 dX8_valueIn_71 (by decide) rfl ?_
          exact x_sub [2, 4, 1, 0] rfl (T_X8_valueIn_73 C hr p2 (gI h6 1 3) 0 h8)
      · exact x_sub [] rfl (T_X8_valueIn_27 C hr h4)
/-! X8_valueIn_T: 69 instructions -/
abbrev J_X8_valueIn_T (G : xG) (p : Program) (l : Launch) (e : Env) (s : State) (m : MethodId) (args : Array Value) (below : List Frame) (meth : Method) (c : Code) : Nat → List (Nat × Value) → List Value → xHp → Option (Nat × xHp) → Prop := xJ G p l e ({ frames := 30, cells := 1, slots := 6, locals := 760 } : Room) s m args below meth c 6 (fun res => vx_MQ below yNl (xXC G res) args s 1 6 (xA G))
def F_X8_valueIn_T_27 (N : Nat) (h : xHp) : Option (Nat × xHp) := none
def F_X8_valueIn_T_73_b (N : Nat) (k73 : Int32 → Int32 → Int32 → xHp → Option (Nat × xHp)) (x2 : Int32) (x3 : Int32) (x4 : Int32) (h : xHp) : Option (Nat × xHp) := if (gI h 30 3) ≤ x4 then bnd2 (F_X2_valueOf N x2 h) fun r1 h2 => bnd2 (F_X2_cutTo N x3 h2) fun r3 h4 => none else bnd2 (F_X1_fromOf_30 N x4 h) fun r5 h6 => bnd2 (F_X1_toOf_30 N x4 h6) fun r7 h8 => bnd2 (F_X1_mostOf_30 N x4 h8) fun r9 h10 => bnd2 (F_X2_append N r5 r7 r9 h10) fun r11 h12 => k73 x2 x3 (x4 + 1) h12
def F_X8_valueIn_T_73 (N : Nat) (x2 : Int32) (x3 : Int32) (x4 : Int32) (h : xHp) : Option (Nat × xHp) := xit (F_X8_valueIn_T_73_b N) (fun _ _ _ _ => none) N x2 x3 x4 h
def F_X8_valueIn_T (N : Nat) (p1 : Int32) (p2 : Int32) (h : xHp) : Option (Nat × xHp) := orX (F_X8_requireVariable_T N p2 h) (bnd2 (F_X8_requireVariable N p2 h) fun r1 h2 => if (gI h2 0 9) = 0 then F_X8_valueIn_T_27 N h2 else if p1 < 0 then F_X8_valueIn_T_27 N h2 else bnd2 (F_X1_rows_30 N h2) fun r3 h4 => if p1 < r3 then bnd2 (F_X5_fill N h4) fun r5 h6 => grd (xin p1 1024) (if (gI h6 48 p1.toNatClampNeg) = 0 then none else bnd2 (F_X1_giveRow_30 N p1 h6) fun r7 h8 => F_X8_valueIn_T_73 N p2 (gI h6 1 3) 0 h8) else F_X8_valueIn_T_27 N h4)
set_option maxHeartbeats 4000000 in
set_option maxRecDepth 100000 in
theorem T_X8_valueIn_T_27 {G : xG} {p : Program} {l : Launch} {e : Env} {s : State} {m : MethodId} {args : Array Value} {below : List Frame} {meth : Method} {c : Code} {N : Nat} (C : xCz G p s m args meth c cX8_valueIn 6 vX8_valueIn RX8)  (hlt : l.stackTraces = false) (hex : ∀ x ∈ c.exceptionTable.toList, False) (h : xHp) : J_X8_valueIn_T G p l e s m args below meth c 27 [] [] h (F_X8_valueIn_T_27 N h) := by
  unfold F_X8_valueIn_T_27
  refine x_ldc2 (v := (-9223372036854775808)) C.1 dX8_valueIn_27 (C.1.2.2.2.2.1 _ (List.mem_cons_of_mem _ (wcWT _ qC_395))) ?_
  exact x_none
set_option maxHeartbeats 4000000 in
set_option maxRecDepth 100000 in
theorem T_X8_valueIn_T_73_b {G : xG} {p : Program} {l : Launch} {e : Env} {s : State} {m : MethodId} {args : Array Value} {below : List Frame} {meth : Method} {c : Code} {N : Nat} (C : xCz G p s m args meth c cX8_valueIn 6 vX8_valueIn RX8)  (hlt : l.stackTraces = false) (hex : ∀ x ∈ c.exceptionTable.toList, False) {k73 : Int32 → Int32 → Int32 → xHp → Option (Nat × xHp)} (hk73 : ∀ (x2 : Int32) (x3 : Int32) (x4 : Int32) (h : xHp), J_X8_valueIn_T G p l e s m args below meth c 73 [(0, .ref (xad G 0)), (2, .int x2), (3, .int x3), (4, .int x4)] [] h (k73 x2 x3 x4 h)) (x2 : Int32) (x3 : Int32) (x4 : Int32) (h : xHp) : J_X8_valueIn_T G p l e s m args below meth c 73 [(0, .ref (xad G 0)), (2, .int x2), (3, .int x3), (4, .int x4)] [] h (F_X8_valueIn_T_73_b N k73 x2 x3 x4 h) := by
  unfold F_X8_valueIn_T_73_b
  refine x_iload C.1 dX8_valueIn_73 3 rfl ?_
  refine x_aload_n C.1 dX8_valueIn_75 rfl 0 rfl ?_
  refine x_get (v := .ref (xad G 30)) C.1 7 dX8_valueIn_76 (xc_0 G h) rfl (by decide) rfl (fun w h => List.mem_cons_of_mem _ (wcWT w (iWC_X8 w h))) (by decide) rfl (C.1.2.2.2.2.1 _ (List.mem_cons_of_mem _ (wcWT _ qC_418))) ?_
  refine x_get (v := .int (gI h 30 3)) C.1 3 dX8_valueIn_79 (xc_30 G h) rfl (by decide) rfl (fun w h => List.mem_cons_of_mem _ (wcWT w (iWC_X1 w h))) (by decide) rfl (C.1.2.2.2.2.1 _ (List.mem_cons_of_mem _ (wcWT _ qC_421))) ?_
  refine x_icmp_ge (tgt := 125) C.1 dX8_valueIn_82 (by decide) ?_ ?_
  · refine x_aload_n C.1 dX8_valueIn_125 rfl 0 rfl ?_
    refine x_get (v := .ref (xad G 1)) C.1 0 dX8_valueIn_126 (xc_0 G h) rfl (by decide) rfl (fun w h => List.mem_cons_of_mem _ (wcWT w (iWC_X8 w h))) (by decide) rfl (C.1.2.2.2.2.1 _ (List.mem_cons_of_mem _ (wcWT _ qC_363))) ?_
    refine x_iload_n C.1 dX8_valueIn_129 rfl 1 rfl ?_
    refine z_callVl C dX8_valueIn_130 (M_X2_valueOf G l N x2 h) (cwV 1 C.1.2.2.2.2.1 (gdV2 wcWT gWT (wcWT _ qC_391) (wcWT _ qC_392) (wcWT _ qC_393) (wcWT _ qC_144) (wcWT _ qC_167)) rfl rfl rfl (by decide +kernel) ⟨Nat.le_of_ble_eq_true rfl, Nat.le_of_ble_eq_true rfl⟩) (xc_1 G h) (by decide) rfl rfl rfl (Nat.le_of_ble_eq_true rfl) (fun r1 h2 => ?_)
    refine x_lstore (lv' := [(4, .long r1), (0, .ref (xad G 0)), (2, .int x2), (3, .int x3)]) C.1 dX8_valueIn_133 (by decide) rfl ?_
    refine x_aload_n C.1 dX8_valueIn_135 rfl 1 rfl ?_
    refine x_get (v := .ref (xad G 1)) C.1 0 dX8_valueIn_136 (xc_0 G h2) rfl (by decide) rfl (fun w h => List.mem_cons_of_mem _ (wcWT w (iWC_X8 w h))) (by decide) rfl (C.1.2.2.2.2.1 _ (List.mem_cons_of_mem _ (wcWT _ qC_363))) ?_
    refine x_iload_n C.1 dX8_valueIn_139 rfl 3 rfl ?_
    refine z_callVv C dX8_valueIn_140 (M_X2_cutTo G l N x3 h2) (cwV 1 C.1.2.2.2.2.1 (gdV2 wcWT gWT (wcWT _ qC_388) (wcWT _ qC_306) (wcWT _ qC_307) (wcWT _ qC_144) (wcWT _ qC_165)) rfl rfl rfl (by decide +kernel) ⟨Nat.le_of_ble_eq_true rfl, Nat.le_of_ble_eq_true rfl⟩) (xc_1 G h2) (by decide) rfl rfl rfl (Nat.le_of_ble_eq_true rfl) (fun r3 h4 => ?_)
    refine x_lload C.1 dX8_valueIn_143 0 rfl ?_
    exact x_none
  · refine x_aload_n C.1 dX8_valueIn_85 rfl 0 rfl ?_
    refine x_get (v := .ref (xad G 1)) C.1 0 dX8_valueIn_86 (xc_0 G h) rfl (by decide) rfl (fun w h => List.mem_cons_of_mem _ (wcWT w (iWC_X8 w h))) (by decide) rfl (C.1.2.2.2.2.1 _ (List.mem_cons_of_mem _ (wcWT _ qC_363))) ?_
    refine x_aload_n C.1 dX8_valueIn_89 rfl 0 rfl ?_
    refine x_get (v := .ref (xad G 30)) C.1 7 dX8_valueIn_90 (xc_0 G h) rfl (by decide) rfl (fun w h => List.mem_cons_of_mem _ (wcWT w (iWC_X8 w h))) (by decide) rfl (C.1.2.2.2.2.1 _ (List.mem_cons_of_mem _ (wcWT _ qC_418))) ?_
    refine x_iload C.1 dX8_valueIn_93 3 rfl ?_
    refine z_callVi C dX8_valueIn_95 (M_X1_fromOf_30 G l N x4 h) (cwV 1 C.1.2.2.2.2.1 (gdV2 wcWT gWT (wcWT _ qC_452) (wcWT _ qC_67) (wcWT _ qC_68) (wcWT _ qC_32) (wcWT _ qC_57)) rfl rfl rfl (by decide +kernel) ⟨Nat.le_of_ble_eq_true rfl, Nat.le_of_ble_eq_true rfl⟩) (xc_30 G h) (by decide) rfl rfl rfl (Nat.le_of_ble_eq_true rfl) (fun r5 h6 => ?_)
    refine x_aload_n C.1 dX8_valueIn_98 rfl 0 rfl ?_
    refine x_get (v := .ref (xad G 30)) C.1 7 dX8_valueIn_99 (xc_0 G h6) rfl (by decide) rfl (fun w h => List.mem_cons_of_mem _ (wcWT w (iWC_X8 w h))) (by decide) rfl (C.1.2.2.2.2.1 _ (List.mem_cons_of_mem _ (wcWT _ qC_418))) ?_
    refine x_iload C.1 dX8_valueIn_102 3 rfl ?_
    refine z_callVi C dX8_valueIn_104 (M_X1_toOf_30 G l N x4 h6) (cwV 1 C.1.2.2.2.2.1 (gdV2 wcWT gWT (wcWT _ qC_453) (wcWT _ qC_70) (wcWT _ qC_71) (wcWT _ qC_32) (wcWT _ qC_60)) rfl rfl rfl (by decide +kernel) ⟨Nat.le_of_ble_eq_true rfl, Nat.le_of_ble_eq_true rfl⟩) (xc_30 G h6) (by decide) rfl rfl rfl (Nat.le_of_ble_eq_true rfl) (fun r7 h8 => ?_)
    refine x_aload_n C.1 dX8_valueIn_107 rfl 0 rfl ?_
    refine x_get (v := .ref (xad G 30)) C.1 7 dX8_valueIn_108 (xc_0 G h8) rfl (by decide) rfl (fun w h => List.mem_cons_of_mem _ (wcWT w (iWC_X8 w h))) (by decide) rfl (C.1.2.2.2.2.1 _ (List.mem_cons_of_mem _ (wcWT _ qC_418))) ?_
    refine x_iload C.1 dX8_valueIn_111 3 rfl ?_
    refine z_callVi C dX8_valueIn_113 (M_X1_mostOf_30 G l N x4 h8) (cwV 1 C.1.2.2.2.2.1 (gdV2 wcWT gWT (wcWT _ qC_454) (wcWT _ qC_73) (wcWT _ qC_74) (wcWT _ qC_32) (wcWT _ qC_61)) rfl rfl rfl (by decide +kernel) ⟨Nat.le_of_ble_eq_true rfl, Nat.le_of_ble_eq_true rfl⟩) (xc_30 G h8) (by decide) rfl rfl rfl (Nat.le_of_ble_eq_true rfl) (fun r9 h10 => ?_)
    refine z_callVv C dX8_valueIn_116 (M_X2_append G l N r5 r7 r9 h10) (cwV 3 C.1.2.2.2.2.1 (gdV2 wcWT gWT (wcWT _ qC_382) (wcWT _ qC_161) (wcWT _ qC_162) (wcWT _ qC_144) (wcWT _ qC_153)) rfl rfl rfl (by decide +kernel) ⟨Nat.le_of_ble_eq_true rfl, Nat.le_of_ble_eq_true rfl⟩) (xc_1 G h10) (by decide) rfl rfl rfl (Nat.le_of_ble_eq_true rfl) (fun r11 h12 => ?_)
    refine x_iinc (v := (x4 + 1)) (j := 3) (lv' := [(4, .int (x4 + 1)), (0, .ref (xad G 0)), (2, .int x2), (3, .int x3)]) C.1 dX8_valueIn_119 rfl (by rfl) (by decide) rfl ?_
    refine x_goto (tgt := 73) C.1 dX8_valueIn_122 (by decide) ?_
    exact x_sub [1, 2, 3, 0] rfl (hk73 x2 x3 (x4 + 1) h12)
set_option maxHeartbeats 4000000 in
set_option maxRecDepth 100000 in
theorem T_X8_valueIn_T_73_n {G : xG} {p : Program} {l : Launch} {e : Env} {s : State} {m : MethodId} {args : Array Value} {below : List Frame} {meth : Method} {c : Code} {N : Nat} (C : xCz G p s m args meth c cX8_valueIn 6 vX8_valueIn RX8)  (hlt : l.stackTraces = false) (hex : ∀ x ∈ c.exceptionTable.toList, False) : ∀ (n : Nat) (x2 : Int32) (x3 : Int32) (x4 : Int32) (h : xHp), J_X8_valueIn_T G p l e s m args below meth c 73 [(0, .ref (xad G 0)), (2, .int x2), (3, .int x3), (4, .int x4)] [] h (xit (F_X8_valueIn_T_73_b N) (fun _ _ _ _ => none) n x2 x3 x4 h) := by
  intro n
  induction n with
  | zero => intros; exact x_none
  | succ n ih => intros; exact T_X8_valueIn_T_73_b C hlt hex ih _ _ _ _
set_option maxHeartbeats 4000000 in
set_option maxRecDepth 100000 in
theorem T_X8_valueIn_T_73 {G : xG} {p : Program} {l : Launch} {e : Env} {s : State} {m : MethodId} {args : Array Value} {below : List Frame} {meth : Method} {c : Code} {N : Nat} (C : xCz G p s m args meth c cX8_valueIn 6 vX8_valueIn RX8)  (hlt : l.stackTraces = false) (hex : ∀ x ∈ c.exceptionTable.toList, False) (x2 : Int32) (x3 : Int32) (x4 : Int32) (h : xHp) : J_X8_valueIn_T G p l e s m args below meth c 73 [(0, .ref (xad G 0)), (2, .int x2), (3, .int x3), (4, .int x4)] [] h (F_X8_valueIn_T_73 N x2 x3 x4 h) := T_X8_valueIn_T_73_n C hlt hex N x2 x3 x4 h
set_option maxHeartbeats 4000000 in
set_option maxRecDepth 100000 in
theorem M_X8_valueIn_T (G : xG) (l : Launch) (hlt : l.stackTraces = false) (N : Nat) (p1 : Int32) (p2 : Int32) (h : xHp) : ∀ r, F_X8_valueIn_T N p1 p2 h = some r → vx_Met l yX8_valueIn vX8_valueIn ({ frames := 30, cells := 1, slots := 6, locals := 760 } : Room) (xPz G [.ref (xad G 0), .int p1, .int p2] h) yNl (xXC G r) 1 6 (xA G) := by
  refine y_met (own := RX8) (cc := cX8_valueIn) (maxL := 6) (ret := (some .long)) (lv0 := [(0, .ref (xad G 0)), (1, .int p1), (2, .int p2)]) (by decide +kernel) rfl rfl (Nat.le_of_ble_eq_true rfl) rfl ?_
  intro p e s m below meth c C hex
  unfold F_X8_valueIn_T
  refine x_aload_n C.1 dX8_valueIn_0 rfl 0 rfl ?_
  refine x_iload_n C.1 dX8_valueIn_1 rfl 2 rfl ?_
  refine y_callVv C hex dX8_valueIn_2 (M_X8_requireVariable_T G l hlt N p2 h) (cwV 1 C.1.2.2.2.2.1 (gdV gWT (wcWT _ qC_375) (wcWT _ qC_376) (wcWT _ qC_377) (wcWT _ qC_52) (wcWT _ qC_357)) rfl rfl rfl (by decide +kernel) ⟨Nat.le_of_ble_eq_true rfl, Nat.le_of_ble_eq_true rfl⟩) (xc_0 G h) (by decide) rfl rfl rfl (Nat.le_of_ble_eq_true rfl) (by decide) (by decide) ?_
  refine z_callVv C dX8_valueIn_2 (M_X8_requireVariable G l N p2 h) (cwV 1 C.1.2.2.2.2.1 (gdV gWT (wcWT _ qC_375) (wcWT _ qC_376) (wcWT _ qC_377) (wcWT _ qC_52) (wcWT _ qC_357)) rfl rfl rfl (by decide +kernel) ⟨Nat.le_of_ble_eq_true rfl, Nat.le_of_ble_eq_true rfl⟩) (xc_0 G h) (by decide) rfl rfl rfl (Nat.le_of_ble_eq_true rfl) (fun r1 h2 => ?_)
  refine x_aload_n C.1 dX8_valueIn_5 rfl 0 rfl ?_
  refine x_get (v := .int (gI h2 0 9)) C.1 9 dX8_valueIn_6 (xc_0 G h2) rfl (by decide) rfl (fun w h => List.mem_cons_of_mem _ (wcWT w (iWC_X8 w h))) (by decide) rfl (C.1.2.2.2.2.1 _ (List.mem_cons_of_mem _ (wcWT _ qC_420))) ?_
  refine x_if_eq (tgt := 27) C.1 dX8_valueIn_9 (by decide) ?_ ?_
  · exact x_sub [] rfl (T_X8_valueIn_T_27 C hlt hex h2)
  · refine x_iload_n C.1 dX8_valueIn_12 rfl 1 rfl ?_
    refine x_if_lt (tgt := 27) C.1 dX8_valueIn_13 (by decide) ?_ ?_
    · exact x_sub [] rfl (T_X8_valueIn_T_27 C hlt hex h2)
    · refine x_iload_n C.1 dX8_valueIn_16 rfl 1 rfl ?_
      refine x_aload_n C.1 dX8_valueIn_17 rfl 0 rfl ?_
      refine x_get (v := .ref (xad G 30)) C.1 7 dX8_valueIn_18 (xc_0 G h2) rfl (by decide) rfl (fun w h => List.mem_cons_of_mem _ (wcWT w (iWC_X8 w h))) (by decide) rfl (C.1.2.2.2.2.1 _ (List.mem_cons_of_mem _ (wcWT _ qC_418))) ?_
      refine z_callVi C dX8_valueIn_21 (M_X1_rows_30 G l N h2) (cwV 0 C.1.2.2.2.2.1 (gdV2 wcWT gWT (wcWT _ qC_445) (wcWT _ qC_446) (wcWT _ qC_447) (wcWT _ qC_32) (wcWT _ qC_110)) rfl rfl rfl (by decide +kernel) ⟨Nat.le_of_ble_eq_true rfl, Nat.le_of_ble_eq_true rfl⟩) (xc_30 G h2) (by decide) rfl rfl rfl (Nat.le_of_ble_eq_true rfl) (fun r3 h4 => ?_)
      refine x_icmp_lt (tgt := 31) C.1 dX8_valueIn_24 (by decide) ?_ ?_
      · refine x_aload_n C.1 dX8_valueIn_31 rfl 0 rfl ?_
        refine x_get (v := .ref (xad G 47)) C.1 12 dX8_valueIn_32 (xc_0 G h4) rfl (by decide) rfl (fun w h => List.mem_cons_of_mem _ (wcWT w (iWC_X8 w h))) (by decide) rfl (C.1.2.2.2.2.1 _ (List.mem_cons_of_mem _ (wcWT _ qC_373))) ?_
        refine z_callVv C dX8_valueIn_35 (M_X5_fill G l N h4) (cwV 0 C.1.2.2.2.2.1 (gdV2 wcWT gWT (wcWT _ qC_439) (wcWT _ qC_440) (wcWT _ qC_441) (wcWT _ qC_295) (wcWT _ qC_311)) rfl rfl rfl (by decide +kernel) ⟨Nat.le_of_ble_eq_true rfl, Nat.le_of_ble_eq_true rfl⟩) (xc_47 G h4) (by decide) rfl rfl rfl (Nat.le_of_ble_eq_true rfl) (fun r5 h6 => ?_)
        refine x_aload_n C.1 dX8_valueIn_38 rfl 0 rfl ?_
        refine x_get (v := .ref (xad G 47)) C.1 12 dX8_valueIn_39 (xc_0 G h6) rfl (by decide) rfl (fun w h => List.mem_cons_of_mem _ (wcWT w (iWC_X8 w h))) (by decide) rfl (C.1.2.2.2.2.1 _ (List.mem_cons_of_mem _ (wcWT _ qC_373))) ?_
        refine x_get (v := .ref (xad G 48)) C.1 0 dX8_valueIn_42 (xc_47 G h6) rfl (by decide) rfl (fun w h => List.mem_cons_of_mem _ (wcWT w (iWC_X5 w h))) (by decide) rfl (C.1.2.2.2.2.1 _ (List.mem_cons_of_mem _ (wcWT _ qC_444))) ?_
        refine x_iload_n C.1 dX8_valueIn_45 rfl 1 rfl ?_
        refine x_zald (n := 1024) C.1 dX8_valueIn_46 (xc_48 G h6) (by decide) ?_
        refine x_if_ne (tgt := 54) C.1 dX8_valueIn_47 (by decide) ?_ ?_
        · refine x_ldc2 (v := (-9223372036854775808)) C.1 dX8_valueIn_50 (C.1.2.2.2.2.1 _ (List.mem_cons_of_mem _ (wcWT _ qC_395))) ?_
          exact x_none
        · refine x_aload_n C.1 dX8_valueIn_54 rfl 0 rfl ?_
          refine x_get (v := .ref (xad G 1)) C.1 0 dX8_valueIn_55 (xc_0 G h6) rfl (by decide) rfl (fun w h => List.mem_cons_of_mem _ (wcWT w (iWC_X8 w h))) (by decide) rfl (C.1.2.2.2.2.1 _ (List.mem_cons_of_mem _ (wcWT _ qC_363))) ?_
          refine x_get (v := .int (gI h6 1 3)) C.1 3 dX8_valueIn_58 (xc_1 G h6) rfl (by decide) rfl (fun w h => List.mem_cons_of_mem _ (wcWT w (iWC_X2 w h))) (by decide) rfl (C.1.2.2.2.2.1 _ (List.mem_cons_of_mem _ (wcWT _ qC_372))) ?_
          refine x_istore_n (lv' := [(3, .int (gI h6 1 3)), (0, .ref (xad G 0)), (1, .int p1), (2, .int p2)]) C.1 dX8_valueIn_61 rfl (by decide) rfl ?_
          refine x_aload_n C.1 dX8_valueIn_62 rfl 1 rfl ?_
          refine x_get (v := .ref (xad G 30)) C.1 7 dX8_valueIn_63 (xc_0 G h6) rfl (by decide) rfl (fun w h => List.mem_cons_of_mem _ (wcWT w (iWC_X8 w h))) (by decide) rfl (C.1.2.2.2.2.1 _ (List.mem_cons_of_mem _ (wcWT _ qC_418))) ?_
          refine x_iload_n C.1 dX8_valueIn_66 rfl 2 rfl ?_
          refine z_callVv C dX8_valueIn_67 (M_X1_giveRow_30 G l N p1 h6) (cwV 1 C.1.2.2.2.2.1 (gdV2 wcWT gWT (wcWT _ qC_449) (wcWT _ qC_450) (wcWT _ qC_451) (wcWT _ qC_32) (wcWT _ qC_124)) rfl rfl rfl (by decide +kernel) ⟨Nat.le_of_ble_eq_true rfl, Nat.le_of_ble_eq_true rfl⟩) (xc_30 G h6) (by decide) rfl rfl rfl (Nat.le_of_ble_eq_true rfl) (fun r7 h8 => ?_)
          refine x_iconst (v := 0) C.1 dX8_valueIn_70 (by decide) ?_
          refine x_istore (lv' := [(4, .int 0), (3, .int (gI h6 1 3)), (0, .ref (xad G 0)), (1, .int p1), (2, .int p2)]) C.1 dX8_valueIn_71 (by decide) rfl ?_
          exact x_sub [2, 4, 1, 0] rfl (T_X8_valueIn_T_73 C hlt hex p2 (gI h6 1 3) 0 h8)
      · exact x_sub [] rfl (T_X8_valueIn_T_27 C hlt hex h4)
/-! X8_why: 43 instructions -/
abbrev J_X8_why (G : xG) (p : Program) (l : Launch) (e : Env) (s : State) (m : MethodId) (args : Array Value) (below : List Frame) (meth : Method) (c : Code) : Nat → List (Nat × Value) → List Value → xHp → Option (Int32 × xHp) → Prop := xJ G p l e ({ frames := 3, cells := 0, slots := 0, locals := 130 } : Room) s m args below meth c 6 (fun res => MQ below (xQi G res) args s 0 0 (xA G))
def F_X8_why_69 (N : Nat) (h : xHp) : Option (Int32 × xHp) := some ((-1), h)
def F_X8_why (N : Nat) (p1 : Int32) (p2 : Int32) (p3 : Int32) (h : xHp) : Option (Int32 × xHp) := bnd2 (F_X8_requireVariable N p1 h) fun r1 h2 => bnd2 (F_X8_requireVariable N p2 h2) fun r3 h4 => if 0 ≤ p3 then bnd2 (F_X2_leastSum N p1 p2 (-1) h4) fun r5 h6 => if (lg_cmp r5 9223372036854775807) = 0 then F_X8_why_69 N h6 else bnd2 (F_X2_traceRow N p1 r5 h6) fun r7 h8 => if r7 = 0 then F_X8_why_69 N h8 else if p3 < (gI h8 1 5) then grd (xin p3 16) (some ((gI h8 5 p3.toNatClampNeg), h8)) else F_X8_why_69 N h8 else none
set_option maxHeartbeats 4000000 in
set_option maxRecDepth 100000 in
theorem T_X8_why_69 {G : xG} {p : Program} {l : Launch} {e : Env} {s : State} {m : MethodId} {args : Array Value} {below : List Frame} {meth : Method} {c : Code} {N : Nat} (C : xCz G p s m args meth c cX8_why 6 vX8_why RX8) (hr : meth.sig.returnType = (some .int)) (h : xHp) : J_X8_why G p l e s m args below meth c 69 [] [] h (F_X8_why_69 N h) := by
  unfold F_X8_why_69
  refine x_iconst (v := (-1)) C.1 dX8_why_69 (by decide) ?_
  exact x_iret C.1 dX8_why_70 hr
set_option maxHeartbeats 4000000 in
set_option maxRecDepth 100000 in
theorem M_X8_why (G : xG) (l : Launch) (N : Nat) (p1 : Int32) (p2 : Int32) (p3 : Int32) (h : xHp) : ∀ r, F_X8_why N p1 p2 p3 h = some r → Met l yX8_why vX8_why ({ frames := 3, cells := 0, slots := 0, locals := 130 } : Room) (xPz G [.ref (xad G 0), .int p1, .int p2, .int p3] h) (xQi G r) 0 0 (xA G) := by
  refine z_met (own := RX8) (cc := cX8_why) (maxL := 6) (ret := (some .int)) (lv0 := [(0, .ref (xad G 0)), (1, .int p1), (2, .int p2), (3, .int p3)]) (by decide +kernel) rfl rfl (Nat.le_of_ble_eq_true rfl) rfl ?_
  intro p e s m below meth c C hr
  unfold F_X8_why
  refine x_aload_n C.1 dX8_why_0 rfl 0 rfl ?_
  refine x_iload_n C.1 dX8_why_1 rfl 1 rfl ?_
  refine z_callVv C dX8_why_2 (M_X8_requireVariable G l N p1 h) (cwV 1 C.1.2.2.2.2.1 (gdV gWT (wcWT _ qC_375) (wcWT _ qC_376) (wcWT _ qC_377) (wcWT _ qC_52) (wcWT _ qC_357)) rfl rfl rfl (by decide +kernel) ⟨Nat.le_of_ble_eq_true rfl, Nat.le_of_ble_eq_true rfl⟩) (xc_0 G h) (by decide) rfl rfl rfl (Nat.le_of_ble_eq_true rfl) (fun r1 h2 => ?_)
  refine x_aload_n C.1 dX8_why_5 rfl 0 rfl ?_
  refine x_iload_n C.1 dX8_why_6 rfl 2 rfl ?_
  refine z_callVv C dX8_why_7 (M_X8_requireVariable G l N p2 h2) (cwV 1 C.1.2.2.2.2.1 (gdV gWT (wcWT _ qC_375) (wcWT _ qC_376) (wcWT _ qC_377) (wcWT _ qC_52) (wcWT _ qC_357)) rfl rfl rfl (by decide +kernel) ⟨Nat.le_of_ble_eq_true rfl, Nat.le_of_ble_eq_true rfl⟩) (xc_0 G h2) (by decide) rfl rfl rfl (Nat.le_of_ble_eq_true rfl) (fun r3 h4 => ?_)
  refine x_iload_n C.1 dX8_why_10 rfl 3 rfl ?_
  refine x_if_ge (tgt := 24) C.1 dX8_why_11 (by decide) ?_ ?_
  · refine x_aload_n C.1 dX8_why_24 rfl 0 rfl ?_
    refine x_get (v := .ref (xad G 1)) C.1 0 dX8_why_25 (xc_0 G h4) rfl (by decide) rfl (fun w h => List.mem_cons_of_mem _ (wcWT w (iWC_X8 w h))) (by decide) rfl (C.1.2.2.2.2.1 _ (List.mem_cons_of_mem _ (wcWT _ qC_363))) ?_
    refine x_iload_n C.1 dX8_why_28 rfl 1 rfl ?_
    refine x_iload_n C.1 dX8_why_29 rfl 2 rfl ?_
    refine x_iconst (v := (-1)) C.1 dX8_why_30 (by decide) ?_
    refine z_callVl C dX8_why_31 (M_X2_leastSum G l N p1 p2 (-1) h4) (cwV 3 C.1.2.2.2.2.1 (gdV2 wcWT gWT (wcWT _ qC_396) (wcWT _ qC_397) (wcWT _ qC_398) (wcWT _ qC_144) (wcWT _ qC_166)) rfl rfl rfl (by decide +kernel) ⟨Nat.le_of_ble_eq_true rfl, Nat.le_of_ble_eq_true rfl⟩) (xc_1 G h4) (by decide) rfl rfl rfl (Nat.le_of_ble_eq_true rfl) (fun r5 h6 => ?_)
    refine x_lstore (lv' := [(4, .long r5), (0, .ref (xad G 0)), (1, .int p1), (2, .int p2), (3, .int p3)]) C.1 dX8_why_34 (by decide) rfl ?_
    refine x_lload C.1 dX8_why_36 0 rfl ?_
    refine x_ldc2 (v := 9223372036854775807) C.1 dX8_why_38 (C.1.2.2.2.2.1 _ (List.mem_cons_of_mem _ (wcWT _ qC_394))) ?_
    refine x_lcmp C.1 dX8_why_41 ?_
    refine x_if_eq (tgt := 69) C.1 dX8_why_42 (by decide) ?_ ?_
    · exact x_sub [] rfl (T_X8_why_69 C hr h6)
    · refine x_aload_n C.1 dX8_why_45 rfl 1 rfl ?_
      refine x_get (v := .ref (xad G 1)) C.1 0 dX8_why_46 (xc_0 G h6) rfl (by decide) rfl (fun w h => List.mem_cons_of_mem _ (wcWT w (iWC_X8 w h))) (by decide) rfl (C.1.2.2.2.2.1 _ (List.mem_cons_of_mem _ (wcWT _ qC_363))) ?_
      refine x_iload_n C.1 dX8_why_49 rfl 2 rfl ?_
      refine x_lload C.1 dX8_why_50 0 rfl ?_
      refine z_callVi C dX8_why_52 (M_X2_traceRow G l N p1 r5 h6) (cwV 2 C.1.2.2.2.2.1 (gdV2 wcWT gWT (wcWT _ qC_400) (wcWT _ qC_150) (wcWT _ qC_151) (wcWT _ qC_144) (wcWT _ qC_138)) rfl rfl rfl (by decide +kernel) ⟨Nat.le_of_ble_eq_true rfl, Nat.le_of_ble_eq_true rfl⟩) (xc_1 G h6) (by decide) rfl rfl rfl (Nat.le_of_ble_eq_true rfl) (fun r7 h8 => ?_)
      refine x_if_eq (tgt := 69) C.1 dX8_why_55 (by decide) ?_ ?_
      · exact x_sub [] rfl (T_X8_why_69 C hr h8)
      · refine x_iload_n C.1 dX8_why_58 rfl 4 rfl ?_
        refine x_aload_n C.1 dX8_why_59 rfl 1 rfl ?_
        refine x_get (v := .ref (xad G 1)) C.1 0 dX8_why_60 (xc_0 G h8) rfl (by decide) rfl (fun w h => List.mem_cons_of_mem _ (wcWT w (iWC_X8 w h))) (by decide) rfl (C.1.2.2.2.2.1 _ (List.mem_cons_of_mem _ (wcWT _ qC_363))) ?_
        refine x_get (v := .int (gI h8 1 5)) C.1 5 dX8_why_63 (xc_1 G h8) rfl (by decide) rfl (fun w h => List.mem_cons_of_mem _ (wcWT w (iWC_X2 w h))) (by decide) rfl (C.1.2.2.2.2.1 _ (List.mem_cons_of_mem _ (wcWT _ qC_364))) ?_
        refine x_icmp_lt (tgt := 71) C.1 dX8_why_66 (by decide) ?_ ?_
        · refine x_aload_n C.1 dX8_why_71 rfl 1 rfl ?_
          refine x_get (v := .ref (xad G 1)) C.1 0 dX8_why_72 (xc_0 G h8) rfl (by decide) rfl (fun w h => List.mem_cons_of_mem _ (wcWT w (iWC_X8 w h))) (by decide) rfl (C.1.2.2.2.2.1 _ (List.mem_cons_of_mem _ (wcWT _ qC_363))) ?_
          refine x_get (v := .ref (xad G 5)) C.1 4 dX8_why_75 (xc_1 G h8) rfl (by decide) rfl (fun w h => List.mem_cons_of_mem _ (wcWT w (iWC_X2 w h))) (by decide) rfl (C.1.2.2.2.2.1 _ (List.mem_cons_of_mem _ (wcWT _ qC_365))) ?_
          refine x_iload_n C.1 dX8_why_78 rfl 4 rfl ?_
          refine x_iald (n := 16) C.1 dX8_why_79 (xc_5 G h8) (by decide) ?_
          exact x_iret C.1 dX8_why_80 hr
        · exact x_sub [] rfl (T_X8_why_69 C hr h8)
  · exact x_none
/-! X8_why_T: 43 instructions -/
abbrev J_X8_why_T (G : xG) (p : Program) (l : Launch) (e : Env) (s : State) (m : MethodId) (args : Array Value) (below : List Frame) (meth : Method) (c : Code) : Nat → List (Nat × Value) → List Value → xHp → Option (Nat × xHp) → Prop := xJ G p l e ({ frames := 7, cells := 1, slots := 6, locals := 130 } : Room) s m args below meth c 6 (fun res => vx_MQ below yNi (xXC G res) args s 1 6 (xA G))
def F_X8_why_T_69 (N : Nat) (h : xHp) : Option (Nat × xHp) := none
def F_X8_why_T (N : Nat) (p1 : Int32) (p2 : Int32) (p3 : Int32) (h : xHp) : Option (Nat × xHp) := orX (F_X8_requireVariable_T N p1 h) (bnd2 (F_X8_requireVariable N p1 h) fun r1 h2 => orX (F_X8_requireVariable_T N p2 h2) (bnd2 (F_X8_requireVariable N p2 h2) fun r3 h4 => if 0 ≤ p3 then bnd2 (F_X2_leastSum N p1 p2 (-1) h4) fun r5 h6 => if (lg_cmp r5 9223372036854775807) = 0 then F_X8_why_T_69 N h6 else bnd2 (F_X2_traceRow N p1 r5 h6) fun r7 h8 => if r7 = 0 then F_X8_why_T_69 N h8 else if p3 < (gI h8 1 5) then grd (xin p3 16) (none) else F_X8_why_T_69 N h8 else some (2, h4)))
set_option maxHeartbeats 4000000 in
set_option maxRecDepth 100000 in
theorem T_X8_why_T_69 {G : xG} {p : Program} {l : Launch} {e : Env} {s : State} {m : MethodId} {args : Array Value} {below : List Frame} {meth : Method} {c : Code} {N : Nat} (C : xCz G p s m args meth c cX8_why 6 vX8_why RX8)  (hlt : l.stackTraces = false) (hex : ∀ x ∈ c.exceptionTable.toList, False) (h : xHp) : J_X8_why_T G p l e s m args below meth c 69 [] [] h (F_X8_why_T_69 N h) := by
  unfold F_X8_why_T_69
  refine x_iconst (v := (-1)) C.1 dX8_why_69 (by decide) ?_
  exact x_none
set_option maxHeartbeats 4000000 in
set_option maxRecDepth 100000 in
theorem M_X8_why_T (G : xG) (l : Launch) (hlt : l.stackTraces = false) (N : Nat) (p1 : Int32) (p2 : Int32) (p3 : Int32) (h : xHp) : ∀ r, F_X8_why_T N p1 p2 p3 h = some r → vx_Met l yX8_why vX8_why ({ frames := 7, cells := 1, slots := 6, locals := 130 } : Room) (xPz G [.ref (xad G 0), .int p1, .int p2, .int p3] h) yNi (xXC G r) 1 6 (xA G) := by
  refine y_met (own := RX8) (cc := cX8_why) (maxL := 6) (ret := (some .int)) (lv0 := [(0, .ref (xad G 0)), (1, .int p1), (2, .int p2), (3, .int p3)]) (by decide +kernel) rfl rfl (Nat.le_of_ble_eq_true rfl) rfl ?_
  intro p e s m below meth c C hex
  unfold F_X8_why_T
  refine x_aload_n C.1 dX8_why_0 rfl 0 rfl ?_
  refine x_iload_n C.1 dX8_why_1 rfl 1 rfl ?_
  refine y_callVv C hex dX8_why_2 (M_X8_requireVariable_T G l hlt N p1 h) (cwV 1 C.1.2.2.2.2.1 (gdV gWT (wcWT _ qC_375) (wcWT _ qC_376) (wcWT _ qC_377) (wcWT _ qC_52) (wcWT _ qC_357)) rfl rfl rfl (by decide +kernel) ⟨Nat.le_of_ble_eq_true rfl, Nat.le_of_ble_eq_true rfl⟩) (xc_0 G h) (by decide) rfl rfl rfl (Nat.le_of_ble_eq_true rfl) (by decide) (by decide) ?_
  refine z_callVv C dX8_why_2 (M_X8_requireVariable G l N p1 h) (cwV 1 C.1.2.2.2.2.1 (gdV gWT (wcWT _ qC_375) (wcWT _ qC_376) (wcWT _ qC_377) (wcWT _ qC_52) (wcWT _ qC_357)) rfl rfl rfl (by decide +kernel) ⟨Nat.le_of_ble_eq_true rfl, Nat.le_of_ble_eq_true rfl⟩) (xc_0 G h) (by decide) rfl rfl rfl (Nat.le_of_ble_eq_true rfl) (fun r1 h2 => ?_)
  refine x_aload_n C.1 dX8_why_5 rfl 0 rfl ?_
  refine x_iload_n C.1 dX8_why_6 rfl 2 rfl ?_
  refine y_callVv C hex dX8_why_7 (M_X8_requireVariable_T G l hlt N p2 h2) (cwV 1 C.1.2.2.2.2.1 (gdV gWT (wcWT _ qC_375) (wcWT _ qC_376) (wcWT _ qC_377) (wcWT _ qC_52) (wcWT _ qC_357)) rfl rfl rfl (by decide +kernel) ⟨Nat.le_of_ble_eq_true rfl, Nat.le_of_ble_eq_true rfl⟩) (xc_0 G h2) (by decide) rfl rfl rfl (Nat.le_of_ble_eq_true rfl) (by decide) (by decide) ?_
  refine z_callVv C dX8_why_7 (M_X8_requireVariable G l N p2 h2) (cwV 1 C.1.2.2.2.2.1 (gdV gWT (wcWT _ qC_375) (wcWT _ qC_376) (wcWT _ qC_377) (wcWT _ qC_52) (wcWT _ qC_357)) rfl rfl rfl (by decide +kernel) ⟨Nat.le_of_ble_eq_true rfl, Nat.le_of_ble_eq_true rfl⟩) (xc_0 G h2) (by decide) rfl rfl rfl (Nat.le_of_ble_eq_true rfl) (fun r3 h4 => ?_)
  refine x_iload_n C.1 dX8_why_10 rfl 3 rfl ?_
  refine x_if_ge (tgt := 24) C.1 dX8_why_11 (by decide) ?_ ?_
  · refine x_aload_n C.1 dX8_why_24 rfl 0 rfl ?_
    refine x_get (v := .ref (xad G 1)) C.1 0 dX8_why_25 (xc_0 G h4) rfl (by decide) rfl (fun w h => List.mem_cons_of_mem _ (wcWT w (iWC_X8 w h))) (by decide) rfl (C.1.2.2.2.2.1 _ (List.mem_cons_of_mem _ (wcWT _ qC_363))) ?_
    refine x_iload_n C.1 dX8_why_28 rfl 1 rfl ?_
    refine x_iload_n C.1 dX8_why_29 rfl 2 rfl ?_
    refine x_iconst (v := (-1)) C.1 dX8_why_30 (by decide) ?_
    refine z_callVl C dX8_why_31 (M_X2_leastSum G l N p1 p2 (-1) h4) (cwV 3 C.1.2.2.2.2.1 (gdV2 wcWT gWT (wcWT _ qC_396) (wcWT _ qC_397) (wcWT _ qC_398) (wcWT _ qC_144) (wcWT _ qC_166)) rfl rfl rfl (by decide +kernel) ⟨Nat.le_of_ble_eq_true rfl, Nat.le_of_ble_eq_true rfl⟩) (xc_1 G h4) (by decide) rfl rfl rfl (Nat.le_of_ble_eq_true rfl) (fun r5 h6 => ?_)
    refine x_lstore (lv' := [(4, .long r5), (0, .ref (xad G 0)), (1, .int p1), (2, .int p2), (3, .int p3)]) C.1 dX8_why_34 (by decide) rfl ?_
    refine x_lload C.1 dX8_why_36 0 rfl ?_
    refine x_ldc2 (v := 9223372036854775807) C.1 dX8_why_38 (C.1.2.2.2.2.1 _ (List.mem_cons_of_mem _ (wcWT _ qC_394))) ?_
    refine x_lcmp C.1 dX8_why_41 ?_
    refine x_if_eq (tgt := 69) C.1 dX8_why_42 (by decide) ?_ ?_
    · exact x_sub [] rfl (T_X8_why_T_69 C hlt hex h6)
    · refine x_aload_n C.1 dX8_why_45 rfl 1 rfl ?_
      refine x_get (v := .ref (xad G 1)) C.1 0 dX8_why_46 (xc_0 G h6) rfl (by decide) rfl (fun w h => List.mem_cons_of_mem _ (wcWT w (iWC_X8 w h))) (by decide) rfl (C.1.2.2.2.2.1 _ (List.mem_cons_of_mem _ (wcWT _ qC_363))) ?_
      refine x_iload_n C.1 dX8_why_49 rfl 2 rfl ?_
      refine x_lload C.1 dX8_why_50 0 rfl ?_
      refine z_callVi C dX8_why_52 (M_X2_traceRow G l N p1 r5 h6) (cwV 2 C.1.2.2.2.2.1 (gdV2 wcWT gWT (wcWT _ qC_400) (wcWT _ qC_150) (wcWT _ qC_151) (wcWT _ qC_144) (wcWT _ qC_138)) rfl rfl rfl (by decide +kernel) ⟨Nat.le_of_ble_eq_true rfl, Nat.le_of_ble_eq_true rfl⟩) (xc_1 G h6) (by decide) rfl rfl rfl (Nat.le_of_ble_eq_true rfl) (fun r7 h8 => ?_)
      refine x_if_eq (tgt := 69) C.1 dX8_why_55 (by decide) ?_ ?_
      · exact x_sub [] rfl (T_X8_why_T_69 C hlt hex h8)
      · refine x_iload_n C.1 dX8_why_58 rfl 4 rfl ?_
        refine x_aload_n C.1 dX8_why_59 rfl 1 rfl ?_
        refine x_get (v := .ref (xad G 1)) C.1 0 dX8_why_60 (xc_0 G h8) rfl (by decide) rfl (fun w h => List.mem_cons_of_mem _ (wcWT w (iWC_X8 w h))) (by decide) rfl (C.1.2.2.2.2.1 _ (List.mem_cons_of_mem _ (wcWT _ qC_363))) ?_
        refine x_get (v := .int (gI h8 1 5)) C.1 5 dX8_why_63 (xc_1 G h8) rfl (by decide) rfl (fun w h => List.mem_cons_of_mem _ (wcWT w (iWC_X2 w h))) (by decide) rfl (C.1.2.2.2.2.1 _ (List.mem_cons_of_mem _ (wcWT _ qC_364))) ?_
        refine x_icmp_lt (tgt := 71) C.1 dX8_why_66 (by decide) ?_ ?_
        · refine x_aload_n C.1 dX8_why_71 rfl 1 rfl ?_
          refine x_get (v := .ref (xad G 1)) C.1 0 dX8_why_72 (xc_0 G h8) rfl (by decide) rfl (fun w h => List.mem_cons_of_mem _ (wcWT w (iWC_X8 w h))) (by decide) rfl (C.1.2.2.2.2.1 _ (List.mem_cons_of_mem _ (wcWT _ qC_363))) ?_
          refine x_get (v := .ref (xad G 5)) C.1 4 dX8_why_75 (xc_1 G h8) rfl (by decide) rfl (fun w h => List.mem_cons_of_mem _ (wcWT w (iWC_X2 w h))) (by decide) rfl (C.1.2.2.2.2.1 _ (List.mem_cons_of_mem _ (wcWT _ qC_365))) ?_
          refine x_iload_n C.1 dX8_why_78 rfl 4 rfl ?_
          refine x_iald (n := 16) C.1 dX8_why_79 (xc_5 G h8) (by decide) ?_
          exact x_none
        · exact x_sub [] rfl (T_X8_why_T_69 C hlt hex h8)
  · obtain ⟨sa, hsa⟩ := C.2.2.2.2.2.1.2.2.2.2.2.1
    exact y_throw_2 C hlt hex hsa dX8_why_14 dX8_why_17 dX8_why_18 dX8_why_20 dX8_why_23 (by decide) (by decide) (by decide) (by decide)
/-! X8_written: 17 instructions -/
abbrev J_X8_written (G : xG) (p : Program) (l : Launch) (e : Env) (s : State) (m : MethodId) (args : Array Value) (below : List Frame) (meth : Method) (c : Code) : Nat → List (Nat × Value) → List Value → xHp → Option (Int32 × xHp) → Prop := xJ G p l e ({ frames := 1, cells := 0, slots := 0, locals := 21 } : Room) s m args below meth c 2 (fun res => MQ below (xQi G res) args s 0 0 (xA G))
def F_X8_written_15 (N : Nat) (h : xHp) : Option (Int32 × xHp) := none
def F_X8_written (N : Nat) (p1 : Int32) (h : xHp) : Option (Int32 × xHp) := if p1 < 0 then F_X8_written_15 N h else if p1 < (gI h 28 1) then bnd2 (F_X6_at_28 N p1 h) fun r1 h2 => some (r1, h2) else F_X8_written_15 N h
set_option maxHeartbeats 4000000 in
set_option maxRecDepth 100000 in
theorem T_X8_written_15 {G : xG} {p : Program} {l : Launch} {e : Env} {s : State} {m : MethodId} {args : Array Value} {below : List Frame} {meth : Method} {c : Code} {N : Nat} (C : xCz G p s m args meth c cX8_written 2 vX8_written RX8) (hr : meth.sig.returnType = (some .int)) (h : xHp) : J_X8_written G p l e s m args below meth c 15 [] [] h (F_X8_written_15 N h) := by
  unfold F_X8_written_15
  exact x_none
set_option maxHeartbeats 4000000 in
set_option maxRecDepth 100000 in
theorem M_X8_written (G : xG) (l : Launch) (N : Nat) (p1 : Int32) (h : xHp) : ∀ r, F_X8_written N p1 h = some r → Met l yX8_written vX8_written ({ frames := 1, cells := 0, slots := 0, locals := 21 } : Room) (xPz G [.ref (xad G 0), .int p1] h) (xQi G r) 0 0 (xA G) := by
  refine z_met (own := RX8) (cc := cX8_written) (maxL := 2) (ret := (some .int)) (lv0 := [(0, .ref (xad G 0)), (1, .int p1)]) (by decide +kernel) rfl rfl (Nat.le_of_ble_eq_true rfl) rfl ?_
  intro p e s m below meth c C hr
  unfold F_X8_written
  refine x_iload_n C.1 dX8_written_0 rfl 1 rfl ?_
  refine x_if_lt (tgt := 15) C.1 dX8_written_1 (by decide) ?_ ?_
  · exact x_sub [] rfl (T_X8_written_15 C hr h)
  · refine x_iload_n C.1 dX8_written_4 rfl 1 rfl ?_
    refine x_aload_n C.1 dX8_written_5 rfl 0 rfl ?_
    refine x_get (v := .ref (xad G 28)) C.1 6 dX8_written_6 (xc_0 G h) rfl (by decide) rfl (fun w h => List.mem_cons_of_mem _ (wcWT w (iWC_X8 w h))) (by decide) rfl (C.1.2.2.2.2.1 _ (List.mem_cons_of_mem _ (wcWT _ qC_460))) ?_
    refine x_get (v := .int (gI h 28 1)) C.1 1 dX8_written_9 (xc_28 G h) rfl (by decide) rfl (fun w h => List.mem_cons_of_mem _ (wcWT w (iWC_X6 w h))) (by decide) rfl (C.1.2.2.2.2.1 _ (List.mem_cons_of_mem _ (wcWT _ qC_412))) ?_
    refine x_icmp_lt (tgt := 26) C.1 dX8_written_12 (by decide) ?_ ?_
    · refine x_aload_n C.1 dX8_written_26 rfl 0 rfl ?_
      refine x_get (v := .ref (xad G 28)) C.1 6 dX8_written_27 (xc_0 G h) rfl (by decide) rfl (fun w h => List.mem_cons_of_mem _ (wcWT w (iWC_X8 w h))) (by decide) rfl (C.1.2.2.2.2.1 _ (List.mem_cons_of_mem _ (wcWT _ qC_460))) ?_
      refine x_iload_n C.1 dX8_written_30 rfl 1 rfl ?_
      refine z_callVi C dX8_written_31 (M_X6_at_28 G l N p1 h) (cwV 1 C.1.2.2.2.2.1 (gdV2 wcWT gWT (wcWT _ qC_467) (wcWT _ qC_14) (wcWT _ qC_15) (wcWT _ qC_16) (wcWT _ qC_7)) rfl rfl rfl (by decide +kernel) ⟨Nat.le_of_ble_eq_true rfl, Nat.le_of_ble_eq_true rfl⟩) (xc_28 G h) (by decide) rfl rfl rfl (Nat.le_of_ble_eq_true rfl) (fun r1 h2 => ?_)
      exact x_iret C.1 dX8_written_34 hr
    · exact x_sub [] rfl (T_X8_written_15 C hr h)
/-! X8_written_T: 17 instructions -/
abbrev J_X8_written_T (G : xG) (p : Program) (l : Launch) (e : Env) (s : State) (m : MethodId) (args : Array Value) (below : List Frame) (meth : Method) (c : Code) : Nat → List (Nat × Value) → List Value → xHp → Option (Nat × xHp) → Prop := xJ G p l e ({ frames := 6, cells := 1, slots := 6, locals := 100 } : Room) s m args below meth c 2 (fun res => vx_MQ below yNi (xXC G res) args s 1 6 (xA G))
def F_X8_written_T_15 (N : Nat) (h : xHp) : Option (Nat × xHp) := some (1, h)
def F_X8_written_T (N : Nat) (p1 : Int32) (h : xHp) : Option (Nat × xHp) := if p1 < 0 then F_X8_written_T_15 N h else if p1 < (gI h 28 1) then bnd2 (F_X6_at_28 N p1 h) fun r1 h2 => none else F_X8_written_T_15 N h
set_option maxHeartbeats 4000000 in
set_option maxRecDepth 100000 in
theorem T_X8_written_T_15 {G : xG} {p : Program} {l : Launch} {e : Env} {s : State} {m : MethodId} {args : Array Value} {below : List Frame} {meth : Method} {c : Code} {N : Nat} (C : xCz G p s m args meth c cX8_written 2 vX8_written RX8)  (hlt : l.stackTraces = false) (hex : ∀ x ∈ c.exceptionTable.toList, False) (h : xHp) : J_X8_written_T G p l e s m args below meth c 15 [] [] h (F_X8_written_T_15 N h) := by
  unfold F_X8_written_T_15
  obtain ⟨sa, hsa⟩ := C.2.2.2.2.2.1.2.2.2.2.2.2.2.2.2.2.2.1
  exact y_throwW_1 C hlt hex hsa dX8_written_15 dX8_written_18 dX8_written_19 dX8_written_22 dX8_written_25 (by decide) (by decide) (by decide) (by decide)
set_option maxHeartbeats 4000000 in
set_option maxRecDepth 100000 in
theorem M_X8_written_T (G : xG) (l : Launch) (hlt : l.stackTraces = false) (N : Nat) (p1 : Int32) (h : xHp) : ∀ r, F_X8_written_T N p1 h = some r → vx_Met l yX8_written vX8_written ({ frames := 6, cells := 1, slots := 6, locals := 100 } : Room) (xPz G [.ref (xad G 0), .int p1] h) yNi (xXC G r) 1 6 (xA G) := by
  refine y_met (own := RX8) (cc := cX8_written) (maxL := 2) (ret := (some .int)) (lv0 := [(0, .ref (xad G 0)), (1, .int p1)]) (by decide +kernel) rfl rfl (Nat.le_of_ble_eq_true rfl) rfl ?_
  intro p e s m below meth c C hex
  unfold F_X8_written_T
  refine x_iload_n C.1 dX8_written_0 rfl 1 rfl ?_
  refine x_if_lt (tgt := 15) C.1 dX8_written_1 (by decide) ?_ ?_
  · exact x_sub [] rfl (T_X8_written_T_15 C hlt hex h)
  · refine x_iload_n C.1 dX8_written_4 rfl 1 rfl ?_
    refine x_aload_n C.1 dX8_written_5 rfl 0 rfl ?_
    refine x_get (v := .ref (xad G 28)) C.1 6 dX8_written_6 (xc_0 G h) rfl (by decide) rfl (fun w h => List.mem_cons_of_mem _ (wcWT w (iWC_X8 w h))) (by decide) rfl (C.1.2.2.2.2.1 _ (List.mem_cons_of_mem _ (wcWT _ qC_460))) ?_
    refine x_get (v := .int (gI h 28 1)) C.1 1 dX8_written_9 (xc_28 G h) rfl (by decide) rfl (fun w h => List.mem_cons_of_mem _ (wcWT w (iWC_X6 w h))) (by decide) rfl (C.1.2.2.2.2.1 _ (List.mem_cons_of_mem _ (wcWT _ qC_412))) ?_
    refine x_icmp_lt (tgt := 26) C.1 dX8_written_12 (by decide) ?_ ?_
    · refine x_aload_n C.1 dX8_written_26 rfl 0 rfl ?_
      refine x_get (v := .ref (xad G 28)) C.1 6 dX8_written_27 (xc_0 G h) rfl (by decide) rfl (fun w h => List.mem_cons_of_mem _ (wcWT w (iWC_X8 w h))) (by decide) rfl (C.1.2.2.2.2.1 _ (List.mem_cons_of_mem _ (wcWT _ qC_460))) ?_
      refine x_iload_n C.1 dX8_written_30 rfl 1 rfl ?_
      refine z_callVi C dX8_written_31 (M_X6_at_28 G l N p1 h) (cwV 1 C.1.2.2.2.2.1 (gdV2 wcWT gWT (wcWT _ qC_467) (wcWT _ qC_14) (wcWT _ qC_15) (wcWT _ qC_16) (wcWT _ qC_7)) rfl rfl rfl (by decide +kernel) ⟨Nat.le_of_ble_eq_true rfl, Nat.le_of_ble_eq_true rfl⟩) (xc_28 G h) (by decide) rfl rfl rfl (Nat.le_of_ble_eq_true rfl) (fun r1 h2 => ?_)
      exact x_none
    · exact x_sub [] rfl (T_X8_written_T_15 C hlt hex h)
