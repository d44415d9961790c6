/-! X9_done: 45 instructions -/
abbrev J_X9_done (G : xG) (p : Program) (l : Launch) (e : Env) (s : State) (m : MethodId) (args : Array Value) (below : List Frame) (meth : Method) (c : Code) : Nat → List (Nat × Value) → List Value → xHp → Option (Unit × xHp) → Prop := xJ G p l e ({ frames := 1, cells := 0, slots := 0, locals := 21 } : Room) s m args below meth c 2 (fun res => MQ below (xQv G res) args s 0 0 (xA G))
def F_X9_done_77 (N : Nat) (s1 : Int32) (h : xHp) : Option (Unit × xHp) := bnd2 (F_X9_put N s1 h) fun r1 h2 => some ((), h2)
def F_X9_done_40 (N : Nat) (x1 : Int32) (s2 : Int32) (s1 : Int32) (h : xHp) : Option (Unit × xHp) := bnd (sI h 51 38 (s1 - s2)) fun h1 => if x1 = 2 then F_X9_done_77 N 22 h1 else if x1 = 3 then F_X9_done_77 N 23 h1 else if x1 = 4 then F_X9_done_77 N 24 h1 else F_X9_done_77 N 25 h1
def F_X9_done_35 (N : Nat) (x1 : Int32) (s1 : Int32) (h : xHp) : Option (Unit × xHp) := F_X9_done_40 N x1 1 s1 h
def F_X9_done (N : Nat) (h : xHp) : Option (Unit × xHp) := bnd (sI h 51 37 ((gI h 51 37) - 1)) fun h1 => grd (xin (gI h1 51 37) 400) (if (gI h1 70 (gI h1 51 37).toNatClampNeg) = 2 then F_X9_done_35 N (gI h1 70 (gI h1 51 37).toNatClampNeg) (gI h1 51 38) h1 else if (gI h1 70 (gI h1 51 37).toNatClampNeg) = 5 then F_X9_done_35 N (gI h1 70 (gI h1 51 37).toNatClampNeg) (gI h1 51 38) h1 else F_X9_done_40 N (gI h1 70 (gI h1 51 37).toNatClampNeg) 0 (gI h1 51 38) h1)
set_option maxHeartbeats 4000000 in
set_option maxRecDepth 100000 in
theorem T_X9_done_77 {G : xG} {p : Program} {l : Launch} {e : Env} {s : State} {m : MethodId} {args : Array Value} {below : List Frame} {meth : Method} {c : Code} {N : Nat} (C : xC G p s m args meth c cX9_done 2 vX9_done RX9) (hr : meth.sig.returnType = none) (s1 : Int32) (h : xHp) : J_X9_done G p l e s m args below meth c 77 [] [.int s1, .ref (xad G 51)] h (F_X9_done_77 N s1 h) := by
  unfold F_X9_done_77
  refine x_callVv C dX9_done_77 (M_X9_put G l N s1 h) (cwV 1 C.2.2.2.2.1 (gdV gWM qM_110 qM_111 qM_112 qM_9 qM_97) rfl rfl rfl (by decide +kernel) ⟨Nat.le_of_ble_eq_true rfl, Nat.le_of_ble_eq_true rfl⟩) (xc_51 G h) (by decide) rfl rfl rfl (Nat.le_of_ble_eq_true rfl) (fun r1 h2 => ?_)
  exact x_vret C dX9_done_80 hr
set_option maxHeartbeats 4000000 in
set_option maxRecDepth 100000 in
theorem T_X9_done_40 {G : xG} {p : Program} {l : Launch} {e : Env} {s : State} {m : MethodId} {args : Array Value} {below : List Frame} {meth : Method} {c : Code} {N : Nat} (C : xC G p s m args meth c cX9_done 2 vX9_done RX9) (hr : meth.sig.returnType = none) (x1 : Int32) (s2 : Int32) (s1 : Int32) (h : xHp) : J_X9_done G p l e s m args below meth c 40 [(0, .ref (xad G 51)), (1, .int x1)] [.int s2, .int s1, .ref (xad G 51)] h (F_X9_done_40 N x1 s2 s1 h) := by
  unfold F_X9_done_40
  refine x_isub C dX9_done_40 ?_
  refine x_putI (ty0 := tyX9) (ty := .int) C 38 dX9_done_41 (xc_51 G h) rfl (Nat.le_of_ble_eq_true rfl) (by decide) rfl (fun w h => List.mem_cons_of_mem _ (iWM_X9 w h)) tyX9_ok nmX9 (by decide) rfl rfl (by decide +kernel) rfl rfl (C.2.2.2.2.1 _ (List.mem_cons_of_mem _ qM_101)) (fun h1 => ?_)
  refine x_aload_n C dX9_done_44 rfl 0 rfl ?_
  refine x_iload_n C dX9_done_45 rfl 1 rfl ?_
  refine x_iconst (v := 2) C dX9_done_46 (by decide) ?_
  refine x_icmp_ne (tgt := 55) C dX9_done_47 (by decide) ?_ ?_
  · refine x_bipush (v := 22) C dX9_done_50 (by decide) ?_
    refine x_goto (tgt := 77) C dX9_done_52 (by decide) ?_
    exact x_sub [] rfl (T_X9_done_77 C hr 22 h1)
  · refine x_iload_n C dX9_done_55 rfl 1 rfl ?_
    refine x_iconst (v := 3) C dX9_done_56 (by decide) ?_
    refine x_icmp_ne (tgt := 65) C dX9_done_57 (by decide) ?_ ?_
    · refine x_bipush (v := 23) C dX9_done_60 (by decide) ?_
      refine x_goto (tgt := 77) C dX9_done_62 (by decide) ?_
      exact x_sub [] rfl (T_X9_done_77 C hr 23 h1)
    · refine x_iload_n C dX9_done_65 rfl 1 rfl ?_
      refine x_iconst (v := 4) C dX9_done_66 (by decide) ?_
      refine x_icmp_ne (tgt := 75) C dX9_done_67 (by decide) ?_ ?_
      · refine x_bipush (v := 24) C dX9_done_70 (by decide) ?_
        refine x_goto (tgt := 77) C dX9_done_72 (by decide) ?_
        exact x_sub [] rfl (T_X9_done_77 C hr 24 h1)
      · refine x_bipush (v := 25) C dX9_done_75 (by decide) ?_
        exact x_sub [] rfl (T_X9_done_77 C hr 25 h1)
set_option maxHeartbeats 4000000 in
set_option maxRecDepth 100000 in
theorem T_X9_done_35 {G : xG} {p : Program} {l : Launch} {e : Env} {s : State} {m : MethodId} {args : Array Value} {below : List Frame} {meth : Method} {c : Code} {N : Nat} (C : xC G p s m args meth c cX9_done 2 vX9_done RX9) (hr : meth.sig.returnType = none) (x1 : Int32) (s1 : Int32) (h : xHp) : J_X9_done G p l e s m args below meth c 35 [(0, .ref (xad G 51)), (1, .int x1)] [.int s1, .ref (xad G 51)] h (F_X9_done_35 N x1 s1 h) := by
  unfold F_X9_done_35
  refine x_iconst (v := 1) C dX9_done_35 (by decide) ?_
  refine x_goto (tgt := 40) C dX9_done_36 (by decide) ?_
  exact x_sub [0, 1] rfl (T_X9_done_40 C hr x1 1 s1 h)
set_option maxHeartbeats 4000000 in
set_option maxRecDepth 100000 in
theorem M_X9_done (G : xG) (l : Launch) (N : Nat) (h : xHp) : ∀ r, F_X9_done N h = some r → Met l yX9_done vX9_done ({ frames := 1, cells := 0, slots := 0, locals := 21 } : Room) (xPc G [.ref (xad G 51)] h) (xQv G r) 0 0 (xA G) := by
  refine x_met (own := RX9) (cc := cX9_done) (maxL := 2) (ret := none) (lv0 := [(0, .ref (xad G 51))]) (by decide +kernel) rfl rfl (Nat.le_of_ble_eq_true rfl) rfl ?_
  intro p e s m below meth c C hr
  unfold F_X9_done
  refine x_aload_n C dX9_done_0 rfl 0 rfl ?_
  refine x_dup C dX9_done_1 rfl ?_
  refine x_get (v := .int (gI h 51 37)) C 37 dX9_done_2 (xc_51 G h) rfl (by decide) rfl (fun w h => List.mem_cons_of_mem _ (iWM_X9 w h)) (by decide) rfl (C.2.2.2.2.1 _ (List.mem_cons_of_mem _ qM_104)) ?_
  refine x_iconst (v := 1) C dX9_done_5 (by decide) ?_
  refine x_isub C dX9_done_6 ?_
  refine x_putI (ty0 := tyX9) (ty := .int) C 37 dX9_done_7 (xc_51 G h) rfl (Nat.le_of_ble_eq_true rfl) (by decide) rfl (fun w h => List.mem_cons_of_mem _ (iWM_X9 w h)) tyX9_ok nmX9 (by decide) rfl rfl (by decide +kernel) rfl rfl (C.2.2.2.2.1 _ (List.mem_cons_of_mem _ qM_104)) (fun h1 => ?_)
  refine x_aload_n C dX9_done_10 rfl 0 rfl ?_
  refine x_get (v := .ref (xad G 70)) C 36 dX9_done_11 (xc_51 G h1) rfl (by decide) rfl (fun w h => List.mem_cons_of_mem _ (iWM_X9 w h)) (by decide) rfl (C.2.2.2.2.1 _ (List.mem_cons_of_mem _ qM_103)) ?_
  refine x_aload_n C dX9_done_14 rfl 0 rfl ?_
  refine x_get (v := .int (gI h1 51 37)) C 37 dX9_done_15 (xc_51 G h1) rfl (by decide) rfl (fun w h => List.mem_cons_of_mem _ (iWM_X9 w h)) (by decide) rfl (C.2.2.2.2.1 _ (List.mem_cons_of_mem _ qM_104)) ?_
  refine x_iald (n := 400) C dX9_done_18 (xc_70 G h1) (by decide) ?_
  refine x_istore_n (lv' := [(1, .int (gI h1 70 (gI h1 51 37).toNatClampNeg)), (0, .ref (xad G 51))]) C dX9_done_19 rfl (by decide) rfl ?_
  refine x_aload_n C dX9_done_20 rfl 1 rfl ?_
  refine x_dup C dX9_done_21 rfl ?_
  refine x_get (v := .int (gI h1 51 38)) C 38 dX9_done_22 (xc_51 G h1) rfl (by decide) rfl (fun w h => List.mem_cons_of_mem _ (iWM_X9 w h)) (by decide) rfl (C.2.2.2.2.1 _ (List.mem_cons_of_mem _ qM_101)) ?_
  refine x_iload_n C dX9_done_25 rfl 0 rfl ?_
  refine x_iconst (v := 2) C dX9_done_26 (by decide) ?_
  refine x_icmp_eq (tgt := 35) C dX9_done_27 (by decide) ?_ ?_
  · exact x_sub [1, 0] rfl (T_X9_done_35 C hr (gI h1 70 (gI h1 51 37).toNatClampNeg) (gI h1 51 38) h1)
  · refine x_iload_n C dX9_done_30 rfl 0 rfl ?_
    refine x_iconst (v := 5) C dX9_done_31 (by decide) ?_
    refine x_icmp_ne (tgt := 39) C dX9_done_32 (by decide) ?_ ?_
    · exact x_sub [1, 0] rfl (T_X9_done_35 C hr (gI h1 70 (gI h1 51 37).toNatClampNeg) (gI h1 51 38) h1)
    · refine x_iconst (v := 0) C dX9_done_39 (by decide) ?_
      exact x_sub [1, 0] rfl (T_X9_done_40 C hr (gI h1 70 (gI h1 51 37).toNatClampNeg) 0 (gI h1 51 38) h1)
/-! X9_doneTo: 25 instructions -/
abbrev J_X9_doneTo (G : xG) (p : Program) (l : Launch) (e : Env) (s : State) (m : MethodId) (args : Array Value) (below : List Frame) (meth : Method) (c : Code) : Nat → List (Nat × Value) → List Value → xHp → Option (Unit × xHp) → Prop := xJ G p l e ({ frames := 2, cells := 0, slots := 0, locals := 42 } : Room) s m args below meth c 2 (fun res => MQ below (xQv G res) args s 0 0 (xA G))
def F_X9_doneTo_0_b (N : Nat) (k0 : Int32 → xHp → Option (Unit × xHp)) (x1 : Int32) (h : xHp) : Option (Unit × xHp) := if (gI h 51 37) ≤ 0 then some ((), h) else grd (xin ((gI h 51 37) - 1) 400) (if (gI h 70 ((gI h 51 37) - 1).toNatClampNeg) ≤ 1 then some ((), h) else grd (xin ((gI h 51 37) - 1) 400) (if x1 < (gI h 70 ((gI h 51 37) - 1).toNatClampNeg) then some ((), h) else bnd2 (F_X9_done N h) fun r1 h2 => k0 x1 h2))
def F_X9_doneTo_0 (N : Nat) (x1 : Int32) (h : xHp) : Option (Unit × xHp) := xit (F_X9_doneTo_0_b N) (fun _ _ => none) N x1 h
def F_X9_doneTo (N : Nat) (p1 : Int32) (h : xHp) : Option (Unit × xHp) := F_X9_doneTo_0 N p1 h
set_option maxHeartbeats 4000000 in
set_option maxRecDepth 100000 in
theorem T_X9_doneTo_0_b {G : xG} {p : Program} {l : Launch} {e : Env} {s : State} {m : MethodId} {args : Array Value} {below : List Frame} {meth : Method} {c : Code} {N : Nat} (C : xC G p s m args meth c cX9_doneTo 2 vX9_doneTo RX9) (hr : meth.sig.returnType = none) {k0 : Int32 → xHp → Option (Unit × xHp)} (hk0 : ∀ (x1 : Int32) (h : xHp), J_X9_doneTo G p l e s m args below meth c 0 [(0, .ref (xad G 51)), (1, .int x1)] [] h (k0 x1 h)) (x1 : Int32) (h : xHp) : J_X9_doneTo G p l e s m args below meth c 0 [(0, .ref (xad G 51)), (1, .int x1)] [] h (F_X9_doneTo_0_b N k0 x1 h) := by
  unfold F_X9_doneTo_0_b
  refine x_aload_n C dX9_doneTo_0 rfl 0 rfl ?_
  refine x_get (v := .int (gI h 51 37)) C 37 dX9_doneTo_1 (xc_51 G h) rfl (by decide) rfl (fun w h => List.mem_cons_of_mem _ (iWM_X9 w h)) (by decide) rfl (C.2.2.2.2.1 _ (List.mem_cons_of_mem _ qM_104)) ?_
  refine x_if_le (tgt := 44) C dX9_doneTo_4 (by decide) ?_ ?_
  · exact x_vret C dX9_doneTo_44 hr
  · refine x_aload_n C dX9_doneTo_7 rfl 0 rfl ?_
    refine x_get (v := .ref (xad G 70)) C 36 dX9_doneTo_8 (xc_51 G h) rfl (by decide) rfl (fun w h => List.mem_cons_of_mem _ (iWM_X9 w h)) (by decide) rfl (C.2.2.2.2.1 _ (List.mem_cons_of_mem _ qM_103)) ?_
    refine x_aload_n C dX9_doneTo_11 rfl 0 rfl ?_
    refine x_get (v := .int (gI h 51 37)) C 37 dX9_doneTo_12 (xc_51 G h) rfl (by decide) rfl (fun w h => List.mem_cons_of_mem _ (iWM_X9 w h)) (by decide) rfl (C.2.2.2.2.1 _ (List.mem_cons_of_mem _ qM_104)) ?_
    refine x_iconst (v := 1) C dX9_doneTo_15 (by decide) ?_
    refine x_isub C dX9_doneTo_16 ?_
    refine x_iald (n := 400) C dX9_doneTo_17 (xc_70 G h) (by decide) ?_
    refine x_iconst (v := 1) C dX9_doneTo_18 (by decide) ?_
    refine x_icmp_le (tgt := 44) C dX9_doneTo_19 (by decide) ?_ ?_
    · exact x_vret C dX9_doneTo_44 hr
    · refine x_aload_n C dX9_doneTo_22 rfl 0 rfl ?_
      refine x_get (v := .ref (xad G 70)) C 36 dX9_doneTo_23 (xc_51 G h) rfl (by decide) rfl (fun w h => List.mem_cons_of_mem _ (iWM_X9 w h)) (by decide) rfl (C.2.2.2.2.1 _ (List.mem_cons_of_mem _ qM_103)) ?_
      refine x_aload_n C dX9_doneTo_26 rfl 0 rfl ?_
      refine x_get (v := .int (gI h 51 37)) C 37 dX9_doneTo_27 (xc_51 G h) rfl (by decide) rfl (fun w h => List.mem_cons_of_mem _ (iWM_X9 w h)) (by decide) rfl (C.2.2.2.2.1 _ (List.mem_cons_of_mem _ qM_104)) ?_
      refine x_iconst (v := 1) C dX9_doneTo_30 (by decide) ?_
      refine x_isub C dX9_doneTo_31 ?_
      refine x_iald (n := 400) C dX9_doneTo_32 (xc_70 G h) (by decide) ?_
      refine x_iload_n C dX9_doneTo_33 rfl 1 rfl ?_
      refine x_icmp_gt (tgt := 44) C dX9_doneTo_34 (by decide) ?_ ?_
      · exact x_vret C dX9_doneTo_44 hr
      · refine x_aload_n C dX9_doneTo_37 rfl 0 rfl ?_
        refine x_callVv C dX9_doneTo_38 (M_X9_done G l N h) (cwV 0 C.2.2.2.2.1 (gdV gWM qM_129 qM_130 qM_131 qM_9 qM_127) rfl rfl rfl (by decide +kernel) ⟨Nat.le_of_ble_eq_true rfl, Nat.le_of_ble_eq_true rfl⟩) (xc_51 G h) (by decide) rfl rfl rfl (Nat.le_of_ble_eq_true rfl) (fun r1 h2 => ?_)
        refine x_goto (tgt := 0) C dX9_doneTo_41 (by decide) ?_
        exact x_sub [0, 1] rfl (hk0 x1 h2)
set_option maxHeartbeats 4000000 in
set_option maxRecDepth 100000 in
theorem T_X9_doneTo_0_n {G : xG} {p : Program} {l : Launch} {e : Env} {s : State} {m : MethodId} {args : Array Value} {below : List Frame} {meth : Method} {c : Code} {N : Nat} (C : xC G p s m args meth c cX9_doneTo 2 vX9_doneTo RX9) (hr : meth.sig.returnType = none) : ∀ (n : Nat) (x1 : Int32) (h : xHp), J_X9_doneTo G p l e s m args below meth c 0 [(0, .ref (xad G 51)), (1, .int x1)] [] h (xit (F_X9_doneTo_0_b N) (fun _ _ => none) n x1 h) := by
  intro n
  induction n with
  | zero => intros; exact x_none
  | succ n ih => intros; exact T_X9_doneTo_0_b C hr ih _ _
set_option maxHeartbeats 4000000 in
set_option maxRecDepth 100000 in
theorem T_X9_doneTo_0 {G : xG} {p : Program} {l : Launch} {e : Env} {s : State} {m : MethodId} {args : Array Value} {below : List Frame} {meth : Method} {c : Code} {N : Nat} (C : xC G p s m args meth c cX9_doneTo 2 vX9_doneTo RX9) (hr : meth.sig.returnType = none) (x1 : Int32) (h : xHp) : J_X9_doneTo G p l e s m args below meth c 0 [(0, .ref (xad G 51)), (1, .int x1)] [] h (F_X9_doneTo_0 N x1 h) := T_X9_doneTo_0_n C hr N x1 h
set_option maxHeartbeats 4000000 in
set_option maxRecDepth 100000 in
theorem M_X9_doneTo (G : xG) (l : Launch) (N : Nat) (p1 : Int32) (h : xHp) : ∀ r, F_X9_doneTo N p1 h = some r → Met l yX9_doneTo vX9_doneTo ({ frames := 2, cells := 0, slots := 0, locals := 42 } : Room) (xPc G [.ref (xad G 51), .int p1] h) (xQv G r) 0 0 (xA G) := by
  refine x_met (own := RX9) (cc := cX9_doneTo) (maxL := 2) (ret := none) (lv0 := [(0, .ref (xad G 51)), (1, .int p1)]) (by decide +kernel) rfl rfl (Nat.le_of_ble_eq_true rfl) rfl ?_
  intro p e s m below meth c C hr
  unfold F_X9_doneTo
  exact x_sub [0, 1] rfl (T_X9_doneTo_0 C hr p1 h)
/-! X9_unit: 42 instructions -/
abbrev J_X9_unit (G : xG) (p : Program) (l : Launch) (e : Env) (s : State) (m : MethodId) (args : Array Value) (below : List Frame) (meth : Method) (c : Code) : Nat → List (Nat × Value) → List Value → xHp → Option (Int32 × xHp) → Prop := xJ G p l e ({ frames := 4, cells := 0, slots := 0, locals := 99 } : Room) s m args below meth c 1 (fun res => MQ below (xQi G res) args s 0 0 (xA G))
def F_X9_unit_51 (N : Nat) (h : xHp) : Option (Int32 × xHp) := some (0, h)
def F_X9_unit_37 (N : Nat) (s1 : Int32) (h : xHp) : Option (Int32 × xHp) := bnd2 (F_X9_await1 N s1 h) fun r1 h2 => if (gI h2 51 21) = 0 then bnd2 (F_X9_next N h2) fun r3 h4 => F_X9_unit_51 N h4 else F_X9_unit_51 N h2
def F_X9_unit_18 (N : Nat) (h : xHp) : Option (Int32 × xHp) := bnd2 (F_X9_opened N h) fun r1 h2 => bnd2 (F_X9_sign N 126 h2) fun r3 h4 => if r3 = 0 then F_X9_unit_37 N 1 h4 else F_X9_unit_37 N 2 h4
def F_X9_unit_72 (N : Nat) (h : xHp) : Option (Int32 × xHp) := some (1, h)
def F_X9_unit (N : Nat) (h : xHp) : Option (Int32 × xHp) := bnd2 (F_X9_sign N 126 h) fun r1 h2 => if r1 = 0 then bnd2 (F_X9_sign N 40 h2) fun r3 h4 => if r3 = 0 then if (gI h4 51 16) = 1 then if (gI h4 51 21) = 0 then bnd2 (F_X9_difference N h4) fun r5 h6 => F_X9_unit_72 N h6 else F_X9_unit_72 N h4 else bnd2 (F_X9_fail N 2 h4) fun r7 h8 => some (1, h8) else F_X9_unit_18 N h4 else F_X9_unit_18 N h2
set_option maxHeartbeats 4000000 in
set_option maxRecDepth 100000 in
theorem T_X9_unit_51 {G : xG} {p : Program} {l : Launch} {e : Env} {s : State} {m : MethodId} {args : Array Value} {below : List Frame} {meth : Method} {c : Code} {N : Nat} (C : xC G p s m args meth c cX9_unit 1 vX9_unit RX9) (hr : meth.sig.returnType = (some .boolean)) (h : xHp) : J_X9_unit G p l e s m args below meth c 51 [] [] h (F_X9_unit_51 N h) := by
  unfold F_X9_unit_51
  refine x_iconst (v := 0) C dX9_unit_51 (by decide) ?_
  exact x_zretL C dX9_unit_52 hr rfl
set_option maxHeartbeats 4000000 in
set_option maxRecDepth 100000 in
theorem T_X9_unit_37 {G : xG} {p : Program} {l : Launch} {e : Env} {s : State} {m : MethodId} {args : Array Value} {below : List Frame} {meth : Method} {c : Code} {N : Nat} (C : xC G p s m args meth c cX9_unit 1 vX9_unit RX9) (hr : meth.sig.returnType = (some .boolean)) (s1 : Int32) (h : xHp) : J_X9_unit G p l e s m args below meth c 37 [(0, .ref (xad G 51))] [.int s1, .ref (xad G 51)] h (F_X9_unit_37 N s1 h) := by
  unfold F_X9_unit_37
  refine x_callVv C dX9_unit_37 (M_X9_await1 G l N s1 h) (cwV 1 C.2.2.2.2.1 (gdV gWM qM_135 qM_136 qM_137 qM_9 qM_102) rfl rfl rfl (by decide +kernel) ⟨Nat.le_of_ble_eq_true rfl, Nat.le_of_ble_eq_true rfl⟩) (xc_51 G h) (by decide) rfl rfl rfl (Nat.le_of_ble_eq_true rfl) (fun r1 h2 => ?_)
  refine x_aload_n C dX9_unit_40 rfl 0 rfl ?_
  refine x_get (v := .int (gI h2 51 21)) C 21 dX9_unit_41 (xc_51 G h2) rfl (by decide) rfl (fun w h => List.mem_cons_of_mem _ (iWM_X9 w h)) (by decide) rfl (C.2.2.2.2.1 _ (List.mem_cons_of_mem _ qM_73)) ?_
  refine x_if_ne (tgt := 51) C dX9_unit_44 (by decide) ?_ ?_
  · refine x_aload_n C dX9_unit_47 rfl 0 rfl ?_
    refine x_callVv C dX9_unit_48 (M_X9_next G l N h2) (cwV 0 C.2.2.2.2.1 (gdV gWM qM_117 qM_118 qM_119 qM_9 qM_95) rfl rfl rfl (by decide +kernel) ⟨Nat.le_of_ble_eq_true rfl, Nat.le_of_ble_eq_true rfl⟩) (xc_51 G h2) (by decide) rfl rfl rfl (Nat.le_of_ble_eq_true rfl) (fun r3 h4 => ?_)
    exact x_sub [] rfl (T_X9_unit_51 C hr h4)
  · exact x_sub [] rfl (T_X9_unit_51 C hr h2)
set_option maxHeartbeats 4000000 in
set_option maxRecDepth 100000 in
theorem T_X9_unit_18 {G : xG} {p : Program} {l : Launch} {e : Env} {s : State} {m : MethodId} {args : Array Value} {below : List Frame} {meth : Method} {c : Code} {N : Nat} (C : xC G p s m args meth c cX9_unit 1 vX9_unit RX9) (hr : meth.sig.returnType = (some .boolean)) (h : xHp) : J_X9_unit G p l e s m args below meth c 18 [(0, .ref (xad G 51))] [] h (F_X9_unit_18 N h) := by
  unfold F_X9_unit_18
  refine x_aload_n C dX9_unit_18 rfl 0 rfl ?_
  refine x_callVv C dX9_unit_19 (M_X9_opened G l N h) (cwV 0 C.2.2.2.2.1 (gdV gWM qM_132 qM_133 qM_134 qM_9 qM_100) rfl rfl rfl (by decide +kernel) ⟨Nat.le_of_ble_eq_true rfl, Nat.le_of_ble_eq_true rfl⟩) (xc_51 G h) (by decide) rfl rfl rfl (Nat.le_of_ble_eq_true rfl) (fun r1 h2 => ?_)
  refine x_aload_n C dX9_unit_22 rfl 0 rfl ?_
  refine x_aload_n C dX9_unit_23 rfl 0 rfl ?_
  refine x_bipush (v := 126) C dX9_unit_24 (by decide) ?_
  refine x_callVi C dX9_unit_26 (M_X9_sign G l N 126 h2) (cwV 1 C.2.2.2.2.1 (gdV gWM qM_120 qM_121 qM_122 qM_9 qM_96) rfl rfl rfl (by decide +kernel) ⟨Nat.le_of_ble_eq_true rfl, Nat.le_of_ble_eq_true rfl⟩) (xc_51 G h2) (by decide) rfl rfl rfl (Nat.le_of_ble_eq_true rfl) (fun r3 h4 => ?_)
  refine x_if_eq (tgt := 36) C dX9_unit_29 (by decide) ?_ ?_
  · refine x_iconst (v := 1) C dX9_unit_36 (by decide) ?_
    exact x_sub [0] rfl (T_X9_unit_37 C hr 1 h4)
  · refine x_iconst (v := 2) C dX9_unit_32 (by decide) ?_
    refine x_goto (tgt := 37) C dX9_unit_33 (by decide) ?_
    exact x_sub [0] rfl (T_X9_unit_37 C hr 2 h4)
set_option maxHeartbeats 4000000 in
set_option maxRecDepth 100000 in
theorem T_X9_unit_72 {G : xG} {p : Program} {l : Launch} {e : Env} {s : State} {m : MethodId} {args : Array Value} {below : List Frame} {meth : Method} {c : Code} {N : Nat} (C : xC G p s m args meth c cX9_unit 1 vX9_unit RX9) (hr : meth.sig.returnType = (some .boolean)) (h : xHp) : J_X9_unit G p l e s m args below meth c 72 [] [] h (F_X9_unit_72 N h) := by
  unfold F_X9_unit_72
  refine x_iconst (v := 1) C dX9_unit_72 (by decide) ?_
  exact x_zretL C dX9_unit_73 hr rfl
set_option maxHeartbeats 4000000 in
set_option maxRecDepth 100000 in
theorem M_X9_unit (G : xG) (l : Launch) (N : Nat) (h : xHp) : ∀ r, F_X9_unit N h = some r → Met l yX9_unit vX9_unit ({ frames := 4, cells := 0, slots := 0, locals := 99 } : Room) (xPc G [.ref (xad G 51)] h) (xQi G r) 0 0 (xA G) := by
  refine x_met (own := RX9) (cc := cX9_unit) (maxL := 1) (ret := (some .boolean)) (lv0 := [(0, .ref (xad G 51))]) (by decide +kernel) rfl rfl (Nat.le_of_ble_eq_true rfl) rfl ?_
  intro p e s m below meth c C hr
  unfold F_X9_unit
  refine x_aload_n C dX9_unit_0 rfl 0 rfl ?_
  refine x_bipush (v := 126) C dX9_unit_1 (by decide) ?_
  refine x_callVi C dX9_unit_3 (M_X9_sign G l N 126 h) (cwV 1 C.2.2.2.2.1 (gdV gWM qM_120 qM_121 qM_122 qM_9 qM_96) rfl rfl rfl (by decide +kernel) ⟨Nat.le_of_ble_eq_true rfl, Nat.le_of_ble_eq_true rfl⟩) (xc_51 G h) (by decide) rfl rfl rfl (Nat.le_of_ble_eq_true rfl) (fun r1 h2 => ?_)
  refine x_if_ne (tgt := 18) C dX9_unit_6 (by decide) ?_ ?_
  · refine x_aload_n C dX9_unit_9 rfl 0 rfl ?_
    refine x_bipush (v := 40) C dX9_unit_10 (by decide) ?_
    refine x_callVi C dX9_unit_12 (M_X9_sign G l N 40 h2) (cwV 1 C.2.2.2.2.1 (gdV gWM qM_120 qM_121 qM_122 qM_9 qM_96) rfl rfl rfl (by decide +kernel) ⟨Nat.le_of_ble_eq_true rfl, Nat.le_of_ble_eq_true rfl⟩) (xc_51 G h2) (by decide) rfl rfl rfl (Nat.le_of_ble_eq_true rfl) (fun r3 h4 => ?_)
    refine x_if_eq (tgt := 53) C dX9_unit_15 (by decide) ?_ ?_
    · refine x_aload_n C dX9_unit_53 rfl 0 rfl ?_
      refine x_get (v := .int (gI h4 51 16)) C 16 dX9_unit_54 (xc_51 G h4) rfl (by decide) rfl (fun w h => List.mem_cons_of_mem _ (iWM_X9 w h)) (by decide) rfl (C.2.2.2.2.1 _ (List.mem_cons_of_mem _ qM_79)) ?_
      refine x_iconst (v := 1) C dX9_unit_57 (by decide) ?_
      refine x_icmp_ne (tgt := 74) C dX9_unit_58 (by decide) ?_ ?_
      · refine x_aload_n C dX9_unit_61 rfl 0 rfl ?_
        refine x_get (v := .int (gI h4 51 21)) C 21 dX9_unit_62 (xc_51 G h4) rfl (by decide) rfl (fun w h => List.mem_cons_of_mem _ (iWM_X9 w h)) (by decide) rfl (C.2.2.2.2.1 _ (List.mem_cons_of_mem _ qM_73)) ?_
        refine x_if_ne (tgt := 72) C dX9_unit_65 (by decide) ?_ ?_
        · refine x_aload_n C dX9_unit_68 rfl 0 rfl ?_
          refine x_callVv C dX9_unit_69 (M_X9_difference G l N h4) (cwV 0 C.2.2.2.2.1 (gdV gWM qM_138 qM_139 qM_140 qM_9 qM_126) rfl rfl rfl (by decide +kernel) ⟨Nat.le_of_ble_eq_true rfl, Nat.le_of_ble_eq_true rfl⟩) (xc_51 G h4) (by decide) rfl rfl rfl (Nat.le_of_ble_eq_true rfl) (fun r5 h6 => ?_)
          exact x_sub [] rfl (T_X9_unit_72 C hr h6)
        · exact x_sub [] rfl (T_X9_unit_72 C hr h4)
      · refine x_aload_n C dX9_unit_74 rfl 0 rfl ?_
        refine x_iconst (v := 2) C dX9_unit_75 (by decide) ?_
        refine x_callVv C dX9_unit_76 (M_X9_fail G l N 2 h4) (cwV 1 C.2.2.2.2.1 (gdV gWM qM_85 qM_86 qM_87 qM_9 qM_72) rfl rfl rfl (by decide +kernel) ⟨Nat.le_of_ble_eq_true rfl, Nat.le_of_ble_eq_true rfl⟩) (xc_51 G h4) (by decide) rfl rfl rfl (Nat.le_of_ble_eq_true rfl) (fun r7 h8 => ?_)
        refine x_iconst (v := 1) C dX9_unit_79 (by decide) ?_
        exact x_zretL C dX9_unit_80 hr rfl
    · exact x_sub [0] rfl (T_X9_unit_18 C hr h4)
  · exact x_sub [0] rfl (T_X9_unit_18 C hr h2)
/-! X9_behindUnit: 107 instructions -/
abbrev J_X9_behindUnit (G : xG) (p : Program) (l : Launch) (e : Env) (s : State) (m : MethodId) (args : Array Value) (below : List Frame) (meth : Method) (c : Code) : Nat → List (Nat × Value) → List Value → xHp → Option (Unit × xHp) → Prop := xJ G p l e ({ frames := 3, cells := 0, slots := 0, locals := 65 } : Room) s m args below meth c 3 (fun res => MQ below (xQv G res) args s 0 0 (xA G))
def F_X9_behindUnit_202 (N : Nat) (k2 : Int32 → xHp → Option (Unit × xHp)) (x1 : Int32) (h : xHp) : Option (Unit × xHp) := k2 x1 h
def F_X9_behindUnit_126 (N : Nat) (k2 : Int32 → xHp → Option (Unit × xHp)) (h : xHp) : Option (Unit × xHp) := F_X9_behindUnit_202 N k2 0 h
def F_X9_behindUnit_112 (N : Nat) (k2 : Int32 → xHp → Option (Unit × xHp)) (s1 : Int32) (h : xHp) : Option (Unit × xHp) := bnd2 (F_X9_await1 N s1 h) fun r1 h2 => if (gI h2 51 21) = 0 then bnd2 (F_X9_next N h2) fun r3 h4 => F_X9_behindUnit_126 N k2 h4 else F_X9_behindUnit_126 N k2 h2
def F_X9_behindUnit_90 (N : Nat) (k2 : Int32 → xHp → Option (Unit × xHp)) (x2 : Int32) (h : xHp) : Option (Unit × xHp) := if x2 = 38 then F_X9_behindUnit_112 N k2 3 h else if x2 = 124 then F_X9_behindUnit_112 N k2 4 h else F_X9_behindUnit_112 N k2 5 h
def F_X9_behindUnit_76 (N : Nat) (k2 : Int32 → xHp → Option (Unit × xHp)) (x2 : Int32) (s1 : Int32) (h : xHp) : Option (Unit × xHp) := bnd2 (F_X9_doneTo N s1 h) fun r1 h2 => if x2 = 245 then bnd2 (F_X9_opened N h2) fun r3 h4 => F_X9_behindUnit_90 N k2 x2 h4 else F_X9_behindUnit_90 N k2 x2 h2
def F_X9_behindUnit_54 (N : Nat) (k2 : Int32 → xHp → Option (Unit × xHp)) (x2 : Int32) (h : xHp) : Option (Unit × xHp) := if x2 = 38 then F_X9_behindUnit_76 N k2 x2 3 h else if x2 = 124 then F_X9_behindUnit_76 N k2 x2 4 h else F_X9_behindUnit_76 N k2 x2 4 h
def F_X9_behindUnit_195 (N : Nat) (k2 : Int32 → xHp → Option (Unit × xHp)) (h : xHp) : Option (Unit × xHp) := bnd (sI h 51 39 1) fun h1 => F_X9_behindUnit_202 N k2 0 h1
def F_X9_behindUnit_190 (N : Nat) (k2 : Int32 → xHp → Option (Unit × xHp)) (h : xHp) : Option (Unit × xHp) := bnd2 (F_X9_fail N 2 h) fun r1 h2 => F_X9_behindUnit_195 N k2 h2
def F_X9_behindUnit_176 (N : Nat) (k2 : Int32 → xHp → Option (Unit × xHp)) (h : xHp) : Option (Unit × xHp) := if (gI h 51 16) = 0 then if (gI h 51 37) ≤ 0 then F_X9_behindUnit_195 N k2 h else F_X9_behindUnit_190 N k2 h else F_X9_behindUnit_190 N k2 h
def F_X9_behindUnit_34 (N : Nat) (k2 : Int32 → xHp → Option (Unit × xHp)) (x1 : Int32) (s0 : Int32) (h : xHp) : Option (Unit × xHp) := if s0 = 38 then F_X9_behindUnit_54 N k2 s0 h else if s0 = 124 then F_X9_behindUnit_54 N k2 s0 h else if s0 = 245 then F_X9_behindUnit_54 N k2 s0 h else bnd2 (F_X9_doneTo N 5 h) fun r1 h2 => if s0 = 41 then if (gI h2 51 37) ≤ 0 then F_X9_behindUnit_176 N k2 h2 else bnd (sI h2 51 37 ((gI h2 51 37) - 1)) fun h3 => bnd (sI h3 51 38 ((gI h3 51 38) - 1)) fun h4 => bnd2 (F_X9_next N h4) fun r5 h6 => F_X9_behindUnit_202 N k2 x1 h6 else F_X9_behindUnit_176 N k2 h2
def F_X9_behindUnit_2_b (N : Nat) (k2 : Int32 → xHp → Option (Unit × xHp)) (x1 : Int32) (h : xHp) : Option (Unit × xHp) := if x1 = 0 then some ((), h) else if (gI h 51 21) = 0 then bnd2 (F_X9_doneTo N 2 h) fun r1 h2 => if (gI h2 51 16) = 3 then F_X9_behindUnit_34 N k2 x1 (gI h2 51 17) h2 else F_X9_behindUnit_34 N k2 x1 0 h2 else some ((), h)
def F_X9_behindUnit_2 (N : Nat) (x1 : Int32) (h : xHp) : Option (Unit × xHp) := xit (F_X9_behindUnit_2_b N) (fun _ _ => none) N x1 h
def F_X9_behindUnit (N : Nat) (h : xHp) : Option (Unit × xHp) := F_X9_behindUnit_2 N 1 h
set_option maxHeartbeats 4000000 in
set_option maxRecDepth 100000 in
theorem T_X9_behindUnit_202 {G : xG} {p : Program} {l : Launch} {e : Env} {s : State} {m : MethodId} {args : Array Value} {below : List Frame} {meth : Method} {c : Code} {N : Nat} (C : xC G p s m args meth c cX9_behindUnit 3 vX9_behindUnit RX9) (hr : meth.sig.returnType = none) {k2 : Int32 → xHp → Option (Unit × xHp)} (hk2 : ∀ (x1 : Int32) (h : xHp), J_X9_behindUnit G p l e s m args below meth c 2 [(0, .ref (xad G 51)), (1, .int x1)] [] h (k2 x1 h)) (x1 : Int32) (h : xHp) : J_X9_behindUnit G p l e s m args below meth c 202 [(0, .ref (xad G 51)), (1, .int x1)] [] h (F_X9_behindUnit_202 N k2 x1 h) := by
  unfold F_X9_behindUnit_202
  refine x_goto (tgt := 2) C dX9_behindUnit_202 (by decide) ?_
  exact x_sub [0, 1] rfl (hk2 x1 h)
set_option maxHeartbeats 4000000 in
set_option maxRecDepth 100000 in
theorem T_X9_behindUnit_126 {G : xG} {p : Program} {l : Launch} {e : Env} {s : State} {m : MethodId} {args : Array Value} {below : List Frame} {meth : Method} {c : Code} {N : Nat} (C : xC G p s m args meth c cX9_behindUnit 3 vX9_behindUnit RX9) (hr : meth.sig.returnType = none) {k2 : Int32 → xHp → Option (Unit × xHp)} (hk2 : ∀ (x1 : Int32) (h : xHp), J_X9_behindUnit G p l e s m args below meth c 2 [(0, .ref (xad G 51)), (1, .int x1)] [] h (k2 x1 h)) (h : xHp) : J_X9_behindUnit G p l e s m args below meth c 126 [(0, .ref (xad G 51))] [] h (F_X9_behindUnit_126 N k2 h) := by
  unfold F_X9_behindUnit_126
  refine x_iconst (v := 0) C dX9_behindUnit_126 (by decide) ?_
  refine x_istore_n (lv' := [(1, .int 0), (0, .ref (xad G 51))]) C dX9_behindUnit_127 rfl (by decide) rfl ?_
  refine x_goto (tgt := 202) C dX9_behindUnit_128 (by decide) ?_
  exact x_sub [1, 0] rfl (T_X9_behindUnit_202 C hr hk2 0 h)
set_option maxHeartbeats 4000000 in
set_option maxRecDepth 100000 in
theorem T_X9_behindUnit_112 {G : xG} {p : Program} {l : Launch} {e : Env} {s : State} {m : MethodId} {args : Array Value} {below : List Frame} {meth : Method} {c : Code} {N : Nat} (C : xC G p s m args meth c cX9_behindUnit 3 vX9_behindUnit RX9) (hr : meth.sig.returnType = none) {k2 : Int32 → xHp → Option (Unit × xHp)} (hk2 : ∀ (x1 : Int32) (h : xHp), J_X9_behindUnit G p l e s m args below meth c 2 [(0, .ref (xad G 51)), (1, .int x1)] [] h (k2 x1 h)) (s1 : Int32) (h : xHp) : J_X9_behindUnit G p l e s m args below meth c 112 [(0, .ref (xad G 51))] [.int s1, .ref (xad G 51)] h (F_X9_behindUnit_112 N k2 s1 h) := by
  unfold F_X9_behindUnit_112
  refine x_callVv C dX9_behindUnit_112 (M_X9_await1 G l N s1 h) (cwV 1 C.2.2.2.2.1 (gdV gWM qM_135 qM_136 qM_137 qM_9 qM_102) rfl rfl rfl (by decide +kernel) ⟨Nat.le_of_ble_eq_true rfl, Nat.le_of_ble_eq_true rfl⟩) (xc_51 G h) (by decide) rfl rfl rfl (Nat.le_of_ble_eq_true rfl) (fun r1 h2 => ?_)
  refine x_aload_n C dX9_behindUnit_115 rfl 0 rfl ?_
  refine x_get (v := .int (gI h2 51 21)) C 21 dX9_behindUnit_116 (xc_51 G h2) rfl (by decide) rfl (fun w h => List.mem_cons_of_mem _ (iWM_X9 w h)) (by decide) rfl (C.2.2.2.2.1 _ (List.mem_cons_of_mem _ qM_73)) ?_
  refine x_if_ne (tgt := 126) C dX9_behindUnit_119 (by decide) ?_ ?_
  · refine x_aload_n C dX9_behindUnit_122 rfl 0 rfl ?_
    refine x_callVv C dX9_behindUnit_123 (M_X9_next G l N h2) (cwV 0 C.2.2.2.2.1 (gdV gWM qM_117 qM_118 qM_119 qM_9 qM_95) rfl rfl rfl (by decide +kernel) ⟨Nat.le_of_ble_eq_true rfl, Nat.le_of_ble_eq_true rfl⟩) (xc_51 G h2) (by decide) rfl rfl rfl (Nat.le_of_ble_eq_true rfl) (fun r3 h4 => ?_)
    exact x_sub [0] rfl (T_X9_behindUnit_126 C hr hk2 h4)
  · exact x_sub [0] rfl (T_X9_behindUnit_126 C hr hk2 h2)
set_option maxHeartbeats 4000000 in
set_option maxRecDepth 100000 in
theorem T_X9_behindUnit_90 {G : xG} {p : Program} {l : Launch} {e : Env} {s : State} {m : MethodId} {args : Array Value} {below : List Frame} {meth : Method} {c : Code} {N : Nat} (C : xC G p s m args meth c cX9_behindUnit 3 vX9_behindUnit RX9) (hr : meth.sig.returnType = none) {k2 : Int32 → xHp → Option (Unit × xHp)} (hk2 : ∀ (x1 : Int32) (h : xHp), J_X9_behindUnit G p l e s m args below meth c 2 [(0, .ref (xad G 51)), (1, .int x1)] [] h (k2 x1 h)) (x2 : Int32) (h : xHp) : J_X9_behindUnit G p l e s m args below meth c 90 [(0, .ref (xad G 51)), (2, .int x2)] [] h (F_X9_behindUnit_90 N k2 x2 h) := by
  unfold F_X9_behindUnit_90
  refine x_aload_n C dX9_behindUnit_90 rfl 0 rfl ?_
  refine x_iload_n C dX9_behindUnit_91 rfl 1 rfl ?_
  refine x_bipush (v := 38) C dX9_behindUnit_92 (by decide) ?_
  refine x_icmp_ne (tgt := 101) C dX9_behindUnit_94 (by decide) ?_ ?_
  · refine x_iconst (v := 3) C dX9_behindUnit_97 (by decide) ?_
    refine x_goto (tgt := 112) C dX9_behindUnit_98 (by decide) ?_
    exact x_sub [0] rfl (T_X9_behindUnit_112 C hr hk2 3 h)
  · refine x_iload_n C dX9_behindUnit_101 rfl 1 rfl ?_
    refine x_bipush (v := 124) C dX9_behindUnit_102 (by decide) ?_
    refine x_icmp_ne (tgt := 111) C dX9_behindUnit_104 (by decide) ?_ ?_
    · refine x_iconst (v := 4) C dX9_behindUnit_107 (by decide) ?_
      refine x_goto (tgt := 112) C dX9_behindUnit_108 (by decide) ?_
      exact x_sub [0] rfl (T_X9_behindUnit_112 C hr hk2 4 h)
    · refine x_iconst (v := 5) C dX9_behindUnit_111 (by decide) ?_
      exact x_sub [0] rfl (T_X9_behindUnit_112 C hr hk2 5 h)
set_option maxHeartbeats 4000000 in
set_option maxRecDepth 100000 in
theorem T_X9_behindUnit_76 {G : xG} {p : Program} {l : Launch} {e : Env} {s : State} {m : MethodId} {args : Array Value} {below : List Frame} {meth : Method} {c : Code} {N : Nat} (C : xC G p s m args meth c cX9_behindUnit 3 vX9_behindUnit RX9) (hr : meth.sig.returnType = none) {k2 : Int32 → xHp → Option (Unit × xHp)} (hk2 : ∀ (x1 : Int32) (h : xHp), J_X9_behindUnit G p l e s m args below meth c 2 [(0, .ref (xad G 51)), (1, .int x1)] [] h (k2 x1 h)) (x2 : Int32) (s1 : Int32) (h : xHp) : J_X9_behindUnit G p l e s m args below meth c 76 [(0, .ref (xad G 51)), (2, .int x2)] [.int s1, .ref (xad G 51)] h (F_X9_behindUnit_76 N k2 x2 s1 h) := by
  unfold F_X9_behindUnit_76
  refine x_callVv C dX9_behindUnit_76 (M_X9_doneTo G l N s1 h) (cwV 1 C.2.2.2.2.1 (gdV gWM qM_143 qM_144 qM_145 qM_9 qM_128) rfl rfl rfl (by decide +kernel) ⟨Nat.le_of_ble_eq_true rfl, Nat.le_of_ble_eq_true rfl⟩) (xc_51 G h) (by decide) rfl rfl rfl (Nat.le_of_ble_eq_true rfl) (fun r1 h2 => ?_)
  refine x_iload_n C dX9_behindUnit_79 rfl 1 rfl ?_
  refine x_sipush (v := 245) C dX9_behindUnit_80 (by decide) ?_
  refine x_icmp_ne (tgt := 90) C dX9_behindUnit_83 (by decide) ?_ ?_
  · refine x_aload_n C dX9_behindUnit_86 rfl 0 rfl ?_
    refine x_callVv C dX9_behindUnit_87 (M_X9_opened G l N h2) (cwV 0 C.2.2.2.2.1 (gdV gWM qM_132 qM_133 qM_134 qM_9 qM_100) rfl rfl rfl (by decide +kernel) ⟨Nat.le_of_ble_eq_true rfl, Nat.le_of_ble_eq_true rfl⟩) (xc_51 G h2) (by decide) rfl rfl rfl (Nat.le_of_ble_eq_true rfl) (fun r3 h4 => ?_)
    exact x_sub [0, 1] rfl (T_X9_behindUnit_90 C hr hk2 x2 h4)
  · exact x_sub [0, 1] rfl (T_X9_behindUnit_90 C hr hk2 x2 h2)
set_option maxHeartbeats 4000000 in
set_option maxRecDepth 100000 in
theorem T_X9_behindUnit_54 {G : xG} {p : Program} {l : Launch} {e : Env} {s : State} {m : MethodId} {args : Array Value} {below : List Frame} {meth : Method} {c : Code} {N : Nat} (C : xC G p s m args meth c cX9_behindUnit 3 vX9_behindUnit RX9) (hr : meth.sig.returnType = none) {k2 : Int32 → xHp → Option (Unit × xHp)} (hk2 : ∀ (x1 : Int32) (h : xHp), J_X9_behindUnit G p l e s m args below meth c 2 [(0, .ref (xad G 51)), (1, .int x1)] [] h (k2 x1 h)) (x2 : Int32) (h : xHp) : J_X9_behindUnit G p l e s m args below meth c 54 [(0, .ref (xad G 51)), (2, .int x2)] [] h (F_X9_behindUnit_54 N k2 x2 h) := by
  unfold F_X9_behindUnit_54
  refine x_aload_n C dX9_behindUnit_54 rfl 0 rfl ?_
  refine x_iload_n C dX9_behindUnit_55 rfl 1 rfl ?_
  refine x_bipush (v := 38) C dX9_behindUnit_56 (by decide) ?_
  refine x_icmp_ne (tgt := 65) C dX9_behindUnit_58 (by decide) ?_ ?_
  · refine x_iconst (v := 3) C dX9_behindUnit_61 (by decide) ?_
    refine x_goto (tgt := 76) C dX9_behindUnit_62 (by decide) ?_
    exact x_sub [0, 1] rfl (T_X9_behindUnit_76 C hr hk2 x2 3 h)
  · refine x_iload_n C dX9_behindUnit_65 rfl 1 rfl ?_
    refine x_bipush (v := 124) C dX9_behindUnit_66 (by decide) ?_
    refine x_icmp_ne (tgt := 75) C dX9_behindUnit_68 (by decide) ?_ ?_
    · refine x_iconst (v := 4) C dX9_behindUnit_71 (by decide) ?_
      refine x_goto (tgt := 76) C dX9_behindUnit_72 (by decide) ?_
      exact x_sub [0, 1] rfl (T_X9_behindUnit_76 C hr hk2 x2 4 h)
    · refine x_iconst (v := 4) C dX9_behindUnit_75 (by decide) ?_
      exact x_sub [0, 1] rfl (T_X9_behindUnit_76 C hr hk2 x2 4 h)
set_option maxHeartbeats 4000000 in
set_option maxRecDepth 100000 in
theorem T_X9_behindUnit_195 {G : xG} {p : Program} {l : Launch} {e : Env} {s : State} {m : MethodId} {args : Array Value} {below : List Frame} {meth : Method} {c : Code} {N : Nat} (C : xC G p s m args meth c cX9_behindUnit 3 vX9_behindUnit RX9) (hr : meth.sig.returnType = none) {k2 : Int32 → xHp → Option (Unit × xHp)} (hk2 : ∀ (x1 : Int32) (h : xHp), J_X9_behindUnit G p l e s m args below meth c 2 [(0, .ref (xad G 51)), (1, .int x1)] [] h (k2 x1 h)) (h : xHp) : J_X9_behindUnit G p l e s m args below meth c 195 [(0, .ref (xad G 51))] [] h (F_X9_behindUnit_195 N k2 h) := by
  unfold F_X9_behindUnit_195
  refine x_iconst (v := 0) C dX9_behindUnit_195 (by decide) ?_
  refine x_istore_n (lv' := [(1, .int 0), (0, .ref (xad G 51))]) C dX9_behindUnit_196 rfl (by decide) rfl ?_
  refine x_aload_n C dX9_behindUnit_197 rfl 1 rfl ?_
  refine x_iconst (v := 1) C dX9_behindUnit_198 (by decide) ?_
  refine x_putI (ty0 := tyX9) (ty := .boolean) C 39 dX9_behindUnit_199 (xc_51 G h) rfl (Nat.le_of_ble_eq_true rfl) (by decide) rfl (fun w h => List.mem_cons_of_mem _ (iWM_X9 w h)) tyX9_ok nmX9 (by decide) rfl rfl (by decide +kernel) rfl rfl (C.2.2.2.2.1 _ (List.mem_cons_of_mem _ qM_142)) (fun h1 => ?_)
  exact x_sub [1, 0] rfl (T_X9_behindUnit_202 C hr hk2 0 h1)
set_option maxHeartbeats 4000000 in
set_option maxRecDepth 100000 in
theorem T_X9_behindUnit_190 {G : xG} {p : Program} {l : Launch} {e : Env} {s : State} {m : MethodId} {args : Array Value} {below : List Frame} {meth : Method} {c : Code} {N : Nat} (C : xC G p s m args meth c cX9_behindUnit 3 vX9_behindUnit RX9) (hr : meth.sig.returnType = none) {k2 : Int32 → xHp → Option (Unit × xHp)} (hk2 : ∀ (x1 : Int32) (h : xHp), J_X9_behindUnit G p l e s m args below meth c 2 [(0, .ref (xad G 51)), (1, .int x1)] [] h (k2 x1 h)) (h : xHp) : J_X9_behindUnit G p l e s m args below meth c 190 [(0, .ref (xad G 51))] [] h (F_X9_behindUnit_190 N k2 h) := by
  unfold F_X9_behindUnit_190
  refine x_aload_n C dX9_behindUnit_190 rfl 0 rfl ?_
  refine x_iconst (v := 2) C dX9_behindUnit_191 (by decide) ?_
  refine x_callVv C dX9_behindUnit_192 (M_X9_fail G l N 2 h) (cwV 1 C.2.2.2.2.1 (gdV gWM qM_85 qM_86 qM_87 qM_9 qM_72) rfl rfl rfl (by decide +kernel) ⟨Nat.le_of_ble_eq_true rfl, Nat.le_of_ble_eq_true rfl⟩) (xc_51 G h) (by decide) rfl rfl rfl (Nat.le_of_ble_eq_true rfl) (fun r1 h2 => ?_)
  exact x_sub [0] rfl (T_X9_behindUnit_195 C hr hk2 h2)
set_option maxHeartbeats 4000000 in
set_option maxRecDepth 100000 in
theorem T_X9_behindUnit_176 {G : xG} {p : Program} {l : Launch} {e : Env} {s : State} {m : MethodId} {args : Array Value} {below : List Frame} {meth : Method} {c : Code} {N : Nat} (C : xC G p s m args meth c cX9_behindUnit 3 vX9_behindUnit RX9) (hr : meth.sig.returnType = none) {k2 : Int32 → xHp → Option (Unit × xHp)} (hk2 : ∀ (x1 : Int32) (h : xHp), J_X9_behindUnit G p l e s m args below meth c 2 [(0, .ref (xad G 51)), (1, .int x1)] [] h (k2 x1 h)) (h : xHp) : J_X9_behindUnit G p l e s m args below meth c 176 [(0, .ref (xad G 51))] [] h (F_X9_behindUnit_176 N k2 h) := by
  unfold F_X9_behindUnit_176
  refine x_aload_n C dX9_behindUnit_176 rfl 0 rfl ?_
  refine x_get (v := .int (gI h 51 16)) C 16 dX9_behindUnit_177 (xc_51 G h) rfl (by decide) rfl (fun w h => List.mem_cons_of_mem _ (iWM_X9 w h)) (by decide) rfl (C.2.2.2.2.1 _ (List.mem_cons_of_mem _ qM_79)) ?_
  refine x_if_ne (tgt := 190) C dX9_behindUnit_180 (by decide) ?_ ?_
  · refine x_aload_n C dX9_behindUnit_183 rfl 0 rfl ?_
    refine x_get (v := .int (gI h 51 37)) C 37 dX9_behindUnit_184 (xc_51 G h) rfl (by decide) rfl (fun w h => List.mem_cons_of_mem _ (iWM_X9 w h)) (by decide) rfl (C.2.2.2.2.1 _ (List.mem_cons_of_mem _ qM_104)) ?_
    refine x_if_le (tgt := 195) C dX9_behindUnit_187 (by decide) ?_ ?_
    · exact x_sub [0] rfl (T_X9_behindUnit_195 C hr hk2 h)
    · exact x_sub [0] rfl (T_X9_behindUnit_190 C hr hk2 h)
  · exact x_sub [0] rfl (T_X9_behindUnit_190 C hr hk2 h)
set_option maxHeartbeats 4000000 in
set_option maxRecDepth 100000 in
theorem T_X9_behindUnit_34 {G : xG} {p : Program} {l : Launch} {e : Env} {s : State} {m : MethodId} {args : Array Value} {below : List Frame} {meth : Method} {c : Code} {N : Nat} (C : xC G p s m args meth c cX9_behindUnit 3 vX9_behindUnit RX9) (hr : meth.sig.returnType = none) {k2 : Int32 → xHp → Option (Unit × xHp)} (hk2 : ∀ (x1 : Int32) (h : xHp), J_X9_behindUnit G p l e s m args below meth c 2 [(0, .ref (xad G 51)), (1, .int x1)] [] h (k2 x1 h)) (x1 : Int32) (s0 : Int32) (h : xHp) : J_X9_behindUnit G p l e s m args below meth c 34 [(0, .ref (xad G 51)), (1, .int x1)] [.int s0] h (F_X9_behindUnit_34 N k2 x1 s0 h) := by
  unfold F_X9_behindUnit_34
  refine x_istore_n (lv' := [(2, .int s0), (0, .ref (xad G 51)), (1, .int x1)]) C dX9_behindUnit_34 rfl (by decide) rfl ?_
  refine x_iload_n C dX9_behindUnit_35 rfl 0 rfl ?_
  refine x_bipush (v := 38) C dX9_behindUnit_36 (by decide) ?_
  refine x_icmp_eq (tgt := 54) C dX9_behindUnit_38 (by decide) ?_ ?_
  · exact x_sub [1, 0] rfl (T_X9_behindUnit_54 C hr hk2 s0 h)
  · refine x_iload_n C dX9_behindUnit_41 rfl 0 rfl ?_
    refine x_bipush (v := 124) C dX9_behindUnit_42 (by decide) ?_
    refine x_icmp_eq (tgt := 54) C dX9_behindUnit_44 (by decide) ?_ ?_
    · exact x_sub [1, 0] rfl (T_X9_behindUnit_54 C hr hk2 s0 h)
    · refine x_iload_n C dX9_behindUnit_47 rfl 0 rfl ?_
      refine x_sipush (v := 245) C dX9_behindUnit_48 (by decide) ?_
      refine x_icmp_ne (tgt := 131) C dX9_behindUnit_51 (by decide) ?_ ?_
      · exact x_sub [1, 0] rfl (T_X9_behindUnit_54 C hr hk2 s0 h)
      · refine x_aload_n C dX9_behindUnit_131 rfl 1 rfl ?_
        refine x_iconst (v := 5) C dX9_behindUnit_132 (by decide) ?_
        refine x_callVv C dX9_behindUnit_133 (M_X9_doneTo G l N 5 h) (cwV 1 C.2.2.2.2.1 (gdV gWM qM_143 qM_144 qM_145 qM_9 qM_128) rfl rfl rfl (by decide +kernel) ⟨Nat.le_of_ble_eq_true rfl, Nat.le_of_ble_eq_true rfl⟩) (xc_51 G h) (by decide) rfl rfl rfl (Nat.le_of_ble_eq_true rfl) (fun r1 h2 => ?_)
        refine x_iload_n C dX9_behindUnit_136 rfl 0 rfl ?_
        refine x_bipush (v := 41) C dX9_behindUnit_137 (by decide) ?_
        refine x_icmp_ne (tgt := 176) C dX9_behindUnit_139 (by decide) ?_ ?_
        · refine x_aload_n C dX9_behindUnit_142 rfl 1 rfl ?_
          refine x_get (v := .int (gI h2 51 37)) C 37 dX9_behindUnit_143 (xc_51 G h2) rfl (by decide) rfl (fun w h => List.mem_cons_of_mem _ (iWM_X9 w h)) (by decide) rfl (C.2.2.2.2.1 _ (List.mem_cons_of_mem _ qM_104)) ?_
          refine x_if_le (tgt := 176) C dX9_behindUnit_146 (by decide) ?_ ?_
          · exact x_sub [1] rfl (T_X9_behindUnit_176 C hr hk2 h2)
          · refine x_aload_n C dX9_behindUnit_149 rfl 1 rfl ?_
            refine x_dup C dX9_behindUnit_150 rfl ?_
            refine x_get (v := .int (gI h2 51 37)) C 37 dX9_behindUnit_151 (xc_51 G h2) rfl (by decide) rfl (fun w h => List.mem_cons_of_mem _ (iWM_X9 w h)) (by decide) rfl (C.2.2.2.2.1 _ (List.mem_cons_of_mem _ qM_104)) ?_
            refine x_iconst (v := 1) C dX9_behindUnit_154 (by decide) ?_
            refine x_isub C dX9_behindUnit_155 ?_
            refine x_putI (ty0 := tyX9) (ty := .int) C 37 dX9_behindUnit_156 (xc_51 G h2) rfl (Nat.le_of_ble_eq_true rfl) (by decide) rfl (fun w h => List.mem_cons_of_mem _ (iWM_X9 w h)) tyX9_ok nmX9 (by decide) rfl rfl (by decide +kernel) rfl rfl (C.2.2.2.2.1 _ (List.mem_cons_of_mem _ qM_104)) (fun h3 => ?_)
            refine x_aload_n C dX9_behindUnit_159 rfl 1 rfl ?_
            refine x_dup C dX9_behindUnit_160 rfl ?_
            refine x_get (v := .int (gI h3 51 38)) C 38 dX9_behindUnit_161 (xc_51 G h3) rfl (by decide) rfl (fun w h => List.mem_cons_of_mem _ (iWM_X9 w h)) (by decide) rfl (C.2.2.2.2.1 _ (List.mem_cons_of_mem _ qM_101)) ?_
            refine x_iconst (v := 1) C dX9_behindUnit_164 (by decide) ?_
            refine x_isub C dX9_behindUnit_165 ?_
            refine x_putI (ty0 := tyX9) (ty := .int) C 38 dX9_behindUnit_166 (xc_51 G h3) rfl (Nat.le_of_ble_eq_true rfl) (by decide) rfl (fun w h => List.mem_cons_of_mem _ (iWM_X9 w h)) tyX9_ok nmX9 (by decide) rfl rfl (by decide +kernel) rfl rfl (C.2.2.2.2.1 _ (List.mem_cons_of_mem _ qM_101)) (fun h4 => ?_)
            refine x_aload_n C dX9_behindUnit_169 rfl 1 rfl ?_
            refine x_callVv C dX9_behindUnit_170 (M_X9_next G l N h4) (cwV 0 C.2.2.2.2.1 (gdV gWM qM_117 qM_118 qM_119 qM_9 qM_95) rfl rfl rfl (by decide +kernel) ⟨Nat.le_of_ble_eq_true rfl, Nat.le_of_ble_eq_true rfl⟩) (xc_51 G h4) (by decide) rfl rfl rfl (Nat.le_of_ble_eq_true rfl) (fun r5 h6 => ?_)
            refine x_goto (tgt := 202) C dX9_behindUnit_173 (by decide) ?_
            exact x_sub [1, 2] rfl (T_X9_behindUnit_202 C hr hk2 x1 h6)
        · exact x_sub [1] rfl (T_X9_behindUnit_176 C hr hk2 h2)
set_option maxHeartbeats 4000000 in
set_option maxRecDepth 100000 in
theorem T_X9_behindUnit_2_b {G : xG} {p : Program} {l : Launch} {e : Env} {s : State} {m : MethodId} {args : Array Value} {below : List Frame} {meth : Method} {c : Code} {N : Nat} (C : xC G p s m args meth c cX9_behindUnit 3 vX9_behindUnit RX9) (hr : meth.sig.returnType = none) {k2 : Int32 → xHp → Option (Unit × xHp)} (hk2 : ∀ (x1 : Int32) (h : xHp), J_X9_behindUnit G p l e s m args below meth c 2 [(0, .ref (xad G 51)), (1, .int x1)] [] h (k2 x1 h)) (x1 : Int32) (h : xHp) : J_X9_behindUnit G p l e s m args below meth c 2 [(0, .ref (xad G 51)), (1, .int x1)] [] h (F_X9_behindUnit_2_b N k2 x1 h) := by
  unfold F_X9_behindUnit_2_b
  refine x_iload_n C dX9_behindUnit_2 rfl 1 rfl ?_
  refine x_if_eq (tgt := 205) C dX9_behindUnit_3 (by decide) ?_ ?_
  · exact x_vret C dX9_behindUnit_205 hr
  · refine x_aload_n C dX9_behindUnit_6 rfl 0 rfl ?_
    refine x_get (v := .int (gI h 51 21)) C 21 dX9_behindUnit_7 (xc_51 G h) rfl (by decide) rfl (fun w h => List.mem_cons_of_mem _ (iWM_X9 w h)) (by decide) rfl (C.2.2.2.2.1 _ (List.mem_cons_of_mem _ qM_73)) ?_
    refine x_if_ne (tgt := 205) C dX9_behindUnit_10 (by decide) ?_ ?_
    · refine x_aload_n C dX9_behindUnit_13 rfl 0 rfl ?_
      refine x_iconst (v := 2) C dX9_behindUnit_14 (by decide) ?_
      refine x_callVv C dX9_behindUnit_15 (M_X9_doneTo G l N 2 h) (cwV 1 C.2.2.2.2.1 (gdV gWM qM_143 qM_144 qM_145 qM_9 qM_128) rfl rfl rfl (by decide +kernel) ⟨Nat.le_of_ble_eq_true rfl, Nat.le_of_ble_eq_true rfl⟩) (xc_51 G h) (by decide) rfl rfl rfl (Nat.le_of_ble_eq_true rfl) (fun r1 h2 => ?_)
      refine x_aload_n C dX9_behindUnit_18 rfl 0 rfl ?_
      refine x_get (v := .int (gI h2 51 16)) C 16 dX9_behindUnit_19 (xc_51 G h2) rfl (by decide) rfl (fun w h => List.mem_cons_of_mem _ (iWM_X9 w h)) (by decide) rfl (C.2.2.2.2.1 _ (List.mem_cons_of_mem _ qM_79)) ?_
      refine x_iconst (v := 3) C dX9_behindUnit_22 (by decide) ?_
      refine x_icmp_ne (tgt := 33) C dX9_behindUnit_23 (by decide) ?_ ?_
      · refine x_aload_n C dX9_behindUnit_26 rfl 0 rfl ?_
        refine x_get (v := .int (gI h2 51 17)) C 17 dX9_behindUnit_27 (xc_51 G h2) rfl (by decide) rfl (fun w h => List.mem_cons_of_mem _ (iWM_X9 w h)) (by decide) rfl (C.2.2.2.2.1 _ (List.mem_cons_of_mem _ qM_80)) ?_
        refine x_goto (tgt := 34) C dX9_behindUnit_30 (by decide) ?_
        exact x_sub [0, 1] rfl (T_X9_behindUnit_34 C hr hk2 x1 (gI h2 51 17) h2)
      · refine x_iconst (v := 0) C dX9_behindUnit_33 (by decide) ?_
        exact x_sub [0, 1] rfl (T_X9_behindUnit_34 C hr hk2 x1 0 h2)
    · exact x_vret C dX9_behindUnit_205 hr
set_option maxHeartbeats 4000000 in
set_option maxRecDepth 100000 in
theorem T_X9_behindUnit_2_n {G : xG} {p : Program} {l : Launch} {e : Env} {s : State} {m : MethodId} {args : Array Value} {below : List Frame} {meth : Method} {c : Code} {N : Nat} (C : xC G p s m args meth c cX9_behindUnit 3 vX9_behindUnit RX9) (hr : meth.sig.returnType = none) : ∀ (n : Nat) (x1 : Int32) (h : xHp), J_X9_behindUnit G p l e s m args below meth c 2 [(0, .ref (xad G 51)), (1, .int x1)] [] h (xit (F_X9_behindUnit_2_b N) (fun _ _ => none) n x1 h) := by
  intro n
  induction n with
  | zero => intros; exact x_none
  | succ n ih => intros; exact T_X9_behindUnit_2_b C hr ih _ _
set_option maxHeartbeats 4000000 in
set_option maxRecDepth 100000 in
theorem T_X9_behindUnit_2 {G : xG} {p : Program} {l : Launch} {e : Env} {s : State} {m : MethodId} {args : Array Value} {below : List Frame} {meth : Method} {c : Code} {N : Nat} (C : xC G p s m args meth c cX9_behindUnit 3 vX9_behindUnit RX9) (hr : meth.sig.returnType = none) (x1 : Int32) (h : xHp) : J_X9_behindUnit G p l e s m args below meth c 2 [(0, .ref (xad G 51)), (1, .int x1)] [] h (F_X9_behindUnit_2 N x1 h) := T_X9_behindUnit_2_n C hr N x1 h
set_option maxHeartbeats 4000000 in
set_option maxRecDepth 100000 in
theorem M_X9_behindUnit (G : xG) (l : Launch) (N : Nat) (h : xHp) : ∀ r, F_X9_behindUnit N h = some r → Met l yX9_behindUnit vX9_behindUnit ({ frames := 3, cells := 0, slots := 0, locals := 65 } : Room) (xPc G [.ref (xad G 51)] h) (xQv G r) 0 0 (xA G) := by
  refine x_met (own := RX9) (cc := cX9_behindUnit) (maxL := 3) (ret := none) (lv0 := [(0, .ref (xad G 51))]) (by decide +kernel) rfl rfl (Nat.le_of_ble_eq_true rfl) rfl ?_
  intro p e s m below meth c C hr
  unfold F_X9_behindUnit
  refine x_iconst (v := 1) C dX9_behindUnit_0 (by decide) ?_
  refine x_istore_n (lv' := [(1, .int 1), (0, .ref (xad G 51))]) C dX9_behindUnit_1 rfl (by decide) rfl ?_
  exact x_sub [1, 0] rfl (T_X9_behindUnit_2 C hr 1 h)
/-! X9_read: 125 instructions -/
abbrev J_X9_read (G : xG) (p : Program) (l : Launch) (e : Env) (s : State) (m : MethodId) (args : Array Value) (below : List Frame) (meth : Method) (c : Code) : Nat → List (Nat × Value) → List Value → xHp → Option (Int32 × xHp) → Prop := xJ G p l e ({ frames := 5, cells := 0, slots := 0, locals := 119 } : Room) s m args below meth c 2 (fun res => MQ below (xQi G res) args s 0 0 (xA G))
def F_X9_read_95 (N : Nat) (k49 : xHp → Option (Int32 × xHp)) (h : xHp) : Option (Int32 × xHp) := k49 h
def F_X9_read_83 (N : Nat) (k49 : xHp → Option (Int32 × xHp)) (h : xHp) : Option (Int32 × xHp) := if (gI h 51 21) ≤ 0 then F_X9_read_95 N k49 h else bnd (sI h 51 39 1) fun h1 => F_X9_read_95 N k49 h1
def F_X9_read_192_b (N : Nat) (k192 : Int32 → xHp → Option (Int32 × xHp)) (x1 : Int32) (h : xHp) : Option (Int32 × xHp) := if (gI h 51 28) ≤ x1 then some ((gI h 51 24), h) else grd (xin x1 1000) (grd (xin x1 1000) (bnd (sI h 65 x1.toNatClampNeg (gI h 69 x1.toNatClampNeg)) fun h1 => k192 (x1 + 1) h1))
def F_X9_read_192 (N : Nat) (x1 : Int32) (h : xHp) : Option (Int32 × xHp) := xit (F_X9_read_192_b N) (fun _ _ => none) N x1 h
def F_X9_read_140_b (N : Nat) (k140 : Int32 → xHp → Option (Int32 × xHp)) (x1 : Int32) (h : xHp) : Option (Int32 × xHp) := if (gI h 51 24) ≤ x1 then F_X9_read_192 N 0 h else grd (xin x1 12) (grd (xin x1 10) (bnd (sI h 62 x1.toNatClampNeg (gI h 66 x1.toNatClampNeg)) fun h1 => grd (xin x1 12) (grd (xin x1 10) (bnd (sI h1 63 x1.toNatClampNeg (gI h1 67 x1.toNatClampNeg)) fun h2 => grd (xin x1 12) (grd (xin x1 10) (bnd (sI h2 64 x1.toNatClampNeg (gI h2 68 x1.toNatClampNeg)) fun h3 => k140 (x1 + 1) h3))))))
def F_X9_read_140 (N : Nat) (x1 : Int32) (h : xHp) : Option (Int32 × xHp) := xit (F_X9_read_140_b N) (fun _ _ => none) N x1 h
def F_X9_read_98 (N : Nat) (h : xHp) : Option (Int32 × xHp) := bnd (sI h 51 15 0) fun h1 => if (gI h1 51 21) ≤ 0 then bnd (sI h1 51 23 1) fun h2 => bnd (sI h2 51 24 (gI h2 51 30)) fun h3 => bnd (sI h3 51 28 (gI h3 51 34)) fun h4 => F_X9_read_140 N 0 h4 else some (((-1) - (gI h1 51 22)), h1)
def F_X9_read_49_b (N : Nat) (k49 : xHp → Option (Int32 × xHp)) (h : xHp) : Option (Int32 × xHp) := if (gI h 51 39) = 0 then if (gI h 51 21) = 0 then bnd2 (F_X9_unit N h) fun r1 h2 => if r1 = 0 then F_X9_read_83 N k49 h2 else if (gI h2 51 21) = 0 then bnd2 (F_X9_behindUnit N h2) fun r3 h4 => F_X9_read_83 N k49 h4 else F_X9_read_83 N k49 h2 else F_X9_read_98 N h else F_X9_read_98 N h
def F_X9_read_49 (N : Nat) (h : xHp) : Option (Int32 × xHp) := xit (F_X9_read_49_b N) (fun _ => none) N h
def F_X9_read (N : Nat) (h : xHp) : Option (Int32 × xHp) := bnd (sI h 51 0 0) fun h1 => bnd (sI h1 51 21 0) fun h2 => bnd (sI h2 51 20 0) fun h3 => bnd (sI h3 51 19 0) fun h4 => bnd (sI h4 51 30 0) fun h5 => bnd (sI h5 51 34 0) fun h6 => bnd (sI h6 51 37 0) fun h7 => bnd (sI h7 51 38 0) fun h8 => bnd (sI h8 51 39 0) fun h9 => bnd2 (F_X9_next N h9) fun r10 h11 => F_X9_read_49 N h11
set_option maxHeartbeats 4000000 in
set_option maxRecDepth 100000 in
theorem T_X9_read_95 {G : xG} {p : Program} {l : Launch} {e : Env} {s : State} {m : MethodId} {args : Array Value} {below : List Frame} {meth : Method} {c : Code} {N : Nat} (C : xC G p s m args meth c cX9_read 2 vX9_read RX9) (hr : meth.sig.returnType = (some .int)) {k49 : xHp → Option (Int32 × xHp)} (hk49 : ∀ (h : xHp), J_X9_read G p l e s m args below meth c 49 [(0, .ref (xad G 51))] [] h (k49 h)) (h : xHp) : J_X9_read G p l e s m args below meth c 95 [(0, .ref (xad G 51))] [] h (F_X9_read_95 N k49 h) := by
  unfold F_X9_read_95
  refine x_goto (tgt := 49) C dX9_read_95 (by decide) ?_
  exact x_sub [0] rfl (hk49 h)
set_option maxHeartbeats 4000000 in
set_option maxRecDepth 100000 in
theorem T_X9_read_83 {G : xG} {p : Program} {l : Launch} {e : Env} {s : State} {m : MethodId} {args : Array Value} {below : List Frame} {meth : Method} {c : Code} {N : Nat} (C : xC G p s m args meth c cX9_read 2 vX9_read RX9) (hr : meth.sig.returnType = (some .int)) {k49 : xHp → Option (Int32 × xHp)} (hk49 : ∀ (h : xHp), J_X9_read G p l e s m args below meth c 49 [(0, .ref (xad G 51))] [] h (k49 h)) (h : xHp) : J_X9_read G p l e s m args below meth c 83 [(0, .ref (xad G 51))] [] h (F_X9_read_83 N k49 h) := by
  unfold F_X9_read_83
  refine x_aload_n C dX9_read_83 rfl 0 rfl ?_
  refine x_get (v := .int (gI h 51 21)) C 21 dX9_read_84 (xc_51 G h) rfl (by decide) rfl (fun w h => List.mem_cons_of_mem _ (iWM_X9 w h)) (by decide) rfl (C.2.2.2.2.1 _ (List.mem_cons_of_mem _ qM_73)) ?_
  refine x_if_le (tgt := 95) C dX9_read_87 (by decide) ?_ ?_
  · exact x_sub [0] rfl (T_X9_read_95 C hr hk49 h)
  · refine x_aload_n C dX9_read_90 rfl 0 rfl ?_
    refine x_iconst (v := 1) C dX9_read_91 (by decide) ?_
    refine x_putI (ty0 := tyX9) (ty := .boolean) C 39 dX9_read_92 (xc_51 G h) rfl (Nat.le_of_ble_eq_true rfl) (by decide) rfl (fun w h => List.mem_cons_of_mem _ (iWM_X9 w h)) tyX9_ok nmX9 (by decide) rfl rfl (by decide +kernel) rfl rfl (C.2.2.2.2.1 _ (List.mem_cons_of_mem _ qM_142)) (fun h1 => ?_)
    exact x_sub [0] rfl (T_X9_read_95 C hr hk49 h1)
set_option maxHeartbeats 4000000 in
set_option maxRecDepth 100000 in
theorem T_X9_read_192_b {G : xG} {p : Program} {l : Launch} {e : Env} {s : State} {m : MethodId} {args : Array Value} {below : List Frame} {meth : Method} {c : Code} {N : Nat} (C : xC G p s m args meth c cX9_read 2 vX9_read RX9) (hr : meth.sig.returnType = (some .int)) {k192 : Int32 → xHp → Option (Int32 × xHp)} (hk192 : ∀ (x1 : Int32) (h : xHp), J_X9_read G p l e s m args below meth c 192 [(0, .ref (xad G 51)), (1, .int x1)] [] h (k192 x1 h)) (x1 : Int32) (h : xHp) : J_X9_read G p l e s m args below meth c 192 [(0, .ref (xad G 51)), (1, .int x1)] [] h (F_X9_read_192_b N k192 x1 h) := by
  unfold F_X9_read_192_b
  refine x_iload_n C dX9_read_192 rfl 1 rfl ?_
  refine x_aload_n C dX9_read_193 rfl 0 rfl ?_
  refine x_get (v := .int (gI h 51 28)) C 28 dX9_read_194 (xc_51 G h) rfl (by decide) rfl (fun w h => List.mem_cons_of_mem _ (iWM_X9 w h)) (by decide) rfl (C.2.2.2.2.1 _ (List.mem_cons_of_mem _ qM_149)) ?_
  refine x_icmp_ge (tgt := 218) C dX9_read_197 (by decide) ?_ ?_
  · refine x_aload_n C dX9_read_218 rfl 0 rfl ?_
    refine x_get (v := .int (gI h 51 24)) C 24 dX9_read_219 (xc_51 G h) rfl (by decide) rfl (fun w h => List.mem_cons_of_mem _ (iWM_X9 w h)) (by decide) rfl (C.2.2.2.2.1 _ (List.mem_cons_of_mem _ qM_148)) ?_
    exact x_iret C dX9_read_222 hr
  · refine x_aload_n C dX9_read_200 rfl 0 rfl ?_
    refine x_get (v := .ref (xad G 65)) C 29 dX9_read_201 (xc_51 G h) rfl (by decide) rfl (fun w h => List.mem_cons_of_mem _ (iWM_X9 w h)) (by decide) rfl (C.2.2.2.2.1 _ (List.mem_cons_of_mem _ qM_153)) ?_
    refine x_iload_n C dX9_read_204 rfl 1 rfl ?_
    refine x_aload_n C dX9_read_205 rfl 0 rfl ?_
    refine x_get (v := .ref (xad G 69)) C 35 dX9_read_206 (xc_51 G h) rfl (by decide) rfl (fun w h => List.mem_cons_of_mem _ (iWM_X9 w h)) (by decide) rfl (C.2.2.2.2.1 _ (List.mem_cons_of_mem _ qM_98)) ?_
    refine x_iload_n C dX9_read_209 rfl 1 rfl ?_
    refine x_iald (n := 1000) C dX9_read_210 (xc_69 G h) (by decide) ?_
    refine x_iast (n := 1000) C dX9_read_211 (fun g => xp_65 G g _ _) (by decide) (fun h1 => ?_)
    refine x_iinc (v := (x1 + 1)) (j := 1) (lv' := [(1, .int (x1 + 1)), (0, .ref (xad G 51))]) C dX9_read_212 rfl (by rfl) (by decide) rfl ?_
    refine x_goto (tgt := 192) C dX9_read_215 (by decide) ?_
    exact x_sub [1, 0] rfl (hk192 (x1 + 1) h1)
set_option maxHeartbeats 4000000 in
set_option maxRecDepth 100000 in
theorem T_X9_read_192_n {G : xG} {p : Program} {l : Launch} {e : Env} {s : State} {m : MethodId} {args : Array Value} {below : List Frame} {meth : Method} {c : Code} {N : Nat} (C : xC G p s m args meth c cX9_read 2 vX9_read RX9) (hr : meth.sig.returnType = (some .int)) : ∀ (n : Nat) (x1 : Int32) (h : xHp), J_X9_read G p l e s m args below meth c 192 [(0, .ref (xad G 51)), (1, .int x1)] [] h (xit (F_X9_read_192_b N) (fun _ _ => none) n x1 h) := by
  intro n
  induction n with
  | zero => intros; exact x_none
  | succ n ih => intros; exact T_X9_read_192_b C hr ih _ _
set_option maxHeartbeats 4000000 in
set_option maxRecDepth 100000 in
theorem T_X9_read_192 {G : xG} {p : Program} {l : Launch} {e : Env} {s : State} {m : MethodId} {args : Array Value} {below : List Frame} {meth : Method} {c : Code} {N : Nat} (C : xC G p s m args meth c cX9_read 2 vX9_read RX9) (hr : meth.sig.returnType = (some .int)) (x1 : Int32) (h : xHp) : J_X9_read G p l e s m args below meth c 192 [(0, .ref (xad G 51)), (1, .int x1)] [] h (F_X9_read_192 N x1 h) := T_X9_read_192_n C hr N x1 h
set_option maxHeartbeats 4000000 in
set_option maxRecDepth 100000 in
theorem T_X9_read_140_b {G : xG} {p : Program} {l : Launch} {e : Env} {s : State} {m : MethodId} {args : Array Value} {below : List Frame} {meth : Method} {c : Code} {N : Nat} (C : xC G p s m args meth c cX9_read 2 vX9_read RX9) (hr : meth.sig.returnType = (some .int)) {k140 : Int32 → xHp → Option (Int32 × xHp)} (hk140 : ∀ (x1 : Int32) (h : xHp), J_X9_read G p l e s m args below meth c 140 [(0, .ref (xad G 51)), (1, .int x1)] [] h (k140 x1 h)) (x1 : Int32) (h : xHp) : J_X9_read G p l e s m args below meth c 140 [(0, .ref (xad G 51)), (1, .int x1)] [] h (F_X9_read_140_b N k140 x1 h) := by
  unfold F_X9_read_140_b
  refine x_iload_n C dX9_read_140 rfl 1 rfl ?_
  refine x_aload_n C dX9_read_141 rfl 0 rfl ?_
  refine x_get (v := .int (gI h 51 24)) C 24 dX9_read_142 (xc_51 G h) rfl (by decide) rfl (fun w h => List.mem_cons_of_mem _ (iWM_X9 w h)) (by decide) rfl (C.2.2.2.2.1 _ (List.mem_cons_of_mem _ qM_148)) ?_
  refine x_icmp_ge (tgt := 190) C dX9_read_145 (by decide) ?_ ?_
  · refine x_iconst (v := 0) C dX9_read_190 (by decide) ?_
    refine x_istore_n (lv' := [(1, .int 0), (0, .ref (xad G 51))]) C dX9_read_191 rfl (by decide) rfl ?_
    exact x_sub [1, 0] rfl (T_X9_read_192 C hr 0 h)
  · refine x_aload_n C dX9_read_148 rfl 0 rfl ?_
    refine x_get (v := .ref (xad G 62)) C 25 dX9_read_149 (xc_51 G h) rfl (by decide) rfl (fun w h => List.mem_cons_of_mem _ (iWM_X9 w h)) (by decide) rfl (C.2.2.2.2.1 _ (List.mem_cons_of_mem _ qM_150)) ?_
    refine x_iload_n C dX9_read_152 rfl 1 rfl ?_
    refine x_aload_n C dX9_read_153 rfl 0 rfl ?_
    refine x_get (v := .ref (xad G 66)) C 31 dX9_read_154 (xc_51 G h) rfl (by decide) rfl (fun w h => List.mem_cons_of_mem _ (iWM_X9 w h)) (by decide) rfl (C.2.2.2.2.1 _ (List.mem_cons_of_mem _ qM_107)) ?_
    refine x_iload_n C dX9_read_157 rfl 1 rfl ?_
    refine x_iald (n := 12) C dX9_read_158 (xc_66 G h) (by decide) ?_
    refine x_iast (n := 10) C dX9_read_159 (fun g => xp_62 G g _ _) (by decide) (fun h1 => ?_)
    refine x_aload_n C dX9_read_160 rfl 0 rfl ?_
    refine x_get (v := .ref (xad G 63)) C 26 dX9_read_161 (xc_51 G h1) rfl (by decide) rfl (fun w h => List.mem_cons_of_mem _ (iWM_X9 w h)) (by decide) rfl (C.2.2.2.2.1 _ (List.mem_cons_of_mem _ qM_151)) ?_
    refine x_iload_n C dX9_read_164 rfl 1 rfl ?_
    refine x_aload_n C dX9_read_165 rfl 0 rfl ?_
    refine x_get (v := .ref (xad G 67)) C 32 dX9_read_166 (xc_51 G h1) rfl (by decide) rfl (fun w h => List.mem_cons_of_mem _ (iWM_X9 w h)) (by decide) rfl (C.2.2.2.2.1 _ (List.mem_cons_of_mem _ qM_108)) ?_
    refine x_iload_n C dX9_read_169 rfl 1 rfl ?_
    refine x_iald (n := 12) C dX9_read_170 (xc_67 G h1) (by decide) ?_
    refine x_iast (n := 10) C dX9_read_171 (fun g => xp_63 G g _ _) (by decide) (fun h2 => ?_)
    refine x_aload_n C dX9_read_172 rfl 0 rfl ?_
    refine x_get (v := .ref (xad G 64)) C 27 dX9_read_173 (xc_51 G h2) rfl (by decide) rfl (fun w h => List.mem_cons_of_mem _ (iWM_X9 w h)) (by decide) rfl (C.2.2.2.2.1 _ (List.mem_cons_of_mem _ qM_152)) ?_
    refine x_iload_n C dX9_read_176 rfl 1 rfl ?_
    refine x_aload_n C dX9_read_177 rfl 0 rfl ?_
    refine x_get (v := .ref (xad G 68)) C 33 dX9_read_178 (xc_51 G h2) rfl (by decide) rfl (fun w h => List.mem_cons_of_mem _ (iWM_X9 w h)) (by decide) rfl (C.2.2.2.2.1 _ (List.mem_cons_of_mem _ qM_109)) ?_
    refine x_iload_n C dX9_read_181 rfl 1 rfl ?_
    refine x_iald (n := 12) C dX9_read_182 (xc_68 G h2) (by decide) ?_
    refine x_iast (n := 10) C dX9_read_183 (fun g => xp_64 G g _ _) (by decide) (fun h3 => ?_)
    refine x_iinc (v := (x1 + 1)) (j := 1) (lv' := [(1, .int (x1 + 1)), (0, .ref (xad G 51))]) C dX9_read_184 rfl (by rfl) (by decide) rfl ?_
    refine x_goto (tgt := 140) C dX9_read_187 (by decide) ?_
    exact x_sub [1, 0] rfl (hk140 (x1 + 1) h3)
set_option maxHeartbeats 4000000 in
set_option maxRecDepth 100000 in
theorem T_X9_read_140_n {G : xG} {p : Program} {l : Launch} {e : Env} {s : State} {m : MethodId} {args : Array Value} {below : List Frame} {meth : Method} {c : Code} {N : Nat} (C : xC G p s m args meth c cX9_read 2 vX9_read RX9) (hr : meth.sig.returnType = (some .int)) : ∀ (n : Nat) (x1 : Int32) (h : xHp), J_X9_read G p l e s m args below meth c 140 [(0, .ref (xad G 51)), (1, .int x1)] [] h (xit (F_X9_read_140_b N) (fun _ _ => none) n x1 h) := by
  intro n
  induction n with
  | zero => intros; exact x_none
  | succ n ih => intros; exact T_X9_read_140_b C hr ih _ _
set_option maxHeartbeats 4000000 in
set_option maxRecDepth 100000 in
theorem T_X9_read_140 {G : xG} {p : Program} {l : Launch} {e : Env} {s : State} {m : MethodId} {args : Array Value} {below : List Frame} {meth : Method} {c : Code} {N : Nat} (C : xC G p s m args meth c cX9_read 2 vX9_read RX9) (hr : meth.sig.returnType = (some .int)) (x1 : Int32) (h : xHp) : J_X9_read G p l e s m args below meth c 140 [(0, .ref (xad G 51)), (1, .int x1)] [] h (F_X9_read_140 N x1 h) := T_X9_read_140_n C hr N x1 h
set_option maxHeartbeats 4000000 in
set_option maxRecDepth 100000 in
theorem T_X9_read_98 {G : xG} {p : Program} {l : Launch} {e : Env} {s : State} {m : MethodId} {args : Array Value} {below : List Frame} {meth : Method} {c : Code} {N : Nat} (C : xC G p s m args meth c cX9_read 2 vX9_read RX9) (hr : meth.sig.returnType = (some .int)) (h : xHp) : J_X9_read G p l e s m args below meth c 98 [(0, .ref (xad G 51))] [] h (F_X9_read_98 N h) := by
  unfold F_X9_read_98
  refine x_aload_n C dX9_read_98 rfl 0 rfl ?_
  refine x_iconst (v := 0) C dX9_read_99 (by decide) ?_
  refine x_putI (ty0 := tyX9) (ty := .int) C 15 dX9_read_100 (xc_51 G h) rfl (Nat.le_of_ble_eq_true rfl) (by decide) rfl (fun w h => List.mem_cons_of_mem _ (iWM_X9 w h)) tyX9_ok nmX9 (by decide) rfl rfl (by decide +kernel) rfl rfl (C.2.2.2.2.1 _ (List.mem_cons_of_mem _ qM_69)) (fun h1 => ?_)
  refine x_aload_n C dX9_read_103 rfl 0 rfl ?_
  refine x_get (v := .int (gI h1 51 21)) C 21 dX9_read_104 (xc_51 G h1) rfl (by decide) rfl (fun w h => List.mem_cons_of_mem _ (iWM_X9 w h)) (by decide) rfl (C.2.2.2.2.1 _ (List.mem_cons_of_mem _ qM_73)) ?_
  refine x_if_le (tgt := 117) C dX9_read_107 (by decide) ?_ ?_
  · refine x_aload_n C dX9_read_117 rfl 0 rfl ?_
    refine x_iconst (v := 1) C dX9_read_118 (by decide) ?_
    refine x_putI (ty0 := tyX9) (ty := .boolean) C 23 dX9_read_119 (xc_51 G h1) rfl (Nat.le_of_ble_eq_true rfl) (by decide) rfl (fun w h => List.mem_cons_of_mem _ (iWM_X9 w h)) tyX9_ok nmX9 (by decide) rfl rfl (by decide +kernel) rfl rfl (C.2.2.2.2.1 _ (List.mem_cons_of_mem _ qM_147)) (fun h2 => ?_)
    refine x_aload_n C dX9_read_122 rfl 0 rfl ?_
    refine x_aload_n C dX9_read_123 rfl 0 rfl ?_
    refine x_get (v := .int (gI h2 51 30)) C 30 dX9_read_124 (xc_51 G h2) rfl (by decide) rfl (fun w h => List.mem_cons_of_mem _ (iWM_X9 w h)) (by decide) rfl (C.2.2.2.2.1 _ (List.mem_cons_of_mem _ qM_106)) ?_
    refine x_putI (ty0 := tyX9) (ty := .int) C 24 dX9_read_127 (xc_51 G h2) rfl (Nat.le_of_ble_eq_true rfl) (by decide) rfl (fun w h => List.mem_cons_of_mem _ (iWM_X9 w h)) tyX9_ok nmX9 (by decide) rfl rfl (by decide +kernel) rfl rfl (C.2.2.2.2.1 _ (List.mem_cons_of_mem _ qM_148)) (fun h3 => ?_)
    refine x_aload_n C dX9_read_130 rfl 0 rfl ?_
    refine x_aload_n C dX9_read_131 rfl 0 rfl ?_
    refine x_get (v := .int (gI h3 51 34)) C 34 dX9_read_132 (xc_51 G h3) rfl (by decide) rfl (fun w h => List.mem_cons_of_mem _ (iWM_X9 w h)) (by decide) rfl (C.2.2.2.2.1 _ (List.mem_cons_of_mem _ qM_99)) ?_
    refine x_putI (ty0 := tyX9) (ty := .int) C 28 dX9_read_135 (xc_51 G h3) rfl (Nat.le_of_ble_eq_true rfl) (by decide) rfl (fun w h => List.mem_cons_of_mem _ (iWM_X9 w h)) tyX9_ok nmX9 (by decide) rfl rfl (by decide +kernel) rfl rfl (C.2.2.2.2.1 _ (List.mem_cons_of_mem _ qM_149)) (fun h4 => ?_)
    refine x_iconst (v := 0) C dX9_read_138 (by decide) ?_
    refine x_istore_n (lv' := [(1, .int 0), (0, .ref (xad G 51))]) C dX9_read_139 rfl (by decide) rfl ?_
    exact x_sub [1, 0] rfl (T_X9_read_140 C hr 0 h4)
  · refine x_iconst (v := (-1)) C dX9_read_110 (by decide) ?_
    refine x_aload_n C dX9_read_111 rfl 0 rfl ?_
    refine x_get (v := .int (gI h1 51 22)) C 22 dX9_read_112 (xc_51 G h1) rfl (by decide) rfl (fun w h => List.mem_cons_of_mem _ (iWM_X9 w h)) (by decide) rfl (C.2.2.2.2.1 _ (List.mem_cons_of_mem _ qM_75)) ?_
    refine x_isub C dX9_read_115 ?_
    exact x_iret C dX9_read_116 hr
set_option maxHeartbeats 4000000 in
set_option maxRecDepth 100000 in
theorem T_X9_read_49_b {G : xG} {p : Program} {l : Launch} {e : Env} {s : State} {m : MethodId} {args : Array Value} {below : List Frame} {meth : Method} {c : Code} {N : Nat} (C : xC G p s m args meth c cX9_read 2 vX9_read RX9) (hr : meth.sig.returnType = (some .int)) {k49 : xHp → Option (Int32 × xHp)} (hk49 : ∀ (h : xHp), J_X9_read G p l e s m args below meth c 49 [(0, .ref (xad G 51))] [] h (k49 h)) (h : xHp) : J_X9_read G p l e s m args below meth c 49 [(0, .ref (xad G 51))] [] h (F_X9_read_49_b N k49 h) := by
  unfold F_X9_read_49_b
  refine x_aload_n C dX9_read_49 rfl 0 rfl ?_
  refine x_get (v := .int (gI h 51 39)) C 39 dX9_read_50 (xc_51 G h) rfl (by decide) rfl (fun w h => List.mem_cons_of_mem _ (iWM_X9 w h)) (by decide) rfl (C.2.2.2.2.1 _ (List.mem_cons_of_mem _ qM_142)) ?_
  refine x_if_ne (tgt := 98) C dX9_read_53 (by decide) ?_ ?_
  · refine x_aload_n C dX9_read_56 rfl 0 rfl ?_
    refine x_get (v := .int (gI h 51 21)) C 21 dX9_read_57 (xc_51 G h) rfl (by decide) rfl (fun w h => List.mem_cons_of_mem _ (iWM_X9 w h)) (by decide) rfl (C.2.2.2.2.1 _ (List.mem_cons_of_mem _ qM_73)) ?_
    refine x_if_ne (tgt := 98) C dX9_read_60 (by decide) ?_ ?_
    · refine x_aload_n C dX9_read_63 rfl 0 rfl ?_
      refine x_callVi C dX9_read_64 (M_X9_unit G l N h) (cwV 0 C.2.2.2.2.1 (gdV gWM qM_154 qM_155 qM_156 qM_9 qM_141) rfl rfl rfl (by decide +kernel) ⟨Nat.le_of_ble_eq_true rfl, Nat.le_of_ble_eq_true rfl⟩) (xc_51 G h) (by decide) rfl rfl rfl (Nat.le_of_ble_eq_true rfl) (fun r1 h2 => ?_)
      refine x_istore_n (lv' := [(1, .int r1), (0, .ref (xad G 51))]) C dX9_read_67 rfl (by decide) rfl ?_
      refine x_iload_n C dX9_read_68 rfl 0 rfl ?_
      refine x_if_eq (tgt := 83) C dX9_read_69 (by decide) ?_ ?_
      · exact x_sub [1] rfl (T_X9_read_83 C hr hk49 h2)
      · refine x_aload_n C dX9_read_72 rfl 1 rfl ?_
        refine x_get (v := .int (gI h2 51 21)) C 21 dX9_read_73 (xc_51 G h2) rfl (by decide) rfl (fun w h => List.mem_cons_of_mem _ (iWM_X9 w h)) (by decide) rfl (C.2.2.2.2.1 _ (List.mem_cons_of_mem _ qM_73)) ?_
        refine x_if_ne (tgt := 83) C dX9_read_76 (by decide) ?_ ?_
        · refine x_aload_n C dX9_read_79 rfl 1 rfl ?_
          refine x_callVv C dX9_read_80 (M_X9_behindUnit G l N h2) (cwV 0 C.2.2.2.2.1 (gdV gWM qM_157 qM_158 qM_159 qM_9 qM_146) rfl rfl rfl (by decide +kernel) ⟨Nat.le_of_ble_eq_true rfl, Nat.le_of_ble_eq_true rfl⟩) (xc_51 G h2) (by decide) rfl rfl rfl (Nat.le_of_ble_eq_true rfl) (fun r3 h4 => ?_)
          exact x_sub [1] rfl (T_X9_read_83 C hr hk49 h4)
        · exact x_sub [1] rfl (T_X9_read_83 C hr hk49 h2)
    · exact x_sub [0] rfl (T_X9_read_98 C hr h)
  · exact x_sub [0] rfl (T_X9_read_98 C hr h)
set_option maxHeartbeats 4000000 in
set_option maxRecDepth 100000 in
theorem T_X9_read_49_n {G : xG} {p : Program} {l : Launch} {e : Env} {s : State} {m : MethodId} {args : Array Value} {below : List Frame} {meth : Method} {c : Code} {N : Nat} (C : xC G p s m args meth c cX9_read 2 vX9_read RX9) (hr : meth.sig.returnType = (some .int)) : ∀ (n : Nat) (h : xHp), J_X9_read G p l e s m args below meth c 49 [(0, .ref (xad G 51))] [] h (xit (F_X9_read_49_b N) (fun _ => none) n h) := by
  intro n
  induction n with
  | zero => intros; exact x_none
  | succ n ih => intros; exact T_X9_read_49_b C hr ih _
set_option maxHeartbeats 4000000 in
set_option maxRecDepth 100000 in
theorem T_X9_read_49 {G : xG} {p : Program} {l : Launch} {e : Env} {s : State} {m : MethodId} {args : Array Value} {below : List Frame} {meth : Method} {c : Code} {N : Nat} (C : xC G p s m args meth c cX9_read 2 vX9_read RX9) (hr : meth.sig.returnType = (some .int)) (h : xHp) : J_X9_read G p l e s m args below meth c 49 [(0, .ref (xad G 51))] [] h (F_X9_read_49 N h) := T_X9_read_49_n C hr N h
set_option maxHeartbeats 4000000 in
set_option maxRecDepth 100000 in
theorem M_X9_read (G : xG) (l : Launch) (N : Nat) (h : xHp) : ∀ r, F_X9_read N h = some r → Met l yX9_read vX9_read ({ frames := 5, cells := 0, slots := 0, locals := 119 } : Room) (xPc G [.ref (xad G 51)] h) (xQi G r) 0 0 (xA G) := by
  refine x_met (own := RX9) (cc := cX9_read) (maxL := 2) (ret := (some .int)) (lv0 := [(0, .ref (xad G 51))]) (by decide +kernel) rfl rfl (Nat.le_of_ble_eq_true rfl) rfl ?_
  intro p e s m below meth c C hr
  unfold F_X9_read
  refine x_aload_n C dX9_read_0 rfl 0 rfl ?_
  refine x_iconst (v := 0) C dX9_read_1 (by decide) ?_
  refine x_putI (ty0 := tyX9) (ty := .int) C 0 dX9_read_2 (xc_51 G h) rfl (Nat.le_of_ble_eq_true rfl) (by decide) rfl (fun w h => List.mem_cons_of_mem _ (iWM_X9 w h)) tyX9_ok nmX9 (by decide) rfl rfl (by decide +kernel) rfl rfl (C.2.2.2.2.1 _ (List.mem_cons_of_mem _ qM_2)) (fun h1 => ?_)
  refine x_aload_n C dX9_read_5 rfl 0 rfl ?_
  refine x_iconst (v := 0) C dX9_read_6 (by decide) ?_
  refine x_putI (ty0 := tyX9) (ty := .int) C 21 dX9_read_7 (xc_51 G h1) rfl (Nat.le_of_ble_eq_true rfl) (by decide) rfl (fun w h => List.mem_cons_of_mem _ (iWM_X9 w h)) tyX9_ok nmX9 (by decide) rfl rfl (by decide +kernel) rfl rfl (C.2.2.2.2.1 _ (List.mem_cons_of_mem _ qM_73)) (fun h2 => ?_)
  refine x_aload_n C dX9_read_10 rfl 0 rfl ?_
  refine x_iconst (v := 0) C dX9_read_11 (by decide) ?_
  refine x_putI (ty0 := tyX9) (ty := .int) C 20 dX9_read_12 (xc_51 G h2) rfl (Nat.le_of_ble_eq_true rfl) (by decide) rfl (fun w h => List.mem_cons_of_mem _ (iWM_X9 w h)) tyX9_ok nmX9 (by decide) rfl rfl (by decide +kernel) rfl rfl (C.2.2.2.2.1 _ (List.mem_cons_of_mem _ qM_88)) (fun h3 => ?_)
  refine x_aload_n C dX9_read_15 rfl 0 rfl ?_
  refine x_iconst (v := 0) C dX9_read_16 (by decide) ?_
  refine x_putI (ty0 := tyX9) (ty := .int) C 19 dX9_read_17 (xc_51 G h3) rfl (Nat.le_of_ble_eq_true rfl) (by decide) rfl (fun w h => List.mem_cons_of_mem _ (iWM_X9 w h)) tyX9_ok nmX9 (by decide) rfl rfl (by decide +kernel) rfl rfl (C.2.2.2.2.1 _ (List.mem_cons_of_mem _ qM_81)) (fun h4 => ?_)
  refine x_aload_n C dX9_read_20 rfl 0 rfl ?_
  refine x_iconst (v := 0) C dX9_read_21 (by decide) ?_
  refine x_putI (ty0 := tyX9) (ty := .int) C 30 dX9_read_22 (xc_51 G h4) rfl (Nat.le_of_ble_eq_true rfl) (by decide) rfl (fun w h => List.mem_cons_of_mem _ (iWM_X9 w h)) tyX9_ok nmX9 (by decide) rfl rfl (by decide +kernel) rfl rfl (C.2.2.2.2.1 _ (List.mem_cons_of_mem _ qM_106)) (fun h5 => ?_)
  refine x_aload_n C dX9_read_25 rfl 0 rfl ?_
  refine x_iconst (v := 0) C dX9_read_26 (by decide) ?_
  refine x_putI (ty0 := tyX9) (ty := .int) C 34 dX9_read_27 (xc_51 G h5) rfl (Nat.le_of_ble_eq_true rfl) (by decide) rfl (fun w h => List.mem_cons_of_mem _ (iWM_X9 w h)) tyX9_ok nmX9 (by decide) rfl rfl (by decide +kernel) rfl rfl (C.2.2.2.2.1 _ (List.mem_cons_of_mem _ qM_99)) (fun h6 => ?_)
  refine x_aload_n C dX9_read_30 rfl 0 rfl ?_
  refine x_iconst (v := 0) C dX9_read_31 (by decide) ?_
  refine x_putI (ty0 := tyX9) (ty := .int) C 37 dX9_read_32 (xc_51 G h6) rfl (Nat.le_of_ble_eq_true rfl) (by decide) rfl (fun w h => List.mem_cons_of_mem _ (iWM_X9 w h)) tyX9_ok nmX9 (by decide) rfl rfl (by decide +kernel) rfl rfl (C.2.2.2.2.1 _ (List.mem_cons_of_mem _ qM_104)) (fun h7 => ?_)
  refine x_aload_n C dX9_read_35 rfl 0 rfl ?_
  refine x_iconst (v := 0) C dX9_read_36 (by decide) ?_
  refine x_putI (ty0 := tyX9) (ty := .int) C 38 dX9_read_37 (xc_51 G h7) rfl (Nat.le_of_ble_eq_true rfl) (by decide) rfl (fun w h => List.mem_cons_of_mem _ (iWM_X9 w h)) tyX9_ok nmX9 (by decide) rfl rfl (by decide +kernel) rfl rfl (C.2.2.2.2.1 _ (List.mem_cons_of_mem _ qM_101)) (fun h8 => ?_)
  refine x_aload_n C dX9_read_40 rfl 0 rfl ?_
  refine x_iconst (v := 0) C dX9_read_41 (by decide) ?_
  refine x_putI (ty0 := tyX9) (ty := .boolean) C 39 dX9_read_42 (xc_51 G h8) rfl (Nat.le_of_ble_eq_true rfl) (by decide) rfl (fun w h => List.mem_cons_of_mem _ (iWM_X9 w h)) tyX9_ok nmX9 (by decide) rfl rfl (by decide +kernel) rfl rfl (C.2.2.2.2.1 _ (List.mem_cons_of_mem _ qM_142)) (fun h9 => ?_)
  refine x_aload_n C dX9_read_45 rfl 0 rfl ?_
  refine x_callVv C dX9_read_46 (M_X9_next G l N h9) (cwV 0 C.2.2.2.2.1 (gdV gWM qM_117 qM_118 qM_119 qM_9 qM_95) rfl rfl rfl (by decide +kernel) ⟨Nat.le_of_ble_eq_true rfl, Nat.le_of_ble_eq_true rfl⟩) (xc_51 G h9) (by decide) rfl rfl rfl (Nat.le_of_ble_eq_true rfl) (fun r10 h11 => ?_)
  exact x_sub [0] rfl (T_X9_read_49 C hr h11)
/-! X9_fault: 6 instructions -/
abbrev J_X9_fault (G : xG) (p : Program) (l : Launch) (e : Env) (s : State) (m : MethodId) (args : Array Value) (below : List Frame) (meth : Method) (c : Code) : Nat → List (Nat × Value) → List Value → xHp → Option (Int32 × xHp) → Prop := xJ G p l e ({ frames := 0, cells := 0, slots := 0, locals := 0 } : Room) s m args below meth c 1 (fun res => MQ below (xQi G res) args s 0 0 (xA G))
def F_X9_fault (N : Nat) (h : xHp) : Option (Int32 × xHp) := bnd (sI h 51 0 0) fun h1 => some ((gI h1 51 21), h1)
set_option maxHeartbeats 4000000 in
set_option maxRecDepth 100000 in
theorem M_X9_fault (G : xG) (l : Launch) (N : Nat) (h : xHp) : ∀ r, F_X9_fault N h = some r → Met l yX9_fault vX9_fault ({ frames := 0, cells := 0, slots := 0, locals := 0 } : Room) (xPc G [.ref (xad G 51)] h) (xQi G r) 0 0 (xA G) := by
  refine x_met (own := RX9) (cc := cX9_fault) (maxL := 1) (ret := (some .int)) (lv0 := [(0, .ref (xad G 51))]) (by decide +kernel) rfl rfl (Nat.le_of_ble_eq_true rfl) rfl ?_
  intro p e s m below meth c C hr
  unfold F_X9_fault
  refine x_aload_n C dX9_fault_0 rfl 0 rfl ?_
  refine x_iconst (v := 0) C dX9_fault_1 (by decide) ?_
  refine x_putI (ty0 := tyX9) (ty := .int) C 0 dX9_fault_2 (xc_51 G h) rfl (Nat.le_of_ble_eq_true rfl) (by decide) rfl (fun w h => List.mem_cons_of_mem _ (iWM_X9 w h)) tyX9_ok nmX9 (by decide) rfl rfl (by decide +kernel) rfl rfl (C.2.2.2.2.1 _ (List.mem_cons_of_mem _ qM_2)) (fun h1 => ?_)
  refine x_aload_n C dX9_fault_5 rfl 0 rfl ?_
  refine x_get (v := .int (gI h1 51 21)) C 21 dX9_fault_6 (xc_51 G h1) rfl (by decide) rfl (fun w h => List.mem_cons_of_mem _ (iWM_X9 w h)) (by decide) rfl (C.2.2.2.2.1 _ (List.mem_cons_of_mem _ qM_73)) ?_
  exact x_iret C dX9_fault_9 hr
/-! X9_atom: 40 instructions -/
abbrev J_X9_atom (G : xG) (p : Program) (l : Launch) (e : Env) (s : State) (m : MethodId) (args : Array Value) (below : List Frame) (meth : Method) (c : Code) : Nat → List (Nat × Value) → List Value → xHp → Option (Int32 × xHp) → Prop := xJ G p l e ({ frames := 1, cells := 0, slots := 0, locals := 25 } : Room) s m args below meth c 3 (fun res => MQ below (xQi G res) args s 0 0 (xA G))
def F_X9_atom (N : Nat) (p1 : Int32) (p2 : Int32) (h : xHp) : Option (Int32 × xHp) := bnd2 (F_X9_isIn N (p1.toInt64) 0 (((gI h 51 24) - 1).toInt64) h) fun r1 h2 => bnd2 (F_X9_isIn N (p2.toInt64) 0 2 h2) fun r3 h4 => bnd2 (F_X9_may N r1 r3 1 h4) fun r5 h6 => if r5 = 0 then some (0, h6) else if p2 = 0 then grd (xin p1 10) (some ((gI h6 62 p1.toNatClampNeg), h6)) else if p2 = 1 then grd (xin p1 10) (some ((gI h6 63 p1.toNatClampNeg), h6)) else grd (xin p1 10) (some ((gI h6 64 p1.toNatClampNeg), h6))
set_option maxHeartbeats 4000000 in
set_option maxRecDepth 100000 in
theorem M_X9_atom (G : xG) (l : Launch) (N : Nat) (p1 : Int32) (p2 : Int32) (h : xHp) : ∀ r, F_X9_atom N p1 p2 h = some r → Met l yX9_atom vX9_atom ({ frames := 1, cells := 0, slots := 0, locals := 25 } : Room) (xPc G [.ref (xad G 51), .int p1, .int p2] h) (xQi G r) 0 0 (xA G) := by
  refine x_met (own := RX9) (cc := cX9_atom) (maxL := 3) (ret := (some .int)) (lv0 := [(0, .ref (xad G 51)), (1, .int p1), (2, .int p2)]) (by decide +kernel) rfl rfl (Nat.le_of_ble_eq_true rfl) rfl ?_
  intro p e s m below meth c C hr
  unfold F_X9_atom
  refine x_aload_n C dX9_atom_0 rfl 0 rfl ?_
  refine x_iload_n C dX9_atom_1 rfl 1 rfl ?_
  refine x_i2l C dX9_atom_2 ?_
  refine x_lconst (v := 0) C dX9_atom_3 (by decide) ?_
  refine x_aload_n C dX9_atom_4 rfl 0 rfl ?_
  refine x_get (v := .int (gI h 51 24)) C 24 dX9_atom_5 (xc_51 G h) rfl (by decide) rfl (fun w h => List.mem_cons_of_mem _ (iWM_X9 w h)) (by decide) rfl (C.2.2.2.2.1 _ (List.mem_cons_of_mem _ qM_148)) ?_
  refine x_iconst (v := 1) C dX9_atom_8 (by decide) ?_
  refine x_isub C dX9_atom_9 ?_
  refine x_i2l C dX9_atom_10 ?_
  refine x_callSi C dX9_atom_11 (M_X9_isIn G l N (p1.toInt64) 0 (((gI h 51 24) - 1).toInt64) h) (va_cwS 3 C.2.2.2.2.1 (gdS gWM qM_7 qM_8 qM_9 qM_3) rfl rfl rfl (by decide +kernel) ⟨Nat.le_of_ble_eq_true rfl, Nat.le_of_ble_eq_true rfl⟩) rfl rfl (Nat.le_of_ble_eq_true rfl) (fun r1 h2 => ?_)
  refine x_iload_n C dX9_atom_14 rfl 2 rfl ?_
  refine x_i2l C dX9_atom_15 ?_
  refine x_lconst (v := 0) C dX9_atom_16 (by decide) ?_
  refine x_ldc2 (v := 2) C dX9_atom_17 (C.2.2.2.2.1 _ (List.mem_cons_of_mem _ qM_163)) ?_
  refine x_callSi C dX9_atom_20 (M_X9_isIn G l N (p2.toInt64) 0 2 h2) (va_cwS 3 C.2.2.2.2.1 (gdS gWM qM_7 qM_8 qM_9 qM_3) rfl rfl rfl (by decide +kernel) ⟨Nat.le_of_ble_eq_true rfl, Nat.le_of_ble_eq_true rfl⟩) rfl rfl (Nat.le_of_ble_eq_true rfl) (fun r3 h4 => ?_)
  refine x_iconst (v := 1) C dX9_atom_23 (by decide) ?_
  refine x_callVi C dX9_atom_24 (M_X9_may G l N r1 r3 1 h4) (cwV 3 C.2.2.2.2.1 (gdV gWM qM_33 qM_34 qM_35 qM_9 qM_4) rfl rfl rfl (by decide +kernel) ⟨Nat.le_of_ble_eq_true rfl, Nat.le_of_ble_eq_true rfl⟩) (xc_51 G h4) (by decide) rfl rfl rfl (Nat.le_of_ble_eq_true rfl) (fun r5 h6 => ?_)
  refine x_if_ne (tgt := 32) C dX9_atom_27 (by decide) ?_ ?_
  · refine x_iconst (v := 0) C dX9_atom_30 (by decide) ?_
    exact x_iret C dX9_atom_31 hr
  · refine x_iload_n C dX9_atom_32 rfl 2 rfl ?_
    refine x_if_ne (tgt := 45) C dX9_atom_33 (by decide) ?_ ?_
    · refine x_aload_n C dX9_atom_36 rfl 0 rfl ?_
      refine x_get (v := .ref (xad G 62)) C 25 dX9_atom_37 (xc_51 G h6) rfl (by decide) rfl (fun w h => List.mem_cons_of_mem _ (iWM_X9 w h)) (by decide) rfl (C.2.2.2.2.1 _ (List.mem_cons_of_mem _ qM_150)) ?_
      refine x_iload_n C dX9_atom_40 rfl 1 rfl ?_
      refine x_iald (n := 10) C dX9_atom_41 (xc_62 G h6) (by decide) ?_
      refine x_goto (tgt := 65) C dX9_atom_42 (by decide) ?_
      exact x_iret C dX9_atom_65 hr
    · refine x_iload_n C dX9_atom_45 rfl 2 rfl ?_
      refine x_iconst (v := 1) C dX9_atom_46 (by decide) ?_
      refine x_icmp_ne (tgt := 59) C dX9_atom_47 (by decide) ?_ ?_
      · refine x_aload_n C dX9_atom_50 rfl 0 rfl ?_
        refine x_get (v := .ref (xad G 63)) C 26 dX9_atom_51 (xc_51 G h6) rfl (by decide) rfl (fun w h => List.mem_cons_of_mem _ (iWM_X9 w h)) (by decide) rfl (C.2.2.2.2.1 _ (List.mem_cons_of_mem _ qM_151)) ?_
        refine x_iload_n C dX9_atom_54 rfl 1 rfl ?_
        refine x_iald (n := 10) C dX9_atom_55 (xc_63 G h6) (by decide) ?_
        refine x_goto (tgt := 65) C dX9_atom_56 (by decide) ?_
        exact x_iret C dX9_atom_65 hr
      · refine x_aload_n C dX9_atom_59 rfl 0 rfl ?_
        refine x_get (v := .ref (xad G 64)) C 27 dX9_atom_60 (xc_51 G h6) rfl (by decide) rfl (fun w h => List.mem_cons_of_mem _ (iWM_X9 w h)) (by decide) rfl (C.2.2.2.2.1 _ (List.mem_cons_of_mem _ qM_152)) ?_
        refine x_iload_n C dX9_atom_63 rfl 1 rfl ?_
        refine x_iald (n := 10) C dX9_atom_64 (xc_64 G h6) (by decide) ?_
        exact x_iret C dX9_atom_65 hr
/-! X9_judged: 130 instructions -/
abbrev J_X9_judged (G : xG) (p : Program) (l : Launch) (e : Env) (s : State) (m : MethodId) (args : Array Value) (below : List Frame) (meth : Method) (c : Code) : Nat → List (Nat × Value) → List Value → xHp → Option (Int32 × xHp) → Prop := xJ G p l e ({ frames := 0, cells := 0, slots := 0, locals := 0 } : Room) s m args below meth c 7 (fun res => MQ below (xQi G res) args s 0 0 (xA G))
def F_X9_judged_211 (N : Nat) (k4 : Int32 → Int32 → xHp → Option (Int32 × xHp)) (x1 : Int32) (x2 : Int32) (h : xHp) : Option (Int32 × xHp) := k4 x1 (x2 + 1) h
def F_X9_judged_104 (N : Nat) (k4 : Int32 → Int32 → xHp → Option (Int32 × xHp)) (x1 : Int32) (x2 : Int32) (s2 : Int32) (s1 : Int32) (h : xHp) : Option (Int32 × xHp) := grd (xin s1 400) (bnd (sI h 72 s1.toNatClampNeg s2) fun h1 => F_X9_judged_211 N k4 x1 x2 h1)
def F_X9_judged_210 (N : Nat) (k4 : Int32 → Int32 → xHp → Option (Int32 × xHp)) (x1 : Int32) (x2 : Int32) (s2 : Int32) (s1 : Int32) (h : xHp) : Option (Int32 × xHp) := grd (xin s1 400) (bnd (sI h 72 s1.toNatClampNeg s2) fun h1 => F_X9_judged_211 N k4 x1 x2 h1)
def F_X9_judged_185 (N : Nat) (k4 : Int32 → Int32 → xHp → Option (Int32 × xHp)) (x1 : Int32) (x2 : Int32) (x6 : Int32) (s1 : Int32) (h : xHp) : Option (Int32 × xHp) := F_X9_judged_210 N k4 x1 x2 x6 s1 h
def F_X9_judged_202 (N : Nat) (k4 : Int32 → Int32 → xHp → Option (Int32 × xHp)) (x1 : Int32) (x2 : Int32) (s1 : Int32) (h : xHp) : Option (Int32 × xHp) := F_X9_judged_210 N k4 x1 x2 2 s1 h
def F_X9_judged_162 (N : Nat) (k4 : Int32 → Int32 → xHp → Option (Int32 × xHp)) (x1 : Int32) (x2 : Int32) (x4 : Int32) (x5 : Int32) (s0 : Int32) (h : xHp) : Option (Int32 × xHp) := if x4 = s0 then F_X9_judged_185 N k4 x1 x2 s0 (x1 - 1) h else if x5 = s0 then F_X9_judged_185 N k4 x1 x2 s0 (x1 - 1) h else if x4 = 2 then F_X9_judged_202 N k4 x1 x2 (x1 - 1) h else if x5 = 2 then F_X9_judged_202 N k4 x1 x2 (x1 - 1) h else F_X9_judged_210 N k4 x1 x2 (1 - s0) (x1 - 1) h
def F_X9_judged_151 (N : Nat) (k4 : Int32 → Int32 → xHp → Option (Int32 × xHp)) (x1 : Int32) (x2 : Int32) (x3 : Int32) (x4 : Int32) (x5 : Int32) (h : xHp) : Option (Int32 × xHp) := if x3 = 23 then F_X9_judged_162 N k4 x1 x2 x4 x5 0 h else F_X9_judged_162 N k4 x1 x2 x4 x5 1 h
def F_X9_judged_149 (N : Nat) (k4 : Int32 → Int32 → xHp → Option (Int32 × xHp)) (x1 : Int32) (x2 : Int32) (x3 : Int32) (x5 : Int32) (s0 : Int32) (h : xHp) : Option (Int32 × xHp) := F_X9_judged_151 N k4 x1 x2 x3 s0 x5 h
def F_X9_judged_4_b (N : Nat) (k4 : Int32 → Int32 → xHp → Option (Int32 × xHp)) (x1 : Int32) (x2 : Int32) (h : xHp) : Option (Int32 × xHp) := if (gI h 51 28) ≤ x2 then grd (xin 0 400) (some ((gI h 72 (0 : Int32).toNatClampNeg), h)) else grd (xin x2 1000) (if 10 ≤ (gI h 65 x2.toNatClampNeg) then if 21 < (gI h 65 x2.toNatClampNeg) then if (gI h 65 x2.toNatClampNeg) = 22 then grd (xin (x1 - 1) 400) (if (gI h 72 (x1 - 1).toNatClampNeg) = 2 then F_X9_judged_104 N k4 x1 x2 2 (x1 - 1) h else grd (xin (x1 - 1) 400) (F_X9_judged_104 N k4 x1 x2 (1 - (gI h 72 (x1 - 1).toNatClampNeg)) (x1 - 1) h)) else grd (xin ((x1 + (-1)) - 1) 400) (grd (xin (x1 + (-1)) 400) (if (gI h 65 x2.toNatClampNeg) = 25 then if (gI h 72 ((x1 + (-1)) - 1).toNatClampNeg) = 2 then F_X9_judged_149 N k4 (x1 + (-1)) x2 (gI h 65 x2.toNatClampNeg) (gI h 72 (x1 + (-1)).toNatClampNeg) 2 h else F_X9_judged_149 N k4 (x1 + (-1)) x2 (gI h 65 x2.toNatClampNeg) (gI h 72 (x1 + (-1)).toNatClampNeg) (1 - (gI h 72 ((x1 + (-1)) - 1).toNatClampNeg)) h else F_X9_judged_151 N k4 (x1 + (-1)) x2 (gI h 65 x2.toNatClampNeg) (gI h 72 ((x1 + (-1)) - 1).toNatClampNeg) (gI h 72 (x1 + (-1)).toNatClampNeg) h)) else grd (xin x1 400) (bnd (sI h 72 x1.toNatClampNeg ((gI h 65 x2.toNatClampNeg) - 20)) fun h1 => F_X9_judged_211 N k4 (x1 + 1) x2 h1) else grd (xin (gI h 65 x2.toNatClampNeg) 10) (grd (xin x1 400) (bnd (sI h 72 x1.toNatClampNeg (gI h 71 (gI h 65 x2.toNatClampNeg).toNatClampNeg)) fun h2 => F_X9_judged_211 N k4 (x1 + 1) x2 h2)))
def F_X9_judged_4 (N : Nat) (x1 : Int32) (x2 : Int32) (h : xHp) : Option (Int32 × xHp) := xit (F_X9_judged_4_b N) (fun _ _ _ => none) N x1 x2 h
def F_X9_judged (N : Nat) (h : xHp) : Option (Int32 × xHp) := F_X9_judged_4 N 0 0 h
set_option maxHeartbeats 4000000 in
set_option maxRecDepth 100000 in
theorem T_X9_judged_211 {G : xG} {p : Program} {l : Launch} {e : Env} {s : State} {m : MethodId} {args : Array Value} {below : List Frame} {meth : Method} {c : Code} {N : Nat} (C : xC G p s m args meth c cX9_judged 7 vX9_judged RX9) (hr : meth.sig.returnType = (some .int)) {k4 : Int32 → Int32 → xHp → Option (Int32 × xHp)} (hk4 : ∀ (x1 : Int32) (x2 : Int32) (h : xHp), J_X9_judged G p l e s m args below meth c 4 [(0, .ref (xad G 51)), (1, .int x1), (2, .int x2)] [] h (k4 x1 x2 h)) (x1 : Int32) (x2 : Int32) (h : xHp) : J_X9_judged G p l e s m args below meth c 211 [(0, .ref (xad G 51)), (1, .int x1), (2, .int x2)] [] h (F_X9_judged_211 N k4 x1 x2 h) := by
  unfold F_X9_judged_211
  refine x_iinc (v := (x2 + 1)) (j := 2) (lv' := [(2, .int (x2 + 1)), (0, .ref (xad G 51)), (1, .int x1)]) C dX9_judged_211 rfl (by rfl) (by decide) rfl ?_
  refine x_goto (tgt := 4) C dX9_judged_214 (by decide) ?_
  exact x_sub [1, 2, 0] rfl (hk4 x1 (x2 + 1) h)
set_option maxHeartbeats 4000000 in
set_option maxRecDepth 100000 in
theorem T_X9_judged_104 {G : xG} {p : Program} {l : Launch} {e : Env} {s : State} {m : MethodId} {args : Array Value} {below : List Frame} {meth : Method} {c : Code} {N : Nat} (C : xC G p s m args meth c cX9_judged 7 vX9_judged RX9) (hr : meth.sig.returnType = (some .int)) {k4 : Int32 → Int32 → xHp → Option (Int32 × xHp)} (hk4 : ∀ (x1 : Int32) (x2 : Int32) (h : xHp), J_X9_judged G p l e s m args below meth c 4 [(0, .ref (xad G 51)), (1, .int x1), (2, .int x2)] [] h (k4 x1 x2 h)) (x1 : Int32) (x2 : Int32) (s2 : Int32) (s1 : Int32) (h : xHp) : J_X9_judged G p l e s m args below meth c 104 [(0, .ref (xad G 51)), (1, .int x1), (2, .int x2)] [.int s2, .int s1, .ref (xad G 72)] h (F_X9_judged_104 N k4 x1 x2 s2 s1 h) := by
  unfold F_X9_judged_104
  refine x_iast (n := 400) C dX9_judged_104 (fun g => xp_72 G g _ _) (by decide) (fun h1 => ?_)
  refine x_goto (tgt := 211) C dX9_judged_105 (by decide) ?_
  exact x_sub [0, 1, 2] rfl (T_X9_judged_211 C hr hk4 x1 x2 h1)
set_option maxHeartbeats 4000000 in
set_option maxRecDepth 100000 in
theorem T_X9_judged_210 {G : xG} {p : Program} {l : Launch} {e : Env} {s : State} {m : MethodId} {args : Array Value} {below : List Frame} {meth : Method} {c : Code} {N : Nat} (C : xC G p s m args meth c cX9_judged 7 vX9_judged RX9) (hr : meth.sig.returnType = (some .int)) {k4 : Int32 → Int32 → xHp → Option (Int32 × xHp)} (hk4 : ∀ (x1 : Int32) (x2 : Int32) (h : xHp), J_X9_judged G p l e s m args below meth c 4 [(0, .ref (xad G 51)), (1, .int x1), (2, .int x2)] [] h (k4 x1 x2 h)) (x1 : Int32) (x2 : Int32) (s2 : Int32) (s1 : Int32) (h : xHp) : J_X9_judged G p l e s m args below meth c 210 [(0, .ref (xad G 51)), (1, .int x1), (2, .int x2)] [.int s2, .int s1, .ref (xad G 72)] h (F_X9_judged_210 N k4 x1 x2 s2 s1 h) := by
  unfold F_X9_judged_210
  refine x_iast (n := 400) C dX9_judged_210 (fun g => xp_72 G g _ _) (by decide) (fun h1 => ?_)
  exact x_sub [0, 1, 2] rfl (T_X9_judged_211 C hr hk4 x1 x2 h1)
set_option maxHeartbeats 4000000 in
set_option maxRecDepth 100000 in
theorem T_X9_judged_185 {G : xG} {p : Program} {l : Launch} {e : Env} {s : State} {m : MethodId} {args : Array Value} {below : List Frame} {meth : Method} {c : Code} {N : Nat} (C : xC G p s m args meth c cX9_judged 7 vX9_judged RX9) (hr : meth.sig.returnType = (some .int)) {k4 : Int32 → Int32 → xHp → Option (Int32 × xHp)} (hk4 : ∀ (x1 : Int32) (x2 : Int32) (h : xHp), J_X9_judged G p l e s m args below meth c 4 [(0, .ref (xad G 51)), (1, .int x1), (2, .int x2)] [] h (k4 x1 x2 h)) (x1 : Int32) (x2 : Int32) (x6 : Int32) (s1 : Int32) (h : xHp) : J_X9_judged G p l e s m args below meth c 185 [(0, .ref (xad G 51)), (1, .int x1), (2, .int x2), (6, .int x6)] [.int s1, .ref (xad G 72)] h (F_X9_judged_185 N k4 x1 x2 x6 s1 h) := by
  unfold F_X9_judged_185
  refine x_iload C dX9_judged_185 3 rfl ?_
  refine x_goto (tgt := 210) C dX9_judged_187 (by decide) ?_
  exact x_sub [0, 1, 2] rfl (T_X9_judged_210 C hr hk4 x1 x2 x6 s1 h)
set_option maxHeartbeats 4000000 in
set_option maxRecDepth 100000 in
theorem T_X9_judged_202 {G : xG} {p : Program} {l : Launch} {e : Env} {s : State} {m : MethodId} {args : Array Value} {below : List Frame} {meth : Method} {c : Code} {N : Nat} (C : xC G p s m args meth c cX9_judged 7 vX9_judged RX9) (hr : meth.sig.returnType = (some .int)) {k4 : Int32 → Int32 → xHp → Option (Int32 × xHp)} (hk4 : ∀ (x1 : Int32) (x2 : Int32) (h : xHp), J_X9_judged G p l e s m args below meth c 4 [(0, .ref (xad G 51)), (1, .int x1), (2, .int x2)] [] h (k4 x1 x2 h)) (x1 : Int32) (x2 : Int32) (s1 : Int32) (h : xHp) : J_X9_judged G p l e s m args below meth c 202 [(0, .ref (xad G 51)), (1, .int x1), (2, .int x2)] [.int s1, .ref (xad G 72)] h (F_X9_judged_202 N k4 x1 x2 s1 h) := by
  unfold F_X9_judged_202
  refine x_iconst (v := 2) C dX9_judged_202 (by decide) ?_
  refine x_goto (tgt := 210) C dX9_judged_203 (by decide) ?_
  exact x_sub [0, 1, 2] rfl (T_X9_judged_210 C hr hk4 x1 x2 2 s1 h)
set_option maxHeartbeats 4000000 in
set_option maxRecDepth 100000 in
theorem T_X9_judged_162 {G : xG} {p : Program} {l : Launch} {e : Env} {s : State} {m : MethodId} {args : Array Value} {below : List Frame} {meth : Method} {c : Code} {N : Nat} (C : xC G p s m args meth c cX9_judged 7 vX9_judged RX9) (hr : meth.sig.returnType = (some .int)) {k4 : Int32 → Int32 → xHp → Option (Int32 × xHp)} (hk4 : ∀ (x1 : Int32) (x2 : Int32) (h : xHp), J_X9_judged G p l e s m args below meth c 4 [(0, .ref (xad G 51)), (1, .int x1), (2, .int x2)] [] h (k4 x1 x2 h)) (x1 : Int32) (x2 : Int32) (x4 : Int32) (x5 : Int32) (s0 : Int32) (h : xHp) : J_X9_judged G p l e s m args below meth c 162 [(0, .ref (xad G 51)), (1, .int x1), (2, .int x2), (4, .int x4), (5, .int x5)] [.int s0] h (F_X9_judged_162 N k4 x1 x2 x4 x5 s0 h) := by
  unfold F_X9_judged_162
  refine x_istore (lv' := [(6, .int s0), (0, .ref (xad G 51)), (1, .int x1), (2, .int x2), (4, .int x4), (5, .int x5)]) C dX9_judged_162 (by decide) rfl ?_
  refine x_aload_n C dX9_judged_164 rfl 1 rfl ?_
  refine x_get (v := .ref (xad G 72)) C 41 dX9_judged_165 (xc_51 G h) rfl (by decide) rfl (fun w h => List.mem_cons_of_mem _ (iWM_X9 w h)) (by decide) rfl (C.2.2.2.2.1 _ (List.mem_cons_of_mem _ qM_165)) ?_
  refine x_iload_n C dX9_judged_168 rfl 2 rfl ?_
  refine x_iconst (v := 1) C dX9_judged_169 (by decide) ?_
  refine x_isub C dX9_judged_170 ?_
  refine x_iload C dX9_judged_171 4 rfl ?_
  refine x_iload C dX9_judged_173 0 rfl ?_
  refine x_icmp_eq (tgt := 185) C dX9_judged_175 (by decide) ?_ ?_
  · exact x_sub [1, 2, 3, 0] rfl (T_X9_judged_185 C hr hk4 x1 x2 s0 (x1 - 1) h)
  · refine x_iload C dX9_judged_178 5 rfl ?_
    refine x_iload C dX9_judged_180 0 rfl ?_
    refine x_icmp_ne (tgt := 190) C dX9_judged_182 (by decide) ?_ ?_
    · exact x_sub [1, 2, 3, 0] rfl (T_X9_judged_185 C hr hk4 x1 x2 s0 (x1 - 1) h)
    · refine x_iload C dX9_judged_190 4 rfl ?_
      refine x_iconst (v := 2) C dX9_judged_192 (by decide) ?_
      refine x_icmp_eq (tgt := 202) C dX9_judged_193 (by decide) ?_ ?_
      · exact x_sub [1, 2, 3] rfl (T_X9_judged_202 C hr hk4 x1 x2 (x1 - 1) h)
      · refine x_iload C dX9_judged_196 5 rfl ?_
        refine x_iconst (v := 2) C dX9_judged_198 (by decide) ?_
        refine x_icmp_ne (tgt := 206) C dX9_judged_199 (by decide) ?_ ?_
        · exact x_sub [1, 2, 3] rfl (T_X9_judged_202 C hr hk4 x1 x2 (x1 - 1) h)
        · refine x_iconst (v := 1) C dX9_judged_206 (by decide) ?_
          refine x_iload C dX9_judged_207 0 rfl ?_
          refine x_isub C dX9_judged_209 ?_
          exact x_sub [1, 2, 3] rfl (T_X9_judged_210 C hr hk4 x1 x2 (1 - s0) (x1 - 1) h)
set_option maxHeartbeats 4000000 in
set_option maxRecDepth 100000 in
theorem T_X9_judged_151 {G : xG} {p : Program} {l : Launch} {e : Env} {s : State} {m : MethodId} {args : Array Value} {below : List Frame} {meth : Method} {c : Code} {N : Nat} (C : xC G p s m args meth c cX9_judged 7 vX9_judged RX9) (hr : meth.sig.returnType = (some .int)) {k4 : Int32 → Int32 → xHp → Option (Int32 × xHp)} (hk4 : ∀ (x1 : Int32) (x2 : Int32) (h : xHp), J_X9_judged G p l e s m args below meth c 4 [(0, .ref (xad G 51)), (1, .int x1), (2, .int x2)] [] h (k4 x1 x2 h)) (x1 : Int32) (x2 : Int32) (x3 : Int32) (x4 : Int32) (x5 : Int32) (h : xHp) : J_X9_judged G p l e s m args below meth c 151 [(0, .ref (xad G 51)), (1, .int x1), (2, .int x2), (3, .int x3), (4, .int x4), (5, .int x5)] [] h (F_X9_judged_151 N k4 x1 x2 x3 x4 x5 h) := by
  unfold F_X9_judged_151
  refine x_iload_n C dX9_judged_151 rfl 3 rfl ?_
  refine x_bipush (v := 23) C dX9_judged_152 (by decide) ?_
  refine x_icmp_ne (tgt := 161) C dX9_judged_154 (by decide) ?_ ?_
  · refine x_iconst (v := 0) C dX9_judged_157 (by decide) ?_
    refine x_goto (tgt := 162) C dX9_judged_158 (by decide) ?_
    exact x_sub [0, 1, 2, 4, 5] rfl (T_X9_judged_162 C hr hk4 x1 x2 x4 x5 0 h)
  · refine x_iconst (v := 1) C dX9_judged_161 (by decide) ?_
    exact x_sub [0, 1, 2, 4, 5] rfl (T_X9_judged_162 C hr hk4 x1 x2 x4 x5 1 h)
set_option maxHeartbeats 4000000 in
set_option maxRecDepth 100000 in
theorem T_X9_judged_149 {G : xG} {p : Program} {l : Launch} {e : Env} {s : State} {m : MethodId} {args : Array Value} {below : List Frame} {meth : Method} {c : Code} {N : Nat} (C : xC G p s m args meth c cX9_judged 7 vX9_judged RX9) (hr : meth.sig.returnType = (some .int)) {k4 : Int32 → Int32 → xHp → Option (Int32 × xHp)} (hk4 : ∀ (x1 : Int32) (x2 : Int32) (h : xHp), J_X9_judged G p l e s m args below meth c 4 [(0, .ref (xad G 51)), (1, .int x1), (2, .int x2)] [] h (k4 x1 x2 h)) (x1 : Int32) (x2 : Int32) (x3 : Int32) (x5 : Int32) (s0 : Int32) (h : xHp) : J_X9_judged G p l e s m args below meth c 149 [(0, .ref (xad G 51)), (1, .int x1), (2, .int x2), (3, .int x3), (5, .int x5)] [.int s0] h (F_X9_judged_149 N k4 x1 x2 x3 x5 s0 h) := by
  unfold F_X9_judged_149
  refine x_istore (lv' := [(4, .int s0), (0, .ref (xad G 51)), (1, .int x1), (2, .int x2), (3, .int x3), (5, .int x5)]) C dX9_judged_149 (by decide) rfl ?_
  exact x_sub [1, 2, 3, 4, 0, 5] rfl (T_X9_judged_151 C hr hk4 x1 x2 x3 s0 x5 h)
set_option maxHeartbeats 4000000 in
set_option maxRecDepth 100000 in
theorem T_X9_judged_4_b {G : xG} {p : Program} {l : Launch} {e : Env} {s : State} {m : MethodId} {args : Array Value} {below : List Frame} {meth : Method} {c : Code} {N : Nat} (C : xC G p s m args meth c cX9_judged 7 vX9_judged RX9) (hr : meth.sig.returnType = (some .int)) {k4 : Int32 → Int32 → xHp → Option (Int32 × xHp)} (hk4 : ∀ (x1 : Int32) (x2 : Int32) (h : xHp), J_X9_judged G p l e s m args below meth c 4 [(0, .ref (xad G 51)), (1, .int x1), (2, .int x2)] [] h (k4 x1 x2 h)) (x1 : Int32) (x2 : Int32) (h : xHp) : J_X9_judged G p l e s m args below meth c 4 [(0, .ref (xad G 51)), (1, .int x1), (2, .int x2)] [] h (F_X9_judged_4_b N k4 x1 x2 h) := by
  unfold F_X9_judged_4_b
  refine x_iload_n C dX9_judged_4 rfl 2 rfl ?_
  refine x_aload_n C dX9_judged_5 rfl 0 rfl ?_
  refine x_get (v := .int (gI h 51 28)) C 28 dX9_judged_6 (xc_51 G h) rfl (by decide) rfl (fun w h => List.mem_cons_of_mem _ (iWM_X9 w h)) (by decide) rfl (C.2.2.2.2.1 _ (List.mem_cons_of_mem _ qM_149)) ?_
  refine x_icmp_ge (tgt := 217) C dX9_judged_9 (by decide) ?_ ?_
  · refine x_aload_n C dX9_judged_217 rfl 0 rfl ?_
    refine x_get (v := .ref (xad G 72)) C 41 dX9_judged_218 (xc_51 G h) rfl (by decide) rfl (fun w h => List.mem_cons_of_mem _ (iWM_X9 w h)) (by decide) rfl (C.2.2.2.2.1 _ (List.mem_cons_of_mem _ qM_165)) ?_
    refine x_iconst (v := 0) C dX9_judged_221 (by decide) ?_
    refine x_iald (n := 400) C dX9_judged_222 (xc_72 G h) (by decide) ?_
    exact x_iret C dX9_judged_223 hr
  · refine x_aload_n C dX9_judged_12 rfl 0 rfl ?_
    refine x_get (v := .ref (xad G 65)) C 29 dX9_judged_13 (xc_51 G h) rfl (by decide) rfl (fun w h => List.mem_cons_of_mem _ (iWM_X9 w h)) (by decide) rfl (C.2.2.2.2.1 _ (List.mem_cons_of_mem _ qM_153)) ?_
    refine x_iload_n C dX9_judged_16 rfl 2 rfl ?_
    refine x_iald (n := 1000) C dX9_judged_17 (xc_65 G h) (by decide) ?_
    refine x_istore_n (lv' := [(3, .int (gI h 65 x2.toNatClampNeg)), (0, .ref (xad G 51)), (1, .int x1), (2, .int x2)]) C dX9_judged_18 rfl (by decide) rfl ?_
    refine x_iload_n C dX9_judged_19 rfl 0 rfl ?_
    refine x_bipush (v := 10) C dX9_judged_20 (by decide) ?_
    refine x_icmp_ge (tgt := 43) C dX9_judged_22 (by decide) ?_ ?_
    · refine x_iload_n C dX9_judged_43 rfl 0 rfl ?_
      refine x_bipush (v := 21) C dX9_judged_44 (by decide) ?_
      refine x_icmp_gt (tgt := 65) C dX9_judged_46 (by decide) ?_ ?_
      · refine x_iload_n C dX9_judged_65 rfl 0 rfl ?_
        refine x_bipush (v := 22) C dX9_judged_66 (by decide) ?_
        refine x_icmp_ne (tgt := 108) C dX9_judged_68 (by decide) ?_ ?_
        · refine x_aload_n C dX9_judged_71 rfl 1 rfl ?_
          refine x_get (v := .ref (xad G 72)) C 41 dX9_judged_72 (xc_51 G h) rfl (by decide) rfl (fun w h => List.mem_cons_of_mem _ (iWM_X9 w h)) (by decide) rfl (C.2.2.2.2.1 _ (List.mem_cons_of_mem _ qM_165)) ?_
          refine x_iload_n C dX9_judged_75 rfl 2 rfl ?_
          refine x_iconst (v := 1) C dX9_judged_76 (by decide) ?_
          refine x_isub C dX9_judged_77 ?_
          refine x_aload_n C dX9_judged_78 rfl 1 rfl ?_
          refine x_get (v := .ref (xad G 72)) C 41 dX9_judged_79 (xc_51 G h) rfl (by decide) rfl (fun w h => List.mem_cons_of_mem _ (iWM_X9 w h)) (by decide) rfl (C.2.2.2.2.1 _ (List.mem_cons_of_mem _ qM_165)) ?_
          refine x_iload_n C dX9_judged_82 rfl 2 rfl ?_
          refine x_iconst (v := 1) C dX9_judged_83 (by decide) ?_
          refine x_isub C dX9_judged_84 ?_
          refine x_iald (n := 400) C dX9_judged_85 (xc_72 G h) (by decide) ?_
          refine x_iconst (v := 2) C dX9_judged_86 (by decide) ?_
          refine x_icmp_ne (tgt := 94) C dX9_judged_87 (by decide) ?_ ?_
          · refine x_iconst (v := 2) C dX9_judged_90 (by decide) ?_
            refine x_goto (tgt := 104) C dX9_judged_91 (by decide) ?_
            exact x_sub [1, 2, 3] rfl (T_X9_judged_104 C hr hk4 x1 x2 2 (x1 - 1) h)
          · refine x_iconst (v := 1) C dX9_judged_94 (by decide) ?_
            refine x_aload_n C dX9_judged_95 rfl 1 rfl ?_
            refine x_get (v := .ref (xad G 72)) C 41 dX9_judged_96 (xc_51 G h) rfl (by decide) rfl (fun w h => List.mem_cons_of_mem _ (iWM_X9 w h)) (by decide) rfl (C.2.2.2.2.1 _ (List.mem_cons_of_mem _ qM_165)) ?_
            refine x_iload_n C dX9_judged_99 rfl 2 rfl ?_
            refine x_iconst (v := 1) C dX9_judged_100 (by decide) ?_
            refine x_isub C dX9_judged_101 ?_
            refine x_iald (n := 400) C dX9_judged_102 (xc_72 G h) (by decide) ?_
            refine x_isub C dX9_judged_103 ?_
            exact x_sub [1, 2, 3] rfl (T_X9_judged_104 C hr hk4 x1 x2 (1 - (gI h 72 (x1 - 1).toNatClampNeg)) (x1 - 1) h)
        · refine x_iinc (v := (x1 + (-1))) (j := 2) (lv' := [(1, .int (x1 + (-1))), (3, .int (gI h 65 x2.toNatClampNeg)), (0, .ref (xad G 51)), (2, .int x2)]) C dX9_judged_108 rfl (by rfl) (by decide) rfl ?_
          refine x_aload_n C dX9_judged_111 rfl 2 rfl ?_
          refine x_get (v := .ref (xad G 72)) C 41 dX9_judged_112 (xc_51 G h) rfl (by decide) rfl (fun w h => List.mem_cons_of_mem _ (iWM_X9 w h)) (by decide) rfl (C.2.2.2.2.1 _ (List.mem_cons_of_mem _ qM_165)) ?_
          refine x_iload_n C dX9_judged_115 rfl 0 rfl ?_
          refine x_iconst (v := 1) C dX9_judged_116 (by decide) ?_
          refine x_isub C dX9_judged_117 ?_
          refine x_iald (n := 400) C dX9_judged_118 (xc_72 G h) (by decide) ?_
          refine x_istore (lv' := [(4, .int (gI h 72 ((x1 + (-1)) - 1).toNatClampNeg)), (1, .int (x1 + (-1))), (3, .int (gI h 65 x2.toNatClampNeg)), (0, .ref (xad G 51)), (2, .int x2)]) C dX9_judged_119 (by decide) rfl ?_
          refine x_aload_n C dX9_judged_121 rfl 3 rfl ?_
          refine x_get (v := .ref (xad G 72)) C 41 dX9_judged_122 (xc_51 G h) rfl (by decide) rfl (fun w h => List.mem_cons_of_mem _ (iWM_X9 w h)) (by decide) rfl (C.2.2.2.2.1 _ (List.mem_cons_of_mem _ qM_165)) ?_
          refine x_iload_n C dX9_judged_125 rfl 1 rfl ?_
          refine x_iald (n := 400) C dX9_judged_126 (xc_72 G h) (by decide) ?_
          refine x_istore (lv' := [(5, .int (gI h 72 (x1 + (-1)).toNatClampNeg)), (4, .int (gI h 72 ((x1 + (-1)) - 1).toNatClampNeg)), (1, .int (x1 + (-1))), (3, .int (gI h 65 x2.toNatClampNeg)), (0, .ref (xad G 51)), (2, .int x2)]) C dX9_judged_127 (by decide) rfl ?_
          refine x_iload_n C dX9_judged_129 rfl 3 rfl ?_
          refine x_bipush (v := 25) C dX9_judged_130 (by decide) ?_
          refine x_icmp_ne (tgt := 151) C dX9_judged_132 (by decide) ?_ ?_
          · refine x_iload C dX9_judged_135 1 rfl ?_
            refine x_iconst (v := 2) C dX9_judged_137 (by decide) ?_
            refine x_icmp_ne (tgt := 145) C dX9_judged_138 (by decide) ?_ ?_
            · refine x_iconst (v := 2) C dX9_judged_141 (by decide) ?_
              refine x_goto (tgt := 149) C dX9_judged_142 (by decide) ?_
              exact x_sub [4, 2, 5, 3, 0] rfl (T_X9_judged_149 C hr hk4 (x1 + (-1)) x2 (gI h 65 x2.toNatClampNeg) (gI h 72 (x1 + (-1)).toNatClampNeg) 2 h)
            · refine x_iconst (v := 1) C dX9_judged_145 (by decide) ?_
              refine x_iload C dX9_judged_146 1 rfl ?_
              refine x_isub C dX9_judged_148 ?_
              exact x_sub [4, 2, 5, 3, 0] rfl (T_X9_judged_149 C hr hk4 (x1 + (-1)) x2 (gI h 65 x2.toNatClampNeg) (gI h 72 (x1 + (-1)).toNatClampNeg) (1 - (gI h 72 ((x1 + (-1)) - 1).toNatClampNeg)) h)
          · exact x_sub [4, 2, 5, 3, 1, 0] rfl (T_X9_judged_151 C hr hk4 (x1 + (-1)) x2 (gI h 65 x2.toNatClampNeg) (gI h 72 ((x1 + (-1)) - 1).toNatClampNeg) (gI h 72 (x1 + (-1)).toNatClampNeg) h)
      · refine x_aload_n C dX9_judged_49 rfl 1 rfl ?_
        refine x_get (v := .ref (xad G 72)) C 41 dX9_judged_50 (xc_51 G h) rfl (by decide) rfl (fun w h => List.mem_cons_of_mem _ (iWM_X9 w h)) (by decide) rfl (C.2.2.2.2.1 _ (List.mem_cons_of_mem _ qM_165)) ?_
        refine x_iload_n C dX9_judged_53 rfl 2 rfl ?_
        refine x_iload_n C dX9_judged_54 rfl 0 rfl ?_
        refine x_bipush (v := 20) C dX9_judged_55 (by decide) ?_
        refine x_isub C dX9_judged_57 ?_
        refine x_iast (n := 400) C dX9_judged_58 (fun g => xp_72 G g _ _) (by decide) (fun h1 => ?_)
        refine x_iinc (v := (x1 + 1)) (j := 2) (lv' := [(1, .int (x1 + 1)), (3, .int (gI h 65 x2.toNatClampNeg)), (0, .ref (xad G 51)), (2, .int x2)]) C dX9_judged_59 rfl (by rfl) (by decide) rfl ?_
        refine x_goto (tgt := 211) C dX9_judged_62 (by decide) ?_
        exact x_sub [2, 0, 3] rfl (T_X9_judged_211 C hr hk4 (x1 + 1) x2 h1)
    · refine x_aload_n C dX9_judged_25 rfl 1 rfl ?_
      refine x_get (v := .ref (xad G 72)) C 41 dX9_judged_26 (xc_51 G h) rfl (by decide) rfl (fun w h => List.mem_cons_of_mem _ (iWM_X9 w h)) (by decide) rfl (C.2.2.2.2.1 _ (List.mem_cons_of_mem _ qM_165)) ?_
      refine x_iload_n C dX9_judged_29 rfl 2 rfl ?_
      refine x_aload_n C dX9_judged_30 rfl 1 rfl ?_
      refine x_get (v := .ref (xad G 71)) C 40 dX9_judged_31 (xc_51 G h) rfl (by decide) rfl (fun w h => List.mem_cons_of_mem _ (iWM_X9 w h)) (by decide) rfl (C.2.2.2.2.1 _ (List.mem_cons_of_mem _ qM_166)) ?_
      refine x_iload_n C dX9_judged_34 rfl 0 rfl ?_
      refine x_iald (n := 10) C dX9_judged_35 (xc_71 G h) (by decide) ?_
      refine x_iast (n := 400) C dX9_judged_36 (fun g => xp_72 G g _ _) (by decide) (fun h2 => ?_)
      refine x_iinc (v := (x1 + 1)) (j := 2) (lv' := [(1, .int (x1 + 1)), (3, .int (gI h 65 x2.toNatClampNeg)), (0, .ref (xad G 51)), (2, .int x2)]) C dX9_judged_37 rfl (by rfl) (by decide) rfl ?_
      refine x_goto (tgt := 211) C dX9_judged_40 (by decide) ?_
      exact x_sub [2, 0, 3] rfl (T_X9_judged_211 C hr hk4 (x1 + 1) x2 h2)
set_option maxHeartbeats 4000000 in
set_option maxRecDepth 100000 in
theorem T_X9_judged_4_n {G : xG} {p : Program} {l : Launch} {e : Env} {s : State} {m : MethodId} {args : Array Value} {below : List Frame} {meth : Method} {c : Code} {N : Nat} (C : xC G p s m args meth c cX9_judged 7 vX9_judged RX9) (hr : meth.sig.returnType = (some .int)) : ∀ (n : Nat) (x1 : Int32) (x2 : Int32) (h : xHp), J_X9_judged G p l e s m args below meth c 4 [(0, .ref (xad G 51)), (1, .int x1), (2, .int x2)] [] h (xit (F_X9_judged_4_b N) (fun _ _ _ => none) n x1 x2 h) := by
  intro n
  induction n with
  | zero => intros; exact x_none
  | succ n ih => intros; exact T_X9_judged_4_b C hr ih _ _ _
set_option maxHeartbeats 4000000 in
set_option maxRecDepth 100000 in
theorem T_X9_judged_4 {G : xG} {p : Program} {l : Launch} {e : Env} {s : State} {m : MethodId} {args : Array Value} {below : List Frame} {meth : Method} {c : Code} {N : Nat} (C : xC G p s m args meth c cX9_judged 7 vX9_judged RX9) (hr : meth.sig.returnType = (some .int)) (x1 : Int32) (x2 : Int32) (h : xHp) : J_X9_judged G p l e s m args below meth c 4 [(0, .ref (xad G 51)), (1, .int x1), (2, .int x2)] [] h (F_X9_judged_4 N x1 x2 h) := T_X9_judged_4_n C hr N x1 x2 h
set_option maxHeartbeats 4000000 in
set_option maxRecDepth 100000 in
theorem M_X9_judged (G : xG) (l : Launch) (N : Nat) (h : xHp) : ∀ r, F_X9_judged N h = some r → Met l yX9_judged vX9_judged ({ frames := 0, cells := 0, slots := 0, locals := 0 } : Room) (xPc G [.ref (xad G 51)] h) (xQi G r) 0 0 (xA G) := by
  refine x_met (own := RX9) (cc := cX9_judged) (maxL := 7) (ret := (some .int)) (lv0 := [(0, .ref (xad G 51))]) (by decide +kernel) rfl rfl (Nat.le_of_ble_eq_true rfl) rfl ?_
  intro p e s m below meth c C hr
  unfold F_X9_judged
  refine x_iconst (v := 0) C dX9_judged_0 (by decide) ?_
  refine x_istore_n (lv' := [(1, .int 0), (0, .ref (xad G 51))]) C dX9_judged_1 rfl (by decide) rfl ?_
  refine x_iconst (v := 0) C dX9_judged_2 (by decide) ?_
  refine x_istore_n (lv' := [(2, .int 0), (1, .int 0), (0, .ref (xad G 51))]) C dX9_judged_3 rfl (by decide) rfl ?_
  exact x_sub [2, 1, 0] rfl (T_X9_judged_4 C hr 0 0 h)
/-! X9_putDifference: 72 instructions -/
abbrev J_X9_putDifference (G : xG) (p : Program) (l : Launch) (e : Env) (s : State) (m : MethodId) (args : Array Value) (below : List Frame) (meth : Method) (c : Code) : Nat → List (Nat × Value) → List Value → xHp → Option (Unit × xHp) → Prop := xJ G p l e ({ frames := 0, cells := 0, slots := 0, locals := 0 } : Room) s m args below meth c 3 (fun res => MQ below (xQv G res) args s 0 0 (xA G))
def F_X9_putDifference_102 (N : Nat) (x1 : Int32) (s2 : Int32) (s1 : Int32) (h : xHp) : Option (Unit × xHp) := grd (xin s1 70) (bnd (sI h 54 s1.toNatClampNeg s2) fun h1 => grd (xin (60 + x1) 70) (bnd (sI h1 55 (60 + x1).toNatClampNeg (vp_nar .boolean 1)) fun h2 => some ((), h2)))
def F_X9_putDifference_71 (N : Nat) (x1 : Int32) (x2 : Int32) (s2 : Int32) (s1 : Int32) (h : xHp) : Option (Unit × xHp) := grd (xin s1 70) (bnd (sI h 53 s1.toNatClampNeg s2) fun h1 => if x2 = 0 then grd (xin x1 10) (F_X9_putDifference_102 N x1 ((-(gI h1 64 x1.toNatClampNeg)) - 1) (60 + x1) h1) else grd (xin x1 10) (F_X9_putDifference_102 N x1 (gI h1 64 x1.toNatClampNeg) (60 + x1) h1))
def F_X9_putDifference_43 (N : Nat) (x1 : Int32) (x2 : Int32) (s2 : Int32) (s1 : Int32) (h : xHp) : Option (Unit × xHp) := grd (xin s1 70) (bnd (sI h 52 s1.toNatClampNeg s2) fun h1 => if x2 = 0 then grd (xin x1 10) (F_X9_putDifference_71 N x1 x2 (gI h1 62 x1.toNatClampNeg) (60 + x1) h1) else grd (xin x1 10) (F_X9_putDifference_71 N x1 x2 (gI h1 63 x1.toNatClampNeg) (60 + x1) h1))
def F_X9_putDifference_15 (N : Nat) (x1 : Int32) (s0 : Int32) (h : xHp) : Option (Unit × xHp) := if s0 = 0 then grd (xin x1 10) (F_X9_putDifference_43 N x1 s0 (gI h 63 x1.toNatClampNeg) (60 + x1) h) else grd (xin x1 10) (F_X9_putDifference_43 N x1 s0 (gI h 62 x1.toNatClampNeg) (60 + x1) h)
def F_X9_putDifference (N : Nat) (p1 : Int32) (h : xHp) : Option (Unit × xHp) := grd (xin p1 10) (if (gI h 71 p1.toNatClampNeg) = 1 then F_X9_putDifference_15 N p1 1 h else F_X9_putDifference_15 N p1 0 h)
set_option maxHeartbeats 4000000 in
set_option maxRecDepth 100000 in
theorem T_X9_putDifference_102 {G : xG} {p : Program} {l : Launch} {e : Env} {s : State} {m : MethodId} {args : Array Value} {below : List Frame} {meth : Method} {c : Code} {N : Nat} (C : xC G p s m args meth c cX9_putDifference 3 vX9_putDifference RX9) (hr : meth.sig.returnType = none) (x1 : Int32) (s2 : Int32) (s1 : Int32) (h : xHp) : J_X9_putDifference G p l e s m args below meth c 102 [(0, .ref (xad G 51)), (1, .int x1)] [.int s2, .int s1, .ref (xad G 54)] h (F_X9_putDifference_102 N x1 s2 s1 h) := by
  unfold F_X9_putDifference_102
  refine x_iast (n := 70) C dX9_putDifference_102 (fun g => xp_54 G g _ _) (by decide) (fun h1 => ?_)
  refine x_aload_n C dX9_putDifference_103 rfl 0 rfl ?_
  refine x_get (v := .ref (xad G 55)) C 5 dX9_putDifference_104 (xc_51 G h1) rfl (by decide) rfl (fun w h => List.mem_cons_of_mem _ (iWM_X9 w h)) (by decide) rfl (C.2.2.2.2.1 _ (List.mem_cons_of_mem _ qM_11)) ?_
  refine x_bipush (v := 60) C dX9_putDifference_107 (by decide) ?_
  refine x_iload_n C dX9_putDifference_109 rfl 1 rfl ?_
  refine x_iadd C dX9_putDifference_110 ?_
  refine x_iconst (v := 1) C dX9_putDifference_111 (by decide) ?_
  refine x_zast (n := 70) C dX9_putDifference_112 (fun g => xp_55 G g _ _) (by decide) (fun h2 => ?_)
  exact x_vret C dX9_putDifference_113 hr
set_option maxHeartbeats 4000000 in
set_option maxRecDepth 100000 in
theorem T_X9_putDifference_71 {G : xG} {p : Program} {l : Launch} {e : Env} {s : State} {m : MethodId} {args : Array Value} {below : List Frame} {meth : Method} {c : Code} {N : Nat} (C : xC G p s m args meth c cX9_putDifference 3 vX9_putDifference RX9) (hr : meth.sig.returnType = none) (x1 : Int32) (x2 : Int32) (s2 : Int32) (s1 : Int32) (h : xHp) : J_X9_putDifference G p l e s m args below meth c 71 [(0, .ref (xad G 51)), (1, .int x1), (2, .int x2)] [.int s2, .int s1, .ref (xad G 53)] h (F_X9_putDifference_71 N x1 x2 s2 s1 h) := by
  unfold F_X9_putDifference_71
  refine x_iast (n := 70) C dX9_putDifference_71 (fun g => xp_53 G g _ _) (by decide) (fun h1 => ?_)
  refine x_aload_n C dX9_putDifference_72 rfl 0 rfl ?_
  refine x_get (v := .ref (xad G 54)) C 4 dX9_putDifference_73 (xc_51 G h1) rfl (by decide) rfl (fun w h => List.mem_cons_of_mem _ (iWM_X9 w h)) (by decide) rfl (C.2.2.2.2.1 _ (List.mem_cons_of_mem _ qM_17)) ?_
  refine x_bipush (v := 60) C dX9_putDifference_76 (by decide) ?_
  refine x_iload_n C dX9_putDifference_78 rfl 1 rfl ?_
  refine x_iadd C dX9_putDifference_79 ?_
  refine x_iload_n C dX9_putDifference_80 rfl 2 rfl ?_
  refine x_if_eq (tgt := 93) C dX9_putDifference_81 (by decide) ?_ ?_
  · refine x_aload_n C dX9_putDifference_93 rfl 0 rfl ?_
    refine x_get (v := .ref (xad G 64)) C 27 dX9_putDifference_94 (xc_51 G h1) rfl (by decide) rfl (fun w h => List.mem_cons_of_mem _ (iWM_X9 w h)) (by decide) rfl (C.2.2.2.2.1 _ (List.mem_cons_of_mem _ qM_152)) ?_
    refine x_iload_n C dX9_putDifference_97 rfl 1 rfl ?_
    refine x_iald (n := 10) C dX9_putDifference_98 (xc_64 G h1) (by decide) ?_
    refine x_ineg C dX9_putDifference_99 ?_
    refine x_iconst (v := 1) C dX9_putDifference_100 (by decide) ?_
    refine x_isub C dX9_putDifference_101 ?_
    exact x_sub [0, 1] rfl (T_X9_putDifference_102 C hr x1 ((-(gI h1 64 x1.toNatClampNeg)) - 1) (60 + x1) h1)
  · refine x_aload_n C dX9_putDifference_84 rfl 0 rfl ?_
    refine x_get (v := .ref (xad G 64)) C 27 dX9_putDifference_85 (xc_51 G h1) rfl (by decide) rfl (fun w h => List.mem_cons_of_mem _ (iWM_X9 w h)) (by decide) rfl (C.2.2.2.2.1 _ (List.mem_cons_of_mem _ qM_152)) ?_
    refine x_iload_n C dX9_putDifference_88 rfl 1 rfl ?_
    refine x_iald (n := 10) C dX9_putDifference_89 (xc_64 G h1) (by decide) ?_
    refine x_goto (tgt := 102) C dX9_putDifference_90 (by decide) ?_
    exact x_sub [0, 1] rfl (T_X9_putDifference_102 C hr x1 (gI h1 64 x1.toNatClampNeg) (60 + x1) h1)
set_option maxHeartbeats 4000000 in
set_option maxRecDepth 100000 in
theorem T_X9_putDifference_43 {G : xG} {p : Program} {l : Launch} {e : Env} {s : State} {m : MethodId} {args : Array Value} {below : List Frame} {meth : Method} {c : Code} {N : Nat} (C : xC G p s m args meth c cX9_putDifference 3 vX9_putDifference RX9) (hr : meth.sig.returnType = none) (x1 : Int32) (x2 : Int32) (s2 : Int32) (s1 : Int32) (h : xHp) : J_X9_putDifference G p l e s m args below meth c 43 [(0, .ref (xad G 51)), (1, .int x1), (2, .int x2)] [.int s2, .int s1, .ref (xad G 52)] h (F_X9_putDifference_43 N x1 x2 s2 s1 h) := by
  unfold F_X9_putDifference_43
  refine x_iast (n := 70) C dX9_putDifference_43 (fun g => xp_52 G g _ _) (by decide) (fun h1 => ?_)
  refine x_aload_n C dX9_putDifference_44 rfl 0 rfl ?_
  refine x_get (v := .ref (xad G 53)) C 3 dX9_putDifference_45 (xc_51 G h1) rfl (by decide) rfl (fun w h => List.mem_cons_of_mem _ (iWM_X9 w h)) (by decide) rfl (C.2.2.2.2.1 _ (List.mem_cons_of_mem _ qM_16)) ?_
  refine x_bipush (v := 60) C dX9_putDifference_48 (by decide) ?_
  refine x_iload_n C dX9_putDifference_50 rfl 1 rfl ?_
  refine x_iadd C dX9_putDifference_51 ?_
  refine x_iload_n C dX9_putDifference_52 rfl 2 rfl ?_
  refine x_if_eq (tgt := 65) C dX9_putDifference_53 (by decide) ?_ ?_
  · refine x_aload_n C dX9_putDifference_65 rfl 0 rfl ?_
    refine x_get (v := .ref (xad G 62)) C 25 dX9_putDifference_66 (xc_51 G h1) rfl (by decide) rfl (fun w h => List.mem_cons_of_mem _ (iWM_X9 w h)) (by decide) rfl (C.2.2.2.2.1 _ (List.mem_cons_of_mem _ qM_150)) ?_
    refine x_iload_n C dX9_putDifference_69 rfl 1 rfl ?_
    refine x_iald (n := 10) C dX9_putDifference_70 (xc_62 G h1) (by decide) ?_
    exact x_sub [0, 1, 2] rfl (T_X9_putDifference_71 C hr x1 x2 (gI h1 62 x1.toNatClampNeg) (60 + x1) h1)
  · refine x_aload_n C dX9_putDifference_56 rfl 0 rfl ?_
    refine x_get (v := .ref (xad G 63)) C 26 dX9_putDifference_57 (xc_51 G h1) rfl (by decide) rfl (fun w h => List.mem_cons_of_mem _ (iWM_X9 w h)) (by decide) rfl (C.2.2.2.2.1 _ (List.mem_cons_of_mem _ qM_151)) ?_
    refine x_iload_n C dX9_putDifference_60 rfl 1 rfl ?_
    refine x_iald (n := 10) C dX9_putDifference_61 (xc_63 G h1) (by decide) ?_
    refine x_goto (tgt := 71) C dX9_putDifference_62 (by decide) ?_
    exact x_sub [0, 1, 2] rfl (T_X9_putDifference_71 C hr x1 x2 (gI h1 63 x1.toNatClampNeg) (60 + x1) h1)
set_option maxHeartbeats 4000000 in
set_option maxRecDepth 100000 in
theorem T_X9_putDifference_15 {G : xG} {p : Program} {l : Launch} {e : Env} {s : State} {m : MethodId} {args : Array Value} {below : List Frame} {meth : Method} {c : Code} {N : Nat} (C : xC G p s m args meth c cX9_putDifference 3 vX9_putDifference RX9) (hr : meth.sig.returnType = none) (x1 : Int32) (s0 : Int32) (h : xHp) : J_X9_putDifference G p l e s m args below meth c 15 [(0, .ref (xad G 51)), (1, .int x1)] [.int s0] h (F_X9_putDifference_15 N x1 s0 h) := by
  unfold F_X9_putDifference_15
  refine x_istore_n (lv' := [(2, .int s0), (0, .ref (xad G 51)), (1, .int x1)]) C dX9_putDifference_15 rfl (by decide) rfl ?_
  refine x_aload_n C dX9_putDifference_16 rfl 1 rfl ?_
  refine x_get (v := .ref (xad G 52)) C 2 dX9_putDifference_17 (xc_51 G h) rfl (by decide) rfl (fun w h => List.mem_cons_of_mem _ (iWM_X9 w h)) (by decide) rfl (C.2.2.2.2.1 _ (List.mem_cons_of_mem _ qM_18)) ?_
  refine x_bipush (v := 60) C dX9_putDifference_20 (by decide) ?_
  refine x_iload_n C dX9_putDifference_22 rfl 2 rfl ?_
  refine x_iadd C dX9_putDifference_23 ?_
  refine x_iload_n C dX9_putDifference_24 rfl 0 rfl ?_
  refine x_if_eq (tgt := 37) C dX9_putDifference_25 (by decide) ?_ ?_
  · refine x_aload_n C dX9_putDifference_37 rfl 1 rfl ?_
    refine x_get (v := .ref (xad G 63)) C 26 dX9_putDifference_38 (xc_51 G h) rfl (by decide) rfl (fun w h => List.mem_cons_of_mem _ (iWM_X9 w h)) (by decide) rfl (C.2.2.2.2.1 _ (List.mem_cons_of_mem _ qM_151)) ?_
    refine x_iload_n C dX9_putDifference_41 rfl 2 rfl ?_
    refine x_iald (n := 10) C dX9_putDifference_42 (xc_63 G h) (by decide) ?_
    exact x_sub [1, 2, 0] rfl (T_X9_putDifference_43 C hr x1 s0 (gI h 63 x1.toNatClampNeg) (60 + x1) h)
  · refine x_aload_n C dX9_putDifference_28 rfl 1 rfl ?_
    refine x_get (v := .ref (xad G 62)) C 25 dX9_putDifference_29 (xc_51 G h) rfl (by decide) rfl (fun w h => List.mem_cons_of_mem _ (iWM_X9 w h)) (by decide) rfl (C.2.2.2.2.1 _ (List.mem_cons_of_mem _ qM_150)) ?_
    refine x_iload_n C dX9_putDifference_32 rfl 2 rfl ?_
    refine x_iald (n := 10) C dX9_putDifference_33 (xc_62 G h) (by decide) ?_
    refine x_goto (tgt := 43) C dX9_putDifference_34 (by decide) ?_
    exact x_sub [1, 2, 0] rfl (T_X9_putDifference_43 C hr x1 s0 (gI h 62 x1.toNatClampNeg) (60 + x1) h)
set_option maxHeartbeats 4000000 in
set_option maxRecDepth 100000 in
theorem M_X9_putDifference (G : xG) (l : Launch) (N : Nat) (p1 : Int32) (h : xHp) : ∀ r, F_X9_putDifference N p1 h = some r → Met l yX9_putDifference vX9_putDifference ({ frames := 0, cells := 0, slots := 0, locals := 0 } : Room) (xPc G [.ref (xad G 51), .int p1] h) (xQv G r) 0 0 (xA G) := by
  refine x_met (own := RX9) (cc := cX9_putDifference) (maxL := 3) (ret := none) (lv0 := [(0, .ref (xad G 51)), (1, .int p1)]) (by decide +kernel) rfl rfl (Nat.le_of_ble_eq_true rfl) rfl ?_
  intro p e s m below meth c C hr
  unfold F_X9_putDifference
  refine x_aload_n C dX9_putDifference_0 rfl 0 rfl ?_
  refine x_get (v := .ref (xad G 71)) C 40 dX9_putDifference_1 (xc_51 G h) rfl (by decide) rfl (fun w h => List.mem_cons_of_mem _ (iWM_X9 w h)) (by decide) rfl (C.2.2.2.2.1 _ (List.mem_cons_of_mem _ qM_166)) ?_
  refine x_iload_n C dX9_putDifference_4 rfl 1 rfl ?_
  refine x_iald (n := 10) C dX9_putDifference_5 (xc_71 G h) (by decide) ?_
  refine x_iconst (v := 1) C dX9_putDifference_6 (by decide) ?_
  refine x_icmp_ne (tgt := 14) C dX9_putDifference_7 (by decide) ?_ ?_
  · refine x_iconst (v := 1) C dX9_putDifference_10 (by decide) ?_
    refine x_goto (tgt := 15) C dX9_putDifference_11 (by decide) ?_
    exact x_sub [0, 1] rfl (T_X9_putDifference_15 C hr p1 1 h)
  · refine x_iconst (v := 0) C dX9_putDifference_14 (by decide) ?_
    exact x_sub [0, 1] rfl (T_X9_putDifference_15 C hr p1 0 h)
/-! X9_isWay: 44 instructions -/
abbrev J_X9_isWay (G : xG) (p : Program) (l : Launch) (e : Env) (s : State) (m : MethodId) (args : Array Value) (below : List Frame) (meth : Method) (c : Code) : Nat → List (Nat × Value) → List Value → xHp → Option (Int32 × xHp) → Prop := xJ G p l e ({ frames := 1, cells := 0, slots := 0, locals := 26 } : Room) s m args below meth c 3 (fun res => MQ below (xQi G res) args s 0 0 (xA G))
def F_X9_isWay_50_b (N : Nat) (k50 : Int32 → xHp → Option (Int32 × xHp)) (x2 : Int32) (h : xHp) : Option (Int32 × xHp) := if (gI h 51 24) ≤ x2 then bnd2 (F_X9_findValues N h) fun r1 h2 => some (vp_nar .boolean r1, h2) else bnd2 (F_X9_putDifference N x2 h) fun r3 h4 => k50 (x2 + 1) h4
def F_X9_isWay_50 (N : Nat) (x2 : Int32) (h : xHp) : Option (Int32 × xHp) := xit (F_X9_isWay_50_b N) (fun _ _ => none) N x2 h
def F_X9_isWay_2_b (N : Nat) (k2 : Int32 → Int32 → xHp → Option (Int32 × xHp)) (x1 : Int32) (x2 : Int32) (h : xHp) : Option (Int32 × xHp) := if (gI h 51 24) ≤ x2 then bnd2 (F_X9_judged N h) fun r1 h2 => if r1 = 1 then bnd2 (F_X9_constraintsAlone N h2) fun r3 h4 => F_X9_isWay_50 N 0 h4 else some (0, h2) else grd (xin x2 10) (bnd (sI h 71 x2.toNatClampNeg ((x1 >>> ((((gI h 51 24) - 1) - x2) &&& 31)) &&& 1)) fun h5 => k2 x1 (x2 + 1) h5)
def F_X9_isWay_2 (N : Nat) (x1 : Int32) (x2 : Int32) (h : xHp) : Option (Int32 × xHp) := xit (F_X9_isWay_2_b N) (fun _ _ _ => none) N x1 x2 h
def F_X9_isWay (N : Nat) (p1 : Int32) (h : xHp) : Option (Int32 × xHp) := F_X9_isWay_2 N p1 0 h
set_option maxHeartbeats 4000000 in
set_option maxRecDepth 100000 in
theorem T_X9_isWay_50_b {G : xG} {p : Program} {l : Launch} {e : Env} {s : State} {m : MethodId} {args : Array Value} {below : List Frame} {meth : Method} {c : Code} {N : Nat} (C : xC G p s m args meth c cX9_isWay 3 vX9_isWay RX9) (hr : meth.sig.returnType = (some .boolean)) {k50 : Int32 → xHp → Option (Int32 × xHp)} (hk50 : ∀ (x2 : Int32) (h : xHp), J_X9_isWay G p l e s m args below meth c 50 [(0, .ref (xad G 51)), (2, .int x2)] [] h (k50 x2 h)) (x2 : Int32) (h : xHp) : J_X9_isWay G p l e s m args below meth c 50 [(0, .ref (xad G 51)), (2, .int x2)] [] h (F_X9_isWay_50_b N k50 x2 h) := by
  unfold F_X9_isWay_50_b
  refine x_iload_n C dX9_isWay_50 rfl 1 rfl ?_
  refine x_aload_n C dX9_isWay_51 rfl 0 rfl ?_
  refine x_get (v := .int (gI h 51 24)) C 24 dX9_isWay_52 (xc_51 G h) rfl (by decide) rfl (fun w h => List.mem_cons_of_mem _ (iWM_X9 w h)) (by decide) rfl (C.2.2.2.2.1 _ (List.mem_cons_of_mem _ qM_148)) ?_
  refine x_icmp_ge (tgt := 69) C dX9_isWay_55 (by decide) ?_ ?_
  · refine x_aload_n C dX9_isWay_69 rfl 0 rfl ?_
    refine x_callVi C dX9_isWay_70 (M_X9_findValues G l N h) (cwV 0 C.2.2.2.2.1 (gdV gWM qM_50 qM_51 qM_52 qM_9 qM_48) rfl rfl rfl (by decide +kernel) ⟨Nat.le_of_ble_eq_true rfl, Nat.le_of_ble_eq_true rfl⟩) (xc_51 G h) (by decide) rfl rfl rfl (Nat.le_of_ble_eq_true rfl) (fun r1 h2 => ?_)
    exact x_zret C dX9_isWay_73 hr
  · refine x_aload_n C dX9_isWay_58 rfl 0 rfl ?_
    refine x_iload_n C dX9_isWay_59 rfl 1 rfl ?_
    refine x_callVv C dX9_isWay_60 (M_X9_putDifference G l N x2 h) (cwV 1 C.2.2.2.2.1 (gdV gWM qM_171 qM_172 qM_173 qM_9 qM_167) rfl rfl rfl (by decide +kernel) ⟨Nat.le_of_ble_eq_true rfl, Nat.le_of_ble_eq_true rfl⟩) (xc_51 G h) (by decide) rfl rfl rfl (Nat.le_of_ble_eq_true rfl) (fun r3 h4 => ?_)
    refine x_iinc (v := (x2 + 1)) (j := 1) (lv' := [(2, .int (x2 + 1)), (0, .ref (xad G 51))]) C dX9_isWay_63 rfl (by rfl) (by decide) rfl ?_
    refine x_goto (tgt := 50) C dX9_isWay_66 (by decide) ?_
    exact x_sub [1, 0] rfl (hk50 (x2 + 1) h4)
set_option maxHeartbeats 4000000 in
set_option maxRecDepth 100000 in
theorem T_X9_isWay_50_n {G : xG} {p : Program} {l : Launch} {e : Env} {s : State} {m : MethodId} {args : Array Value} {below : List Frame} {meth : Method} {c : Code} {N : Nat} (C : xC G p s m args meth c cX9_isWay 3 vX9_isWay RX9) (hr : meth.sig.returnType = (some .boolean)) : ∀ (n : Nat) (x2 : Int32) (h : xHp), J_X9_isWay G p l e s m args below meth c 50 [(0, .ref (xad G 51)), (2, .int x2)] [] h (xit (F_X9_isWay_50_b N) (fun _ _ => none) n x2 h) := by
  intro n
  induction n with
  | zero => intros; exact x_none
  | succ n ih => intros; exact T_X9_isWay_50_b C hr ih _ _
set_option maxHeartbeats 4000000 in
set_option maxRecDepth 100000 in
theorem T_X9_isWay_50 {G : xG} {p : Program} {l : Launch} {e : Env} {s : State} {m : MethodId} {args : Array Value} {below : List Frame} {meth : Method} {c : Code} {N : Nat} (C : xC G p s m args meth c cX9_isWay 3 vX9_isWay RX9) (hr : meth.sig.returnType = (some .boolean)) (x2 : Int32) (h : xHp) : J_X9_isWay G p l e s m args below meth c 50 [(0, .ref (xad G 51)), (2, .int x2)] [] h (F_X9_isWay_50 N x2 h) := T_X9_isWay_50_n C hr N x2 h
set_option maxHeartbeats 4000000 in
set_option maxRecDepth 100000 in
theorem T_X9_isWay_2_b {G : xG} {p : Program} {l : Launch} {e : Env} {s : State} {m : MethodId} {args : Array Value} {below : List Frame} {meth : Method} {c : Code} {N : Nat} (C : xC G p s m args meth c cX9_isWay 3 vX9_isWay RX9) (hr : meth.sig.returnType = (some .boolean)) {k2 : Int32 → Int32 → xHp → Option (Int32 × xHp)} (hk2 : ∀ (x1 : Int32) (x2 : Int32) (h : xHp), J_X9_isWay G p l e s m args below meth c 2 [(0, .ref (xad G 51)), (1, .int x1), (2, .int x2)] [] h (k2 x1 x2 h)) (x1 : Int32) (x2 : Int32) (h : xHp) : J_X9_isWay G p l e s m args below meth c 2 [(0, .ref (xad G 51)), (1, .int x1), (2, .int x2)] [] h (F_X9_isWay_2_b N k2 x1 x2 h) := by
  unfold F_X9_isWay_2_b
  refine x_iload_n C dX9_isWay_2 rfl 2 rfl ?_
  refine x_aload_n C dX9_isWay_3 rfl 0 rfl ?_
  refine x_get (v := .int (gI h 51 24)) C 24 dX9_isWay_4 (xc_51 G h) rfl (by decide) rfl (fun w h => List.mem_cons_of_mem _ (iWM_X9 w h)) (by decide) rfl (C.2.2.2.2.1 _ (List.mem_cons_of_mem _ qM_148)) ?_
  refine x_icmp_ge (tgt := 34) C dX9_isWay_7 (by decide) ?_ ?_
  · refine x_aload_n C dX9_isWay_34 rfl 0 rfl ?_
    refine x_callVi C dX9_isWay_35 (M_X9_judged G l N h) (cwV 0 C.2.2.2.2.1 (gdV gWM qM_168 qM_169 qM_170 qM_9 qM_164) rfl rfl rfl (by decide +kernel) ⟨Nat.le_of_ble_eq_true rfl, Nat.le_of_ble_eq_true rfl⟩) (xc_51 G h) (by decide) rfl rfl rfl (Nat.le_of_ble_eq_true rfl) (fun r1 h2 => ?_)
    refine x_iconst (v := 1) C dX9_isWay_38 (by decide) ?_
    refine x_icmp_eq (tgt := 44) C dX9_isWay_39 (by decide) ?_ ?_
    · refine x_aload_n C dX9_isWay_44 rfl 0 rfl ?_
      refine x_callVv C dX9_isWay_45 (M_X9_constraintsAlone G l N h2) (cwV 0 C.2.2.2.2.1 (gdV gWM qM_36 qM_37 qM_38 qM_9 qM_10) rfl rfl rfl (by decide +kernel) ⟨Nat.le_of_ble_eq_true rfl, Nat.le_of_ble_eq_true rfl⟩) (xc_51 G h2) (by decide) rfl rfl rfl (Nat.le_of_ble_eq_true rfl) (fun r3 h4 => ?_)
      refine x_iconst (v := 0) C dX9_isWay_48 (by decide) ?_
      refine x_istore_n (lv' := [(2, .int 0), (0, .ref (xad G 51)), (1, .int x1)]) C dX9_isWay_49 rfl (by decide) rfl ?_
      exact x_sub [1, 0] rfl (T_X9_isWay_50 C hr 0 h4)
    · refine x_iconst (v := 0) C dX9_isWay_42 (by decide) ?_
      exact x_zretL C dX9_isWay_43 hr rfl
  · refine x_aload_n C dX9_isWay_10 rfl 0 rfl ?_
    refine x_get (v := .ref (xad G 71)) C 40 dX9_isWay_11 (xc_51 G h) rfl (by decide) rfl (fun w h => List.mem_cons_of_mem _ (iWM_X9 w h)) (by decide) rfl (C.2.2.2.2.1 _ (List.mem_cons_of_mem _ qM_166)) ?_
    refine x_iload_n C dX9_isWay_14 rfl 2 rfl ?_
    refine x_iload_n C dX9_isWay_15 rfl 1 rfl ?_
    refine x_aload_n C dX9_isWay_16 rfl 0 rfl ?_
    refine x_get (v := .int (gI h 51 24)) C 24 dX9_isWay_17 (xc_51 G h) rfl (by decide) rfl (fun w h => List.mem_cons_of_mem _ (iWM_X9 w h)) (by decide) rfl (C.2.2.2.2.1 _ (List.mem_cons_of_mem _ qM_148)) ?_
    refine x_iconst (v := 1) C dX9_isWay_20 (by decide) ?_
    refine x_isub C dX9_isWay_21 ?_
    refine x_iload_n C dX9_isWay_22 rfl 2 rfl ?_
    refine x_isub C dX9_isWay_23 ?_
    refine x_ishr C dX9_isWay_24 ?_
    refine x_iconst (v := 1) C dX9_isWay_25 (by decide) ?_
    refine x_iand C dX9_isWay_26 ?_
    refine x_iast (n := 10) C dX9_isWay_27 (fun g => xp_71 G g _ _) (by decide) (fun h5 => ?_)
    refine x_iinc (v := (x2 + 1)) (j := 2) (lv' := [(2, .int (x2 + 1)), (0, .ref (xad G 51)), (1, .int x1)]) C dX9_isWay_28 rfl (by rfl) (by decide) rfl ?_
    refine x_goto (tgt := 2) C dX9_isWay_31 (by decide) ?_
    exact x_sub [1, 2, 0] rfl (hk2 x1 (x2 + 1) h5)
set_option maxHeartbeats 4000000 in
set_option maxRecDepth 100000 in
theorem T_X9_isWay_2_n {G : xG} {p : Program} {l : Launch} {e : Env} {s : State} {m : MethodId} {args : Array Value} {below : List Frame} {meth : Method} {c : Code} {N : Nat} (C : xC G p s m args meth c cX9_isWay 3 vX9_isWay RX9) (hr : meth.sig.returnType = (some .boolean)) : ∀ (n : Nat) (x1 : Int32) (x2 : Int32) (h : xHp), J_X9_isWay G p l e s m args below meth c 2 [(0, .ref (xad G 51)), (1, .int x1), (2, .int x2)] [] h (xit (F_X9_isWay_2_b N) (fun _ _ _ => none) n x1 x2 h) := by
  intro n
  induction n with
  | zero => intros; exact x_none
  | succ n ih => intros; exact T_X9_isWay_2_b C hr ih _ _ _
set_option maxHeartbeats 4000000 in
set_option maxRecDepth 100000 in
theorem T_X9_isWay_2 {G : xG} {p : Program} {l : Launch} {e : Env} {s : State} {m : MethodId} {args : Array Value} {below : List Frame} {meth : Method} {c : Code} {N : Nat} (C : xC G p s m args meth c cX9_isWay 3 vX9_isWay RX9) (hr : meth.sig.returnType = (some .boolean)) (x1 : Int32) (x2 : Int32) (h : xHp) : J_X9_isWay G p l e s m args below meth c 2 [(0, .ref (xad G 51)), (1, .int x1), (2, .int x2)] [] h (F_X9_isWay_2 N x1 x2 h) := T_X9_isWay_2_n C hr N x1 x2 h
set_option maxHeartbeats 4000000 in
set_option maxRecDepth 100000 in
theorem M_X9_isWay (G : xG) (l : Launch) (N : Nat) (p1 : Int32) (h : xHp) : ∀ r, F_X9_isWay N p1 h = some r → Met l yX9_isWay vX9_isWay ({ frames := 1, cells := 0, slots := 0, locals := 26 } : Room) (xPc G [.ref (xad G 51), .int p1] h) (xQi G r) 0 0 (xA G) := by
  refine x_met (own := RX9) (cc := cX9_isWay) (maxL := 3) (ret := (some .boolean)) (lv0 := [(0, .ref (xad G 51)), (1, .int p1)]) (by decide +kernel) rfl rfl (Nat.le_of_ble_eq_true rfl) rfl ?_
  intro p e s m below meth c C hr
  unfold F_X9_isWay
  refine x_iconst (v := 0) C dX9_isWay_0 (by decide) ?_
  refine x_istore_n (lv' := [(2, .int 0), (0, .ref (xad G 51)), (1, .int p1)]) C dX9_isWay_1 rfl (by decide) rfl ?_
  exact x_sub [1, 2, 0] rfl (T_X9_isWay_2 C hr p1 0 h)
/-! X9_rows: 10 instructions -/
abbrev J_X9_rows (G : xG) (p : Program) (l : Launch) (e : Env) (s : State) (m : MethodId) (args : Array Value) (below : List Frame) (meth : Method) (c : Code) : Nat → List (Nat × Value) → List Value → xHp → Option (Int32 × xHp) → Prop := xJ G p l e ({ frames := 0, cells := 0, slots := 0, locals := 0 } : Room) s m args below meth c 1 (fun res => MQ below (xQi G res) args s 0 0 (xA G))
def F_X9_rows (N : Nat) (h : xHp) : Option (Int32 × xHp) := if (gI h 51 23) = 0 then some (0, h) else some ((1 <<< ((gI h 51 24) &&& 31)), h)
set_option maxHeartbeats 4000000 in
set_option maxRecDepth 100000 in
theorem M_X9_rows (G : xG) (l : Launch) (N : Nat) (h : xHp) : ∀ r, F_X9_rows N h = some r → Met l yX9_rows vX9_rows ({ frames := 0, cells := 0, slots := 0, locals := 0 } : Room) (xPc G [.ref (xad G 51)] h) (xQi G r) 0 0 (xA G) := by
  refine x_met (own := RX9) (cc := cX9_rows) (maxL := 1) (ret := (some .int)) (lv0 := [(0, .ref (xad G 51))]) (by decide +kernel) rfl rfl (Nat.le_of_ble_eq_true rfl) rfl ?_
  intro p e s m below meth c C hr
  unfold F_X9_rows
  refine x_aload_n C dX9_rows_0 rfl 0 rfl ?_
  refine x_get (v := .int (gI h 51 23)) C 23 dX9_rows_1 (xc_51 G h) rfl (by decide) rfl (fun w h => List.mem_cons_of_mem _ (iWM_X9 w h)) (by decide) rfl (C.2.2.2.2.1 _ (List.mem_cons_of_mem _ qM_147)) ?_
  refine x_if_eq (tgt := 16) C dX9_rows_4 (by decide) ?_ ?_
  · refine x_iconst (v := 0) C dX9_rows_16 (by decide) ?_
    exact x_iret C dX9_rows_17 hr
  · refine x_iconst (v := 1) C dX9_rows_7 (by decide) ?_
    refine x_aload_n C dX9_rows_8 rfl 0 rfl ?_
    refine x_get (v := .int (gI h 51 24)) C 24 dX9_rows_9 (xc_51 G h) rfl (by decide) rfl (fun w h => List.mem_cons_of_mem _ (iWM_X9 w h)) (by decide) rfl (C.2.2.2.2.1 _ (List.mem_cons_of_mem _ qM_148)) ?_
    refine x_ishl C dX9_rows_12 ?_
    refine x_goto (tgt := 17) C dX9_rows_13 (by decide) ?_
    exact x_iret C dX9_rows_17 hr
/-! X9_ways: 30 instructions -/
abbrev J_X9_ways (G : xG) (p : Program) (l : Launch) (e : Env) (s : State) (m : MethodId) (args : Array Value) (below : List Frame) (meth : Method) (c : Code) : Nat → List (Nat × Value) → List Value → xHp → Option (Int32 × xHp) → Prop := xJ G p l e ({ frames := 2, cells := 0, slots := 0, locals := 48 } : Room) s m args below meth c 3 (fun res => MQ below (xQi G res) args s 0 0 (xA G))
def F_X9_ways_31 (N : Nat) (k9 : Int32 → Int32 → xHp → Option (Int32 × xHp)) (x2 : Int32) (s1 : Int32) (s0 : Int32) (h : xHp) : Option (Int32 × xHp) := k9 (s0 + s1) (x2 + 1) h
def F_X9_ways_9_b (N : Nat) (k9 : Int32 → Int32 → xHp → Option (Int32 × xHp)) (x1 : Int32) (x2 : Int32) (h : xHp) : Option (Int32 × xHp) := bnd2 (F_X9_rows N h) fun r1 h2 => if r1 ≤ x2 then if (gI h2 51 23) = 0 then some ((-1), h2) else some (x1, h2) else bnd2 (F_X9_isWay N x2 h2) fun r3 h4 => if r3 = 0 then F_X9_ways_31 N k9 x2 0 x1 h4 else F_X9_ways_31 N k9 x2 1 x1 h4
def F_X9_ways_9 (N : Nat) (x1 : Int32) (x2 : Int32) (h : xHp) : Option (Int32 × xHp) := xit (F_X9_ways_9_b N) (fun _ _ _ => none) N x1 x2 h
def F_X9_ways (N : Nat) (h : xHp) : Option (Int32 × xHp) := bnd (sI h 51 0 0) fun h1 => F_X9_ways_9 N 0 0 h1
set_option maxHeartbeats 4000000 in
set_option maxRecDepth 100000 in
theorem T_X9_ways_31 {G : xG} {p : Program} {l : Launch} {e : Env} {s : State} {m : MethodId} {args : Array Value} {below : List Frame} {meth : Method} {c : Code} {N : Nat} (C : xC G p s m args meth c cX9_ways 3 vX9_ways RX9) (hr : meth.sig.returnType = (some .int)) {k9 : Int32 → Int32 → xHp → Option (Int32 × xHp)} (hk9 : ∀ (x1 : Int32) (x2 : Int32) (h : xHp), J_X9_ways G p l e s m args below meth c 9 [(0, .ref (xad G 51)), (1, .int x1), (2, .int x2)] [] h (k9 x1 x2 h)) (x2 : Int32) (s1 : Int32) (s0 : Int32) (h : xHp) : J_X9_ways G p l e s m args below meth c 31 [(0, .ref (xad G 51)), (2, .int x2)] [.int s1, .int s0] h (F_X9_ways_31 N k9 x2 s1 s0 h) := by
  unfold F_X9_ways_31
  refine x_iadd C dX9_ways_31 ?_
  refine x_istore_n (lv' := [(1, .int (s0 + s1)), (0, .ref (xad G 51)), (2, .int x2)]) C dX9_ways_32 rfl (by decide) rfl ?_
  refine x_iinc (v := (x2 + 1)) (j := 2) (lv' := [(2, .int (x2 + 1)), (1, .int (s0 + s1)), (0, .ref (xad G 51))]) C dX9_ways_33 rfl (by rfl) (by decide) rfl ?_
  refine x_goto (tgt := 9) C dX9_ways_36 (by decide) ?_
  exact x_sub [2, 1, 0] rfl (hk9 (s0 + s1) (x2 + 1) h)
set_option maxHeartbeats 4000000 in
set_option maxRecDepth 100000 in
theorem T_X9_ways_9_b {G : xG} {p : Program} {l : Launch} {e : Env} {s : State} {m : MethodId} {args : Array Value} {below : List Frame} {meth : Method} {c : Code} {N : Nat} (C : xC G p s m args meth c cX9_ways 3 vX9_ways RX9) (hr : meth.sig.returnType = (some .int)) {k9 : Int32 → Int32 → xHp → Option (Int32 × xHp)} (hk9 : ∀ (x1 : Int32) (x2 : Int32) (h : xHp), J_X9_ways G p l e s m args below meth c 9 [(0, .ref (xad G 51)), (1, .int x1), (2, .int x2)] [] h (k9 x1 x2 h)) (x1 : Int32) (x2 : Int32) (h : xHp) : J_X9_ways G p l e s m args below meth c 9 [(0, .ref (xad G 51)), (1, .int x1), (2, .int x2)] [] h (F_X9_ways_9_b N k9 x1 x2 h) := by
  unfold F_X9_ways_9_b
  refine x_iload_n C dX9_ways_9 rfl 2 rfl ?_
  refine x_aload_n C dX9_ways_10 rfl 0 rfl ?_
  refine x_callVi C dX9_ways_11 (M_X9_rows G l N h) (cwV 0 C.2.2.2.2.1 (gdV gWM qM_176 qM_177 qM_178 qM_9 qM_175) rfl rfl rfl (by decide +kernel) ⟨Nat.le_of_ble_eq_true rfl, Nat.le_of_ble_eq_true rfl⟩) (xc_51 G h) (by decide) rfl rfl rfl (Nat.le_of_ble_eq_true rfl) (fun r1 h2 => ?_)
  refine x_icmp_ge (tgt := 39) C dX9_ways_14 (by decide) ?_ ?_
  · refine x_aload_n C dX9_ways_39 rfl 0 rfl ?_
    refine x_get (v := .int (gI h2 51 23)) C 23 dX9_ways_40 (xc_51 G h2) rfl (by decide) rfl (fun w h => List.mem_cons_of_mem _ (iWM_X9 w h)) (by decide) rfl (C.2.2.2.2.1 _ (List.mem_cons_of_mem _ qM_147)) ?_
    refine x_if_eq (tgt := 50) C dX9_ways_43 (by decide) ?_ ?_
    · refine x_iconst (v := (-1)) C dX9_ways_50 (by decide) ?_
      exact x_iret C dX9_ways_51 hr
    · refine x_iload_n C dX9_ways_46 rfl 1 rfl ?_
      refine x_goto (tgt := 51) C dX9_ways_47 (by decide) ?_
      exact x_iret C dX9_ways_51 hr
  · refine x_iload_n C dX9_ways_17 rfl 1 rfl ?_
    refine x_aload_n C dX9_ways_18 rfl 0 rfl ?_
    refine x_iload_n C dX9_ways_19 rfl 2 rfl ?_
    refine x_callVi C dX9_ways_20 (M_X9_isWay G l N x2 h2) (cwV 1 C.2.2.2.2.1 (gdV gWM qM_179 qM_180 qM_181 qM_9 qM_174) rfl rfl rfl (by decide +kernel) ⟨Nat.le_of_ble_eq_true rfl, Nat.le_of_ble_eq_true rfl⟩) (xc_51 G h2) (by decide) rfl rfl rfl (Nat.le_of_ble_eq_true rfl) (fun r3 h4 => ?_)
    refine x_if_eq (tgt := 30) C dX9_ways_23 (by decide) ?_ ?_
    · refine x_iconst (v := 0) C dX9_ways_30 (by decide) ?_
      exact x_sub [0, 2] rfl (T_X9_ways_31 C hr hk9 x2 0 x1 h4)
    · refine x_iconst (v := 1) C dX9_ways_26 (by decide) ?_
      refine x_goto (tgt := 31) C dX9_ways_27 (by decide) ?_
      exact x_sub [0, 2] rfl (T_X9_ways_31 C hr hk9 x2 1 x1 h4)
set_option maxHeartbeats 4000000 in
set_option maxRecDepth 100000 in
theorem T_X9_ways_9_n {G : xG} {p : Program} {l : Launch} {e : Env} {s : State} {m : MethodId} {args : Array Value} {below : List Frame} {meth : Method} {c : Code} {N : Nat} (C : xC G p s m args meth c cX9_ways 3 vX9_ways RX9) (hr : meth.sig.returnType = (some .int)) : ∀ (n : Nat) (x1 : Int32) (x2 : Int32) (h : xHp), J_X9_ways G p l e s m args below meth c 9 [(0, .ref (xad G 51)), (1, .int x1), (2, .int x2)] [] h (xit (F_X9_ways_9_b N) (fun _ _ _ => none) n x1 x2 h) := by
  intro n
  induction n with
  | zero => intros; exact x_none
  | succ n ih => intros; exact T_X9_ways_9_b C hr ih _ _ _
set_option maxHeartbeats 4000000 in
set_option maxRecDepth 100000 in
theorem T_X9_ways_9 {G : xG} {p : Program} {l : Launch} {e : Env} {s : State} {m : MethodId} {args : Array Value} {below : List Frame} {meth : Method} {c : Code} {N : Nat} (C : xC G p s m args meth c cX9_ways 3 vX9_ways RX9) (hr : meth.sig.returnType = (some .int)) (x1 : Int32) (x2 : Int32) (h : xHp) : J_X9_ways G p l e s m args below meth c 9 [(0, .ref (xad G 51)), (1, .int x1), (2, .int x2)] [] h (F_X9_ways_9 N x1 x2 h) := T_X9_ways_9_n C hr N x1 x2 h
set_option maxHeartbeats 4000000 in
set_option maxRecDepth 100000 in
theorem M_X9_ways (G : xG) (l : Launch) (N : Nat) (h : xHp) : ∀ r, F_X9_ways N h = some r → Met l yX9_ways vX9_ways ({ frames := 2, cells := 0, slots := 0, locals := 48 } : Room) (xPc G [.ref (xad G 51)] h) (xQi G r) 0 0 (xA G) := by
  refine x_met (own := RX9) (cc := cX9_ways) (maxL := 3) (ret := (some .int)) (lv0 := [(0, .ref (xad G 51))]) (by decide +kernel) rfl rfl (Nat.le_of_ble_eq_true rfl) rfl ?_
  intro p e s m below meth c C hr
  unfold F_X9_ways
  refine x_aload_n C dX9_ways_0 rfl 0 rfl ?_
  refine x_iconst (v := 0) C dX9_ways_1 (by decide) ?_
  refine x_putI (ty0 := tyX9) (ty := .int) C 0 dX9_ways_2 (xc_51 G h) rfl (Nat.le_of_ble_eq_true rfl) (by decide) rfl (fun w h => List.mem_cons_of_mem _ (iWM_X9 w h)) tyX9_ok nmX9 (by decide) rfl rfl (by decide +kernel) rfl rfl (C.2.2.2.2.1 _ (List.mem_cons_of_mem _ qM_2)) (fun h1 => ?_)
  refine x_iconst (v := 0) C dX9_ways_5 (by decide) ?_
  refine x_istore_n (lv' := [(1, .int 0), (0, .ref (xad G 51))]) C dX9_ways_6 rfl (by decide) rfl ?_
  refine x_iconst (v := 0) C dX9_ways_7 (by decide) ?_
  refine x_istore_n (lv' := [(2, .int 0), (1, .int 0), (0, .ref (xad G 51))]) C dX9_ways_8 rfl (by decide) rfl ?_
  exact x_sub [2, 1, 0] rfl (T_X9_ways_9 C hr 0 0 h1)
/-! X9_way: 23 instructions -/
abbrev J_X9_way (G : xG) (p : Program) (l : Launch) (e : Env) (s : State) (m : MethodId) (args : Array Value) (below : List Frame) (meth : Method) (c : Code) : Nat → List (Nat × Value) → List Value → xHp → Option (Int32 × xHp) → Prop := xJ G p l e ({ frames := 2, cells := 0, slots := 0, locals := 48 } : Room) s m args below meth c 3 (fun res => MQ below (xQi G res) args s 0 0 (xA G))
def F_X9_way_15_b (N : Nat) (k15 : Int32 → xHp → Option (Int32 × xHp)) (x2 : Int32) (h : xHp) : Option (Int32 × xHp) := bnd2 (F_X9_rows N h) fun r1 h2 => if r1 ≤ x2 then some ((-1), h2) else bnd2 (F_X9_isWay N x2 h2) fun r3 h4 => if r3 = 0 then k15 (x2 + 1) h4 else some (x2, h4)
def F_X9_way_15 (N : Nat) (x2 : Int32) (h : xHp) : Option (Int32 × xHp) := xit (F_X9_way_15_b N) (fun _ _ => none) N x2 h
def F_X9_way_14 (N : Nat) (s0 : Int32) (h : xHp) : Option (Int32 × xHp) := F_X9_way_15 N s0 h
def F_X9_way (N : Nat) (p1 : Int32) (h : xHp) : Option (Int32 × xHp) := bnd (sI h 51 0 0) fun h1 => if 0 ≤ p1 then F_X9_way_14 N p1 h1 else F_X9_way_14 N 0 h1
set_option maxHeartbeats 4000000 in
set_option maxRecDepth 100000 in
theorem T_X9_way_15_b {G : xG} {p : Program} {l : Launch} {e : Env} {s : State} {m : MethodId} {args : Array Value} {below : List Frame} {meth : Method} {c : Code} {N : Nat} (C : xC G p s m args meth c cX9_way 3 vX9_way RX9) (hr : meth.sig.returnType = (some .int)) {k15 : Int32 → xHp → Option (Int32 × xHp)} (hk15 : ∀ (x2 : Int32) (h : xHp), J_X9_way G p l e s m args below meth c 15 [(0, .ref (xad G 51)), (2, .int x2)] [] h (k15 x2 h)) (x2 : Int32) (h : xHp) : J_X9_way G p l e s m args below meth c 15 [(0, .ref (xad G 51)), (2, .int x2)] [] h (F_X9_way_15_b N k15 x2 h) := by
  unfold F_X9_way_15_b
  refine x_iload_n C dX9_way_15 rfl 1 rfl ?_
  refine x_aload_n C dX9_way_16 rfl 0 rfl ?_
  refine x_callVi C dX9_way_17 (M_X9_rows G l N h) (cwV 0 C.2.2.2.2.1 (gdV gWM qM_176 qM_177 qM_178 qM_9 qM_175) rfl rfl rfl (by decide +kernel) ⟨Nat.le_of_ble_eq_true rfl, Nat.le_of_ble_eq_true rfl⟩) (xc_51 G h) (by decide) rfl rfl rfl (Nat.le_of_ble_eq_true rfl) (fun r1 h2 => ?_)
  refine x_icmp_ge (tgt := 39) C dX9_way_20 (by decide) ?_ ?_
  · refine x_iconst (v := (-1)) C dX9_way_39 (by decide) ?_
    exact x_iret C dX9_way_40 hr
  · refine x_aload_n C dX9_way_23 rfl 0 rfl ?_
    refine x_iload_n C dX9_way_24 rfl 1 rfl ?_
    refine x_callVi C dX9_way_25 (M_X9_isWay G l N x2 h2) (cwV 1 C.2.2.2.2.1 (gdV gWM qM_179 qM_180 qM_181 qM_9 qM_174) rfl rfl rfl (by decide +kernel) ⟨Nat.le_of_ble_eq_true rfl, Nat.le_of_ble_eq_true rfl⟩) (xc_51 G h2) (by decide) rfl rfl rfl (Nat.le_of_ble_eq_true rfl) (fun r3 h4 => ?_)
    refine x_if_eq (tgt := 33) C dX9_way_28 (by decide) ?_ ?_
    · refine x_iinc (v := (x2 + 1)) (j := 1) (lv' := [(2, .int (x2 + 1)), (0, .ref (xad G 51))]) C dX9_way_33 rfl (by rfl) (by decide) rfl ?_
      refine x_goto (tgt := 15) C dX9_way_36 (by decide) ?_
      exact x_sub [1, 0] rfl (hk15 (x2 + 1) h4)
    · refine x_iload_n C dX9_way_31 rfl 1 rfl ?_
      exact x_iret C dX9_way_32 hr
set_option maxHeartbeats 4000000 in
set_option maxRecDepth 100000 in
theorem T_X9_way_15_n {G : xG} {p : Program} {l : Launch} {e : Env} {s : State} {m : MethodId} {args : Array Value} {below : List Frame} {meth : Method} {c : Code} {N : Nat} (C : xC G p s m args meth c cX9_way 3 vX9_way RX9) (hr : meth.sig.returnType = (some .int)) : ∀ (n : Nat) (x2 : Int32) (h : xHp), J_X9_way G p l e s m args below meth c 15 [(0, .ref (xad G 51)), (2, .int x2)] [] h (xit (F_X9_way_15_b N) (fun _ _ => none) n x2 h) := by
  intro n
  induction n with
  | zero => intros; exact x_none
  | succ n ih => intros; exact T_X9_way_15_b C hr ih _ _
set_option maxHeartbeats 4000000 in
set_option maxRecDepth 100000 in
theorem T_X9_way_15 {G : xG} {p : Program} {l : Launch} {e : Env} {s : State} {m : MethodId} {args : Array Value} {below : List Frame} {meth : Method} {c : Code} {N : Nat} (C : xC G p s m args meth c cX9_way 3 vX9_way RX9) (hr : meth.sig.returnType = (some .int)) (x2 : Int32) (h : xHp) : J_X9_way G p l e s m args below meth c 15 [(0, .ref (xad G 51)), (2, .int x2)] [] h (F_X9_way_15 N x2 h) := T_X9_way_15_n C hr N x2 h
set_option maxHeartbeats 4000000 in
set_option maxRecDepth 100000 in
theorem T_X9_way_14 {G : xG} {p : Program} {l : Launch} {e : Env} {s : State} {m : MethodId} {args : Array Value} {below : List Frame} {meth : Method} {c : Code} {N : Nat} (C : xC G p s m args meth c cX9_way 3 vX9_way RX9) (hr : meth.sig.returnType = (some .int)) (s0 : Int32) (h : xHp) : J_X9_way G p l e s m args below meth c 14 [(0, .ref (xad G 51))] [.int s0] h (F_X9_way_14 N s0 h) := by
  unfold F_X9_way_14
  refine x_istore_n (lv' := [(2, .int s0), (0, .ref (xad G 51))]) C dX9_way_14 rfl (by decide) rfl ?_
  exact x_sub [1, 0] rfl (T_X9_way_15 C hr s0 h)
set_option maxHeartbeats 4000000 in
set_option maxRecDepth 100000 in
theorem M_X9_way (G : xG) (l : Launch) (N : Nat) (p1 : Int32) (h : xHp) : ∀ r, F_X9_way N p1 h = some r → Met l yX9_way vX9_way ({ frames := 2, cells := 0, slots := 0, locals := 48 } : Room) (xPc G [.ref (xad G 51), .int p1] h) (xQi G r) 0 0 (xA G) := by
  refine x_met (own := RX9) (cc := cX9_way) (maxL := 3) (ret := (some .int)) (lv0 := [(0, .ref (xad G 51)), (1, .int p1)]) (by decide +kernel) rfl rfl (Nat.le_of_ble_eq_true rfl) rfl ?_
  intro p e s m below meth c C hr
  unfold F_X9_way
  refine x_aload_n C dX9_way_0 rfl 0 rfl ?_
  refine x_iconst (v := 0) C dX9_way_1 (by decide) ?_
  refine x_putI (ty0 := tyX9) (ty := .int) C 0 dX9_way_2 (xc_51 G h) rfl (Nat.le_of_ble_eq_true rfl) (by decide) rfl (fun w h => List.mem_cons_of_mem _ (iWM_X9 w h)) tyX9_ok nmX9 (by decide) rfl rfl (by decide +kernel) rfl rfl (C.2.2.2.2.1 _ (List.mem_cons_of_mem _ qM_2)) (fun h1 => ?_)
  refine x_iload_n C dX9_way_5 rfl 1 rfl ?_
  refine x_if_ge (tgt := 13) C dX9_way_6 (by decide) ?_ ?_
  · refine x_iload_n C dX9_way_13 rfl 1 rfl ?_
    exact x_sub [0] rfl (T_X9_way_14 C hr p1 h1)
  · refine x_iconst (v := 0) C dX9_way_9 (by decide) ?_
    refine x_goto (tgt := 14) C dX9_way_10 (by decide) ?_
    exact x_sub [0] rfl (T_X9_way_14 C hr 0 h1)
/-! X9_valueIn: 36 instructions -/
abbrev J_X9_valueIn (G : xG) (p : Program) (l : Launch) (e : Env) (s : State) (m : MethodId) (args : Array Value) (below : List Frame) (meth : Method) (c : Code) : Nat → List (Nat × Value) → List Value → xHp → Option (Int64 × xHp) → Prop := xJ G p l e ({ frames := 2, cells := 0, slots := 0, locals := 48 } : Room) s m args below meth c 3 (fun res => MQ below (xQl G res) args s 0 0 (xA G))
def F_X9_valueIn_56 (N : Nat) (h : xHp) : Option (Int64 × xHp) := some ((-9223372036854775808), h)
def F_X9_valueIn (N : Nat) (p1 : Int32) (p2 : Int32) (h : xHp) : Option (Int64 × xHp) := bnd2 (F_X9_isVariable N p2 h) fun r1 h2 => bnd2 (F_X9_may N r1 1 1 h2) fun r3 h4 => if r3 = 0 then some (0, h4) else bnd2 (F_X9_rows N h4) fun r5 h6 => bnd2 (F_X9_isIn N (p1.toInt64) 0 ((r5 - 1).toInt64) h6) fun r7 h8 => if r7 = 0 then F_X9_valueIn_56 N h8 else bnd2 (F_X9_isWay N p1 h8) fun r9 h10 => if r9 = 0 then F_X9_valueIn_56 N h10 else grd (xin p2 16) (grd (xin 0 16) (some (((gJ h10 60 p2.toNatClampNeg) - (gJ h10 60 (0 : Int32).toNatClampNeg)), h10)))
set_option maxHeartbeats 4000000 in
set_option maxRecDepth 100000 in
theorem T_X9_valueIn_56 {G : xG} {p : Program} {l : Launch} {e : Env} {s : State} {m : MethodId} {args : Array Value} {below : List Frame} {meth : Method} {c : Code} {N : Nat} (C : xC G p s m args meth c cX9_valueIn 3 vX9_valueIn RX9) (hr : meth.sig.returnType = (some .long)) (h : xHp) : J_X9_valueIn G p l e s m args below meth c 56 [] [] h (F_X9_valueIn_56 N h) := by
  unfold F_X9_valueIn_56
  refine x_ldc2 (v := (-9223372036854775808)) C dX9_valueIn_56 (C.2.2.2.2.1 _ (List.mem_cons_of_mem _ qM_55)) ?_
  exact x_lret C dX9_valueIn_59 hr
set_option maxHeartbeats 4000000 in
set_option maxRecDepth 100000 in
theorem M_X9_valueIn (G : xG) (l : Launch) (N : Nat) (p1 : Int32) (p2 : Int32) (h : xHp) : ∀ r, F_X9_valueIn N p1 p2 h = some r → Met l yX9_valueIn vX9_valueIn ({ frames := 2, cells := 0, slots := 0, locals := 48 } : Room) (xPc G [.ref (xad G 51), .int p1, .int p2] h) (xQl G r) 0 0 (xA G) := by
  refine x_met (own := RX9) (cc := cX9_valueIn) (maxL := 3) (ret := (some .long)) (lv0 := [(0, .ref (xad G 51)), (1, .int p1), (2, .int p2)]) (by decide +kernel) rfl rfl (Nat.le_of_ble_eq_true rfl) rfl ?_
  intro p e s m below meth c C hr
  unfold F_X9_valueIn
  refine x_aload_n C dX9_valueIn_0 rfl 0 rfl ?_
  refine x_aload_n C dX9_valueIn_1 rfl 0 rfl ?_
  refine x_iload_n C dX9_valueIn_2 rfl 2 rfl ?_
  refine x_callVi C dX9_valueIn_3 (M_X9_isVariable G l N p2 h) (cwV 1 C.2.2.2.2.1 (gdV gWM qM_30 qM_31 qM_32 qM_9 qM_5) rfl rfl rfl (by decide +kernel) ⟨Nat.le_of_ble_eq_true rfl, Nat.le_of_ble_eq_true rfl⟩) (xc_51 G h) (by decide) rfl rfl rfl (Nat.le_of_ble_eq_true rfl) (fun r1 h2 => ?_)
  refine x_iconst (v := 1) C dX9_valueIn_6 (by decide) ?_
  refine x_iconst (v := 1) C dX9_valueIn_7 (by decide) ?_
  refine x_callVi C dX9_valueIn_8 (M_X9_may G l N r1 1 1 h2) (cwV 3 C.2.2.2.2.1 (gdV gWM qM_33 qM_34 qM_35 qM_9 qM_4) rfl rfl rfl (by decide +kernel) ⟨Nat.le_of_ble_eq_true rfl, Nat.le_of_ble_eq_true rfl⟩) (xc_51 G h2) (by decide) rfl rfl rfl (Nat.le_of_ble_eq_true rfl) (fun r3 h4 => ?_)
  refine x_if_ne (tgt := 16) C dX9_valueIn_11 (by decide) ?_ ?_
  · refine x_lconst (v := 0) C dX9_valueIn_14 (by decide) ?_
    exact x_lret C dX9_valueIn_15 hr
  · refine x_iload_n C dX9_valueIn_16 rfl 1 rfl ?_
    refine x_i2l C dX9_valueIn_17 ?_
    refine x_lconst (v := 0) C dX9_valueIn_18 (by decide) ?_
    refine x_aload_n C dX9_valueIn_19 rfl 0 rfl ?_
    refine x_callVi C dX9_valueIn_20 (M_X9_rows G l N h4) (cwV 0 C.2.2.2.2.1 (gdV gWM qM_176 qM_177 qM_178 qM_9 qM_175) rfl rfl rfl (by decide +kernel) ⟨Nat.le_of_ble_eq_true rfl, Nat.le_of_ble_eq_true rfl⟩) (xc_51 G h4) (by decide) rfl rfl rfl (Nat.le_of_ble_eq_true rfl) (fun r5 h6 => ?_)
    refine x_iconst (v := 1) C dX9_valueIn_23 (by decide) ?_
    refine x_isub C dX9_valueIn_24 ?_
    refine x_i2l C dX9_valueIn_25 ?_
    refine x_callSi C dX9_valueIn_26 (M_X9_isIn G l N (p1.toInt64) 0 ((r5 - 1).toInt64) h6) (va_cwS 3 C.2.2.2.2.1 (gdS gWM qM_7 qM_8 qM_9 qM_3) rfl rfl rfl (by decide +kernel) ⟨Nat.le_of_ble_eq_true rfl, Nat.le_of_ble_eq_true rfl⟩) rfl rfl (Nat.le_of_ble_eq_true rfl) (fun r7 h8 => ?_)
    refine x_if_eq (tgt := 56) C dX9_valueIn_29 (by decide) ?_ ?_
    · exact x_sub [] rfl (T_X9_valueIn_56 C hr h8)
    · refine x_aload_n C dX9_valueIn_32 rfl 0 rfl ?_
      refine x_iload_n C dX9_valueIn_33 rfl 1 rfl ?_
      refine x_callVi C dX9_valueIn_34 (M_X9_isWay G l N p1 h8) (cwV 1 C.2.2.2.2.1 (gdV gWM qM_179 qM_180 qM_181 qM_9 qM_174) rfl rfl rfl (by decide +kernel) ⟨Nat.le_of_ble_eq_true rfl, Nat.le_of_ble_eq_true rfl⟩) (xc_51 G h8) (by decide) rfl rfl rfl (Nat.le_of_ble_eq_true rfl) (fun r9 h10 => ?_)
      refine x_if_eq (tgt := 56) C dX9_valueIn_37 (by decide) ?_ ?_
      · exact x_sub [] rfl (T_X9_valueIn_56 C hr h10)
      · refine x_aload_n C dX9_valueIn_40 rfl 0 rfl ?_
        refine x_get (v := .ref (xad G 60)) C 13 dX9_valueIn_41 (xc_51 G h10) rfl (by decide) rfl (fun w h => List.mem_cons_of_mem _ (iWM_X9 w h)) (by decide) rfl (C.2.2.2.2.1 _ (List.mem_cons_of_mem _ qM_49)) ?_
        refine x_iload_n C dX9_valueIn_44 rfl 2 rfl ?_
        refine x_lald (n := 16) C dX9_valueIn_45 (xc_60 G h10) (by decide) ?_
        refine x_aload_n C dX9_valueIn_46 rfl 0 rfl ?_
        refine x_get (v := .ref (xad G 60)) C 13 dX9_valueIn_47 (xc_51 G h10) rfl (by decide) rfl (fun w h => List.mem_cons_of_mem _ (iWM_X9 w h)) (by decide) rfl (C.2.2.2.2.1 _ (List.mem_cons_of_mem _ qM_49)) ?_
        refine x_iconst (v := 0) C dX9_valueIn_50 (by decide) ?_
        refine x_lald (n := 16) C dX9_valueIn_51 (xc_60 G h10) (by decide) ?_
        refine x_lsub C dX9_valueIn_52 ?_
        refine x_goto (tgt := 59) C dX9_valueIn_53 (by decide) ?_
        exact x_lret C dX9_valueIn_59 hr
