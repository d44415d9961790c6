/-! X9_thrown: 3 instructions -/
abbrev J_X9_thrown (G : xG) (p : Program) (l : Launch) (e : Env) (s : State) (m : MethodId) (args : Array Value) (below : List Frame) (meth : Method) (c : Code) : Nat → List (Nat × Value) → List Value → xHp → Option (Int32 × xHp) → Prop := xJ G p l e ({ frames := 0, cells := 0, slots := 0, locals := 0 } : Room) s m args below meth c 1 (fun res => MQ below (xQi G res) args s 0 0 (xA G))
def F_X9_thrown (N : Nat) (h : xHp) : Option (Int32 × xHp) := some ((gI h 51 0), h)
set_option maxHeartbeats 4000000 in
set_option maxRecDepth 100000 in
theorem M_X9_thrown (G : xG) (l : Launch) (N : Nat) (h : xHp) : ∀ r, F_X9_thrown N h = some r → Met l yX9_thrown vX9_thrown ({ frames := 0, cells := 0, slots := 0, locals := 0 } : Room) (xPc G [.ref (xad G 51)] h) (xQi G r) 0 0 (xA G) := by
  refine x_met (own := RX9) (cc := cX9_thrown) (maxL := 1) (ret := (some .int)) (lv0 := [(0, .ref (xad G 51))]) (by decide +kernel) rfl rfl (Nat.le_of_ble_eq_true rfl) rfl ?_
  intro p e s m below meth c C hr
  unfold F_X9_thrown
  refine x_aload_n C dX9_thrown_0 rfl 0 rfl ?_
  refine x_get (v := .int (gI h 51 0)) C 0 dX9_thrown_1 (xc_51 G h) rfl (by decide) rfl (fun w h => List.mem_cons_of_mem _ (iWM_X9 w h)) (by decide) rfl (C.2.2.2.2.1 _ (List.mem_cons_of_mem _ qM_2)) ?_
  exact x_iret C dX9_thrown_4 hr
/-! X9_isIn: 12 instructions -/
abbrev J_X9_isIn (G : xG) (p : Program) (l : Launch) (e : Env) (s : State) (m : MethodId) (args : Array Value) (below : List Frame) (meth : Method) (c : Code) : Nat → List (Nat × Value) → List Value → xHp → Option (Int32 × xHp) → Prop := xJ G p l e ({ frames := 0, cells := 0, slots := 0, locals := 0 } : Room) s m args below meth c 6 (fun res => MQ below (xQi G res) args s 0 0 (xA G))
def F_X9_isIn_17 (N : Nat) (h : xHp) : Option (Int32 × xHp) := some (0, h)
def F_X9_isIn (N : Nat) (p0 : Int64) (p2 : Int64) (p4 : Int64) (h : xHp) : Option (Int32 × xHp) := if (lg_cmp p0 p2) < 0 then F_X9_isIn_17 N h else if 0 < (lg_cmp p0 p4) then F_X9_isIn_17 N h else some (1, h)
set_option maxHeartbeats 4000000 in
set_option maxRecDepth 100000 in
theorem T_X9_isIn_17 {G : xG} {p : Program} {l : Launch} {e : Env} {s : State} {m : MethodId} {args : Array Value} {below : List Frame} {meth : Method} {c : Code} {N : Nat} (C : xC G p s m args meth c cX9_isIn 6 vX9_isIn RX9) (hr : meth.sig.returnType = (some .boolean)) (h : xHp) : J_X9_isIn G p l e s m args below meth c 17 [] [] h (F_X9_isIn_17 N h) := by
  unfold F_X9_isIn_17
  refine x_iconst (v := 0) C dX9_isIn_17 (by decide) ?_
  exact x_zretL C dX9_isIn_18 hr rfl
set_option maxHeartbeats 4000000 in
set_option maxRecDepth 100000 in
theorem M_X9_isIn (G : xG) (l : Launch) (N : Nat) (p0 : Int64) (p2 : Int64) (p4 : Int64) (h : xHp) : ∀ r, F_X9_isIn N p0 p2 p4 h = some r → Met l yX9_isIn vX9_isIn ({ frames := 0, cells := 0, slots := 0, locals := 0 } : Room) (xPc G [.long p0, .long p2, .long p4] h) (xQi G r) 0 0 (xA G) := by
  refine x_met (own := RX9) (cc := cX9_isIn) (maxL := 6) (ret := (some .boolean)) (lv0 := [(0, .long p0), (2, .long p2), (4, .long p4)]) (by decide +kernel) rfl rfl (Nat.le_of_ble_eq_true rfl) rfl ?_
  intro p e s m below meth c C hr
  unfold F_X9_isIn
  refine x_lload_n C dX9_isIn_0 rfl 0 rfl ?_
  refine x_lload_n C dX9_isIn_1 rfl 1 rfl ?_
  refine x_lcmp C dX9_isIn_2 ?_
  refine x_if_lt (tgt := 17) C dX9_isIn_3 (by decide) ?_ ?_
  · exact x_sub [] rfl (T_X9_isIn_17 C hr h)
  · refine x_lload_n C dX9_isIn_6 rfl 0 rfl ?_
    refine x_lload C dX9_isIn_7 2 rfl ?_
    refine x_lcmp C dX9_isIn_9 ?_
    refine x_if_gt (tgt := 17) C dX9_isIn_10 (by decide) ?_ ?_
    · exact x_sub [] rfl (T_X9_isIn_17 C hr h)
    · refine x_iconst (v := 1) C dX9_isIn_13 (by decide) ?_
      refine x_goto (tgt := 18) C dX9_isIn_14 (by decide) ?_
      exact x_zretL C dX9_isIn_18 hr rfl
/-! X9_may: 22 instructions -/
abbrev J_X9_may (G : xG) (p : Program) (l : Launch) (e : Env) (s : State) (m : MethodId) (args : Array Value) (below : List Frame) (meth : Method) (c : Code) : Nat → List (Nat × Value) → List Value → xHp → Option (Int32 × xHp) → Prop := xJ G p l e ({ frames := 0, cells := 0, slots := 0, locals := 0 } : Room) s m args below meth c 4 (fun res => MQ below (xQi G res) args s 0 0 (xA G))
def F_X9_may_26 (N : Nat) (s1 : Int32) (h : xHp) : Option (Int32 × xHp) := bnd (sI h 51 0 s1) fun h1 => if (gI h1 51 0) = 0 then some (1, h1) else some (0, h1)
def F_X9_may (N : Nat) (p1 : Int32) (p2 : Int32) (p3 : Int32) (h : xHp) : Option (Int32 × xHp) := if p1 = 0 then F_X9_may_26 N 1 h else if p2 = 0 then F_X9_may_26 N 2 h else if p3 = 0 then F_X9_may_26 N 3 h else F_X9_may_26 N 0 h
set_option maxHeartbeats 4000000 in
set_option maxRecDepth 100000 in
theorem T_X9_may_26 {G : xG} {p : Program} {l : Launch} {e : Env} {s : State} {m : MethodId} {args : Array Value} {below : List Frame} {meth : Method} {c : Code} {N : Nat} (C : xC G p s m args meth c cX9_may 4 vX9_may RX9) (hr : meth.sig.returnType = (some .boolean)) (s1 : Int32) (h : xHp) : J_X9_may G p l e s m args below meth c 26 [(0, .ref (xad G 51))] [.int s1, .ref (xad G 51)] h (F_X9_may_26 N s1 h) := by
  unfold F_X9_may_26
  refine x_putI (ty0 := tyX9) (ty := .int) C 0 dX9_may_26 (xc_51 G h) rfl (Nat.le_of_ble_eq_true rfl) (by decide) rfl (fun w h => List.mem_cons_of_mem _ (iWM_X9 w h)) tyX9_ok nmX9 (by decide) rfl rfl (by decide +kernel) rfl rfl (C.2.2.2.2.1 _ (List.mem_cons_of_mem _ qM_2)) (fun h1 => ?_)
  refine x_aload_n C dX9_may_29 rfl 0 rfl ?_
  refine x_get (v := .int (gI h1 51 0)) C 0 dX9_may_30 (xc_51 G h1) rfl (by decide) rfl (fun w h => List.mem_cons_of_mem _ (iWM_X9 w h)) (by decide) rfl (C.2.2.2.2.1 _ (List.mem_cons_of_mem _ qM_2)) ?_
  refine x_if_ne (tgt := 40) C dX9_may_33 (by decide) ?_ ?_
  · refine x_iconst (v := 1) C dX9_may_36 (by decide) ?_
    refine x_goto (tgt := 41) C dX9_may_37 (by decide) ?_
    exact x_zretL C dX9_may_41 hr rfl
  · refine x_iconst (v := 0) C dX9_may_40 (by decide) ?_
    exact x_zretL C dX9_may_41 hr rfl
set_option maxHeartbeats 4000000 in
set_option maxRecDepth 100000 in
theorem M_X9_may (G : xG) (l : Launch) (N : Nat) (p1 : Int32) (p2 : Int32) (p3 : Int32) (h : xHp) : ∀ r, F_X9_may N p1 p2 p3 h = some r → Met l yX9_may vX9_may ({ frames := 0, cells := 0, slots := 0, locals := 0 } : Room) (xPc G [.ref (xad G 51), .int p1, .int p2, .int p3] h) (xQi G r) 0 0 (xA G) := by
  refine x_met (own := RX9) (cc := cX9_may) (maxL := 4) (ret := (some .boolean)) (lv0 := [(0, .ref (xad G 51)), (1, .int p1), (2, .int p2), (3, .int p3)]) (by decide +kernel) rfl rfl (Nat.le_of_ble_eq_true rfl) rfl ?_
  intro p e s m below meth c C hr
  unfold F_X9_may
  refine x_aload_n C dX9_may_0 rfl 0 rfl ?_
  refine x_iload_n C dX9_may_1 rfl 1 rfl ?_
  refine x_if_ne (tgt := 9) C dX9_may_2 (by decide) ?_ ?_
  · refine x_iconst (v := 1) C dX9_may_5 (by decide) ?_
    refine x_goto (tgt := 26) C dX9_may_6 (by decide) ?_
    exact x_sub [0] rfl (T_X9_may_26 C hr 1 h)
  · refine x_iload_n C dX9_may_9 rfl 2 rfl ?_
    refine x_if_ne (tgt := 17) C dX9_may_10 (by decide) ?_ ?_
    · refine x_iconst (v := 2) C dX9_may_13 (by decide) ?_
      refine x_goto (tgt := 26) C dX9_may_14 (by decide) ?_
      exact x_sub [0] rfl (T_X9_may_26 C hr 2 h)
    · refine x_iload_n C dX9_may_17 rfl 3 rfl ?_
      refine x_if_ne (tgt := 25) C dX9_may_18 (by decide) ?_ ?_
      · refine x_iconst (v := 3) C dX9_may_21 (by decide) ?_
        refine x_goto (tgt := 26) C dX9_may_22 (by decide) ?_
        exact x_sub [0] rfl (T_X9_may_26 C hr 3 h)
      · refine x_iconst (v := 0) C dX9_may_25 (by decide) ?_
        exact x_sub [0] rfl (T_X9_may_26 C hr 0 h)
/-! X9_isVariable: 6 instructions -/
abbrev J_X9_isVariable (G : xG) (p : Program) (l : Launch) (e : Env) (s : State) (m : MethodId) (args : Array Value) (below : List Frame) (meth : Method) (c : Code) : Nat → List (Nat × Value) → List Value → xHp → Option (Int32 × xHp) → Prop := xJ G p l e ({ frames := 1, cells := 0, slots := 0, locals := 25 } : Room) s m args below meth c 2 (fun res => MQ below (xQi G res) args s 0 0 (xA G))
def F_X9_isVariable (N : Nat) (p1 : Int32) (h : xHp) : Option (Int32 × xHp) := bnd2 (F_X9_isIn N (p1.toInt64) 0 15 h) fun r1 h2 => some (vp_nar .boolean r1, h2)
set_option maxHeartbeats 4000000 in
set_option maxRecDepth 100000 in
theorem M_X9_isVariable (G : xG) (l : Launch) (N : Nat) (p1 : Int32) (h : xHp) : ∀ r, F_X9_isVariable N p1 h = some r → Met l yX9_isVariable vX9_isVariable ({ frames := 1, cells := 0, slots := 0, locals := 25 } : Room) (xPc G [.ref (xad G 51), .int p1] h) (xQi G r) 0 0 (xA G) := by
  refine x_met (own := RX9) (cc := cX9_isVariable) (maxL := 2) (ret := (some .boolean)) (lv0 := [(0, .ref (xad G 51)), (1, .int p1)]) (by decide +kernel) rfl rfl (Nat.le_of_ble_eq_true rfl) rfl ?_
  intro p e s m below meth c C hr
  unfold F_X9_isVariable
  refine x_iload_n C dX9_isVariable_0 rfl 1 rfl ?_
  refine x_i2l C dX9_isVariable_1 ?_
  refine x_lconst (v := 0) C dX9_isVariable_2 (by decide) ?_
  refine x_ldc2 (v := 15) C dX9_isVariable_3 (C.2.2.2.2.1 _ (List.mem_cons_of_mem _ qM_6)) ?_
  refine x_callSi C dX9_isVariable_6 (M_X9_isIn G l N (p1.toInt64) 0 15 h) (va_cwS 3 C.2.2.2.2.1 (gdS gWM qM_7 qM_8 qM_9 qM_3) rfl rfl rfl (by decide +kernel) ⟨Nat.le_of_ble_eq_true rfl, Nat.le_of_ble_eq_true rfl⟩) rfl rfl (Nat.le_of_ble_eq_true rfl) (fun r1 h2 => ?_)
  exact x_zret C dX9_isVariable_9 hr
/-! X9_constraintsAlone: 19 instructions -/
abbrev J_X9_constraintsAlone (G : xG) (p : Program) (l : Launch) (e : Env) (s : State) (m : MethodId) (args : Array Value) (below : List Frame) (meth : Method) (c : Code) : Nat → List (Nat × Value) → List Value → xHp → Option (Unit × xHp) → Prop := xJ G p l e ({ frames := 0, cells := 0, slots := 0, locals := 0 } : Room) s m args below meth c 2 (fun res => MQ below (xQv G res) args s 0 0 (xA G))
def F_X9_constraintsAlone_26 (N : Nat) (k2 : Int32 → xHp → Option (Unit × xHp)) (x1 : Int32) (s2 : Int32) (s1 : Int32) (h : xHp) : Option (Unit × xHp) := grd (xin s1 70) (bnd (sI h 55 s1.toNatClampNeg (vp_nar .boolean s2)) fun h1 => k2 (x1 + 1) h1)
def F_X9_constraintsAlone_2_b (N : Nat) (k2 : Int32 → xHp → Option (Unit × xHp)) (x1 : Int32) (h : xHp) : Option (Unit × xHp) := if 70 ≤ x1 then some ((), h) else if (gI h 51 1) ≤ x1 then F_X9_constraintsAlone_26 N k2 x1 0 x1 h else F_X9_constraintsAlone_26 N k2 x1 1 x1 h
def F_X9_constraintsAlone_2 (N : Nat) (x1 : Int32) (h : xHp) : Option (Unit × xHp) := xit (F_X9_constraintsAlone_2_b N) (fun _ _ => none) N x1 h
def F_X9_constraintsAlone (N : Nat) (h : xHp) : Option (Unit × xHp) := F_X9_constraintsAlone_2 N 0 h
set_option maxHeartbeats 4000000 in
set_option maxRecDepth 100000 in
theorem T_X9_constraintsAlone_26 {G : xG} {p : Program} {l : Launch} {e : Env} {s : State} {m : MethodId} {args : Array Value} {below : List Frame} {meth : Method} {c : Code} {N : Nat} (C : xC G p s m args meth c cX9_constraintsAlone 2 vX9_constraintsAlone RX9) (hr : meth.sig.returnType = none) {k2 : Int32 → xHp → Option (Unit × xHp)} (hk2 : ∀ (x1 : Int32) (h : xHp), J_X9_constraintsAlone G p l e s m args below meth c 2 [(0, .ref (xad G 51)), (1, .int x1)] [] h (k2 x1 h)) (x1 : Int32) (s2 : Int32) (s1 : Int32) (h : xHp) : J_X9_constraintsAlone G p l e s m args below meth c 26 [(0, .ref (xad G 51)), (1, .int x1)] [.int s2, .int s1, .ref (xad G 55)] h (F_X9_constraintsAlone_26 N k2 x1 s2 s1 h) := by
  unfold F_X9_constraintsAlone_26
  refine x_zast (n := 70) C dX9_constraintsAlone_26 (fun g => xp_55 G g _ _) (by decide) (fun h1 => ?_)
  refine x_iinc (v := (x1 + 1)) (j := 1) (lv' := [(1, .int (x1 + 1)), (0, .ref (xad G 51))]) C dX9_constraintsAlone_27 rfl (by rfl) (by decide) rfl ?_
  refine x_goto (tgt := 2) C dX9_constraintsAlone_30 (by decide) ?_
  exact x_sub [1, 0] rfl (hk2 (x1 + 1) h1)
set_option maxHeartbeats 4000000 in
set_option maxRecDepth 100000 in
theorem T_X9_constraintsAlone_2_b {G : xG} {p : Program} {l : Launch} {e : Env} {s : State} {m : MethodId} {args : Array Value} {below : List Frame} {meth : Method} {c : Code} {N : Nat} (C : xC G p s m args meth c cX9_constraintsAlone 2 vX9_constraintsAlone RX9) (hr : meth.sig.returnType = none) {k2 : Int32 → xHp → Option (Unit × xHp)} (hk2 : ∀ (x1 : Int32) (h : xHp), J_X9_constraintsAlone G p l e s m args below meth c 2 [(0, .ref (xad G 51)), (1, .int x1)] [] h (k2 x1 h)) (x1 : Int32) (h : xHp) : J_X9_constraintsAlone G p l e s m args below meth c 2 [(0, .ref (xad G 51)), (1, .int x1)] [] h (F_X9_constraintsAlone_2_b N k2 x1 h) := by
  unfold F_X9_constraintsAlone_2_b
  refine x_iload_n C dX9_constraintsAlone_2 rfl 1 rfl ?_
  refine x_bipush (v := 70) C dX9_constraintsAlone_3 (by decide) ?_
  refine x_icmp_ge (tgt := 33) C dX9_constraintsAlone_5 (by decide) ?_ ?_
  · exact x_vret C dX9_constraintsAlone_33 hr
  · refine x_aload_n C dX9_constraintsAlone_8 rfl 0 rfl ?_
    refine x_get (v := .ref (xad G 55)) C 5 dX9_constraintsAlone_9 (xc_51 G h) rfl (by decide) rfl (fun w h => List.mem_cons_of_mem _ (iWM_X9 w h)) (by decide) rfl (C.2.2.2.2.1 _ (List.mem_cons_of_mem _ qM_11)) ?_
    refine x_iload_n C dX9_constraintsAlone_12 rfl 1 rfl ?_
    refine x_iload_n C dX9_constraintsAlone_13 rfl 1 rfl ?_
    refine x_aload_n C dX9_constraintsAlone_14 rfl 0 rfl ?_
    refine x_get (v := .int (gI h 51 1)) C 1 dX9_constraintsAlone_15 (xc_51 G h) rfl (by decide) rfl (fun w h => List.mem_cons_of_mem _ (iWM_X9 w h)) (by decide) rfl (C.2.2.2.2.1 _ (List.mem_cons_of_mem _ qM_12)) ?_
    refine x_icmp_ge (tgt := 25) C dX9_constraintsAlone_18 (by decide) ?_ ?_
    · refine x_iconst (v := 0) C dX9_constraintsAlone_25 (by decide) ?_
      exact x_sub [0, 1] rfl (T_X9_constraintsAlone_26 C hr hk2 x1 0 x1 h)
    · refine x_iconst (v := 1) C dX9_constraintsAlone_21 (by decide) ?_
      refine x_goto (tgt := 26) C dX9_constraintsAlone_22 (by decide) ?_
      exact x_sub [0, 1] rfl (T_X9_constraintsAlone_26 C hr hk2 x1 1 x1 h)
set_option maxHeartbeats 4000000 in
set_option maxRecDepth 100000 in
theorem T_X9_constraintsAlone_2_n {G : xG} {p : Program} {l : Launch} {e : Env} {s : State} {m : MethodId} {args : Array Value} {below : List Frame} {meth : Method} {c : Code} {N : Nat} (C : xC G p s m args meth c cX9_constraintsAlone 2 vX9_constraintsAlone RX9) (hr : meth.sig.returnType = none) : ∀ (n : Nat) (x1 : Int32) (h : xHp), J_X9_constraintsAlone G p l e s m args below meth c 2 [(0, .ref (xad G 51)), (1, .int x1)] [] h (xit (F_X9_constraintsAlone_2_b N) (fun _ _ => none) n x1 h) := by
  intro n
  induction n with
  | zero => intros; exact x_none
  | succ n ih => intros; exact T_X9_constraintsAlone_2_b C hr ih _ _
set_option maxHeartbeats 4000000 in
set_option maxRecDepth 100000 in
theorem T_X9_constraintsAlone_2 {G : xG} {p : Program} {l : Launch} {e : Env} {s : State} {m : MethodId} {args : Array Value} {below : List Frame} {meth : Method} {c : Code} {N : Nat} (C : xC G p s m args meth c cX9_constraintsAlone 2 vX9_constraintsAlone RX9) (hr : meth.sig.returnType = none) (x1 : Int32) (h : xHp) : J_X9_constraintsAlone G p l e s m args below meth c 2 [(0, .ref (xad G 51)), (1, .int x1)] [] h (F_X9_constraintsAlone_2 N x1 h) := T_X9_constraintsAlone_2_n C hr N x1 h
set_option maxHeartbeats 4000000 in
set_option maxRecDepth 100000 in
theorem M_X9_constraintsAlone (G : xG) (l : Launch) (N : Nat) (h : xHp) : ∀ r, F_X9_constraintsAlone N h = some r → Met l yX9_constraintsAlone vX9_constraintsAlone ({ frames := 0, cells := 0, slots := 0, locals := 0 } : Room) (xPc G [.ref (xad G 51)] h) (xQv G r) 0 0 (xA G) := by
  refine x_met (own := RX9) (cc := cX9_constraintsAlone) (maxL := 2) (ret := none) (lv0 := [(0, .ref (xad G 51))]) (by decide +kernel) rfl rfl (Nat.le_of_ble_eq_true rfl) rfl ?_
  intro p e s m below meth c C hr
  unfold F_X9_constraintsAlone
  refine x_iconst (v := 0) C dX9_constraintsAlone_0 (by decide) ?_
  refine x_istore_n (lv' := [(1, .int 0), (0, .ref (xad G 51))]) C dX9_constraintsAlone_1 rfl (by decide) rfl ?_
  exact x_sub [1, 0] rfl (T_X9_constraintsAlone_2 C hr 0 h)
/-! X9_findLeast: 99 instructions -/
abbrev J_X9_findLeast (G : xG) (p : Program) (l : Launch) (e : Env) (s : State) (m : MethodId) (args : Array Value) (below : List Frame) (meth : Method) (c : Code) : Nat → List (Nat × Value) → List Value → xHp → Option (Unit × xHp) → Prop := xJ G p l e ({ frames := 0, cells := 0, slots := 0, locals := 0 } : Room) s m args below meth c 7 (fun res => MQ below (xQv G res) args s 0 0 (xA G))
def F_X9_findLeast_26 (N : Nat) (k2 : Int32 → Int32 → xHp → Option (Unit × xHp)) (x1 : Int32) (x2 : Int32) (s2 : Int64) (s1 : Int32) (h : xHp) : Option (Unit × xHp) := grd (xin s1 272) (bnd (sJ h 58 s1.toNatClampNeg s2) fun h1 => k2 x1 (x2 + 1) h1)
def F_X9_findLeast_156 (N : Nat) (k35 : Int32 → xHp → Option (Unit × xHp)) (k43 : Int32 → Int32 → xHp → Option (Unit × xHp)) (x2 : Int32) (x3 : Int32) (h : xHp) : Option (Unit × xHp) := k43 x2 (x3 + 1) h
def F_X9_findLeast_155 (N : Nat) (k35 : Int32 → xHp → Option (Unit × xHp)) (k43 : Int32 → Int32 → xHp → Option (Unit × xHp)) (x2 : Int32) (x3 : Int32) (s2 : Int64) (s1 : Int32) (h : xHp) : Option (Unit × xHp) := grd (xin s1 272) (bnd (sJ h 58 s1.toNatClampNeg s2) fun h1 => F_X9_findLeast_156 N k35 k43 x2 x3 h1)
def F_X9_findLeast_43_b (N : Nat) (k35 : Int32 → xHp → Option (Unit × xHp)) (k43 : Int32 → Int32 → xHp → Option (Unit × xHp)) (x2 : Int32) (x3 : Int32) (h : xHp) : Option (Unit × xHp) := if 70 ≤ x3 then k35 (x2 + 1) h else grd (xin x3 70) (if (gI h 55 x3.toNatClampNeg) = 0 then F_X9_findLeast_156 N k35 k43 x2 x3 h else grd (xin x3 70) (grd (xin ((16 * (x2 - 1)) + (gI h 53 x3.toNatClampNeg)) 272) (if (0 : Int32) ≤ (lg_cmp (gJ h 58 ((16 * (x2 - 1)) + (gI h 53 x3.toNatClampNeg)).toNatClampNeg) 1152921504606846976) then F_X9_findLeast_156 N k35 k43 x2 x3 h else grd (xin x3 70) (grd (xin ((16 * (x2 - 1)) + (gI h 53 x3.toNatClampNeg)) 272) (grd (xin x3 70) (grd (xin x3 70) (grd (xin ((16 * x2) + (gI h 52 x3.toNatClampNeg)) 272) (if 0 ≤ (lg_cmp ((gJ h 58 ((16 * (x2 - 1)) + (gI h 53 x3.toNatClampNeg)).toNatClampNeg) + ((gI h 54 x3.toNatClampNeg).toInt64)) (gJ h 58 ((16 * x2) + (gI h 52 x3.toNatClampNeg)).toNatClampNeg)) then grd (xin ((16 * x2) + (gI h 52 x3.toNatClampNeg)) 272) (F_X9_findLeast_155 N k35 k43 x2 x3 (gJ h 58 ((16 * x2) + (gI h 52 x3.toNatClampNeg)).toNatClampNeg) ((16 * x2) + (gI h 52 x3.toNatClampNeg)) h) else F_X9_findLeast_155 N k35 k43 x2 x3 ((gJ h 58 ((16 * (x2 - 1)) + (gI h 53 x3.toNatClampNeg)).toNatClampNeg) + ((gI h 54 x3.toNatClampNeg).toInt64)) ((16 * x2) + (gI h 52 x3.toNatClampNeg)) h))))))))
def F_X9_findLeast_43 (N : Nat) (k35 : Int32 → xHp → Option (Unit × xHp)) (x2 : Int32) (x3 : Int32) (h : xHp) : Option (Unit × xHp) := xit (F_X9_findLeast_43_b N k35) (fun _ _ _ => none) N x2 x3 h
def F_X9_findLeast_35_b (N : Nat) (k35 : Int32 → xHp → Option (Unit × xHp)) (x2 : Int32) (h : xHp) : Option (Unit × xHp) := if 16 < x2 then some ((), h) else F_X9_findLeast_43 N k35 x2 0 h
def F_X9_findLeast_35 (N : Nat) (x2 : Int32) (h : xHp) : Option (Unit × xHp) := xit (F_X9_findLeast_35_b N) (fun _ _ => none) N x2 h
def F_X9_findLeast_2_b (N : Nat) (k2 : Int32 → Int32 → xHp → Option (Unit × xHp)) (x1 : Int32) (x2 : Int32) (h : xHp) : Option (Unit × xHp) := if 272 ≤ x2 then F_X9_findLeast_35 N 1 h else if x2 = x1 then F_X9_findLeast_26 N k2 x1 x2 0 x2 h else F_X9_findLeast_26 N k2 x1 x2 1152921504606846976 x2 h
def F_X9_findLeast_2 (N : Nat) (x1 : Int32) (x2 : Int32) (h : xHp) : Option (Unit × xHp) := xit (F_X9_findLeast_2_b N) (fun _ _ _ => none) N x1 x2 h
def F_X9_findLeast (N : Nat) (p1 : Int32) (h : xHp) : Option (Unit × xHp) := F_X9_findLeast_2 N p1 0 h
set_option maxHeartbeats 4000000 in
set_option maxRecDepth 100000 in
theorem T_X9_findLeast_26 {G : xG} {p : Program} {l : Launch} {e : Env} {s : State} {m : MethodId} {args : Array Value} {below : List Frame} {meth : Method} {c : Code} {N : Nat} (C : xC G p s m args meth c cX9_findLeast 7 vX9_findLeast RX9) (hr : meth.sig.returnType = none) {k2 : Int32 → Int32 → xHp → Option (Unit × xHp)} (hk2 : ∀ (x1 : Int32) (x2 : Int32) (h : xHp), J_X9_findLeast G p l e s m args below meth c 2 [(0, .ref (xad G 51)), (1, .int x1), (2, .int x2)] [] h (k2 x1 x2 h)) (x1 : Int32) (x2 : Int32) (s2 : Int64) (s1 : Int32) (h : xHp) : J_X9_findLeast G p l e s m args below meth c 26 [(0, .ref (xad G 51)), (1, .int x1), (2, .int x2)] [.long s2, .int s1, .ref (xad G 58)] h (F_X9_findLeast_26 N k2 x1 x2 s2 s1 h) := by
  unfold F_X9_findLeast_26
  refine x_last (n := 272) C dX9_findLeast_26 (fun g => xp_58 G _ g _) (by decide) (fun h1 => ?_)
  refine x_iinc (v := (x2 + 1)) (j := 2) (lv' := [(2, .int (x2 + 1)), (0, .ref (xad G 51)), (1, .int x1)]) C dX9_findLeast_27 rfl (by rfl) (by decide) rfl ?_
  refine x_goto (tgt := 2) C dX9_findLeast_30 (by decide) ?_
  exact x_sub [1, 2, 0] rfl (hk2 x1 (x2 + 1) h1)
set_option maxHeartbeats 4000000 in
set_option maxRecDepth 100000 in
theorem T_X9_findLeast_156 {G : xG} {p : Program} {l : Launch} {e : Env} {s : State} {m : MethodId} {args : Array Value} {below : List Frame} {meth : Method} {c : Code} {N : Nat} (C : xC G p s m args meth c cX9_findLeast 7 vX9_findLeast RX9) (hr : meth.sig.returnType = none) {k35 : Int32 → xHp → Option (Unit × xHp)} (hk35 : ∀ (x2 : Int32) (h : xHp), J_X9_findLeast G p l e s m args below meth c 35 [(0, .ref (xad G 51)), (2, .int x2)] [] h (k35 x2 h)) {k43 : Int32 → Int32 → xHp → Option (Unit × xHp)} (hk43 : ∀ (x2 : Int32) (x3 : Int32) (h : xHp), J_X9_findLeast G p l e s m args below meth c 43 [(0, .ref (xad G 51)), (2, .int x2), (3, .int x3)] [] h (k43 x2 x3 h)) (x2 : Int32) (x3 : Int32) (h : xHp) : J_X9_findLeast G p l e s m args below meth c 156 [(0, .ref (xad G 51)), (2, .int x2), (3, .int x3)] [] h (F_X9_findLeast_156 N k35 k43 x2 x3 h) := by
  unfold F_X9_findLeast_156
  refine x_iinc (v := (x3 + 1)) (j := 2) (lv' := [(3, .int (x3 + 1)), (0, .ref (xad G 51)), (2, .int x2)]) C dX9_findLeast_156 rfl (by rfl) (by decide) rfl ?_
  refine x_goto (tgt := 43) C dX9_findLeast_159 (by decide) ?_
  exact x_sub [1, 2, 0] rfl (hk43 x2 (x3 + 1) h)
set_option maxHeartbeats 4000000 in
set_option maxRecDepth 100000 in
theorem T_X9_findLeast_155 {G : xG} {p : Program} {l : Launch} {e : Env} {s : State} {m : MethodId} {args : Array Value} {below : List Frame} {meth : Method} {c : Code} {N : Nat} (C : xC G p s m args meth c cX9_findLeast 7 vX9_findLeast RX9) (hr : meth.sig.returnType = none) {k35 : Int32 → xHp → Option (Unit × xHp)} (hk35 : ∀ (x2 : Int32) (h : xHp), J_X9_findLeast G p l e s m args below meth c 35 [(0, .ref (xad G 51)), (2, .int x2)] [] h (k35 x2 h)) {k43 : Int32 → Int32 → xHp → Option (Unit × xHp)} (hk43 : ∀ (x2 : Int32) (x3 : Int32) (h : xHp), J_X9_findLeast G p l e s m args below meth c 43 [(0, .ref (xad G 51)), (2, .int x2), (3, .int x3)] [] h (k43 x2 x3 h)) (x2 : Int32) (x3 : Int32) (s2 : Int64) (s1 : Int32) (h : xHp) : J_X9_findLeast G p l e s m args below meth c 155 [(0, .ref (xad G 51)), (2, .int x2), (3, .int x3)] [.long s2, .int s1, .ref (xad G 58)] h (F_X9_findLeast_155 N k35 k43 x2 x3 s2 s1 h) := by
  unfold F_X9_findLeast_155
  refine x_last (n := 272) C dX9_findLeast_155 (fun g => xp_58 G _ g _) (by decide) (fun h1 => ?_)
  exact x_sub [0, 1, 2] rfl (T_X9_findLeast_156 C hr hk35 hk43 x2 x3 h1)
set_option maxHeartbeats 4000000 in
set_option maxRecDepth 100000 in
theorem T_X9_findLeast_43_b {G : xG} {p : Program} {l : Launch} {e : Env} {s : State} {m : MethodId} {args : Array Value} {below : List Frame} {meth : Method} {c : Code} {N : Nat} (C : xC G p s m args meth c cX9_findLeast 7 vX9_findLeast RX9) (hr : meth.sig.returnType = none) {k35 : Int32 → xHp → Option (Unit × xHp)} (hk35 : ∀ (x2 : Int32) (h : xHp), J_X9_findLeast G p l e s m args below meth c 35 [(0, .ref (xad G 51)), (2, .int x2)] [] h (k35 x2 h)) {k43 : Int32 → Int32 → xHp → Option (Unit × xHp)} (hk43 : ∀ (x2 : Int32) (x3 : Int32) (h : xHp), J_X9_findLeast G p l e s m args below meth c 43 [(0, .ref (xad G 51)), (2, .int x2), (3, .int x3)] [] h (k43 x2 x3 h)) (x2 : Int32) (x3 : Int32) (h : xHp) : J_X9_findLeast G p l e s m args below meth c 43 [(0, .ref (xad G 51)), (2, .int x2), (3, .int x3)] [] h (F_X9_findLeast_43_b N k35 k43 x2 x3 h) := by
  unfold F_X9_findLeast_43_b
  refine x_iload_n C dX9_findLeast_43 rfl 2 rfl ?_
  refine x_bipush (v := 70) C dX9_findLeast_44 (by decide) ?_
  refine x_icmp_ge (tgt := 162) C dX9_findLeast_46 (by decide) ?_ ?_
  · refine x_iinc (v := (x2 + 1)) (j := 1) (lv' := [(2, .int (x2 + 1)), (0, .ref (xad G 51)), (3, .int x3)]) C dX9_findLeast_162 rfl (by rfl) (by decide) rfl ?_
    refine x_goto (tgt := 35) C dX9_findLeast_165 (by decide) ?_
    exact x_sub [1, 0] rfl (hk35 (x2 + 1) h)
  · refine x_aload_n C dX9_findLeast_49 rfl 0 rfl ?_
    refine x_get (v := .ref (xad G 55)) C 5 dX9_findLeast_50 (xc_51 G h) rfl (by decide) rfl (fun w h => List.mem_cons_of_mem _ (iWM_X9 w h)) (by decide) rfl (C.2.2.2.2.1 _ (List.mem_cons_of_mem _ qM_11)) ?_
    refine x_iload_n C dX9_findLeast_53 rfl 2 rfl ?_
    refine x_zald (n := 70) C dX9_findLeast_54 (xc_55 G h) (by decide) ?_
    refine x_if_eq (tgt := 156) C dX9_findLeast_55 (by decide) ?_ ?_
    · exact x_sub [0, 1, 2] rfl (T_X9_findLeast_156 C hr hk35 hk43 x2 x3 h)
    · refine x_aload_n C dX9_findLeast_58 rfl 0 rfl ?_
      refine x_get (v := .ref (xad G 58)) C 10 dX9_findLeast_59 (xc_51 G h) rfl (by decide) rfl (fun w h => List.mem_cons_of_mem _ (iWM_X9 w h)) (by decide) rfl (C.2.2.2.2.1 _ (List.mem_cons_of_mem _ qM_14)) ?_
      refine x_bipush (v := 16) C dX9_findLeast_62 (by decide) ?_
      refine x_iload_n C dX9_findLeast_64 rfl 1 rfl ?_
      refine x_iconst (v := 1) C dX9_findLeast_65 (by decide) ?_
      refine x_isub C dX9_findLeast_66 ?_
      refine x_imul C dX9_findLeast_67 ?_
      refine x_aload_n C dX9_findLeast_68 rfl 0 rfl ?_
      refine x_get (v := .ref (xad G 53)) C 3 dX9_findLeast_69 (xc_51 G h) rfl (by decide) rfl (fun w h => List.mem_cons_of_mem _ (iWM_X9 w h)) (by decide) rfl (C.2.2.2.2.1 _ (List.mem_cons_of_mem _ qM_16)) ?_
      refine x_iload_n C dX9_findLeast_72 rfl 2 rfl ?_
      refine x_iald (n := 70) C dX9_findLeast_73 (xc_53 G h) (by decide) ?_
      refine x_iadd C dX9_findLeast_74 ?_
      refine x_lald (n := 272) C dX9_findLeast_75 (xc_58 G h) (by decide) ?_
      refine x_ldc2 (v := 1152921504606846976) C dX9_findLeast_76 (C.2.2.2.2.1 _ (List.mem_cons_of_mem _ qM_15)) ?_
      refine x_lcmp C dX9_findLeast_79 ?_
      refine x_if_ge (tgt := 156) C dX9_findLeast_80 (by decide) ?_ ?_
      · exact x_sub [0, 1, 2] rfl (T_X9_findLeast_156 C hr hk35 hk43 x2 x3 h)
      · refine x_aload_n C dX9_findLeast_83 rfl 0 rfl ?_
        refine x_get (v := .ref (xad G 58)) C 10 dX9_findLeast_84 (xc_51 G h) rfl (by decide) rfl (fun w h => List.mem_cons_of_mem _ (iWM_X9 w h)) (by decide) rfl (C.2.2.2.2.1 _ (List.mem_cons_of_mem _ qM_14)) ?_
        refine x_bipush (v := 16) C dX9_findLeast_87 (by decide) ?_
        refine x_iload_n C dX9_findLeast_89 rfl 1 rfl ?_
        refine x_iconst (v := 1) C dX9_findLeast_90 (by decide) ?_
        refine x_isub C dX9_findLeast_91 ?_
        refine x_imul C dX9_findLeast_92 ?_
        refine x_aload_n C dX9_findLeast_93 rfl 0 rfl ?_
        refine x_get (v := .ref (xad G 53)) C 3 dX9_findLeast_94 (xc_51 G h) rfl (by decide) rfl (fun w h => List.mem_cons_of_mem _ (iWM_X9 w h)) (by decide) rfl (C.2.2.2.2.1 _ (List.mem_cons_of_mem _ qM_16)) ?_
        refine x_iload_n C dX9_findLeast_97 rfl 2 rfl ?_
        refine x_iald (n := 70) C dX9_findLeast_98 (xc_53 G h) (by decide) ?_
        refine x_iadd C dX9_findLeast_99 ?_
        refine x_lald (n := 272) C dX9_findLeast_100 (xc_58 G h) (by decide) ?_
        refine x_aload_n C dX9_findLeast_101 rfl 0 rfl ?_
        refine x_get (v := .ref (xad G 54)) C 4 dX9_findLeast_102 (xc_51 G h) rfl (by decide) rfl (fun w h => List.mem_cons_of_mem _ (iWM_X9 w h)) (by decide) rfl (C.2.2.2.2.1 _ (List.mem_cons_of_mem _ qM_17)) ?_
        refine x_iload_n C dX9_findLeast_105 rfl 2 rfl ?_
        refine x_iald (n := 70) C dX9_findLeast_106 (xc_54 G h) (by decide) ?_
        refine x_i2l C dX9_findLeast_107 ?_
        refine x_ladd C dX9_findLeast_108 ?_
        refine x_lstore (lv' := [(4, .long ((gJ h 58 ((16 * (x2 - 1)) + (gI h 53 x3.toNatClampNeg)).toNatClampNeg) + ((gI h 54 x3.toNatClampNeg).toInt64))), (0, .ref (xad G 51)), (2, .int x2), (3, .int x3)]) C dX9_findLeast_109 (by decide) rfl ?_
        refine x_bipush (v := 16) C dX9_findLeast_111 (by decide) ?_
        refine x_iload_n C dX9_findLeast_113 rfl 2 rfl ?_
        refine x_imul C dX9_findLeast_114 ?_
        refine x_aload_n C dX9_findLeast_115 rfl 1 rfl ?_
        refine x_get (v := .ref (xad G 52)) C 2 dX9_findLeast_116 (xc_51 G h) rfl (by decide) rfl (fun w h => List.mem_cons_of_mem _ (iWM_X9 w h)) (by decide) rfl (C.2.2.2.2.1 _ (List.mem_cons_of_mem _ qM_18)) ?_
        refine x_iload_n C dX9_findLeast_119 rfl 3 rfl ?_
        refine x_iald (n := 70) C dX9_findLeast_120 (xc_52 G h) (by decide) ?_
        refine x_iadd C dX9_findLeast_121 ?_
        refine x_istore (lv' := [(6, .int ((16 * x2) + (gI h 52 x3.toNatClampNeg))), (4, .long ((gJ h 58 ((16 * (x2 - 1)) + (gI h 53 x3.toNatClampNeg)).toNatClampNeg) + ((gI h 54 x3.toNatClampNeg).toInt64))), (0, .ref (xad G 51)), (2, .int x2), (3, .int x3)]) C dX9_findLeast_122 (by decide) rfl ?_
        refine x_aload_n C dX9_findLeast_124 rfl 2 rfl ?_
        refine x_get (v := .ref (xad G 58)) C 10 dX9_findLeast_125 (xc_51 G h) rfl (by decide) rfl (fun w h => List.mem_cons_of_mem _ (iWM_X9 w h)) (by decide) rfl (C.2.2.2.2.1 _ (List.mem_cons_of_mem _ qM_14)) ?_
        refine x_iload C dX9_findLeast_128 0 rfl ?_
        refine x_lload C dX9_findLeast_130 1 rfl ?_
        refine x_aload_n C dX9_findLeast_132 rfl 2 rfl ?_
        refine x_get (v := .ref (xad G 58)) C 10 dX9_findLeast_133 (xc_51 G h) rfl (by decide) rfl (fun w h => List.mem_cons_of_mem _ (iWM_X9 w h)) (by decide) rfl (C.2.2.2.2.1 _ (List.mem_cons_of_mem _ qM_14)) ?_
        refine x_iload C dX9_findLeast_136 0 rfl ?_
        refine x_lald (n := 272) C dX9_findLeast_138 (xc_58 G h) (by decide) ?_
        refine x_lcmp C dX9_findLeast_139 ?_
        refine x_if_ge (tgt := 148) C dX9_findLeast_140 (by decide) ?_ ?_
        · refine x_aload_n C dX9_findLeast_148 rfl 2 rfl ?_
          refine x_get (v := .ref (xad G 58)) C 10 dX9_findLeast_149 (xc_51 G h) rfl (by decide) rfl (fun w h => List.mem_cons_of_mem _ (iWM_X9 w h)) (by decide) rfl (C.2.2.2.2.1 _ (List.mem_cons_of_mem _ qM_14)) ?_
          refine x_iload C dX9_findLeast_152 0 rfl ?_
          refine x_lald (n := 272) C dX9_findLeast_154 (xc_58 G h) (by decide) ?_
          exact x_sub [2, 3, 4] rfl (T_X9_findLeast_155 C hr hk35 hk43 x2 x3 (gJ h 58 ((16 * x2) + (gI h 52 x3.toNatClampNeg)).toNatClampNeg) ((16 * x2) + (gI h 52 x3.toNatClampNeg)) h)
        · refine x_lload C dX9_findLeast_143 1 rfl ?_
          refine x_goto (tgt := 155) C dX9_findLeast_145 (by decide) ?_
          exact x_sub [2, 3, 4] rfl (T_X9_findLeast_155 C hr hk35 hk43 x2 x3 ((gJ h 58 ((16 * (x2 - 1)) + (gI h 53 x3.toNatClampNeg)).toNatClampNeg) + ((gI h 54 x3.toNatClampNeg).toInt64)) ((16 * x2) + (gI h 52 x3.toNatClampNeg)) h)
set_option maxHeartbeats 4000000 in
set_option maxRecDepth 100000 in
theorem T_X9_findLeast_43_n {G : xG} {p : Program} {l : Launch} {e : Env} {s : State} {m : MethodId} {args : Array Value} {below : List Frame} {meth : Method} {c : Code} {N : Nat} (C : xC G p s m args meth c cX9_findLeast 7 vX9_findLeast RX9) (hr : meth.sig.returnType = none) {k35 : Int32 → xHp → Option (Unit × xHp)} (hk35 : ∀ (x2 : Int32) (h : xHp), J_X9_findLeast G p l e s m args below meth c 35 [(0, .ref (xad G 51)), (2, .int x2)] [] h (k35 x2 h)) : ∀ (n : Nat) (x2 : Int32) (x3 : Int32) (h : xHp), J_X9_findLeast G p l e s m args below meth c 43 [(0, .ref (xad G 51)), (2, .int x2), (3, .int x3)] [] h (xit (F_X9_findLeast_43_b N k35) (fun _ _ _ => none) n x2 x3 h) := by
  intro n
  induction n with
  | zero => intros; exact x_none
  | succ n ih => intros; exact T_X9_findLeast_43_b C hr hk35 ih _ _ _
set_option maxHeartbeats 4000000 in
set_option maxRecDepth 100000 in
theorem T_X9_findLeast_43 {G : xG} {p : Program} {l : Launch} {e : Env} {s : State} {m : MethodId} {args : Array Value} {below : List Frame} {meth : Method} {c : Code} {N : Nat} (C : xC G p s m args meth c cX9_findLeast 7 vX9_findLeast RX9) (hr : meth.sig.returnType = none) {k35 : Int32 → xHp → Option (Unit × xHp)} (hk35 : ∀ (x2 : Int32) (h : xHp), J_X9_findLeast G p l e s m args below meth c 35 [(0, .ref (xad G 51)), (2, .int x2)] [] h (k35 x2 h)) (x2 : Int32) (x3 : Int32) (h : xHp) : J_X9_findLeast G p l e s m args below meth c 43 [(0, .ref (xad G 51)), (2, .int x2), (3, .int x3)] [] h (F_X9_findLeast_43 N k35 x2 x3 h) := T_X9_findLeast_43_n C hr hk35 N x2 x3 h
set_option maxHeartbeats 4000000 in
set_option maxRecDepth 100000 in
theorem T_X9_findLeast_35_b {G : xG} {p : Program} {l : Launch} {e : Env} {s : State} {m : MethodId} {args : Array Value} {below : List Frame} {meth : Method} {c : Code} {N : Nat} (C : xC G p s m args meth c cX9_findLeast 7 vX9_findLeast RX9) (hr : meth.sig.returnType = none) {k35 : Int32 → xHp → Option (Unit × xHp)} (hk35 : ∀ (x2 : Int32) (h : xHp), J_X9_findLeast G p l e s m args below meth c 35 [(0, .ref (xad G 51)), (2, .int x2)] [] h (k35 x2 h)) (x2 : Int32) (h : xHp) : J_X9_findLeast G p l e s m args below meth c 35 [(0, .ref (xad G 51)), (2, .int x2)] [] h (F_X9_findLeast_35_b N k35 x2 h) := by
  unfold F_X9_findLeast_35_b
  refine x_iload_n C dX9_findLeast_35 rfl 1 rfl ?_
  refine x_bipush (v := 16) C dX9_findLeast_36 (by decide) ?_
  refine x_icmp_gt (tgt := 168) C dX9_findLeast_38 (by decide) ?_ ?_
  · exact x_vret C dX9_findLeast_168 hr
  · refine x_iconst (v := 0) C dX9_findLeast_41 (by decide) ?_
    refine x_istore_n (lv' := [(3, .int 0), (0, .ref (xad G 51)), (2, .int x2)]) C dX9_findLeast_42 rfl (by decide) rfl ?_
    exact x_sub [1, 2, 0] rfl (T_X9_findLeast_43 C hr hk35 x2 0 h)
set_option maxHeartbeats 4000000 in
set_option maxRecDepth 100000 in
theorem T_X9_findLeast_35_n {G : xG} {p : Program} {l : Launch} {e : Env} {s : State} {m : MethodId} {args : Array Value} {below : List Frame} {meth : Method} {c : Code} {N : Nat} (C : xC G p s m args meth c cX9_findLeast 7 vX9_findLeast RX9) (hr : meth.sig.returnType = none) : ∀ (n : Nat) (x2 : Int32) (h : xHp), J_X9_findLeast G p l e s m args below meth c 35 [(0, .ref (xad G 51)), (2, .int x2)] [] h (xit (F_X9_findLeast_35_b N) (fun _ _ => none) n x2 h) := by
  intro n
  induction n with
  | zero => intros; exact x_none
  | succ n ih => intros; exact T_X9_findLeast_35_b C hr ih _ _
set_option maxHeartbeats 4000000 in
set_option maxRecDepth 100000 in
theorem T_X9_findLeast_35 {G : xG} {p : Program} {l : Launch} {e : Env} {s : State} {m : MethodId} {args : Array Value} {below : List Frame} {meth : Method} {c : Code} {N : Nat} (C : xC G p s m args meth c cX9_findLeast 7 vX9_findLeast RX9) (hr : meth.sig.returnType = none) (x2 : Int32) (h : xHp) : J_X9_findLeast G p l e s m args below meth c 35 [(0, .ref (xad G 51)), (2, .int x2)] [] h (F_X9_findLeast_35 N x2 h) := T_X9_findLeast_35_n C hr N x2 h
set_option maxHeartbeats 4000000 in
set_option maxRecDepth 100000 in
theorem T_X9_findLeast_2_b {G : xG} {p : Program} {l : Launch} {e : Env} {s : State} {m : MethodId} {args : Array Value} {below : List Frame} {meth : Method} {c : Code} {N : Nat} (C : xC G p s m args meth c cX9_findLeast 7 vX9_findLeast RX9) (hr : meth.sig.returnType = none) {k2 : Int32 → Int32 → xHp → Option (Unit × xHp)} (hk2 : ∀ (x1 : Int32) (x2 : Int32) (h : xHp), J_X9_findLeast G p l e s m args below meth c 2 [(0, .ref (xad G 51)), (1, .int x1), (2, .int x2)] [] h (k2 x1 x2 h)) (x1 : Int32) (x2 : Int32) (h : xHp) : J_X9_findLeast G p l e s m args below meth c 2 [(0, .ref (xad G 51)), (1, .int x1), (2, .int x2)] [] h (F_X9_findLeast_2_b N k2 x1 x2 h) := by
  unfold F_X9_findLeast_2_b
  refine x_iload_n C dX9_findLeast_2 rfl 2 rfl ?_
  refine x_sipush (v := 272) C dX9_findLeast_3 (by decide) ?_
  refine x_icmp_ge (tgt := 33) C dX9_findLeast_6 (by decide) ?_ ?_
  · refine x_iconst (v := 1) C dX9_findLeast_33 (by decide) ?_
    refine x_istore_n (lv' := [(2, .int 1), (0, .ref (xad G 51)), (1, .int x1)]) C dX9_findLeast_34 rfl (by decide) rfl ?_
    exact x_sub [1, 0] rfl (T_X9_findLeast_35 C hr 1 h)
  · refine x_aload_n C dX9_findLeast_9 rfl 0 rfl ?_
    refine x_get (v := .ref (xad G 58)) C 10 dX9_findLeast_10 (xc_51 G h) rfl (by decide) rfl (fun w h => List.mem_cons_of_mem _ (iWM_X9 w h)) (by decide) rfl (C.2.2.2.2.1 _ (List.mem_cons_of_mem _ qM_14)) ?_
    refine x_iload_n C dX9_findLeast_13 rfl 2 rfl ?_
    refine x_iload_n C dX9_findLeast_14 rfl 2 rfl ?_
    refine x_iload_n C dX9_findLeast_15 rfl 1 rfl ?_
    refine x_icmp_ne (tgt := 23) C dX9_findLeast_16 (by decide) ?_ ?_
    · refine x_lconst (v := 0) C dX9_findLeast_19 (by decide) ?_
      refine x_goto (tgt := 26) C dX9_findLeast_20 (by decide) ?_
      exact x_sub [0, 1, 2] rfl (T_X9_findLeast_26 C hr hk2 x1 x2 0 x2 h)
    · refine x_ldc2 (v := 1152921504606846976) C dX9_findLeast_23 (C.2.2.2.2.1 _ (List.mem_cons_of_mem _ qM_15)) ?_
      exact x_sub [0, 1, 2] rfl (T_X9_findLeast_26 C hr hk2 x1 x2 1152921504606846976 x2 h)
set_option maxHeartbeats 4000000 in
set_option maxRecDepth 100000 in
theorem T_X9_findLeast_2_n {G : xG} {p : Program} {l : Launch} {e : Env} {s : State} {m : MethodId} {args : Array Value} {below : List Frame} {meth : Method} {c : Code} {N : Nat} (C : xC G p s m args meth c cX9_findLeast 7 vX9_findLeast RX9) (hr : meth.sig.returnType = none) : ∀ (n : Nat) (x1 : Int32) (x2 : Int32) (h : xHp), J_X9_findLeast G p l e s m args below meth c 2 [(0, .ref (xad G 51)), (1, .int x1), (2, .int x2)] [] h (xit (F_X9_findLeast_2_b N) (fun _ _ _ => none) n x1 x2 h) := by
  intro n
  induction n with
  | zero => intros; exact x_none
  | succ n ih => intros; exact T_X9_findLeast_2_b C hr ih _ _ _
set_option maxHeartbeats 4000000 in
set_option maxRecDepth 100000 in
theorem T_X9_findLeast_2 {G : xG} {p : Program} {l : Launch} {e : Env} {s : State} {m : MethodId} {args : Array Value} {below : List Frame} {meth : Method} {c : Code} {N : Nat} (C : xC G p s m args meth c cX9_findLeast 7 vX9_findLeast RX9) (hr : meth.sig.returnType = none) (x1 : Int32) (x2 : Int32) (h : xHp) : J_X9_findLeast G p l e s m args below meth c 2 [(0, .ref (xad G 51)), (1, .int x1), (2, .int x2)] [] h (F_X9_findLeast_2 N x1 x2 h) := T_X9_findLeast_2_n C hr N x1 x2 h
set_option maxHeartbeats 4000000 in
set_option maxRecDepth 100000 in
theorem M_X9_findLeast (G : xG) (l : Launch) (N : Nat) (p1 : Int32) (h : xHp) : ∀ r, F_X9_findLeast N p1 h = some r → Met l yX9_findLeast vX9_findLeast ({ frames := 0, cells := 0, slots := 0, locals := 0 } : Room) (xPc G [.ref (xad G 51), .int p1] h) (xQv G r) 0 0 (xA G) := by
  refine x_met (own := RX9) (cc := cX9_findLeast) (maxL := 7) (ret := none) (lv0 := [(0, .ref (xad G 51)), (1, .int p1)]) (by decide +kernel) rfl rfl (Nat.le_of_ble_eq_true rfl) rfl ?_
  intro p e s m below meth c C hr
  unfold F_X9_findLeast
  refine x_iconst (v := 0) C dX9_findLeast_0 (by decide) ?_
  refine x_istore_n (lv' := [(2, .int 0), (0, .ref (xad G 51)), (1, .int p1)]) C dX9_findLeast_1 rfl (by decide) rfl ?_
  exact x_sub [1, 2, 0] rfl (T_X9_findLeast_2 C hr p1 0 h)
/-! X9_findRow: 122 instructions -/
abbrev J_X9_findRow (G : xG) (p : Program) (l : Launch) (e : Env) (s : State) (m : MethodId) (args : Array Value) (below : List Frame) (meth : Method) (c : Code) : Nat → List (Nat × Value) → List Value → xHp → Option (Int32 × xHp) → Prop := xJ G p l e ({ frames := 1, cells := 0, slots := 0, locals := 26 } : Room) s m args below meth c 11 (fun res => MQ below (xQi G res) args s 0 0 (xA G))
def F_X9_findRow_170 (N : Nat) (k62 : Int64 → Int32 → Int64 → Int32 → xHp → Option (Int32 × xHp)) (k74 : Int64 → Int32 → Int64 → Int32 → Int32 → xHp → Option (Int32 × xHp)) (x3 : Int64) (x6 : Int32) (x7 : Int64) (x9 : Int32) (x10 : Int32) (h : xHp) : Option (Int32 × xHp) := k74 x3 x6 x7 x9 (x10 + 1) h
def F_X9_findRow_74_b (N : Nat) (k62 : Int64 → Int32 → Int64 → Int32 → xHp → Option (Int32 × xHp)) (k74 : Int64 → Int32 → Int64 → Int32 → Int32 → xHp → Option (Int32 × xHp)) (x3 : Int64) (x6 : Int32) (x7 : Int64) (x9 : Int32) (x10 : Int32) (h : xHp) : Option (Int32 × xHp) := grd (xin x10 70) (if (gI h 55 x10.toNatClampNeg) = 0 then F_X9_findRow_170 N k62 k74 x3 x6 x7 x9 x10 h else grd (xin x10 70) (if (gI h 52 x10.toNatClampNeg) = x6 then grd (xin x10 70) (grd (xin ((16 * (((gI h 51 12) - x9) - 1)) + (gI h 53 x10.toNatClampNeg)) 272) (if (0 : Int32) ≤ (lg_cmp (gJ h 58 ((16 * (((gI h 51 12) - x9) - 1)) + (gI h 53 x10.toNatClampNeg)).toNatClampNeg) 1152921504606846976) then F_X9_findRow_170 N k62 k74 x3 x6 x7 x9 x10 h else grd (xin x10 70) (grd (xin x10 70) (grd (xin ((16 * (((gI h 51 12) - x9) - 1)) + (gI h 53 x10.toNatClampNeg)) 272) (if (lg_cmp ((x7 + ((gI h 54 x10.toNatClampNeg).toInt64)) + (gJ h 58 ((16 * (((gI h 51 12) - x9) - 1)) + (gI h 53 x10.toNatClampNeg)).toNatClampNeg)) x3) ≤ 0 then grd (xin x9 20) (bnd (sI h 59 x9.toNatClampNeg x10) fun h1 => grd (xin x10 70) (grd (xin x10 70) (k62 x3 (gI h1 53 x10.toNatClampNeg) (x7 + ((gI h1 54 x10.toNatClampNeg).toInt64)) (x9 + 1) h1))) else F_X9_findRow_170 N k62 k74 x3 x6 x7 x9 x10 h))))) else F_X9_findRow_170 N k62 k74 x3 x6 x7 x9 x10 h))
def F_X9_findRow_74 (N : Nat) (k62 : Int64 → Int32 → Int64 → Int32 → xHp → Option (Int32 × xHp)) (x3 : Int64) (x6 : Int32) (x7 : Int64) (x9 : Int32) (x10 : Int32) (h : xHp) : Option (Int32 × xHp) := xit (F_X9_findRow_74_b N k62) (fun _ _ _ _ _ _ => none) N x3 x6 x7 x9 x10 h
def F_X9_findRow_62_b (N : Nat) (k62 : Int64 → Int32 → Int64 → Int32 → xHp → Option (Int32 × xHp)) (x3 : Int64) (x6 : Int32) (x7 : Int64) (x9 : Int32) (h : xHp) : Option (Int32 × xHp) := if (gI h 51 12) ≤ x9 then some (1, h) else F_X9_findRow_74 N k62 x3 x6 x7 x9 0 h
def F_X9_findRow_62 (N : Nat) (x3 : Int64) (x6 : Int32) (x7 : Int64) (x9 : Int32) (h : xHp) : Option (Int32 × xHp) := xit (F_X9_findRow_62_b N) (fun _ _ _ _ _ => none) N x3 x6 x7 x9 h
def F_X9_findRow_38 (N : Nat) (x1 : Int32) (x3 : Int64) (x5 : Int32) (h : xHp) : Option (Int32 × xHp) := if x5 ≤ 16 then bnd (sI h 51 12 x5) fun h1 => F_X9_findRow_62 N x3 x1 0 0 h1 else some (0, h)
def F_X9_findRow_8_b (N : Nat) (k8 : Int32 → Int64 → Int32 → xHp → Option (Int32 × xHp)) (x1 : Int32) (x3 : Int64) (x5 : Int32) (h : xHp) : Option (Int32 × xHp) := if 16 < x5 then F_X9_findRow_38 N x1 x3 x5 h else grd (xin ((16 * x5) + x1) 272) (if (lg_cmp (gJ h 58 ((16 * x5) + x1).toNatClampNeg) x3) ≤ 0 then F_X9_findRow_38 N x1 x3 x5 h else k8 x1 x3 (x5 + 1) h)
def F_X9_findRow_8 (N : Nat) (x1 : Int32) (x3 : Int64) (x5 : Int32) (h : xHp) : Option (Int32 × xHp) := xit (F_X9_findRow_8_b N) (fun _ _ _ _ => none) N x1 x3 x5 h
def F_X9_findRow (N : Nat) (p1 : Int32) (p2 : Int32) (p3 : Int64) (h : xHp) : Option (Int32 × xHp) := bnd2 (F_X9_findLeast N p2 h) fun r1 h2 => F_X9_findRow_8 N p1 p3 0 h2
set_option maxHeartbeats 4000000 in
set_option maxRecDepth 100000 in
theorem T_X9_findRow_170 {G : xG} {p : Program} {l : Launch} {e : Env} {s : State} {m : MethodId} {args : Array Value} {below : List Frame} {meth : Method} {c : Code} {N : Nat} (C : xC G p s m args meth c cX9_findRow 11 vX9_findRow RX9) (hr : meth.sig.returnType = (some .boolean)) {k62 : Int64 → Int32 → Int64 → Int32 → xHp → Option (Int32 × xHp)} (hk62 : ∀ (x3 : Int64) (x6 : Int32) (x7 : Int64) (x9 : Int32) (h : xHp), J_X9_findRow G p l e s m args below meth c 62 [(0, .ref (xad G 51)), (3, .long x3), (6, .int x6), (7, .long x7), (9, .int x9)] [] h (k62 x3 x6 x7 x9 h)) {k74 : Int64 → Int32 → Int64 → Int32 → Int32 → xHp → Option (Int32 × xHp)} (hk74 : ∀ (x3 : Int64) (x6 : Int32) (x7 : Int64) (x9 : Int32) (x10 : Int32) (h : xHp), J_X9_findRow G p l e s m args below meth c 74 [(0, .ref (xad G 51)), (3, .long x3), (6, .int x6), (7, .long x7), (9, .int x9), (10, .int x10)] [] h (k74 x3 x6 x7 x9 x10 h)) (x3 : Int64) (x6 : Int32) (x7 : Int64) (x9 : Int32) (x10 : Int32) (h : xHp) : J_X9_findRow G p l e s m args below meth c 170 [(0, .ref (xad G 51)), (3, .long x3), (6, .int x6), (7, .long x7), (9, .int x9), (10, .int x10)] [] h (F_X9_findRow_170 N k62 k74 x3 x6 x7 x9 x10 h) := by
  unfold F_X9_findRow_170
  refine x_iinc (v := (x10 + 1)) (j := 5) (lv' := [(10, .int (x10 + 1)), (0, .ref (xad G 51)), (3, .long x3), (6, .int x6), (7, .long x7), (9, .int x9)]) C dX9_findRow_170 rfl (by rfl) (by decide) rfl ?_
  refine x_goto (tgt := 74) C dX9_findRow_173 (by decide) ?_
  exact x_sub [1, 2, 3, 4, 5, 0] rfl (hk74 x3 x6 x7 x9 (x10 + 1) h)
set_option maxHeartbeats 4000000 in
set_option maxRecDepth 100000 in
theorem T_X9_findRow_74_b {G : xG} {p : Program} {l : Launch} {e : Env} {s : State} {m : MethodId} {args : Array Value} {below : List Frame} {meth : Method} {c : Code} {N : Nat} (C : xC G p s m args meth c cX9_findRow 11 vX9_findRow RX9) (hr : meth.sig.returnType = (some .boolean)) {k62 : Int64 → Int32 → Int64 → Int32 → xHp → Option (Int32 × xHp)} (hk62 : ∀ (x3 : Int64) (x6 : Int32) (x7 : Int64) (x9 : Int32) (h : xHp), J_X9_findRow G p l e s m args below meth c 62 [(0, .ref (xad G 51)), (3, .long x3), (6, .int x6), (7, .long x7), (9, .int x9)] [] h (k62 x3 x6 x7 x9 h)) {k74 : Int64 → Int32 → Int64 → Int32 → Int32 → xHp → Option (Int32 × xHp)} (hk74 : ∀ (x3 : Int64) (x6 : Int32) (x7 : Int64) (x9 : Int32) (x10 : Int32) (h : xHp), J_X9_findRow G p l e s m args below meth c 74 [(0, .ref (xad G 51)), (3, .long x3), (6, .int x6), (7, .long x7), (9, .int x9), (10, .int x10)] [] h (k74 x3 x6 x7 x9 x10 h)) (x3 : Int64) (x6 : Int32) (x7 : Int64) (x9 : Int32) (x10 : Int32) (h : xHp) : J_X9_findRow G p l e s m args below meth c 74 [(0, .ref (xad G 51)), (3, .long x3), (6, .int x6), (7, .long x7), (9, .int x9), (10, .int x10)] [] h (F_X9_findRow_74_b N k62 k74 x3 x6 x7 x9 x10 h) := by
  unfold F_X9_findRow_74_b
  refine x_aload_n C dX9_findRow_74 rfl 0 rfl ?_
  refine x_get (v := .ref (xad G 55)) C 5 dX9_findRow_75 (xc_51 G h) rfl (by decide) rfl (fun w h => List.mem_cons_of_mem _ (iWM_X9 w h)) (by decide) rfl (C.2.2.2.2.1 _ (List.mem_cons_of_mem _ qM_11)) ?_
  refine x_iload C dX9_findRow_78 5 rfl ?_
  refine x_zald (n := 70) C dX9_findRow_80 (xc_55 G h) (by decide) ?_
  refine x_if_eq (tgt := 170) C dX9_findRow_81 (by decide) ?_ ?_
  · exact x_sub [0, 1, 2, 3, 4, 5] rfl (T_X9_findRow_170 C hr hk62 hk74 x3 x6 x7 x9 x10 h)
  · refine x_aload_n C dX9_findRow_84 rfl 0 rfl ?_
    refine x_get (v := .ref (xad G 52)) C 2 dX9_findRow_85 (xc_51 G h) rfl (by decide) rfl (fun w h => List.mem_cons_of_mem _ (iWM_X9 w h)) (by decide) rfl (C.2.2.2.2.1 _ (List.mem_cons_of_mem _ qM_18)) ?_
    refine x_iload C dX9_findRow_88 5 rfl ?_
    refine x_iald (n := 70) C dX9_findRow_90 (xc_52 G h) (by decide) ?_
    refine x_iload C dX9_findRow_91 2 rfl ?_
    refine x_icmp_ne (tgt := 170) C dX9_findRow_93 (by decide) ?_ ?_
    · refine x_aload_n C dX9_findRow_96 rfl 0 rfl ?_
      refine x_get (v := .ref (xad G 58)) C 10 dX9_findRow_97 (xc_51 G h) rfl (by decide) rfl (fun w h => List.mem_cons_of_mem _ (iWM_X9 w h)) (by decide) rfl (C.2.2.2.2.1 _ (List.mem_cons_of_mem _ qM_14)) ?_
      refine x_bipush (v := 16) C dX9_findRow_100 (by decide) ?_
      refine x_aload_n C dX9_findRow_102 rfl 0 rfl ?_
      refine x_get (v := .int (gI h 51 12)) C 12 dX9_findRow_103 (xc_51 G h) rfl (by decide) rfl (fun w h => List.mem_cons_of_mem _ (iWM_X9 w h)) (by decide) rfl (C.2.2.2.2.1 _ (List.mem_cons_of_mem _ qM_20)) ?_
      refine x_iload C dX9_findRow_106 4 rfl ?_
      refine x_isub C dX9_findRow_108 ?_
      refine x_iconst (v := 1) C dX9_findRow_109 (by decide) ?_
      refine x_isub C dX9_findRow_110 ?_
      refine x_imul C dX9_findRow_111 ?_
      refine x_aload_n C dX9_findRow_112 rfl 0 rfl ?_
      refine x_get (v := .ref (xad G 53)) C 3 dX9_findRow_113 (xc_51 G h) rfl (by decide) rfl (fun w h => List.mem_cons_of_mem _ (iWM_X9 w h)) (by decide) rfl (C.2.2.2.2.1 _ (List.mem_cons_of_mem _ qM_16)) ?_
      refine x_iload C dX9_findRow_116 5 rfl ?_
      refine x_iald (n := 70) C dX9_findRow_118 (xc_53 G h) (by decide) ?_
      refine x_iadd C dX9_findRow_119 ?_
      refine x_lald (n := 272) C dX9_findRow_120 (xc_58 G h) (by decide) ?_
      refine x_ldc2 (v := 1152921504606846976) C dX9_findRow_121 (C.2.2.2.2.1 _ (List.mem_cons_of_mem _ qM_15)) ?_
      refine x_lcmp C dX9_findRow_124 ?_
      refine x_if_ge (tgt := 170) C dX9_findRow_125 (by decide) ?_ ?_
      · exact x_sub [0, 1, 2, 3, 4, 5] rfl (T_X9_findRow_170 C hr hk62 hk74 x3 x6 x7 x9 x10 h)
      · refine x_lload C dX9_findRow_128 3 rfl ?_
        refine x_aload_n C dX9_findRow_130 rfl 0 rfl ?_
        refine x_get (v := .ref (xad G 54)) C 4 dX9_findRow_131 (xc_51 G h) rfl (by decide) rfl (fun w h => List.mem_cons_of_mem _ (iWM_X9 w h)) (by decide) rfl (C.2.2.2.2.1 _ (List.mem_cons_of_mem _ qM_17)) ?_
        refine x_iload C dX9_findRow_134 5 rfl ?_
        refine x_iald (n := 70) C dX9_findRow_136 (xc_54 G h) (by decide) ?_
        refine x_i2l C dX9_findRow_137 ?_
        refine x_ladd C dX9_findRow_138 ?_
        refine x_aload_n C dX9_findRow_139 rfl 0 rfl ?_
        refine x_get (v := .ref (xad G 58)) C 10 dX9_findRow_140 (xc_51 G h) rfl (by decide) rfl (fun w h => List.mem_cons_of_mem _ (iWM_X9 w h)) (by decide) rfl (C.2.2.2.2.1 _ (List.mem_cons_of_mem _ qM_14)) ?_
        refine x_bipush (v := 16) C dX9_findRow_143 (by decide) ?_
        refine x_aload_n C dX9_findRow_145 rfl 0 rfl ?_
        refine x_get (v := .int (gI h 51 12)) C 12 dX9_findRow_146 (xc_51 G h) rfl (by decide) rfl (fun w h => List.mem_cons_of_mem _ (iWM_X9 w h)) (by decide) rfl (C.2.2.2.2.1 _ (List.mem_cons_of_mem _ qM_20)) ?_
        refine x_iload C dX9_findRow_149 4 rfl ?_
        refine x_isub C dX9_findRow_151 ?_
        refine x_iconst (v := 1) C dX9_findRow_152 (by decide) ?_
        refine x_isub C dX9_findRow_153 ?_
        refine x_imul C dX9_findRow_154 ?_
        refine x_aload_n C dX9_findRow_155 rfl 0 rfl ?_
        refine x_get (v := .ref (xad G 53)) C 3 dX9_findRow_156 (xc_51 G h) rfl (by decide) rfl (fun w h => List.mem_cons_of_mem _ (iWM_X9 w h)) (by decide) rfl (C.2.2.2.2.1 _ (List.mem_cons_of_mem _ qM_16)) ?_
        refine x_iload C dX9_findRow_159 5 rfl ?_
        refine x_iald (n := 70) C dX9_findRow_161 (xc_53 G h) (by decide) ?_
        refine x_iadd C dX9_findRow_162 ?_
        refine x_lald (n := 272) C dX9_findRow_163 (xc_58 G h) (by decide) ?_
        refine x_ladd C dX9_findRow_164 ?_
        refine x_lload_n C dX9_findRow_165 rfl 1 rfl ?_
        refine x_lcmp C dX9_findRow_166 ?_
        refine x_if_le (tgt := 176) C dX9_findRow_167 (by decide) ?_ ?_
        · refine x_aload_n C dX9_findRow_176 rfl 0 rfl ?_
          refine x_get (v := .ref (xad G 59)) C 11 dX9_findRow_177 (xc_51 G h) rfl (by decide) rfl (fun w h => List.mem_cons_of_mem _ (iWM_X9 w h)) (by decide) rfl (C.2.2.2.2.1 _ (List.mem_cons_of_mem _ qM_21)) ?_
          refine x_iload C dX9_findRow_180 4 rfl ?_
          refine x_iload C dX9_findRow_182 5 rfl ?_
          refine x_iast (n := 20) C dX9_findRow_184 (fun g => xp_59 G g _ _) (by decide) (fun h1 => ?_)
          refine x_lload C dX9_findRow_185 3 rfl ?_
          refine x_aload_n C dX9_findRow_187 rfl 0 rfl ?_
          refine x_get (v := .ref (xad G 54)) C 4 dX9_findRow_188 (xc_51 G h1) rfl (by decide) rfl (fun w h => List.mem_cons_of_mem _ (iWM_X9 w h)) (by decide) rfl (C.2.2.2.2.1 _ (List.mem_cons_of_mem _ qM_17)) ?_
          refine x_iload C dX9_findRow_191 5 rfl ?_
          refine x_iald (n := 70) C dX9_findRow_193 (xc_54 G h1) (by decide) ?_
          refine x_i2l C dX9_findRow_194 ?_
          refine x_ladd C dX9_findRow_195 ?_
          refine x_lstore (lv' := [(7, .long (x7 + ((gI h1 54 x10.toNatClampNeg).toInt64))), (0, .ref (xad G 51)), (3, .long x3), (6, .int x6), (9, .int x9), (10, .int x10)]) C dX9_findRow_196 (by decide) rfl ?_
          refine x_aload_n C dX9_findRow_198 rfl 1 rfl ?_
          refine x_get (v := .ref (xad G 53)) C 3 dX9_findRow_199 (xc_51 G h1) rfl (by decide) rfl (fun w h => List.mem_cons_of_mem _ (iWM_X9 w h)) (by decide) rfl (C.2.2.2.2.1 _ (List.mem_cons_of_mem _ qM_16)) ?_
          refine x_iload C dX9_findRow_202 5 rfl ?_
          refine x_iald (n := 70) C dX9_findRow_204 (xc_53 G h1) (by decide) ?_
          refine x_istore (lv' := [(6, .int (gI h1 53 x10.toNatClampNeg)), (7, .long (x7 + ((gI h1 54 x10.toNatClampNeg).toInt64))), (0, .ref (xad G 51)), (3, .long x3), (9, .int x9), (10, .int x10)]) C dX9_findRow_205 (by decide) rfl ?_
          refine x_iinc (v := (x9 + 1)) (j := 4) (lv' := [(9, .int (x9 + 1)), (6, .int (gI h1 53 x10.toNatClampNeg)), (7, .long (x7 + ((gI h1 54 x10.toNatClampNeg).toInt64))), (0, .ref (xad G 51)), (3, .long x3), (10, .int x10)]) C dX9_findRow_207 rfl (by rfl) (by decide) rfl ?_
          refine x_goto (tgt := 62) C dX9_findRow_210 (by decide) ?_
          exact x_sub [3, 4, 1, 2, 0] rfl (hk62 x3 (gI h1 53 x10.toNatClampNeg) (x7 + ((gI h1 54 x10.toNatClampNeg).toInt64)) (x9 + 1) h1)
        · exact x_sub [0, 1, 2, 3, 4, 5] rfl (T_X9_findRow_170 C hr hk62 hk74 x3 x6 x7 x9 x10 h)
    · exact x_sub [0, 1, 2, 3, 4, 5] rfl (T_X9_findRow_170 C hr hk62 hk74 x3 x6 x7 x9 x10 h)
set_option maxHeartbeats 4000000 in
set_option maxRecDepth 100000 in
theorem T_X9_findRow_74_n {G : xG} {p : Program} {l : Launch} {e : Env} {s : State} {m : MethodId} {args : Array Value} {below : List Frame} {meth : Method} {c : Code} {N : Nat} (C : xC G p s m args meth c cX9_findRow 11 vX9_findRow RX9) (hr : meth.sig.returnType = (some .boolean)) {k62 : Int64 → Int32 → Int64 → Int32 → xHp → Option (Int32 × xHp)} (hk62 : ∀ (x3 : Int64) (x6 : Int32) (x7 : Int64) (x9 : Int32) (h : xHp), J_X9_findRow G p l e s m args below meth c 62 [(0, .ref (xad G 51)), (3, .long x3), (6, .int x6), (7, .long x7), (9, .int x9)] [] h (k62 x3 x6 x7 x9 h)) : ∀ (n : Nat) (x3 : Int64) (x6 : Int32) (x7 : Int64) (x9 : Int32) (x10 : Int32) (h : xHp), J_X9_findRow G p l e s m args below meth c 74 [(0, .ref (xad G 51)), (3, .long x3), (6, .int x6), (7, .long x7), (9, .int x9), (10, .int x10)] [] h (xit (F_X9_findRow_74_b N k62) (fun _ _ _ _ _ _ => none) n x3 x6 x7 x9 x10 h) := by
  intro n
  induction n with
  | zero => intros; exact x_none
  | succ n ih => intros; exact T_X9_findRow_74_b C hr hk62 ih _ _ _ _ _ _
set_option maxHeartbeats 4000000 in
set_option maxRecDepth 100000 in
theorem T_X9_findRow_74 {G : xG} {p : Program} {l : Launch} {e : Env} {s : State} {m : MethodId} {args : Array Value} {below : List Frame} {meth : Method} {c : Code} {N : Nat} (C : xC G p s m args meth c cX9_findRow 11 vX9_findRow RX9) (hr : meth.sig.returnType = (some .boolean)) {k62 : Int64 → Int32 → Int64 → Int32 → xHp → Option (Int32 × xHp)} (hk62 : ∀ (x3 : Int64) (x6 : Int32) (x7 : Int64) (x9 : Int32) (h : xHp), J_X9_findRow G p l e s m args below meth c 62 [(0, .ref (xad G 51)), (3, .long x3), (6, .int x6), (7, .long x7), (9, .int x9)] [] h (k62 x3 x6 x7 x9 h)) (x3 : Int64) (x6 : Int32) (x7 : Int64) (x9 : Int32) (x10 : Int32) (h : xHp) : J_X9_findRow G p l e s m args below meth c 74 [(0, .ref (xad G 51)), (3, .long x3), (6, .int x6), (7, .long x7), (9, .int x9), (10, .int x10)] [] h (F_X9_findRow_74 N k62 x3 x6 x7 x9 x10 h) := T_X9_findRow_74_n C hr hk62 N x3 x6 x7 x9 x10 h
set_option maxHeartbeats 4000000 in
set_option maxRecDepth 100000 in
theorem T_X9_findRow_62_b {G : xG} {p : Program} {l : Launch} {e : Env} {s : State} {m : MethodId} {args : Array Value} {below : List Frame} {meth : Method} {c : Code} {N : Nat} (C : xC G p s m args meth c cX9_findRow 11 vX9_findRow RX9) (hr : meth.sig.returnType = (some .boolean)) {k62 : Int64 → Int32 → Int64 → Int32 → xHp → Option (Int32 × xHp)} (hk62 : ∀ (x3 : Int64) (x6 : Int32) (x7 : Int64) (x9 : Int32) (h : xHp), J_X9_findRow G p l e s m args below meth c 62 [(0, .ref (xad G 51)), (3, .long x3), (6, .int x6), (7, .long x7), (9, .int x9)] [] h (k62 x3 x6 x7 x9 h)) (x3 : Int64) (x6 : Int32) (x7 : Int64) (x9 : Int32) (h : xHp) : J_X9_findRow G p l e s m args below meth c 62 [(0, .ref (xad G 51)), (3, .long x3), (6, .int x6), (7, .long x7), (9, .int x9)] [] h (F_X9_findRow_62_b N k62 x3 x6 x7 x9 h) := by
  unfold F_X9_findRow_62_b
  refine x_iload C dX9_findRow_62 4 rfl ?_
  refine x_aload_n C dX9_findRow_64 rfl 0 rfl ?_
  refine x_get (v := .int (gI h 51 12)) C 12 dX9_findRow_65 (xc_51 G h) rfl (by decide) rfl (fun w h => List.mem_cons_of_mem _ (iWM_X9 w h)) (by decide) rfl (C.2.2.2.2.1 _ (List.mem_cons_of_mem _ qM_20)) ?_
  refine x_icmp_ge (tgt := 213) C dX9_findRow_68 (by decide) ?_ ?_
  · refine x_iconst (v := 1) C dX9_findRow_213 (by decide) ?_
    exact x_zretL C dX9_findRow_214 hr rfl
  · refine x_iconst (v := 0) C dX9_findRow_71 (by decide) ?_
    refine x_istore (lv' := [(10, .int 0), (0, .ref (xad G 51)), (3, .long x3), (6, .int x6), (7, .long x7), (9, .int x9)]) C dX9_findRow_72 (by decide) rfl ?_
    exact x_sub [1, 2, 3, 4, 5, 0] rfl (T_X9_findRow_74 C hr hk62 x3 x6 x7 x9 0 h)
set_option maxHeartbeats 4000000 in
set_option maxRecDepth 100000 in
theorem T_X9_findRow_62_n {G : xG} {p : Program} {l : Launch} {e : Env} {s : State} {m : MethodId} {args : Array Value} {below : List Frame} {meth : Method} {c : Code} {N : Nat} (C : xC G p s m args meth c cX9_findRow 11 vX9_findRow RX9) (hr : meth.sig.returnType = (some .boolean)) : ∀ (n : Nat) (x3 : Int64) (x6 : Int32) (x7 : Int64) (x9 : Int32) (h : xHp), J_X9_findRow G p l e s m args below meth c 62 [(0, .ref (xad G 51)), (3, .long x3), (6, .int x6), (7, .long x7), (9, .int x9)] [] h (xit (F_X9_findRow_62_b N) (fun _ _ _ _ _ => none) n x3 x6 x7 x9 h) := by
  intro n
  induction n with
  | zero => intros; exact x_none
  | succ n ih => intros; exact T_X9_findRow_62_b C hr ih _ _ _ _ _
set_option maxHeartbeats 4000000 in
set_option maxRecDepth 100000 in
theorem T_X9_findRow_62 {G : xG} {p : Program} {l : Launch} {e : Env} {s : State} {m : MethodId} {args : Array Value} {below : List Frame} {meth : Method} {c : Code} {N : Nat} (C : xC G p s m args meth c cX9_findRow 11 vX9_findRow RX9) (hr : meth.sig.returnType = (some .boolean)) (x3 : Int64) (x6 : Int32) (x7 : Int64) (x9 : Int32) (h : xHp) : J_X9_findRow G p l e s m args below meth c 62 [(0, .ref (xad G 51)), (3, .long x3), (6, .int x6), (7, .long x7), (9, .int x9)] [] h (F_X9_findRow_62 N x3 x6 x7 x9 h) := T_X9_findRow_62_n C hr N x3 x6 x7 x9 h
set_option maxHeartbeats 4000000 in
set_option maxRecDepth 100000 in
theorem T_X9_findRow_38 {G : xG} {p : Program} {l : Launch} {e : Env} {s : State} {m : MethodId} {args : Array Value} {below : List Frame} {meth : Method} {c : Code} {N : Nat} (C : xC G p s m args meth c cX9_findRow 11 vX9_findRow RX9) (hr : meth.sig.returnType = (some .boolean)) (x1 : Int32) (x3 : Int64) (x5 : Int32) (h : xHp) : J_X9_findRow G p l e s m args below meth c 38 [(0, .ref (xad G 51)), (1, .int x1), (3, .long x3), (5, .int x5)] [] h (F_X9_findRow_38 N x1 x3 x5 h) := by
  unfold F_X9_findRow_38
  refine x_iload C dX9_findRow_38 3 rfl ?_
  refine x_bipush (v := 16) C dX9_findRow_40 (by decide) ?_
  refine x_icmp_le (tgt := 47) C dX9_findRow_42 (by decide) ?_ ?_
  · refine x_aload_n C dX9_findRow_47 rfl 0 rfl ?_
    refine x_iload C dX9_findRow_48 3 rfl ?_
    refine x_putI (ty0 := tyX9) (ty := .int) C 12 dX9_findRow_50 (xc_51 G h) rfl (Nat.le_of_ble_eq_true rfl) (by decide) rfl (fun w h => List.mem_cons_of_mem _ (iWM_X9 w h)) tyX9_ok nmX9 (by decide) rfl rfl (by decide +kernel) rfl rfl (C.2.2.2.2.1 _ (List.mem_cons_of_mem _ qM_20)) (fun h1 => ?_)
    refine x_iload_n C dX9_findRow_53 rfl 1 rfl ?_
    refine x_istore (lv' := [(6, .int x1), (0, .ref (xad G 51)), (1, .int x1), (3, .long x3), (5, .int x5)]) C dX9_findRow_54 (by decide) rfl ?_
    refine x_lconst (v := 0) C dX9_findRow_56 (by decide) ?_
    refine x_lstore (lv' := [(7, .long 0), (6, .int x1), (0, .ref (xad G 51)), (1, .int x1), (3, .long x3), (5, .int x5)]) C dX9_findRow_57 (by decide) rfl ?_
    refine x_iconst (v := 0) C dX9_findRow_59 (by decide) ?_
    refine x_istore (lv' := [(9, .int 0), (7, .long 0), (6, .int x1), (0, .ref (xad G 51)), (1, .int x1), (3, .long x3), (5, .int x5)]) C dX9_findRow_60 (by decide) rfl ?_
    exact x_sub [3, 5, 2, 1, 0] rfl (T_X9_findRow_62 C hr x3 x1 0 0 h1)
  · refine x_iconst (v := 0) C dX9_findRow_45 (by decide) ?_
    exact x_zretL C dX9_findRow_46 hr rfl
set_option maxHeartbeats 4000000 in
set_option maxRecDepth 100000 in
theorem T_X9_findRow_8_b {G : xG} {p : Program} {l : Launch} {e : Env} {s : State} {m : MethodId} {args : Array Value} {below : List Frame} {meth : Method} {c : Code} {N : Nat} (C : xC G p s m args meth c cX9_findRow 11 vX9_findRow RX9) (hr : meth.sig.returnType = (some .boolean)) {k8 : Int32 → Int64 → Int32 → xHp → Option (Int32 × xHp)} (hk8 : ∀ (x1 : Int32) (x3 : Int64) (x5 : Int32) (h : xHp), J_X9_findRow G p l e s m args below meth c 8 [(0, .ref (xad G 51)), (1, .int x1), (3, .long x3), (5, .int x5)] [] h (k8 x1 x3 x5 h)) (x1 : Int32) (x3 : Int64) (x5 : Int32) (h : xHp) : J_X9_findRow G p l e s m args below meth c 8 [(0, .ref (xad G 51)), (1, .int x1), (3, .long x3), (5, .int x5)] [] h (F_X9_findRow_8_b N k8 x1 x3 x5 h) := by
  unfold F_X9_findRow_8_b
  refine x_iload C dX9_findRow_8 3 rfl ?_
  refine x_bipush (v := 16) C dX9_findRow_10 (by decide) ?_
  refine x_icmp_gt (tgt := 38) C dX9_findRow_12 (by decide) ?_ ?_
  · exact x_sub [0, 1, 2, 3] rfl (T_X9_findRow_38 C hr x1 x3 x5 h)
  · refine x_aload_n C dX9_findRow_15 rfl 0 rfl ?_
    refine x_get (v := .ref (xad G 58)) C 10 dX9_findRow_16 (xc_51 G h) rfl (by decide) rfl (fun w h => List.mem_cons_of_mem _ (iWM_X9 w h)) (by decide) rfl (C.2.2.2.2.1 _ (List.mem_cons_of_mem _ qM_14)) ?_
    refine x_bipush (v := 16) C dX9_findRow_19 (by decide) ?_
    refine x_iload C dX9_findRow_21 3 rfl ?_
    refine x_imul C dX9_findRow_23 ?_
    refine x_iload_n C dX9_findRow_24 rfl 1 rfl ?_
    refine x_iadd C dX9_findRow_25 ?_
    refine x_lald (n := 272) C dX9_findRow_26 (xc_58 G h) (by decide) ?_
    refine x_lload_n C dX9_findRow_27 rfl 2 rfl ?_
    refine x_lcmp C dX9_findRow_28 ?_
    refine x_if_le (tgt := 38) C dX9_findRow_29 (by decide) ?_ ?_
    · exact x_sub [0, 1, 2, 3] rfl (T_X9_findRow_38 C hr x1 x3 x5 h)
    · refine x_iinc (v := (x5 + 1)) (j := 3) (lv' := [(5, .int (x5 + 1)), (0, .ref (xad G 51)), (1, .int x1), (3, .long x3)]) C dX9_findRow_32 rfl (by rfl) (by decide) rfl ?_
      refine x_goto (tgt := 8) C dX9_findRow_35 (by decide) ?_
      exact x_sub [1, 2, 3, 0] rfl (hk8 x1 x3 (x5 + 1) h)
set_option maxHeartbeats 4000000 in
set_option maxRecDepth 100000 in
theorem T_X9_findRow_8_n {G : xG} {p : Program} {l : Launch} {e : Env} {s : State} {m : MethodId} {args : Array Value} {below : List Frame} {meth : Method} {c : Code} {N : Nat} (C : xC G p s m args meth c cX9_findRow 11 vX9_findRow RX9) (hr : meth.sig.returnType = (some .boolean)) : ∀ (n : Nat) (x1 : Int32) (x3 : Int64) (x5 : Int32) (h : xHp), J_X9_findRow G p l e s m args below meth c 8 [(0, .ref (xad G 51)), (1, .int x1), (3, .long x3), (5, .int x5)] [] h (xit (F_X9_findRow_8_b N) (fun _ _ _ _ => none) n x1 x3 x5 h) := by
  intro n
  induction n with
  | zero => intros; exact x_none
  | succ n ih => intros; exact T_X9_findRow_8_b C hr ih _ _ _ _
set_option maxHeartbeats 4000000 in
set_option maxRecDepth 100000 in
theorem T_X9_findRow_8 {G : xG} {p : Program} {l : Launch} {e : Env} {s : State} {m : MethodId} {args : Array Value} {below : List Frame} {meth : Method} {c : Code} {N : Nat} (C : xC G p s m args meth c cX9_findRow 11 vX9_findRow RX9) (hr : meth.sig.returnType = (some .boolean)) (x1 : Int32) (x3 : Int64) (x5 : Int32) (h : xHp) : J_X9_findRow G p l e s m args below meth c 8 [(0, .ref (xad G 51)), (1, .int x1), (3, .long x3), (5, .int x5)] [] h (F_X9_findRow_8 N x1 x3 x5 h) := T_X9_findRow_8_n C hr N x1 x3 x5 h
set_option maxHeartbeats 4000000 in
set_option maxRecDepth 100000 in
theorem M_X9_findRow (G : xG) (l : Launch) (N : Nat) (p1 : Int32) (p2 : Int32) (p3 : Int64) (h : xHp) : ∀ r, F_X9_findRow N p1 p2 p3 h = some r → Met l yX9_findRow vX9_findRow ({ frames := 1, cells := 0, slots := 0, locals := 26 } : Room) (xPc G [.ref (xad G 51), .int p1, .int p2, .long p3] h) (xQi G r) 0 0 (xA G) := by
  refine x_met (own := RX9) (cc := cX9_findRow) (maxL := 11) (ret := (some .boolean)) (lv0 := [(0, .ref (xad G 51)), (1, .int p1), (2, .int p2), (3, .long p3)]) (by decide +kernel) rfl rfl (Nat.le_of_ble_eq_true rfl) rfl ?_
  intro p e s m below meth c C hr
  unfold F_X9_findRow
  refine x_aload_n C dX9_findRow_0 rfl 0 rfl ?_
  refine x_iload_n C dX9_findRow_1 rfl 2 rfl ?_
  refine x_callVv C dX9_findRow_2 (M_X9_findLeast G l N p2 h) (cwV 1 C.2.2.2.2.1 (gdV gWM qM_22 qM_23 qM_24 qM_9 qM_13) rfl rfl rfl (by decide +kernel) ⟨Nat.le_of_ble_eq_true rfl, Nat.le_of_ble_eq_true rfl⟩) (xc_51 G h) (by decide) rfl rfl rfl (Nat.le_of_ble_eq_true rfl) (fun r1 h2 => ?_)
  refine x_iconst (v := 0) C dX9_findRow_5 (by decide) ?_
  refine x_istore (lv' := [(5, .int 0), (0, .ref (xad G 51)), (1, .int p1), (2, .int p2), (3, .long p3)]) C dX9_findRow_6 (by decide) rfl ?_
  exact x_sub [1, 2, 4, 0] rfl (T_X9_findRow_8 C hr p1 p3 0 h2)
/-! X9_add: 99 instructions -/
abbrev J_X9_add (G : xG) (p : Program) (l : Launch) (e : Env) (s : State) (m : MethodId) (args : Array Value) (below : List Frame) (meth : Method) (c : Code) : Nat → List (Nat × Value) → List Value → xHp → Option (Int32 × xHp) → Prop := xJ G p l e ({ frames := 2, cells := 0, slots := 0, locals := 56 } : Room) s m args below meth c 5 (fun res => MQ below (xQi G res) args s 0 0 (xA G))
def F_X9_add_94_b (N : Nat) (k94 : Int32 → xHp → Option (Int32 × xHp)) (x4 : Int32) (h : xHp) : Option (Int32 × xHp) := if (gI h 51 12) ≤ x4 then some ((-1), h) else grd (xin x4 20) (grd (xin (1 + x4) 20) (bnd (sI h 57 (1 + x4).toNatClampNeg (gI h 59 x4.toNatClampNeg)) fun h1 => k94 (x4 + 1) h1))
def F_X9_add_94 (N : Nat) (x4 : Int32) (h : xHp) : Option (Int32 × xHp) := xit (F_X9_add_94_b N) (fun _ _ => none) N x4 h
def F_X9_add_47 (N : Nat) (x1 : Int32) (x2 : Int32) (x3 : Int32) (s3 : Int32) (s2 : Int32) (s1 : Int32) (h : xHp) : Option (Int32 × xHp) := bnd2 (F_X9_may N s1 s2 s3 h) fun r1 h2 => if r1 = 0 then some (0, h2) else bnd2 (F_X9_constraintsAlone N h2) fun r3 h4 => bnd2 (F_X9_findRow N x2 x1 ((-1) - (x3.toInt64)) h4) fun r5 h6 => if r5 = 0 then grd (xin (gI h6 51 1) 70) (bnd (sI h6 52 (gI h6 51 1).toNatClampNeg x1) fun h7 => grd (xin (gI h7 51 1) 70) (bnd (sI h7 53 (gI h7 51 1).toNatClampNeg x2) fun h8 => grd (xin (gI h8 51 1) 70) (bnd (sI h8 54 (gI h8 51 1).toNatClampNeg x3) fun h9 => bnd (sI h9 51 1 ((gI h9 51 1) + 1)) fun h10 => some (((gI h10 51 1) - 1), h10)))) else bnd (sI h6 51 8 (1 + (gI h6 51 12))) fun h11 => grd (xin 0 20) (bnd (sI h11 57 (0 : Int32).toNatClampNeg (-1)) fun h12 => F_X9_add_94 N 0 h12)
def F_X9_add_22 (N : Nat) (x1 : Int32) (x2 : Int32) (x3 : Int32) (s1 : Int32) (h : xHp) : Option (Int32 × xHp) := bnd2 (F_X9_isIn N (x3.toInt64) (-1000000) 1000000 h) fun r1 h2 => if (60 : Int32) ≤ (gI h2 51 1) then F_X9_add_47 N x1 x2 x3 0 r1 s1 h2 else F_X9_add_47 N x1 x2 x3 1 r1 s1 h2
def F_X9_add_21 (N : Nat) (x1 : Int32) (x2 : Int32) (x3 : Int32) (h : xHp) : Option (Int32 × xHp) := F_X9_add_22 N x1 x2 x3 0 h
def F_X9_add (N : Nat) (p1 : Int32) (p2 : Int32) (p3 : Int32) (h : xHp) : Option (Int32 × xHp) := bnd2 (F_X9_isVariable N p1 h) fun r1 h2 => if r1 = 0 then F_X9_add_21 N p1 p2 p3 h2 else bnd2 (F_X9_isVariable N p2 h2) fun r3 h4 => if r3 = 0 then F_X9_add_21 N p1 p2 p3 h4 else F_X9_add_22 N p1 p2 p3 1 h4
set_option maxHeartbeats 4000000 in
set_option maxRecDepth 100000 in
theorem T_X9_add_94_b {G : xG} {p : Program} {l : Launch} {e : Env} {s : State} {m : MethodId} {args : Array Value} {below : List Frame} {meth : Method} {c : Code} {N : Nat} (C : xC G p s m args meth c cX9_add 5 vX9_add RX9) (hr : meth.sig.returnType = (some .int)) {k94 : Int32 → xHp → Option (Int32 × xHp)} (hk94 : ∀ (x4 : Int32) (h : xHp), J_X9_add G p l e s m args below meth c 94 [(0, .ref (xad G 51)), (4, .int x4)] [] h (k94 x4 h)) (x4 : Int32) (h : xHp) : J_X9_add G p l e s m args below meth c 94 [(0, .ref (xad G 51)), (4, .int x4)] [] h (F_X9_add_94_b N k94 x4 h) := by
  unfold F_X9_add_94_b
  refine x_iload C dX9_add_94 1 rfl ?_
  refine x_aload_n C dX9_add_96 rfl 0 rfl ?_
  refine x_get (v := .int (gI h 51 12)) C 12 dX9_add_97 (xc_51 G h) rfl (by decide) rfl (fun w h => List.mem_cons_of_mem _ (iWM_X9 w h)) (by decide) rfl (C.2.2.2.2.1 _ (List.mem_cons_of_mem _ qM_20)) ?_
  refine x_icmp_ge (tgt := 125) C dX9_add_100 (by decide) ?_ ?_
  · refine x_iconst (v := (-1)) C dX9_add_125 (by decide) ?_
    exact x_iret C dX9_add_126 hr
  · refine x_aload_n C dX9_add_103 rfl 0 rfl ?_
    refine x_get (v := .ref (xad G 57)) C 9 dX9_add_104 (xc_51 G h) rfl (by decide) rfl (fun w h => List.mem_cons_of_mem _ (iWM_X9 w h)) (by decide) rfl (C.2.2.2.2.1 _ (List.mem_cons_of_mem _ qM_29)) ?_
    refine x_iconst (v := 1) C dX9_add_107 (by decide) ?_
    refine x_iload C dX9_add_108 1 rfl ?_
    refine x_iadd C dX9_add_110 ?_
    refine x_aload_n C dX9_add_111 rfl 0 rfl ?_
    refine x_get (v := .ref (xad G 59)) C 11 dX9_add_112 (xc_51 G h) rfl (by decide) rfl (fun w h => List.mem_cons_of_mem _ (iWM_X9 w h)) (by decide) rfl (C.2.2.2.2.1 _ (List.mem_cons_of_mem _ qM_21)) ?_
    refine x_iload C dX9_add_115 1 rfl ?_
    refine x_iald (n := 20) C dX9_add_117 (xc_59 G h) (by decide) ?_
    refine x_iast (n := 20) C dX9_add_118 (fun g => xp_57 G g _ _) (by decide) (fun h1 => ?_)
    refine x_iinc (v := (x4 + 1)) (j := 1) (lv' := [(4, .int (x4 + 1)), (0, .ref (xad G 51))]) C dX9_add_119 rfl (by rfl) (by decide) rfl ?_
    refine x_goto (tgt := 94) C dX9_add_122 (by decide) ?_
    exact x_sub [1, 0] rfl (hk94 (x4 + 1) h1)
set_option maxHeartbeats 4000000 in
set_option maxRecDepth 100000 in
theorem T_X9_add_94_n {G : xG} {p : Program} {l : Launch} {e : Env} {s : State} {m : MethodId} {args : Array Value} {below : List Frame} {meth : Method} {c : Code} {N : Nat} (C : xC G p s m args meth c cX9_add 5 vX9_add RX9) (hr : meth.sig.returnType = (some .int)) : ∀ (n : Nat) (x4 : Int32) (h : xHp), J_X9_add G p l e s m args below meth c 94 [(0, .ref (xad G 51)), (4, .int x4)] [] h (xit (F_X9_add_94_b N) (fun _ _ => none) n x4 h) := by
  intro n
  induction n with
  | zero => intros; exact x_none
  | succ n ih => intros; exact T_X9_add_94_b C hr ih _ _
set_option maxHeartbeats 4000000 in
set_option maxRecDepth 100000 in
theorem T_X9_add_94 {G : xG} {p : Program} {l : Launch} {e : Env} {s : State} {m : MethodId} {args : Array Value} {below : List Frame} {meth : Method} {c : Code} {N : Nat} (C : xC G p s m args meth c cX9_add 5 vX9_add RX9) (hr : meth.sig.returnType = (some .int)) (x4 : Int32) (h : xHp) : J_X9_add G p l e s m args below meth c 94 [(0, .ref (xad G 51)), (4, .int x4)] [] h (F_X9_add_94 N x4 h) := T_X9_add_94_n C hr N x4 h
set_option maxHeartbeats 4000000 in
set_option maxRecDepth 100000 in
theorem T_X9_add_47 {G : xG} {p : Program} {l : Launch} {e : Env} {s : State} {m : MethodId} {args : Array Value} {below : List Frame} {meth : Method} {c : Code} {N : Nat} (C : xC G p s m args meth c cX9_add 5 vX9_add RX9) (hr : meth.sig.returnType = (some .int)) (x1 : Int32) (x2 : Int32) (x3 : Int32) (s3 : Int32) (s2 : Int32) (s1 : Int32) (h : xHp) : J_X9_add G p l e s m args below meth c 47 [(0, .ref (xad G 51)), (1, .int x1), (2, .int x2), (3, .int x3)] [.int s3, .int s2, .int s1, .ref (xad G 51)] h (F_X9_add_47 N x1 x2 x3 s3 s2 s1 h) := by
  unfold F_X9_add_47
  refine x_callVi C dX9_add_47 (M_X9_may G l N s1 s2 s3 h) (cwV 3 C.2.2.2.2.1 (gdV gWM qM_33 qM_34 qM_35 qM_9 qM_4) rfl rfl rfl (by decide +kernel) ⟨Nat.le_of_ble_eq_true rfl, Nat.le_of_ble_eq_true rfl⟩) (xc_51 G h) (by decide) rfl rfl rfl (Nat.le_of_ble_eq_true rfl) (fun r1 h2 => ?_)
  refine x_if_ne (tgt := 55) C dX9_add_50 (by decide) ?_ ?_
  · refine x_iconst (v := 0) C dX9_add_53 (by decide) ?_
    exact x_iret C dX9_add_54 hr
  · refine x_aload_n C dX9_add_55 rfl 0 rfl ?_
    refine x_callVv C dX9_add_56 (M_X9_constraintsAlone G l N h2) (cwV 0 C.2.2.2.2.1 (gdV gWM qM_36 qM_37 qM_38 qM_9 qM_10) rfl rfl rfl (by decide +kernel) ⟨Nat.le_of_ble_eq_true rfl, Nat.le_of_ble_eq_true rfl⟩) (xc_51 G h2) (by decide) rfl rfl rfl (Nat.le_of_ble_eq_true rfl) (fun r3 h4 => ?_)
    refine x_aload_n C dX9_add_59 rfl 0 rfl ?_
    refine x_iload_n C dX9_add_60 rfl 2 rfl ?_
    refine x_iload_n C dX9_add_61 rfl 1 rfl ?_
    refine x_ldc2 (v := (-1)) C dX9_add_62 (C.2.2.2.2.1 _ (List.mem_cons_of_mem _ qM_27)) ?_
    refine x_iload_n C dX9_add_65 rfl 3 rfl ?_
    refine x_i2l C dX9_add_66 ?_
    refine x_lsub C dX9_add_67 ?_
    refine x_callVi C dX9_add_68 (M_X9_findRow G l N x2 x1 ((-1) - (x3.toInt64)) h4) (cwV 3 C.2.2.2.2.1 (gdV gWM qM_39 qM_40 qM_41 qM_9 qM_19) rfl rfl rfl (by decide +kernel) ⟨Nat.le_of_ble_eq_true rfl, Nat.le_of_ble_eq_true rfl⟩) (xc_51 G h4) (by decide) rfl rfl rfl (Nat.le_of_ble_eq_true rfl) (fun r5 h6 => ?_)
    refine x_if_eq (tgt := 127) C dX9_add_71 (by decide) ?_ ?_
    · refine x_aload_n C dX9_add_127 rfl 0 rfl ?_
      refine x_get (v := .ref (xad G 52)) C 2 dX9_add_128 (xc_51 G h6) rfl (by decide) rfl (fun w h => List.mem_cons_of_mem _ (iWM_X9 w h)) (by decide) rfl (C.2.2.2.2.1 _ (List.mem_cons_of_mem _ qM_18)) ?_
      refine x_aload_n C dX9_add_131 rfl 0 rfl ?_
      refine x_get (v := .int (gI h6 51 1)) C 1 dX9_add_132 (xc_51 G h6) rfl (by decide) rfl (fun w h => List.mem_cons_of_mem _ (iWM_X9 w h)) (by decide) rfl (C.2.2.2.2.1 _ (List.mem_cons_of_mem _ qM_12)) ?_
      refine x_iload_n C dX9_add_135 rfl 1 rfl ?_
      refine x_iast (n := 70) C dX9_add_136 (fun g => xp_52 G g _ _) (by decide) (fun h7 => ?_)
      refine x_aload_n C dX9_add_137 rfl 0 rfl ?_
      refine x_get (v := .ref (xad G 53)) C 3 dX9_add_138 (xc_51 G h7) rfl (by decide) rfl (fun w h => List.mem_cons_of_mem _ (iWM_X9 w h)) (by decide) rfl (C.2.2.2.2.1 _ (List.mem_cons_of_mem _ qM_16)) ?_
      refine x_aload_n C dX9_add_141 rfl 0 rfl ?_
      refine x_get (v := .int (gI h7 51 1)) C 1 dX9_add_142 (xc_51 G h7) rfl (by decide) rfl (fun w h => List.mem_cons_of_mem _ (iWM_X9 w h)) (by decide) rfl (C.2.2.2.2.1 _ (List.mem_cons_of_mem _ qM_12)) ?_
      refine x_iload_n C dX9_add_145 rfl 2 rfl ?_
      refine x_iast (n := 70) C dX9_add_146 (fun g => xp_53 G g _ _) (by decide) (fun h8 => ?_)
      refine x_aload_n C dX9_add_147 rfl 0 rfl ?_
      refine x_get (v := .ref (xad G 54)) C 4 dX9_add_148 (xc_51 G h8) rfl (by decide) rfl (fun w h => List.mem_cons_of_mem _ (iWM_X9 w h)) (by decide) rfl (C.2.2.2.2.1 _ (List.mem_cons_of_mem _ qM_17)) ?_
      refine x_aload_n C dX9_add_151 rfl 0 rfl ?_
      refine x_get (v := .int (gI h8 51 1)) C 1 dX9_add_152 (xc_51 G h8) rfl (by decide) rfl (fun w h => List.mem_cons_of_mem _ (iWM_X9 w h)) (by decide) rfl (C.2.2.2.2.1 _ (List.mem_cons_of_mem _ qM_12)) ?_
      refine x_iload_n C dX9_add_155 rfl 3 rfl ?_
      refine x_iast (n := 70) C dX9_add_156 (fun g => xp_54 G g _ _) (by decide) (fun h9 => ?_)
      refine x_aload_n C dX9_add_157 rfl 0 rfl ?_
      refine x_dup C dX9_add_158 rfl ?_
      refine x_get (v := .int (gI h9 51 1)) C 1 dX9_add_159 (xc_51 G h9) rfl (by decide) rfl (fun w h => List.mem_cons_of_mem _ (iWM_X9 w h)) (by decide) rfl (C.2.2.2.2.1 _ (List.mem_cons_of_mem _ qM_12)) ?_
      refine x_iconst (v := 1) C dX9_add_162 (by decide) ?_
      refine x_iadd C dX9_add_163 ?_
      refine x_putI (ty0 := tyX9) (ty := .int) C 1 dX9_add_164 (xc_51 G h9) rfl (Nat.le_of_ble_eq_true rfl) (by decide) rfl (fun w h => List.mem_cons_of_mem _ (iWM_X9 w h)) tyX9_ok nmX9 (by decide) rfl rfl (by decide +kernel) rfl rfl (C.2.2.2.2.1 _ (List.mem_cons_of_mem _ qM_12)) (fun h10 => ?_)
      refine x_aload_n C dX9_add_167 rfl 0 rfl ?_
      refine x_get (v := .int (gI h10 51 1)) C 1 dX9_add_168 (xc_51 G h10) rfl (by decide) rfl (fun w h => List.mem_cons_of_mem _ (iWM_X9 w h)) (by decide) rfl (C.2.2.2.2.1 _ (List.mem_cons_of_mem _ qM_12)) ?_
      refine x_iconst (v := 1) C dX9_add_171 (by decide) ?_
      refine x_isub C dX9_add_172 ?_
      exact x_iret C dX9_add_173 hr
    · refine x_aload_n C dX9_add_74 rfl 0 rfl ?_
      refine x_iconst (v := 1) C dX9_add_75 (by decide) ?_
      refine x_aload_n C dX9_add_76 rfl 0 rfl ?_
      refine x_get (v := .int (gI h6 51 12)) C 12 dX9_add_77 (xc_51 G h6) rfl (by decide) rfl (fun w h => List.mem_cons_of_mem _ (iWM_X9 w h)) (by decide) rfl (C.2.2.2.2.1 _ (List.mem_cons_of_mem _ qM_20)) ?_
      refine x_iadd C dX9_add_80 ?_
      refine x_putI (ty0 := tyX9) (ty := .int) C 8 dX9_add_81 (xc_51 G h6) rfl (Nat.le_of_ble_eq_true rfl) (by decide) rfl (fun w h => List.mem_cons_of_mem _ (iWM_X9 w h)) tyX9_ok nmX9 (by decide) rfl rfl (by decide +kernel) rfl rfl (C.2.2.2.2.1 _ (List.mem_cons_of_mem _ qM_28)) (fun h11 => ?_)
      refine x_aload_n C dX9_add_84 rfl 0 rfl ?_
      refine x_get (v := .ref (xad G 57)) C 9 dX9_add_85 (xc_51 G h11) rfl (by decide) rfl (fun w h => List.mem_cons_of_mem _ (iWM_X9 w h)) (by decide) rfl (C.2.2.2.2.1 _ (List.mem_cons_of_mem _ qM_29)) ?_
      refine x_iconst (v := 0) C dX9_add_88 (by decide) ?_
      refine x_iconst (v := (-1)) C dX9_add_89 (by decide) ?_
      refine x_iast (n := 20) C dX9_add_90 (fun g => xp_57 G g _ _) (by decide) (fun h12 => ?_)
      refine x_iconst (v := 0) C dX9_add_91 (by decide) ?_
      refine x_istore (lv' := [(4, .int 0), (0, .ref (xad G 51)), (1, .int x1), (2, .int x2), (3, .int x3)]) C dX9_add_92 (by decide) rfl ?_
      exact x_sub [1, 0] rfl (T_X9_add_94 C hr 0 h12)
set_option maxHeartbeats 4000000 in
set_option maxRecDepth 100000 in
theorem T_X9_add_22 {G : xG} {p : Program} {l : Launch} {e : Env} {s : State} {m : MethodId} {args : Array Value} {below : List Frame} {meth : Method} {c : Code} {N : Nat} (C : xC G p s m args meth c cX9_add 5 vX9_add RX9) (hr : meth.sig.returnType = (some .int)) (x1 : Int32) (x2 : Int32) (x3 : Int32) (s1 : Int32) (h : xHp) : J_X9_add G p l e s m args below meth c 22 [(0, .ref (xad G 51)), (1, .int x1), (2, .int x2), (3, .int x3)] [.int s1, .ref (xad G 51)] h (F_X9_add_22 N x1 x2 x3 s1 h) := by
  unfold F_X9_add_22
  refine x_iload_n C dX9_add_22 rfl 3 rfl ?_
  refine x_i2l C dX9_add_23 ?_
  refine x_ldc2 (v := (-1000000)) C dX9_add_24 (C.2.2.2.2.1 _ (List.mem_cons_of_mem _ qM_25)) ?_
  refine x_ldc2 (v := 1000000) C dX9_add_27 (C.2.2.2.2.1 _ (List.mem_cons_of_mem _ qM_26)) ?_
  refine x_callSi C dX9_add_30 (M_X9_isIn G l N (x3.toInt64) (-1000000) 1000000 h) (va_cwS 3 C.2.2.2.2.1 (gdS gWM qM_7 qM_8 qM_9 qM_3) rfl rfl rfl (by decide +kernel) ⟨Nat.le_of_ble_eq_true rfl, Nat.le_of_ble_eq_true rfl⟩) rfl rfl (Nat.le_of_ble_eq_true rfl) (fun r1 h2 => ?_)
  refine x_aload_n C dX9_add_33 rfl 0 rfl ?_
  refine x_get (v := .int (gI h2 51 1)) C 1 dX9_add_34 (xc_51 G h2) rfl (by decide) rfl (fun w h => List.mem_cons_of_mem _ (iWM_X9 w h)) (by decide) rfl (C.2.2.2.2.1 _ (List.mem_cons_of_mem _ qM_12)) ?_
  refine x_bipush (v := 60) C dX9_add_37 (by decide) ?_
  refine x_icmp_ge (tgt := 46) C dX9_add_39 (by decide) ?_ ?_
  · refine x_iconst (v := 0) C dX9_add_46 (by decide) ?_
    exact x_sub [0, 1, 2, 3] rfl (T_X9_add_47 C hr x1 x2 x3 0 r1 s1 h2)
  · refine x_iconst (v := 1) C dX9_add_42 (by decide) ?_
    refine x_goto (tgt := 47) C dX9_add_43 (by decide) ?_
    exact x_sub [0, 1, 2, 3] rfl (T_X9_add_47 C hr x1 x2 x3 1 r1 s1 h2)
set_option maxHeartbeats 4000000 in
set_option maxRecDepth 100000 in
theorem T_X9_add_21 {G : xG} {p : Program} {l : Launch} {e : Env} {s : State} {m : MethodId} {args : Array Value} {below : List Frame} {meth : Method} {c : Code} {N : Nat} (C : xC G p s m args meth c cX9_add 5 vX9_add RX9) (hr : meth.sig.returnType = (some .int)) (x1 : Int32) (x2 : Int32) (x3 : Int32) (h : xHp) : J_X9_add G p l e s m args below meth c 21 [(0, .ref (xad G 51)), (1, .int x1), (2, .int x2), (3, .int x3)] [.ref (xad G 51)] h (F_X9_add_21 N x1 x2 x3 h) := by
  unfold F_X9_add_21
  refine x_iconst (v := 0) C dX9_add_21 (by decide) ?_
  exact x_sub [0, 1, 2, 3] rfl (T_X9_add_22 C hr x1 x2 x3 0 h)
set_option maxHeartbeats 4000000 in
set_option maxRecDepth 100000 in
theorem M_X9_add (G : xG) (l : Launch) (N : Nat) (p1 : Int32) (p2 : Int32) (p3 : Int32) (h : xHp) : ∀ r, F_X9_add N p1 p2 p3 h = some r → Met l yX9_add vX9_add ({ frames := 2, cells := 0, slots := 0, locals := 56 } : Room) (xPc G [.ref (xad G 51), .int p1, .int p2, .int p3] h) (xQi G r) 0 0 (xA G) := by
  refine x_met (own := RX9) (cc := cX9_add) (maxL := 5) (ret := (some .int)) (lv0 := [(0, .ref (xad G 51)), (1, .int p1), (2, .int p2), (3, .int p3)]) (by decide +kernel) rfl rfl (Nat.le_of_ble_eq_true rfl) rfl ?_
  intro p e s m below meth c C hr
  unfold F_X9_add
  refine x_aload_n C dX9_add_0 rfl 0 rfl ?_
  refine x_aload_n C dX9_add_1 rfl 0 rfl ?_
  refine x_iload_n C dX9_add_2 rfl 1 rfl ?_
  refine x_callVi C dX9_add_3 (M_X9_isVariable G l N p1 h) (cwV 1 C.2.2.2.2.1 (gdV gWM qM_30 qM_31 qM_32 qM_9 qM_5) rfl rfl rfl (by decide +kernel) ⟨Nat.le_of_ble_eq_true rfl, Nat.le_of_ble_eq_true rfl⟩) (xc_51 G h) (by decide) rfl rfl rfl (Nat.le_of_ble_eq_true rfl) (fun r1 h2 => ?_)
  refine x_if_eq (tgt := 21) C dX9_add_6 (by decide) ?_ ?_
  · exact x_sub [0, 1, 2, 3] rfl (T_X9_add_21 C hr p1 p2 p3 h2)
  · refine x_aload_n C dX9_add_9 rfl 0 rfl ?_
    refine x_iload_n C dX9_add_10 rfl 2 rfl ?_
    refine x_callVi C dX9_add_11 (M_X9_isVariable G l N p2 h2) (cwV 1 C.2.2.2.2.1 (gdV gWM qM_30 qM_31 qM_32 qM_9 qM_5) rfl rfl rfl (by decide +kernel) ⟨Nat.le_of_ble_eq_true rfl, Nat.le_of_ble_eq_true rfl⟩) (xc_51 G h2) (by decide) rfl rfl rfl (Nat.le_of_ble_eq_true rfl) (fun r3 h4 => ?_)
    refine x_if_eq (tgt := 21) C dX9_add_14 (by decide) ?_ ?_
    · exact x_sub [0, 1, 2, 3] rfl (T_X9_add_21 C hr p1 p2 p3 h4)
    · refine x_iconst (v := 1) C dX9_add_17 (by decide) ?_
      refine x_goto (tgt := 22) C dX9_add_18 (by decide) ?_
      exact x_sub [0, 1, 2, 3] rfl (T_X9_add_22 C hr p1 p2 p3 1 h4)
/-! X9_push: 30 instructions -/
abbrev J_X9_push (G : xG) (p : Program) (l : Launch) (e : Env) (s : State) (m : MethodId) (args : Array Value) (below : List Frame) (meth : Method) (c : Code) : Nat → List (Nat × Value) → List Value → xHp → Option (Int32 × xHp) → Prop := xJ G p l e ({ frames := 1, cells := 0, slots := 0, locals := 23 } : Room) s m args below meth c 1 (fun res => MQ below (xQi G res) args s 0 0 (xA G))
def F_X9_push_15 (N : Nat) (s1 : Int32) (h : xHp) : Option (Int32 × xHp) := bnd2 (F_X9_may N s1 1 1 h) fun r1 h2 => if r1 = 0 then some (0, h2) else grd (xin (gI h2 51 6) 20) (bnd (sI h2 56 (gI h2 51 6).toNatClampNeg (gI h2 51 1)) fun h3 => bnd (sI h3 51 6 ((gI h3 51 6) + 1)) fun h4 => some ((gI h4 51 6), h4))
def F_X9_push (N : Nat) (h : xHp) : Option (Int32 × xHp) := if (20 : Int32) ≤ (gI h 51 6) then F_X9_push_15 N 0 h else F_X9_push_15 N 1 h
set_option maxHeartbeats 4000000 in
set_option maxRecDepth 100000 in
theorem T_X9_push_15 {G : xG} {p : Program} {l : Launch} {e : Env} {s : State} {m : MethodId} {args : Array Value} {below : List Frame} {meth : Method} {c : Code} {N : Nat} (C : xC G p s m args meth c cX9_push 1 vX9_push RX9) (hr : meth.sig.returnType = (some .int)) (s1 : Int32) (h : xHp) : J_X9_push G p l e s m args below meth c 15 [(0, .ref (xad G 51))] [.int s1, .ref (xad G 51)] h (F_X9_push_15 N s1 h) := by
  unfold F_X9_push_15
  refine x_iconst (v := 1) C dX9_push_15 (by decide) ?_
  refine x_iconst (v := 1) C dX9_push_16 (by decide) ?_
  refine x_callVi C dX9_push_17 (M_X9_may G l N s1 1 1 h) (cwV 3 C.2.2.2.2.1 (gdV gWM qM_33 qM_34 qM_35 qM_9 qM_4) rfl rfl rfl (by decide +kernel) ⟨Nat.le_of_ble_eq_true rfl, Nat.le_of_ble_eq_true rfl⟩) (xc_51 G h) (by decide) rfl rfl rfl (Nat.le_of_ble_eq_true rfl) (fun r1 h2 => ?_)
  refine x_if_ne (tgt := 25) C dX9_push_20 (by decide) ?_ ?_
  · refine x_iconst (v := 0) C dX9_push_23 (by decide) ?_
    exact x_iret C dX9_push_24 hr
  · refine x_aload_n C dX9_push_25 rfl 0 rfl ?_
    refine x_get (v := .ref (xad G 56)) C 7 dX9_push_26 (xc_51 G h2) rfl (by decide) rfl (fun w h => List.mem_cons_of_mem _ (iWM_X9 w h)) (by decide) rfl (C.2.2.2.2.1 _ (List.mem_cons_of_mem _ qM_45)) ?_
    refine x_aload_n C dX9_push_29 rfl 0 rfl ?_
    refine x_get (v := .int (gI h2 51 6)) C 6 dX9_push_30 (xc_51 G h2) rfl (by decide) rfl (fun w h => List.mem_cons_of_mem _ (iWM_X9 w h)) (by decide) rfl (C.2.2.2.2.1 _ (List.mem_cons_of_mem _ qM_44)) ?_
    refine x_aload_n C dX9_push_33 rfl 0 rfl ?_
    refine x_get (v := .int (gI h2 51 1)) C 1 dX9_push_34 (xc_51 G h2) rfl (by decide) rfl (fun w h => List.mem_cons_of_mem _ (iWM_X9 w h)) (by decide) rfl (C.2.2.2.2.1 _ (List.mem_cons_of_mem _ qM_12)) ?_
    refine x_iast (n := 20) C dX9_push_37 (fun g => xp_56 G g _ _) (by decide) (fun h3 => ?_)
    refine x_aload_n C dX9_push_38 rfl 0 rfl ?_
    refine x_dup C dX9_push_39 rfl ?_
    refine x_get (v := .int (gI h3 51 6)) C 6 dX9_push_40 (xc_51 G h3) rfl (by decide) rfl (fun w h => List.mem_cons_of_mem _ (iWM_X9 w h)) (by decide) rfl (C.2.2.2.2.1 _ (List.mem_cons_of_mem _ qM_44)) ?_
    refine x_iconst (v := 1) C dX9_push_43 (by decide) ?_
    refine x_iadd C dX9_push_44 ?_
    refine x_putI (ty0 := tyX9) (ty := .int) C 6 dX9_push_45 (xc_51 G h3) rfl (Nat.le_of_ble_eq_true rfl) (by decide) rfl (fun w h => List.mem_cons_of_mem _ (iWM_X9 w h)) tyX9_ok nmX9 (by decide) rfl rfl (by decide +kernel) rfl rfl (C.2.2.2.2.1 _ (List.mem_cons_of_mem _ qM_44)) (fun h4 => ?_)
    refine x_aload_n C dX9_push_48 rfl 0 rfl ?_
    refine x_get (v := .int (gI h4 51 6)) C 6 dX9_push_49 (xc_51 G h4) rfl (by decide) rfl (fun w h => List.mem_cons_of_mem _ (iWM_X9 w h)) (by decide) rfl (C.2.2.2.2.1 _ (List.mem_cons_of_mem _ qM_44)) ?_
    exact x_iret C dX9_push_52 hr
set_option maxHeartbeats 4000000 in
set_option maxRecDepth 100000 in
theorem M_X9_push (G : xG) (l : Launch) (N : Nat) (h : xHp) : ∀ r, F_X9_push N h = some r → Met l yX9_push vX9_push ({ frames := 1, cells := 0, slots := 0, locals := 23 } : Room) (xPc G [.ref (xad G 51)] h) (xQi G r) 0 0 (xA G) := by
  refine x_met (own := RX9) (cc := cX9_push) (maxL := 1) (ret := (some .int)) (lv0 := [(0, .ref (xad G 51))]) (by decide +kernel) rfl rfl (Nat.le_of_ble_eq_true rfl) rfl ?_
  intro p e s m below meth c C hr
  unfold F_X9_push
  refine x_aload_n C dX9_push_0 rfl 0 rfl ?_
  refine x_aload_n C dX9_push_1 rfl 0 rfl ?_
  refine x_get (v := .int (gI h 51 6)) C 6 dX9_push_2 (xc_51 G h) rfl (by decide) rfl (fun w h => List.mem_cons_of_mem _ (iWM_X9 w h)) (by decide) rfl (C.2.2.2.2.1 _ (List.mem_cons_of_mem _ qM_44)) ?_
  refine x_bipush (v := 20) C dX9_push_5 (by decide) ?_
  refine x_icmp_ge (tgt := 14) C dX9_push_7 (by decide) ?_ ?_
  · refine x_iconst (v := 0) C dX9_push_14 (by decide) ?_
    exact x_sub [0] rfl (T_X9_push_15 C hr 0 h)
  · refine x_iconst (v := 1) C dX9_push_10 (by decide) ?_
    refine x_goto (tgt := 15) C dX9_push_11 (by decide) ?_
    exact x_sub [0] rfl (T_X9_push_15 C hr 1 h)
/-! X9_pop: 35 instructions -/
abbrev J_X9_pop (G : xG) (p : Program) (l : Launch) (e : Env) (s : State) (m : MethodId) (args : Array Value) (below : List Frame) (meth : Method) (c : Code) : Nat → List (Nat × Value) → List Value → xHp → Option (Int32 × xHp) → Prop := xJ G p l e ({ frames := 1, cells := 0, slots := 0, locals := 25 } : Room) s m args below meth c 2 (fun res => MQ below (xQi G res) args s 0 0 (xA G))
def F_X9_pop_53 (N : Nat) (s1 : Int32) (h : xHp) : Option (Int32 × xHp) := bnd (sI h 51 1 s1) fun h1 => some ((gI h1 51 1), h1)
def F_X9_pop (N : Nat) (p1 : Int32) (h : xHp) : Option (Int32 × xHp) := bnd2 (F_X9_isIn N (p1.toInt64) 0 ((gI h 51 6).toInt64) h) fun r1 h2 => bnd2 (F_X9_may N r1 1 1 h2) fun r3 h4 => if r3 = 0 then some (0, h4) else bnd (sI h4 51 6 ((gI h4 51 6) - p1)) fun h5 => if p1 ≤ 0 then F_X9_pop_53 N (gI h5 51 1) h5 else grd (xin (gI h5 51 6) 20) (F_X9_pop_53 N (gI h5 56 (gI h5 51 6).toNatClampNeg) h5)
set_option maxHeartbeats 4000000 in
set_option maxRecDepth 100000 in
theorem T_X9_pop_53 {G : xG} {p : Program} {l : Launch} {e : Env} {s : State} {m : MethodId} {args : Array Value} {below : List Frame} {meth : Method} {c : Code} {N : Nat} (C : xC G p s m args meth c cX9_pop 2 vX9_pop RX9) (hr : meth.sig.returnType = (some .int)) (s1 : Int32) (h : xHp) : J_X9_pop G p l e s m args below meth c 53 [(0, .ref (xad G 51))] [.int s1, .ref (xad G 51)] h (F_X9_pop_53 N s1 h) := by
  unfold F_X9_pop_53
  refine x_putI (ty0 := tyX9) (ty := .int) C 1 dX9_pop_53 (xc_51 G h) rfl (Nat.le_of_ble_eq_true rfl) (by decide) rfl (fun w h => List.mem_cons_of_mem _ (iWM_X9 w h)) tyX9_ok nmX9 (by decide) rfl rfl (by decide +kernel) rfl rfl (C.2.2.2.2.1 _ (List.mem_cons_of_mem _ qM_12)) (fun h1 => ?_)
  refine x_aload_n C dX9_pop_56 rfl 0 rfl ?_
  refine x_get (v := .int (gI h1 51 1)) C 1 dX9_pop_57 (xc_51 G h1) rfl (by decide) rfl (fun w h => List.mem_cons_of_mem _ (iWM_X9 w h)) (by decide) rfl (C.2.2.2.2.1 _ (List.mem_cons_of_mem _ qM_12)) ?_
  exact x_iret C dX9_pop_60 hr
set_option maxHeartbeats 4000000 in
set_option maxRecDepth 100000 in
theorem M_X9_pop (G : xG) (l : Launch) (N : Nat) (p1 : Int32) (h : xHp) : ∀ r, F_X9_pop N p1 h = some r → Met l yX9_pop vX9_pop ({ frames := 1, cells := 0, slots := 0, locals := 25 } : Room) (xPc G [.ref (xad G 51), .int p1] h) (xQi G r) 0 0 (xA G) := by
  refine x_met (own := RX9) (cc := cX9_pop) (maxL := 2) (ret := (some .int)) (lv0 := [(0, .ref (xad G 51)), (1, .int p1)]) (by decide +kernel) rfl rfl (Nat.le_of_ble_eq_true rfl) rfl ?_
  intro p e s m below meth c C hr
  unfold F_X9_pop
  refine x_aload_n C dX9_pop_0 rfl 0 rfl ?_
  refine x_iload_n C dX9_pop_1 rfl 1 rfl ?_
  refine x_i2l C dX9_pop_2 ?_
  refine x_lconst (v := 0) C dX9_pop_3 (by decide) ?_
  refine x_aload_n C dX9_pop_4 rfl 0 rfl ?_
  refine x_get (v := .int (gI h 51 6)) C 6 dX9_pop_5 (xc_51 G h) rfl (by decide) rfl (fun w h => List.mem_cons_of_mem _ (iWM_X9 w h)) (by decide) rfl (C.2.2.2.2.1 _ (List.mem_cons_of_mem _ qM_44)) ?_
  refine x_i2l C dX9_pop_8 ?_
  refine x_callSi C dX9_pop_9 (M_X9_isIn G l N (p1.toInt64) 0 ((gI h 51 6).toInt64) h) (va_cwS 3 C.2.2.2.2.1 (gdS gWM qM_7 qM_8 qM_9 qM_3) rfl rfl rfl (by decide +kernel) ⟨Nat.le_of_ble_eq_true rfl, Nat.le_of_ble_eq_true rfl⟩) rfl rfl (Nat.le_of_ble_eq_true rfl) (fun r1 h2 => ?_)
  refine x_iconst (v := 1) C dX9_pop_12 (by decide) ?_
  refine x_iconst (v := 1) C dX9_pop_13 (by decide) ?_
  refine x_callVi C dX9_pop_14 (M_X9_may G l N r1 1 1 h2) (cwV 3 C.2.2.2.2.1 (gdV gWM qM_33 qM_34 qM_35 qM_9 qM_4) rfl rfl rfl (by decide +kernel) ⟨Nat.le_of_ble_eq_true rfl, Nat.le_of_ble_eq_true rfl⟩) (xc_51 G h2) (by decide) rfl rfl rfl (Nat.le_of_ble_eq_true rfl) (fun r3 h4 => ?_)
  refine x_if_ne (tgt := 22) C dX9_pop_17 (by decide) ?_ ?_
  · refine x_iconst (v := 0) C dX9_pop_20 (by decide) ?_
    exact x_iret C dX9_pop_21 hr
  · refine x_aload_n C dX9_pop_22 rfl 0 rfl ?_
    refine x_dup C dX9_pop_23 rfl ?_
    refine x_get (v := .int (gI h4 51 6)) C 6 dX9_pop_24 (xc_51 G h4) rfl (by decide) rfl (fun w h => List.mem_cons_of_mem _ (iWM_X9 w h)) (by decide) rfl (C.2.2.2.2.1 _ (List.mem_cons_of_mem _ qM_44)) ?_
    refine x_iload_n C dX9_pop_27 rfl 1 rfl ?_
    refine x_isub C dX9_pop_28 ?_
    refine x_putI (ty0 := tyX9) (ty := .int) C 6 dX9_pop_29 (xc_51 G h4) rfl (Nat.le_of_ble_eq_true rfl) (by decide) rfl (fun w h => List.mem_cons_of_mem _ (iWM_X9 w h)) tyX9_ok nmX9 (by decide) rfl rfl (by decide +kernel) rfl rfl (C.2.2.2.2.1 _ (List.mem_cons_of_mem _ qM_44)) (fun h5 => ?_)
    refine x_aload_n C dX9_pop_32 rfl 0 rfl ?_
    refine x_iload_n C dX9_pop_33 rfl 1 rfl ?_
    refine x_if_le (tgt := 49) C dX9_pop_34 (by decide) ?_ ?_
    · refine x_aload_n C dX9_pop_49 rfl 0 rfl ?_
      refine x_get (v := .int (gI h5 51 1)) C 1 dX9_pop_50 (xc_51 G h5) rfl (by decide) rfl (fun w h => List.mem_cons_of_mem _ (iWM_X9 w h)) (by decide) rfl (C.2.2.2.2.1 _ (List.mem_cons_of_mem _ qM_12)) ?_
      exact x_sub [0] rfl (T_X9_pop_53 C hr (gI h5 51 1) h5)
    · refine x_aload_n C dX9_pop_37 rfl 0 rfl ?_
      refine x_get (v := .ref (xad G 56)) C 7 dX9_pop_38 (xc_51 G h5) rfl (by decide) rfl (fun w h => List.mem_cons_of_mem _ (iWM_X9 w h)) (by decide) rfl (C.2.2.2.2.1 _ (List.mem_cons_of_mem _ qM_45)) ?_
      refine x_aload_n C dX9_pop_41 rfl 0 rfl ?_
      refine x_get (v := .int (gI h5 51 6)) C 6 dX9_pop_42 (xc_51 G h5) rfl (by decide) rfl (fun w h => List.mem_cons_of_mem _ (iWM_X9 w h)) (by decide) rfl (C.2.2.2.2.1 _ (List.mem_cons_of_mem _ qM_44)) ?_
      refine x_iald (n := 20) C dX9_pop_45 (xc_56 G h5) (by decide) ?_
      refine x_goto (tgt := 53) C dX9_pop_46 (by decide) ?_
      exact x_sub [0] rfl (T_X9_pop_53 C hr (gI h5 56 (gI h5 51 6).toNatClampNeg) h5)
/-! X9_core: 21 instructions -/
abbrev J_X9_core (G : xG) (p : Program) (l : Launch) (e : Env) (s : State) (m : MethodId) (args : Array Value) (below : List Frame) (meth : Method) (c : Code) : Nat → List (Nat × Value) → List Value → xHp → Option (Int32 × xHp) → Prop := xJ G p l e ({ frames := 1, cells := 0, slots := 0, locals := 25 } : Room) s m args below meth c 2 (fun res => MQ below (xQi G res) args s 0 0 (xA G))
def F_X9_core (N : Nat) (p1 : Int32) (h : xHp) : Option (Int32 × xHp) := bnd2 (F_X9_isIn N (p1.toInt64) 0 (((gI h 51 8) - 1).toInt64) h) fun r1 h2 => bnd2 (F_X9_may N r1 1 1 h2) fun r3 h4 => if r3 = 0 then some (0, h4) else grd (xin p1 20) (some ((gI h4 57 p1.toNatClampNeg), h4))
set_option maxHeartbeats 4000000 in
set_option maxRecDepth 100000 in
theorem M_X9_core (G : xG) (l : Launch) (N : Nat) (p1 : Int32) (h : xHp) : ∀ r, F_X9_core N p1 h = some r → Met l yX9_core vX9_core ({ frames := 1, cells := 0, slots := 0, locals := 25 } : Room) (xPc G [.ref (xad G 51), .int p1] h) (xQi G r) 0 0 (xA G) := by
  refine x_met (own := RX9) (cc := cX9_core) (maxL := 2) (ret := (some .int)) (lv0 := [(0, .ref (xad G 51)), (1, .int p1)]) (by decide +kernel) rfl rfl (Nat.le_of_ble_eq_true rfl) rfl ?_
  intro p e s m below meth c C hr
  unfold F_X9_core
  refine x_aload_n C dX9_core_0 rfl 0 rfl ?_
  refine x_iload_n C dX9_core_1 rfl 1 rfl ?_
  refine x_i2l C dX9_core_2 ?_
  refine x_lconst (v := 0) C dX9_core_3 (by decide) ?_
  refine x_aload_n C dX9_core_4 rfl 0 rfl ?_
  refine x_get (v := .int (gI h 51 8)) C 8 dX9_core_5 (xc_51 G h) rfl (by decide) rfl (fun w h => List.mem_cons_of_mem _ (iWM_X9 w h)) (by decide) rfl (C.2.2.2.2.1 _ (List.mem_cons_of_mem _ qM_28)) ?_
  refine x_iconst (v := 1) C dX9_core_8 (by decide) ?_
  refine x_isub C dX9_core_9 ?_
  refine x_i2l C dX9_core_10 ?_
  refine x_callSi C dX9_core_11 (M_X9_isIn G l N (p1.toInt64) 0 (((gI h 51 8) - 1).toInt64) h) (va_cwS 3 C.2.2.2.2.1 (gdS gWM qM_7 qM_8 qM_9 qM_3) rfl rfl rfl (by decide +kernel) ⟨Nat.le_of_ble_eq_true rfl, Nat.le_of_ble_eq_true rfl⟩) rfl rfl (Nat.le_of_ble_eq_true rfl) (fun r1 h2 => ?_)
  refine x_iconst (v := 1) C dX9_core_14 (by decide) ?_
  refine x_iconst (v := 1) C dX9_core_15 (by decide) ?_
  refine x_callVi C dX9_core_16 (M_X9_may G l N r1 1 1 h2) (cwV 3 C.2.2.2.2.1 (gdV gWM qM_33 qM_34 qM_35 qM_9 qM_4) rfl rfl rfl (by decide +kernel) ⟨Nat.le_of_ble_eq_true rfl, Nat.le_of_ble_eq_true rfl⟩) (xc_51 G h2) (by decide) rfl rfl rfl (Nat.le_of_ble_eq_true rfl) (fun r3 h4 => ?_)
  refine x_if_eq (tgt := 31) C dX9_core_19 (by decide) ?_ ?_
  · refine x_iconst (v := 0) C dX9_core_31 (by decide) ?_
    exact x_iret C dX9_core_32 hr
  · refine x_aload_n C dX9_core_22 rfl 0 rfl ?_
    refine x_get (v := .ref (xad G 57)) C 9 dX9_core_23 (xc_51 G h4) rfl (by decide) rfl (fun w h => List.mem_cons_of_mem _ (iWM_X9 w h)) (by decide) rfl (C.2.2.2.2.1 _ (List.mem_cons_of_mem _ qM_29)) ?_
    refine x_iload_n C dX9_core_26 rfl 1 rfl ?_
    refine x_iald (n := 20) C dX9_core_27 (xc_57 G h4) (by decide) ?_
    refine x_goto (tgt := 32) C dX9_core_28 (by decide) ?_
    exact x_iret C dX9_core_32 hr
/-! X9_findValues: 87 instructions -/
abbrev J_X9_findValues (G : xG) (p : Program) (l : Launch) (e : Env) (s : State) (m : MethodId) (args : Array Value) (below : List Frame) (meth : Method) (c : Code) : Nat → List (Nat × Value) → List Value → xHp → Option (Int32 × xHp) → Prop := xJ G p l e ({ frames := 0, cells := 0, slots := 0, locals := 0 } : Room) s m args below meth c 4 (fun res => MQ below (xQi G res) args s 0 0 (xA G))
def F_X9_findValues_120 (N : Nat) (k25 : Int32 → Int32 → xHp → Option (Int32 × xHp)) (k39 : Int32 → Int32 → Int32 → xHp → Option (Int32 × xHp)) (x1 : Int32) (x2 : Int32) (x3 : Int32) (h : xHp) : Option (Int32 × xHp) := k39 x1 x2 (x3 + 1) h
def F_X9_findValues_39_b (N : Nat) (k25 : Int32 → Int32 → xHp → Option (Int32 × xHp)) (k39 : Int32 → Int32 → Int32 → xHp → Option (Int32 × xHp)) (x1 : Int32) (x2 : Int32) (x3 : Int32) (h : xHp) : Option (Int32 × xHp) := if 70 ≤ x3 then k25 x1 (x2 + 1) h else grd (xin x3 70) (if (gI h 55 x3.toNatClampNeg) = 0 then F_X9_findValues_120 N k25 k39 x1 x2 x3 h else grd (xin x3 70) (grd (xin (gI h 53 x3.toNatClampNeg) 16) (grd (xin x3 70) (grd (xin x3 70) (grd (xin (gI h 52 x3.toNatClampNeg) 16) (if 0 ≤ (lg_cmp ((gJ h 60 (gI h 53 x3.toNatClampNeg).toNatClampNeg) + ((gI h 54 x3.toNatClampNeg).toInt64)) (gJ h 60 (gI h 52 x3.toNatClampNeg).toNatClampNeg)) then F_X9_findValues_120 N k25 k39 x1 x2 x3 h else grd (xin x3 70) (grd (xin x3 70) (grd (xin (gI h 53 x3.toNatClampNeg) 16) (grd (xin x3 70) (grd (xin (gI h 52 x3.toNatClampNeg) 16) (bnd (sJ h 60 (gI h 52 x3.toNatClampNeg).toNatClampNeg ((gJ h 60 (gI h 53 x3.toNatClampNeg).toNatClampNeg) + ((gI h 54 x3.toNatClampNeg).toInt64))) fun h1 => F_X9_findValues_120 N k25 k39 1 x2 x3 h1)))))))))))
def F_X9_findValues_39 (N : Nat) (k25 : Int32 → Int32 → xHp → Option (Int32 × xHp)) (x1 : Int32) (x2 : Int32) (x3 : Int32) (h : xHp) : Option (Int32 × xHp) := xit (F_X9_findValues_39_b N k25) (fun _ _ _ _ => none) N x1 x2 x3 h
def F_X9_findValues_132 (N : Nat) (x1 : Int32) (h : xHp) : Option (Int32 × xHp) := if x1 = 0 then some (1, h) else some (0, h)
def F_X9_findValues_25_b (N : Nat) (k25 : Int32 → Int32 → xHp → Option (Int32 × xHp)) (x1 : Int32) (x2 : Int32) (h : xHp) : Option (Int32 × xHp) := if 16 < x2 then F_X9_findValues_132 N x1 h else if x1 = 0 then F_X9_findValues_132 N x1 h else F_X9_findValues_39 N k25 0 x2 0 h
def F_X9_findValues_25 (N : Nat) (x1 : Int32) (x2 : Int32) (h : xHp) : Option (Int32 × xHp) := xit (F_X9_findValues_25_b N) (fun _ _ _ => none) N x1 x2 h
def F_X9_findValues_2_b (N : Nat) (k2 : Int32 → xHp → Option (Int32 × xHp)) (x1 : Int32) (h : xHp) : Option (Int32 × xHp) := if 16 ≤ x1 then F_X9_findValues_25 N 1 0 h else grd (xin x1 16) (bnd (sJ h 60 x1.toNatClampNeg 0) fun h1 => k2 (x1 + 1) h1)
def F_X9_findValues_2 (N : Nat) (x1 : Int32) (h : xHp) : Option (Int32 × xHp) := xit (F_X9_findValues_2_b N) (fun _ _ => none) N x1 h
def F_X9_findValues (N : Nat) (h : xHp) : Option (Int32 × xHp) := F_X9_findValues_2 N 0 h
set_option maxHeartbeats 4000000 in
set_option maxRecDepth 100000 in
theorem T_X9_findValues_120 {G : xG} {p : Program} {l : Launch} {e : Env} {s : State} {m : MethodId} {args : Array Value} {below : List Frame} {meth : Method} {c : Code} {N : Nat} (C : xC G p s m args meth c cX9_findValues 4 vX9_findValues RX9) (hr : meth.sig.returnType = (some .boolean)) {k25 : Int32 → Int32 → xHp → Option (Int32 × xHp)} (hk25 : ∀ (x1 : Int32) (x2 : Int32) (h : xHp), J_X9_findValues G p l e s m args below meth c 25 [(0, .ref (xad G 51)), (1, .int x1), (2, .int x2)] [] h (k25 x1 x2 h)) {k39 : Int32 → Int32 → Int32 → xHp → Option (Int32 × xHp)} (hk39 : ∀ (x1 : Int32) (x2 : Int32) (x3 : Int32) (h : xHp), J_X9_findValues G p l e s m args below meth c 39 [(0, .ref (xad G 51)), (1, .int x1), (2, .int x2), (3, .int x3)] [] h (k39 x1 x2 x3 h)) (x1 : Int32) (x2 : Int32) (x3 : Int32) (h : xHp) : J_X9_findValues G p l e s m args below meth c 120 [(0, .ref (xad G 51)), (1, .int x1), (2, .int x2), (3, .int x3)] [] h (F_X9_findValues_120 N k25 k39 x1 x2 x3 h) := by
  unfold F_X9_findValues_120
  refine x_iinc (v := (x3 + 1)) (j := 3) (lv' := [(3, .int (x3 + 1)), (0, .ref (xad G 51)), (1, .int x1), (2, .int x2)]) C dX9_findValues_120 rfl (by rfl) (by decide) rfl ?_
  refine x_goto (tgt := 39) C dX9_findValues_123 (by decide) ?_
  exact x_sub [1, 2, 3, 0] rfl (hk39 x1 x2 (x3 + 1) h)
set_option maxHeartbeats 4000000 in
set_option maxRecDepth 100000 in
theorem T_X9_findValues_39_b {G : xG} {p : Program} {l : Launch} {e : Env} {s : State} {m : MethodId} {args : Array Value} {below : List Frame} {meth : Method} {c : Code} {N : Nat} (C : xC G p s m args meth c cX9_findValues 4 vX9_findValues RX9) (hr : meth.sig.returnType = (some .boolean)) {k25 : Int32 → Int32 → xHp → Option (Int32 × xHp)} (hk25 : ∀ (x1 : Int32) (x2 : Int32) (h : xHp), J_X9_findValues G p l e s m args below meth c 25 [(0, .ref (xad G 51)), (1, .int x1), (2, .int x2)] [] h (k25 x1 x2 h)) {k39 : Int32 → Int32 → Int32 → xHp → Option (Int32 × xHp)} (hk39 : ∀ (x1 : Int32) (x2 : Int32) (x3 : Int32) (h : xHp), J_X9_findValues G p l e s m args below meth c 39 [(0, .ref (xad G 51)), (1, .int x1), (2, .int x2), (3, .int x3)] [] h (k39 x1 x2 x3 h)) (x1 : Int32) (x2 : Int32) (x3 : Int32) (h : xHp) : J_X9_findValues G p l e s m args below meth c 39 [(0, .ref (xad G 51)), (1, .int x1), (2, .int x2), (3, .int x3)] [] h (F_X9_findValues_39_b N k25 k39 x1 x2 x3 h) := by
  unfold F_X9_findValues_39_b
  refine x_iload_n C dX9_findValues_39 rfl 3 rfl ?_
  refine x_bipush (v := 70) C dX9_findValues_40 (by decide) ?_
  refine x_icmp_ge (tgt := 126) C dX9_findValues_42 (by decide) ?_ ?_
  · refine x_iinc (v := (x2 + 1)) (j := 2) (lv' := [(2, .int (x2 + 1)), (0, .ref (xad G 51)), (1, .int x1), (3, .int x3)]) C dX9_findValues_126 rfl (by rfl) (by decide) rfl ?_
    refine x_goto (tgt := 25) C dX9_findValues_129 (by decide) ?_
    exact x_sub [1, 2, 0] rfl (hk25 x1 (x2 + 1) h)
  · refine x_aload_n C dX9_findValues_45 rfl 0 rfl ?_
    refine x_get (v := .ref (xad G 55)) C 5 dX9_findValues_46 (xc_51 G h) rfl (by decide) rfl (fun w h => List.mem_cons_of_mem _ (iWM_X9 w h)) (by decide) rfl (C.2.2.2.2.1 _ (List.mem_cons_of_mem _ qM_11)) ?_
    refine x_iload_n C dX9_findValues_49 rfl 3 rfl ?_
    refine x_zald (n := 70) C dX9_findValues_50 (xc_55 G h) (by decide) ?_
    refine x_if_eq (tgt := 120) C dX9_findValues_51 (by decide) ?_ ?_
    · exact x_sub [0, 1, 2, 3] rfl (T_X9_findValues_120 C hr hk25 hk39 x1 x2 x3 h)
    · refine x_aload_n C dX9_findValues_54 rfl 0 rfl ?_
      refine x_get (v := .ref (xad G 60)) C 13 dX9_findValues_55 (xc_51 G h) rfl (by decide) rfl (fun w h => List.mem_cons_of_mem _ (iWM_X9 w h)) (by decide) rfl (C.2.2.2.2.1 _ (List.mem_cons_of_mem _ qM_49)) ?_
      refine x_aload_n C dX9_findValues_58 rfl 0 rfl ?_
      refine x_get (v := .ref (xad G 53)) C 3 dX9_findValues_59 (xc_51 G h) rfl (by decide) rfl (fun w h => List.mem_cons_of_mem _ (iWM_X9 w h)) (by decide) rfl (C.2.2.2.2.1 _ (List.mem_cons_of_mem _ qM_16)) ?_
      refine x_iload_n C dX9_findValues_62 rfl 3 rfl ?_
      refine x_iald (n := 70) C dX9_findValues_63 (xc_53 G h) (by decide) ?_
      refine x_lald (n := 16) C dX9_findValues_64 (xc_60 G h) (by decide) ?_
      refine x_aload_n C dX9_findValues_65 rfl 0 rfl ?_
      refine x_get (v := .ref (xad G 54)) C 4 dX9_findValues_66 (xc_51 G h) rfl (by decide) rfl (fun w h => List.mem_cons_of_mem _ (iWM_X9 w h)) (by decide) rfl (C.2.2.2.2.1 _ (List.mem_cons_of_mem _ qM_17)) ?_
      refine x_iload_n C dX9_findValues_69 rfl 3 rfl ?_
      refine x_iald (n := 70) C dX9_findValues_70 (xc_54 G h) (by decide) ?_
      refine x_i2l C dX9_findValues_71 ?_
      refine x_ladd C dX9_findValues_72 ?_
      refine x_aload_n C dX9_findValues_73 rfl 0 rfl ?_
      refine x_get (v := .ref (xad G 60)) C 13 dX9_findValues_74 (xc_51 G h) rfl (by decide) rfl (fun w h => List.mem_cons_of_mem _ (iWM_X9 w h)) (by decide) rfl (C.2.2.2.2.1 _ (List.mem_cons_of_mem _ qM_49)) ?_
      refine x_aload_n C dX9_findValues_77 rfl 0 rfl ?_
      refine x_get (v := .ref (xad G 52)) C 2 dX9_findValues_78 (xc_51 G h) rfl (by decide) rfl (fun w h => List.mem_cons_of_mem _ (iWM_X9 w h)) (by decide) rfl (C.2.2.2.2.1 _ (List.mem_cons_of_mem _ qM_18)) ?_
      refine x_iload_n C dX9_findValues_81 rfl 3 rfl ?_
      refine x_iald (n := 70) C dX9_findValues_82 (xc_52 G h) (by decide) ?_
      refine x_lald (n := 16) C dX9_findValues_83 (xc_60 G h) (by decide) ?_
      refine x_lcmp C dX9_findValues_84 ?_
      refine x_if_ge (tgt := 120) C dX9_findValues_85 (by decide) ?_ ?_
      · exact x_sub [0, 1, 2, 3] rfl (T_X9_findValues_120 C hr hk25 hk39 x1 x2 x3 h)
      · refine x_aload_n C dX9_findValues_88 rfl 0 rfl ?_
        refine x_get (v := .ref (xad G 60)) C 13 dX9_findValues_89 (xc_51 G h) rfl (by decide) rfl (fun w h => List.mem_cons_of_mem _ (iWM_X9 w h)) (by decide) rfl (C.2.2.2.2.1 _ (List.mem_cons_of_mem _ qM_49)) ?_
        refine x_aload_n C dX9_findValues_92 rfl 0 rfl ?_
        refine x_get (v := .ref (xad G 52)) C 2 dX9_findValues_93 (xc_51 G h) rfl (by decide) rfl (fun w h => List.mem_cons_of_mem _ (iWM_X9 w h)) (by decide) rfl (C.2.2.2.2.1 _ (List.mem_cons_of_mem _ qM_18)) ?_
        refine x_iload_n C dX9_findValues_96 rfl 3 rfl ?_
        refine x_iald (n := 70) C dX9_findValues_97 (xc_52 G h) (by decide) ?_
        refine x_aload_n C dX9_findValues_98 rfl 0 rfl ?_
        refine x_get (v := .ref (xad G 60)) C 13 dX9_findValues_99 (xc_51 G h) rfl (by decide) rfl (fun w h => List.mem_cons_of_mem _ (iWM_X9 w h)) (by decide) rfl (C.2.2.2.2.1 _ (List.mem_cons_of_mem _ qM_49)) ?_
        refine x_aload_n C dX9_findValues_102 rfl 0 rfl ?_
        refine x_get (v := .ref (xad G 53)) C 3 dX9_findValues_103 (xc_51 G h) rfl (by decide) rfl (fun w h => List.mem_cons_of_mem _ (iWM_X9 w h)) (by decide) rfl (C.2.2.2.2.1 _ (List.mem_cons_of_mem _ qM_16)) ?_
        refine x_iload_n C dX9_findValues_106 rfl 3 rfl ?_
        refine x_iald (n := 70) C dX9_findValues_107 (xc_53 G h) (by decide) ?_
        refine x_lald (n := 16) C dX9_findValues_108 (xc_60 G h) (by decide) ?_
        refine x_aload_n C dX9_findValues_109 rfl 0 rfl ?_
        refine x_get (v := .ref (xad G 54)) C 4 dX9_findValues_110 (xc_51 G h) rfl (by decide) rfl (fun w h => List.mem_cons_of_mem _ (iWM_X9 w h)) (by decide) rfl (C.2.2.2.2.1 _ (List.mem_cons_of_mem _ qM_17)) ?_
        refine x_iload_n C dX9_findValues_113 rfl 3 rfl ?_
        refine x_iald (n := 70) C dX9_findValues_114 (xc_54 G h) (by decide) ?_
        refine x_i2l C dX9_findValues_115 ?_
        refine x_ladd C dX9_findValues_116 ?_
        refine x_last (n := 16) C dX9_findValues_117 (fun g => xp_60 G _ g _) (by decide) (fun h1 => ?_)
        refine x_iconst (v := 1) C dX9_findValues_118 (by decide) ?_
        refine x_istore_n (lv' := [(1, .int 1), (0, .ref (xad G 51)), (2, .int x2), (3, .int x3)]) C dX9_findValues_119 rfl (by decide) rfl ?_
        exact x_sub [1, 0, 2, 3] rfl (T_X9_findValues_120 C hr hk25 hk39 1 x2 x3 h1)
set_option maxHeartbeats 4000000 in
set_option maxRecDepth 100000 in
theorem T_X9_findValues_39_n {G : xG} {p : Program} {l : Launch} {e : Env} {s : State} {m : MethodId} {args : Array Value} {below : List Frame} {meth : Method} {c : Code} {N : Nat} (C : xC G p s m args meth c cX9_findValues 4 vX9_findValues RX9) (hr : meth.sig.returnType = (some .boolean)) {k25 : Int32 → Int32 → xHp → Option (Int32 × xHp)} (hk25 : ∀ (x1 : Int32) (x2 : Int32) (h : xHp), J_X9_findValues G p l e s m args below meth c 25 [(0, .ref (xad G 51)), (1, .int x1), (2, .int x2)] [] h (k25 x1 x2 h)) : ∀ (n : Nat) (x1 : Int32) (x2 : Int32) (x3 : Int32) (h : xHp), J_X9_findValues G p l e s m args below meth c 39 [(0, .ref (xad G 51)), (1, .int x1), (2, .int x2), (3, .int x3)] [] h (xit (F_X9_findValues_39_b N k25) (fun _ _ _ _ => none) n x1 x2 x3 h) := by
  intro n
  induction n with
  | zero => intros; exact x_none
  | succ n ih => intros; exact T_X9_findValues_39_b C hr hk25 ih _ _ _ _
set_option maxHeartbeats 4000000 in
set_option maxRecDepth 100000 in
theorem T_X9_findValues_39 {G : xG} {p : Program} {l : Launch} {e : Env} {s : State} {m : MethodId} {args : Array Value} {below : List Frame} {meth : Method} {c : Code} {N : Nat} (C : xC G p s m args meth c cX9_findValues 4 vX9_findValues RX9) (hr : meth.sig.returnType = (some .boolean)) {k25 : Int32 → Int32 → xHp → Option (Int32 × xHp)} (hk25 : ∀ (x1 : Int32) (x2 : Int32) (h : xHp), J_X9_findValues G p l e s m args below meth c 25 [(0, .ref (xad G 51)), (1, .int x1), (2, .int x2)] [] h (k25 x1 x2 h)) (x1 : Int32) (x2 : Int32) (x3 : Int32) (h : xHp) : J_X9_findValues G p l e s m args below meth c 39 [(0, .ref (xad G 51)), (1, .int x1), (2, .int x2), (3, .int x3)] [] h (F_X9_findValues_39 N k25 x1 x2 x3 h) := T_X9_findValues_39_n C hr hk25 N x1 x2 x3 h
set_option maxHeartbeats 4000000 in
set_option maxRecDepth 100000 in
theorem T_X9_findValues_132 {G : xG} {p : Program} {l : Launch} {e : Env} {s : State} {m : MethodId} {args : Array Value} {below : List Frame} {meth : Method} {c : Code} {N : Nat} (C : xC G p s m args meth c cX9_findValues 4 vX9_findValues RX9) (hr : meth.sig.returnType = (some .boolean)) (x1 : Int32) (h : xHp) : J_X9_findValues G p l e s m args below meth c 132 [(1, .int x1)] [] h (F_X9_findValues_132 N x1 h) := by
  unfold F_X9_findValues_132
  refine x_iload_n C dX9_findValues_132 rfl 0 rfl ?_
  refine x_if_ne (tgt := 140) C dX9_findValues_133 (by decide) ?_ ?_
  · refine x_iconst (v := 1) C dX9_findValues_136 (by decide) ?_
    refine x_goto (tgt := 141) C dX9_findValues_137 (by decide) ?_
    exact x_zretL C dX9_findValues_141 hr rfl
  · refine x_iconst (v := 0) C dX9_findValues_140 (by decide) ?_
    exact x_zretL C dX9_findValues_141 hr rfl
set_option maxHeartbeats 4000000 in
set_option maxRecDepth 100000 in
theorem T_X9_findValues_25_b {G : xG} {p : Program} {l : Launch} {e : Env} {s : State} {m : MethodId} {args : Array Value} {below : List Frame} {meth : Method} {c : Code} {N : Nat} (C : xC G p s m args meth c cX9_findValues 4 vX9_findValues RX9) (hr : meth.sig.returnType = (some .boolean)) {k25 : Int32 → Int32 → xHp → Option (Int32 × xHp)} (hk25 : ∀ (x1 : Int32) (x2 : Int32) (h : xHp), J_X9_findValues G p l e s m args below meth c 25 [(0, .ref (xad G 51)), (1, .int x1), (2, .int x2)] [] h (k25 x1 x2 h)) (x1 : Int32) (x2 : Int32) (h : xHp) : J_X9_findValues G p l e s m args below meth c 25 [(0, .ref (xad G 51)), (1, .int x1), (2, .int x2)] [] h (F_X9_findValues_25_b N k25 x1 x2 h) := by
  unfold F_X9_findValues_25_b
  refine x_iload_n C dX9_findValues_25 rfl 2 rfl ?_
  refine x_bipush (v := 16) C dX9_findValues_26 (by decide) ?_
  refine x_icmp_gt (tgt := 132) C dX9_findValues_28 (by decide) ?_ ?_
  · exact x_sub [1] rfl (T_X9_findValues_132 C hr x1 h)
  · refine x_iload_n C dX9_findValues_31 rfl 1 rfl ?_
    refine x_if_eq (tgt := 132) C dX9_findValues_32 (by decide) ?_ ?_
    · exact x_sub [1] rfl (T_X9_findValues_132 C hr x1 h)
    · refine x_iconst (v := 0) C dX9_findValues_35 (by decide) ?_
      refine x_istore_n (lv' := [(1, .int 0), (0, .ref (xad G 51)), (2, .int x2)]) C dX9_findValues_36 rfl (by decide) rfl ?_
      refine x_iconst (v := 0) C dX9_findValues_37 (by decide) ?_
      refine x_istore_n (lv' := [(3, .int 0), (1, .int 0), (0, .ref (xad G 51)), (2, .int x2)]) C dX9_findValues_38 rfl (by decide) rfl ?_
      exact x_sub [2, 1, 3, 0] rfl (T_X9_findValues_39 C hr hk25 0 x2 0 h)
set_option maxHeartbeats 4000000 in
set_option maxRecDepth 100000 in
theorem T_X9_findValues_25_n {G : xG} {p : Program} {l : Launch} {e : Env} {s : State} {m : MethodId} {args : Array Value} {below : List Frame} {meth : Method} {c : Code} {N : Nat} (C : xC G p s m args meth c cX9_findValues 4 vX9_findValues RX9) (hr : meth.sig.returnType = (some .boolean)) : ∀ (n : Nat) (x1 : Int32) (x2 : Int32) (h : xHp), J_X9_findValues G p l e s m args below meth c 25 [(0, .ref (xad G 51)), (1, .int x1), (2, .int x2)] [] h (xit (F_X9_findValues_25_b N) (fun _ _ _ => none) n x1 x2 h) := by
  intro n
  induction n with
  | zero => intros; exact x_none
  | succ n ih => intros; exact T_X9_findValues_25_b C hr ih _ _ _
set_option maxHeartbeats 4000000 in
set_option maxRecDepth 100000 in
theorem T_X9_findValues_25 {G : xG} {p : Program} {l : Launch} {e : Env} {s : State} {m : MethodId} {args : Array Value} {below : List Frame} {meth : Method} {c : Code} {N : Nat} (C : xC G p s m args meth c cX9_findValues 4 vX9_findValues RX9) (hr : meth.sig.returnType = (some .boolean)) (x1 : Int32) (x2 : Int32) (h : xHp) : J_X9_findValues G p l e s m args below meth c 25 [(0, .ref (xad G 51)), (1, .int x1), (2, .int x2)] [] h (F_X9_findValues_25 N x1 x2 h) := T_X9_findValues_25_n C hr N x1 x2 h
set_option maxHeartbeats 4000000 in
set_option maxRecDepth 100000 in
theorem T_X9_findValues_2_b {G : xG} {p : Program} {l : Launch} {e : Env} {s : State} {m : MethodId} {args : Array Value} {below : List Frame} {meth : Method} {c : Code} {N : Nat} (C : xC G p s m args meth c cX9_findValues 4 vX9_findValues RX9) (hr : meth.sig.returnType = (some .boolean)) {k2 : Int32 → xHp → Option (Int32 × xHp)} (hk2 : ∀ (x1 : Int32) (h : xHp), J_X9_findValues G p l e s m args below meth c 2 [(0, .ref (xad G 51)), (1, .int x1)] [] h (k2 x1 h)) (x1 : Int32) (h : xHp) : J_X9_findValues G p l e s m args below meth c 2 [(0, .ref (xad G 51)), (1, .int x1)] [] h (F_X9_findValues_2_b N k2 x1 h) := by
  unfold F_X9_findValues_2_b
  refine x_iload_n C dX9_findValues_2 rfl 1 rfl ?_
  refine x_bipush (v := 16) C dX9_findValues_3 (by decide) ?_
  refine x_icmp_ge (tgt := 21) C dX9_findValues_5 (by decide) ?_ ?_
  · refine x_iconst (v := 1) C dX9_findValues_21 (by decide) ?_
    refine x_istore_n (lv' := [(1, .int 1), (0, .ref (xad G 51))]) C dX9_findValues_22 rfl (by decide) rfl ?_
    refine x_iconst (v := 0) C dX9_findValues_23 (by decide) ?_
    refine x_istore_n (lv' := [(2, .int 0), (1, .int 1), (0, .ref (xad G 51))]) C dX9_findValues_24 rfl (by decide) rfl ?_
    exact x_sub [2, 1, 0] rfl (T_X9_findValues_25 C hr 1 0 h)
  · refine x_aload_n C dX9_findValues_8 rfl 0 rfl ?_
    refine x_get (v := .ref (xad G 60)) C 13 dX9_findValues_9 (xc_51 G h) rfl (by decide) rfl (fun w h => List.mem_cons_of_mem _ (iWM_X9 w h)) (by decide) rfl (C.2.2.2.2.1 _ (List.mem_cons_of_mem _ qM_49)) ?_
    refine x_iload_n C dX9_findValues_12 rfl 1 rfl ?_
    refine x_lconst (v := 0) C dX9_findValues_13 (by decide) ?_
    refine x_last (n := 16) C dX9_findValues_14 (fun g => xp_60 G _ g _) (by decide) (fun h1 => ?_)
    refine x_iinc (v := (x1 + 1)) (j := 1) (lv' := [(1, .int (x1 + 1)), (0, .ref (xad G 51))]) C dX9_findValues_15 rfl (by rfl) (by decide) rfl ?_
    refine x_goto (tgt := 2) C dX9_findValues_18 (by decide) ?_
    exact x_sub [1, 0] rfl (hk2 (x1 + 1) h1)
set_option maxHeartbeats 4000000 in
set_option maxRecDepth 100000 in
theorem T_X9_findValues_2_n {G : xG} {p : Program} {l : Launch} {e : Env} {s : State} {m : MethodId} {args : Array Value} {below : List Frame} {meth : Method} {c : Code} {N : Nat} (C : xC G p s m args meth c cX9_findValues 4 vX9_findValues RX9) (hr : meth.sig.returnType = (some .boolean)) : ∀ (n : Nat) (x1 : Int32) (h : xHp), J_X9_findValues G p l e s m args below meth c 2 [(0, .ref (xad G 51)), (1, .int x1)] [] h (xit (F_X9_findValues_2_b N) (fun _ _ => none) n x1 h) := by
  intro n
  induction n with
  | zero => intros; exact x_none
  | succ n ih => intros; exact T_X9_findValues_2_b C hr ih _ _
set_option maxHeartbeats 4000000 in
set_option maxRecDepth 100000 in
theorem T_X9_findValues_2 {G : xG} {p : Program} {l : Launch} {e : Env} {s : State} {m : MethodId} {args : Array Value} {below : List Frame} {meth : Method} {c : Code} {N : Nat} (C : xC G p s m args meth c cX9_findValues 4 vX9_findValues RX9) (hr : meth.sig.returnType = (some .boolean)) (x1 : Int32) (h : xHp) : J_X9_findValues G p l e s m args below meth c 2 [(0, .ref (xad G 51)), (1, .int x1)] [] h (F_X9_findValues_2 N x1 h) := T_X9_findValues_2_n C hr N x1 h
set_option maxHeartbeats 4000000 in
set_option maxRecDepth 100000 in
theorem M_X9_findValues (G : xG) (l : Launch) (N : Nat) (h : xHp) : ∀ r, F_X9_findValues N h = some r → Met l yX9_findValues vX9_findValues ({ frames := 0, cells := 0, slots := 0, locals := 0 } : Room) (xPc G [.ref (xad G 51)] h) (xQi G r) 0 0 (xA G) := by
  refine x_met (own := RX9) (cc := cX9_findValues) (maxL := 4) (ret := (some .boolean)) (lv0 := [(0, .ref (xad G 51))]) (by decide +kernel) rfl rfl (Nat.le_of_ble_eq_true rfl) rfl ?_
  intro p e s m below meth c C hr
  unfold F_X9_findValues
  refine x_iconst (v := 0) C dX9_findValues_0 (by decide) ?_
  refine x_istore_n (lv' := [(1, .int 0), (0, .ref (xad G 51))]) C dX9_findValues_1 rfl (by decide) rfl ?_
  exact x_sub [1, 0] rfl (T_X9_findValues_2 C hr 0 h)
/-! X9_value: 25 instructions -/
abbrev J_X9_value (G : xG) (p : Program) (l : Launch) (e : Env) (s : State) (m : MethodId) (args : Array Value) (below : List Frame) (meth : Method) (c : Code) : Nat → List (Nat × Value) → List Value → xHp → Option (Int64 × xHp) → Prop := xJ G p l e ({ frames := 2, cells := 0, slots := 0, locals := 46 } : Room) s m args below meth c 2 (fun res => MQ below (xQl G res) args s 0 0 (xA G))
def F_X9_value (N : Nat) (p1 : Int32) (h : xHp) : Option (Int64 × xHp) := bnd2 (F_X9_isVariable N p1 h) fun r1 h2 => bnd2 (F_X9_may N r1 1 1 h2) fun r3 h4 => if r3 = 0 then some (0, h4) else bnd2 (F_X9_constraintsAlone N h4) fun r5 h6 => bnd2 (F_X9_findValues N h6) fun r7 h8 => grd (xin p1 16) (grd (xin 0 16) (some (((gJ h8 60 p1.toNatClampNeg) - (gJ h8 60 (0 : Int32).toNatClampNeg)), h8)))
set_option maxHeartbeats 4000000 in
set_option maxRecDepth 100000 in
theorem M_X9_value (G : xG) (l : Launch) (N : Nat) (p1 : Int32) (h : xHp) : ∀ r, F_X9_value N p1 h = some r → Met l yX9_value vX9_value ({ frames := 2, cells := 0, slots := 0, locals := 46 } : Room) (xPc G [.ref (xad G 51), .int p1] h) (xQl G r) 0 0 (xA G) := by
  refine x_met (own := RX9) (cc := cX9_value) (maxL := 2) (ret := (some .long)) (lv0 := [(0, .ref (xad G 51)), (1, .int p1)]) (by decide +kernel) rfl rfl (Nat.le_of_ble_eq_true rfl) rfl ?_
  intro p e s m below meth c C hr
  unfold F_X9_value
  refine x_aload_n C dX9_value_0 rfl 0 rfl ?_
  refine x_aload_n C dX9_value_1 rfl 0 rfl ?_
  refine x_iload_n C dX9_value_2 rfl 1 rfl ?_
  refine x_callVi C dX9_value_3 (M_X9_isVariable G l N p1 h) (cwV 1 C.2.2.2.2.1 (gdV gWM qM_30 qM_31 qM_32 qM_9 qM_5) rfl rfl rfl (by decide +kernel) ⟨Nat.le_of_ble_eq_true rfl, Nat.le_of_ble_eq_true rfl⟩) (xc_51 G h) (by decide) rfl rfl rfl (Nat.le_of_ble_eq_true rfl) (fun r1 h2 => ?_)
  refine x_iconst (v := 1) C dX9_value_6 (by decide) ?_
  refine x_iconst (v := 1) C dX9_value_7 (by decide) ?_
  refine x_callVi C dX9_value_8 (M_X9_may G l N r1 1 1 h2) (cwV 3 C.2.2.2.2.1 (gdV gWM qM_33 qM_34 qM_35 qM_9 qM_4) rfl rfl rfl (by decide +kernel) ⟨Nat.le_of_ble_eq_true rfl, Nat.le_of_ble_eq_true rfl⟩) (xc_51 G h2) (by decide) rfl rfl rfl (Nat.le_of_ble_eq_true rfl) (fun r3 h4 => ?_)
  refine x_if_ne (tgt := 16) C dX9_value_11 (by decide) ?_ ?_
  · refine x_lconst (v := 0) C dX9_value_14 (by decide) ?_
    exact x_lret C dX9_value_15 hr
  · refine x_aload_n C dX9_value_16 rfl 0 rfl ?_
    refine x_callVv C dX9_value_17 (M_X9_constraintsAlone G l N h4) (cwV 0 C.2.2.2.2.1 (gdV gWM qM_36 qM_37 qM_38 qM_9 qM_10) rfl rfl rfl (by decide +kernel) ⟨Nat.le_of_ble_eq_true rfl, Nat.le_of_ble_eq_true rfl⟩) (xc_51 G h4) (by decide) rfl rfl rfl (Nat.le_of_ble_eq_true rfl) (fun r5 h6 => ?_)
    refine x_aload_n C dX9_value_20 rfl 0 rfl ?_
    refine x_callVi C dX9_value_21 (M_X9_findValues G l N h6) (cwV 0 C.2.2.2.2.1 (gdV gWM qM_50 qM_51 qM_52 qM_9 qM_48) rfl rfl rfl (by decide +kernel) ⟨Nat.le_of_ble_eq_true rfl, Nat.le_of_ble_eq_true rfl⟩) (xc_51 G h6) (by decide) rfl rfl rfl (Nat.le_of_ble_eq_true rfl) (fun r7 h8 => ?_)
    refine x_pop C dX9_value_24 rfl ?_
    refine x_aload_n C dX9_value_25 rfl 0 rfl ?_
    refine x_get (v := .ref (xad G 60)) C 13 dX9_value_26 (xc_51 G h8) rfl (by decide) rfl (fun w h => List.mem_cons_of_mem _ (iWM_X9 w h)) (by decide) rfl (C.2.2.2.2.1 _ (List.mem_cons_of_mem _ qM_49)) ?_
    refine x_iload_n C dX9_value_29 rfl 1 rfl ?_
    refine x_lald (n := 16) C dX9_value_30 (xc_60 G h8) (by decide) ?_
    refine x_aload_n C dX9_value_31 rfl 0 rfl ?_
    refine x_get (v := .ref (xad G 60)) C 13 dX9_value_32 (xc_51 G h8) rfl (by decide) rfl (fun w h => List.mem_cons_of_mem _ (iWM_X9 w h)) (by decide) rfl (C.2.2.2.2.1 _ (List.mem_cons_of_mem _ qM_49)) ?_
    refine x_iconst (v := 0) C dX9_value_35 (by decide) ?_
    refine x_lald (n := 16) C dX9_value_36 (xc_60 G h8) (by decide) ?_
    refine x_lsub C dX9_value_37 ?_
    exact x_lret C dX9_value_38 hr
/-! X9_boundOf: 36 instructions -/
abbrev J_X9_boundOf (G : xG) (p : Program) (l : Launch) (e : Env) (s : State) (m : MethodId) (args : Array Value) (below : List Frame) (meth : Method) (c : Code) : Nat → List (Nat × Value) → List Value → xHp → Option (Int64 × xHp) → Prop := xJ G p l e ({ frames := 1, cells := 0, slots := 0, locals := 26 } : Room) s m args below meth c 6 (fun res => MQ below (xQl G res) args s 0 0 (xA G))
def F_X9_boundOf_52 (N : Nat) (k12 : Int32 → Int64 → Int32 → xHp → Option (Int64 × xHp)) (x1 : Int32) (x5 : Int32) (s0 : Int64) (h : xHp) : Option (Int64 × xHp) := k12 x1 s0 (x5 + 1) h
def F_X9_boundOf_12_b (N : Nat) (k12 : Int32 → Int64 → Int32 → xHp → Option (Int64 × xHp)) (x1 : Int32) (x3 : Int64) (x5 : Int32) (h : xHp) : Option (Int64 × xHp) := if 16 < x5 then some (x3, h) else grd (xin ((16 * x5) + x1) 272) (if 0 ≤ (lg_cmp (gJ h 58 ((16 * x5) + x1).toNatClampNeg) x3) then F_X9_boundOf_52 N k12 x1 x5 x3 h else grd (xin ((16 * x5) + x1) 272) (F_X9_boundOf_52 N k12 x1 x5 (gJ h 58 ((16 * x5) + x1).toNatClampNeg) h))
def F_X9_boundOf_12 (N : Nat) (x1 : Int32) (x3 : Int64) (x5 : Int32) (h : xHp) : Option (Int64 × xHp) := xit (F_X9_boundOf_12_b N) (fun _ _ _ _ => none) N x1 x3 x5 h
def F_X9_boundOf (N : Nat) (p1 : Int32) (p2 : Int32) (h : xHp) : Option (Int64 × xHp) := bnd2 (F_X9_findLeast N p2 h) fun r1 h2 => F_X9_boundOf_12 N p1 1152921504606846976 0 h2
set_option maxHeartbeats 4000000 in
set_option maxRecDepth 100000 in
theorem T_X9_boundOf_52 {G : xG} {p : Program} {l : Launch} {e : Env} {s : State} {m : MethodId} {args : Array Value} {below : List Frame} {meth : Method} {c : Code} {N : Nat} (C : xC G p s m args meth c cX9_boundOf 6 vX9_boundOf RX9) (hr : meth.sig.returnType = (some .long)) {k12 : Int32 → Int64 → Int32 → xHp → Option (Int64 × xHp)} (hk12 : ∀ (x1 : Int32) (x3 : Int64) (x5 : Int32) (h : xHp), J_X9_boundOf G p l e s m args below meth c 12 [(0, .ref (xad G 51)), (1, .int x1), (3, .long x3), (5, .int x5)] [] h (k12 x1 x3 x5 h)) (x1 : Int32) (x5 : Int32) (s0 : Int64) (h : xHp) : J_X9_boundOf G p l e s m args below meth c 52 [(0, .ref (xad G 51)), (1, .int x1), (5, .int x5)] [.long s0] h (F_X9_boundOf_52 N k12 x1 x5 s0 h) := by
  unfold F_X9_boundOf_52
  refine x_lstore_n (lv' := [(3, .long s0), (0, .ref (xad G 51)), (1, .int x1), (5, .int x5)]) C dX9_boundOf_52 rfl (by decide) rfl ?_
  refine x_iinc (v := (x5 + 1)) (j := 3) (lv' := [(5, .int (x5 + 1)), (3, .long s0), (0, .ref (xad G 51)), (1, .int x1)]) C dX9_boundOf_53 rfl (by rfl) (by decide) rfl ?_
  refine x_goto (tgt := 12) C dX9_boundOf_56 (by decide) ?_
  exact x_sub [2, 3, 1, 0] rfl (hk12 x1 s0 (x5 + 1) h)
set_option maxHeartbeats 4000000 in
set_option maxRecDepth 100000 in
theorem T_X9_boundOf_12_b {G : xG} {p : Program} {l : Launch} {e : Env} {s : State} {m : MethodId} {args : Array Value} {below : List Frame} {meth : Method} {c : Code} {N : Nat} (C : xC G p s m args meth c cX9_boundOf 6 vX9_boundOf RX9) (hr : meth.sig.returnType = (some .long)) {k12 : Int32 → Int64 → Int32 → xHp → Option (Int64 × xHp)} (hk12 : ∀ (x1 : Int32) (x3 : Int64) (x5 : Int32) (h : xHp), J_X9_boundOf G p l e s m args below meth c 12 [(0, .ref (xad G 51)), (1, .int x1), (3, .long x3), (5, .int x5)] [] h (k12 x1 x3 x5 h)) (x1 : Int32) (x3 : Int64) (x5 : Int32) (h : xHp) : J_X9_boundOf G p l e s m args below meth c 12 [(0, .ref (xad G 51)), (1, .int x1), (3, .long x3), (5, .int x5)] [] h (F_X9_boundOf_12_b N k12 x1 x3 x5 h) := by
  unfold F_X9_boundOf_12_b
  refine x_iload C dX9_boundOf_12 3 rfl ?_
  refine x_bipush (v := 16) C dX9_boundOf_14 (by decide) ?_
  refine x_icmp_gt (tgt := 59) C dX9_boundOf_16 (by decide) ?_ ?_
  · refine x_lload_n C dX9_boundOf_59 rfl 2 rfl ?_
    exact x_lret C dX9_boundOf_60 hr
  · refine x_aload_n C dX9_boundOf_19 rfl 0 rfl ?_
    refine x_get (v := .ref (xad G 58)) C 10 dX9_boundOf_20 (xc_51 G h) rfl (by decide) rfl (fun w h => List.mem_cons_of_mem _ (iWM_X9 w h)) (by decide) rfl (C.2.2.2.2.1 _ (List.mem_cons_of_mem _ qM_14)) ?_
    refine x_bipush (v := 16) C dX9_boundOf_23 (by decide) ?_
    refine x_iload C dX9_boundOf_25 3 rfl ?_
    refine x_imul C dX9_boundOf_27 ?_
    refine x_iload_n C dX9_boundOf_28 rfl 1 rfl ?_
    refine x_iadd C dX9_boundOf_29 ?_
    refine x_lald (n := 272) C dX9_boundOf_30 (xc_58 G h) (by decide) ?_
    refine x_lload_n C dX9_boundOf_31 rfl 2 rfl ?_
    refine x_lcmp C dX9_boundOf_32 ?_
    refine x_if_ge (tgt := 51) C dX9_boundOf_33 (by decide) ?_ ?_
    · refine x_lload_n C dX9_boundOf_51 rfl 2 rfl ?_
      exact x_sub [0, 1, 3] rfl (T_X9_boundOf_52 C hr hk12 x1 x5 x3 h)
    · refine x_aload_n C dX9_boundOf_36 rfl 0 rfl ?_
      refine x_get (v := .ref (xad G 58)) C 10 dX9_boundOf_37 (xc_51 G h) rfl (by decide) rfl (fun w h => List.mem_cons_of_mem _ (iWM_X9 w h)) (by decide) rfl (C.2.2.2.2.1 _ (List.mem_cons_of_mem _ qM_14)) ?_
      refine x_bipush (v := 16) C dX9_boundOf_40 (by decide) ?_
      refine x_iload C dX9_boundOf_42 3 rfl ?_
      refine x_imul C dX9_boundOf_44 ?_
      refine x_iload_n C dX9_boundOf_45 rfl 1 rfl ?_
      refine x_iadd C dX9_boundOf_46 ?_
      refine x_lald (n := 272) C dX9_boundOf_47 (xc_58 G h) (by decide) ?_
      refine x_goto (tgt := 52) C dX9_boundOf_48 (by decide) ?_
      exact x_sub [0, 1, 3] rfl (T_X9_boundOf_52 C hr hk12 x1 x5 (gJ h 58 ((16 * x5) + x1).toNatClampNeg) h)
set_option maxHeartbeats 4000000 in
set_option maxRecDepth 100000 in
theorem T_X9_boundOf_12_n {G : xG} {p : Program} {l : Launch} {e : Env} {s : State} {m : MethodId} {args : Array Value} {below : List Frame} {meth : Method} {c : Code} {N : Nat} (C : xC G p s m args meth c cX9_boundOf 6 vX9_boundOf RX9) (hr : meth.sig.returnType = (some .long)) : ∀ (n : Nat) (x1 : Int32) (x3 : Int64) (x5 : Int32) (h : xHp), J_X9_boundOf G p l e s m args below meth c 12 [(0, .ref (xad G 51)), (1, .int x1), (3, .long x3), (5, .int x5)] [] h (xit (F_X9_boundOf_12_b N) (fun _ _ _ _ => none) n x1 x3 x5 h) := by
  intro n
  induction n with
  | zero => intros; exact x_none
  | succ n ih => intros; exact T_X9_boundOf_12_b C hr ih _ _ _ _
set_option maxHeartbeats 4000000 in
set_option maxRecDepth 100000 in
theorem T_X9_boundOf_12 {G : xG} {p : Program} {l : Launch} {e : Env} {s : State} {m : MethodId} {args : Array Value} {below : List Frame} {meth : Method} {c : Code} {N : Nat} (C : xC G p s m args meth c cX9_boundOf 6 vX9_boundOf RX9) (hr : meth.sig.returnType = (some .long)) (x1 : Int32) (x3 : Int64) (x5 : Int32) (h : xHp) : J_X9_boundOf G p l e s m args below meth c 12 [(0, .ref (xad G 51)), (1, .int x1), (3, .long x3), (5, .int x5)] [] h (F_X9_boundOf_12 N x1 x3 x5 h) := T_X9_boundOf_12_n C hr N x1 x3 x5 h
set_option maxHeartbeats 4000000 in
set_option maxRecDepth 100000 in
theorem M_X9_boundOf (G : xG) (l : Launch) (N : Nat) (p1 : Int32) (p2 : Int32) (h : xHp) : ∀ r, F_X9_boundOf N p1 p2 h = some r → Met l yX9_boundOf vX9_boundOf ({ frames := 1, cells := 0, slots := 0, locals := 26 } : Room) (xPc G [.ref (xad G 51), .int p1, .int p2] h) (xQl G r) 0 0 (xA G) := by
  refine x_met (own := RX9) (cc := cX9_boundOf) (maxL := 6) (ret := (some .long)) (lv0 := [(0, .ref (xad G 51)), (1, .int p1), (2, .int p2)]) (by decide +kernel) rfl rfl (Nat.le_of_ble_eq_true rfl) rfl ?_
  intro p e s m below meth c C hr
  unfold F_X9_boundOf
  refine x_aload_n C dX9_boundOf_0 rfl 0 rfl ?_
  refine x_iload_n C dX9_boundOf_1 rfl 2 rfl ?_
  refine x_callVv C dX9_boundOf_2 (M_X9_findLeast G l N p2 h) (cwV 1 C.2.2.2.2.1 (gdV gWM qM_22 qM_23 qM_24 qM_9 qM_13) rfl rfl rfl (by decide +kernel) ⟨Nat.le_of_ble_eq_true rfl, Nat.le_of_ble_eq_true rfl⟩) (xc_51 G h) (by decide) rfl rfl rfl (Nat.le_of_ble_eq_true rfl) (fun r1 h2 => ?_)
  refine x_ldc2 (v := 1152921504606846976) C dX9_boundOf_5 (C.2.2.2.2.1 _ (List.mem_cons_of_mem _ qM_15)) ?_
  refine x_lstore_n (lv' := [(3, .long 1152921504606846976), (0, .ref (xad G 51)), (1, .int p1), (2, .int p2)]) C dX9_boundOf_8 rfl (by decide) rfl ?_
  refine x_iconst (v := 0) C dX9_boundOf_9 (by decide) ?_
  refine x_istore (lv' := [(5, .int 0), (3, .long 1152921504606846976), (0, .ref (xad G 51)), (1, .int p1), (2, .int p2)]) C dX9_boundOf_10 (by decide) rfl ?_
  exact x_sub [2, 3, 1, 0] rfl (T_X9_boundOf_12 C hr p1 1152921504606846976 0 h2)
/-! X9_bound: 33 instructions -/
abbrev J_X9_bound (G : xG) (p : Program) (l : Launch) (e : Env) (s : State) (m : MethodId) (args : Array Value) (below : List Frame) (meth : Method) (c : Code) : Nat → List (Nat × Value) → List Value → xHp → Option (Int64 × xHp) → Prop := xJ G p l e ({ frames := 2, cells := 0, slots := 0, locals := 51 } : Room) s m args below meth c 5 (fun res => MQ below (xQl G res) args s 0 0 (xA G))
def F_X9_bound_22 (N : Nat) (x1 : Int32) (x2 : Int32) (s1 : Int32) (h : xHp) : Option (Int64 × xHp) := bnd2 (F_X9_may N s1 1 1 h) fun r1 h2 => if r1 = 0 then some (0, h2) else bnd2 (F_X9_constraintsAlone N h2) fun r3 h4 => bnd2 (F_X9_boundOf N x1 x2 h4) fun r5 h6 => if (lg_cmp r5 1152921504606846976) = 0 then some ((-9223372036854775808), h6) else some (r5, h6)
def F_X9_bound_21 (N : Nat) (x1 : Int32) (x2 : Int32) (h : xHp) : Option (Int64 × xHp) := F_X9_bound_22 N x1 x2 0 h
def F_X9_bound (N : Nat) (p1 : Int32) (p2 : Int32) (h : xHp) : Option (Int64 × xHp) := bnd2 (F_X9_isVariable N p1 h) fun r1 h2 => if r1 = 0 then F_X9_bound_21 N p1 p2 h2 else bnd2 (F_X9_isVariable N p2 h2) fun r3 h4 => if r3 = 0 then F_X9_bound_21 N p1 p2 h4 else F_X9_bound_22 N p1 p2 1 h4
set_option maxHeartbeats 4000000 in
set_option maxRecDepth 100000 in
theorem T_X9_bound_22 {G : xG} {p : Program} {l : Launch} {e : Env} {s : State} {m : MethodId} {args : Array Value} {below : List Frame} {meth : Method} {c : Code} {N : Nat} (C : xC G p s m args meth c cX9_bound 5 vX9_bound RX9) (hr : meth.sig.returnType = (some .long)) (x1 : Int32) (x2 : Int32) (s1 : Int32) (h : xHp) : J_X9_bound G p l e s m args below meth c 22 [(0, .ref (xad G 51)), (1, .int x1), (2, .int x2)] [.int s1, .ref (xad G 51)] h (F_X9_bound_22 N x1 x2 s1 h) := by
  unfold F_X9_bound_22
  refine x_iconst (v := 1) C dX9_bound_22 (by decide) ?_
  refine x_iconst (v := 1) C dX9_bound_23 (by decide) ?_
  refine x_callVi C dX9_bound_24 (M_X9_may G l N s1 1 1 h) (cwV 3 C.2.2.2.2.1 (gdV gWM qM_33 qM_34 qM_35 qM_9 qM_4) rfl rfl rfl (by decide +kernel) ⟨Nat.le_of_ble_eq_true rfl, Nat.le_of_ble_eq_true rfl⟩) (xc_51 G h) (by decide) rfl rfl rfl (Nat.le_of_ble_eq_true rfl) (fun r1 h2 => ?_)
  refine x_if_ne (tgt := 32) C dX9_bound_27 (by decide) ?_ ?_
  · refine x_lconst (v := 0) C dX9_bound_30 (by decide) ?_
    exact x_lret C dX9_bound_31 hr
  · refine x_aload_n C dX9_bound_32 rfl 0 rfl ?_
    refine x_callVv C dX9_bound_33 (M_X9_constraintsAlone G l N h2) (cwV 0 C.2.2.2.2.1 (gdV gWM qM_36 qM_37 qM_38 qM_9 qM_10) rfl rfl rfl (by decide +kernel) ⟨Nat.le_of_ble_eq_true rfl, Nat.le_of_ble_eq_true rfl⟩) (xc_51 G h2) (by decide) rfl rfl rfl (Nat.le_of_ble_eq_true rfl) (fun r3 h4 => ?_)
    refine x_aload_n C dX9_bound_36 rfl 0 rfl ?_
    refine x_iload_n C dX9_bound_37 rfl 1 rfl ?_
    refine x_iload_n C dX9_bound_38 rfl 2 rfl ?_
    refine x_callVl C dX9_bound_39 (M_X9_boundOf G l N x1 x2 h4) (cwV 2 C.2.2.2.2.1 (gdV gWM qM_56 qM_57 qM_58 qM_9 qM_54) rfl rfl rfl (by decide +kernel) ⟨Nat.le_of_ble_eq_true rfl, Nat.le_of_ble_eq_true rfl⟩) (xc_51 G h4) (by decide) rfl rfl rfl (Nat.le_of_ble_eq_true rfl) (fun r5 h6 => ?_)
    refine x_lstore_n (lv' := [(3, .long r5), (0, .ref (xad G 51)), (1, .int x1), (2, .int x2)]) C dX9_bound_42 rfl (by decide) rfl ?_
    refine x_lload_n C dX9_bound_43 rfl 0 rfl ?_
    refine x_ldc2 (v := 1152921504606846976) C dX9_bound_44 (C.2.2.2.2.1 _ (List.mem_cons_of_mem _ qM_15)) ?_
    refine x_lcmp C dX9_bound_47 ?_
    refine x_if_ne (tgt := 57) C dX9_bound_48 (by decide) ?_ ?_
    · refine x_ldc2 (v := (-9223372036854775808)) C dX9_bound_51 (C.2.2.2.2.1 _ (List.mem_cons_of_mem _ qM_55)) ?_
      refine x_goto (tgt := 58) C dX9_bound_54 (by decide) ?_
      exact x_lret C dX9_bound_58 hr
    · refine x_lload_n C dX9_bound_57 rfl 0 rfl ?_
      exact x_lret C dX9_bound_58 hr
set_option maxHeartbeats 4000000 in
set_option maxRecDepth 100000 in
theorem T_X9_bound_21 {G : xG} {p : Program} {l : Launch} {e : Env} {s : State} {m : MethodId} {args : Array Value} {below : List Frame} {meth : Method} {c : Code} {N : Nat} (C : xC G p s m args meth c cX9_bound 5 vX9_bound RX9) (hr : meth.sig.returnType = (some .long)) (x1 : Int32) (x2 : Int32) (h : xHp) : J_X9_bound G p l e s m args below meth c 21 [(0, .ref (xad G 51)), (1, .int x1), (2, .int x2)] [.ref (xad G 51)] h (F_X9_bound_21 N x1 x2 h) := by
  unfold F_X9_bound_21
  refine x_iconst (v := 0) C dX9_bound_21 (by decide) ?_
  exact x_sub [0, 1, 2] rfl (T_X9_bound_22 C hr x1 x2 0 h)
set_option maxHeartbeats 4000000 in
set_option maxRecDepth 100000 in
theorem M_X9_bound (G : xG) (l : Launch) (N : Nat) (p1 : Int32) (p2 : Int32) (h : xHp) : ∀ r, F_X9_bound N p1 p2 h = some r → Met l yX9_bound vX9_bound ({ frames := 2, cells := 0, slots := 0, locals := 51 } : Room) (xPc G [.ref (xad G 51), .int p1, .int p2] h) (xQl G r) 0 0 (xA G) := by
  refine x_met (own := RX9) (cc := cX9_bound) (maxL := 5) (ret := (some .long)) (lv0 := [(0, .ref (xad G 51)), (1, .int p1), (2, .int p2)]) (by decide +kernel) rfl rfl (Nat.le_of_ble_eq_true rfl) rfl ?_
  intro p e s m below meth c C hr
  unfold F_X9_bound
  refine x_aload_n C dX9_bound_0 rfl 0 rfl ?_
  refine x_aload_n C dX9_bound_1 rfl 0 rfl ?_
  refine x_iload_n C dX9_bound_2 rfl 1 rfl ?_
  refine x_callVi C dX9_bound_3 (M_X9_isVariable G l N p1 h) (cwV 1 C.2.2.2.2.1 (gdV gWM qM_30 qM_31 qM_32 qM_9 qM_5) rfl rfl rfl (by decide +kernel) ⟨Nat.le_of_ble_eq_true rfl, Nat.le_of_ble_eq_true rfl⟩) (xc_51 G h) (by decide) rfl rfl rfl (Nat.le_of_ble_eq_true rfl) (fun r1 h2 => ?_)
  refine x_if_eq (tgt := 21) C dX9_bound_6 (by decide) ?_ ?_
  · exact x_sub [0, 1, 2] rfl (T_X9_bound_21 C hr p1 p2 h2)
  · refine x_aload_n C dX9_bound_9 rfl 0 rfl ?_
    refine x_iload_n C dX9_bound_10 rfl 2 rfl ?_
    refine x_callVi C dX9_bound_11 (M_X9_isVariable G l N p2 h2) (cwV 1 C.2.2.2.2.1 (gdV gWM qM_30 qM_31 qM_32 qM_9 qM_5) rfl rfl rfl (by decide +kernel) ⟨Nat.le_of_ble_eq_true rfl, Nat.le_of_ble_eq_true rfl⟩) (xc_51 G h2) (by decide) rfl rfl rfl (Nat.le_of_ble_eq_true rfl) (fun r3 h4 => ?_)
    refine x_if_eq (tgt := 21) C dX9_bound_14 (by decide) ?_ ?_
    · exact x_sub [0, 1, 2] rfl (T_X9_bound_21 C hr p1 p2 h4)
    · refine x_iconst (v := 1) C dX9_bound_17 (by decide) ?_
      refine x_goto (tgt := 22) C dX9_bound_18 (by decide) ?_
      exact x_sub [0, 1, 2] rfl (T_X9_bound_22 C hr p1 p2 1 h4)
/-! X9_why: 52 instructions -/
abbrev J_X9_why (G : xG) (p : Program) (l : Launch) (e : Env) (s : State) (m : MethodId) (args : Array Value) (below : List Frame) (meth : Method) (c : Code) : Nat → List (Nat × Value) → List Value → xHp → Option (Int32 × xHp) → Prop := xJ G p l e ({ frames := 2, cells := 0, slots := 0, locals := 56 } : Room) s m args below meth c 6 (fun res => MQ below (xQi G res) args s 0 0 (xA G))
def F_X9_why_31 (N : Nat) (x1 : Int32) (x2 : Int32) (x3 : Int32) (s2 : Int32) (s1 : Int32) (h : xHp) : Option (Int32 × xHp) := bnd2 (F_X9_may N s1 s2 1 h) fun r1 h2 => if r1 = 0 then some (0, h2) else bnd2 (F_X9_constraintsAlone N h2) fun r3 h4 => bnd2 (F_X9_boundOf N x1 x2 h4) fun r5 h6 => if (lg_cmp r5 1152921504606846976) = 0 then some ((-1), h6) else bnd2 (F_X9_findRow N x1 x2 r5 h6) fun r7 h8 => if (gI h8 51 12) ≤ x3 then some ((-1), h8) else grd (xin x3 20) (some ((gI h8 59 x3.toNatClampNeg), h8))
def F_X9_why_22 (N : Nat) (x1 : Int32) (x2 : Int32) (x3 : Int32) (s1 : Int32) (h : xHp) : Option (Int32 × xHp) := if x3 < 0 then F_X9_why_31 N x1 x2 x3 0 s1 h else F_X9_why_31 N x1 x2 x3 1 s1 h
def F_X9_why_21 (N : Nat) (x1 : Int32) (x2 : Int32) (x3 : Int32) (h : xHp) : Option (Int32 × xHp) := F_X9_why_22 N x1 x2 x3 0 h
def F_X9_why (N : Nat) (p1 : Int32) (p2 : Int32) (p3 : Int32) (h : xHp) : Option (Int32 × xHp) := bnd2 (F_X9_isVariable N p1 h) fun r1 h2 => if r1 = 0 then F_X9_why_21 N p1 p2 p3 h2 else bnd2 (F_X9_isVariable N p2 h2) fun r3 h4 => if r3 = 0 then F_X9_why_21 N p1 p2 p3 h4 else F_X9_why_22 N p1 p2 p3 1 h4
set_option maxHeartbeats 4000000 in
set_option maxRecDepth 100000 in
theorem T_X9_why_31 {G : xG} {p : Program} {l : Launch} {e : Env} {s : State} {m : MethodId} {args : Array Value} {below : List Frame} {meth : Method} {c : Code} {N : Nat} (C : xC G p s m args meth c cX9_why 6 vX9_why RX9) (hr : meth.sig.returnType = (some .int)) (x1 : Int32) (x2 : Int32) (x3 : Int32) (s2 : Int32) (s1 : Int32) (h : xHp) : J_X9_why G p l e s m args below meth c 31 [(0, .ref (xad G 51)), (1, .int x1), (2, .int x2), (3, .int x3)] [.int s2, .int s1, .ref (xad G 51)] h (F_X9_why_31 N x1 x2 x3 s2 s1 h) := by
  unfold F_X9_why_31
  refine x_iconst (v := 1) C dX9_why_31 (by decide) ?_
  refine x_callVi C dX9_why_32 (M_X9_may G l N s1 s2 1 h) (cwV 3 C.2.2.2.2.1 (gdV gWM qM_33 qM_34 qM_35 qM_9 qM_4) rfl rfl rfl (by decide +kernel) ⟨Nat.le_of_ble_eq_true rfl, Nat.le_of_ble_eq_true rfl⟩) (xc_51 G h) (by decide) rfl rfl rfl (Nat.le_of_ble_eq_true rfl) (fun r1 h2 => ?_)
  refine x_if_ne (tgt := 40) C dX9_why_35 (by decide) ?_ ?_
  · refine x_iconst (v := 0) C dX9_why_38 (by decide) ?_
    exact x_iret C dX9_why_39 hr
  · refine x_aload_n C dX9_why_40 rfl 0 rfl ?_
    refine x_callVv C dX9_why_41 (M_X9_constraintsAlone G l N h2) (cwV 0 C.2.2.2.2.1 (gdV gWM qM_36 qM_37 qM_38 qM_9 qM_10) rfl rfl rfl (by decide +kernel) ⟨Nat.le_of_ble_eq_true rfl, Nat.le_of_ble_eq_true rfl⟩) (xc_51 G h2) (by decide) rfl rfl rfl (Nat.le_of_ble_eq_true rfl) (fun r3 h4 => ?_)
    refine x_aload_n C dX9_why_44 rfl 0 rfl ?_
    refine x_iload_n C dX9_why_45 rfl 1 rfl ?_
    refine x_iload_n C dX9_why_46 rfl 2 rfl ?_
    refine x_callVl C dX9_why_47 (M_X9_boundOf G l N x1 x2 h4) (cwV 2 C.2.2.2.2.1 (gdV gWM qM_56 qM_57 qM_58 qM_9 qM_54) rfl rfl rfl (by decide +kernel) ⟨Nat.le_of_ble_eq_true rfl, Nat.le_of_ble_eq_true rfl⟩) (xc_51 G h4) (by decide) rfl rfl rfl (Nat.le_of_ble_eq_true rfl) (fun r5 h6 => ?_)
    refine x_lstore (lv' := [(4, .long r5), (0, .ref (xad G 51)), (1, .int x1), (2, .int x2), (3, .int x3)]) C dX9_why_50 (by decide) rfl ?_
    refine x_lload C dX9_why_52 0 rfl ?_
    refine x_ldc2 (v := 1152921504606846976) C dX9_why_54 (C.2.2.2.2.1 _ (List.mem_cons_of_mem _ qM_15)) ?_
    refine x_lcmp C dX9_why_57 ?_
    refine x_if_ne (tgt := 63) C dX9_why_58 (by decide) ?_ ?_
    · refine x_iconst (v := (-1)) C dX9_why_61 (by decide) ?_
      exact x_iret C dX9_why_62 hr
    · refine x_aload_n C dX9_why_63 rfl 1 rfl ?_
      refine x_iload_n C dX9_why_64 rfl 2 rfl ?_
      refine x_iload_n C dX9_why_65 rfl 3 rfl ?_
      refine x_lload C dX9_why_66 0 rfl ?_
      refine x_callVi C dX9_why_68 (M_X9_findRow G l N x1 x2 r5 h6) (cwV 3 C.2.2.2.2.1 (gdV gWM qM_39 qM_40 qM_41 qM_9 qM_19) rfl rfl rfl (by decide +kernel) ⟨Nat.le_of_ble_eq_true rfl, Nat.le_of_ble_eq_true rfl⟩) (xc_51 G h6) (by decide) rfl rfl rfl (Nat.le_of_ble_eq_true rfl) (fun r7 h8 => ?_)
      refine x_pop C dX9_why_71 rfl ?_
      refine x_iload_n C dX9_why_72 rfl 4 rfl ?_
      refine x_aload_n C dX9_why_73 rfl 1 rfl ?_
      refine x_get (v := .int (gI h8 51 12)) C 12 dX9_why_74 (xc_51 G h8) rfl (by decide) rfl (fun w h => List.mem_cons_of_mem _ (iWM_X9 w h)) (by decide) rfl (C.2.2.2.2.1 _ (List.mem_cons_of_mem _ qM_20)) ?_
      refine x_icmp_ge (tgt := 89) C dX9_why_77 (by decide) ?_ ?_
      · refine x_iconst (v := (-1)) C dX9_why_89 (by decide) ?_
        exact x_iret C dX9_why_90 hr
      · refine x_aload_n C dX9_why_80 rfl 1 rfl ?_
        refine x_get (v := .ref (xad G 59)) C 11 dX9_why_81 (xc_51 G h8) rfl (by decide) rfl (fun w h => List.mem_cons_of_mem _ (iWM_X9 w h)) (by decide) rfl (C.2.2.2.2.1 _ (List.mem_cons_of_mem _ qM_21)) ?_
        refine x_iload_n C dX9_why_84 rfl 4 rfl ?_
        refine x_iald (n := 20) C dX9_why_85 (xc_59 G h8) (by decide) ?_
        refine x_goto (tgt := 90) C dX9_why_86 (by decide) ?_
        exact x_iret C dX9_why_90 hr
set_option maxHeartbeats 4000000 in
set_option maxRecDepth 100000 in
theorem T_X9_why_22 {G : xG} {p : Program} {l : Launch} {e : Env} {s : State} {m : MethodId} {args : Array Value} {below : List Frame} {meth : Method} {c : Code} {N : Nat} (C : xC G p s m args meth c cX9_why 6 vX9_why RX9) (hr : meth.sig.returnType = (some .int)) (x1 : Int32) (x2 : Int32) (x3 : Int32) (s1 : Int32) (h : xHp) : J_X9_why G p l e s m args below meth c 22 [(0, .ref (xad G 51)), (1, .int x1), (2, .int x2), (3, .int x3)] [.int s1, .ref (xad G 51)] h (F_X9_why_22 N x1 x2 x3 s1 h) := by
  unfold F_X9_why_22
  refine x_iload_n C dX9_why_22 rfl 3 rfl ?_
  refine x_if_lt (tgt := 30) C dX9_why_23 (by decide) ?_ ?_
  · refine x_iconst (v := 0) C dX9_why_30 (by decide) ?_
    exact x_sub [0, 1, 2, 3] rfl (T_X9_why_31 C hr x1 x2 x3 0 s1 h)
  · refine x_iconst (v := 1) C dX9_why_26 (by decide) ?_
    refine x_goto (tgt := 31) C dX9_why_27 (by decide) ?_
    exact x_sub [0, 1, 2, 3] rfl (T_X9_why_31 C hr x1 x2 x3 1 s1 h)
set_option maxHeartbeats 4000000 in
set_option maxRecDepth 100000 in
theorem T_X9_why_21 {G : xG} {p : Program} {l : Launch} {e : Env} {s : State} {m : MethodId} {args : Array Value} {below : List Frame} {meth : Method} {c : Code} {N : Nat} (C : xC G p s m args meth c cX9_why 6 vX9_why RX9) (hr : meth.sig.returnType = (some .int)) (x1 : Int32) (x2 : Int32) (x3 : Int32) (h : xHp) : J_X9_why G p l e s m args below meth c 21 [(0, .ref (xad G 51)), (1, .int x1), (2, .int x2), (3, .int x3)] [.ref (xad G 51)] h (F_X9_why_21 N x1 x2 x3 h) := by
  unfold F_X9_why_21
  refine x_iconst (v := 0) C dX9_why_21 (by decide) ?_
  exact x_sub [0, 1, 2, 3] rfl (T_X9_why_22 C hr x1 x2 x3 0 h)
set_option maxHeartbeats 4000000 in
set_option maxRecDepth 100000 in
theorem M_X9_why (G : xG) (l : Launch) (N : Nat) (p1 : Int32) (p2 : Int32) (p3 : Int32) (h : xHp) : ∀ r, F_X9_why N p1 p2 p3 h = some r → Met l yX9_why vX9_why ({ frames := 2, cells := 0, slots := 0, locals := 56 } : Room) (xPc G [.ref (xad G 51), .int p1, .int p2, .int p3] h) (xQi G r) 0 0 (xA G) := by
  refine x_met (own := RX9) (cc := cX9_why) (maxL := 6) (ret := (some .int)) (lv0 := [(0, .ref (xad G 51)), (1, .int p1), (2, .int p2), (3, .int p3)]) (by decide +kernel) rfl rfl (Nat.le_of_ble_eq_true rfl) rfl ?_
  intro p e s m below meth c C hr
  unfold F_X9_why
  refine x_aload_n C dX9_why_0 rfl 0 rfl ?_
  refine x_aload_n C dX9_why_1 rfl 0 rfl ?_
  refine x_iload_n C dX9_why_2 rfl 1 rfl ?_
  refine x_callVi C dX9_why_3 (M_X9_isVariable G l N p1 h) (cwV 1 C.2.2.2.2.1 (gdV gWM qM_30 qM_31 qM_32 qM_9 qM_5) rfl rfl rfl (by decide +kernel) ⟨Nat.le_of_ble_eq_true rfl, Nat.le_of_ble_eq_true rfl⟩) (xc_51 G h) (by decide) rfl rfl rfl (Nat.le_of_ble_eq_true rfl) (fun r1 h2 => ?_)
  refine x_if_eq (tgt := 21) C dX9_why_6 (by decide) ?_ ?_
  · exact x_sub [0, 1, 2, 3] rfl (T_X9_why_21 C hr p1 p2 p3 h2)
  · refine x_aload_n C dX9_why_9 rfl 0 rfl ?_
    refine x_iload_n C dX9_why_10 rfl 2 rfl ?_
    refine x_callVi C dX9_why_11 (M_X9_isVariable G l N p2 h2) (cwV 1 C.2.2.2.2.1 (gdV gWM qM_30 qM_31 qM_32 qM_9 qM_5) rfl rfl rfl (by decide +kernel) ⟨Nat.le_of_ble_eq_true rfl, Nat.le_of_ble_eq_true rfl⟩) (xc_51 G h2) (by decide) rfl rfl rfl (Nat.le_of_ble_eq_true rfl) (fun r3 h4 => ?_)
    refine x_if_eq (tgt := 21) C dX9_why_14 (by decide) ?_ ?_
    · exact x_sub [0, 1, 2, 3] rfl (T_X9_why_21 C hr p1 p2 p3 h4)
    · refine x_iconst (v := 1) C dX9_why_17 (by decide) ?_
      refine x_goto (tgt := 22) C dX9_why_18 (by decide) ?_
      exact x_sub [0, 1, 2, 3] rfl (T_X9_why_22 C hr p1 p2 p3 1 h4)
