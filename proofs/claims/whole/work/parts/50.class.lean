/-! X1_joined_: 18 instructions -/
abbrev J_X1_joined_ (G : xG) (p : Program) (l : Launch) (e : Env) (s : State) (m : MethodId) (args : Array Value) (below : List Frame) (meth : Method) (c : Code) : Nat → List (Nat × Value) → List Value → xHp → Option (Int32 × xHp) → Prop := xJ G p l e ({ frames := 1, cells := 0, slots := 0, locals := 80 } : Room) s m args below meth c 3 (fun res => MQ below (xQi G res) args s 0 0 (xA G))
def F_X1_joined__25 (N : Nat) (x2 : Int32) (s0 : Int32) (h : xHp) : Option (Int32 × xHp) := some ((if (s0 : Int32) < x2 then x2 else s0), h)
def F_X1_joined_ (N : Nat) (p0 : Int32) (p1 : Int32) (p2 : Int32) (h : xHp) : Option (Int32 × xHp) := if p0 = 13 then some ((if (p2 : Int32) < p1 then p2 else p1), h) else if p0 = 15 then F_X1_joined__25 N p2 (2 - p1) h else F_X1_joined__25 N p2 p1 h
set_option maxHeartbeats 4000000 in
set_option maxRecDepth 100000 in
theorem T_X1_joined__25 {G : xG} {p : Program} {l : Launch} {e : Env} {s : State} {m : MethodId} {args : Array Value} {below : List Frame} {meth : Method} {c : Code} {N : Nat} (C : xCz G p s m args meth c cX1_joined 3 vX1_joined RX1) (hr : meth.sig.returnType = (some .int)) (x2 : Int32) (s0 : Int32) (h : xHp) : J_X1_joined_ G p l e s m args below meth c 25 [(2, .int x2)] [.int s0] h (F_X1_joined__25 N x2 s0 h) := by
  unfold F_X1_joined__25
  refine x_iload_n C.1 dX1_joined_25 rfl 0 rfl ?_
  refine x_mmax C.1 dX1_joined_26 (C.1.2.2.2.2.1 _ (List.mem_cons_of_mem _ qC_22)) (C.1.2.2.2.2.1 _ (List.mem_cons_of_mem _ qC_23)) (C.1.2.2.2.2.1 _ (List.mem_cons_of_mem _ qC_20)) (C.1.2.2.2.2.1 _ (List.mem_cons_of_mem _ qC_24)) (by decide) (by decide) ?_
  exact x_iret C.1 dX1_joined_29 hr
set_option maxHeartbeats 4000000 in
set_option maxRecDepth 100000 in
theorem M_X1_joined_ (G : xG) (l : Launch) (N : Nat) (p0 : Int32) (p1 : Int32) (p2 : Int32) (h : xHp) : ∀ r, F_X1_joined_ N p0 p1 p2 h = some r → Met l yX1_joined vX1_joined ({ frames := 1, cells := 0, slots := 0, locals := 80 } : Room) (xPz G [.int p0, .int p1, .int p2] h) (xQi G r) 0 0 (xA G) := by
  refine z_met (own := RX1) (cc := cX1_joined) (maxL := 3) (ret := (some .int)) (lv0 := [(0, .int p0), (1, .int p1), (2, .int p2)]) (by decide +kernel) rfl rfl (Nat.le_of_ble_eq_true rfl) rfl ?_
  intro p e s m below meth c C hr
  unfold F_X1_joined_
  refine x_iload_n C.1 dX1_joined_0 rfl 0 rfl ?_
  refine x_bipush (v := 13) C.1 dX1_joined_1 (by decide) ?_
  refine x_icmp_ne (tgt := 12) C.1 dX1_joined_3 (by decide) ?_ ?_
  · refine x_iload_n C.1 dX1_joined_6 rfl 1 rfl ?_
    refine x_iload_n C.1 dX1_joined_7 rfl 2 rfl ?_
    refine x_mmin C.1 dX1_joined_8 (C.1.2.2.2.2.1 _ (List.mem_cons_of_mem _ qC_18)) (C.1.2.2.2.2.1 _ (List.mem_cons_of_mem _ qC_19)) (C.1.2.2.2.2.1 _ (List.mem_cons_of_mem _ qC_20)) (C.1.2.2.2.2.1 _ (List.mem_cons_of_mem _ qC_21)) (by decide) (by decide) ?_
    exact x_iret C.1 dX1_joined_11 hr
  · refine x_iload_n C.1 dX1_joined_12 rfl 0 rfl ?_
    refine x_bipush (v := 15) C.1 dX1_joined_13 (by decide) ?_
    refine x_icmp_ne (tgt := 24) C.1 dX1_joined_15 (by decide) ?_ ?_
    · refine x_iconst (v := 2) C.1 dX1_joined_18 (by decide) ?_
      refine x_iload_n C.1 dX1_joined_19 rfl 1 rfl ?_
      refine x_isub C.1 dX1_joined_20 ?_
      refine x_goto (tgt := 25) C.1 dX1_joined_21 (by decide) ?_
      exact x_sub [2] rfl (T_X1_joined__25 C hr p2 (2 - p1) h)
    · refine x_iload_n C.1 dX1_joined_24 rfl 1 rfl ?_
      exact x_sub [2] rfl (T_X1_joined__25 C hr p2 p1 h)
/-! X3_isRelation: 22 instructions -/
abbrev J_X3_isRelation (G : xG) (p : Program) (l : Launch) (e : Env) (s : State) (m : MethodId) (args : Array Value) (below : List Frame) (meth : Method) (c : Code) : Nat → List (Nat × Value) → List Value → xHp → Option (Int32 × xHp) → Prop := xJ G p l e ({ frames := 0, cells := 0, slots := 0, locals := 0 } : Room) s m args below meth c 1 (fun res => MQ below (xQi G res) args s 0 0 (xA G))
def F_X3_isRelation_38 (N : Nat) (h : xHp) : Option (Int32 × xHp) := some (1, h)
def F_X3_isRelation (N : Nat) (p0 : Int32) (h : xHp) : Option (Int32 × xHp) := if p0 = 256 then F_X3_isRelation_38 N h else if p0 = 60 then F_X3_isRelation_38 N h else if p0 = 257 then F_X3_isRelation_38 N h else if p0 = 62 then F_X3_isRelation_38 N h else if p0 = 61 then F_X3_isRelation_38 N h else if p0 = 35 then F_X3_isRelation_38 N h else some (0, h)
set_option maxHeartbeats 4000000 in
set_option maxRecDepth 100000 in
theorem T_X3_isRelation_38 {G : xG} {p : Program} {l : Launch} {e : Env} {s : State} {m : MethodId} {args : Array Value} {below : List Frame} {meth : Method} {c : Code} {N : Nat} (C : xCz G p s m args meth c cX3_isRelation 1 vX3_isRelation RX3) (hr : meth.sig.returnType = (some .boolean)) (h : xHp) : J_X3_isRelation G p l e s m args below meth c 38 [] [] h (F_X3_isRelation_38 N h) := by
  unfold F_X3_isRelation_38
  refine x_iconst (v := 1) C.1 dX3_isRelation_38 (by decide) ?_
  refine x_goto (tgt := 43) C.1 dX3_isRelation_39 (by decide) ?_
  exact x_zretL C.1 dX3_isRelation_43 hr rfl
set_option maxHeartbeats 4000000 in
set_option maxRecDepth 100000 in
theorem M_X3_isRelation (G : xG) (l : Launch) (N : Nat) (p0 : Int32) (h : xHp) : ∀ r, F_X3_isRelation N p0 h = some r → Met l yX3_isRelation vX3_isRelation ({ frames := 0, cells := 0, slots := 0, locals := 0 } : Room) (xPz G [.int p0] h) (xQi G r) 0 0 (xA G) := by
  refine z_met (own := RX3) (cc := cX3_isRelation) (maxL := 1) (ret := (some .boolean)) (lv0 := [(0, .int p0)]) (by decide +kernel) rfl rfl (Nat.le_of_ble_eq_true rfl) rfl ?_
  intro p e s m below meth c C hr
  unfold F_X3_isRelation
  refine x_iload_n C.1 dX3_isRelation_0 rfl 0 rfl ?_
  refine x_sipush (v := 256) C.1 dX3_isRelation_1 (by decide) ?_
  refine x_icmp_eq (tgt := 38) C.1 dX3_isRelation_4 (by decide) ?_ ?_
  · exact x_sub [] rfl (T_X3_isRelation_38 C hr h)
  · refine x_iload_n C.1 dX3_isRelation_7 rfl 0 rfl ?_
    refine x_bipush (v := 60) C.1 dX3_isRelation_8 (by decide) ?_
    refine x_icmp_eq (tgt := 38) C.1 dX3_isRelation_10 (by decide) ?_ ?_
    · exact x_sub [] rfl (T_X3_isRelation_38 C hr h)
    · refine x_iload_n C.1 dX3_isRelation_13 rfl 0 rfl ?_
      refine x_sipush (v := 257) C.1 dX3_isRelation_14 (by decide) ?_
      refine x_icmp_eq (tgt := 38) C.1 dX3_isRelation_17 (by decide) ?_ ?_
      · exact x_sub [] rfl (T_X3_isRelation_38 C hr h)
      · refine x_iload_n C.1 dX3_isRelation_20 rfl 0 rfl ?_
        refine x_bipush (v := 62) C.1 dX3_isRelation_21 (by decide) ?_
        refine x_icmp_eq (tgt := 38) C.1 dX3_isRelation_23 (by decide) ?_ ?_
        · exact x_sub [] rfl (T_X3_isRelation_38 C hr h)
        · refine x_iload_n C.1 dX3_isRelation_26 rfl 0 rfl ?_
          refine x_bipush (v := 61) C.1 dX3_isRelation_27 (by decide) ?_
          refine x_icmp_eq (tgt := 38) C.1 dX3_isRelation_29 (by decide) ?_ ?_
          · exact x_sub [] rfl (T_X3_isRelation_38 C hr h)
          · refine x_iload_n C.1 dX3_isRelation_32 rfl 0 rfl ?_
            refine x_bipush (v := 35) C.1 dX3_isRelation_33 (by decide) ?_
            refine x_icmp_ne (tgt := 42) C.1 dX3_isRelation_35 (by decide) ?_ ?_
            · exact x_sub [] rfl (T_X3_isRelation_38 C hr h)
            · refine x_iconst (v := 0) C.1 dX3_isRelation_42 (by decide) ?_
              exact x_zretL C.1 dX3_isRelation_43 hr rfl
/-! X6_at_26: 20 instructions -/
abbrev J_X6_at_26 (G : xG) (p : Program) (l : Launch) (e : Env) (s : State) (m : MethodId) (args : Array Value) (below : List Frame) (meth : Method) (c : Code) : Nat → List (Nat × Value) → List Value → xHp → Option (Int32 × xHp) → Prop := xJ G p l e ({ frames := 0, cells := 0, slots := 0, locals := 0 } : Room) s m args below meth c 2 (fun res => MQ below (xQi G res) args s 0 0 (xA G))
def F_X6_at_26_34 (N : Nat) (h : xHp) : Option (Int32 × xHp) := some ((-1), h)
def F_X6_at_26 (N : Nat) (p1 : Int32) (h : xHp) : Option (Int32 × xHp) := if p1 < 0 then F_X6_at_26_34 N h else if (gI h 26 1) ≤ p1 then F_X6_at_26_34 N h else if 400 ≤ p1 then F_X6_at_26_34 N h else grd (xin p1 400) (some (((gI h 27 p1.toNatClampNeg) &&& 255), h))
set_option maxHeartbeats 4000000 in
set_option maxRecDepth 100000 in
theorem T_X6_at_26_34 {G : xG} {p : Program} {l : Launch} {e : Env} {s : State} {m : MethodId} {args : Array Value} {below : List Frame} {meth : Method} {c : Code} {N : Nat} (C : xCz G p s m args meth c cX6_at 2 vX6_at RX6) (hr : meth.sig.returnType = (some .int)) (h : xHp) : J_X6_at_26 G p l e s m args below meth c 34 [] [] h (F_X6_at_26_34 N h) := by
  unfold F_X6_at_26_34
  refine x_iconst (v := (-1)) C.1 dX6_at_34 (by decide) ?_
  exact x_iret C.1 dX6_at_35 hr
set_option maxHeartbeats 4000000 in
set_option maxRecDepth 100000 in
theorem M_X6_at_26 (G : xG) (l : Launch) (N : Nat) (p1 : Int32) (h : xHp) : ∀ r, F_X6_at_26 N p1 h = some r → Met l yX6_at vX6_at ({ frames := 0, cells := 0, slots := 0, locals := 0 } : Room) (xPz G [.ref (xad G 26), .int p1] h) (xQi G r) 0 0 (xA G) := by
  refine z_met (own := RX6) (cc := cX6_at) (maxL := 2) (ret := (some .int)) (lv0 := [(0, .ref (xad G 26)), (1, .int p1)]) (by decide +kernel) rfl rfl (Nat.le_of_ble_eq_true rfl) rfl ?_
  intro p e s m below meth c C hr
  unfold F_X6_at_26
  refine x_iload_n C.1 dX6_at_0 rfl 1 rfl ?_
  refine x_if_lt (tgt := 34) C.1 dX6_at_1 (by decide) ?_ ?_
  · exact x_sub [] rfl (T_X6_at_26_34 C hr h)
  · refine x_iload_n C.1 dX6_at_4 rfl 1 rfl ?_
    refine x_aload_n C.1 dX6_at_5 rfl 0 rfl ?_
    refine x_get (v := .int (gI h 26 1)) C.1 1 dX6_at_6 (xc_26 G h) rfl (by decide) rfl (fun w h => List.mem_cons_of_mem _ (iWC_X6 w h)) (by decide) rfl (C.1.2.2.2.2.1 _ (List.mem_cons_of_mem _ qC_8)) ?_
    refine x_icmp_ge (tgt := 34) C.1 dX6_at_9 (by decide) ?_ ?_
    · exact x_sub [] rfl (T_X6_at_26_34 C hr h)
    · refine x_iload_n C.1 dX6_at_12 rfl 1 rfl ?_
      refine x_aload_n C.1 dX6_at_13 rfl 0 rfl ?_
      refine x_get (v := .ref (xad G 27)) C.1 0 dX6_at_14 (xc_26 G h) rfl (by decide) rfl (fun w h => List.mem_cons_of_mem _ (iWC_X6 w h)) (by decide) rfl (C.1.2.2.2.2.1 _ (List.mem_cons_of_mem _ qC_9)) ?_
      refine x_alen (v := 400) (t0 := 0) C.1 dX6_at_17 (xc_27 G h) rfl rfl (by decide) ?_
      refine x_icmp_ge (tgt := 34) C.1 dX6_at_18 (by decide) ?_ ?_
      · exact x_sub [] rfl (T_X6_at_26_34 C hr h)
      · refine x_aload_n C.1 dX6_at_21 rfl 0 rfl ?_
        refine x_get (v := .ref (xad G 27)) C.1 0 dX6_at_22 (xc_26 G h) rfl (by decide) rfl (fun w h => List.mem_cons_of_mem _ (iWC_X6 w h)) (by decide) rfl (C.1.2.2.2.2.1 _ (List.mem_cons_of_mem _ qC_9)) ?_
        refine x_iload_n C.1 dX6_at_25 rfl 1 rfl ?_
        refine x_bald (n := 400) C.1 dX6_at_26 (xc_27 G h) (by decide) ?_
        refine x_sipush (v := 255) C.1 dX6_at_27 (by decide) ?_
        refine x_iand C.1 dX6_at_30 ?_
        refine x_goto (tgt := 35) C.1 dX6_at_31 (by decide) ?_
        exact x_iret C.1 dX6_at_35 hr
/-! X8_figureOf: 12 instructions -/
abbrev J_X8_figureOf (G : xG) (p : Program) (l : Launch) (e : Env) (s : State) (m : MethodId) (args : Array Value) (below : List Frame) (meth : Method) (c : Code) : Nat → List (Nat × Value) → List Value → xHp → Option (Int32 × xHp) → Prop := xJ G p l e ({ frames := 0, cells := 0, slots := 0, locals := 0 } : Room) s m args below meth c 1 (fun res => MQ below (xQi G res) args s 0 0 (xA G))
def F_X8_figureOf_19 (N : Nat) (h : xHp) : Option (Int32 × xHp) := some ((-1), h)
def F_X8_figureOf (N : Nat) (p0 : Int32) (h : xHp) : Option (Int32 × xHp) := if p0 < 48 then F_X8_figureOf_19 N h else if 57 < p0 then F_X8_figureOf_19 N h else some ((p0 - 48), h)
set_option maxHeartbeats 4000000 in
set_option maxRecDepth 100000 in
theorem T_X8_figureOf_19 {G : xG} {p : Program} {l : Launch} {e : Env} {s : State} {m : MethodId} {args : Array Value} {below : List Frame} {meth : Method} {c : Code} {N : Nat} (C : xCz G p s m args meth c cX8_figureOf 1 vX8_figureOf RX8) (hr : meth.sig.returnType = (some .int)) (h : xHp) : J_X8_figureOf G p l e s m args below meth c 19 [] [] h (F_X8_figureOf_19 N h) := by
  unfold F_X8_figureOf_19
  refine x_iconst (v := (-1)) C.1 dX8_figureOf_19 (by decide) ?_
  exact x_iret C.1 dX8_figureOf_20 hr
set_option maxHeartbeats 4000000 in
set_option maxRecDepth 100000 in
theorem M_X8_figureOf (G : xG) (l : Launch) (N : Nat) (p0 : Int32) (h : xHp) : ∀ r, F_X8_figureOf N p0 h = some r → Met l yX8_figureOf vX8_figureOf ({ frames := 0, cells := 0, slots := 0, locals := 0 } : Room) (xPz G [.int p0] h) (xQi G r) 0 0 (xA G) := by
  refine z_met (own := RX8) (cc := cX8_figureOf) (maxL := 1) (ret := (some .int)) (lv0 := [(0, .int p0)]) (by decide +kernel) rfl rfl (Nat.le_of_ble_eq_true rfl) rfl ?_
  intro p e s m below meth c C hr
  unfold F_X8_figureOf
  refine x_iload_n C.1 dX8_figureOf_0 rfl 0 rfl ?_
  refine x_bipush (v := 48) C.1 dX8_figureOf_1 (by decide) ?_
  refine x_icmp_lt (tgt := 19) C.1 dX8_figureOf_3 (by decide) ?_ ?_
  · exact x_sub [] rfl (T_X8_figureOf_19 C hr h)
  · refine x_iload_n C.1 dX8_figureOf_6 rfl 0 rfl ?_
    refine x_bipush (v := 57) C.1 dX8_figureOf_7 (by decide) ?_
    refine x_icmp_gt (tgt := 19) C.1 dX8_figureOf_9 (by decide) ?_ ?_
    · exact x_sub [] rfl (T_X8_figureOf_19 C hr h)
    · refine x_iload_n C.1 dX8_figureOf_12 rfl 0 rfl ?_
      refine x_bipush (v := 48) C.1 dX8_figureOf_13 (by decide) ?_
      refine x_isub C.1 dX8_figureOf_15 ?_
      refine x_goto (tgt := 20) C.1 dX8_figureOf_16 (by decide) ?_
      exact x_iret C.1 dX8_figureOf_20 hr
/-! X4_follows: 17 instructions -/
abbrev J_X4_follows (G : xG) (p : Program) (l : Launch) (e : Env) (s : State) (m : MethodId) (args : Array Value) (below : List Frame) (meth : Method) (c : Code) : Nat → List (Nat × Value) → List Value → xHp → Option (Int32 × xHp) → Prop := xJ G p l e ({ frames := 1, cells := 0, slots := 0, locals := 21 } : Room) s m args below meth c 2 (fun res => MQ below (xQi G res) args s 0 0 (xA G))
def F_X4_follows (N : Nat) (p1 : Int32) (h : xHp) : Option (Int32 × xHp) := bnd2 (F_X6_at_26 N (gI h 46 1) h) fun r1 h2 => if r1 = p1 then bnd (sI h2 46 1 ((gI h2 46 1) + 1)) fun h3 => some (1, h3) else some (0, h2)
set_option maxHeartbeats 4000000 in
set_option maxRecDepth 100000 in
theorem M_X4_follows (G : xG) (l : Launch) (N : Nat) (p1 : Int32) (h : xHp) : ∀ r, F_X4_follows N p1 h = some r → Met l yX4_follows vX4_follows ({ frames := 1, cells := 0, slots := 0, locals := 21 } : Room) (xPz G [.ref (xad G 46), .int p1] h) (xQi G r) 0 0 (xA G) := by
  refine z_met (own := RX4) (cc := cX4_follows) (maxL := 2) (ret := (some .boolean)) (lv0 := [(0, .ref (xad G 46)), (1, .int p1)]) (by decide +kernel) rfl rfl (Nat.le_of_ble_eq_true rfl) rfl ?_
  intro p e s m below meth c C hr
  unfold F_X4_follows
  refine x_aload_n C.1 dX4_follows_0 rfl 0 rfl ?_
  refine x_get (v := .ref (xad G 26)) C.1 0 dX4_follows_1 (xc_46 G h) rfl (by decide) rfl (fun w h => List.mem_cons_of_mem _ (iWC_X4 w h)) (by decide) rfl (C.1.2.2.2.2.1 _ (List.mem_cons_of_mem _ qC_191)) ?_
  refine x_aload_n C.1 dX4_follows_4 rfl 0 rfl ?_
  refine x_get (v := .int (gI h 46 1)) C.1 1 dX4_follows_5 (xc_46 G h) rfl (by decide) rfl (fun w h => List.mem_cons_of_mem _ (iWC_X4 w h)) (by decide) rfl (C.1.2.2.2.2.1 _ (List.mem_cons_of_mem _ qC_172)) ?_
  refine z_callVi C dX4_follows_8 (M_X6_at_26 G l N (gI h 46 1) h) (cwV 1 C.1.2.2.2.2.1 (gdV gWC qC_194 qC_14 qC_15 qC_16 qC_7) rfl rfl rfl (by decide +kernel) ⟨Nat.le_of_ble_eq_true rfl, Nat.le_of_ble_eq_true rfl⟩) (xc_26 G h) (by decide) rfl rfl rfl (Nat.le_of_ble_eq_true rfl) (fun r1 h2 => ?_)
  refine x_iload_n C.1 dX4_follows_11 rfl 1 rfl ?_
  refine x_icmp_eq (tgt := 17) C.1 dX4_follows_12 (by decide) ?_ ?_
  · refine x_aload_n C.1 dX4_follows_17 rfl 0 rfl ?_
    refine x_dup C.1 dX4_follows_18 rfl ?_
    refine x_get (v := .int (gI h2 46 1)) C.1 1 dX4_follows_19 (xc_46 G h2) rfl (by decide) rfl (fun w h => List.mem_cons_of_mem _ (iWC_X4 w h)) (by decide) rfl (C.1.2.2.2.2.1 _ (List.mem_cons_of_mem _ qC_172)) ?_
    refine x_iconst (v := 1) C.1 dX4_follows_22 (by decide) ?_
    refine x_iadd C.1 dX4_follows_23 ?_
    refine x_putI (ty0 := tyX4) (ty := .int) C.1 1 dX4_follows_24 (xc_46 G h2) rfl (Nat.le_of_ble_eq_true rfl) (by decide) rfl (fun w h => List.mem_cons_of_mem _ (iWC_X4 w h)) tyX4_ok nmX4 (by decide) rfl rfl (by decide +kernel) rfl rfl (C.1.2.2.2.2.1 _ (List.mem_cons_of_mem _ qC_172)) (fun h3 => ?_)
    refine x_iconst (v := 1) C.1 dX4_follows_27 (by decide) ?_
    exact x_zretL C.1 dX4_follows_28 hr rfl
  · refine x_iconst (v := 0) C.1 dX4_follows_15 (by decide) ?_
    exact x_zretL C.1 dX4_follows_16 hr rfl
/-! X4_scanVariable: 25 instructions -/
abbrev J_X4_scanVariable (G : xG) (p : Program) (l : Launch) (e : Env) (s : State) (m : MethodId) (args : Array Value) (below : List Frame) (meth : Method) (c : Code) : Nat → List (Nat × Value) → List Value → xHp → Option (Int32 × xHp) → Prop := xJ G p l e ({ frames := 0, cells := 0, slots := 0, locals := 0 } : Room) s m args below meth c 2 (fun res => MQ below (xQi G res) args s 0 0 (xA G))
def F_X4_scanVariable_43 (N : Nat) (h : xHp) : Option (Int32 × xHp) := some (262, h)
def F_X4_scanVariable (N : Nat) (p1 : Int32) (h : xHp) : Option (Int32 × xHp) := if p1 = 122 then bnd (sI h 46 4 0) fun h1 => some (259, h1) else bnd (sI h 46 4 ((p1 - 97) + 1)) fun h2 => if p1 < 97 then F_X4_scanVariable_43 N h2 else if 111 < p1 then F_X4_scanVariable_43 N h2 else some (259, h2)
set_option maxHeartbeats 4000000 in
set_option maxRecDepth 100000 in
theorem T_X4_scanVariable_43 {G : xG} {p : Program} {l : Launch} {e : Env} {s : State} {m : MethodId} {args : Array Value} {below : List Frame} {meth : Method} {c : Code} {N : Nat} (C : xCz G p s m args meth c cX4_scanVariable 2 vX4_scanVariable RX4) (hr : meth.sig.returnType = (some .int)) (h : xHp) : J_X4_scanVariable G p l e s m args below meth c 43 [] [] h (F_X4_scanVariable_43 N h) := by
  unfold F_X4_scanVariable_43
  refine x_sipush (v := 262) C.1 dX4_scanVariable_43 (by decide) ?_
  exact x_iret C.1 dX4_scanVariable_46 hr
set_option maxHeartbeats 4000000 in
set_option maxRecDepth 100000 in
theorem M_X4_scanVariable (G : xG) (l : Launch) (N : Nat) (p1 : Int32) (h : xHp) : ∀ r, F_X4_scanVariable N p1 h = some r → Met l yX4_scanVariable vX4_scanVariable ({ frames := 0, cells := 0, slots := 0, locals := 0 } : Room) (xPz G [.ref (xad G 46), .int p1] h) (xQi G r) 0 0 (xA G) := by
  refine z_met (own := RX4) (cc := cX4_scanVariable) (maxL := 2) (ret := (some .int)) (lv0 := [(0, .ref (xad G 46)), (1, .int p1)]) (by decide +kernel) rfl rfl (Nat.le_of_ble_eq_true rfl) rfl ?_
  intro p e s m below meth c C hr
  unfold F_X4_scanVariable
  refine x_iload_n C.1 dX4_scanVariable_0 rfl 1 rfl ?_
  refine x_bipush (v := 122) C.1 dX4_scanVariable_1 (by decide) ?_
  refine x_icmp_ne (tgt := 15) C.1 dX4_scanVariable_3 (by decide) ?_ ?_
  · refine x_aload_n C.1 dX4_scanVariable_6 rfl 0 rfl ?_
    refine x_iconst (v := 0) C.1 dX4_scanVariable_7 (by decide) ?_
    refine x_putI (ty0 := tyX4) (ty := .int) C.1 4 dX4_scanVariable_8 (xc_46 G h) rfl (Nat.le_of_ble_eq_true rfl) (by decide) rfl (fun w h => List.mem_cons_of_mem _ (iWC_X4 w h)) tyX4_ok nmX4 (by decide) rfl rfl (by decide +kernel) rfl rfl (C.1.2.2.2.2.1 _ (List.mem_cons_of_mem _ qC_190)) (fun h1 => ?_)
    refine x_sipush (v := 259) C.1 dX4_scanVariable_11 (by decide) ?_
    exact x_iret C.1 dX4_scanVariable_14 hr
  · refine x_aload_n C.1 dX4_scanVariable_15 rfl 0 rfl ?_
    refine x_iload_n C.1 dX4_scanVariable_16 rfl 1 rfl ?_
    refine x_bipush (v := 97) C.1 dX4_scanVariable_17 (by decide) ?_
    refine x_isub C.1 dX4_scanVariable_19 ?_
    refine x_iconst (v := 1) C.1 dX4_scanVariable_20 (by decide) ?_
    refine x_iadd C.1 dX4_scanVariable_21 ?_
    refine x_putI (ty0 := tyX4) (ty := .int) C.1 4 dX4_scanVariable_22 (xc_46 G h) rfl (Nat.le_of_ble_eq_true rfl) (by decide) rfl (fun w h => List.mem_cons_of_mem _ (iWC_X4 w h)) tyX4_ok nmX4 (by decide) rfl rfl (by decide +kernel) rfl rfl (C.1.2.2.2.2.1 _ (List.mem_cons_of_mem _ qC_190)) (fun h2 => ?_)
    refine x_iload_n C.1 dX4_scanVariable_25 rfl 1 rfl ?_
    refine x_bipush (v := 97) C.1 dX4_scanVariable_26 (by decide) ?_
    refine x_icmp_lt (tgt := 43) C.1 dX4_scanVariable_28 (by decide) ?_ ?_
    · exact x_sub [] rfl (T_X4_scanVariable_43 C hr h2)
    · refine x_iload_n C.1 dX4_scanVariable_31 rfl 1 rfl ?_
      refine x_bipush (v := 111) C.1 dX4_scanVariable_32 (by decide) ?_
      refine x_icmp_gt (tgt := 43) C.1 dX4_scanVariable_34 (by decide) ?_ ?_
      · exact x_sub [] rfl (T_X4_scanVariable_43 C hr h2)
      · refine x_sipush (v := 259) C.1 dX4_scanVariable_37 (by decide) ?_
        refine x_goto (tgt := 46) C.1 dX4_scanVariable_40 (by decide) ?_
        exact x_iret C.1 dX4_scanVariable_46 hr
/-! X4_scanNumber: 59 instructions -/
abbrev J_X4_scanNumber (G : xG) (p : Program) (l : Launch) (e : Env) (s : State) (m : MethodId) (args : Array Value) (below : List Frame) (meth : Method) (c : Code) : Nat → List (Nat × Value) → List Value → xHp → Option (Int32 × xHp) → Prop := xJ G p l e ({ frames := 1, cells := 0, slots := 0, locals := 21 } : Room) s m args below meth c 1 (fun res => MQ below (xQi G res) args s 0 0 (xA G))
def F_X4_scanNumber_77 (N : Nat) (k5 : xHp → Option (Int32 × xHp)) (h : xHp) : Option (Int32 × xHp) := bnd (sI h 46 1 ((gI h 46 1) + 1)) fun h1 => k5 h1
def F_X4_scanNumber_113 (N : Nat) (h : xHp) : Option (Int32 × xHp) := some (262, h)
def F_X4_scanNumber_90 (N : Nat) (h : xHp) : Option (Int32 × xHp) := if 7 < ((gI h 46 1) - (gI h 46 2)) then F_X4_scanNumber_113 N h else if (gI h 46 4) ≤ 1000000 then some (260, h) else F_X4_scanNumber_113 N h
def F_X4_scanNumber_5_b (N : Nat) (k5 : xHp → Option (Int32 × xHp)) (h : xHp) : Option (Int32 × xHp) := if (gI h 26 1) ≤ (gI h 46 1) then F_X4_scanNumber_90 N h else bnd2 (F_X6_at_26 N (gI h 46 1) h) fun r1 h2 => bnd2 (F_X8_figureOf N r1 h2) fun r3 h4 => if r3 = (-1) then F_X4_scanNumber_90 N h4 else if 7 ≤ ((gI h4 46 1) - (gI h4 46 2)) then F_X4_scanNumber_77 N k5 h4 else bnd2 (F_X6_at_26 N (gI h4 46 1) h4) fun r5 h6 => bnd2 (F_X8_figureOf N r5 h6) fun r7 h8 => bnd (sI h8 46 4 (((gI h4 46 4) * 10) + r7)) fun h9 => F_X4_scanNumber_77 N k5 h9
def F_X4_scanNumber_5 (N : Nat) (h : xHp) : Option (Int32 × xHp) := xit (F_X4_scanNumber_5_b N) (fun _ => none) N h
def F_X4_scanNumber (N : Nat) (h : xHp) : Option (Int32 × xHp) := bnd (sI h 46 4 0) fun h1 => F_X4_scanNumber_5 N h1
set_option maxHeartbeats 4000000 in
set_option maxRecDepth 100000 in
theorem T_X4_scanNumber_77 {G : xG} {p : Program} {l : Launch} {e : Env} {s : State} {m : MethodId} {args : Array Value} {below : List Frame} {meth : Method} {c : Code} {N : Nat} (C : xCz G p s m args meth c cX4_scanNumber 1 vX4_scanNumber RX4) (hr : meth.sig.returnType = (some .int)) {k5 : xHp → Option (Int32 × xHp)} (hk5 : ∀ (h : xHp), J_X4_scanNumber G p l e s m args below meth c 5 [(0, .ref (xad G 46))] [] h (k5 h)) (h : xHp) : J_X4_scanNumber G p l e s m args below meth c 77 [(0, .ref (xad G 46))] [] h (F_X4_scanNumber_77 N k5 h) := by
  unfold F_X4_scanNumber_77
  refine x_aload_n C.1 dX4_scanNumber_77 rfl 0 rfl ?_
  refine x_dup C.1 dX4_scanNumber_78 rfl ?_
  refine x_get (v := .int (gI h 46 1)) C.1 1 dX4_scanNumber_79 (xc_46 G h) rfl (by decide) rfl (fun w h => List.mem_cons_of_mem _ (iWC_X4 w h)) (by decide) rfl (C.1.2.2.2.2.1 _ (List.mem_cons_of_mem _ qC_172)) ?_
  refine x_iconst (v := 1) C.1 dX4_scanNumber_82 (by decide) ?_
  refine x_iadd C.1 dX4_scanNumber_83 ?_
  refine x_putI (ty0 := tyX4) (ty := .int) C.1 1 dX4_scanNumber_84 (xc_46 G h) rfl (Nat.le_of_ble_eq_true rfl) (by decide) rfl (fun w h => List.mem_cons_of_mem _ (iWC_X4 w h)) tyX4_ok nmX4 (by decide) rfl rfl (by decide +kernel) rfl rfl (C.1.2.2.2.2.1 _ (List.mem_cons_of_mem _ qC_172)) (fun h1 => ?_)
  refine x_goto (tgt := 5) C.1 dX4_scanNumber_87 (by decide) ?_
  exact x_sub [0] rfl (hk5 h1)
set_option maxHeartbeats 4000000 in
set_option maxRecDepth 100000 in
theorem T_X4_scanNumber_113 {G : xG} {p : Program} {l : Launch} {e : Env} {s : State} {m : MethodId} {args : Array Value} {below : List Frame} {meth : Method} {c : Code} {N : Nat} (C : xCz G p s m args meth c cX4_scanNumber 1 vX4_scanNumber RX4) (hr : meth.sig.returnType = (some .int)) (h : xHp) : J_X4_scanNumber G p l e s m args below meth c 113 [] [] h (F_X4_scanNumber_113 N h) := by
  unfold F_X4_scanNumber_113
  refine x_sipush (v := 262) C.1 dX4_scanNumber_113 (by decide) ?_
  refine x_goto (tgt := 122) C.1 dX4_scanNumber_116 (by decide) ?_
  exact x_iret C.1 dX4_scanNumber_122 hr
set_option maxHeartbeats 4000000 in
set_option maxRecDepth 100000 in
theorem T_X4_scanNumber_90 {G : xG} {p : Program} {l : Launch} {e : Env} {s : State} {m : MethodId} {args : Array Value} {below : List Frame} {meth : Method} {c : Code} {N : Nat} (C : xCz G p s m args meth c cX4_scanNumber 1 vX4_scanNumber RX4) (hr : meth.sig.returnType = (some .int)) (h : xHp) : J_X4_scanNumber G p l e s m args below meth c 90 [(0, .ref (xad G 46))] [] h (F_X4_scanNumber_90 N h) := by
  unfold F_X4_scanNumber_90
  refine x_aload_n C.1 dX4_scanNumber_90 rfl 0 rfl ?_
  refine x_get (v := .int (gI h 46 1)) C.1 1 dX4_scanNumber_91 (xc_46 G h) rfl (by decide) rfl (fun w h => List.mem_cons_of_mem _ (iWC_X4 w h)) (by decide) rfl (C.1.2.2.2.2.1 _ (List.mem_cons_of_mem _ qC_172)) ?_
  refine x_aload_n C.1 dX4_scanNumber_94 rfl 0 rfl ?_
  refine x_get (v := .int (gI h 46 2)) C.1 2 dX4_scanNumber_95 (xc_46 G h) rfl (by decide) rfl (fun w h => List.mem_cons_of_mem _ (iWC_X4 w h)) (by decide) rfl (C.1.2.2.2.2.1 _ (List.mem_cons_of_mem _ qC_173)) ?_
  refine x_isub C.1 dX4_scanNumber_98 ?_
  refine x_bipush (v := 7) C.1 dX4_scanNumber_99 (by decide) ?_
  refine x_icmp_gt (tgt := 113) C.1 dX4_scanNumber_101 (by decide) ?_ ?_
  · exact x_sub [] rfl (T_X4_scanNumber_113 C hr h)
  · refine x_aload_n C.1 dX4_scanNumber_104 rfl 0 rfl ?_
    refine x_get (v := .int (gI h 46 4)) C.1 4 dX4_scanNumber_105 (xc_46 G h) rfl (by decide) rfl (fun w h => List.mem_cons_of_mem _ (iWC_X4 w h)) (by decide) rfl (C.1.2.2.2.2.1 _ (List.mem_cons_of_mem _ qC_190)) ?_
    refine x_ldc (v := 1000000) C.1 dX4_scanNumber_108 (C.1.2.2.2.2.1 _ (List.mem_cons_of_mem _ qC_193)) ?_
    refine x_icmp_le (tgt := 119) C.1 dX4_scanNumber_110 (by decide) ?_ ?_
    · refine x_sipush (v := 260) C.1 dX4_scanNumber_119 (by decide) ?_
      exact x_iret C.1 dX4_scanNumber_122 hr
    · exact x_sub [] rfl (T_X4_scanNumber_113 C hr h)
set_option maxHeartbeats 4000000 in
set_option maxRecDepth 100000 in
theorem T_X4_scanNumber_5_b {G : xG} {p : Program} {l : Launch} {e : Env} {s : State} {m : MethodId} {args : Array Value} {below : List Frame} {meth : Method} {c : Code} {N : Nat} (C : xCz G p s m args meth c cX4_scanNumber 1 vX4_scanNumber RX4) (hr : meth.sig.returnType = (some .int)) {k5 : xHp → Option (Int32 × xHp)} (hk5 : ∀ (h : xHp), J_X4_scanNumber G p l e s m args below meth c 5 [(0, .ref (xad G 46))] [] h (k5 h)) (h : xHp) : J_X4_scanNumber G p l e s m args below meth c 5 [(0, .ref (xad G 46))] [] h (F_X4_scanNumber_5_b N k5 h) := by
  unfold F_X4_scanNumber_5_b
  refine x_aload_n C.1 dX4_scanNumber_5 rfl 0 rfl ?_
  refine x_get (v := .int (gI h 46 1)) C.1 1 dX4_scanNumber_6 (xc_46 G h) rfl (by decide) rfl (fun w h => List.mem_cons_of_mem _ (iWC_X4 w h)) (by decide) rfl (C.1.2.2.2.2.1 _ (List.mem_cons_of_mem _ qC_172)) ?_
  refine x_aload_n C.1 dX4_scanNumber_9 rfl 0 rfl ?_
  refine x_get (v := .ref (xad G 26)) C.1 0 dX4_scanNumber_10 (xc_46 G h) rfl (by decide) rfl (fun w h => List.mem_cons_of_mem _ (iWC_X4 w h)) (by decide) rfl (C.1.2.2.2.2.1 _ (List.mem_cons_of_mem _ qC_191)) ?_
  refine x_get (v := .int (gI h 26 1)) C.1 1 dX4_scanNumber_13 (xc_26 G h) rfl (by decide) rfl (fun w h => List.mem_cons_of_mem _ (iWC_X6 w h)) (by decide) rfl (C.1.2.2.2.2.1 _ (List.mem_cons_of_mem _ qC_192)) ?_
  refine x_icmp_ge (tgt := 90) C.1 dX4_scanNumber_16 (by decide) ?_ ?_
  · exact x_sub [0] rfl (T_X4_scanNumber_90 C hr h)
  · refine x_aload_n C.1 dX4_scanNumber_19 rfl 0 rfl ?_
    refine x_get (v := .ref (xad G 26)) C.1 0 dX4_scanNumber_20 (xc_46 G h) rfl (by decide) rfl (fun w h => List.mem_cons_of_mem _ (iWC_X4 w h)) (by decide) rfl (C.1.2.2.2.2.1 _ (List.mem_cons_of_mem _ qC_191)) ?_
    refine x_aload_n C.1 dX4_scanNumber_23 rfl 0 rfl ?_
    refine x_get (v := .int (gI h 46 1)) C.1 1 dX4_scanNumber_24 (xc_46 G h) rfl (by decide) rfl (fun w h => List.mem_cons_of_mem _ (iWC_X4 w h)) (by decide) rfl (C.1.2.2.2.2.1 _ (List.mem_cons_of_mem _ qC_172)) ?_
    refine z_callVi C dX4_scanNumber_27 (M_X6_at_26 G l N (gI h 46 1) h) (cwV 1 C.1.2.2.2.2.1 (gdV gWC qC_194 qC_14 qC_15 qC_16 qC_7) rfl rfl rfl (by decide +kernel) ⟨Nat.le_of_ble_eq_true rfl, Nat.le_of_ble_eq_true rfl⟩) (xc_26 G h) (by decide) rfl rfl rfl (Nat.le_of_ble_eq_true rfl) (fun r1 h2 => ?_)
    refine z_callNi (host := RX8) C dX4_scanNumber_30 (M_X8_figureOf G l N r1 h2) ⟨va_cnB 1 C.1.2.2.2.2.1 (gdN gWC qC_36) rfl rfl rfl C.2.2.1 (C.1.2.2.2.2.1 _ (List.mem_cons_of_mem _ qC_52)) (by decide +kernel) ⟨Nat.le_of_ble_eq_true rfl, Nat.le_of_ble_eq_true rfl⟩, (C.1.2.2.2.2.1 _ (List.mem_cons_of_mem _ qC_51)), trivial⟩ rfl rfl (Nat.le_of_ble_eq_true rfl) (fun r3 h4 => ?_)
    refine x_iconst (v := (-1)) C.1 dX4_scanNumber_33 (by decide) ?_
    refine x_icmp_eq (tgt := 90) C.1 dX4_scanNumber_34 (by decide) ?_ ?_
    · exact x_sub [0] rfl (T_X4_scanNumber_90 C hr h4)
    · refine x_aload_n C.1 dX4_scanNumber_37 rfl 0 rfl ?_
      refine x_get (v := .int (gI h4 46 1)) C.1 1 dX4_scanNumber_38 (xc_46 G h4) rfl (by decide) rfl (fun w h => List.mem_cons_of_mem _ (iWC_X4 w h)) (by decide) rfl (C.1.2.2.2.2.1 _ (List.mem_cons_of_mem _ qC_172)) ?_
      refine x_aload_n C.1 dX4_scanNumber_41 rfl 0 rfl ?_
      refine x_get (v := .int (gI h4 46 2)) C.1 2 dX4_scanNumber_42 (xc_46 G h4) rfl (by decide) rfl (fun w h => List.mem_cons_of_mem _ (iWC_X4 w h)) (by decide) rfl (C.1.2.2.2.2.1 _ (List.mem_cons_of_mem _ qC_173)) ?_
      refine x_isub C.1 dX4_scanNumber_45 ?_
      refine x_bipush (v := 7) C.1 dX4_scanNumber_46 (by decide) ?_
      refine x_icmp_ge (tgt := 77) C.1 dX4_scanNumber_48 (by decide) ?_ ?_
      · exact x_sub [0] rfl (T_X4_scanNumber_77 C hr hk5 h4)
      · refine x_aload_n C.1 dX4_scanNumber_51 rfl 0 rfl ?_
        refine x_aload_n C.1 dX4_scanNumber_52 rfl 0 rfl ?_
        refine x_get (v := .int (gI h4 46 4)) C.1 4 dX4_scanNumber_53 (xc_46 G h4) rfl (by decide) rfl (fun w h => List.mem_cons_of_mem _ (iWC_X4 w h)) (by decide) rfl (C.1.2.2.2.2.1 _ (List.mem_cons_of_mem _ qC_190)) ?_
        refine x_bipush (v := 10) C.1 dX4_scanNumber_56 (by decide) ?_
        refine x_imul C.1 dX4_scanNumber_58 ?_
        refine x_aload_n C.1 dX4_scanNumber_59 rfl 0 rfl ?_
        refine x_get (v := .ref (xad G 26)) C.1 0 dX4_scanNumber_60 (xc_46 G h4) rfl (by decide) rfl (fun w h => List.mem_cons_of_mem _ (iWC_X4 w h)) (by decide) rfl (C.1.2.2.2.2.1 _ (List.mem_cons_of_mem _ qC_191)) ?_
        refine x_aload_n C.1 dX4_scanNumber_63 rfl 0 rfl ?_
        refine x_get (v := .int (gI h4 46 1)) C.1 1 dX4_scanNumber_64 (xc_46 G h4) rfl (by decide) rfl (fun w h => List.mem_cons_of_mem _ (iWC_X4 w h)) (by decide) rfl (C.1.2.2.2.2.1 _ (List.mem_cons_of_mem _ qC_172)) ?_
        refine z_callVi C dX4_scanNumber_67 (M_X6_at_26 G l N (gI h4 46 1) h4) (cwV 1 C.1.2.2.2.2.1 (gdV gWC qC_194 qC_14 qC_15 qC_16 qC_7) rfl rfl rfl (by decide +kernel) ⟨Nat.le_of_ble_eq_true rfl, Nat.le_of_ble_eq_true rfl⟩) (xc_26 G h4) (by decide) rfl rfl rfl (Nat.le_of_ble_eq_true rfl) (fun r5 h6 => ?_)
        refine z_callNi (host := RX8) C dX4_scanNumber_70 (M_X8_figureOf G l N r5 h6) ⟨va_cnB 1 C.1.2.2.2.2.1 (gdN gWC qC_36) rfl rfl rfl C.2.2.1 (C.1.2.2.2.2.1 _ (List.mem_cons_of_mem _ qC_52)) (by decide +kernel) ⟨Nat.le_of_ble_eq_true rfl, Nat.le_of_ble_eq_true rfl⟩, (C.1.2.2.2.2.1 _ (List.mem_cons_of_mem _ qC_51)), trivial⟩ rfl rfl (Nat.le_of_ble_eq_true rfl) (fun r7 h8 => ?_)
        refine x_iadd C.1 dX4_scanNumber_73 ?_
        refine x_putI (ty0 := tyX4) (ty := .int) C.1 4 dX4_scanNumber_74 (xc_46 G h8) rfl (Nat.le_of_ble_eq_true rfl) (by decide) rfl (fun w h => List.mem_cons_of_mem _ (iWC_X4 w h)) tyX4_ok nmX4 (by decide) rfl rfl (by decide +kernel) rfl rfl (C.1.2.2.2.2.1 _ (List.mem_cons_of_mem _ qC_190)) (fun h9 => ?_)
        exact x_sub [0] rfl (T_X4_scanNumber_77 C hr hk5 h9)
set_option maxHeartbeats 4000000 in
set_option maxRecDepth 100000 in
theorem T_X4_scanNumber_5_n {G : xG} {p : Program} {l : Launch} {e : Env} {s : State} {m : MethodId} {args : Array Value} {below : List Frame} {meth : Method} {c : Code} {N : Nat} (C : xCz G p s m args meth c cX4_scanNumber 1 vX4_scanNumber RX4) (hr : meth.sig.returnType = (some .int)) : ∀ (n : Nat) (h : xHp), J_X4_scanNumber G p l e s m args below meth c 5 [(0, .ref (xad G 46))] [] h (xit (F_X4_scanNumber_5_b N) (fun _ => none) n h) := by
  intro n
  induction n with
  | zero => intros; exact x_none
  | succ n ih => intros; exact T_X4_scanNumber_5_b C hr ih _
set_option maxHeartbeats 4000000 in
set_option maxRecDepth 100000 in
theorem T_X4_scanNumber_5 {G : xG} {p : Program} {l : Launch} {e : Env} {s : State} {m : MethodId} {args : Array Value} {below : List Frame} {meth : Method} {c : Code} {N : Nat} (C : xCz G p s m args meth c cX4_scanNumber 1 vX4_scanNumber RX4) (hr : meth.sig.returnType = (some .int)) (h : xHp) : J_X4_scanNumber G p l e s m args below meth c 5 [(0, .ref (xad G 46))] [] h (F_X4_scanNumber_5 N h) := T_X4_scanNumber_5_n C hr N h
set_option maxHeartbeats 4000000 in
set_option maxRecDepth 100000 in
theorem M_X4_scanNumber (G : xG) (l : Launch) (N : Nat) (h : xHp) : ∀ r, F_X4_scanNumber N h = some r → Met l yX4_scanNumber vX4_scanNumber ({ frames := 1, cells := 0, slots := 0, locals := 21 } : Room) (xPz G [.ref (xad G 46)] h) (xQi G r) 0 0 (xA G) := by
  refine z_met (own := RX4) (cc := cX4_scanNumber) (maxL := 1) (ret := (some .int)) (lv0 := [(0, .ref (xad G 46))]) (by decide +kernel) rfl rfl (Nat.le_of_ble_eq_true rfl) rfl ?_
  intro p e s m below meth c C hr
  unfold F_X4_scanNumber
  refine x_aload_n C.1 dX4_scanNumber_0 rfl 0 rfl ?_
  refine x_iconst (v := 0) C.1 dX4_scanNumber_1 (by decide) ?_
  refine x_putI (ty0 := tyX4) (ty := .int) C.1 4 dX4_scanNumber_2 (xc_46 G h) rfl (Nat.le_of_ble_eq_true rfl) (by decide) rfl (fun w h => List.mem_cons_of_mem _ (iWC_X4 w h)) tyX4_ok nmX4 (by decide) rfl rfl (by decide +kernel) rfl rfl (C.1.2.2.2.2.1 _ (List.mem_cons_of_mem _ qC_190)) (fun h1 => ?_)
  exact x_sub [0] rfl (T_X4_scanNumber_5 C hr h1)
/-! X4_kindHere: 50 instructions -/
abbrev J_X4_kindHere (G : xG) (p : Program) (l : Launch) (e : Env) (s : State) (m : MethodId) (args : Array Value) (below : List Frame) (meth : Method) (c : Code) : Nat → List (Nat × Value) → List Value → xHp → Option (Int32 × xHp) → Prop := xJ G p l e ({ frames := 2, cells := 0, slots := 0, locals := 42 } : Room) s m args below meth c 2 (fun res => MQ below (xQi G res) args s 0 0 (xA G))
def F_X4_kindHere_178 (N : Nat) (x1 : Int32) (h : xHp) : Option (Int32 × xHp) := some (x1, h)
def F_X4_kindHere (N : Nat) (p1 : Int32) (h : xHp) : Option (Int32 × xHp) := if p1 = (-1) then some (261, h) else bnd2 (F_X8_figureOf N p1 h) fun r1 h2 => if r1 = (-1) then bnd (sI h2 46 1 ((gI h2 46 1) + 1)) fun h3 => if (p1 : Int32) = 35 then F_X4_kindHere_178 N p1 h3 else if (p1 : Int32) = 38 then F_X4_kindHere_178 N p1 h3 else if (p1 : Int32) = 40 then F_X4_kindHere_178 N p1 h3 else if (p1 : Int32) = 41 then F_X4_kindHere_178 N p1 h3 else if (p1 : Int32) = 45 then bnd2 (F_X4_follows N 62 h3) fun r5 h6 => if r5 = 0 then some (45, h6) else some (258, h6) else if (p1 : Int32) = 60 then bnd2 (F_X4_follows N 61 h3) fun r7 h8 => if r7 = 0 then some (60, h8) else some (256, h8) else if (p1 : Int32) = 61 then F_X4_kindHere_178 N p1 h3 else if (p1 : Int32) = 62 then bnd2 (F_X4_follows N 61 h3) fun r9 h10 => if r9 = 0 then some (62, h10) else some (257, h10) else if (p1 : Int32) = 124 then F_X4_kindHere_178 N p1 h3 else if (p1 : Int32) = 126 then F_X4_kindHere_178 N p1 h3 else bnd2 (F_X4_scanVariable N p1 h3) fun r11 h12 => some (r11, h12) else bnd2 (F_X4_scanNumber N h2) fun r13 h14 => some (r13, h14)
set_option maxHeartbeats 4000000 in
set_option maxRecDepth 100000 in
theorem T_X4_kindHere_178 {G : xG} {p : Program} {l : Launch} {e : Env} {s : State} {m : MethodId} {args : Array Value} {below : List Frame} {meth : Method} {c : Code} {N : Nat} (C : xCz G p s m args meth c cX4_kindHere 2 vX4_kindHere RX4) (hr : meth.sig.returnType = (some .int)) (x1 : Int32) (h : xHp) : J_X4_kindHere G p l e s m args below meth c 178 [(1, .int x1)] [] h (F_X4_kindHere_178 N x1 h) := by
  unfold F_X4_kindHere_178
  refine x_iload_n C.1 dX4_kindHere_178 rfl 0 rfl ?_
  exact x_iret C.1 dX4_kindHere_179 hr
set_option maxHeartbeats 4000000 in
set_option maxRecDepth 100000 in
theorem M_X4_kindHere (G : xG) (l : Launch) (N : Nat) (p1 : Int32) (h : xHp) : ∀ r, F_X4_kindHere N p1 h = some r → Met l yX4_kindHere vX4_kindHere ({ frames := 2, cells := 0, slots := 0, locals := 42 } : Room) (xPz G [.ref (xad G 46), .int p1] h) (xQi G r) 0 0 (xA G) := by
  refine z_met (own := RX4) (cc := cX4_kindHere) (maxL := 2) (ret := (some .int)) (lv0 := [(0, .ref (xad G 46)), (1, .int p1)]) (by decide +kernel) rfl rfl (Nat.le_of_ble_eq_true rfl) rfl ?_
  intro p e s m below meth c C hr
  unfold F_X4_kindHere
  refine x_iload_n C.1 dX4_kindHere_0 rfl 1 rfl ?_
  refine x_iconst (v := (-1)) C.1 dX4_kindHere_1 (by decide) ?_
  refine x_icmp_ne (tgt := 9) C.1 dX4_kindHere_2 (by decide) ?_ ?_
  · refine x_sipush (v := 261) C.1 dX4_kindHere_5 (by decide) ?_
    exact x_iret C.1 dX4_kindHere_8 hr
  · refine x_iload_n C.1 dX4_kindHere_9 rfl 1 rfl ?_
    refine z_callNi (host := RX8) C dX4_kindHere_10 (M_X8_figureOf G l N p1 h) ⟨va_cnB 1 C.1.2.2.2.2.1 (gdN gWC qC_36) rfl rfl rfl C.2.2.1 (C.1.2.2.2.2.1 _ (List.mem_cons_of_mem _ qC_52)) (by decide +kernel) ⟨Nat.le_of_ble_eq_true rfl, Nat.le_of_ble_eq_true rfl⟩, (C.1.2.2.2.2.1 _ (List.mem_cons_of_mem _ qC_51)), trivial⟩ rfl rfl (Nat.le_of_ble_eq_true rfl) (fun r1 h2 => ?_)
    refine x_iconst (v := (-1)) C.1 dX4_kindHere_13 (by decide) ?_
    refine x_icmp_eq (tgt := 22) C.1 dX4_kindHere_14 (by decide) ?_ ?_
    · refine x_aload_n C.1 dX4_kindHere_22 rfl 0 rfl ?_
      refine x_dup C.1 dX4_kindHere_23 rfl ?_
      refine x_get (v := .int (gI h2 46 1)) C.1 1 dX4_kindHere_24 (xc_46 G h2) rfl (by decide) rfl (fun w h => List.mem_cons_of_mem _ (iWC_X4 w h)) (by decide) rfl (C.1.2.2.2.2.1 _ (List.mem_cons_of_mem _ qC_172)) ?_
      refine x_iconst (v := 1) C.1 dX4_kindHere_27 (by decide) ?_
      refine x_iadd C.1 dX4_kindHere_28 ?_
      refine x_putI (ty0 := tyX4) (ty := .int) C.1 1 dX4_kindHere_29 (xc_46 G h2) rfl (Nat.le_of_ble_eq_true rfl) (by decide) rfl (fun w h => List.mem_cons_of_mem _ (iWC_X4 w h)) tyX4_ok nmX4 (by decide) rfl rfl (by decide +kernel) rfl rfl (C.1.2.2.2.2.1 _ (List.mem_cons_of_mem _ qC_172)) (fun h3 => ?_)
      refine x_iload_n C.1 dX4_kindHere_32 rfl 1 rfl ?_
      refine x_split _ (fun q4_0 => ?_) (fun q4_0 => ?_)
      · refine x_lookup (off := 145) (tgt := 178) C.1 dX4_kindHere_33 (by decide) (by rw [q4_0]; decide) (by decide) ?_
        exact x_sub [1] rfl (T_X4_kindHere_178 C hr p1 h3)
      · skip
        refine x_split _ (fun q4_1 => ?_) (fun q4_1 => ?_)
        · refine x_lookup (off := 145) (tgt := 178) C.1 dX4_kindHere_33 (by decide) (by rw [q4_1]; decide) (by decide) ?_
          exact x_sub [1] rfl (T_X4_kindHere_178 C hr p1 h3)
        · skip
          refine x_split _ (fun q4_2 => ?_) (fun q4_2 => ?_)
          · refine x_lookup (off := 145) (tgt := 178) C.1 dX4_kindHere_33 (by decide) (by rw [q4_2]; decide) (by decide) ?_
            exact x_sub [1] rfl (T_X4_kindHere_178 C hr p1 h3)
          · skip
            refine x_split _ (fun q4_3 => ?_) (fun q4_3 => ?_)
            · refine x_lookup (off := 145) (tgt := 178) C.1 dX4_kindHere_33 (by decide) (by rw [q4_3]; decide) (by decide) ?_
              exact x_sub [1] rfl (T_X4_kindHere_178 C hr p1 h3)
            · skip
              refine x_split _ (fun q4_4 => ?_) (fun q4_4 => ?_)
              · refine x_lookup (off := 127) (tgt := 160) C.1 dX4_kindHere_33 (by decide) (by rw [q4_4]; decide) (by decide) ?_
                refine x_aload_n C.1 dX4_kindHere_160 rfl 0 rfl ?_
                refine x_bipush (v := 62) C.1 dX4_kindHere_161 (by decide) ?_
                refine z_callVi C dX4_kindHere_163 (M_X4_follows G l N 62 h3) (cwV 1 C.1.2.2.2.2.1 (gdV gWC qC_200 qC_201 qC_202 qC_185 qC_195) rfl rfl rfl (by decide +kernel) ⟨Nat.le_of_ble_eq_true rfl, Nat.le_of_ble_eq_true rfl⟩) (xc_46 G h3) (by decide) rfl rfl rfl (Nat.le_of_ble_eq_true rfl) (fun r5 h6 => ?_)
                refine x_if_eq (tgt := 175) C.1 dX4_kindHere_166 (by decide) ?_ ?_
                · refine x_bipush (v := 45) C.1 dX4_kindHere_175 (by decide) ?_
                  exact x_iret C.1 dX4_kindHere_177 hr
                · refine x_sipush (v := 258) C.1 dX4_kindHere_169 (by decide) ?_
                  refine x_goto (tgt := 177) C.1 dX4_kindHere_172 (by decide) ?_
                  exact x_iret C.1 dX4_kindHere_177 hr
              · skip
                refine x_split _ (fun q4_5 => ?_) (fun q4_5 => ?_)
                · refine x_lookup (off := 91) (tgt := 124) C.1 dX4_kindHere_33 (by decide) (by rw [q4_5]; decide) (by decide) ?_
                  refine x_aload_n C.1 dX4_kindHere_124 rfl 0 rfl ?_
                  refine x_bipush (v := 61) C.1 dX4_kindHere_125 (by decide) ?_
                  refine z_callVi C dX4_kindHere_127 (M_X4_follows G l N 61 h3) (cwV 1 C.1.2.2.2.2.1 (gdV gWC qC_200 qC_201 qC_202 qC_185 qC_195) rfl rfl rfl (by decide +kernel) ⟨Nat.le_of_ble_eq_true rfl, Nat.le_of_ble_eq_true rfl⟩) (xc_46 G h3) (by decide) rfl rfl rfl (Nat.le_of_ble_eq_true rfl) (fun r7 h8 => ?_)
                  refine x_if_eq (tgt := 139) C.1 dX4_kindHere_130 (by decide) ?_ ?_
                  · refine x_bipush (v := 60) C.1 dX4_kindHere_139 (by decide) ?_
                    exact x_iret C.1 dX4_kindHere_141 hr
                  · refine x_sipush (v := 256) C.1 dX4_kindHere_133 (by decide) ?_
                    refine x_goto (tgt := 141) C.1 dX4_kindHere_136 (by decide) ?_
                    exact x_iret C.1 dX4_kindHere_141 hr
                · skip
                  refine x_split _ (fun q4_6 => ?_) (fun q4_6 => ?_)
                  · refine x_lookup (off := 145) (tgt := 178) C.1 dX4_kindHere_33 (by decide) (by rw [q4_6]; decide) (by decide) ?_
                    exact x_sub [1] rfl (T_X4_kindHere_178 C hr p1 h3)
                  · skip
                    refine x_split _ (fun q4_7 => ?_) (fun q4_7 => ?_)
                    · refine x_lookup (off := 109) (tgt := 142) C.1 dX4_kindHere_33 (by decide) (by rw [q4_7]; decide) (by decide) ?_
                      refine x_aload_n C.1 dX4_kindHere_142 rfl 0 rfl ?_
                      refine x_bipush (v := 61) C.1 dX4_kindHere_143 (by decide) ?_
                      refine z_callVi C dX4_kindHere_145 (M_X4_follows G l N 61 h3) (cwV 1 C.1.2.2.2.2.1 (gdV gWC qC_200 qC_201 qC_202 qC_185 qC_195) rfl rfl rfl (by decide +kernel) ⟨Nat.le_of_ble_eq_true rfl, Nat.le_of_ble_eq_true rfl⟩) (xc_46 G h3) (by decide) rfl rfl rfl (Nat.le_of_ble_eq_true rfl) (fun r9 h10 => ?_)
                      refine x_if_eq (tgt := 157) C.1 dX4_kindHere_148 (by decide) ?_ ?_
                      · refine x_bipush (v := 62) C.1 dX4_kindHere_157 (by decide) ?_
                        exact x_iret C.1 dX4_kindHere_159 hr
                      · refine x_sipush (v := 257) C.1 dX4_kindHere_151 (by decide) ?_
                        refine x_goto (tgt := 159) C.1 dX4_kindHere_154 (by decide) ?_
                        exact x_iret C.1 dX4_kindHere_159 hr
                    · skip
                      refine x_split _ (fun q4_8 => ?_) (fun q4_8 => ?_)
                      · refine x_lookup (off := 145) (tgt := 178) C.1 dX4_kindHere_33 (by decide) (by rw [q4_8]; decide) (by decide) ?_
                        exact x_sub [1] rfl (T_X4_kindHere_178 C hr p1 h3)
                      · skip
                        refine x_split _ (fun q4_9 => ?_) (fun q4_9 => ?_)
                        · refine x_lookup (off := 145) (tgt := 178) C.1 dX4_kindHere_33 (by decide) (by rw [q4_9]; decide) (by decide) ?_
                          exact x_sub [1] rfl (T_X4_kindHere_178 C hr p1 h3)
                        · skip
                          refine x_lookup (off := 147) (tgt := 180) C.1 dX4_kindHere_33 (by decide) (by show Op.lookupswitch.offset [(35, 145), (38, 145), (40, 145), (41, 145), (45, 127), (60, 91), (61, 145), (62, 109), (124, 145), (126, 145)] _ _ = _; rw [lv_osw q4_0 (by decide), lv_osw q4_1 (by decide), lv_osw q4_2 (by decide), lv_osw q4_3 (by decide), lv_osw q4_4 (by decide), lv_osw q4_5 (by decide), lv_osw q4_6 (by decide), lv_osw q4_7 (by decide), lv_osw q4_8 (by decide), lv_osw q4_9 (by decide)]; rfl) (by decide) ?_
                          refine x_aload_n C.1 dX4_kindHere_180 rfl 0 rfl ?_
                          refine x_iload_n C.1 dX4_kindHere_181 rfl 1 rfl ?_
                          refine z_callVi C dX4_kindHere_182 (M_X4_scanVariable G l N p1 h3) (cwV 1 C.1.2.2.2.2.1 (gdV gWC qC_203 qC_204 qC_205 qC_185 qC_196) rfl rfl rfl (by decide +kernel) ⟨Nat.le_of_ble_eq_true rfl, Nat.le_of_ble_eq_true rfl⟩) (xc_46 G h3) (by decide) rfl rfl rfl (Nat.le_of_ble_eq_true rfl) (fun r11 h12 => ?_)
                          exact x_iret C.1 dX4_kindHere_185 hr
    · refine x_aload_n C.1 dX4_kindHere_17 rfl 0 rfl ?_
      refine z_callVi C dX4_kindHere_18 (M_X4_scanNumber G l N h2) (cwV 0 C.1.2.2.2.2.1 (gdV gWC qC_197 qC_198 qC_199 qC_185 qC_189) rfl rfl rfl (by decide +kernel) ⟨Nat.le_of_ble_eq_true rfl, Nat.le_of_ble_eq_true rfl⟩) (xc_46 G h2) (by decide) rfl rfl rfl (Nat.le_of_ble_eq_true rfl) (fun r13 h14 => ?_)
      exact x_iret C.1 dX4_kindHere_21 hr
/-! X4_next: 34 instructions -/
abbrev J_X4_next (G : xG) (p : Program) (l : Launch) (e : Env) (s : State) (m : MethodId) (args : Array Value) (below : List Frame) (meth : Method) (c : Code) : Nat → List (Nat × Value) → List Value → xHp → Option (Unit × xHp) → Prop := xJ G p l e ({ frames := 3, cells := 0, slots := 0, locals := 63 } : Room) s m args below meth c 1 (fun res => MQ below (xQv G res) args s 0 0 (xA G))
def F_X4_next_43 (N : Nat) (h : xHp) : Option (Unit × xHp) := bnd (sI h 46 2 (gI h 46 1)) fun h1 => bnd2 (F_X6_at_26 N (gI h1 46 1) h1) fun r2 h3 => bnd2 (F_X4_kindHere N r2 h3) fun r4 h5 => bnd (sI h5 46 3 r4) fun h6 => some ((), h6)
def F_X4_next_0_b (N : Nat) (k0 : xHp → Option (Unit × xHp)) (h : xHp) : Option (Unit × xHp) := if (gI h 26 1) ≤ (gI h 46 1) then F_X4_next_43 N h else bnd2 (F_X6_at_26 N (gI h 46 1) h) fun r1 h2 => if r1 = 32 then bnd (sI h2 46 1 ((gI h2 46 1) + 1)) fun h3 => k0 h3 else F_X4_next_43 N h2
def F_X4_next_0 (N : Nat) (h : xHp) : Option (Unit × xHp) := xit (F_X4_next_0_b N) (fun _ => none) N h
def F_X4_next (N : Nat) (h : xHp) : Option (Unit × xHp) := F_X4_next_0 N h
set_option maxHeartbeats 4000000 in
set_option maxRecDepth 100000 in
theorem T_X4_next_43 {G : xG} {p : Program} {l : Launch} {e : Env} {s : State} {m : MethodId} {args : Array Value} {below : List Frame} {meth : Method} {c : Code} {N : Nat} (C : xCz G p s m args meth c cX4_next 1 vX4_next RX4) (hr : meth.sig.returnType = none) (h : xHp) : J_X4_next G p l e s m args below meth c 43 [(0, .ref (xad G 46))] [] h (F_X4_next_43 N h) := by
  unfold F_X4_next_43
  refine x_aload_n C.1 dX4_next_43 rfl 0 rfl ?_
  refine x_aload_n C.1 dX4_next_44 rfl 0 rfl ?_
  refine x_get (v := .int (gI h 46 1)) C.1 1 dX4_next_45 (xc_46 G h) rfl (by decide) rfl (fun w h => List.mem_cons_of_mem _ (iWC_X4 w h)) (by decide) rfl (C.1.2.2.2.2.1 _ (List.mem_cons_of_mem _ qC_172)) ?_
  refine x_putI (ty0 := tyX4) (ty := .int) C.1 2 dX4_next_48 (xc_46 G h) rfl (Nat.le_of_ble_eq_true rfl) (by decide) rfl (fun w h => List.mem_cons_of_mem _ (iWC_X4 w h)) tyX4_ok nmX4 (by decide) rfl rfl (by decide +kernel) rfl rfl (C.1.2.2.2.2.1 _ (List.mem_cons_of_mem _ qC_173)) (fun h1 => ?_)
  refine x_aload_n C.1 dX4_next_51 rfl 0 rfl ?_
  refine x_aload_n C.1 dX4_next_52 rfl 0 rfl ?_
  refine x_aload_n C.1 dX4_next_53 rfl 0 rfl ?_
  refine x_get (v := .ref (xad G 26)) C.1 0 dX4_next_54 (xc_46 G h1) rfl (by decide) rfl (fun w h => List.mem_cons_of_mem _ (iWC_X4 w h)) (by decide) rfl (C.1.2.2.2.2.1 _ (List.mem_cons_of_mem _ qC_191)) ?_
  refine x_aload_n C.1 dX4_next_57 rfl 0 rfl ?_
  refine x_get (v := .int (gI h1 46 1)) C.1 1 dX4_next_58 (xc_46 G h1) rfl (by decide) rfl (fun w h => List.mem_cons_of_mem _ (iWC_X4 w h)) (by decide) rfl (C.1.2.2.2.2.1 _ (List.mem_cons_of_mem _ qC_172)) ?_
  refine z_callVi C dX4_next_61 (M_X6_at_26 G l N (gI h1 46 1) h1) (cwV 1 C.1.2.2.2.2.1 (gdV gWC qC_194 qC_14 qC_15 qC_16 qC_7) rfl rfl rfl (by decide +kernel) ⟨Nat.le_of_ble_eq_true rfl, Nat.le_of_ble_eq_true rfl⟩) (xc_26 G h1) (by decide) rfl rfl rfl (Nat.le_of_ble_eq_true rfl) (fun r2 h3 => ?_)
  refine z_callVi C dX4_next_64 (M_X4_kindHere G l N r2 h3) (cwV 1 C.1.2.2.2.2.1 (gdV gWC qC_207 qC_208 qC_209 qC_185 qC_206) rfl rfl rfl (by decide +kernel) ⟨Nat.le_of_ble_eq_true rfl, Nat.le_of_ble_eq_true rfl⟩) (xc_46 G h3) (by decide) rfl rfl rfl (Nat.le_of_ble_eq_true rfl) (fun r4 h5 => ?_)
  refine x_putI (ty0 := tyX4) (ty := .int) C.1 3 dX4_next_67 (xc_46 G h5) rfl (Nat.le_of_ble_eq_true rfl) (by decide) rfl (fun w h => List.mem_cons_of_mem _ (iWC_X4 w h)) tyX4_ok nmX4 (by decide) rfl rfl (by decide +kernel) rfl rfl (C.1.2.2.2.2.1 _ (List.mem_cons_of_mem _ qC_174)) (fun h6 => ?_)
  exact x_vret C.1 dX4_next_70 hr
set_option maxHeartbeats 4000000 in
set_option maxRecDepth 100000 in
theorem T_X4_next_0_b {G : xG} {p : Program} {l : Launch} {e : Env} {s : State} {m : MethodId} {args : Array Value} {below : List Frame} {meth : Method} {c : Code} {N : Nat} (C : xCz G p s m args meth c cX4_next 1 vX4_next RX4) (hr : meth.sig.returnType = none) {k0 : xHp → Option (Unit × xHp)} (hk0 : ∀ (h : xHp), J_X4_next G p l e s m args below meth c 0 [(0, .ref (xad G 46))] [] h (k0 h)) (h : xHp) : J_X4_next G p l e s m args below meth c 0 [(0, .ref (xad G 46))] [] h (F_X4_next_0_b N k0 h) := by
  unfold F_X4_next_0_b
  refine x_aload_n C.1 dX4_next_0 rfl 0 rfl ?_
  refine x_get (v := .int (gI h 46 1)) C.1 1 dX4_next_1 (xc_46 G h) rfl (by decide) rfl (fun w h => List.mem_cons_of_mem _ (iWC_X4 w h)) (by decide) rfl (C.1.2.2.2.2.1 _ (List.mem_cons_of_mem _ qC_172)) ?_
  refine x_aload_n C.1 dX4_next_4 rfl 0 rfl ?_
  refine x_get (v := .ref (xad G 26)) C.1 0 dX4_next_5 (xc_46 G h) rfl (by decide) rfl (fun w h => List.mem_cons_of_mem _ (iWC_X4 w h)) (by decide) rfl (C.1.2.2.2.2.1 _ (List.mem_cons_of_mem _ qC_191)) ?_
  refine x_get (v := .int (gI h 26 1)) C.1 1 dX4_next_8 (xc_26 G h) rfl (by decide) rfl (fun w h => List.mem_cons_of_mem _ (iWC_X6 w h)) (by decide) rfl (C.1.2.2.2.2.1 _ (List.mem_cons_of_mem _ qC_192)) ?_
  refine x_icmp_ge (tgt := 43) C.1 dX4_next_11 (by decide) ?_ ?_
  · exact x_sub [0] rfl (T_X4_next_43 C hr h)
  · refine x_aload_n C.1 dX4_next_14 rfl 0 rfl ?_
    refine x_get (v := .ref (xad G 26)) C.1 0 dX4_next_15 (xc_46 G h) rfl (by decide) rfl (fun w h => List.mem_cons_of_mem _ (iWC_X4 w h)) (by decide) rfl (C.1.2.2.2.2.1 _ (List.mem_cons_of_mem _ qC_191)) ?_
    refine x_aload_n C.1 dX4_next_18 rfl 0 rfl ?_
    refine x_get (v := .int (gI h 46 1)) C.1 1 dX4_next_19 (xc_46 G h) rfl (by decide) rfl (fun w h => List.mem_cons_of_mem _ (iWC_X4 w h)) (by decide) rfl (C.1.2.2.2.2.1 _ (List.mem_cons_of_mem _ qC_172)) ?_
    refine z_callVi C dX4_next_22 (M_X6_at_26 G l N (gI h 46 1) h) (cwV 1 C.1.2.2.2.2.1 (gdV gWC qC_194 qC_14 qC_15 qC_16 qC_7) rfl rfl rfl (by decide +kernel) ⟨Nat.le_of_ble_eq_true rfl, Nat.le_of_ble_eq_true rfl⟩) (xc_26 G h) (by decide) rfl rfl rfl (Nat.le_of_ble_eq_true rfl) (fun r1 h2 => ?_)
    refine x_bipush (v := 32) C.1 dX4_next_25 (by decide) ?_
    refine x_icmp_ne (tgt := 43) C.1 dX4_next_27 (by decide) ?_ ?_
    · refine x_aload_n C.1 dX4_next_30 rfl 0 rfl ?_
      refine x_dup C.1 dX4_next_31 rfl ?_
      refine x_get (v := .int (gI h2 46 1)) C.1 1 dX4_next_32 (xc_46 G h2) rfl (by decide) rfl (fun w h => List.mem_cons_of_mem _ (iWC_X4 w h)) (by decide) rfl (C.1.2.2.2.2.1 _ (List.mem_cons_of_mem _ qC_172)) ?_
      refine x_iconst (v := 1) C.1 dX4_next_35 (by decide) ?_
      refine x_iadd C.1 dX4_next_36 ?_
      refine x_putI (ty0 := tyX4) (ty := .int) C.1 1 dX4_next_37 (xc_46 G h2) rfl (Nat.le_of_ble_eq_true rfl) (by decide) rfl (fun w h => List.mem_cons_of_mem _ (iWC_X4 w h)) tyX4_ok nmX4 (by decide) rfl rfl (by decide +kernel) rfl rfl (C.1.2.2.2.2.1 _ (List.mem_cons_of_mem _ qC_172)) (fun h3 => ?_)
      refine x_goto (tgt := 0) C.1 dX4_next_40 (by decide) ?_
      exact x_sub [0] rfl (hk0 h3)
    · exact x_sub [0] rfl (T_X4_next_43 C hr h2)
set_option maxHeartbeats 4000000 in
set_option maxRecDepth 100000 in
theorem T_X4_next_0_n {G : xG} {p : Program} {l : Launch} {e : Env} {s : State} {m : MethodId} {args : Array Value} {below : List Frame} {meth : Method} {c : Code} {N : Nat} (C : xCz G p s m args meth c cX4_next 1 vX4_next RX4) (hr : meth.sig.returnType = none) : ∀ (n : Nat) (h : xHp), J_X4_next G p l e s m args below meth c 0 [(0, .ref (xad G 46))] [] h (xit (F_X4_next_0_b N) (fun _ => none) n h) := by
  intro n
  induction n with
  | zero => intros; exact x_none
  | succ n ih => intros; exact T_X4_next_0_b C hr ih _
set_option maxHeartbeats 4000000 in
set_option maxRecDepth 100000 in
theorem T_X4_next_0 {G : xG} {p : Program} {l : Launch} {e : Env} {s : State} {m : MethodId} {args : Array Value} {below : List Frame} {meth : Method} {c : Code} {N : Nat} (C : xCz G p s m args meth c cX4_next 1 vX4_next RX4) (hr : meth.sig.returnType = none) (h : xHp) : J_X4_next G p l e s m args below meth c 0 [(0, .ref (xad G 46))] [] h (F_X4_next_0 N h) := T_X4_next_0_n C hr N h
set_option maxHeartbeats 4000000 in
set_option maxRecDepth 100000 in
theorem M_X4_next (G : xG) (l : Launch) (N : Nat) (h : xHp) : ∀ r, F_X4_next N h = some r → Met l yX4_next vX4_next ({ frames := 3, cells := 0, slots := 0, locals := 63 } : Room) (xPz G [.ref (xad G 46)] h) (xQv G r) 0 0 (xA G) := by
  refine z_met (own := RX4) (cc := cX4_next) (maxL := 1) (ret := none) (lv0 := [(0, .ref (xad G 46))]) (by decide +kernel) rfl rfl (Nat.le_of_ble_eq_true rfl) rfl ?_
  intro p e s m below meth c C hr
  unfold F_X4_next
  exact x_sub [0] rfl (T_X4_next_0 C hr h)
/-! X3_dropMark: 22 instructions -/
abbrev J_X3_dropMark (G : xG) (p : Program) (l : Launch) (e : Env) (s : State) (m : MethodId) (args : Array Value) (below : List Frame) (meth : Method) (c : Code) : Nat → List (Nat × Value) → List Value → xHp → Option (Int32 × xHp) → Prop := xJ G p l e ({ frames := 0, cells := 0, slots := 0, locals := 0 } : Room) s m args below meth c 2 (fun res => MQ below (xQi G res) args s 0 0 (xA G))
def F_X3_dropMark_22 (N : Nat) (h : xHp) : Option (Int32 × xHp) := some (0, h)
def F_X3_dropMark (N : Nat) (p1 : Int32) (h : xHp) : Option (Int32 × xHp) := if (gI h 44 3) ≤ 0 then F_X3_dropMark_22 N h else grd (xin ((gI h 44 3) - 1) 64) (if (gI h 45 ((gI h 44 3) - 1).toNatClampNeg) = p1 then bnd (sI h 44 3 ((gI h 44 3) - 1)) fun h1 => some (1, h1) else F_X3_dropMark_22 N h)
set_option maxHeartbeats 4000000 in
set_option maxRecDepth 100000 in
theorem T_X3_dropMark_22 {G : xG} {p : Program} {l : Launch} {e : Env} {s : State} {m : MethodId} {args : Array Value} {below : List Frame} {meth : Method} {c : Code} {N : Nat} (C : xCz G p s m args meth c cX3_dropMark 2 vX3_dropMark RX3) (hr : meth.sig.returnType = (some .boolean)) (h : xHp) : J_X3_dropMark G p l e s m args below meth c 22 [] [] h (F_X3_dropMark_22 N h) := by
  unfold F_X3_dropMark_22
  refine x_iconst (v := 0) C.1 dX3_dropMark_22 (by decide) ?_
  exact x_zretL C.1 dX3_dropMark_23 hr rfl
set_option maxHeartbeats 4000000 in
set_option maxRecDepth 100000 in
theorem M_X3_dropMark (G : xG) (l : Launch) (N : Nat) (p1 : Int32) (h : xHp) : ∀ r, F_X3_dropMark N p1 h = some r → Met l yX3_dropMark vX3_dropMark ({ frames := 0, cells := 0, slots := 0, locals := 0 } : Room) (xPz G [.ref (xad G 44), .int p1] h) (xQi G r) 0 0 (xA G) := by
  refine z_met (own := RX3) (cc := cX3_dropMark) (maxL := 2) (ret := (some .boolean)) (lv0 := [(0, .ref (xad G 44)), (1, .int p1)]) (by decide +kernel) rfl rfl (Nat.le_of_ble_eq_true rfl) rfl ?_
  intro p e s m below meth c C hr
  unfold F_X3_dropMark
  refine x_aload_n C.1 dX3_dropMark_0 rfl 0 rfl ?_
  refine x_get (v := .int (gI h 44 3)) C.1 3 dX3_dropMark_1 (xc_44 G h) rfl (by decide) rfl (fun w h => List.mem_cons_of_mem _ (iWC_X3 w h)) (by decide) rfl (C.1.2.2.2.2.1 _ (List.mem_cons_of_mem _ qC_178)) ?_
  refine x_if_le (tgt := 22) C.1 dX3_dropMark_4 (by decide) ?_ ?_
  · exact x_sub [] rfl (T_X3_dropMark_22 C hr h)
  · refine x_aload_n C.1 dX3_dropMark_7 rfl 0 rfl ?_
    refine x_get (v := .ref (xad G 45)) C.1 2 dX3_dropMark_8 (xc_44 G h) rfl (by decide) rfl (fun w h => List.mem_cons_of_mem _ (iWC_X3 w h)) (by decide) rfl (C.1.2.2.2.2.1 _ (List.mem_cons_of_mem _ qC_212)) ?_
    refine x_aload_n C.1 dX3_dropMark_11 rfl 0 rfl ?_
    refine x_get (v := .int (gI h 44 3)) C.1 3 dX3_dropMark_12 (xc_44 G h) rfl (by decide) rfl (fun w h => List.mem_cons_of_mem _ (iWC_X3 w h)) (by decide) rfl (C.1.2.2.2.2.1 _ (List.mem_cons_of_mem _ qC_178)) ?_
    refine x_iconst (v := 1) C.1 dX3_dropMark_15 (by decide) ?_
    refine x_isub C.1 dX3_dropMark_16 ?_
    refine x_iald (n := 64) C.1 dX3_dropMark_17 (xc_45 G h) (by decide) ?_
    refine x_iload_n C.1 dX3_dropMark_18 rfl 1 rfl ?_
    refine x_icmp_eq (tgt := 24) C.1 dX3_dropMark_19 (by decide) ?_ ?_
    · refine x_aload_n C.1 dX3_dropMark_24 rfl 0 rfl ?_
      refine x_dup C.1 dX3_dropMark_25 rfl ?_
      refine x_get (v := .int (gI h 44 3)) C.1 3 dX3_dropMark_26 (xc_44 G h) rfl (by decide) rfl (fun w h => List.mem_cons_of_mem _ (iWC_X3 w h)) (by decide) rfl (C.1.2.2.2.2.1 _ (List.mem_cons_of_mem _ qC_178)) ?_
      refine x_iconst (v := 1) C.1 dX3_dropMark_29 (by decide) ?_
      refine x_isub C.1 dX3_dropMark_30 ?_
      refine x_putI (ty0 := tyX3) (ty := .int) C.1 3 dX3_dropMark_31 (xc_44 G h) rfl (Nat.le_of_ble_eq_true rfl) (by decide) rfl (fun w h => List.mem_cons_of_mem _ (iWC_X3 w h)) tyX3_ok nmX3 (by decide) rfl rfl (by decide +kernel) rfl rfl (C.1.2.2.2.2.1 _ (List.mem_cons_of_mem _ qC_178)) (fun h1 => ?_)
      refine x_iconst (v := 1) C.1 dX3_dropMark_34 (by decide) ?_
      exact x_zretL C.1 dX3_dropMark_35 hr rfl
    · exact x_sub [] rfl (T_X3_dropMark_22 C hr h)
/-! X1_emit_37: 19 instructions -/
abbrev J_X1_emit_37 (G : xG) (p : Program) (l : Launch) (e : Env) (s : State) (m : MethodId) (args : Array Value) (below : List Frame) (meth : Method) (c : Code) : Nat → List (Nat × Value) → List Value → xHp → Option (Unit × xHp) → Prop := xJ G p l e ({ frames := 0, cells := 0, slots := 0, locals := 0 } : Room) s m args below meth c 2 (fun res => MQ below (xQv G res) args s 0 0 (xA G))
def F_X1_emit_37 (N : Nat) (p1 : Int32) (h : xHp) : Option (Unit × xHp) := if (240 : Int32) ≤ (gI h 37 6) then some ((), h) else grd (xin (gI h 37 6) 240) (bnd (sI h 42 (gI h 37 6).toNatClampNeg p1) fun h1 => bnd (sI h1 37 6 ((gI h1 37 6) + 1)) fun h2 => some ((), h2))
set_option maxHeartbeats 4000000 in
set_option maxRecDepth 100000 in
theorem M_X1_emit_37 (G : xG) (l : Launch) (N : Nat) (p1 : Int32) (h : xHp) : ∀ r, F_X1_emit_37 N p1 h = some r → Met l yX1_emit vX1_emit ({ frames := 0, cells := 0, slots := 0, locals := 0 } : Room) (xPz G [.ref (xad G 37), .int p1] h) (xQv G r) 0 0 (xA G) := by
  refine z_met (own := RX1) (cc := cX1_emit) (maxL := 2) (ret := none) (lv0 := [(0, .ref (xad G 37)), (1, .int p1)]) (by decide +kernel) rfl rfl (Nat.le_of_ble_eq_true rfl) rfl ?_
  intro p e s m below meth c C hr
  unfold F_X1_emit_37
  refine x_aload_n C.1 dX1_emit_0 rfl 0 rfl ?_
  refine x_get (v := .int (gI h 37 6)) C.1 6 dX1_emit_1 (xc_37 G h) rfl (by decide) rfl (fun w h => List.mem_cons_of_mem _ (iWC_X1 w h)) (by decide) rfl (C.1.2.2.2.2.1 _ (List.mem_cons_of_mem _ qC_27)) ?_
  refine x_aload_n C.1 dX1_emit_4 rfl 0 rfl ?_
  refine x_get (v := .ref (xad G 42)) C.1 5 dX1_emit_5 (xc_37 G h) rfl (by decide) rfl (fun w h => List.mem_cons_of_mem _ (iWC_X1 w h)) (by decide) rfl (C.1.2.2.2.2.1 _ (List.mem_cons_of_mem _ qC_28)) ?_
  refine x_alen (v := 240) (t0 := 1) C.1 dX1_emit_8 (xc_42 G h) rfl rfl (by decide) ?_
  refine x_icmp_ge (tgt := 32) C.1 dX1_emit_9 (by decide) ?_ ?_
  · exact x_vret C.1 dX1_emit_32 hr
  · refine x_aload_n C.1 dX1_emit_12 rfl 0 rfl ?_
    refine x_get (v := .ref (xad G 42)) C.1 5 dX1_emit_13 (xc_37 G h) rfl (by decide) rfl (fun w h => List.mem_cons_of_mem _ (iWC_X1 w h)) (by decide) rfl (C.1.2.2.2.2.1 _ (List.mem_cons_of_mem _ qC_28)) ?_
    refine x_aload_n C.1 dX1_emit_16 rfl 0 rfl ?_
    refine x_get (v := .int (gI h 37 6)) C.1 6 dX1_emit_17 (xc_37 G h) rfl (by decide) rfl (fun w h => List.mem_cons_of_mem _ (iWC_X1 w h)) (by decide) rfl (C.1.2.2.2.2.1 _ (List.mem_cons_of_mem _ qC_27)) ?_
    refine x_iload_n C.1 dX1_emit_20 rfl 1 rfl ?_
    refine x_iast (n := 240) C.1 dX1_emit_21 (fun g => xp_42 G g _ _) (by decide) (fun h1 => ?_)
    refine x_aload_n C.1 dX1_emit_22 rfl 0 rfl ?_
    refine x_dup C.1 dX1_emit_23 rfl ?_
    refine x_get (v := .int (gI h1 37 6)) C.1 6 dX1_emit_24 (xc_37 G h1) rfl (by decide) rfl (fun w h => List.mem_cons_of_mem _ (iWC_X1 w h)) (by decide) rfl (C.1.2.2.2.2.1 _ (List.mem_cons_of_mem _ qC_27)) ?_
    refine x_iconst (v := 1) C.1 dX1_emit_27 (by decide) ?_
    refine x_iadd C.1 dX1_emit_28 ?_
    refine x_putI (ty0 := tyX1) (ty := .int) C.1 6 dX1_emit_29 (xc_37 G h1) rfl (Nat.le_of_ble_eq_true rfl) (by decide) rfl (fun w h => List.mem_cons_of_mem _ (iWC_X1 w h)) tyX1_ok nmX1 (by decide) rfl rfl (by decide +kernel) rfl rfl (C.1.2.2.2.2.1 _ (List.mem_cons_of_mem _ qC_27)) (fun h2 => ?_)
    exact x_vret C.1 dX1_emit_32 hr
/-! X3_endEither: 9 instructions -/
abbrev J_X3_endEither (G : xG) (p : Program) (l : Launch) (e : Env) (s : State) (m : MethodId) (args : Array Value) (below : List Frame) (meth : Method) (c : Code) : Nat → List (Nat × Value) → List Value → xHp → Option (Unit × xHp) → Prop := xJ G p l e ({ frames := 1, cells := 0, slots := 0, locals := 21 } : Room) s m args below meth c 1 (fun res => MQ below (xQv G res) args s 0 0 (xA G))
def F_X3_endEither (N : Nat) (h : xHp) : Option (Unit × xHp) := bnd2 (F_X3_dropMark N 124 h) fun r1 h2 => if r1 = 0 then some ((), h2) else bnd2 (F_X1_emit_37 N 14 h2) fun r3 h4 => some ((), h4)
set_option maxHeartbeats 4000000 in
set_option maxRecDepth 100000 in
theorem M_X3_endEither (G : xG) (l : Launch) (N : Nat) (h : xHp) : ∀ r, F_X3_endEither N h = some r → Met l yX3_endEither vX3_endEither ({ frames := 1, cells := 0, slots := 0, locals := 21 } : Room) (xPz G [.ref (xad G 44)] h) (xQv G r) 0 0 (xA G) := by
  refine z_met (own := RX3) (cc := cX3_endEither) (maxL := 1) (ret := none) (lv0 := [(0, .ref (xad G 44))]) (by decide +kernel) rfl rfl (Nat.le_of_ble_eq_true rfl) rfl ?_
  intro p e s m below meth c C hr
  unfold F_X3_endEither
  refine x_aload_n C.1 dX3_endEither_0 rfl 0 rfl ?_
  refine x_bipush (v := 124) C.1 dX3_endEither_1 (by decide) ?_
  refine z_callVi C dX3_endEither_3 (M_X3_dropMark G l N 124 h) (cwV 1 C.1.2.2.2.2.1 (gdV gWC qC_214 qC_215 qC_216 qC_217 qC_211) rfl rfl rfl (by decide +kernel) ⟨Nat.le_of_ble_eq_true rfl, Nat.le_of_ble_eq_true rfl⟩) (xc_44 G h) (by decide) rfl rfl rfl (Nat.le_of_ble_eq_true rfl) (fun r1 h2 => ?_)
  refine x_if_eq (tgt := 18) C.1 dX3_endEither_6 (by decide) ?_ ?_
  · exact x_vret C.1 dX3_endEither_18 hr
  · refine x_aload_n C.1 dX3_endEither_9 rfl 0 rfl ?_
    refine x_get (v := .ref (xad G 37)) C.1 1 dX3_endEither_10 (xc_44 G h2) rfl (by decide) rfl (fun w h => List.mem_cons_of_mem _ (iWC_X3 w h)) (by decide) rfl (C.1.2.2.2.2.1 _ (List.mem_cons_of_mem _ qC_177)) ?_
    refine x_bipush (v := 14) C.1 dX3_endEither_13 (by decide) ?_
    refine z_callVv C dX3_endEither_15 (M_X1_emit_37 G l N 14 h2) (cwV 1 C.1.2.2.2.2.1 (gdV gWC qC_218 qC_115 qC_116 qC_32 qC_111) rfl rfl rfl (by decide +kernel) ⟨Nat.le_of_ble_eq_true rfl, Nat.le_of_ble_eq_true rfl⟩) (xc_37 G h2) (by decide) rfl rfl rfl (Nat.le_of_ble_eq_true rfl) (fun r3 h4 => ?_)
    exact x_vret C.1 dX3_endEither_18 hr
/-! X3_endFormula: 24 instructions -/
abbrev J_X3_endFormula (G : xG) (p : Program) (l : Launch) (e : Env) (s : State) (m : MethodId) (args : Array Value) (below : List Frame) (meth : Method) (c : Code) : Nat → List (Nat × Value) → List Value → xHp → Option (Unit × xHp) → Prop := xJ G p l e ({ frames := 2, cells := 0, slots := 0, locals := 41 } : Room) s m args below meth c 2 (fun res => MQ below (xQv G res) args s 0 0 (xA G))
def F_X3_endFormula_6_b (N : Nat) (k6 : Int32 → xHp → Option (Unit × xHp)) (x1 : Int32) (h : xHp) : Option (Unit × xHp) := if 64 ≤ x1 then some ((), h) else bnd2 (F_X3_dropMark N 258 h) fun r1 h2 => if r1 = 0 then some ((), h2) else bnd (sI h2 44 4 ((gI h2 44 4) - 1)) fun h3 => bnd2 (F_X1_emit_37 N 15 h3) fun r4 h5 => k6 (x1 + 1) h5
def F_X3_endFormula_6 (N : Nat) (x1 : Int32) (h : xHp) : Option (Unit × xHp) := xit (F_X3_endFormula_6_b N) (fun _ _ => none) N x1 h
def F_X3_endFormula (N : Nat) (h : xHp) : Option (Unit × xHp) := bnd2 (F_X3_endEither N h) fun r1 h2 => F_X3_endFormula_6 N 0 h2
set_option maxHeartbeats 4000000 in
set_option maxRecDepth 100000 in
theorem T_X3_endFormula_6_b {G : xG} {p : Program} {l : Launch} {e : Env} {s : State} {m : MethodId} {args : Array Value} {below : List Frame} {meth : Method} {c : Code} {N : Nat} (C : xCz G p s m args meth c cX3_endFormula 2 vX3_endFormula RX3) (hr : meth.sig.returnType = none) {k6 : Int32 → xHp → Option (Unit × xHp)} (hk6 : ∀ (x1 : Int32) (h : xHp), J_X3_endFormula G p l e s m args below meth c 6 [(0, .ref (xad G 44)), (1, .int x1)] [] h (k6 x1 h)) (x1 : Int32) (h : xHp) : J_X3_endFormula G p l e s m args below meth c 6 [(0, .ref (xad G 44)), (1, .int x1)] [] h (F_X3_endFormula_6_b N k6 x1 h) := by
  unfold F_X3_endFormula_6_b
  refine x_iload_n C.1 dX3_endFormula_6 rfl 1 rfl ?_
  refine x_bipush (v := 64) C.1 dX3_endFormula_7 (by decide) ?_
  refine x_icmp_ge (tgt := 47) C.1 dX3_endFormula_9 (by decide) ?_ ?_
  · exact x_vret C.1 dX3_endFormula_47 hr
  · refine x_aload_n C.1 dX3_endFormula_12 rfl 0 rfl ?_
    refine x_sipush (v := 258) C.1 dX3_endFormula_13 (by decide) ?_
    refine z_callVi C dX3_endFormula_16 (M_X3_dropMark G l N 258 h) (cwV 1 C.1.2.2.2.2.1 (gdV gWC qC_214 qC_215 qC_216 qC_217 qC_211) rfl rfl rfl (by decide +kernel) ⟨Nat.le_of_ble_eq_true rfl, Nat.le_of_ble_eq_true rfl⟩) (xc_44 G h) (by decide) rfl rfl rfl (Nat.le_of_ble_eq_true rfl) (fun r1 h2 => ?_)
    refine x_if_eq (tgt := 47) C.1 dX3_endFormula_19 (by decide) ?_ ?_
    · exact x_vret C.1 dX3_endFormula_47 hr
    · refine x_aload_n C.1 dX3_endFormula_22 rfl 0 rfl ?_
      refine x_dup C.1 dX3_endFormula_23 rfl ?_
      refine x_get (v := .int (gI h2 44 4)) C.1 4 dX3_endFormula_24 (xc_44 G h2) rfl (by decide) rfl (fun w h => List.mem_cons_of_mem _ (iWC_X3 w h)) (by decide) rfl (C.1.2.2.2.2.1 _ (List.mem_cons_of_mem _ qC_179)) ?_
      refine x_iconst (v := 1) C.1 dX3_endFormula_27 (by decide) ?_
      refine x_isub C.1 dX3_endFormula_28 ?_
      refine x_putI (ty0 := tyX3) (ty := .int) C.1 4 dX3_endFormula_29 (xc_44 G h2) rfl (Nat.le_of_ble_eq_true rfl) (by decide) rfl (fun w h => List.mem_cons_of_mem _ (iWC_X3 w h)) tyX3_ok nmX3 (by decide) rfl rfl (by decide +kernel) rfl rfl (C.1.2.2.2.2.1 _ (List.mem_cons_of_mem _ qC_179)) (fun h3 => ?_)
      refine x_aload_n C.1 dX3_endFormula_32 rfl 0 rfl ?_
      refine x_get (v := .ref (xad G 37)) C.1 1 dX3_endFormula_33 (xc_44 G h3) rfl (by decide) rfl (fun w h => List.mem_cons_of_mem _ (iWC_X3 w h)) (by decide) rfl (C.1.2.2.2.2.1 _ (List.mem_cons_of_mem _ qC_177)) ?_
      refine x_bipush (v := 15) C.1 dX3_endFormula_36 (by decide) ?_
      refine z_callVv C dX3_endFormula_38 (M_X1_emit_37 G l N 15 h3) (cwV 1 C.1.2.2.2.2.1 (gdV gWC qC_218 qC_115 qC_116 qC_32 qC_111) rfl rfl rfl (by decide +kernel) ⟨Nat.le_of_ble_eq_true rfl, Nat.le_of_ble_eq_true rfl⟩) (xc_37 G h3) (by decide) rfl rfl rfl (Nat.le_of_ble_eq_true rfl) (fun r4 h5 => ?_)
      refine x_iinc (v := (x1 + 1)) (j := 1) (lv' := [(1, .int (x1 + 1)), (0, .ref (xad G 44))]) C.1 dX3_endFormula_41 rfl (by rfl) (by decide) rfl ?_
      refine x_goto (tgt := 6) C.1 dX3_endFormula_44 (by decide) ?_
      exact x_sub [1, 0] rfl (hk6 (x1 + 1) h5)
set_option maxHeartbeats 4000000 in
set_option maxRecDepth 100000 in
theorem T_X3_endFormula_6_n {G : xG} {p : Program} {l : Launch} {e : Env} {s : State} {m : MethodId} {args : Array Value} {below : List Frame} {meth : Method} {c : Code} {N : Nat} (C : xCz G p s m args meth c cX3_endFormula 2 vX3_endFormula RX3) (hr : meth.sig.returnType = none) : ∀ (n : Nat) (x1 : Int32) (h : xHp), J_X3_endFormula G p l e s m args below meth c 6 [(0, .ref (xad G 44)), (1, .int x1)] [] h (xit (F_X3_endFormula_6_b N) (fun _ _ => none) n x1 h) := by
  intro n
  induction n with
  | zero => intros; exact x_none
  | succ n ih => intros; exact T_X3_endFormula_6_b C hr ih _ _
set_option maxHeartbeats 4000000 in
set_option maxRecDepth 100000 in
theorem T_X3_endFormula_6 {G : xG} {p : Program} {l : Launch} {e : Env} {s : State} {m : MethodId} {args : Array Value} {below : List Frame} {meth : Method} {c : Code} {N : Nat} (C : xCz G p s m args meth c cX3_endFormula 2 vX3_endFormula RX3) (hr : meth.sig.returnType = none) (x1 : Int32) (h : xHp) : J_X3_endFormula G p l e s m args below meth c 6 [(0, .ref (xad G 44)), (1, .int x1)] [] h (F_X3_endFormula_6 N x1 h) := T_X3_endFormula_6_n C hr N x1 h
set_option maxHeartbeats 4000000 in
set_option maxRecDepth 100000 in
theorem M_X3_endFormula (G : xG) (l : Launch) (N : Nat) (h : xHp) : ∀ r, F_X3_endFormula N h = some r → Met l yX3_endFormula vX3_endFormula ({ frames := 2, cells := 0, slots := 0, locals := 41 } : Room) (xPz G [.ref (xad G 44)] h) (xQv G r) 0 0 (xA G) := by
  refine z_met (own := RX3) (cc := cX3_endFormula) (maxL := 2) (ret := none) (lv0 := [(0, .ref (xad G 44))]) (by decide +kernel) rfl rfl (Nat.le_of_ble_eq_true rfl) rfl ?_
  intro p e s m below meth c C hr
  unfold F_X3_endFormula
  refine x_aload_n C.1 dX3_endFormula_0 rfl 0 rfl ?_
  refine z_callVv C dX3_endFormula_1 (M_X3_endEither G l N h) (cwV 0 C.1.2.2.2.2.1 (gdV gWC qC_220 qC_221 qC_222 qC_217 qC_213) rfl rfl rfl (by decide +kernel) ⟨Nat.le_of_ble_eq_true rfl, Nat.le_of_ble_eq_true rfl⟩) (xc_44 G h) (by decide) rfl rfl rfl (Nat.le_of_ble_eq_true rfl) (fun r1 h2 => ?_)
  refine x_iconst (v := 0) C.1 dX3_endFormula_4 (by decide) ?_
  refine x_istore_n (lv' := [(1, .int 0), (0, .ref (xad G 44))]) C.1 dX3_endFormula_5 rfl (by decide) rfl ?_
  exact x_sub [1, 0] rfl (T_X3_endFormula_6 C hr 0 h2)
/-! X3_finish: 13 instructions -/
abbrev J_X3_finish (G : xG) (p : Program) (l : Launch) (e : Env) (s : State) (m : MethodId) (args : Array Value) (below : List Frame) (meth : Method) (c : Code) : Nat → List (Nat × Value) → List Value → xHp → Option (Int32 × xHp) → Prop := xJ G p l e ({ frames := 3, cells := 0, slots := 0, locals := 62 } : Room) s m args below meth c 1 (fun res => MQ below (xQi G res) args s 0 0 (xA G))
def F_X3_finish_16 (N : Nat) (h : xHp) : Option (Int32 × xHp) := some (2, h)
def F_X3_finish (N : Nat) (h : xHp) : Option (Int32 × xHp) := if (gI h 44 6) = 6 then if (gI h 44 5) ≤ 0 then bnd2 (F_X3_endFormula N h) fun r1 h2 => some (0, h2) else F_X3_finish_16 N h else F_X3_finish_16 N h
set_option maxHeartbeats 4000000 in
set_option maxRecDepth 100000 in
theorem T_X3_finish_16 {G : xG} {p : Program} {l : Launch} {e : Env} {s : State} {m : MethodId} {args : Array Value} {below : List Frame} {meth : Method} {c : Code} {N : Nat} (C : xCz G p s m args meth c cX3_finish 1 vX3_finish RX3) (hr : meth.sig.returnType = (some .int)) (h : xHp) : J_X3_finish G p l e s m args below meth c 16 [] [] h (F_X3_finish_16 N h) := by
  unfold F_X3_finish_16
  refine x_iconst (v := 2) C.1 dX3_finish_16 (by decide) ?_
  exact x_iret C.1 dX3_finish_17 hr
set_option maxHeartbeats 4000000 in
set_option maxRecDepth 100000 in
theorem M_X3_finish (G : xG) (l : Launch) (N : Nat) (h : xHp) : ∀ r, F_X3_finish N h = some r → Met l yX3_finish vX3_finish ({ frames := 3, cells := 0, slots := 0, locals := 62 } : Room) (xPz G [.ref (xad G 44)] h) (xQi G r) 0 0 (xA G) := by
  refine z_met (own := RX3) (cc := cX3_finish) (maxL := 1) (ret := (some .int)) (lv0 := [(0, .ref (xad G 44))]) (by decide +kernel) rfl rfl (Nat.le_of_ble_eq_true rfl) rfl ?_
  intro p e s m below meth c C hr
  unfold F_X3_finish
  refine x_aload_n C.1 dX3_finish_0 rfl 0 rfl ?_
  refine x_get (v := .int (gI h 44 6)) C.1 6 dX3_finish_1 (xc_44 G h) rfl (by decide) rfl (fun w h => List.mem_cons_of_mem _ (iWC_X3 w h)) (by decide) rfl (C.1.2.2.2.2.1 _ (List.mem_cons_of_mem _ qC_181)) ?_
  refine x_bipush (v := 6) C.1 dX3_finish_4 (by decide) ?_
  refine x_icmp_ne (tgt := 16) C.1 dX3_finish_6 (by decide) ?_ ?_
  · refine x_aload_n C.1 dX3_finish_9 rfl 0 rfl ?_
    refine x_get (v := .int (gI h 44 5)) C.1 5 dX3_finish_10 (xc_44 G h) rfl (by decide) rfl (fun w h => List.mem_cons_of_mem _ (iWC_X3 w h)) (by decide) rfl (C.1.2.2.2.2.1 _ (List.mem_cons_of_mem _ qC_180)) ?_
    refine x_if_le (tgt := 18) C.1 dX3_finish_13 (by decide) ?_ ?_
    · refine x_aload_n C.1 dX3_finish_18 rfl 0 rfl ?_
      refine z_callVv C dX3_finish_19 (M_X3_endFormula G l N h) (cwV 0 C.1.2.2.2.2.1 (gdV gWC qC_223 qC_224 qC_225 qC_217 qC_219) rfl rfl rfl (by decide +kernel) ⟨Nat.le_of_ble_eq_true rfl, Nat.le_of_ble_eq_true rfl⟩) (xc_44 G h) (by decide) rfl rfl rfl (Nat.le_of_ble_eq_true rfl) (fun r1 h2 => ?_)
      refine x_iconst (v := 0) C.1 dX3_finish_22 (by decide) ?_
      exact x_iret C.1 dX3_finish_23 hr
    · exact x_sub [] rfl (T_X3_finish_16 C hr h)
  · exact x_sub [] rfl (T_X3_finish_16 C hr h)
/-! X1_numberOf_37: 63 instructions -/
abbrev J_X1_numberOf_37 (G : xG) (p : Program) (l : Launch) (e : Env) (s : State) (m : MethodId) (args : Array Value) (below : List Frame) (meth : Method) (c : Code) : Nat → List (Nat × Value) → List Value → xHp → Option (Int32 × xHp) → Prop := xJ G p l e ({ frames := 0, cells := 0, slots := 0, locals := 0 } : Room) s m args below meth c 5 (fun res => MQ below (xQi G res) args s 0 0 (xA G))
def F_X1_numberOf_37_48 (N : Nat) (k3 : Int32 → Int32 → Int32 → Int32 → xHp → Option (Int32 × xHp)) (x1 : Int32) (x2 : Int32) (x3 : Int32) (x4 : Int32) (h : xHp) : Option (Int32 × xHp) := k3 x1 x2 x3 (x4 + 1) h
def F_X1_numberOf_37_3_b (N : Nat) (k3 : Int32 → Int32 → Int32 → Int32 → xHp → Option (Int32 × xHp)) (x1 : Int32) (x2 : Int32) (x3 : Int32) (x4 : Int32) (h : xHp) : Option (Int32 × xHp) := if (gI h 37 3) ≤ x4 then if (gI h 37 3) < 10 then grd (xin (gI h 37 3) 10) (bnd (sI h 38 (gI h 37 3).toNatClampNeg x1) fun h1 => grd (xin (gI h1 37 3) 10) (bnd (sI h1 39 (gI h1 37 3).toNatClampNeg x2) fun h2 => grd (xin (gI h2 37 3) 10) (bnd (sI h2 40 (gI h2 37 3).toNatClampNeg x3) fun h3 => bnd (sI h3 37 3 ((gI h3 37 3) + 1)) fun h4 => some (((gI h4 37 3) - 1), h4)))) else some ((-1), h) else grd (xin x4 10) (if (gI h 38 x4.toNatClampNeg) = x1 then grd (xin x4 10) (if (gI h 39 x4.toNatClampNeg) = x2 then grd (xin x4 10) (if (gI h 40 x4.toNatClampNeg) = x3 then some (x4, h) else F_X1_numberOf_37_48 N k3 x1 x2 x3 x4 h) else F_X1_numberOf_37_48 N k3 x1 x2 x3 x4 h) else F_X1_numberOf_37_48 N k3 x1 x2 x3 x4 h)
def F_X1_numberOf_37_3 (N : Nat) (x1 : Int32) (x2 : Int32) (x3 : Int32) (x4 : Int32) (h : xHp) : Option (Int32 × xHp) := xit (F_X1_numberOf_37_3_b N) (fun _ _ _ _ _ => none) N x1 x2 x3 x4 h
def F_X1_numberOf_37 (N : Nat) (p1 : Int32) (p2 : Int32) (p3 : Int32) (h : xHp) : Option (Int32 × xHp) := F_X1_numberOf_37_3 N p1 p2 p3 0 h
set_option maxHeartbeats 4000000 in
set_option maxRecDepth 100000 in
theorem T_X1_numberOf_37_48 {G : xG} {p : Program} {l : Launch} {e : Env} {s : State} {m : MethodId} {args : Array Value} {below : List Frame} {meth : Method} {c : Code} {N : Nat} (C : xCz G p s m args meth c cX1_numberOf 5 vX1_numberOf RX1) (hr : meth.sig.returnType = (some .int)) {k3 : Int32 → Int32 → Int32 → Int32 → xHp → Option (Int32 × xHp)} (hk3 : ∀ (x1 : Int32) (x2 : Int32) (x3 : Int32) (x4 : Int32) (h : xHp), J_X1_numberOf_37 G p l e s m args below meth c 3 [(0, .ref (xad G 37)), (1, .int x1), (2, .int x2), (3, .int x3), (4, .int x4)] [] h (k3 x1 x2 x3 x4 h)) (x1 : Int32) (x2 : Int32) (x3 : Int32) (x4 : Int32) (h : xHp) : J_X1_numberOf_37 G p l e s m args below meth c 48 [(0, .ref (xad G 37)), (1, .int x1), (2, .int x2), (3, .int x3), (4, .int x4)] [] h (F_X1_numberOf_37_48 N k3 x1 x2 x3 x4 h) := by
  unfold F_X1_numberOf_37_48
  refine x_iinc (v := (x4 + 1)) (j := 4) (lv' := [(4, .int (x4 + 1)), (0, .ref (xad G 37)), (1, .int x1), (2, .int x2), (3, .int x3)]) C.1 dX1_numberOf_48 rfl (by rfl) (by decide) rfl ?_
  refine x_goto (tgt := 3) C.1 dX1_numberOf_51 (by decide) ?_
  exact x_sub [1, 2, 3, 4, 0] rfl (hk3 x1 x2 x3 (x4 + 1) h)
set_option maxHeartbeats 4000000 in
set_option maxRecDepth 100000 in
theorem T_X1_numberOf_37_3_b {G : xG} {p : Program} {l : Launch} {e : Env} {s : State} {m : MethodId} {args : Array Value} {below : List Frame} {meth : Method} {c : Code} {N : Nat} (C : xCz G p s m args meth c cX1_numberOf 5 vX1_numberOf RX1) (hr : meth.sig.returnType = (some .int)) {k3 : Int32 → Int32 → Int32 → Int32 → xHp → Option (Int32 × xHp)} (hk3 : ∀ (x1 : Int32) (x2 : Int32) (x3 : Int32) (x4 : Int32) (h : xHp), J_X1_numberOf_37 G p l e s m args below meth c 3 [(0, .ref (xad G 37)), (1, .int x1), (2, .int x2), (3, .int x3), (4, .int x4)] [] h (k3 x1 x2 x3 x4 h)) (x1 : Int32) (x2 : Int32) (x3 : Int32) (x4 : Int32) (h : xHp) : J_X1_numberOf_37 G p l e s m args below meth c 3 [(0, .ref (xad G 37)), (1, .int x1), (2, .int x2), (3, .int x3), (4, .int x4)] [] h (F_X1_numberOf_37_3_b N k3 x1 x2 x3 x4 h) := by
  unfold F_X1_numberOf_37_3_b
  refine x_iload C.1 dX1_numberOf_3 4 rfl ?_
  refine x_aload_n C.1 dX1_numberOf_5 rfl 0 rfl ?_
  refine x_get (v := .int (gI h 37 3)) C.1 3 dX1_numberOf_6 (xc_37 G h) rfl (by decide) rfl (fun w h => List.mem_cons_of_mem _ (iWC_X1 w h)) (by decide) rfl (C.1.2.2.2.2.1 _ (List.mem_cons_of_mem _ qC_104)) ?_
  refine x_icmp_ge (tgt := 54) C.1 dX1_numberOf_9 (by decide) ?_ ?_
  · refine x_aload_n C.1 dX1_numberOf_54 rfl 0 rfl ?_
    refine x_get (v := .int (gI h 37 3)) C.1 3 dX1_numberOf_55 (xc_37 G h) rfl (by decide) rfl (fun w h => List.mem_cons_of_mem _ (iWC_X1 w h)) (by decide) rfl (C.1.2.2.2.2.1 _ (List.mem_cons_of_mem _ qC_104)) ?_
    refine x_bipush (v := 10) C.1 dX1_numberOf_58 (by decide) ?_
    refine x_icmp_lt (tgt := 65) C.1 dX1_numberOf_60 (by decide) ?_ ?_
    · refine x_aload_n C.1 dX1_numberOf_65 rfl 0 rfl ?_
      refine x_get (v := .ref (xad G 38)) C.1 0 dX1_numberOf_66 (xc_37 G h) rfl (by decide) rfl (fun w h => List.mem_cons_of_mem _ (iWC_X1 w h)) (by decide) rfl (C.1.2.2.2.2.1 _ (List.mem_cons_of_mem _ qC_58)) ?_
      refine x_aload_n C.1 dX1_numberOf_69 rfl 0 rfl ?_
      refine x_get (v := .int (gI h 37 3)) C.1 3 dX1_numberOf_70 (xc_37 G h) rfl (by decide) rfl (fun w h => List.mem_cons_of_mem _ (iWC_X1 w h)) (by decide) rfl (C.1.2.2.2.2.1 _ (List.mem_cons_of_mem _ qC_104)) ?_
      refine x_iload_n C.1 dX1_numberOf_73 rfl 1 rfl ?_
      refine x_iast (n := 10) C.1 dX1_numberOf_74 (fun g => xp_38 G g _ _) (by decide) (fun h1 => ?_)
      refine x_aload_n C.1 dX1_numberOf_75 rfl 0 rfl ?_
      refine x_get (v := .ref (xad G 39)) C.1 1 dX1_numberOf_76 (xc_37 G h1) rfl (by decide) rfl (fun w h => List.mem_cons_of_mem _ (iWC_X1 w h)) (by decide) rfl (C.1.2.2.2.2.1 _ (List.mem_cons_of_mem _ qC_59)) ?_
      refine x_aload_n C.1 dX1_numberOf_79 rfl 0 rfl ?_
      refine x_get (v := .int (gI h1 37 3)) C.1 3 dX1_numberOf_80 (xc_37 G h1) rfl (by decide) rfl (fun w h => List.mem_cons_of_mem _ (iWC_X1 w h)) (by decide) rfl (C.1.2.2.2.2.1 _ (List.mem_cons_of_mem _ qC_104)) ?_
      refine x_iload_n C.1 dX1_numberOf_83 rfl 2 rfl ?_
      refine x_iast (n := 10) C.1 dX1_numberOf_84 (fun g => xp_39 G g _ _) (by decide) (fun h2 => ?_)
      refine x_aload_n C.1 dX1_numberOf_85 rfl 0 rfl ?_
      refine x_get (v := .ref (xad G 40)) C.1 2 dX1_numberOf_86 (xc_37 G h2) rfl (by decide) rfl (fun w h => List.mem_cons_of_mem _ (iWC_X1 w h)) (by decide) rfl (C.1.2.2.2.2.1 _ (List.mem_cons_of_mem _ qC_62)) ?_
      refine x_aload_n C.1 dX1_numberOf_89 rfl 0 rfl ?_
      refine x_get (v := .int (gI h2 37 3)) C.1 3 dX1_numberOf_90 (xc_37 G h2) rfl (by decide) rfl (fun w h => List.mem_cons_of_mem _ (iWC_X1 w h)) (by decide) rfl (C.1.2.2.2.2.1 _ (List.mem_cons_of_mem _ qC_104)) ?_
      refine x_iload_n C.1 dX1_numberOf_93 rfl 3 rfl ?_
      refine x_iast (n := 10) C.1 dX1_numberOf_94 (fun g => xp_40 G g _ _) (by decide) (fun h3 => ?_)
      refine x_aload_n C.1 dX1_numberOf_95 rfl 0 rfl ?_
      refine x_dup C.1 dX1_numberOf_96 rfl ?_
      refine x_get (v := .int (gI h3 37 3)) C.1 3 dX1_numberOf_97 (xc_37 G h3) rfl (by decide) rfl (fun w h => List.mem_cons_of_mem _ (iWC_X1 w h)) (by decide) rfl (C.1.2.2.2.2.1 _ (List.mem_cons_of_mem _ qC_104)) ?_
      refine x_iconst (v := 1) C.1 dX1_numberOf_100 (by decide) ?_
      refine x_iadd C.1 dX1_numberOf_101 ?_
      refine x_putI (ty0 := tyX1) (ty := .int) C.1 3 dX1_numberOf_102 (xc_37 G h3) rfl (Nat.le_of_ble_eq_true rfl) (by decide) rfl (fun w h => List.mem_cons_of_mem _ (iWC_X1 w h)) tyX1_ok nmX1 (by decide) rfl rfl (by decide +kernel) rfl rfl (C.1.2.2.2.2.1 _ (List.mem_cons_of_mem _ qC_104)) (fun h4 => ?_)
      refine x_aload_n C.1 dX1_numberOf_105 rfl 0 rfl ?_
      refine x_get (v := .int (gI h4 37 3)) C.1 3 dX1_numberOf_106 (xc_37 G h4) rfl (by decide) rfl (fun w h => List.mem_cons_of_mem _ (iWC_X1 w h)) (by decide) rfl (C.1.2.2.2.2.1 _ (List.mem_cons_of_mem _ qC_104)) ?_
      refine x_iconst (v := 1) C.1 dX1_numberOf_109 (by decide) ?_
      refine x_isub C.1 dX1_numberOf_110 ?_
      exact x_iret C.1 dX1_numberOf_111 hr
    · refine x_iconst (v := (-1)) C.1 dX1_numberOf_63 (by decide) ?_
      exact x_iret C.1 dX1_numberOf_64 hr
  · refine x_aload_n C.1 dX1_numberOf_12 rfl 0 rfl ?_
    refine x_get (v := .ref (xad G 38)) C.1 0 dX1_numberOf_13 (xc_37 G h) rfl (by decide) rfl (fun w h => List.mem_cons_of_mem _ (iWC_X1 w h)) (by decide) rfl (C.1.2.2.2.2.1 _ (List.mem_cons_of_mem _ qC_58)) ?_
    refine x_iload C.1 dX1_numberOf_16 4 rfl ?_
    refine x_iald (n := 10) C.1 dX1_numberOf_18 (xc_38 G h) (by decide) ?_
    refine x_iload_n C.1 dX1_numberOf_19 rfl 1 rfl ?_
    refine x_icmp_ne (tgt := 48) C.1 dX1_numberOf_20 (by decide) ?_ ?_
    · refine x_aload_n C.1 dX1_numberOf_23 rfl 0 rfl ?_
      refine x_get (v := .ref (xad G 39)) C.1 1 dX1_numberOf_24 (xc_37 G h) rfl (by decide) rfl (fun w h => List.mem_cons_of_mem _ (iWC_X1 w h)) (by decide) rfl (C.1.2.2.2.2.1 _ (List.mem_cons_of_mem _ qC_59)) ?_
      refine x_iload C.1 dX1_numberOf_27 4 rfl ?_
      refine x_iald (n := 10) C.1 dX1_numberOf_29 (xc_39 G h) (by decide) ?_
      refine x_iload_n C.1 dX1_numberOf_30 rfl 2 rfl ?_
      refine x_icmp_ne (tgt := 48) C.1 dX1_numberOf_31 (by decide) ?_ ?_
      · refine x_aload_n C.1 dX1_numberOf_34 rfl 0 rfl ?_
        refine x_get (v := .ref (xad G 40)) C.1 2 dX1_numberOf_35 (xc_37 G h) rfl (by decide) rfl (fun w h => List.mem_cons_of_mem _ (iWC_X1 w h)) (by decide) rfl (C.1.2.2.2.2.1 _ (List.mem_cons_of_mem _ qC_62)) ?_
        refine x_iload C.1 dX1_numberOf_38 4 rfl ?_
        refine x_iald (n := 10) C.1 dX1_numberOf_40 (xc_40 G h) (by decide) ?_
        refine x_iload_n C.1 dX1_numberOf_41 rfl 3 rfl ?_
        refine x_icmp_ne (tgt := 48) C.1 dX1_numberOf_42 (by decide) ?_ ?_
        · refine x_iload C.1 dX1_numberOf_45 4 rfl ?_
          exact x_iret C.1 dX1_numberOf_47 hr
        · exact x_sub [0, 1, 2, 3, 4] rfl (T_X1_numberOf_37_48 C hr hk3 x1 x2 x3 x4 h)
      · exact x_sub [0, 1, 2, 3, 4] rfl (T_X1_numberOf_37_48 C hr hk3 x1 x2 x3 x4 h)
    · exact x_sub [0, 1, 2, 3, 4] rfl (T_X1_numberOf_37_48 C hr hk3 x1 x2 x3 x4 h)
set_option maxHeartbeats 4000000 in
set_option maxRecDepth 100000 in
theorem T_X1_numberOf_37_3_n {G : xG} {p : Program} {l : Launch} {e : Env} {s : State} {m : MethodId} {args : Array Value} {below : List Frame} {meth : Method} {c : Code} {N : Nat} (C : xCz G p s m args meth c cX1_numberOf 5 vX1_numberOf RX1) (hr : meth.sig.returnType = (some .int)) : ∀ (n : Nat) (x1 : Int32) (x2 : Int32) (x3 : Int32) (x4 : Int32) (h : xHp), J_X1_numberOf_37 G p l e s m args below meth c 3 [(0, .ref (xad G 37)), (1, .int x1), (2, .int x2), (3, .int x3), (4, .int x4)] [] h (xit (F_X1_numberOf_37_3_b N) (fun _ _ _ _ _ => none) n x1 x2 x3 x4 h) := by
  intro n
  induction n with
  | zero => intros; exact x_none
  | succ n ih => intros; exact T_X1_numberOf_37_3_b C hr ih _ _ _ _ _
set_option maxHeartbeats 4000000 in
set_option maxRecDepth 100000 in
theorem T_X1_numberOf_37_3 {G : xG} {p : Program} {l : Launch} {e : Env} {s : State} {m : MethodId} {args : Array Value} {below : List Frame} {meth : Method} {c : Code} {N : Nat} (C : xCz G p s m args meth c cX1_numberOf 5 vX1_numberOf RX1) (hr : meth.sig.returnType = (some .int)) (x1 : Int32) (x2 : Int32) (x3 : Int32) (x4 : Int32) (h : xHp) : J_X1_numberOf_37 G p l e s m args below meth c 3 [(0, .ref (xad G 37)), (1, .int x1), (2, .int x2), (3, .int x3), (4, .int x4)] [] h (F_X1_numberOf_37_3 N x1 x2 x3 x4 h) := T_X1_numberOf_37_3_n C hr N x1 x2 x3 x4 h
set_option maxHeartbeats 4000000 in
set_option maxRecDepth 100000 in
theorem M_X1_numberOf_37 (G : xG) (l : Launch) (N : Nat) (p1 : Int32) (p2 : Int32) (p3 : Int32) (h : xHp) : ∀ r, F_X1_numberOf_37 N p1 p2 p3 h = some r → Met l yX1_numberOf vX1_numberOf ({ frames := 0, cells := 0, slots := 0, locals := 0 } : Room) (xPz G [.ref (xad G 37), .int p1, .int p2, .int p3] h) (xQi G r) 0 0 (xA G) := by
  refine z_met (own := RX1) (cc := cX1_numberOf) (maxL := 5) (ret := (some .int)) (lv0 := [(0, .ref (xad G 37)), (1, .int p1), (2, .int p2), (3, .int p3)]) (by decide +kernel) rfl rfl (Nat.le_of_ble_eq_true rfl) rfl ?_
  intro p e s m below meth c C hr
  unfold F_X1_numberOf_37
  refine x_iconst (v := 0) C.1 dX1_numberOf_0 (by decide) ?_
  refine x_istore (lv' := [(4, .int 0), (0, .ref (xad G 37)), (1, .int p1), (2, .int p2), (3, .int p3)]) C.1 dX1_numberOf_1 (by decide) rfl ?_
  exact x_sub [1, 2, 3, 4, 0] rfl (T_X1_numberOf_37_3 C hr p1 p2 p3 0 h)
/-! X1_emitAtMost_37: 47 instructions -/
abbrev J_X1_emitAtMost_37 (G : xG) (p : Program) (l : Launch) (e : Env) (s : State) (m : MethodId) (args : Array Value) (below : List Frame) (meth : Method) (c : Code) : Nat → List (Nat × Value) → List Value → xHp → Option (Int32 × xHp) → Prop := xJ G p l e ({ frames := 1, cells := 0, slots := 0, locals := 24 } : Room) s m args below meth c 5 (fun res => MQ below (xQi G res) args s 0 0 (xA G))
def F_X1_emitAtMost_37_18 (N : Nat) (s1 : Int32) (h : xHp) : Option (Int32 × xHp) := bnd2 (F_X1_emit_37 N s1 h) fun r1 h2 => some (1, h2)
def F_X1_emitAtMost_37_75 (N : Nat) (h : xHp) : Option (Int32 × xHp) := some (1, h)
def F_X1_emitAtMost_37_48 (N : Nat) (x1 : Int32) (x2 : Int32) (s0 : Int32) (h : xHp) : Option (Int32 × xHp) := if s0 = (-1) then some (0, h) else bnd2 (F_X1_emit_37 N s0 h) fun r1 h2 => if x1 ≤ x2 then F_X1_emitAtMost_37_75 N h2 else bnd2 (F_X1_emit_37 N 12 h2) fun r3 h4 => F_X1_emitAtMost_37_75 N h4
def F_X1_emitAtMost_37 (N : Nat) (p1 : Int32) (p2 : Int32) (p3 : Int32) (h : xHp) : Option (Int32 × xHp) := if p1 = p2 then if p3 < 0 then F_X1_emitAtMost_37_18 N 10 h else F_X1_emitAtMost_37_18 N 11 h else if p2 ≤ p1 then bnd2 (F_X1_numberOf_37 N p2 p1 ((-p3) - 1) h) fun r1 h2 => F_X1_emitAtMost_37_48 N p1 p2 r1 h2 else bnd2 (F_X1_numberOf_37 N p1 p2 p3 h) fun r3 h4 => F_X1_emitAtMost_37_48 N p1 p2 r3 h4
set_option maxHeartbeats 4000000 in
set_option maxRecDepth 100000 in
theorem T_X1_emitAtMost_37_18 {G : xG} {p : Program} {l : Launch} {e : Env} {s : State} {m : MethodId} {args : Array Value} {below : List Frame} {meth : Method} {c : Code} {N : Nat} (C : xCz G p s m args meth c cX1_emitAtMost 5 vX1_emitAtMost RX1) (hr : meth.sig.returnType = (some .boolean)) (s1 : Int32) (h : xHp) : J_X1_emitAtMost_37 G p l e s m args below meth c 18 [] [.int s1, .ref (xad G 37)] h (F_X1_emitAtMost_37_18 N s1 h) := by
  unfold F_X1_emitAtMost_37_18
  refine z_callVv C dX1_emitAtMost_18 (M_X1_emit_37 G l N s1 h) (cwV 1 C.1.2.2.2.2.1 (gdV gWC qC_114 qC_115 qC_116 qC_32 qC_111) rfl rfl rfl (by decide +kernel) ⟨Nat.le_of_ble_eq_true rfl, Nat.le_of_ble_eq_true rfl⟩) (xc_37 G h) (by decide) rfl rfl rfl (Nat.le_of_ble_eq_true rfl) (fun r1 h2 => ?_)
  refine x_iconst (v := 1) C.1 dX1_emitAtMost_21 (by decide) ?_
  exact x_zretL C.1 dX1_emitAtMost_22 hr rfl
set_option maxHeartbeats 4000000 in
set_option maxRecDepth 100000 in
theorem T_X1_emitAtMost_37_75 {G : xG} {p : Program} {l : Launch} {e : Env} {s : State} {m : MethodId} {args : Array Value} {below : List Frame} {meth : Method} {c : Code} {N : Nat} (C : xCz G p s m args meth c cX1_emitAtMost 5 vX1_emitAtMost RX1) (hr : meth.sig.returnType = (some .boolean)) (h : xHp) : J_X1_emitAtMost_37 G p l e s m args below meth c 75 [] [] h (F_X1_emitAtMost_37_75 N h) := by
  unfold F_X1_emitAtMost_37_75
  refine x_iconst (v := 1) C.1 dX1_emitAtMost_75 (by decide) ?_
  exact x_zretL C.1 dX1_emitAtMost_76 hr rfl
set_option maxHeartbeats 4000000 in
set_option maxRecDepth 100000 in
theorem T_X1_emitAtMost_37_48 {G : xG} {p : Program} {l : Launch} {e : Env} {s : State} {m : MethodId} {args : Array Value} {below : List Frame} {meth : Method} {c : Code} {N : Nat} (C : xCz G p s m args meth c cX1_emitAtMost 5 vX1_emitAtMost RX1) (hr : meth.sig.returnType = (some .boolean)) (x1 : Int32) (x2 : Int32) (s0 : Int32) (h : xHp) : J_X1_emitAtMost_37 G p l e s m args below meth c 48 [(0, .ref (xad G 37)), (1, .int x1), (2, .int x2)] [.int s0] h (F_X1_emitAtMost_37_48 N x1 x2 s0 h) := by
  unfold F_X1_emitAtMost_37_48
  refine x_istore (lv' := [(4, .int s0), (0, .ref (xad G 37)), (1, .int x1), (2, .int x2)]) C.1 dX1_emitAtMost_48 (by decide) rfl ?_
  refine x_iload C.1 dX1_emitAtMost_50 0 rfl ?_
  refine x_iconst (v := (-1)) C.1 dX1_emitAtMost_52 (by decide) ?_
  refine x_icmp_ne (tgt := 58) C.1 dX1_emitAtMost_53 (by decide) ?_ ?_
  · refine x_iconst (v := 0) C.1 dX1_emitAtMost_56 (by decide) ?_
    exact x_zretL C.1 dX1_emitAtMost_57 hr rfl
  · refine x_aload_n C.1 dX1_emitAtMost_58 rfl 1 rfl ?_
    refine x_iload C.1 dX1_emitAtMost_59 0 rfl ?_
    refine z_callVv C dX1_emitAtMost_61 (M_X1_emit_37 G l N s0 h) (cwV 1 C.1.2.2.2.2.1 (gdV gWC qC_114 qC_115 qC_116 qC_32 qC_111) rfl rfl rfl (by decide +kernel) ⟨Nat.le_of_ble_eq_true rfl, Nat.le_of_ble_eq_true rfl⟩) (xc_37 G h) (by decide) rfl rfl rfl (Nat.le_of_ble_eq_true rfl) (fun r1 h2 => ?_)
    refine x_iload_n C.1 dX1_emitAtMost_64 rfl 2 rfl ?_
    refine x_iload_n C.1 dX1_emitAtMost_65 rfl 3 rfl ?_
    refine x_icmp_le (tgt := 75) C.1 dX1_emitAtMost_66 (by decide) ?_ ?_
    · exact x_sub [] rfl (T_X1_emitAtMost_37_75 C hr h2)
    · refine x_aload_n C.1 dX1_emitAtMost_69 rfl 1 rfl ?_
      refine x_bipush (v := 12) C.1 dX1_emitAtMost_70 (by decide) ?_
      refine z_callVv C dX1_emitAtMost_72 (M_X1_emit_37 G l N 12 h2) (cwV 1 C.1.2.2.2.2.1 (gdV gWC qC_114 qC_115 qC_116 qC_32 qC_111) rfl rfl rfl (by decide +kernel) ⟨Nat.le_of_ble_eq_true rfl, Nat.le_of_ble_eq_true rfl⟩) (xc_37 G h2) (by decide) rfl rfl rfl (Nat.le_of_ble_eq_true rfl) (fun r3 h4 => ?_)
      exact x_sub [] rfl (T_X1_emitAtMost_37_75 C hr h4)
set_option maxHeartbeats 4000000 in
set_option maxRecDepth 100000 in
theorem M_X1_emitAtMost_37 (G : xG) (l : Launch) (N : Nat) (p1 : Int32) (p2 : Int32) (p3 : Int32) (h : xHp) : ∀ r, F_X1_emitAtMost_37 N p1 p2 p3 h = some r → Met l yX1_emitAtMost vX1_emitAtMost ({ frames := 1, cells := 0, slots := 0, locals := 24 } : Room) (xPz G [.ref (xad G 37), .int p1, .int p2, .int p3] h) (xQi G r) 0 0 (xA G) := by
  refine z_met (own := RX1) (cc := cX1_emitAtMost) (maxL := 5) (ret := (some .boolean)) (lv0 := [(0, .ref (xad G 37)), (1, .int p1), (2, .int p2), (3, .int p3)]) (by decide +kernel) rfl rfl (Nat.le_of_ble_eq_true rfl) rfl ?_
  intro p e s m below meth c C hr
  unfold F_X1_emitAtMost_37
  refine x_iload_n C.1 dX1_emitAtMost_0 rfl 1 rfl ?_
  refine x_iload_n C.1 dX1_emitAtMost_1 rfl 2 rfl ?_
  refine x_icmp_ne (tgt := 23) C.1 dX1_emitAtMost_2 (by decide) ?_ ?_
  · refine x_aload_n C.1 dX1_emitAtMost_5 rfl 0 rfl ?_
    refine x_iconst (v := 0) C.1 dX1_emitAtMost_6 (by decide) ?_
    refine x_iload_n C.1 dX1_emitAtMost_7 rfl 3 rfl ?_
    refine x_icmp_gt (tgt := 16) C.1 dX1_emitAtMost_8 (by decide) ?_ ?_
    · refine x_bipush (v := 10) C.1 dX1_emitAtMost_16 (by decide) ?_
      exact x_sub [] rfl (T_X1_emitAtMost_37_18 C hr 10 h)
    · refine x_bipush (v := 11) C.1 dX1_emitAtMost_11 (by decide) ?_
      refine x_goto (tgt := 18) C.1 dX1_emitAtMost_13 (by decide) ?_
      exact x_sub [] rfl (T_X1_emitAtMost_37_18 C hr 11 h)
  · refine x_iload_n C.1 dX1_emitAtMost_23 rfl 1 rfl ?_
    refine x_iload_n C.1 dX1_emitAtMost_24 rfl 2 rfl ?_
    refine x_icmp_ge (tgt := 38) C.1 dX1_emitAtMost_25 (by decide) ?_ ?_
    · refine x_aload_n C.1 dX1_emitAtMost_38 rfl 0 rfl ?_
      refine x_iload_n C.1 dX1_emitAtMost_39 rfl 2 rfl ?_
      refine x_iload_n C.1 dX1_emitAtMost_40 rfl 1 rfl ?_
      refine x_iload_n C.1 dX1_emitAtMost_41 rfl 3 rfl ?_
      refine x_ineg C.1 dX1_emitAtMost_42 ?_
      refine x_iconst (v := 1) C.1 dX1_emitAtMost_43 (by decide) ?_
      refine x_isub C.1 dX1_emitAtMost_44 ?_
      refine z_callVi C dX1_emitAtMost_45 (M_X1_numberOf_37 G l N p2 p1 ((-p3) - 1) h) (cwV 3 C.1.2.2.2.2.1 (gdV gWC qC_117 qC_118 qC_119 qC_32 qC_112) rfl rfl rfl (by decide +kernel) ⟨Nat.le_of_ble_eq_true rfl, Nat.le_of_ble_eq_true rfl⟩) (xc_37 G h) (by decide) rfl rfl rfl (Nat.le_of_ble_eq_true rfl) (fun r1 h2 => ?_)
      exact x_sub [0, 1, 2] rfl (T_X1_emitAtMost_37_48 C hr p1 p2 r1 h2)
    · refine x_aload_n C.1 dX1_emitAtMost_28 rfl 0 rfl ?_
      refine x_iload_n C.1 dX1_emitAtMost_29 rfl 1 rfl ?_
      refine x_iload_n C.1 dX1_emitAtMost_30 rfl 2 rfl ?_
      refine x_iload_n C.1 dX1_emitAtMost_31 rfl 3 rfl ?_
      refine z_callVi C dX1_emitAtMost_32 (M_X1_numberOf_37 G l N p1 p2 p3 h) (cwV 3 C.1.2.2.2.2.1 (gdV gWC qC_117 qC_118 qC_119 qC_32 qC_112) rfl rfl rfl (by decide +kernel) ⟨Nat.le_of_ble_eq_true rfl, Nat.le_of_ble_eq_true rfl⟩) (xc_37 G h) (by decide) rfl rfl rfl (Nat.le_of_ble_eq_true rfl) (fun r3 h4 => ?_)
      refine x_goto (tgt := 48) C.1 dX1_emitAtMost_35 (by decide) ?_
      exact x_sub [0, 1, 2] rfl (T_X1_emitAtMost_37_48 C hr p1 p2 r3 h4)
/-! X1_emitComparison_37: 66 instructions -/
abbrev J_X1_emitComparison_37 (G : xG) (p : Program) (l : Launch) (e : Env) (s : State) (m : MethodId) (args : Array Value) (below : List Frame) (meth : Method) (c : Code) : Nat → List (Nat × Value) → List Value → xHp → Option (Int32 × xHp) → Prop := xJ G p l e ({ frames := 2, cells := 0, slots := 0, locals := 48 } : Room) s m args below meth c 6 (fun res => MQ below (xQi G res) args s 0 0 (xA G))
def F_X1_emitComparison_37_125 (N : Nat) (h : xHp) : Option (Int32 × xHp) := some (1, h)
def F_X1_emitComparison_37_119 (N : Nat) (h : xHp) : Option (Int32 × xHp) := bnd2 (F_X1_emit_37 N 12 h) fun r1 h2 => F_X1_emitComparison_37_125 N h2
def F_X1_emitComparison_37_100 (N : Nat) (x3 : Int32) (h : xHp) : Option (Int32 × xHp) := if x3 = 62 then F_X1_emitComparison_37_119 N h else if x3 = 257 then F_X1_emitComparison_37_119 N h else if x3 = 35 then F_X1_emitComparison_37_119 N h else F_X1_emitComparison_37_125 N h
def F_X1_emitComparison_37_83 (N : Nat) (x3 : Int32) (x5 : Int32) (h : xHp) : Option (Int32 × xHp) := if x5 = 0 then F_X1_emitComparison_37_100 N x3 h else bnd2 (F_X1_emit_37 N 12 h) fun r1 h2 => bnd2 (F_X1_emit_37 N 13 h2) fun r3 h4 => F_X1_emitComparison_37_100 N x3 h4
def F_X1_emitComparison_37_68 (N : Nat) (x1 : Int32) (x2 : Int32) (x3 : Int32) (x4 : Int32) (x5 : Int32) (h : xHp) : Option (Int32 × xHp) := bnd2 (F_X1_emitAtMost_37 N x1 x2 (x4 - 1) h) fun r1 h2 => if r1 = 0 then some (0, h2) else F_X1_emitComparison_37_83 N x3 x5 h2
def F_X1_emitComparison_37_50 (N : Nat) (x1 : Int32) (x2 : Int32) (x3 : Int32) (x4 : Int32) (x5 : Int32) (h : xHp) : Option (Int32 × xHp) := if x5 = 0 then if x3 = 60 then F_X1_emitComparison_37_68 N x1 x2 x3 x4 x5 h else if x3 = 257 then F_X1_emitComparison_37_68 N x1 x2 x3 x4 x5 h else F_X1_emitComparison_37_83 N x3 x5 h else F_X1_emitComparison_37_68 N x1 x2 x3 x4 x5 h
def F_X1_emitComparison_37_37 (N : Nat) (x1 : Int32) (x2 : Int32) (x3 : Int32) (x4 : Int32) (x5 : Int32) (h : xHp) : Option (Int32 × xHp) := bnd2 (F_X1_emitAtMost_37 N x1 x2 x4 h) fun r1 h2 => if r1 = 0 then some (0, h2) else F_X1_emitComparison_37_50 N x1 x2 x3 x4 x5 h2
def F_X1_emitComparison_37_17 (N : Nat) (x1 : Int32) (x2 : Int32) (x3 : Int32) (x4 : Int32) (s0 : Int32) (h : xHp) : Option (Int32 × xHp) := if s0 = 0 then if x3 = 256 then F_X1_emitComparison_37_37 N x1 x2 x3 x4 s0 h else if x3 = 62 then F_X1_emitComparison_37_37 N x1 x2 x3 x4 s0 h else F_X1_emitComparison_37_50 N x1 x2 x3 x4 s0 h else F_X1_emitComparison_37_37 N x1 x2 x3 x4 s0 h
def F_X1_emitComparison_37_12 (N : Nat) (x1 : Int32) (x2 : Int32) (x3 : Int32) (x4 : Int32) (h : xHp) : Option (Int32 × xHp) := F_X1_emitComparison_37_17 N x1 x2 x3 x4 1 h
def F_X1_emitComparison_37 (N : Nat) (p1 : Int32) (p2 : Int32) (p3 : Int32) (p4 : Int32) (h : xHp) : Option (Int32 × xHp) := if p3 = 61 then F_X1_emitComparison_37_12 N p1 p2 p3 p4 h else if p3 = 35 then F_X1_emitComparison_37_12 N p1 p2 p3 p4 h else F_X1_emitComparison_37_17 N p1 p2 p3 p4 0 h
set_option maxHeartbeats 4000000 in
set_option maxRecDepth 100000 in
theorem T_X1_emitComparison_37_125 {G : xG} {p : Program} {l : Launch} {e : Env} {s : State} {m : MethodId} {args : Array Value} {below : List Frame} {meth : Method} {c : Code} {N : Nat} (C : xCz G p s m args meth c cX1_emitComparison 6 vX1_emitComparison RX1) (hr : meth.sig.returnType = (some .boolean)) (h : xHp) : J_X1_emitComparison_37 G p l e s m args below meth c 125 [] [] h (F_X1_emitComparison_37_125 N h) := by
  unfold F_X1_emitComparison_37_125
  refine x_iconst (v := 1) C.1 dX1_emitComparison_125 (by decide) ?_
  exact x_zretL C.1 dX1_emitComparison_126 hr rfl
set_option maxHeartbeats 4000000 in
set_option maxRecDepth 100000 in
theorem T_X1_emitComparison_37_119 {G : xG} {p : Program} {l : Launch} {e : Env} {s : State} {m : MethodId} {args : Array Value} {below : List Frame} {meth : Method} {c : Code} {N : Nat} (C : xCz G p s m args meth c cX1_emitComparison 6 vX1_emitComparison RX1) (hr : meth.sig.returnType = (some .boolean)) (h : xHp) : J_X1_emitComparison_37 G p l e s m args below meth c 119 [(0, .ref (xad G 37))] [] h (F_X1_emitComparison_37_119 N h) := by
  unfold F_X1_emitComparison_37_119
  refine x_aload_n C.1 dX1_emitComparison_119 rfl 0 rfl ?_
  refine x_bipush (v := 12) C.1 dX1_emitComparison_120 (by decide) ?_
  refine z_callVv C dX1_emitComparison_122 (M_X1_emit_37 G l N 12 h) (cwV 1 C.1.2.2.2.2.1 (gdV gWC qC_114 qC_115 qC_116 qC_32 qC_111) rfl rfl rfl (by decide +kernel) ⟨Nat.le_of_ble_eq_true rfl, Nat.le_of_ble_eq_true rfl⟩) (xc_37 G h) (by decide) rfl rfl rfl (Nat.le_of_ble_eq_true rfl) (fun r1 h2 => ?_)
  exact x_sub [] rfl (T_X1_emitComparison_37_125 C hr h2)
set_option maxHeartbeats 4000000 in
set_option maxRecDepth 100000 in
theorem T_X1_emitComparison_37_100 {G : xG} {p : Program} {l : Launch} {e : Env} {s : State} {m : MethodId} {args : Array Value} {below : List Frame} {meth : Method} {c : Code} {N : Nat} (C : xCz G p s m args meth c cX1_emitComparison 6 vX1_emitComparison RX1) (hr : meth.sig.returnType = (some .boolean)) (x3 : Int32) (h : xHp) : J_X1_emitComparison_37 G p l e s m args below meth c 100 [(0, .ref (xad G 37)), (3, .int x3)] [] h (F_X1_emitComparison_37_100 N x3 h) := by
  unfold F_X1_emitComparison_37_100
  refine x_iload_n C.1 dX1_emitComparison_100 rfl 1 rfl ?_
  refine x_bipush (v := 62) C.1 dX1_emitComparison_101 (by decide) ?_
  refine x_icmp_eq (tgt := 119) C.1 dX1_emitComparison_103 (by decide) ?_ ?_
  · exact x_sub [0] rfl (T_X1_emitComparison_37_119 C hr h)
  · refine x_iload_n C.1 dX1_emitComparison_106 rfl 1 rfl ?_
    refine x_sipush (v := 257) C.1 dX1_emitComparison_107 (by decide) ?_
    refine x_icmp_eq (tgt := 119) C.1 dX1_emitComparison_110 (by decide) ?_ ?_
    · exact x_sub [0] rfl (T_X1_emitComparison_37_119 C hr h)
    · refine x_iload_n C.1 dX1_emitComparison_113 rfl 1 rfl ?_
      refine x_bipush (v := 35) C.1 dX1_emitComparison_114 (by decide) ?_
      refine x_icmp_ne (tgt := 125) C.1 dX1_emitComparison_116 (by decide) ?_ ?_
      · exact x_sub [0] rfl (T_X1_emitComparison_37_119 C hr h)
      · exact x_sub [] rfl (T_X1_emitComparison_37_125 C hr h)
set_option maxHeartbeats 4000000 in
set_option maxRecDepth 100000 in
theorem T_X1_emitComparison_37_83 {G : xG} {p : Program} {l : Launch} {e : Env} {s : State} {m : MethodId} {args : Array Value} {below : List Frame} {meth : Method} {c : Code} {N : Nat} (C : xCz G p s m args meth c cX1_emitComparison 6 vX1_emitComparison RX1) (hr : meth.sig.returnType = (some .boolean)) (x3 : Int32) (x5 : Int32) (h : xHp) : J_X1_emitComparison_37 G p l e s m args below meth c 83 [(0, .ref (xad G 37)), (3, .int x3), (5, .int x5)] [] h (F_X1_emitComparison_37_83 N x3 x5 h) := by
  unfold F_X1_emitComparison_37_83
  refine x_iload C.1 dX1_emitComparison_83 2 rfl ?_
  refine x_if_eq (tgt := 100) C.1 dX1_emitComparison_85 (by decide) ?_ ?_
  · exact x_sub [0, 1] rfl (T_X1_emitComparison_37_100 C hr x3 h)
  · refine x_aload_n C.1 dX1_emitComparison_88 rfl 0 rfl ?_
    refine x_bipush (v := 12) C.1 dX1_emitComparison_89 (by decide) ?_
    refine z_callVv C dX1_emitComparison_91 (M_X1_emit_37 G l N 12 h) (cwV 1 C.1.2.2.2.2.1 (gdV gWC qC_114 qC_115 qC_116 qC_32 qC_111) rfl rfl rfl (by decide +kernel) ⟨Nat.le_of_ble_eq_true rfl, Nat.le_of_ble_eq_true rfl⟩) (xc_37 G h) (by decide) rfl rfl rfl (Nat.le_of_ble_eq_true rfl) (fun r1 h2 => ?_)
    refine x_aload_n C.1 dX1_emitComparison_94 rfl 0 rfl ?_
    refine x_bipush (v := 13) C.1 dX1_emitComparison_95 (by decide) ?_
    refine z_callVv C dX1_emitComparison_97 (M_X1_emit_37 G l N 13 h2) (cwV 1 C.1.2.2.2.2.1 (gdV gWC qC_114 qC_115 qC_116 qC_32 qC_111) rfl rfl rfl (by decide +kernel) ⟨Nat.le_of_ble_eq_true rfl, Nat.le_of_ble_eq_true rfl⟩) (xc_37 G h2) (by decide) rfl rfl rfl (Nat.le_of_ble_eq_true rfl) (fun r3 h4 => ?_)
    exact x_sub [0, 1] rfl (T_X1_emitComparison_37_100 C hr x3 h4)
set_option maxHeartbeats 4000000 in
set_option maxRecDepth 100000 in
theorem T_X1_emitComparison_37_68 {G : xG} {p : Program} {l : Launch} {e : Env} {s : State} {m : MethodId} {args : Array Value} {below : List Frame} {meth : Method} {c : Code} {N : Nat} (C : xCz G p s m args meth c cX1_emitComparison 6 vX1_emitComparison RX1) (hr : meth.sig.returnType = (some .boolean)) (x1 : Int32) (x2 : Int32) (x3 : Int32) (x4 : Int32) (x5 : Int32) (h : xHp) : J_X1_emitComparison_37 G p l e s m args below meth c 68 [(0, .ref (xad G 37)), (1, .int x1), (2, .int x2), (3, .int x3), (4, .int x4), (5, .int x5)] [] h (F_X1_emitComparison_37_68 N x1 x2 x3 x4 x5 h) := by
  unfold F_X1_emitComparison_37_68
  refine x_aload_n C.1 dX1_emitComparison_68 rfl 0 rfl ?_
  refine x_iload_n C.1 dX1_emitComparison_69 rfl 1 rfl ?_
  refine x_iload_n C.1 dX1_emitComparison_70 rfl 2 rfl ?_
  refine x_iload C.1 dX1_emitComparison_71 4 rfl ?_
  refine x_iconst (v := 1) C.1 dX1_emitComparison_73 (by decide) ?_
  refine x_isub C.1 dX1_emitComparison_74 ?_
  refine z_callVi C dX1_emitComparison_75 (M_X1_emitAtMost_37 G l N x1 x2 (x4 - 1) h) (cwV 3 C.1.2.2.2.2.1 (gdV gWC qC_121 qC_122 qC_123 qC_32 qC_113) rfl rfl rfl (by decide +kernel) ⟨Nat.le_of_ble_eq_true rfl, Nat.le_of_ble_eq_true rfl⟩) (xc_37 G h) (by decide) rfl rfl rfl (Nat.le_of_ble_eq_true rfl) (fun r1 h2 => ?_)
  refine x_if_ne (tgt := 83) C.1 dX1_emitComparison_78 (by decide) ?_ ?_
  · refine x_iconst (v := 0) C.1 dX1_emitComparison_81 (by decide) ?_
    exact x_zretL C.1 dX1_emitComparison_82 hr rfl
  · exact x_sub [0, 3, 5] rfl (T_X1_emitComparison_37_83 C hr x3 x5 h2)
set_option maxHeartbeats 4000000 in
set_option maxRecDepth 100000 in
theorem T_X1_emitComparison_37_50 {G : xG} {p : Program} {l : Launch} {e : Env} {s : State} {m : MethodId} {args : Array Value} {below : List Frame} {meth : Method} {c : Code} {N : Nat} (C : xCz G p s m args meth c cX1_emitComparison 6 vX1_emitComparison RX1) (hr : meth.sig.returnType = (some .boolean)) (x1 : Int32) (x2 : Int32) (x3 : Int32) (x4 : Int32) (x5 : Int32) (h : xHp) : J_X1_emitComparison_37 G p l e s m args below meth c 50 [(0, .ref (xad G 37)), (1, .int x1), (2, .int x2), (3, .int x3), (4, .int x4), (5, .int x5)] [] h (F_X1_emitComparison_37_50 N x1 x2 x3 x4 x5 h) := by
  unfold F_X1_emitComparison_37_50
  refine x_iload C.1 dX1_emitComparison_50 5 rfl ?_
  refine x_if_ne (tgt := 68) C.1 dX1_emitComparison_52 (by decide) ?_ ?_
  · refine x_iload_n C.1 dX1_emitComparison_55 rfl 3 rfl ?_
    refine x_bipush (v := 60) C.1 dX1_emitComparison_56 (by decide) ?_
    refine x_icmp_eq (tgt := 68) C.1 dX1_emitComparison_58 (by decide) ?_ ?_
    · exact x_sub [0, 1, 2, 3, 4, 5] rfl (T_X1_emitComparison_37_68 C hr x1 x2 x3 x4 x5 h)
    · refine x_iload_n C.1 dX1_emitComparison_61 rfl 3 rfl ?_
      refine x_sipush (v := 257) C.1 dX1_emitComparison_62 (by decide) ?_
      refine x_icmp_ne (tgt := 83) C.1 dX1_emitComparison_65 (by decide) ?_ ?_
      · exact x_sub [0, 1, 2, 3, 4, 5] rfl (T_X1_emitComparison_37_68 C hr x1 x2 x3 x4 x5 h)
      · exact x_sub [0, 3, 5] rfl (T_X1_emitComparison_37_83 C hr x3 x5 h)
  · exact x_sub [0, 1, 2, 3, 4, 5] rfl (T_X1_emitComparison_37_68 C hr x1 x2 x3 x4 x5 h)
set_option maxHeartbeats 4000000 in
set_option maxRecDepth 100000 in
theorem T_X1_emitComparison_37_37 {G : xG} {p : Program} {l : Launch} {e : Env} {s : State} {m : MethodId} {args : Array Value} {below : List Frame} {meth : Method} {c : Code} {N : Nat} (C : xCz G p s m args meth c cX1_emitComparison 6 vX1_emitComparison RX1) (hr : meth.sig.returnType = (some .boolean)) (x1 : Int32) (x2 : Int32) (x3 : Int32) (x4 : Int32) (x5 : Int32) (h : xHp) : J_X1_emitComparison_37 G p l e s m args below meth c 37 [(0, .ref (xad G 37)), (1, .int x1), (2, .int x2), (3, .int x3), (4, .int x4), (5, .int x5)] [] h (F_X1_emitComparison_37_37 N x1 x2 x3 x4 x5 h) := by
  unfold F_X1_emitComparison_37_37
  refine x_aload_n C.1 dX1_emitComparison_37 rfl 0 rfl ?_
  refine x_iload_n C.1 dX1_emitComparison_38 rfl 1 rfl ?_
  refine x_iload_n C.1 dX1_emitComparison_39 rfl 2 rfl ?_
  refine x_iload C.1 dX1_emitComparison_40 4 rfl ?_
  refine z_callVi C dX1_emitComparison_42 (M_X1_emitAtMost_37 G l N x1 x2 x4 h) (cwV 3 C.1.2.2.2.2.1 (gdV gWC qC_121 qC_122 qC_123 qC_32 qC_113) rfl rfl rfl (by decide +kernel) ⟨Nat.le_of_ble_eq_true rfl, Nat.le_of_ble_eq_true rfl⟩) (xc_37 G h) (by decide) rfl rfl rfl (Nat.le_of_ble_eq_true rfl) (fun r1 h2 => ?_)
  refine x_if_ne (tgt := 50) C.1 dX1_emitComparison_45 (by decide) ?_ ?_
  · refine x_iconst (v := 0) C.1 dX1_emitComparison_48 (by decide) ?_
    exact x_zretL C.1 dX1_emitComparison_49 hr rfl
  · exact x_sub [0, 1, 2, 3, 4, 5] rfl (T_X1_emitComparison_37_50 C hr x1 x2 x3 x4 x5 h2)
set_option maxHeartbeats 4000000 in
set_option maxRecDepth 100000 in
theorem T_X1_emitComparison_37_17 {G : xG} {p : Program} {l : Launch} {e : Env} {s : State} {m : MethodId} {args : Array Value} {below : List Frame} {meth : Method} {c : Code} {N : Nat} (C : xCz G p s m args meth c cX1_emitComparison 6 vX1_emitComparison RX1) (hr : meth.sig.returnType = (some .boolean)) (x1 : Int32) (x2 : Int32) (x3 : Int32) (x4 : Int32) (s0 : Int32) (h : xHp) : J_X1_emitComparison_37 G p l e s m args below meth c 17 [(0, .ref (xad G 37)), (1, .int x1), (2, .int x2), (3, .int x3), (4, .int x4)] [.int s0] h (F_X1_emitComparison_37_17 N x1 x2 x3 x4 s0 h) := by
  unfold F_X1_emitComparison_37_17
  refine x_istore (lv' := [(5, .int s0), (0, .ref (xad G 37)), (1, .int x1), (2, .int x2), (3, .int x3), (4, .int x4)]) C.1 dX1_emitComparison_17 (by decide) rfl ?_
  refine x_iload C.1 dX1_emitComparison_19 0 rfl ?_
  refine x_if_ne (tgt := 37) C.1 dX1_emitComparison_21 (by decide) ?_ ?_
  · refine x_iload_n C.1 dX1_emitComparison_24 rfl 4 rfl ?_
    refine x_sipush (v := 256) C.1 dX1_emitComparison_25 (by decide) ?_
    refine x_icmp_eq (tgt := 37) C.1 dX1_emitComparison_28 (by decide) ?_ ?_
    · exact x_sub [1, 2, 3, 4, 5, 0] rfl (T_X1_emitComparison_37_37 C hr x1 x2 x3 x4 s0 h)
    · refine x_iload_n C.1 dX1_emitComparison_31 rfl 4 rfl ?_
      refine x_bipush (v := 62) C.1 dX1_emitComparison_32 (by decide) ?_
      refine x_icmp_ne (tgt := 50) C.1 dX1_emitComparison_34 (by decide) ?_ ?_
      · exact x_sub [1, 2, 3, 4, 5, 0] rfl (T_X1_emitComparison_37_37 C hr x1 x2 x3 x4 s0 h)
      · exact x_sub [1, 2, 3, 4, 5, 0] rfl (T_X1_emitComparison_37_50 C hr x1 x2 x3 x4 s0 h)
  · exact x_sub [1, 2, 3, 4, 5, 0] rfl (T_X1_emitComparison_37_37 C hr x1 x2 x3 x4 s0 h)
set_option maxHeartbeats 4000000 in
set_option maxRecDepth 100000 in
theorem T_X1_emitComparison_37_12 {G : xG} {p : Program} {l : Launch} {e : Env} {s : State} {m : MethodId} {args : Array Value} {below : List Frame} {meth : Method} {c : Code} {N : Nat} (C : xCz G p s m args meth c cX1_emitComparison 6 vX1_emitComparison RX1) (hr : meth.sig.returnType = (some .boolean)) (x1 : Int32) (x2 : Int32) (x3 : Int32) (x4 : Int32) (h : xHp) : J_X1_emitComparison_37 G p l e s m args below meth c 12 [(0, .ref (xad G 37)), (1, .int x1), (2, .int x2), (3, .int x3), (4, .int x4)] [] h (F_X1_emitComparison_37_12 N x1 x2 x3 x4 h) := by
  unfold F_X1_emitComparison_37_12
  refine x_iconst (v := 1) C.1 dX1_emitComparison_12 (by decide) ?_
  refine x_goto (tgt := 17) C.1 dX1_emitComparison_13 (by decide) ?_
  exact x_sub [0, 1, 2, 3, 4] rfl (T_X1_emitComparison_37_17 C hr x1 x2 x3 x4 1 h)
set_option maxHeartbeats 4000000 in
set_option maxRecDepth 100000 in
theorem M_X1_emitComparison_37 (G : xG) (l : Launch) (N : Nat) (p1 : Int32) (p2 : Int32) (p3 : Int32) (p4 : Int32) (h : xHp) : ∀ r, F_X1_emitComparison_37 N p1 p2 p3 p4 h = some r → Met l yX1_emitComparison vX1_emitComparison ({ frames := 2, cells := 0, slots := 0, locals := 48 } : Room) (xPz G [.ref (xad G 37), .int p1, .int p2, .int p3, .int p4] h) (xQi G r) 0 0 (xA G) := by
  refine z_met (own := RX1) (cc := cX1_emitComparison) (maxL := 6) (ret := (some .boolean)) (lv0 := [(0, .ref (xad G 37)), (1, .int p1), (2, .int p2), (3, .int p3), (4, .int p4)]) (by decide +kernel) rfl rfl (Nat.le_of_ble_eq_true rfl) rfl ?_
  intro p e s m below meth c C hr
  unfold F_X1_emitComparison_37
  refine x_iload_n C.1 dX1_emitComparison_0 rfl 3 rfl ?_
  refine x_bipush (v := 61) C.1 dX1_emitComparison_1 (by decide) ?_
  refine x_icmp_eq (tgt := 12) C.1 dX1_emitComparison_3 (by decide) ?_ ?_
  · exact x_sub [0, 1, 2, 3, 4] rfl (T_X1_emitComparison_37_12 C hr p1 p2 p3 p4 h)
  · refine x_iload_n C.1 dX1_emitComparison_6 rfl 3 rfl ?_
    refine x_bipush (v := 35) C.1 dX1_emitComparison_7 (by decide) ?_
    refine x_icmp_ne (tgt := 16) C.1 dX1_emitComparison_9 (by decide) ?_ ?_
    · exact x_sub [0, 1, 2, 3, 4] rfl (T_X1_emitComparison_37_12 C hr p1 p2 p3 p4 h)
    · refine x_iconst (v := 0) C.1 dX1_emitComparison_16 (by decide) ?_
      exact x_sub [0, 1, 2, 3, 4] rfl (T_X1_emitComparison_37_17 C hr p1 p2 p3 p4 0 h)
/-! X3_endUnit: 33 instructions -/
abbrev J_X3_endUnit (G : xG) (p : Program) (l : Launch) (e : Env) (s : State) (m : MethodId) (args : Array Value) (below : List Frame) (meth : Method) (c : Code) : Nat → List (Nat × Value) → List Value → xHp → Option (Unit × xHp) → Prop := xJ G p l e ({ frames := 1, cells := 0, slots := 0, locals := 21 } : Room) s m args below meth c 2 (fun res => MQ below (xQv G res) args s 0 0 (xA G))
def F_X3_endUnit_60 (N : Nat) (h : xHp) : Option (Unit × xHp) := bnd (sI h 44 6 6) fun h1 => some ((), h1)
def F_X3_endUnit_42 (N : Nat) (h : xHp) : Option (Unit × xHp) := bnd2 (F_X3_dropMark N 38 h) fun r1 h2 => if r1 = 0 then F_X3_endUnit_60 N h2 else bnd2 (F_X1_emit_37 N 13 h2) fun r3 h4 => F_X3_endUnit_60 N h4
def F_X3_endUnit_2_b (N : Nat) (k2 : Int32 → xHp → Option (Unit × xHp)) (x1 : Int32) (h : xHp) : Option (Unit × xHp) := if 64 ≤ x1 then F_X3_endUnit_42 N h else bnd2 (F_X3_dropMark N 126 h) fun r1 h2 => if r1 = 0 then F_X3_endUnit_42 N h2 else bnd (sI h2 44 4 ((gI h2 44 4) - 1)) fun h3 => bnd2 (F_X1_emit_37 N 12 h3) fun r4 h5 => k2 (x1 + 1) h5
def F_X3_endUnit_2 (N : Nat) (x1 : Int32) (h : xHp) : Option (Unit × xHp) := xit (F_X3_endUnit_2_b N) (fun _ _ => none) N x1 h
def F_X3_endUnit (N : Nat) (h : xHp) : Option (Unit × xHp) := F_X3_endUnit_2 N 0 h
set_option maxHeartbeats 4000000 in
set_option maxRecDepth 100000 in
theorem T_X3_endUnit_60 {G : xG} {p : Program} {l : Launch} {e : Env} {s : State} {m : MethodId} {args : Array Value} {below : List Frame} {meth : Method} {c : Code} {N : Nat} (C : xCz G p s m args meth c cX3_endUnit 2 vX3_endUnit RX3) (hr : meth.sig.returnType = none) (h : xHp) : J_X3_endUnit G p l e s m args below meth c 60 [(0, .ref (xad G 44))] [] h (F_X3_endUnit_60 N h) := by
  unfold F_X3_endUnit_60
  refine x_aload_n C.1 dX3_endUnit_60 rfl 0 rfl ?_
  refine x_bipush (v := 6) C.1 dX3_endUnit_61 (by decide) ?_
  refine x_putI (ty0 := tyX3) (ty := .int) C.1 6 dX3_endUnit_63 (xc_44 G h) rfl (Nat.le_of_ble_eq_true rfl) (by decide) rfl (fun w h => List.mem_cons_of_mem _ (iWC_X3 w h)) tyX3_ok nmX3 (by decide) rfl rfl (by decide +kernel) rfl rfl (C.1.2.2.2.2.1 _ (List.mem_cons_of_mem _ qC_181)) (fun h1 => ?_)
  exact x_vret C.1 dX3_endUnit_66 hr
set_option maxHeartbeats 4000000 in
set_option maxRecDepth 100000 in
theorem T_X3_endUnit_42 {G : xG} {p : Program} {l : Launch} {e : Env} {s : State} {m : MethodId} {args : Array Value} {below : List Frame} {meth : Method} {c : Code} {N : Nat} (C : xCz G p s m args meth c cX3_endUnit 2 vX3_endUnit RX3) (hr : meth.sig.returnType = none) (h : xHp) : J_X3_endUnit G p l e s m args below meth c 42 [(0, .ref (xad G 44))] [] h (F_X3_endUnit_42 N h) := by
  unfold F_X3_endUnit_42
  refine x_aload_n C.1 dX3_endUnit_42 rfl 0 rfl ?_
  refine x_bipush (v := 38) C.1 dX3_endUnit_43 (by decide) ?_
  refine z_callVi C dX3_endUnit_45 (M_X3_dropMark G l N 38 h) (cwV 1 C.1.2.2.2.2.1 (gdV gWC qC_214 qC_215 qC_216 qC_217 qC_211) rfl rfl rfl (by decide +kernel) ⟨Nat.le_of_ble_eq_true rfl, Nat.le_of_ble_eq_true rfl⟩) (xc_44 G h) (by decide) rfl rfl rfl (Nat.le_of_ble_eq_true rfl) (fun r1 h2 => ?_)
  refine x_if_eq (tgt := 60) C.1 dX3_endUnit_48 (by decide) ?_ ?_
  · exact x_sub [0] rfl (T_X3_endUnit_60 C hr h2)
  · refine x_aload_n C.1 dX3_endUnit_51 rfl 0 rfl ?_
    refine x_get (v := .ref (xad G 37)) C.1 1 dX3_endUnit_52 (xc_44 G h2) rfl (by decide) rfl (fun w h => List.mem_cons_of_mem _ (iWC_X3 w h)) (by decide) rfl (C.1.2.2.2.2.1 _ (List.mem_cons_of_mem _ qC_177)) ?_
    refine x_bipush (v := 13) C.1 dX3_endUnit_55 (by decide) ?_
    refine z_callVv C dX3_endUnit_57 (M_X1_emit_37 G l N 13 h2) (cwV 1 C.1.2.2.2.2.1 (gdV gWC qC_218 qC_115 qC_116 qC_32 qC_111) rfl rfl rfl (by decide +kernel) ⟨Nat.le_of_ble_eq_true rfl, Nat.le_of_ble_eq_true rfl⟩) (xc_37 G h2) (by decide) rfl rfl rfl (Nat.le_of_ble_eq_true rfl) (fun r3 h4 => ?_)
    exact x_sub [0] rfl (T_X3_endUnit_60 C hr h4)
set_option maxHeartbeats 4000000 in
set_option maxRecDepth 100000 in
theorem T_X3_endUnit_2_b {G : xG} {p : Program} {l : Launch} {e : Env} {s : State} {m : MethodId} {args : Array Value} {below : List Frame} {meth : Method} {c : Code} {N : Nat} (C : xCz G p s m args meth c cX3_endUnit 2 vX3_endUnit RX3) (hr : meth.sig.returnType = none) {k2 : Int32 → xHp → Option (Unit × xHp)} (hk2 : ∀ (x1 : Int32) (h : xHp), J_X3_endUnit G p l e s m args below meth c 2 [(0, .ref (xad G 44)), (1, .int x1)] [] h (k2 x1 h)) (x1 : Int32) (h : xHp) : J_X3_endUnit G p l e s m args below meth c 2 [(0, .ref (xad G 44)), (1, .int x1)] [] h (F_X3_endUnit_2_b N k2 x1 h) := by
  unfold F_X3_endUnit_2_b
  refine x_iload_n C.1 dX3_endUnit_2 rfl 1 rfl ?_
  refine x_bipush (v := 64) C.1 dX3_endUnit_3 (by decide) ?_
  refine x_icmp_ge (tgt := 42) C.1 dX3_endUnit_5 (by decide) ?_ ?_
  · exact x_sub [0] rfl (T_X3_endUnit_42 C hr h)
  · refine x_aload_n C.1 dX3_endUnit_8 rfl 0 rfl ?_
    refine x_bipush (v := 126) C.1 dX3_endUnit_9 (by decide) ?_
    refine z_callVi C dX3_endUnit_11 (M_X3_dropMark G l N 126 h) (cwV 1 C.1.2.2.2.2.1 (gdV gWC qC_214 qC_215 qC_216 qC_217 qC_211) rfl rfl rfl (by decide +kernel) ⟨Nat.le_of_ble_eq_true rfl, Nat.le_of_ble_eq_true rfl⟩) (xc_44 G h) (by decide) rfl rfl rfl (Nat.le_of_ble_eq_true rfl) (fun r1 h2 => ?_)
    refine x_if_eq (tgt := 42) C.1 dX3_endUnit_14 (by decide) ?_ ?_
    · exact x_sub [0] rfl (T_X3_endUnit_42 C hr h2)
    · refine x_aload_n C.1 dX3_endUnit_17 rfl 0 rfl ?_
      refine x_dup C.1 dX3_endUnit_18 rfl ?_
      refine x_get (v := .int (gI h2 44 4)) C.1 4 dX3_endUnit_19 (xc_44 G h2) rfl (by decide) rfl (fun w h => List.mem_cons_of_mem _ (iWC_X3 w h)) (by decide) rfl (C.1.2.2.2.2.1 _ (List.mem_cons_of_mem _ qC_179)) ?_
      refine x_iconst (v := 1) C.1 dX3_endUnit_22 (by decide) ?_
      refine x_isub C.1 dX3_endUnit_23 ?_
      refine x_putI (ty0 := tyX3) (ty := .int) C.1 4 dX3_endUnit_24 (xc_44 G h2) rfl (Nat.le_of_ble_eq_true rfl) (by decide) rfl (fun w h => List.mem_cons_of_mem _ (iWC_X3 w h)) tyX3_ok nmX3 (by decide) rfl rfl (by decide +kernel) rfl rfl (C.1.2.2.2.2.1 _ (List.mem_cons_of_mem _ qC_179)) (fun h3 => ?_)
      refine x_aload_n C.1 dX3_endUnit_27 rfl 0 rfl ?_
      refine x_get (v := .ref (xad G 37)) C.1 1 dX3_endUnit_28 (xc_44 G h3) rfl (by decide) rfl (fun w h => List.mem_cons_of_mem _ (iWC_X3 w h)) (by decide) rfl (C.1.2.2.2.2.1 _ (List.mem_cons_of_mem _ qC_177)) ?_
      refine x_bipush (v := 12) C.1 dX3_endUnit_31 (by decide) ?_
      refine z_callVv C dX3_endUnit_33 (M_X1_emit_37 G l N 12 h3) (cwV 1 C.1.2.2.2.2.1 (gdV gWC qC_218 qC_115 qC_116 qC_32 qC_111) rfl rfl rfl (by decide +kernel) ⟨Nat.le_of_ble_eq_true rfl, Nat.le_of_ble_eq_true rfl⟩) (xc_37 G h3) (by decide) rfl rfl rfl (Nat.le_of_ble_eq_true rfl) (fun r4 h5 => ?_)
      refine x_iinc (v := (x1 + 1)) (j := 1) (lv' := [(1, .int (x1 + 1)), (0, .ref (xad G 44))]) C.1 dX3_endUnit_36 rfl (by rfl) (by decide) rfl ?_
      refine x_goto (tgt := 2) C.1 dX3_endUnit_39 (by decide) ?_
      exact x_sub [1, 0] rfl (hk2 (x1 + 1) h5)
set_option maxHeartbeats 4000000 in
set_option maxRecDepth 100000 in
theorem T_X3_endUnit_2_n {G : xG} {p : Program} {l : Launch} {e : Env} {s : State} {m : MethodId} {args : Array Value} {below : List Frame} {meth : Method} {c : Code} {N : Nat} (C : xCz G p s m args meth c cX3_endUnit 2 vX3_endUnit RX3) (hr : meth.sig.returnType = none) : ∀ (n : Nat) (x1 : Int32) (h : xHp), J_X3_endUnit G p l e s m args below meth c 2 [(0, .ref (xad G 44)), (1, .int x1)] [] h (xit (F_X3_endUnit_2_b N) (fun _ _ => none) n x1 h) := by
  intro n
  induction n with
  | zero => intros; exact x_none
  | succ n ih => intros; exact T_X3_endUnit_2_b C hr ih _ _
set_option maxHeartbeats 4000000 in
set_option maxRecDepth 100000 in
theorem T_X3_endUnit_2 {G : xG} {p : Program} {l : Launch} {e : Env} {s : State} {m : MethodId} {args : Array Value} {below : List Frame} {meth : Method} {c : Code} {N : Nat} (C : xCz G p s m args meth c cX3_endUnit 2 vX3_endUnit RX3) (hr : meth.sig.returnType = none) (x1 : Int32) (h : xHp) : J_X3_endUnit G p l e s m args below meth c 2 [(0, .ref (xad G 44)), (1, .int x1)] [] h (F_X3_endUnit_2 N x1 h) := T_X3_endUnit_2_n C hr N x1 h
set_option maxHeartbeats 4000000 in
set_option maxRecDepth 100000 in
theorem M_X3_endUnit (G : xG) (l : Launch) (N : Nat) (h : xHp) : ∀ r, F_X3_endUnit N h = some r → Met l yX3_endUnit vX3_endUnit ({ frames := 1, cells := 0, slots := 0, locals := 21 } : Room) (xPz G [.ref (xad G 44)] h) (xQv G r) 0 0 (xA G) := by
  refine z_met (own := RX3) (cc := cX3_endUnit) (maxL := 2) (ret := none) (lv0 := [(0, .ref (xad G 44))]) (by decide +kernel) rfl rfl (Nat.le_of_ble_eq_true rfl) rfl ?_
  intro p e s m below meth c C hr
  unfold F_X3_endUnit
  refine x_iconst (v := 0) C.1 dX3_endUnit_0 (by decide) ?_
  refine x_istore_n (lv' := [(1, .int 0), (0, .ref (xad G 44))]) C.1 dX3_endUnit_1 rfl (by decide) rfl ?_
  exact x_sub [1, 0] rfl (T_X3_endUnit_2 C hr 0 h)
/-! X3_takeInt: 47 instructions -/
abbrev J_X3_takeInt (G : xG) (p : Program) (l : Launch) (e : Env) (s : State) (m : MethodId) (args : Array Value) (below : List Frame) (meth : Method) (c : Code) : Nat → List (Nat × Value) → List Value → xHp → Option (Int32 × xHp) → Prop := xJ G p l e ({ frames := 3, cells := 0, slots := 0, locals := 73 } : Room) s m args below meth c 2 (fun res => MQ below (xQi G res) args s 0 0 (xA G))
def F_X3_takeInt_76 (N : Nat) (s4 : Int32) (s3 : Int32) (s2 : Int32) (s1 : Int32) (h : xHp) : Option (Int32 × xHp) := bnd2 (F_X1_emitComparison_37 N s1 s2 s3 s4 h) fun r1 h2 => if r1 = 0 then some (3, h2) else bnd2 (F_X3_endUnit N h2) fun r3 h4 => some (0, h4)
def F_X3_takeInt_26 (N : Nat) (x1 : Int32) (h : xHp) : Option (Int32 × xHp) := if x1 = 260 then if (gI h 44 10) = 0 then F_X3_takeInt_76 N (gI h 46 4) (gI h 44 9) (gI h 44 8) (gI h 44 7) h else F_X3_takeInt_76 N (-(gI h 46 4)) (gI h 44 9) (gI h 44 8) (gI h 44 7) h else some (2, h)
def F_X3_takeInt (N : Nat) (p1 : Int32) (h : xHp) : Option (Int32 × xHp) := if p1 = 45 then if (gI h 44 6) = 4 then bnd (sI h 44 10 1) fun h1 => bnd (sI h1 44 6 5) fun h2 => some (0, h2) else F_X3_takeInt_26 N p1 h else F_X3_takeInt_26 N p1 h
set_option maxHeartbeats 4000000 in
set_option maxRecDepth 100000 in
theorem T_X3_takeInt_76 {G : xG} {p : Program} {l : Launch} {e : Env} {s : State} {m : MethodId} {args : Array Value} {below : List Frame} {meth : Method} {c : Code} {N : Nat} (C : xCz G p s m args meth c cX3_takeInt 2 vX3_takeInt RX3) (hr : meth.sig.returnType = (some .int)) (s4 : Int32) (s3 : Int32) (s2 : Int32) (s1 : Int32) (h : xHp) : J_X3_takeInt G p l e s m args below meth c 76 [(0, .ref (xad G 44))] [.int s4, .int s3, .int s2, .int s1, .ref (xad G 37)] h (F_X3_takeInt_76 N s4 s3 s2 s1 h) := by
  unfold F_X3_takeInt_76
  refine z_callVi C dX3_takeInt_76 (M_X1_emitComparison_37 G l N s1 s2 s3 s4 h) (cwV 4 C.1.2.2.2.2.1 (gdV gWC qC_250 qC_251 qC_252 qC_32 qC_120) rfl rfl rfl (by decide +kernel) ⟨Nat.le_of_ble_eq_true rfl, Nat.le_of_ble_eq_true rfl⟩) (xc_37 G h) (by decide) rfl rfl rfl (Nat.le_of_ble_eq_true rfl) (fun r1 h2 => ?_)
  refine x_if_ne (tgt := 84) C.1 dX3_takeInt_79 (by decide) ?_ ?_
  · refine x_iconst (v := 3) C.1 dX3_takeInt_82 (by decide) ?_
    exact x_iret C.1 dX3_takeInt_83 hr
  · refine x_aload_n C.1 dX3_takeInt_84 rfl 0 rfl ?_
    refine z_callVv C dX3_takeInt_85 (M_X3_endUnit G l N h2) (cwV 0 C.1.2.2.2.2.1 (gdV gWC qC_241 qC_242 qC_243 qC_217 qC_240) rfl rfl rfl (by decide +kernel) ⟨Nat.le_of_ble_eq_true rfl, Nat.le_of_ble_eq_true rfl⟩) (xc_44 G h2) (by decide) rfl rfl rfl (Nat.le_of_ble_eq_true rfl) (fun r3 h4 => ?_)
    refine x_iconst (v := 0) C.1 dX3_takeInt_88 (by decide) ?_
    exact x_iret C.1 dX3_takeInt_89 hr
set_option maxHeartbeats 4000000 in
set_option maxRecDepth 100000 in
theorem T_X3_takeInt_26 {G : xG} {p : Program} {l : Launch} {e : Env} {s : State} {m : MethodId} {args : Array Value} {below : List Frame} {meth : Method} {c : Code} {N : Nat} (C : xCz G p s m args meth c cX3_takeInt 2 vX3_takeInt RX3) (hr : meth.sig.returnType = (some .int)) (x1 : Int32) (h : xHp) : J_X3_takeInt G p l e s m args below meth c 26 [(0, .ref (xad G 44)), (1, .int x1)] [] h (F_X3_takeInt_26 N x1 h) := by
  unfold F_X3_takeInt_26
  refine x_iload_n C.1 dX3_takeInt_26 rfl 1 rfl ?_
  refine x_sipush (v := 260) C.1 dX3_takeInt_27 (by decide) ?_
  refine x_icmp_eq (tgt := 35) C.1 dX3_takeInt_30 (by decide) ?_ ?_
  · refine x_aload_n C.1 dX3_takeInt_35 rfl 0 rfl ?_
    refine x_get (v := .ref (xad G 37)) C.1 1 dX3_takeInt_36 (xc_44 G h) rfl (by decide) rfl (fun w h => List.mem_cons_of_mem _ (iWC_X3 w h)) (by decide) rfl (C.1.2.2.2.2.1 _ (List.mem_cons_of_mem _ qC_177)) ?_
    refine x_aload_n C.1 dX3_takeInt_39 rfl 0 rfl ?_
    refine x_get (v := .int (gI h 44 7)) C.1 7 dX3_takeInt_40 (xc_44 G h) rfl (by decide) rfl (fun w h => List.mem_cons_of_mem _ (iWC_X3 w h)) (by decide) rfl (C.1.2.2.2.2.1 _ (List.mem_cons_of_mem _ qC_234)) ?_
    refine x_aload_n C.1 dX3_takeInt_43 rfl 0 rfl ?_
    refine x_get (v := .int (gI h 44 8)) C.1 8 dX3_takeInt_44 (xc_44 G h) rfl (by decide) rfl (fun w h => List.mem_cons_of_mem _ (iWC_X3 w h)) (by decide) rfl (C.1.2.2.2.2.1 _ (List.mem_cons_of_mem _ qC_235)) ?_
    refine x_aload_n C.1 dX3_takeInt_47 rfl 0 rfl ?_
    refine x_get (v := .int (gI h 44 9)) C.1 9 dX3_takeInt_48 (xc_44 G h) rfl (by decide) rfl (fun w h => List.mem_cons_of_mem _ (iWC_X3 w h)) (by decide) rfl (C.1.2.2.2.2.1 _ (List.mem_cons_of_mem _ qC_249)) ?_
    refine x_aload_n C.1 dX3_takeInt_51 rfl 0 rfl ?_
    refine x_get (v := .int (gI h 44 10)) C.1 10 dX3_takeInt_52 (xc_44 G h) rfl (by decide) rfl (fun w h => List.mem_cons_of_mem _ (iWC_X3 w h)) (by decide) rfl (C.1.2.2.2.2.1 _ (List.mem_cons_of_mem _ qC_236)) ?_
    refine x_if_eq (tgt := 69) C.1 dX3_takeInt_55 (by decide) ?_ ?_
    · refine x_aload_n C.1 dX3_takeInt_69 rfl 0 rfl ?_
      refine x_get (v := .ref (xad G 46)) C.1 0 dX3_takeInt_70 (xc_44 G h) rfl (by decide) rfl (fun w h => List.mem_cons_of_mem _ (iWC_X3 w h)) (by decide) rfl (C.1.2.2.2.2.1 _ (List.mem_cons_of_mem _ qC_176)) ?_
      refine x_get (v := .int (gI h 46 4)) C.1 4 dX3_takeInt_73 (xc_46 G h) rfl (by decide) rfl (fun w h => List.mem_cons_of_mem _ (iWC_X4 w h)) (by decide) rfl (C.1.2.2.2.2.1 _ (List.mem_cons_of_mem _ qC_233)) ?_
      exact x_sub [0] rfl (T_X3_takeInt_76 C hr (gI h 46 4) (gI h 44 9) (gI h 44 8) (gI h 44 7) h)
    · refine x_aload_n C.1 dX3_takeInt_58 rfl 0 rfl ?_
      refine x_get (v := .ref (xad G 46)) C.1 0 dX3_takeInt_59 (xc_44 G h) rfl (by decide) rfl (fun w h => List.mem_cons_of_mem _ (iWC_X3 w h)) (by decide) rfl (C.1.2.2.2.2.1 _ (List.mem_cons_of_mem _ qC_176)) ?_
      refine x_get (v := .int (gI h 46 4)) C.1 4 dX3_takeInt_62 (xc_46 G h) rfl (by decide) rfl (fun w h => List.mem_cons_of_mem _ (iWC_X4 w h)) (by decide) rfl (C.1.2.2.2.2.1 _ (List.mem_cons_of_mem _ qC_233)) ?_
      refine x_ineg C.1 dX3_takeInt_65 ?_
      refine x_goto (tgt := 76) C.1 dX3_takeInt_66 (by decide) ?_
      exact x_sub [0] rfl (T_X3_takeInt_76 C hr (-(gI h 46 4)) (gI h 44 9) (gI h 44 8) (gI h 44 7) h)
  · refine x_iconst (v := 2) C.1 dX3_takeInt_33 (by decide) ?_
    exact x_iret C.1 dX3_takeInt_34 hr
set_option maxHeartbeats 4000000 in
set_option maxRecDepth 100000 in
theorem M_X3_takeInt (G : xG) (l : Launch) (N : Nat) (p1 : Int32) (h : xHp) : ∀ r, F_X3_takeInt N p1 h = some r → Met l yX3_takeInt vX3_takeInt ({ frames := 3, cells := 0, slots := 0, locals := 73 } : Room) (xPz G [.ref (xad G 44), .int p1] h) (xQi G r) 0 0 (xA G) := by
  refine z_met (own := RX3) (cc := cX3_takeInt) (maxL := 2) (ret := (some .int)) (lv0 := [(0, .ref (xad G 44)), (1, .int p1)]) (by decide +kernel) rfl rfl (Nat.le_of_ble_eq_true rfl) rfl ?_
  intro p e s m below meth c C hr
  unfold F_X3_takeInt
  refine x_iload_n C.1 dX3_takeInt_0 rfl 1 rfl ?_
  refine x_bipush (v := 45) C.1 dX3_takeInt_1 (by decide) ?_
  refine x_icmp_ne (tgt := 26) C.1 dX3_takeInt_3 (by decide) ?_ ?_
  · refine x_aload_n C.1 dX3_takeInt_6 rfl 0 rfl ?_
    refine x_get (v := .int (gI h 44 6)) C.1 6 dX3_takeInt_7 (xc_44 G h) rfl (by decide) rfl (fun w h => List.mem_cons_of_mem _ (iWC_X3 w h)) (by decide) rfl (C.1.2.2.2.2.1 _ (List.mem_cons_of_mem _ qC_181)) ?_
    refine x_iconst (v := 4) C.1 dX3_takeInt_10 (by decide) ?_
    refine x_icmp_ne (tgt := 26) C.1 dX3_takeInt_11 (by decide) ?_ ?_
    · refine x_aload_n C.1 dX3_takeInt_14 rfl 0 rfl ?_
      refine x_iconst (v := 1) C.1 dX3_takeInt_15 (by decide) ?_
      refine x_putI (ty0 := tyX3) (ty := .boolean) C.1 10 dX3_takeInt_16 (xc_44 G h) rfl (Nat.le_of_ble_eq_true rfl) (by decide) rfl (fun w h => List.mem_cons_of_mem _ (iWC_X3 w h)) tyX3_ok nmX3 (by decide) rfl rfl (by decide +kernel) rfl rfl (C.1.2.2.2.2.1 _ (List.mem_cons_of_mem _ qC_236)) (fun h1 => ?_)
      refine x_aload_n C.1 dX3_takeInt_19 rfl 0 rfl ?_
      refine x_iconst (v := 5) C.1 dX3_takeInt_20 (by decide) ?_
      refine x_putI (ty0 := tyX3) (ty := .int) C.1 6 dX3_takeInt_21 (xc_44 G h1) rfl (Nat.le_of_ble_eq_true rfl) (by decide) rfl (fun w h => List.mem_cons_of_mem _ (iWC_X3 w h)) tyX3_ok nmX3 (by decide) rfl rfl (by decide +kernel) rfl rfl (C.1.2.2.2.2.1 _ (List.mem_cons_of_mem _ qC_181)) (fun h2 => ?_)
      refine x_iconst (v := 0) C.1 dX3_takeInt_24 (by decide) ?_
      exact x_iret C.1 dX3_takeInt_25 hr
    · exact x_sub [0, 1] rfl (T_X3_takeInt_26 C hr p1 h)
  · exact x_sub [0, 1] rfl (T_X3_takeInt_26 C hr p1 h)
/-! X3_takeDifference: 44 instructions -/
abbrev J_X3_takeDifference (G : xG) (p : Program) (l : Launch) (e : Env) (s : State) (m : MethodId) (args : Array Value) (below : List Frame) (meth : Method) (c : Code) : Nat → List (Nat × Value) → List Value → xHp → Option (Int32 × xHp) → Prop := xJ G p l e ({ frames := 1, cells := 0, slots := 0, locals := 20 } : Room) s m args below meth c 2 (fun res => MQ below (xQi G res) args s 0 0 (xA G))
def F_X3_takeDifference_56 (N : Nat) (x1 : Int32) (h : xHp) : Option (Int32 × xHp) := bnd2 (F_X3_isRelation N x1 h) fun r1 h2 => if r1 = 0 then some (2, h2) else bnd (sI h2 44 9 x1) fun h3 => bnd (sI h3 44 6 4) fun h4 => some (0, h4)
def F_X3_takeDifference (N : Nat) (p1 : Int32) (h : xHp) : Option (Int32 × xHp) := if (gI h 44 6) = 2 then if p1 = 259 then bnd (sI h 44 8 (gI h 46 4)) fun h1 => bnd (sI h1 44 6 3) fun h2 => some (0, h2) else some (2, h) else if p1 = 45 then if (gI h 44 6) = 1 then bnd (sI h 44 6 2) fun h3 => some (0, h3) else F_X3_takeDifference_56 N p1 h else F_X3_takeDifference_56 N p1 h
set_option maxHeartbeats 4000000 in
set_option maxRecDepth 100000 in
theorem T_X3_takeDifference_56 {G : xG} {p : Program} {l : Launch} {e : Env} {s : State} {m : MethodId} {args : Array Value} {below : List Frame} {meth : Method} {c : Code} {N : Nat} (C : xCz G p s m args meth c cX3_takeDifference 2 vX3_takeDifference RX3) (hr : meth.sig.returnType = (some .int)) (x1 : Int32) (h : xHp) : J_X3_takeDifference G p l e s m args below meth c 56 [(0, .ref (xad G 44)), (1, .int x1)] [] h (F_X3_takeDifference_56 N x1 h) := by
  unfold F_X3_takeDifference_56
  refine x_iload_n C.1 dX3_takeDifference_56 rfl 1 rfl ?_
  refine z_callSi C dX3_takeDifference_57 (M_X3_isRelation G l N x1 h) (va_cwS 1 C.1.2.2.2.2.1 (gdS gWC qC_256 qC_257 qC_217 qC_254) rfl rfl rfl (by decide +kernel) ⟨Nat.le_of_ble_eq_true rfl, Nat.le_of_ble_eq_true rfl⟩) rfl rfl (Nat.le_of_ble_eq_true rfl) (fun r1 h2 => ?_)
  refine x_if_ne (tgt := 65) C.1 dX3_takeDifference_60 (by decide) ?_ ?_
  · refine x_iconst (v := 2) C.1 dX3_takeDifference_63 (by decide) ?_
    exact x_iret C.1 dX3_takeDifference_64 hr
  · refine x_aload_n C.1 dX3_takeDifference_65 rfl 0 rfl ?_
    refine x_iload_n C.1 dX3_takeDifference_66 rfl 1 rfl ?_
    refine x_putI (ty0 := tyX3) (ty := .int) C.1 9 dX3_takeDifference_67 (xc_44 G h2) rfl (Nat.le_of_ble_eq_true rfl) (by decide) rfl (fun w h => List.mem_cons_of_mem _ (iWC_X3 w h)) tyX3_ok nmX3 (by decide) rfl rfl (by decide +kernel) rfl rfl (C.1.2.2.2.2.1 _ (List.mem_cons_of_mem _ qC_249)) (fun h3 => ?_)
    refine x_aload_n C.1 dX3_takeDifference_70 rfl 0 rfl ?_
    refine x_iconst (v := 4) C.1 dX3_takeDifference_71 (by decide) ?_
    refine x_putI (ty0 := tyX3) (ty := .int) C.1 6 dX3_takeDifference_72 (xc_44 G h3) rfl (Nat.le_of_ble_eq_true rfl) (by decide) rfl (fun w h => List.mem_cons_of_mem _ (iWC_X3 w h)) tyX3_ok nmX3 (by decide) rfl rfl (by decide +kernel) rfl rfl (C.1.2.2.2.2.1 _ (List.mem_cons_of_mem _ qC_181)) (fun h4 => ?_)
    refine x_iconst (v := 0) C.1 dX3_takeDifference_75 (by decide) ?_
    exact x_iret C.1 dX3_takeDifference_76 hr
set_option maxHeartbeats 4000000 in
set_option maxRecDepth 100000 in
theorem M_X3_takeDifference (G : xG) (l : Launch) (N : Nat) (p1 : Int32) (h : xHp) : ∀ r, F_X3_takeDifference N p1 h = some r → Met l yX3_takeDifference vX3_takeDifference ({ frames := 1, cells := 0, slots := 0, locals := 20 } : Room) (xPz G [.ref (xad G 44), .int p1] h) (xQi G r) 0 0 (xA G) := by
  refine z_met (own := RX3) (cc := cX3_takeDifference) (maxL := 2) (ret := (some .int)) (lv0 := [(0, .ref (xad G 44)), (1, .int p1)]) (by decide +kernel) rfl rfl (Nat.le_of_ble_eq_true rfl) rfl ?_
  intro p e s m below meth c C hr
  unfold F_X3_takeDifference
  refine x_aload_n C.1 dX3_takeDifference_0 rfl 0 rfl ?_
  refine x_get (v := .int (gI h 44 6)) C.1 6 dX3_takeDifference_1 (xc_44 G h) rfl (by decide) rfl (fun w h => List.mem_cons_of_mem _ (iWC_X3 w h)) (by decide) rfl (C.1.2.2.2.2.1 _ (List.mem_cons_of_mem _ qC_181)) ?_
  refine x_iconst (v := 2) C.1 dX3_takeDifference_4 (by decide) ?_
  refine x_icmp_ne (tgt := 35) C.1 dX3_takeDifference_5 (by decide) ?_ ?_
  · refine x_iload_n C.1 dX3_takeDifference_8 rfl 1 rfl ?_
    refine x_sipush (v := 259) C.1 dX3_takeDifference_9 (by decide) ?_
    refine x_icmp_eq (tgt := 17) C.1 dX3_takeDifference_12 (by decide) ?_ ?_
    · refine x_aload_n C.1 dX3_takeDifference_17 rfl 0 rfl ?_
      refine x_aload_n C.1 dX3_takeDifference_18 rfl 0 rfl ?_
      refine x_get (v := .ref (xad G 46)) C.1 0 dX3_takeDifference_19 (xc_44 G h) rfl (by decide) rfl (fun w h => List.mem_cons_of_mem _ (iWC_X3 w h)) (by decide) rfl (C.1.2.2.2.2.1 _ (List.mem_cons_of_mem _ qC_176)) ?_
      refine x_get (v := .int (gI h 46 4)) C.1 4 dX3_takeDifference_22 (xc_46 G h) rfl (by decide) rfl (fun w h => List.mem_cons_of_mem _ (iWC_X4 w h)) (by decide) rfl (C.1.2.2.2.2.1 _ (List.mem_cons_of_mem _ qC_233)) ?_
      refine x_putI (ty0 := tyX3) (ty := .int) C.1 8 dX3_takeDifference_25 (xc_44 G h) rfl (Nat.le_of_ble_eq_true rfl) (by decide) rfl (fun w h => List.mem_cons_of_mem _ (iWC_X3 w h)) tyX3_ok nmX3 (by decide) rfl rfl (by decide +kernel) rfl rfl (C.1.2.2.2.2.1 _ (List.mem_cons_of_mem _ qC_235)) (fun h1 => ?_)
      refine x_aload_n C.1 dX3_takeDifference_28 rfl 0 rfl ?_
      refine x_iconst (v := 3) C.1 dX3_takeDifference_29 (by decide) ?_
      refine x_putI (ty0 := tyX3) (ty := .int) C.1 6 dX3_takeDifference_30 (xc_44 G h1) rfl (Nat.le_of_ble_eq_true rfl) (by decide) rfl (fun w h => List.mem_cons_of_mem _ (iWC_X3 w h)) tyX3_ok nmX3 (by decide) rfl rfl (by decide +kernel) rfl rfl (C.1.2.2.2.2.1 _ (List.mem_cons_of_mem _ qC_181)) (fun h2 => ?_)
      refine x_iconst (v := 0) C.1 dX3_takeDifference_33 (by decide) ?_
      exact x_iret C.1 dX3_takeDifference_34 hr
    · refine x_iconst (v := 2) C.1 dX3_takeDifference_15 (by decide) ?_
      exact x_iret C.1 dX3_takeDifference_16 hr
  · refine x_iload_n C.1 dX3_takeDifference_35 rfl 1 rfl ?_
    refine x_bipush (v := 45) C.1 dX3_takeDifference_36 (by decide) ?_
    refine x_icmp_ne (tgt := 56) C.1 dX3_takeDifference_38 (by decide) ?_ ?_
    · refine x_aload_n C.1 dX3_takeDifference_41 rfl 0 rfl ?_
      refine x_get (v := .int (gI h 44 6)) C.1 6 dX3_takeDifference_42 (xc_44 G h) rfl (by decide) rfl (fun w h => List.mem_cons_of_mem _ (iWC_X3 w h)) (by decide) rfl (C.1.2.2.2.2.1 _ (List.mem_cons_of_mem _ qC_181)) ?_
      refine x_iconst (v := 1) C.1 dX3_takeDifference_45 (by decide) ?_
      refine x_icmp_ne (tgt := 56) C.1 dX3_takeDifference_46 (by decide) ?_ ?_
      · refine x_aload_n C.1 dX3_takeDifference_49 rfl 0 rfl ?_
        refine x_iconst (v := 2) C.1 dX3_takeDifference_50 (by decide) ?_
        refine x_putI (ty0 := tyX3) (ty := .int) C.1 6 dX3_takeDifference_51 (xc_44 G h) rfl (Nat.le_of_ble_eq_true rfl) (by decide) rfl (fun w h => List.mem_cons_of_mem _ (iWC_X3 w h)) tyX3_ok nmX3 (by decide) rfl rfl (by decide +kernel) rfl rfl (C.1.2.2.2.2.1 _ (List.mem_cons_of_mem _ qC_181)) (fun h3 => ?_)
        refine x_iconst (v := 0) C.1 dX3_takeDifference_54 (by decide) ?_
        exact x_iret C.1 dX3_takeDifference_55 hr
      · exact x_sub [0, 1] rfl (T_X3_takeDifference_56 C hr p1 h)
    · exact x_sub [0, 1] rfl (T_X3_takeDifference_56 C hr p1 h)
