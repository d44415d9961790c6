/-! X9_isIdle: 28 instructions -/
abbrev J_X9_isIdle (G : xG) (p : Program) (l : Launch) (e : Env) (s : State) (m : MethodId) (args : Array Value) (below : List Frame) (meth : Method) (c : Code) : Nat → List (Nat × Value) → List Value → xHp → Option (Int32 × xHp) → Prop := xJ G p l e ({ frames := 2, cells := 0, slots := 0, locals := 51 } : Room) s m args below meth c 2 (fun res => MQ below (xQi G res) args s 0 0 (xA G))
def F_X9_isIdle (N : Nat) (p1 : Int32) (h : xHp) : Option (Int32 × xHp) := bnd2 (F_X9_constraintsAlone N h) fun r1 h2 => grd (xin p1 70) (bnd (sI h2 55 p1.toNatClampNeg (vp_nar .boolean 0)) fun h3 => grd (xin p1 70) (grd (xin p1 70) (bnd2 (F_X9_boundOf N (gI h3 52 p1.toNatClampNeg) (gI h3 53 p1.toNatClampNeg) h3) fun r4 h5 => grd (xin p1 70) (if 0 < (lg_cmp r4 ((gI h5 54 p1.toNatClampNeg).toInt64)) then some (0, h5) else some (1, h5)))))
set_option maxHeartbeats 4000000 in
set_option maxRecDepth 100000 in
theorem M_X9_isIdle (G : xG) (l : Launch) (N : Nat) (p1 : Int32) (h : xHp) : ∀ r, F_X9_isIdle N p1 h = some r → Met l yX9_isIdle vX9_isIdle ({ frames := 2, cells := 0, slots := 0, locals := 51 } : Room) (xPc G [.ref (xad G 51), .int p1] h) (xQi G r) 0 0 (xA G) := by
  refine x_met (own := RX9) (cc := cX9_isIdle) (maxL := 2) (ret := (some .boolean)) (lv0 := [(0, .ref (xad G 51)), (1, .int p1)]) (by decide +kernel) rfl rfl (Nat.le_of_ble_eq_true rfl) rfl ?_
  intro p e s m below meth c C hr
  unfold F_X9_isIdle
  refine x_aload_n C dX9_isIdle_0 rfl 0 rfl ?_
  refine x_callVv C dX9_isIdle_1 (M_X9_constraintsAlone G l N h) (cwV 0 C.2.2.2.2.1 (gdV gWM qM_36 qM_37 qM_38 qM_9 qM_10) rfl rfl rfl (by decide +kernel) ⟨Nat.le_of_ble_eq_true rfl, Nat.le_of_ble_eq_true rfl⟩) (xc_51 G h) (by decide) rfl rfl rfl (Nat.le_of_ble_eq_true rfl) (fun r1 h2 => ?_)
  refine x_aload_n C dX9_isIdle_4 rfl 0 rfl ?_
  refine x_get (v := .ref (xad G 55)) C 5 dX9_isIdle_5 (xc_51 G h2) rfl (by decide) rfl (fun w h => List.mem_cons_of_mem _ (iWM_X9 w h)) (by decide) rfl (C.2.2.2.2.1 _ (List.mem_cons_of_mem _ qM_11)) ?_
  refine x_iload_n C dX9_isIdle_8 rfl 1 rfl ?_
  refine x_iconst (v := 0) C dX9_isIdle_9 (by decide) ?_
  refine x_zast (n := 70) C dX9_isIdle_10 (fun g => xp_55 G g _ _) (by decide) (fun h3 => ?_)
  refine x_aload_n C dX9_isIdle_11 rfl 0 rfl ?_
  refine x_aload_n C dX9_isIdle_12 rfl 0 rfl ?_
  refine x_get (v := .ref (xad G 52)) C 2 dX9_isIdle_13 (xc_51 G h3) rfl (by decide) rfl (fun w h => List.mem_cons_of_mem _ (iWM_X9 w h)) (by decide) rfl (C.2.2.2.2.1 _ (List.mem_cons_of_mem _ qM_18)) ?_
  refine x_iload_n C dX9_isIdle_16 rfl 1 rfl ?_
  refine x_iald (n := 70) C dX9_isIdle_17 (xc_52 G h3) (by decide) ?_
  refine x_aload_n C dX9_isIdle_18 rfl 0 rfl ?_
  refine x_get (v := .ref (xad G 53)) C 3 dX9_isIdle_19 (xc_51 G h3) rfl (by decide) rfl (fun w h => List.mem_cons_of_mem _ (iWM_X9 w h)) (by decide) rfl (C.2.2.2.2.1 _ (List.mem_cons_of_mem _ qM_16)) ?_
  refine x_iload_n C dX9_isIdle_22 rfl 1 rfl ?_
  refine x_iald (n := 70) C dX9_isIdle_23 (xc_53 G h3) (by decide) ?_
  refine x_callVl C dX9_isIdle_24 (M_X9_boundOf G l N (gI h3 52 p1.toNatClampNeg) (gI h3 53 p1.toNatClampNeg) h3) (cwV 2 C.2.2.2.2.1 (gdV gWM qM_56 qM_57 qM_58 qM_9 qM_54) rfl rfl rfl (by decide +kernel) ⟨Nat.le_of_ble_eq_true rfl, Nat.le_of_ble_eq_true rfl⟩) (xc_51 G h3) (by decide) rfl rfl rfl (Nat.le_of_ble_eq_true rfl) (fun r4 h5 => ?_)
  refine x_aload_n C dX9_isIdle_27 rfl 0 rfl ?_
  refine x_get (v := .ref (xad G 54)) C 4 dX9_isIdle_28 (xc_51 G h5) rfl (by decide) rfl (fun w h => List.mem_cons_of_mem _ (iWM_X9 w h)) (by decide) rfl (C.2.2.2.2.1 _ (List.mem_cons_of_mem _ qM_17)) ?_
  refine x_iload_n C dX9_isIdle_31 rfl 1 rfl ?_
  refine x_iald (n := 70) C dX9_isIdle_32 (xc_54 G h5) (by decide) ?_
  refine x_i2l C dX9_isIdle_33 ?_
  refine x_lcmp C dX9_isIdle_34 ?_
  refine x_if_gt (tgt := 42) C dX9_isIdle_35 (by decide) ?_ ?_
  · refine x_iconst (v := 0) C dX9_isIdle_42 (by decide) ?_
    exact x_zretL C dX9_isIdle_43 hr rfl
  · refine x_iconst (v := 1) C dX9_isIdle_38 (by decide) ?_
    refine x_goto (tgt := 43) C dX9_isIdle_39 (by decide) ?_
    exact x_zretL C dX9_isIdle_43 hr rfl
/-! X9_constraint: 78 instructions -/
abbrev J_X9_constraint (G : xG) (p : Program) (l : Launch) (e : Env) (s : State) (m : MethodId) (args : Array Value) (below : List Frame) (meth : Method) (c : Code) : Nat → List (Nat × Value) → List Value → xHp → Option (Int32 × xHp) → Prop := xJ G p l e ({ frames := 3, cells := 0, slots := 0, locals := 72 } : Room) s m args below meth c 5 (fun res => MQ below (xQi G res) args s 0 0 (xA G))
def F_X9_constraint_63 (N : Nat) (k37 : Int32 → Int32 → Int32 → Int32 → xHp → Option (Int32 × xHp)) (x1 : Int32) (x2 : Int32) (x4 : Int32) (s1 : Int32) (s0 : Int32) (h : xHp) : Option (Int32 × xHp) := k37 x1 x2 (s0 + s1) (x4 + 1) h
def F_X9_constraint_37_b (N : Nat) (k37 : Int32 → Int32 → Int32 → Int32 → xHp → Option (Int32 × xHp)) (x1 : Int32) (x2 : Int32) (x3 : Int32) (x4 : Int32) (h : xHp) : Option (Int32 × xHp) := if (gI h 51 6) ≤ x4 then if x2 = 0 then grd (xin x1 70) (some ((gI h 52 x1.toNatClampNeg), h)) else if x2 = 1 then grd (xin x1 70) (some ((gI h 53 x1.toNatClampNeg), h)) else if x2 = 2 then grd (xin x1 70) (some ((gI h 54 x1.toNatClampNeg), h)) else if x2 = 3 then bnd2 (F_X9_isIdle N x1 h) fun r1 h2 => if r1 = 0 then some (0, h2) else some (1, h2) else some (x3, h) else grd (xin x4 20) (if x1 < (gI h 56 x4.toNatClampNeg) then F_X9_constraint_63 N k37 x1 x2 x4 0 x3 h else F_X9_constraint_63 N k37 x1 x2 x4 1 x3 h)
def F_X9_constraint_37 (N : Nat) (x1 : Int32) (x2 : Int32) (x3 : Int32) (x4 : Int32) (h : xHp) : Option (Int32 × xHp) := xit (F_X9_constraint_37_b N) (fun _ _ _ _ _ => none) N x1 x2 x3 x4 h
def F_X9_constraint (N : Nat) (p1 : Int32) (p2 : Int32) (h : xHp) : Option (Int32 × xHp) := bnd2 (F_X9_isIn N (p1.toInt64) 0 (((gI h 51 1) - 1).toInt64) h) fun r1 h2 => bnd2 (F_X9_isIn N (p2.toInt64) 0 4 h2) fun r3 h4 => bnd2 (F_X9_may N r1 r3 1 h4) fun r5 h6 => if r5 = 0 then some (0, h6) else F_X9_constraint_37 N p1 p2 0 0 h6
set_option maxHeartbeats 4000000 in
set_option maxRecDepth 100000 in
theorem T_X9_constraint_63 {G : xG} {p : Program} {l : Launch} {e : Env} {s : State} {m : MethodId} {args : Array Value} {below : List Frame} {meth : Method} {c : Code} {N : Nat} (C : xC G p s m args meth c cX9_constraint 5 vX9_constraint RX9) (hr : meth.sig.returnType = (some .int)) {k37 : Int32 → Int32 → Int32 → Int32 → xHp → Option (Int32 × xHp)} (hk37 : ∀ (x1 : Int32) (x2 : Int32) (x3 : Int32) (x4 : Int32) (h : xHp), J_X9_constraint G p l e s m args below meth c 37 [(0, .ref (xad G 51)), (1, .int x1), (2, .int x2), (3, .int x3), (4, .int x4)] [] h (k37 x1 x2 x3 x4 h)) (x1 : Int32) (x2 : Int32) (x4 : Int32) (s1 : Int32) (s0 : Int32) (h : xHp) : J_X9_constraint G p l e s m args below meth c 63 [(0, .ref (xad G 51)), (1, .int x1), (2, .int x2), (4, .int x4)] [.int s1, .int s0] h (F_X9_constraint_63 N k37 x1 x2 x4 s1 s0 h) := by
  unfold F_X9_constraint_63
  refine x_iadd C dX9_constraint_63 ?_
  refine x_istore_n (lv' := [(3, .int (s0 + s1)), (0, .ref (xad G 51)), (1, .int x1), (2, .int x2), (4, .int x4)]) C dX9_constraint_64 rfl (by decide) rfl ?_
  refine x_iinc (v := (x4 + 1)) (j := 4) (lv' := [(4, .int (x4 + 1)), (3, .int (s0 + s1)), (0, .ref (xad G 51)), (1, .int x1), (2, .int x2)]) C dX9_constraint_65 rfl (by rfl) (by decide) rfl ?_
  refine x_goto (tgt := 37) C dX9_constraint_68 (by decide) ?_
  exact x_sub [2, 3, 4, 1, 0] rfl (hk37 x1 x2 (s0 + s1) (x4 + 1) h)
set_option maxHeartbeats 4000000 in
set_option maxRecDepth 100000 in
theorem T_X9_constraint_37_b {G : xG} {p : Program} {l : Launch} {e : Env} {s : State} {m : MethodId} {args : Array Value} {below : List Frame} {meth : Method} {c : Code} {N : Nat} (C : xC G p s m args meth c cX9_constraint 5 vX9_constraint RX9) (hr : meth.sig.returnType = (some .int)) {k37 : Int32 → Int32 → Int32 → Int32 → xHp → Option (Int32 × xHp)} (hk37 : ∀ (x1 : Int32) (x2 : Int32) (x3 : Int32) (x4 : Int32) (h : xHp), J_X9_constraint G p l e s m args below meth c 37 [(0, .ref (xad G 51)), (1, .int x1), (2, .int x2), (3, .int x3), (4, .int x4)] [] h (k37 x1 x2 x3 x4 h)) (x1 : Int32) (x2 : Int32) (x3 : Int32) (x4 : Int32) (h : xHp) : J_X9_constraint G p l e s m args below meth c 37 [(0, .ref (xad G 51)), (1, .int x1), (2, .int x2), (3, .int x3), (4, .int x4)] [] h (F_X9_constraint_37_b N k37 x1 x2 x3 x4 h) := by
  unfold F_X9_constraint_37_b
  refine x_iload C dX9_constraint_37 4 rfl ?_
  refine x_aload_n C dX9_constraint_39 rfl 0 rfl ?_
  refine x_get (v := .int (gI h 51 6)) C 6 dX9_constraint_40 (xc_51 G h) rfl (by decide) rfl (fun w h => List.mem_cons_of_mem _ (iWM_X9 w h)) (by decide) rfl (C.2.2.2.2.1 _ (List.mem_cons_of_mem _ qM_44)) ?_
  refine x_icmp_ge (tgt := 71) C dX9_constraint_43 (by decide) ?_ ?_
  · refine x_iload_n C dX9_constraint_71 rfl 2 rfl ?_
    refine x_if_ne (tgt := 84) C dX9_constraint_72 (by decide) ?_ ?_
    · refine x_aload_n C dX9_constraint_75 rfl 0 rfl ?_
      refine x_get (v := .ref (xad G 52)) C 2 dX9_constraint_76 (xc_51 G h) rfl (by decide) rfl (fun w h => List.mem_cons_of_mem _ (iWM_X9 w h)) (by decide) rfl (C.2.2.2.2.1 _ (List.mem_cons_of_mem _ qM_18)) ?_
      refine x_iload_n C dX9_constraint_79 rfl 1 rfl ?_
      refine x_iald (n := 70) C dX9_constraint_80 (xc_52 G h) (by decide) ?_
      refine x_goto (tgt := 134) C dX9_constraint_81 (by decide) ?_
      exact x_iret C dX9_constraint_134 hr
    · refine x_iload_n C dX9_constraint_84 rfl 2 rfl ?_
      refine x_iconst (v := 1) C dX9_constraint_85 (by decide) ?_
      refine x_icmp_ne (tgt := 98) C dX9_constraint_86 (by decide) ?_ ?_
      · refine x_aload_n C dX9_constraint_89 rfl 0 rfl ?_
        refine x_get (v := .ref (xad G 53)) C 3 dX9_constraint_90 (xc_51 G h) rfl (by decide) rfl (fun w h => List.mem_cons_of_mem _ (iWM_X9 w h)) (by decide) rfl (C.2.2.2.2.1 _ (List.mem_cons_of_mem _ qM_16)) ?_
        refine x_iload_n C dX9_constraint_93 rfl 1 rfl ?_
        refine x_iald (n := 70) C dX9_constraint_94 (xc_53 G h) (by decide) ?_
        refine x_goto (tgt := 134) C dX9_constraint_95 (by decide) ?_
        exact x_iret C dX9_constraint_134 hr
      · refine x_iload_n C dX9_constraint_98 rfl 2 rfl ?_
        refine x_iconst (v := 2) C dX9_constraint_99 (by decide) ?_
        refine x_icmp_ne (tgt := 112) C dX9_constraint_100 (by decide) ?_ ?_
        · refine x_aload_n C dX9_constraint_103 rfl 0 rfl ?_
          refine x_get (v := .ref (xad G 54)) C 4 dX9_constraint_104 (xc_51 G h) rfl (by decide) rfl (fun w h => List.mem_cons_of_mem _ (iWM_X9 w h)) (by decide) rfl (C.2.2.2.2.1 _ (List.mem_cons_of_mem _ qM_17)) ?_
          refine x_iload_n C dX9_constraint_107 rfl 1 rfl ?_
          refine x_iald (n := 70) C dX9_constraint_108 (xc_54 G h) (by decide) ?_
          refine x_goto (tgt := 134) C dX9_constraint_109 (by decide) ?_
          exact x_iret C dX9_constraint_134 hr
        · refine x_iload_n C dX9_constraint_112 rfl 2 rfl ?_
          refine x_iconst (v := 3) C dX9_constraint_113 (by decide) ?_
          refine x_icmp_ne (tgt := 133) C dX9_constraint_114 (by decide) ?_ ?_
          · refine x_aload_n C dX9_constraint_117 rfl 0 rfl ?_
            refine x_iload_n C dX9_constraint_118 rfl 1 rfl ?_
            refine x_callVi C dX9_constraint_119 (M_X9_isIdle G l N x1 h) (cwV 1 C.2.2.2.2.1 (gdV gWM qM_63 qM_64 qM_65 qM_9 qM_61) rfl rfl rfl (by decide +kernel) ⟨Nat.le_of_ble_eq_true rfl, Nat.le_of_ble_eq_true rfl⟩) (xc_51 G h) (by decide) rfl rfl rfl (Nat.le_of_ble_eq_true rfl) (fun r1 h2 => ?_)
            refine x_if_eq (tgt := 129) C dX9_constraint_122 (by decide) ?_ ?_
            · refine x_iconst (v := 0) C dX9_constraint_129 (by decide) ?_
              refine x_goto (tgt := 134) C dX9_constraint_130 (by decide) ?_
              exact x_iret C dX9_constraint_134 hr
            · refine x_iconst (v := 1) C dX9_constraint_125 (by decide) ?_
              refine x_goto (tgt := 134) C dX9_constraint_126 (by decide) ?_
              exact x_iret C dX9_constraint_134 hr
          · refine x_iload_n C dX9_constraint_133 rfl 3 rfl ?_
            exact x_iret C dX9_constraint_134 hr
  · refine x_iload_n C dX9_constraint_46 rfl 3 rfl ?_
    refine x_aload_n C dX9_constraint_47 rfl 0 rfl ?_
    refine x_get (v := .ref (xad G 56)) C 7 dX9_constraint_48 (xc_51 G h) rfl (by decide) rfl (fun w h => List.mem_cons_of_mem _ (iWM_X9 w h)) (by decide) rfl (C.2.2.2.2.1 _ (List.mem_cons_of_mem _ qM_45)) ?_
    refine x_iload C dX9_constraint_51 4 rfl ?_
    refine x_iald (n := 20) C dX9_constraint_53 (xc_56 G h) (by decide) ?_
    refine x_iload_n C dX9_constraint_54 rfl 1 rfl ?_
    refine x_icmp_gt (tgt := 62) C dX9_constraint_55 (by decide) ?_ ?_
    · refine x_iconst (v := 0) C dX9_constraint_62 (by decide) ?_
      exact x_sub [0, 1, 2, 4] rfl (T_X9_constraint_63 C hr hk37 x1 x2 x4 0 x3 h)
    · refine x_iconst (v := 1) C dX9_constraint_58 (by decide) ?_
      refine x_goto (tgt := 63) C dX9_constraint_59 (by decide) ?_
      exact x_sub [0, 1, 2, 4] rfl (T_X9_constraint_63 C hr hk37 x1 x2 x4 1 x3 h)
set_option maxHeartbeats 4000000 in
set_option maxRecDepth 100000 in
theorem T_X9_constraint_37_n {G : xG} {p : Program} {l : Launch} {e : Env} {s : State} {m : MethodId} {args : Array Value} {below : List Frame} {meth : Method} {c : Code} {N : Nat} (C : xC G p s m args meth c cX9_constraint 5 vX9_constraint RX9) (hr : meth.sig.returnType = (some .int)) : ∀ (n : Nat) (x1 : Int32) (x2 : Int32) (x3 : Int32) (x4 : Int32) (h : xHp), J_X9_constraint G p l e s m args below meth c 37 [(0, .ref (xad G 51)), (1, .int x1), (2, .int x2), (3, .int x3), (4, .int x4)] [] h (xit (F_X9_constraint_37_b N) (fun _ _ _ _ _ => none) n x1 x2 x3 x4 h) := by
  intro n
  induction n with
  | zero => intros; exact x_none
  | succ n ih => intros; exact T_X9_constraint_37_b C hr ih _ _ _ _ _
set_option maxHeartbeats 4000000 in
set_option maxRecDepth 100000 in
theorem T_X9_constraint_37 {G : xG} {p : Program} {l : Launch} {e : Env} {s : State} {m : MethodId} {args : Array Value} {below : List Frame} {meth : Method} {c : Code} {N : Nat} (C : xC G p s m args meth c cX9_constraint 5 vX9_constraint RX9) (hr : meth.sig.returnType = (some .int)) (x1 : Int32) (x2 : Int32) (x3 : Int32) (x4 : Int32) (h : xHp) : J_X9_constraint G p l e s m args below meth c 37 [(0, .ref (xad G 51)), (1, .int x1), (2, .int x2), (3, .int x3), (4, .int x4)] [] h (F_X9_constraint_37 N x1 x2 x3 x4 h) := T_X9_constraint_37_n C hr N x1 x2 x3 x4 h
set_option maxHeartbeats 4000000 in
set_option maxRecDepth 100000 in
theorem M_X9_constraint (G : xG) (l : Launch) (N : Nat) (p1 : Int32) (p2 : Int32) (h : xHp) : ∀ r, F_X9_constraint N p1 p2 h = some r → Met l yX9_constraint vX9_constraint ({ frames := 3, cells := 0, slots := 0, locals := 72 } : Room) (xPc G [.ref (xad G 51), .int p1, .int p2] h) (xQi G r) 0 0 (xA G) := by
  refine x_met (own := RX9) (cc := cX9_constraint) (maxL := 5) (ret := (some .int)) (lv0 := [(0, .ref (xad G 51)), (1, .int p1), (2, .int p2)]) (by decide +kernel) rfl rfl (Nat.le_of_ble_eq_true rfl) rfl ?_
  intro p e s m below meth c C hr
  unfold F_X9_constraint
  refine x_aload_n C dX9_constraint_0 rfl 0 rfl ?_
  refine x_iload_n C dX9_constraint_1 rfl 1 rfl ?_
  refine x_i2l C dX9_constraint_2 ?_
  refine x_lconst (v := 0) C dX9_constraint_3 (by decide) ?_
  refine x_aload_n C dX9_constraint_4 rfl 0 rfl ?_
  refine x_get (v := .int (gI h 51 1)) C 1 dX9_constraint_5 (xc_51 G h) rfl (by decide) rfl (fun w h => List.mem_cons_of_mem _ (iWM_X9 w h)) (by decide) rfl (C.2.2.2.2.1 _ (List.mem_cons_of_mem _ qM_12)) ?_
  refine x_iconst (v := 1) C dX9_constraint_8 (by decide) ?_
  refine x_isub C dX9_constraint_9 ?_
  refine x_i2l C dX9_constraint_10 ?_
  refine x_callSi C dX9_constraint_11 (M_X9_isIn G l N (p1.toInt64) 0 (((gI h 51 1) - 1).toInt64) h) (va_cwS 3 C.2.2.2.2.1 (gdS gWM qM_7 qM_8 qM_9 qM_3) rfl rfl rfl (by decide +kernel) ⟨Nat.le_of_ble_eq_true rfl, Nat.le_of_ble_eq_true rfl⟩) rfl rfl (Nat.le_of_ble_eq_true rfl) (fun r1 h2 => ?_)
  refine x_iload_n C dX9_constraint_14 rfl 2 rfl ?_
  refine x_i2l C dX9_constraint_15 ?_
  refine x_lconst (v := 0) C dX9_constraint_16 (by decide) ?_
  refine x_ldc2 (v := 4) C dX9_constraint_17 (C.2.2.2.2.1 _ (List.mem_cons_of_mem _ qM_62)) ?_
  refine x_callSi C dX9_constraint_20 (M_X9_isIn G l N (p2.toInt64) 0 4 h2) (va_cwS 3 C.2.2.2.2.1 (gdS gWM qM_7 qM_8 qM_9 qM_3) rfl rfl rfl (by decide +kernel) ⟨Nat.le_of_ble_eq_true rfl, Nat.le_of_ble_eq_true rfl⟩) rfl rfl (Nat.le_of_ble_eq_true rfl) (fun r3 h4 => ?_)
  refine x_iconst (v := 1) C dX9_constraint_23 (by decide) ?_
  refine x_callVi C dX9_constraint_24 (M_X9_may G l N r1 r3 1 h4) (cwV 3 C.2.2.2.2.1 (gdV gWM qM_33 qM_34 qM_35 qM_9 qM_4) rfl rfl rfl (by decide +kernel) ⟨Nat.le_of_ble_eq_true rfl, Nat.le_of_ble_eq_true rfl⟩) (xc_51 G h4) (by decide) rfl rfl rfl (Nat.le_of_ble_eq_true rfl) (fun r5 h6 => ?_)
  refine x_if_ne (tgt := 32) C dX9_constraint_27 (by decide) ?_ ?_
  · refine x_iconst (v := 0) C dX9_constraint_30 (by decide) ?_
    exact x_iret C dX9_constraint_31 hr
  · refine x_iconst (v := 0) C dX9_constraint_32 (by decide) ?_
    refine x_istore_n (lv' := [(3, .int 0), (0, .ref (xad G 51)), (1, .int p1), (2, .int p2)]) C dX9_constraint_33 rfl (by decide) rfl ?_
    refine x_iconst (v := 0) C dX9_constraint_34 (by decide) ?_
    refine x_istore (lv' := [(4, .int 0), (3, .int 0), (0, .ref (xad G 51)), (1, .int p1), (2, .int p2)]) C dX9_constraint_35 (by decide) rfl ?_
    exact x_sub [2, 3, 4, 1, 0] rfl (T_X9_constraint_37 C hr p1 p2 0 0 h6)
/-! X9_feed: 50 instructions -/
abbrev J_X9_feed (G : xG) (p : Program) (l : Launch) (e : Env) (s : State) (m : MethodId) (args : Array Value) (below : List Frame) (meth : Method) (c : Code) : Nat → List (Nat × Value) → List Value → xHp → Option (Int32 × xHp) → Prop := xJ G p l e ({ frames := 1, cells := 0, slots := 0, locals := 25 } : Room) s m args below meth c 5 (fun res => MQ below (xQi G res) args s 0 0 (xA G))
def F_X9_feed_41_b (N : Nat) (k41 : Int64 → Int32 → xHp → Option (Int32 × xHp)) (x1 : Int64) (x4 : Int32) (h : xHp) : Option (Int32 × xHp) := if x4 < 0 then some ((gI h 51 15), h) else grd (xin (gI h 51 15) 400) (bnd (sI h 61 (gI h 51 15).toNatClampNeg (((x1 >>> ((8 * x4).toInt64 &&& 63)) &&& 255).toInt32)) fun h1 => bnd (sI h1 51 15 ((gI h1 51 15) + 1)) fun h2 => k41 x1 (x4 + (-1)) h2)
def F_X9_feed_41 (N : Nat) (x1 : Int64) (x4 : Int32) (h : xHp) : Option (Int32 × xHp) := xit (F_X9_feed_41_b N) (fun _ _ _ => none) N x1 x4 h
def F_X9_feed_27 (N : Nat) (x1 : Int64) (x3 : Int32) (s2 : Int32) (s1 : Int32) (h : xHp) : Option (Int32 × xHp) := bnd2 (F_X9_may N s1 s2 1 h) fun r1 h2 => if r1 = 0 then some (0, h2) else F_X9_feed_41 N x1 (x3 - 1) h2
def F_X9_feed (N : Nat) (p1 : Int64) (p3 : Int32) (h : xHp) : Option (Int32 × xHp) := bnd2 (F_X9_isIn N (p3.toInt64) 1 8 h) fun r1 h2 => if 400 < ((gI h2 51 15) + p3) then F_X9_feed_27 N p1 p3 0 r1 h2 else F_X9_feed_27 N p1 p3 1 r1 h2
set_option maxHeartbeats 4000000 in
set_option maxRecDepth 100000 in
theorem T_X9_feed_41_b {G : xG} {p : Program} {l : Launch} {e : Env} {s : State} {m : MethodId} {args : Array Value} {below : List Frame} {meth : Method} {c : Code} {N : Nat} (C : xC G p s m args meth c cX9_feed 5 vX9_feed RX9) (hr : meth.sig.returnType = (some .int)) {k41 : Int64 → Int32 → xHp → Option (Int32 × xHp)} (hk41 : ∀ (x1 : Int64) (x4 : Int32) (h : xHp), J_X9_feed G p l e s m args below meth c 41 [(0, .ref (xad G 51)), (1, .long x1), (4, .int x4)] [] h (k41 x1 x4 h)) (x1 : Int64) (x4 : Int32) (h : xHp) : J_X9_feed G p l e s m args below meth c 41 [(0, .ref (xad G 51)), (1, .long x1), (4, .int x4)] [] h (F_X9_feed_41_b N k41 x1 x4 h) := by
  unfold F_X9_feed_41_b
  refine x_iload C dX9_feed_41 2 rfl ?_
  refine x_if_lt (tgt := 83) C dX9_feed_43 (by decide) ?_ ?_
  · refine x_aload_n C dX9_feed_83 rfl 0 rfl ?_
    refine x_get (v := .int (gI h 51 15)) C 15 dX9_feed_84 (xc_51 G h) rfl (by decide) rfl (fun w h => List.mem_cons_of_mem _ (iWM_X9 w h)) (by decide) rfl (C.2.2.2.2.1 _ (List.mem_cons_of_mem _ qM_69)) ?_
    exact x_iret C dX9_feed_87 hr
  · refine x_aload_n C dX9_feed_46 rfl 0 rfl ?_
    refine x_get (v := .ref (xad G 61)) C 14 dX9_feed_47 (xc_51 G h) rfl (by decide) rfl (fun w h => List.mem_cons_of_mem _ (iWM_X9 w h)) (by decide) rfl (C.2.2.2.2.1 _ (List.mem_cons_of_mem _ qM_70)) ?_
    refine x_aload_n C dX9_feed_50 rfl 0 rfl ?_
    refine x_get (v := .int (gI h 51 15)) C 15 dX9_feed_51 (xc_51 G h) rfl (by decide) rfl (fun w h => List.mem_cons_of_mem _ (iWM_X9 w h)) (by decide) rfl (C.2.2.2.2.1 _ (List.mem_cons_of_mem _ qM_69)) ?_
    refine x_lload_n C dX9_feed_54 rfl 1 rfl ?_
    refine x_bipush (v := 8) C dX9_feed_55 (by decide) ?_
    refine x_iload C dX9_feed_57 2 rfl ?_
    refine x_imul C dX9_feed_59 ?_
    refine x_lshr C dX9_feed_60 ?_
    refine x_ldc2 (v := 255) C dX9_feed_61 (C.2.2.2.2.1 _ (List.mem_cons_of_mem _ qM_71)) ?_
    refine x_land C dX9_feed_64 ?_
    refine x_l2i C dX9_feed_65 ?_
    refine x_iast (n := 400) C dX9_feed_66 (fun g => xp_61 G g _ _) (by decide) (fun h1 => ?_)
    refine x_aload_n C dX9_feed_67 rfl 0 rfl ?_
    refine x_dup C dX9_feed_68 rfl ?_
    refine x_get (v := .int (gI h1 51 15)) C 15 dX9_feed_69 (xc_51 G h1) rfl (by decide) rfl (fun w h => List.mem_cons_of_mem _ (iWM_X9 w h)) (by decide) rfl (C.2.2.2.2.1 _ (List.mem_cons_of_mem _ qM_69)) ?_
    refine x_iconst (v := 1) C dX9_feed_72 (by decide) ?_
    refine x_iadd C dX9_feed_73 ?_
    refine x_putI (ty0 := tyX9) (ty := .int) C 15 dX9_feed_74 (xc_51 G h1) rfl (Nat.le_of_ble_eq_true rfl) (by decide) rfl (fun w h => List.mem_cons_of_mem _ (iWM_X9 w h)) tyX9_ok nmX9 (by decide) rfl rfl (by decide +kernel) rfl rfl (C.2.2.2.2.1 _ (List.mem_cons_of_mem _ qM_69)) (fun h2 => ?_)
    refine x_iinc (v := (x4 + (-1))) (j := 2) (lv' := [(4, .int (x4 + (-1))), (0, .ref (xad G 51)), (1, .long x1)]) C dX9_feed_77 rfl (by rfl) (by decide) rfl ?_
    refine x_goto (tgt := 41) C dX9_feed_80 (by decide) ?_
    exact x_sub [1, 2, 0] rfl (hk41 x1 (x4 + (-1)) h2)
set_option maxHeartbeats 4000000 in
set_option maxRecDepth 100000 in
theorem T_X9_feed_41_n {G : xG} {p : Program} {l : Launch} {e : Env} {s : State} {m : MethodId} {args : Array Value} {below : List Frame} {meth : Method} {c : Code} {N : Nat} (C : xC G p s m args meth c cX9_feed 5 vX9_feed RX9) (hr : meth.sig.returnType = (some .int)) : ∀ (n : Nat) (x1 : Int64) (x4 : Int32) (h : xHp), J_X9_feed G p l e s m args below meth c 41 [(0, .ref (xad G 51)), (1, .long x1), (4, .int x4)] [] h (xit (F_X9_feed_41_b N) (fun _ _ _ => none) n x1 x4 h) := by
  intro n
  induction n with
  | zero => intros; exact x_none
  | succ n ih => intros; exact T_X9_feed_41_b C hr ih _ _ _
set_option maxHeartbeats 4000000 in
set_option maxRecDepth 100000 in
theorem T_X9_feed_41 {G : xG} {p : Program} {l : Launch} {e : Env} {s : State} {m : MethodId} {args : Array Value} {below : List Frame} {meth : Method} {c : Code} {N : Nat} (C : xC G p s m args meth c cX9_feed 5 vX9_feed RX9) (hr : meth.sig.returnType = (some .int)) (x1 : Int64) (x4 : Int32) (h : xHp) : J_X9_feed G p l e s m args below meth c 41 [(0, .ref (xad G 51)), (1, .long x1), (4, .int x4)] [] h (F_X9_feed_41 N x1 x4 h) := T_X9_feed_41_n C hr N x1 x4 h
set_option maxHeartbeats 4000000 in
set_option maxRecDepth 100000 in
theorem T_X9_feed_27 {G : xG} {p : Program} {l : Launch} {e : Env} {s : State} {m : MethodId} {args : Array Value} {below : List Frame} {meth : Method} {c : Code} {N : Nat} (C : xC G p s m args meth c cX9_feed 5 vX9_feed RX9) (hr : meth.sig.returnType = (some .int)) (x1 : Int64) (x3 : Int32) (s2 : Int32) (s1 : Int32) (h : xHp) : J_X9_feed G p l e s m args below meth c 27 [(0, .ref (xad G 51)), (1, .long x1), (3, .int x3)] [.int s2, .int s1, .ref (xad G 51)] h (F_X9_feed_27 N x1 x3 s2 s1 h) := by
  unfold F_X9_feed_27
  refine x_iconst (v := 1) C dX9_feed_27 (by decide) ?_
  refine x_callVi C dX9_feed_28 (M_X9_may G l N s1 s2 1 h) (cwV 3 C.2.2.2.2.1 (gdV gWM qM_33 qM_34 qM_35 qM_9 qM_4) rfl rfl rfl (by decide +kernel) ⟨Nat.le_of_ble_eq_true rfl, Nat.le_of_ble_eq_true rfl⟩) (xc_51 G h) (by decide) rfl rfl rfl (Nat.le_of_ble_eq_true rfl) (fun r1 h2 => ?_)
  refine x_if_ne (tgt := 36) C dX9_feed_31 (by decide) ?_ ?_
  · refine x_iconst (v := 0) C dX9_feed_34 (by decide) ?_
    exact x_iret C dX9_feed_35 hr
  · refine x_iload_n C dX9_feed_36 rfl 2 rfl ?_
    refine x_iconst (v := 1) C dX9_feed_37 (by decide) ?_
    refine x_isub C dX9_feed_38 ?_
    refine x_istore (lv' := [(4, .int (x3 - 1)), (0, .ref (xad G 51)), (1, .long x1), (3, .int x3)]) C dX9_feed_39 (by decide) rfl ?_
    exact x_sub [1, 2, 0] rfl (T_X9_feed_41 C hr x1 (x3 - 1) h2)
set_option maxHeartbeats 4000000 in
set_option maxRecDepth 100000 in
theorem M_X9_feed (G : xG) (l : Launch) (N : Nat) (p1 : Int64) (p3 : Int32) (h : xHp) : ∀ r, F_X9_feed N p1 p3 h = some r → Met l yX9_feed vX9_feed ({ frames := 1, cells := 0, slots := 0, locals := 25 } : Room) (xPc G [.ref (xad G 51), .long p1, .int p3] h) (xQi G r) 0 0 (xA G) := by
  refine x_met (own := RX9) (cc := cX9_feed) (maxL := 5) (ret := (some .int)) (lv0 := [(0, .ref (xad G 51)), (1, .long p1), (3, .int p3)]) (by decide +kernel) rfl rfl (Nat.le_of_ble_eq_true rfl) rfl ?_
  intro p e s m below meth c C hr
  unfold F_X9_feed
  refine x_aload_n C dX9_feed_0 rfl 0 rfl ?_
  refine x_iload_n C dX9_feed_1 rfl 2 rfl ?_
  refine x_i2l C dX9_feed_2 ?_
  refine x_lconst (v := 1) C dX9_feed_3 (by decide) ?_
  refine x_ldc2 (v := 8) C dX9_feed_4 (C.2.2.2.2.1 _ (List.mem_cons_of_mem _ qM_68)) ?_
  refine x_callSi C dX9_feed_7 (M_X9_isIn G l N (p3.toInt64) 1 8 h) (va_cwS 3 C.2.2.2.2.1 (gdS gWM qM_7 qM_8 qM_9 qM_3) rfl rfl rfl (by decide +kernel) ⟨Nat.le_of_ble_eq_true rfl, Nat.le_of_ble_eq_true rfl⟩) rfl rfl (Nat.le_of_ble_eq_true rfl) (fun r1 h2 => ?_)
  refine x_aload_n C dX9_feed_10 rfl 0 rfl ?_
  refine x_get (v := .int (gI h2 51 15)) C 15 dX9_feed_11 (xc_51 G h2) rfl (by decide) rfl (fun w h => List.mem_cons_of_mem _ (iWM_X9 w h)) (by decide) rfl (C.2.2.2.2.1 _ (List.mem_cons_of_mem _ qM_69)) ?_
  refine x_iload_n C dX9_feed_14 rfl 2 rfl ?_
  refine x_iadd C dX9_feed_15 ?_
  refine x_sipush (v := 400) C dX9_feed_16 (by decide) ?_
  refine x_icmp_gt (tgt := 26) C dX9_feed_19 (by decide) ?_ ?_
  · refine x_iconst (v := 0) C dX9_feed_26 (by decide) ?_
    exact x_sub [0, 1, 2] rfl (T_X9_feed_27 C hr p1 p3 0 r1 h2)
  · refine x_iconst (v := 1) C dX9_feed_22 (by decide) ?_
    refine x_goto (tgt := 27) C dX9_feed_23 (by decide) ?_
    exact x_sub [0, 1, 2] rfl (T_X9_feed_27 C hr p1 p3 1 r1 h2)
/-! X9_fail: 20 instructions -/
abbrev J_X9_fail (G : xG) (p : Program) (l : Launch) (e : Env) (s : State) (m : MethodId) (args : Array Value) (below : List Frame) (meth : Method) (c : Code) : Nat → List (Nat × Value) → List Value → xHp → Option (Unit × xHp) → Prop := xJ G p l e ({ frames := 0, cells := 0, slots := 0, locals := 0 } : Room) s m args below meth c 2 (fun res => MQ below (xQv G res) args s 0 0 (xA G))
def F_X9_fail_26 (N : Nat) (x1 : Int32) (h : xHp) : Option (Unit × xHp) := bnd (sI h 51 21 x1) fun h1 => bnd (sI h1 51 22 (gI h1 51 18)) fun h2 => some ((), h2)
def F_X9_fail (N : Nat) (p1 : Int32) (h : xHp) : Option (Unit × xHp) := if (gI h 51 21) = 0 then F_X9_fail_26 N p1 h else if (gI h 51 18) = (gI h 51 22) then if (gI h 51 21) ≤ p1 then some ((), h) else F_X9_fail_26 N p1 h else some ((), h)
set_option maxHeartbeats 4000000 in
set_option maxRecDepth 100000 in
theorem T_X9_fail_26 {G : xG} {p : Program} {l : Launch} {e : Env} {s : State} {m : MethodId} {args : Array Value} {below : List Frame} {meth : Method} {c : Code} {N : Nat} (C : xC G p s m args meth c cX9_fail 2 vX9_fail RX9) (hr : meth.sig.returnType = none) (x1 : Int32) (h : xHp) : J_X9_fail G p l e s m args below meth c 26 [(0, .ref (xad G 51)), (1, .int x1)] [] h (F_X9_fail_26 N x1 h) := by
  unfold F_X9_fail_26
  refine x_aload_n C dX9_fail_26 rfl 0 rfl ?_
  refine x_iload_n C dX9_fail_27 rfl 1 rfl ?_
  refine x_putI (ty0 := tyX9) (ty := .int) C 21 dX9_fail_28 (xc_51 G h) rfl (Nat.le_of_ble_eq_true rfl) (by decide) rfl (fun w h => List.mem_cons_of_mem _ (iWM_X9 w h)) tyX9_ok nmX9 (by decide) rfl rfl (by decide +kernel) rfl rfl (C.2.2.2.2.1 _ (List.mem_cons_of_mem _ qM_73)) (fun h1 => ?_)
  refine x_aload_n C dX9_fail_31 rfl 0 rfl ?_
  refine x_aload_n C dX9_fail_32 rfl 0 rfl ?_
  refine x_get (v := .int (gI h1 51 18)) C 18 dX9_fail_33 (xc_51 G h1) rfl (by decide) rfl (fun w h => List.mem_cons_of_mem _ (iWM_X9 w h)) (by decide) rfl (C.2.2.2.2.1 _ (List.mem_cons_of_mem _ qM_74)) ?_
  refine x_putI (ty0 := tyX9) (ty := .int) C 22 dX9_fail_36 (xc_51 G h1) rfl (Nat.le_of_ble_eq_true rfl) (by decide) rfl (fun w h => List.mem_cons_of_mem _ (iWM_X9 w h)) tyX9_ok nmX9 (by decide) rfl rfl (by decide +kernel) rfl rfl (C.2.2.2.2.1 _ (List.mem_cons_of_mem _ qM_75)) (fun h2 => ?_)
  exact x_vret C dX9_fail_39 hr
set_option maxHeartbeats 4000000 in
set_option maxRecDepth 100000 in
theorem M_X9_fail (G : xG) (l : Launch) (N : Nat) (p1 : Int32) (h : xHp) : ∀ r, F_X9_fail N p1 h = some r → Met l yX9_fail vX9_fail ({ frames := 0, cells := 0, slots := 0, locals := 0 } : Room) (xPc G [.ref (xad G 51), .int p1] h) (xQv G r) 0 0 (xA G) := by
  refine x_met (own := RX9) (cc := cX9_fail) (maxL := 2) (ret := none) (lv0 := [(0, .ref (xad G 51)), (1, .int p1)]) (by decide +kernel) rfl rfl (Nat.le_of_ble_eq_true rfl) rfl ?_
  intro p e s m below meth c C hr
  unfold F_X9_fail
  refine x_aload_n C dX9_fail_0 rfl 0 rfl ?_
  refine x_get (v := .int (gI h 51 21)) C 21 dX9_fail_1 (xc_51 G h) rfl (by decide) rfl (fun w h => List.mem_cons_of_mem _ (iWM_X9 w h)) (by decide) rfl (C.2.2.2.2.1 _ (List.mem_cons_of_mem _ qM_73)) ?_
  refine x_if_eq (tgt := 26) C dX9_fail_4 (by decide) ?_ ?_
  · exact x_sub [0, 1] rfl (T_X9_fail_26 C hr p1 h)
  · refine x_aload_n C dX9_fail_7 rfl 0 rfl ?_
    refine x_get (v := .int (gI h 51 18)) C 18 dX9_fail_8 (xc_51 G h) rfl (by decide) rfl (fun w h => List.mem_cons_of_mem _ (iWM_X9 w h)) (by decide) rfl (C.2.2.2.2.1 _ (List.mem_cons_of_mem _ qM_74)) ?_
    refine x_aload_n C dX9_fail_11 rfl 0 rfl ?_
    refine x_get (v := .int (gI h 51 22)) C 22 dX9_fail_12 (xc_51 G h) rfl (by decide) rfl (fun w h => List.mem_cons_of_mem _ (iWM_X9 w h)) (by decide) rfl (C.2.2.2.2.1 _ (List.mem_cons_of_mem _ qM_75)) ?_
    refine x_icmp_ne (tgt := 39) C dX9_fail_15 (by decide) ?_ ?_
    · refine x_iload_n C dX9_fail_18 rfl 1 rfl ?_
      refine x_aload_n C dX9_fail_19 rfl 0 rfl ?_
      refine x_get (v := .int (gI h 51 21)) C 21 dX9_fail_20 (xc_51 G h) rfl (by decide) rfl (fun w h => List.mem_cons_of_mem _ (iWM_X9 w h)) (by decide) rfl (C.2.2.2.2.1 _ (List.mem_cons_of_mem _ qM_73)) ?_
      refine x_icmp_ge (tgt := 39) C dX9_fail_23 (by decide) ?_ ?_
      · exact x_vret C dX9_fail_39 hr
      · exact x_sub [0, 1] rfl (T_X9_fail_26 C hr p1 h)
    · exact x_vret C dX9_fail_39 hr
/-! X9_byteAt: 11 instructions -/
abbrev J_X9_byteAt (G : xG) (p : Program) (l : Launch) (e : Env) (s : State) (m : MethodId) (args : Array Value) (below : List Frame) (meth : Method) (c : Code) : Nat → List (Nat × Value) → List Value → xHp → Option (Int32 × xHp) → Prop := xJ G p l e ({ frames := 0, cells := 0, slots := 0, locals := 0 } : Room) s m args below meth c 2 (fun res => MQ below (xQi G res) args s 0 0 (xA G))
def F_X9_byteAt (N : Nat) (p1 : Int32) (h : xHp) : Option (Int32 × xHp) := if (gI h 51 15) ≤ p1 then some (0, h) else grd (xin p1 400) (some ((gI h 61 p1.toNatClampNeg), h))
set_option maxHeartbeats 4000000 in
set_option maxRecDepth 100000 in
theorem M_X9_byteAt (G : xG) (l : Launch) (N : Nat) (p1 : Int32) (h : xHp) : ∀ r, F_X9_byteAt N p1 h = some r → Met l yX9_byteAt vX9_byteAt ({ frames := 0, cells := 0, slots := 0, locals := 0 } : Room) (xPc G [.ref (xad G 51), .int p1] h) (xQi G r) 0 0 (xA G) := by
  refine x_met (own := RX9) (cc := cX9_byteAt) (maxL := 2) (ret := (some .int)) (lv0 := [(0, .ref (xad G 51)), (1, .int p1)]) (by decide +kernel) rfl rfl (Nat.le_of_ble_eq_true rfl) rfl ?_
  intro p e s m below meth c C hr
  unfold F_X9_byteAt
  refine x_iload_n C dX9_byteAt_0 rfl 1 rfl ?_
  refine x_aload_n C dX9_byteAt_1 rfl 0 rfl ?_
  refine x_get (v := .int (gI h 51 15)) C 15 dX9_byteAt_2 (xc_51 G h) rfl (by decide) rfl (fun w h => List.mem_cons_of_mem _ (iWM_X9 w h)) (by decide) rfl (C.2.2.2.2.1 _ (List.mem_cons_of_mem _ qM_69)) ?_
  refine x_icmp_ge (tgt := 17) C dX9_byteAt_5 (by decide) ?_ ?_
  · refine x_iconst (v := 0) C dX9_byteAt_17 (by decide) ?_
    exact x_iret C dX9_byteAt_18 hr
  · refine x_aload_n C dX9_byteAt_8 rfl 0 rfl ?_
    refine x_get (v := .ref (xad G 61)) C 14 dX9_byteAt_9 (xc_51 G h) rfl (by decide) rfl (fun w h => List.mem_cons_of_mem _ (iWM_X9 w h)) (by decide) rfl (C.2.2.2.2.1 _ (List.mem_cons_of_mem _ qM_70)) ?_
    refine x_iload_n C dX9_byteAt_12 rfl 1 rfl ?_
    refine x_iald (n := 400) C dX9_byteAt_13 (xc_61 G h) (by decide) ?_
    refine x_goto (tgt := 18) C dX9_byteAt_14 (by decide) ?_
    exact x_iret C dX9_byteAt_18 hr
/-! X9_isFigure: 10 instructions -/
abbrev J_X9_isFigure (G : xG) (p : Program) (l : Launch) (e : Env) (s : State) (m : MethodId) (args : Array Value) (below : List Frame) (meth : Method) (c : Code) : Nat → List (Nat × Value) → List Value → xHp → Option (Int32 × xHp) → Prop := xJ G p l e ({ frames := 0, cells := 0, slots := 0, locals := 0 } : Room) s m args below meth c 1 (fun res => MQ below (xQi G res) args s 0 0 (xA G))
def F_X9_isFigure_16 (N : Nat) (h : xHp) : Option (Int32 × xHp) := some (0, h)
def F_X9_isFigure (N : Nat) (p0 : Int32) (h : xHp) : Option (Int32 × xHp) := if p0 < 48 then F_X9_isFigure_16 N h else if 57 < p0 then F_X9_isFigure_16 N h else some (1, h)
set_option maxHeartbeats 4000000 in
set_option maxRecDepth 100000 in
theorem T_X9_isFigure_16 {G : xG} {p : Program} {l : Launch} {e : Env} {s : State} {m : MethodId} {args : Array Value} {below : List Frame} {meth : Method} {c : Code} {N : Nat} (C : xC G p s m args meth c cX9_isFigure 1 vX9_isFigure RX9) (hr : meth.sig.returnType = (some .boolean)) (h : xHp) : J_X9_isFigure G p l e s m args below meth c 16 [] [] h (F_X9_isFigure_16 N h) := by
  unfold F_X9_isFigure_16
  refine x_iconst (v := 0) C dX9_isFigure_16 (by decide) ?_
  exact x_zretL C dX9_isFigure_17 hr rfl
set_option maxHeartbeats 4000000 in
set_option maxRecDepth 100000 in
theorem M_X9_isFigure (G : xG) (l : Launch) (N : Nat) (p0 : Int32) (h : xHp) : ∀ r, F_X9_isFigure N p0 h = some r → Met l yX9_isFigure vX9_isFigure ({ frames := 0, cells := 0, slots := 0, locals := 0 } : Room) (xPc G [.int p0] h) (xQi G r) 0 0 (xA G) := by
  refine x_met (own := RX9) (cc := cX9_isFigure) (maxL := 1) (ret := (some .boolean)) (lv0 := [(0, .int p0)]) (by decide +kernel) rfl rfl (Nat.le_of_ble_eq_true rfl) rfl ?_
  intro p e s m below meth c C hr
  unfold F_X9_isFigure
  refine x_iload_n C dX9_isFigure_0 rfl 0 rfl ?_
  refine x_bipush (v := 48) C dX9_isFigure_1 (by decide) ?_
  refine x_icmp_lt (tgt := 16) C dX9_isFigure_3 (by decide) ?_ ?_
  · exact x_sub [] rfl (T_X9_isFigure_16 C hr h)
  · refine x_iload_n C dX9_isFigure_6 rfl 0 rfl ?_
    refine x_bipush (v := 57) C dX9_isFigure_7 (by decide) ?_
    refine x_icmp_gt (tgt := 16) C dX9_isFigure_9 (by decide) ?_ ?_
    · exact x_sub [] rfl (T_X9_isFigure_16 C hr h)
    · refine x_iconst (v := 1) C dX9_isFigure_12 (by decide) ?_
      refine x_goto (tgt := 17) C dX9_isFigure_13 (by decide) ?_
      exact x_zretL C dX9_isFigure_17 hr rfl
/-! X9_signToken: 83 instructions -/
abbrev J_X9_signToken (G : xG) (p : Program) (l : Launch) (e : Env) (s : State) (m : MethodId) (args : Array Value) (below : List Frame) (meth : Method) (c : Code) : Nat → List (Nat × Value) → List Value → xHp → Option (Unit × xHp) → Prop := xJ G p l e ({ frames := 1, cells := 0, slots := 0, locals := 21 } : Room) s m args below meth c 3 (fun res => MQ below (xQv G res) args s 0 0 (xA G))
def F_X9_signToken_89 (N : Nat) (x1 : Int32) (h : xHp) : Option (Unit × xHp) := if x1 = 45 then some ((), h) else if x1 = 60 then some ((), h) else if x1 = 62 then some ((), h) else if x1 = 61 then some ((), h) else if x1 = 35 then some ((), h) else if x1 = 38 then some ((), h) else if x1 = 124 then some ((), h) else if x1 = 126 then some ((), h) else if x1 = 40 then some ((), h) else if x1 = 41 then some ((), h) else bnd2 (F_X9_fail N 1 h) fun r1 h2 => some ((), h2)
def F_X9_signToken_60 (N : Nat) (x1 : Int32) (x2 : Int32) (h : xHp) : Option (Unit × xHp) := if x1 = 45 then if x2 = 62 then bnd (sI h 51 17 245) fun h1 => bnd (sI h1 51 19 ((gI h1 51 19) + 1)) fun h2 => F_X9_signToken_89 N x1 h2 else F_X9_signToken_89 N x1 h else F_X9_signToken_89 N x1 h
def F_X9_signToken_33 (N : Nat) (x1 : Int32) (x2 : Int32) (h : xHp) : Option (Unit × xHp) := if x2 = 61 then bnd (sI h 51 17 (x1 + 100)) fun h1 => bnd (sI h1 51 19 ((gI h1 51 19) + 1)) fun h2 => F_X9_signToken_89 N x1 h2 else F_X9_signToken_60 N x1 x2 h
def F_X9_signToken (N : Nat) (p1 : Int32) (h : xHp) : Option (Unit × xHp) := bnd (sI h 51 16 3) fun h1 => bnd (sI h1 51 17 p1) fun h2 => bnd2 (F_X9_byteAt N ((gI h2 51 18) + 1) h2) fun r3 h4 => if p1 = 60 then F_X9_signToken_33 N p1 r3 h4 else if p1 = 62 then F_X9_signToken_33 N p1 r3 h4 else F_X9_signToken_60 N p1 r3 h4
set_option maxHeartbeats 4000000 in
set_option maxRecDepth 100000 in
theorem T_X9_signToken_89 {G : xG} {p : Program} {l : Launch} {e : Env} {s : State} {m : MethodId} {args : Array Value} {below : List Frame} {meth : Method} {c : Code} {N : Nat} (C : xC G p s m args meth c cX9_signToken 3 vX9_signToken RX9) (hr : meth.sig.returnType = none) (x1 : Int32) (h : xHp) : J_X9_signToken G p l e s m args below meth c 89 [(0, .ref (xad G 51)), (1, .int x1)] [] h (F_X9_signToken_89 N x1 h) := by
  unfold F_X9_signToken_89
  refine x_iload_n C dX9_signToken_89 rfl 1 rfl ?_
  refine x_bipush (v := 45) C dX9_signToken_90 (by decide) ?_
  refine x_icmp_eq (tgt := 154) C dX9_signToken_92 (by decide) ?_ ?_
  · exact x_vret C dX9_signToken_154 hr
  · refine x_iload_n C dX9_signToken_95 rfl 1 rfl ?_
    refine x_bipush (v := 60) C dX9_signToken_96 (by decide) ?_
    refine x_icmp_eq (tgt := 154) C dX9_signToken_98 (by decide) ?_ ?_
    · exact x_vret C dX9_signToken_154 hr
    · refine x_iload_n C dX9_signToken_101 rfl 1 rfl ?_
      refine x_bipush (v := 62) C dX9_signToken_102 (by decide) ?_
      refine x_icmp_eq (tgt := 154) C dX9_signToken_104 (by decide) ?_ ?_
      · exact x_vret C dX9_signToken_154 hr
      · refine x_iload_n C dX9_signToken_107 rfl 1 rfl ?_
        refine x_bipush (v := 61) C dX9_signToken_108 (by decide) ?_
        refine x_icmp_eq (tgt := 154) C dX9_signToken_110 (by decide) ?_ ?_
        · exact x_vret C dX9_signToken_154 hr
        · refine x_iload_n C dX9_signToken_113 rfl 1 rfl ?_
          refine x_bipush (v := 35) C dX9_signToken_114 (by decide) ?_
          refine x_icmp_eq (tgt := 154) C dX9_signToken_116 (by decide) ?_ ?_
          · exact x_vret C dX9_signToken_154 hr
          · refine x_iload_n C dX9_signToken_119 rfl 1 rfl ?_
            refine x_bipush (v := 38) C dX9_signToken_120 (by decide) ?_
            refine x_icmp_eq (tgt := 154) C dX9_signToken_122 (by decide) ?_ ?_
            · exact x_vret C dX9_signToken_154 hr
            · refine x_iload_n C dX9_signToken_125 rfl 1 rfl ?_
              refine x_bipush (v := 124) C dX9_signToken_126 (by decide) ?_
              refine x_icmp_eq (tgt := 154) C dX9_signToken_128 (by decide) ?_ ?_
              · exact x_vret C dX9_signToken_154 hr
              · refine x_iload_n C dX9_signToken_131 rfl 1 rfl ?_
                refine x_bipush (v := 126) C dX9_signToken_132 (by decide) ?_
                refine x_icmp_eq (tgt := 154) C dX9_signToken_134 (by decide) ?_ ?_
                · exact x_vret C dX9_signToken_154 hr
                · refine x_iload_n C dX9_signToken_137 rfl 1 rfl ?_
                  refine x_bipush (v := 40) C dX9_signToken_138 (by decide) ?_
                  refine x_icmp_eq (tgt := 154) C dX9_signToken_140 (by decide) ?_ ?_
                  · exact x_vret C dX9_signToken_154 hr
                  · refine x_iload_n C dX9_signToken_143 rfl 1 rfl ?_
                    refine x_bipush (v := 41) C dX9_signToken_144 (by decide) ?_
                    refine x_icmp_eq (tgt := 154) C dX9_signToken_146 (by decide) ?_ ?_
                    · exact x_vret C dX9_signToken_154 hr
                    · refine x_aload_n C dX9_signToken_149 rfl 0 rfl ?_
                      refine x_iconst (v := 1) C dX9_signToken_150 (by decide) ?_
                      refine x_callVv C dX9_signToken_151 (M_X9_fail G l N 1 h) (cwV 1 C.2.2.2.2.1 (gdV gWM qM_85 qM_86 qM_87 qM_9 qM_72) rfl rfl rfl (by decide +kernel) ⟨Nat.le_of_ble_eq_true rfl, Nat.le_of_ble_eq_true rfl⟩) (xc_51 G h) (by decide) rfl rfl rfl (Nat.le_of_ble_eq_true rfl) (fun r1 h2 => ?_)
                      exact x_vret C dX9_signToken_154 hr
set_option maxHeartbeats 4000000 in
set_option maxRecDepth 100000 in
theorem T_X9_signToken_60 {G : xG} {p : Program} {l : Launch} {e : Env} {s : State} {m : MethodId} {args : Array Value} {below : List Frame} {meth : Method} {c : Code} {N : Nat} (C : xC G p s m args meth c cX9_signToken 3 vX9_signToken RX9) (hr : meth.sig.returnType = none) (x1 : Int32) (x2 : Int32) (h : xHp) : J_X9_signToken G p l e s m args below meth c 60 [(0, .ref (xad G 51)), (1, .int x1), (2, .int x2)] [] h (F_X9_signToken_60 N x1 x2 h) := by
  unfold F_X9_signToken_60
  refine x_iload_n C dX9_signToken_60 rfl 1 rfl ?_
  refine x_bipush (v := 45) C dX9_signToken_61 (by decide) ?_
  refine x_icmp_ne (tgt := 89) C dX9_signToken_63 (by decide) ?_ ?_
  · refine x_iload_n C dX9_signToken_66 rfl 2 rfl ?_
    refine x_bipush (v := 62) C dX9_signToken_67 (by decide) ?_
    refine x_icmp_ne (tgt := 89) C dX9_signToken_69 (by decide) ?_ ?_
    · refine x_aload_n C dX9_signToken_72 rfl 0 rfl ?_
      refine x_sipush (v := 245) C dX9_signToken_73 (by decide) ?_
      refine x_putI (ty0 := tyX9) (ty := .int) C 17 dX9_signToken_76 (xc_51 G h) rfl (Nat.le_of_ble_eq_true rfl) (by decide) rfl (fun w h => List.mem_cons_of_mem _ (iWM_X9 w h)) tyX9_ok nmX9 (by decide) rfl rfl (by decide +kernel) rfl rfl (C.2.2.2.2.1 _ (List.mem_cons_of_mem _ qM_80)) (fun h1 => ?_)
      refine x_aload_n C dX9_signToken_79 rfl 0 rfl ?_
      refine x_dup C dX9_signToken_80 rfl ?_
      refine x_get (v := .int (gI h1 51 19)) C 19 dX9_signToken_81 (xc_51 G h1) rfl (by decide) rfl (fun w h => List.mem_cons_of_mem _ (iWM_X9 w h)) (by decide) rfl (C.2.2.2.2.1 _ (List.mem_cons_of_mem _ qM_81)) ?_
      refine x_iconst (v := 1) C dX9_signToken_84 (by decide) ?_
      refine x_iadd C dX9_signToken_85 ?_
      refine x_putI (ty0 := tyX9) (ty := .int) C 19 dX9_signToken_86 (xc_51 G h1) rfl (Nat.le_of_ble_eq_true rfl) (by decide) rfl (fun w h => List.mem_cons_of_mem _ (iWM_X9 w h)) tyX9_ok nmX9 (by decide) rfl rfl (by decide +kernel) rfl rfl (C.2.2.2.2.1 _ (List.mem_cons_of_mem _ qM_81)) (fun h2 => ?_)
      exact x_sub [0, 1] rfl (T_X9_signToken_89 C hr x1 h2)
    · exact x_sub [0, 1] rfl (T_X9_signToken_89 C hr x1 h)
  · exact x_sub [0, 1] rfl (T_X9_signToken_89 C hr x1 h)
set_option maxHeartbeats 4000000 in
set_option maxRecDepth 100000 in
theorem T_X9_signToken_33 {G : xG} {p : Program} {l : Launch} {e : Env} {s : State} {m : MethodId} {args : Array Value} {below : List Frame} {meth : Method} {c : Code} {N : Nat} (C : xC G p s m args meth c cX9_signToken 3 vX9_signToken RX9) (hr : meth.sig.returnType = none) (x1 : Int32) (x2 : Int32) (h : xHp) : J_X9_signToken G p l e s m args below meth c 33 [(0, .ref (xad G 51)), (1, .int x1), (2, .int x2)] [] h (F_X9_signToken_33 N x1 x2 h) := by
  unfold F_X9_signToken_33
  refine x_iload_n C dX9_signToken_33 rfl 2 rfl ?_
  refine x_bipush (v := 61) C dX9_signToken_34 (by decide) ?_
  refine x_icmp_ne (tgt := 60) C dX9_signToken_36 (by decide) ?_ ?_
  · refine x_aload_n C dX9_signToken_39 rfl 0 rfl ?_
    refine x_iload_n C dX9_signToken_40 rfl 1 rfl ?_
    refine x_bipush (v := 100) C dX9_signToken_41 (by decide) ?_
    refine x_iadd C dX9_signToken_43 ?_
    refine x_putI (ty0 := tyX9) (ty := .int) C 17 dX9_signToken_44 (xc_51 G h) rfl (Nat.le_of_ble_eq_true rfl) (by decide) rfl (fun w h => List.mem_cons_of_mem _ (iWM_X9 w h)) tyX9_ok nmX9 (by decide) rfl rfl (by decide +kernel) rfl rfl (C.2.2.2.2.1 _ (List.mem_cons_of_mem _ qM_80)) (fun h1 => ?_)
    refine x_aload_n C dX9_signToken_47 rfl 0 rfl ?_
    refine x_dup C dX9_signToken_48 rfl ?_
    refine x_get (v := .int (gI h1 51 19)) C 19 dX9_signToken_49 (xc_51 G h1) rfl (by decide) rfl (fun w h => List.mem_cons_of_mem _ (iWM_X9 w h)) (by decide) rfl (C.2.2.2.2.1 _ (List.mem_cons_of_mem _ qM_81)) ?_
    refine x_iconst (v := 1) C dX9_signToken_52 (by decide) ?_
    refine x_iadd C dX9_signToken_53 ?_
    refine x_putI (ty0 := tyX9) (ty := .int) C 19 dX9_signToken_54 (xc_51 G h1) rfl (Nat.le_of_ble_eq_true rfl) (by decide) rfl (fun w h => List.mem_cons_of_mem _ (iWM_X9 w h)) tyX9_ok nmX9 (by decide) rfl rfl (by decide +kernel) rfl rfl (C.2.2.2.2.1 _ (List.mem_cons_of_mem _ qM_81)) (fun h2 => ?_)
    refine x_goto (tgt := 89) C dX9_signToken_57 (by decide) ?_
    exact x_sub [0, 1] rfl (T_X9_signToken_89 C hr x1 h2)
  · exact x_sub [0, 1, 2] rfl (T_X9_signToken_60 C hr x1 x2 h)
set_option maxHeartbeats 4000000 in
set_option maxRecDepth 100000 in
theorem M_X9_signToken (G : xG) (l : Launch) (N : Nat) (p1 : Int32) (h : xHp) : ∀ r, F_X9_signToken N p1 h = some r → Met l yX9_signToken vX9_signToken ({ frames := 1, cells := 0, slots := 0, locals := 21 } : Room) (xPc G [.ref (xad G 51), .int p1] h) (xQv G r) 0 0 (xA G) := by
  refine x_met (own := RX9) (cc := cX9_signToken) (maxL := 3) (ret := none) (lv0 := [(0, .ref (xad G 51)), (1, .int p1)]) (by decide +kernel) rfl rfl (Nat.le_of_ble_eq_true rfl) rfl ?_
  intro p e s m below meth c C hr
  unfold F_X9_signToken
  refine x_aload_n C dX9_signToken_0 rfl 0 rfl ?_
  refine x_iconst (v := 3) C dX9_signToken_1 (by decide) ?_
  refine x_putI (ty0 := tyX9) (ty := .int) C 16 dX9_signToken_2 (xc_51 G h) rfl (Nat.le_of_ble_eq_true rfl) (by decide) rfl (fun w h => List.mem_cons_of_mem _ (iWM_X9 w h)) tyX9_ok nmX9 (by decide) rfl rfl (by decide +kernel) rfl rfl (C.2.2.2.2.1 _ (List.mem_cons_of_mem _ qM_79)) (fun h1 => ?_)
  refine x_aload_n C dX9_signToken_5 rfl 0 rfl ?_
  refine x_iload_n C dX9_signToken_6 rfl 1 rfl ?_
  refine x_putI (ty0 := tyX9) (ty := .int) C 17 dX9_signToken_7 (xc_51 G h1) rfl (Nat.le_of_ble_eq_true rfl) (by decide) rfl (fun w h => List.mem_cons_of_mem _ (iWM_X9 w h)) tyX9_ok nmX9 (by decide) rfl rfl (by decide +kernel) rfl rfl (C.2.2.2.2.1 _ (List.mem_cons_of_mem _ qM_80)) (fun h2 => ?_)
  refine x_aload_n C dX9_signToken_10 rfl 0 rfl ?_
  refine x_aload_n C dX9_signToken_11 rfl 0 rfl ?_
  refine x_get (v := .int (gI h2 51 18)) C 18 dX9_signToken_12 (xc_51 G h2) rfl (by decide) rfl (fun w h => List.mem_cons_of_mem _ (iWM_X9 w h)) (by decide) rfl (C.2.2.2.2.1 _ (List.mem_cons_of_mem _ qM_74)) ?_
  refine x_iconst (v := 1) C dX9_signToken_15 (by decide) ?_
  refine x_iadd C dX9_signToken_16 ?_
  refine x_callVi C dX9_signToken_17 (M_X9_byteAt G l N ((gI h2 51 18) + 1) h2) (cwV 1 C.2.2.2.2.1 (gdV gWM qM_82 qM_83 qM_84 qM_9 qM_76) rfl rfl rfl (by decide +kernel) ⟨Nat.le_of_ble_eq_true rfl, Nat.le_of_ble_eq_true rfl⟩) (xc_51 G h2) (by decide) rfl rfl rfl (Nat.le_of_ble_eq_true rfl) (fun r3 h4 => ?_)
  refine x_istore_n (lv' := [(2, .int r3), (0, .ref (xad G 51)), (1, .int p1)]) C dX9_signToken_20 rfl (by decide) rfl ?_
  refine x_iload_n C dX9_signToken_21 rfl 2 rfl ?_
  refine x_bipush (v := 60) C dX9_signToken_22 (by decide) ?_
  refine x_icmp_eq (tgt := 33) C dX9_signToken_24 (by decide) ?_ ?_
  · exact x_sub [1, 2, 0] rfl (T_X9_signToken_33 C hr p1 r3 h4)
  · refine x_iload_n C dX9_signToken_27 rfl 2 rfl ?_
    refine x_bipush (v := 62) C dX9_signToken_28 (by decide) ?_
    refine x_icmp_ne (tgt := 60) C dX9_signToken_30 (by decide) ?_ ?_
    · exact x_sub [1, 2, 0] rfl (T_X9_signToken_33 C hr p1 r3 h4)
    · exact x_sub [1, 2, 0] rfl (T_X9_signToken_60 C hr p1 r3 h4)
/-! X9_next: 135 instructions -/
abbrev J_X9_next (G : xG) (p : Program) (l : Launch) (e : Env) (s : State) (m : MethodId) (args : Array Value) (below : List Frame) (meth : Method) (c : Code) : Nat → List (Nat × Value) → List Value → xHp → Option (Unit × xHp) → Prop := xJ G p l e ({ frames := 2, cells := 0, slots := 0, locals := 43 } : Room) s m args below meth c 3 (fun res => MQ below (xQv G res) args s 0 0 (xA G))
def F_X9_next_138 (N : Nat) (s1 : Int32) (h : xHp) : Option (Unit × xHp) := bnd (sI h 51 17 s1) fun h1 => some ((), h1)
def F_X9_next_118 (N : Nat) (x2 : Int32) (h : xHp) : Option (Unit × xHp) := bnd (sI h 51 16 1) fun h1 => if x2 = 122 then F_X9_next_138 N 0 h1 else F_X9_next_138 N (x2 - 96) h1
def F_X9_next_203 (N : Nat) (k156 : Int32 → xHp → Option (Unit × xHp)) (x1 : Int32) (s1 : Int32) (h : xHp) : Option (Unit × xHp) := bnd (sI h 51 17 s1) fun h1 => k156 (x1 + 1) h1
def F_X9_next_237 (N : Nat) (h : xHp) : Option (Unit × xHp) := bnd2 (F_X9_fail N 1 h) fun r1 h2 => some ((), h2)
def F_X9_next_156_b (N : Nat) (k156 : Int32 → xHp → Option (Unit × xHp)) (x1 : Int32) (h : xHp) : Option (Unit × xHp) := bnd2 (F_X9_byteAt N x1 h) fun r1 h2 => bnd2 (F_X9_isFigure N r1 h2) fun r3 h4 => if r3 = 0 then bnd (sI h4 51 19 x1) fun h5 => if (1000000 : Int32) < (gI h5 51 17) then F_X9_next_237 N h5 else if (x1 - (gI h5 51 18)) ≤ 7 then some ((), h5) else F_X9_next_237 N h5 else if 7 ≤ (x1 - (gI h4 51 18)) then F_X9_next_203 N k156 x1 (gI h4 51 17) h4 else grd (xin x1 400) (F_X9_next_203 N k156 x1 (((10 * (gI h4 51 17)) + (gI h4 61 x1.toNatClampNeg)) - 48) h4)
def F_X9_next_156 (N : Nat) (x1 : Int32) (h : xHp) : Option (Unit × xHp) := xit (F_X9_next_156_b N) (fun _ _ => none) N x1 h
def F_X9_next_112 (N : Nat) (x1 : Int32) (x2 : Int32) (h : xHp) : Option (Unit × xHp) := if x2 = 122 then F_X9_next_118 N x2 h else bnd2 (F_X9_isFigure N x2 h) fun r1 h2 => if r1 = 0 then bnd2 (F_X9_signToken N x2 h2) fun r3 h4 => some ((), h4) else bnd (sI h2 51 16 2) fun h5 => F_X9_next_156 N x1 h5
def F_X9_next_20_b (N : Nat) (k20 : Int32 → xHp → Option (Unit × xHp)) (x1 : Int32) (h : xHp) : Option (Unit × xHp) := bnd2 (F_X9_byteAt N x1 h) fun r1 h2 => if r1 = 32 then k20 (x1 + 1) h2 else bnd (sI h2 51 18 x1) fun h3 => bnd (sI h3 51 19 (x1 + 1)) fun h4 => bnd (sI h4 51 16 0) fun h5 => bnd (sI h5 51 17 0) fun h6 => if x1 < (gI h6 51 15) then bnd (sI h6 51 20 ((gI h6 51 20) + 1)) fun h7 => grd (xin x1 400) (if (gI h7 61 x1.toNatClampNeg) < 97 then F_X9_next_112 N x1 (gI h7 61 x1.toNatClampNeg) h7 else if (gI h7 61 x1.toNatClampNeg) ≤ 111 then F_X9_next_118 N (gI h7 61 x1.toNatClampNeg) h7 else F_X9_next_112 N x1 (gI h7 61 x1.toNatClampNeg) h7) else bnd (sI h6 51 18 (gI h6 51 15)) fun h8 => bnd (sI h8 51 19 (gI h8 51 15)) fun h9 => some ((), h9)
def F_X9_next_20 (N : Nat) (x1 : Int32) (h : xHp) : Option (Unit × xHp) := xit (F_X9_next_20_b N) (fun _ _ => none) N x1 h
def F_X9_next (N : Nat) (h : xHp) : Option (Unit × xHp) := if (gI h 51 20) ≤ 100 then F_X9_next_20 N (gI h 51 19) h else bnd2 (F_X9_fail N 5 h) fun r1 h2 => some ((), h2)
set_option maxHeartbeats 4000000 in
set_option maxRecDepth 100000 in
theorem T_X9_next_138 {G : xG} {p : Program} {l : Launch} {e : Env} {s : State} {m : MethodId} {args : Array Value} {below : List Frame} {meth : Method} {c : Code} {N : Nat} (C : xC G p s m args meth c cX9_next 3 vX9_next RX9) (hr : meth.sig.returnType = none) (s1 : Int32) (h : xHp) : J_X9_next G p l e s m args below meth c 138 [] [.int s1, .ref (xad G 51)] h (F_X9_next_138 N s1 h) := by
  unfold F_X9_next_138
  refine x_putI (ty0 := tyX9) (ty := .int) C 17 dX9_next_138 (xc_51 G h) rfl (Nat.le_of_ble_eq_true rfl) (by decide) rfl (fun w h => List.mem_cons_of_mem _ (iWM_X9 w h)) tyX9_ok nmX9 (by decide) rfl rfl (by decide +kernel) rfl rfl (C.2.2.2.2.1 _ (List.mem_cons_of_mem _ qM_80)) (fun h1 => ?_)
  refine x_goto (tgt := 250) C dX9_next_141 (by decide) ?_
  exact x_vret C dX9_next_250 hr
set_option maxHeartbeats 4000000 in
set_option maxRecDepth 100000 in
theorem T_X9_next_118 {G : xG} {p : Program} {l : Launch} {e : Env} {s : State} {m : MethodId} {args : Array Value} {below : List Frame} {meth : Method} {c : Code} {N : Nat} (C : xC G p s m args meth c cX9_next 3 vX9_next RX9) (hr : meth.sig.returnType = none) (x2 : Int32) (h : xHp) : J_X9_next G p l e s m args below meth c 118 [(0, .ref (xad G 51)), (2, .int x2)] [] h (F_X9_next_118 N x2 h) := by
  unfold F_X9_next_118
  refine x_aload_n C dX9_next_118 rfl 0 rfl ?_
  refine x_iconst (v := 1) C dX9_next_119 (by decide) ?_
  refine x_putI (ty0 := tyX9) (ty := .int) C 16 dX9_next_120 (xc_51 G h) rfl (Nat.le_of_ble_eq_true rfl) (by decide) rfl (fun w h => List.mem_cons_of_mem _ (iWM_X9 w h)) tyX9_ok nmX9 (by decide) rfl rfl (by decide +kernel) rfl rfl (C.2.2.2.2.1 _ (List.mem_cons_of_mem _ qM_79)) (fun h1 => ?_)
  refine x_aload_n C dX9_next_123 rfl 0 rfl ?_
  refine x_iload_n C dX9_next_124 rfl 1 rfl ?_
  refine x_bipush (v := 122) C dX9_next_125 (by decide) ?_
  refine x_icmp_ne (tgt := 134) C dX9_next_127 (by decide) ?_ ?_
  · refine x_iconst (v := 0) C dX9_next_130 (by decide) ?_
    refine x_goto (tgt := 138) C dX9_next_131 (by decide) ?_
    exact x_sub [] rfl (T_X9_next_138 C hr 0 h1)
  · refine x_iload_n C dX9_next_134 rfl 1 rfl ?_
    refine x_bipush (v := 96) C dX9_next_135 (by decide) ?_
    refine x_isub C dX9_next_137 ?_
    exact x_sub [] rfl (T_X9_next_138 C hr (x2 - 96) h1)
set_option maxHeartbeats 4000000 in
set_option maxRecDepth 100000 in
theorem T_X9_next_203 {G : xG} {p : Program} {l : Launch} {e : Env} {s : State} {m : MethodId} {args : Array Value} {below : List Frame} {meth : Method} {c : Code} {N : Nat} (C : xC G p s m args meth c cX9_next 3 vX9_next RX9) (hr : meth.sig.returnType = none) {k156 : Int32 → xHp → Option (Unit × xHp)} (hk156 : ∀ (x1 : Int32) (h : xHp), J_X9_next G p l e s m args below meth c 156 [(0, .ref (xad G 51)), (1, .int x1)] [] h (k156 x1 h)) (x1 : Int32) (s1 : Int32) (h : xHp) : J_X9_next G p l e s m args below meth c 203 [(0, .ref (xad G 51)), (1, .int x1)] [.int s1, .ref (xad G 51)] h (F_X9_next_203 N k156 x1 s1 h) := by
  unfold F_X9_next_203
  refine x_putI (ty0 := tyX9) (ty := .int) C 17 dX9_next_203 (xc_51 G h) rfl (Nat.le_of_ble_eq_true rfl) (by decide) rfl (fun w h => List.mem_cons_of_mem _ (iWM_X9 w h)) tyX9_ok nmX9 (by decide) rfl rfl (by decide +kernel) rfl rfl (C.2.2.2.2.1 _ (List.mem_cons_of_mem _ qM_80)) (fun h1 => ?_)
  refine x_iinc (v := (x1 + 1)) (j := 1) (lv' := [(1, .int (x1 + 1)), (0, .ref (xad G 51))]) C dX9_next_206 rfl (by rfl) (by decide) rfl ?_
  refine x_goto (tgt := 156) C dX9_next_209 (by decide) ?_
  exact x_sub [1, 0] rfl (hk156 (x1 + 1) h1)
set_option maxHeartbeats 4000000 in
set_option maxRecDepth 100000 in
theorem T_X9_next_237 {G : xG} {p : Program} {l : Launch} {e : Env} {s : State} {m : MethodId} {args : Array Value} {below : List Frame} {meth : Method} {c : Code} {N : Nat} (C : xC G p s m args meth c cX9_next 3 vX9_next RX9) (hr : meth.sig.returnType = none) (h : xHp) : J_X9_next G p l e s m args below meth c 237 [(0, .ref (xad G 51))] [] h (F_X9_next_237 N h) := by
  unfold F_X9_next_237
  refine x_aload_n C dX9_next_237 rfl 0 rfl ?_
  refine x_iconst (v := 1) C dX9_next_238 (by decide) ?_
  refine x_callVv C dX9_next_239 (M_X9_fail G l N 1 h) (cwV 1 C.2.2.2.2.1 (gdV gWM qM_85 qM_86 qM_87 qM_9 qM_72) rfl rfl rfl (by decide +kernel) ⟨Nat.le_of_ble_eq_true rfl, Nat.le_of_ble_eq_true rfl⟩) (xc_51 G h) (by decide) rfl rfl rfl (Nat.le_of_ble_eq_true rfl) (fun r1 h2 => ?_)
  refine x_goto (tgt := 250) C dX9_next_242 (by decide) ?_
  exact x_vret C dX9_next_250 hr
set_option maxHeartbeats 4000000 in
set_option maxRecDepth 100000 in
theorem T_X9_next_156_b {G : xG} {p : Program} {l : Launch} {e : Env} {s : State} {m : MethodId} {args : Array Value} {below : List Frame} {meth : Method} {c : Code} {N : Nat} (C : xC G p s m args meth c cX9_next 3 vX9_next RX9) (hr : meth.sig.returnType = none) {k156 : Int32 → xHp → Option (Unit × xHp)} (hk156 : ∀ (x1 : Int32) (h : xHp), J_X9_next G p l e s m args below meth c 156 [(0, .ref (xad G 51)), (1, .int x1)] [] h (k156 x1 h)) (x1 : Int32) (h : xHp) : J_X9_next G p l e s m args below meth c 156 [(0, .ref (xad G 51)), (1, .int x1)] [] h (F_X9_next_156_b N k156 x1 h) := by
  unfold F_X9_next_156_b
  refine x_aload_n C dX9_next_156 rfl 0 rfl ?_
  refine x_iload_n C dX9_next_157 rfl 1 rfl ?_
  refine x_callVi C dX9_next_158 (M_X9_byteAt G l N x1 h) (cwV 1 C.2.2.2.2.1 (gdV gWM qM_82 qM_83 qM_84 qM_9 qM_76) rfl rfl rfl (by decide +kernel) ⟨Nat.le_of_ble_eq_true rfl, Nat.le_of_ble_eq_true rfl⟩) (xc_51 G h) (by decide) rfl rfl rfl (Nat.le_of_ble_eq_true rfl) (fun r1 h2 => ?_)
  refine x_callSi C dX9_next_161 (M_X9_isFigure G l N r1 h2) (va_cwS 1 C.2.2.2.2.1 (gdS gWM qM_90 qM_91 qM_9 qM_77) rfl rfl rfl (by decide +kernel) ⟨Nat.le_of_ble_eq_true rfl, Nat.le_of_ble_eq_true rfl⟩) rfl rfl (Nat.le_of_ble_eq_true rfl) (fun r3 h4 => ?_)
  refine x_if_eq (tgt := 212) C dX9_next_164 (by decide) ?_ ?_
  · refine x_aload_n C dX9_next_212 rfl 0 rfl ?_
    refine x_iload_n C dX9_next_213 rfl 1 rfl ?_
    refine x_putI (ty0 := tyX9) (ty := .int) C 19 dX9_next_214 (xc_51 G h4) rfl (Nat.le_of_ble_eq_true rfl) (by decide) rfl (fun w h => List.mem_cons_of_mem _ (iWM_X9 w h)) tyX9_ok nmX9 (by decide) rfl rfl (by decide +kernel) rfl rfl (C.2.2.2.2.1 _ (List.mem_cons_of_mem _ qM_81)) (fun h5 => ?_)
    refine x_aload_n C dX9_next_217 rfl 0 rfl ?_
    refine x_get (v := .int (gI h5 51 17)) C 17 dX9_next_218 (xc_51 G h5) rfl (by decide) rfl (fun w h => List.mem_cons_of_mem _ (iWM_X9 w h)) (by decide) rfl (C.2.2.2.2.1 _ (List.mem_cons_of_mem _ qM_80)) ?_
    refine x_ldc (v := 1000000) C dX9_next_221 (C.2.2.2.2.1 _ (List.mem_cons_of_mem _ qM_89)) ?_
    refine x_icmp_gt (tgt := 237) C dX9_next_223 (by decide) ?_ ?_
    · exact x_sub [0] rfl (T_X9_next_237 C hr h5)
    · refine x_iload_n C dX9_next_226 rfl 1 rfl ?_
      refine x_aload_n C dX9_next_227 rfl 0 rfl ?_
      refine x_get (v := .int (gI h5 51 18)) C 18 dX9_next_228 (xc_51 G h5) rfl (by decide) rfl (fun w h => List.mem_cons_of_mem _ (iWM_X9 w h)) (by decide) rfl (C.2.2.2.2.1 _ (List.mem_cons_of_mem _ qM_74)) ?_
      refine x_isub C dX9_next_231 ?_
      refine x_bipush (v := 7) C dX9_next_232 (by decide) ?_
      refine x_icmp_le (tgt := 250) C dX9_next_234 (by decide) ?_ ?_
      · exact x_vret C dX9_next_250 hr
      · exact x_sub [0] rfl (T_X9_next_237 C hr h5)
  · refine x_aload_n C dX9_next_167 rfl 0 rfl ?_
    refine x_iload_n C dX9_next_168 rfl 1 rfl ?_
    refine x_aload_n C dX9_next_169 rfl 0 rfl ?_
    refine x_get (v := .int (gI h4 51 18)) C 18 dX9_next_170 (xc_51 G h4) rfl (by decide) rfl (fun w h => List.mem_cons_of_mem _ (iWM_X9 w h)) (by decide) rfl (C.2.2.2.2.1 _ (List.mem_cons_of_mem _ qM_74)) ?_
    refine x_isub C dX9_next_173 ?_
    refine x_bipush (v := 7) C dX9_next_174 (by decide) ?_
    refine x_icmp_ge (tgt := 199) C dX9_next_176 (by decide) ?_ ?_
    · refine x_aload_n C dX9_next_199 rfl 0 rfl ?_
      refine x_get (v := .int (gI h4 51 17)) C 17 dX9_next_200 (xc_51 G h4) rfl (by decide) rfl (fun w h => List.mem_cons_of_mem _ (iWM_X9 w h)) (by decide) rfl (C.2.2.2.2.1 _ (List.mem_cons_of_mem _ qM_80)) ?_
      exact x_sub [0, 1] rfl (T_X9_next_203 C hr hk156 x1 (gI h4 51 17) h4)
    · refine x_bipush (v := 10) C dX9_next_179 (by decide) ?_
      refine x_aload_n C dX9_next_181 rfl 0 rfl ?_
      refine x_get (v := .int (gI h4 51 17)) C 17 dX9_next_182 (xc_51 G h4) rfl (by decide) rfl (fun w h => List.mem_cons_of_mem _ (iWM_X9 w h)) (by decide) rfl (C.2.2.2.2.1 _ (List.mem_cons_of_mem _ qM_80)) ?_
      refine x_imul C dX9_next_185 ?_
      refine x_aload_n C dX9_next_186 rfl 0 rfl ?_
      refine x_get (v := .ref (xad G 61)) C 14 dX9_next_187 (xc_51 G h4) rfl (by decide) rfl (fun w h => List.mem_cons_of_mem _ (iWM_X9 w h)) (by decide) rfl (C.2.2.2.2.1 _ (List.mem_cons_of_mem _ qM_70)) ?_
      refine x_iload_n C dX9_next_190 rfl 1 rfl ?_
      refine x_iald (n := 400) C dX9_next_191 (xc_61 G h4) (by decide) ?_
      refine x_iadd C dX9_next_192 ?_
      refine x_bipush (v := 48) C dX9_next_193 (by decide) ?_
      refine x_isub C dX9_next_195 ?_
      refine x_goto (tgt := 203) C dX9_next_196 (by decide) ?_
      exact x_sub [0, 1] rfl (T_X9_next_203 C hr hk156 x1 (((10 * (gI h4 51 17)) + (gI h4 61 x1.toNatClampNeg)) - 48) h4)
set_option maxHeartbeats 4000000 in
set_option maxRecDepth 100000 in
theorem T_X9_next_156_n {G : xG} {p : Program} {l : Launch} {e : Env} {s : State} {m : MethodId} {args : Array Value} {below : List Frame} {meth : Method} {c : Code} {N : Nat} (C : xC G p s m args meth c cX9_next 3 vX9_next RX9) (hr : meth.sig.returnType = none) : ∀ (n : Nat) (x1 : Int32) (h : xHp), J_X9_next G p l e s m args below meth c 156 [(0, .ref (xad G 51)), (1, .int x1)] [] h (xit (F_X9_next_156_b N) (fun _ _ => none) n x1 h) := by
  intro n
  induction n with
  | zero => intros; exact x_none
  | succ n ih => intros; exact T_X9_next_156_b C hr ih _ _
set_option maxHeartbeats 4000000 in
set_option maxRecDepth 100000 in
theorem T_X9_next_156 {G : xG} {p : Program} {l : Launch} {e : Env} {s : State} {m : MethodId} {args : Array Value} {below : List Frame} {meth : Method} {c : Code} {N : Nat} (C : xC G p s m args meth c cX9_next 3 vX9_next RX9) (hr : meth.sig.returnType = none) (x1 : Int32) (h : xHp) : J_X9_next G p l e s m args below meth c 156 [(0, .ref (xad G 51)), (1, .int x1)] [] h (F_X9_next_156 N x1 h) := T_X9_next_156_n C hr N x1 h
set_option maxHeartbeats 4000000 in
set_option maxRecDepth 100000 in
theorem T_X9_next_112 {G : xG} {p : Program} {l : Launch} {e : Env} {s : State} {m : MethodId} {args : Array Value} {below : List Frame} {meth : Method} {c : Code} {N : Nat} (C : xC G p s m args meth c cX9_next 3 vX9_next RX9) (hr : meth.sig.returnType = none) (x1 : Int32) (x2 : Int32) (h : xHp) : J_X9_next G p l e s m args below meth c 112 [(0, .ref (xad G 51)), (1, .int x1), (2, .int x2)] [] h (F_X9_next_112 N x1 x2 h) := by
  unfold F_X9_next_112
  refine x_iload_n C dX9_next_112 rfl 2 rfl ?_
  refine x_bipush (v := 122) C dX9_next_113 (by decide) ?_
  refine x_icmp_ne (tgt := 144) C dX9_next_115 (by decide) ?_ ?_
  · exact x_sub [0, 2] rfl (T_X9_next_118 C hr x2 h)
  · refine x_iload_n C dX9_next_144 rfl 2 rfl ?_
    refine x_callSi C dX9_next_145 (M_X9_isFigure G l N x2 h) (va_cwS 1 C.2.2.2.2.1 (gdS gWM qM_90 qM_91 qM_9 qM_77) rfl rfl rfl (by decide +kernel) ⟨Nat.le_of_ble_eq_true rfl, Nat.le_of_ble_eq_true rfl⟩) rfl rfl (Nat.le_of_ble_eq_true rfl) (fun r1 h2 => ?_)
    refine x_if_eq (tgt := 245) C dX9_next_148 (by decide) ?_ ?_
    · refine x_aload_n C dX9_next_245 rfl 0 rfl ?_
      refine x_iload_n C dX9_next_246 rfl 2 rfl ?_
      refine x_callVv C dX9_next_247 (M_X9_signToken G l N x2 h2) (cwV 1 C.2.2.2.2.1 (gdV gWM qM_92 qM_93 qM_94 qM_9 qM_78) rfl rfl rfl (by decide +kernel) ⟨Nat.le_of_ble_eq_true rfl, Nat.le_of_ble_eq_true rfl⟩) (xc_51 G h2) (by decide) rfl rfl rfl (Nat.le_of_ble_eq_true rfl) (fun r3 h4 => ?_)
      exact x_vret C dX9_next_250 hr
    · refine x_aload_n C dX9_next_151 rfl 0 rfl ?_
      refine x_iconst (v := 2) C dX9_next_152 (by decide) ?_
      refine x_putI (ty0 := tyX9) (ty := .int) C 16 dX9_next_153 (xc_51 G h2) rfl (Nat.le_of_ble_eq_true rfl) (by decide) rfl (fun w h => List.mem_cons_of_mem _ (iWM_X9 w h)) tyX9_ok nmX9 (by decide) rfl rfl (by decide +kernel) rfl rfl (C.2.2.2.2.1 _ (List.mem_cons_of_mem _ qM_79)) (fun h5 => ?_)
      exact x_sub [0, 1] rfl (T_X9_next_156 C hr x1 h5)
set_option maxHeartbeats 4000000 in
set_option maxRecDepth 100000 in
theorem T_X9_next_20_b {G : xG} {p : Program} {l : Launch} {e : Env} {s : State} {m : MethodId} {args : Array Value} {below : List Frame} {meth : Method} {c : Code} {N : Nat} (C : xC G p s m args meth c cX9_next 3 vX9_next RX9) (hr : meth.sig.returnType = none) {k20 : Int32 → xHp → Option (Unit × xHp)} (hk20 : ∀ (x1 : Int32) (h : xHp), J_X9_next G p l e s m args below meth c 20 [(0, .ref (xad G 51)), (1, .int x1)] [] h (k20 x1 h)) (x1 : Int32) (h : xHp) : J_X9_next G p l e s m args below meth c 20 [(0, .ref (xad G 51)), (1, .int x1)] [] h (F_X9_next_20_b N k20 x1 h) := by
  unfold F_X9_next_20_b
  refine x_aload_n C dX9_next_20 rfl 0 rfl ?_
  refine x_iload_n C dX9_next_21 rfl 1 rfl ?_
  refine x_callVi C dX9_next_22 (M_X9_byteAt G l N x1 h) (cwV 1 C.2.2.2.2.1 (gdV gWM qM_82 qM_83 qM_84 qM_9 qM_76) rfl rfl rfl (by decide +kernel) ⟨Nat.le_of_ble_eq_true rfl, Nat.le_of_ble_eq_true rfl⟩) (xc_51 G h) (by decide) rfl rfl rfl (Nat.le_of_ble_eq_true rfl) (fun r1 h2 => ?_)
  refine x_bipush (v := 32) C dX9_next_25 (by decide) ?_
  refine x_icmp_ne (tgt := 36) C dX9_next_27 (by decide) ?_ ?_
  · refine x_iinc (v := (x1 + 1)) (j := 1) (lv' := [(1, .int (x1 + 1)), (0, .ref (xad G 51))]) C dX9_next_30 rfl (by rfl) (by decide) rfl ?_
    refine x_goto (tgt := 20) C dX9_next_33 (by decide) ?_
    exact x_sub [1, 0] rfl (hk20 (x1 + 1) h2)
  · refine x_aload_n C dX9_next_36 rfl 0 rfl ?_
    refine x_iload_n C dX9_next_37 rfl 1 rfl ?_
    refine x_putI (ty0 := tyX9) (ty := .int) C 18 dX9_next_38 (xc_51 G h2) rfl (Nat.le_of_ble_eq_true rfl) (by decide) rfl (fun w h => List.mem_cons_of_mem _ (iWM_X9 w h)) tyX9_ok nmX9 (by decide) rfl rfl (by decide +kernel) rfl rfl (C.2.2.2.2.1 _ (List.mem_cons_of_mem _ qM_74)) (fun h3 => ?_)
    refine x_aload_n C dX9_next_41 rfl 0 rfl ?_
    refine x_iload_n C dX9_next_42 rfl 1 rfl ?_
    refine x_iconst (v := 1) C dX9_next_43 (by decide) ?_
    refine x_iadd C dX9_next_44 ?_
    refine x_putI (ty0 := tyX9) (ty := .int) C 19 dX9_next_45 (xc_51 G h3) rfl (Nat.le_of_ble_eq_true rfl) (by decide) rfl (fun w h => List.mem_cons_of_mem _ (iWM_X9 w h)) tyX9_ok nmX9 (by decide) rfl rfl (by decide +kernel) rfl rfl (C.2.2.2.2.1 _ (List.mem_cons_of_mem _ qM_81)) (fun h4 => ?_)
    refine x_aload_n C dX9_next_48 rfl 0 rfl ?_
    refine x_iconst (v := 0) C dX9_next_49 (by decide) ?_
    refine x_putI (ty0 := tyX9) (ty := .int) C 16 dX9_next_50 (xc_51 G h4) rfl (Nat.le_of_ble_eq_true rfl) (by decide) rfl (fun w h => List.mem_cons_of_mem _ (iWM_X9 w h)) tyX9_ok nmX9 (by decide) rfl rfl (by decide +kernel) rfl rfl (C.2.2.2.2.1 _ (List.mem_cons_of_mem _ qM_79)) (fun h5 => ?_)
    refine x_aload_n C dX9_next_53 rfl 0 rfl ?_
    refine x_iconst (v := 0) C dX9_next_54 (by decide) ?_
    refine x_putI (ty0 := tyX9) (ty := .int) C 17 dX9_next_55 (xc_51 G h5) rfl (Nat.le_of_ble_eq_true rfl) (by decide) rfl (fun w h => List.mem_cons_of_mem _ (iWM_X9 w h)) tyX9_ok nmX9 (by decide) rfl rfl (by decide +kernel) rfl rfl (C.2.2.2.2.1 _ (List.mem_cons_of_mem _ qM_80)) (fun h6 => ?_)
    refine x_iload_n C dX9_next_58 rfl 1 rfl ?_
    refine x_aload_n C dX9_next_59 rfl 0 rfl ?_
    refine x_get (v := .int (gI h6 51 15)) C 15 dX9_next_60 (xc_51 G h6) rfl (by decide) rfl (fun w h => List.mem_cons_of_mem _ (iWM_X9 w h)) (by decide) rfl (C.2.2.2.2.1 _ (List.mem_cons_of_mem _ qM_69)) ?_
    refine x_icmp_lt (tgt := 83) C dX9_next_63 (by decide) ?_ ?_
    · refine x_aload_n C dX9_next_83 rfl 0 rfl ?_
      refine x_dup C dX9_next_84 rfl ?_
      refine x_get (v := .int (gI h6 51 20)) C 20 dX9_next_85 (xc_51 G h6) rfl (by decide) rfl (fun w h => List.mem_cons_of_mem _ (iWM_X9 w h)) (by decide) rfl (C.2.2.2.2.1 _ (List.mem_cons_of_mem _ qM_88)) ?_
      refine x_iconst (v := 1) C dX9_next_88 (by decide) ?_
      refine x_iadd C dX9_next_89 ?_
      refine x_putI (ty0 := tyX9) (ty := .int) C 20 dX9_next_90 (xc_51 G h6) rfl (Nat.le_of_ble_eq_true rfl) (by decide) rfl (fun w h => List.mem_cons_of_mem _ (iWM_X9 w h)) tyX9_ok nmX9 (by decide) rfl rfl (by decide +kernel) rfl rfl (C.2.2.2.2.1 _ (List.mem_cons_of_mem _ qM_88)) (fun h7 => ?_)
      refine x_aload_n C dX9_next_93 rfl 0 rfl ?_
      refine x_get (v := .ref (xad G 61)) C 14 dX9_next_94 (xc_51 G h7) rfl (by decide) rfl (fun w h => List.mem_cons_of_mem _ (iWM_X9 w h)) (by decide) rfl (C.2.2.2.2.1 _ (List.mem_cons_of_mem _ qM_70)) ?_
      refine x_iload_n C dX9_next_97 rfl 1 rfl ?_
      refine x_iald (n := 400) C dX9_next_98 (xc_61 G h7) (by decide) ?_
      refine x_istore_n (lv' := [(2, .int (gI h7 61 x1.toNatClampNeg)), (0, .ref (xad G 51)), (1, .int x1)]) C dX9_next_99 rfl (by decide) rfl ?_
      refine x_iload_n C dX9_next_100 rfl 0 rfl ?_
      refine x_bipush (v := 97) C dX9_next_101 (by decide) ?_
      refine x_icmp_lt (tgt := 112) C dX9_next_103 (by decide) ?_ ?_
      · exact x_sub [1, 2, 0] rfl (T_X9_next_112 C hr x1 (gI h7 61 x1.toNatClampNeg) h7)
      · refine x_iload_n C dX9_next_106 rfl 0 rfl ?_
        refine x_bipush (v := 111) C dX9_next_107 (by decide) ?_
        refine x_icmp_le (tgt := 118) C dX9_next_109 (by decide) ?_ ?_
        · exact x_sub [1, 0] rfl (T_X9_next_118 C hr (gI h7 61 x1.toNatClampNeg) h7)
        · exact x_sub [1, 2, 0] rfl (T_X9_next_112 C hr x1 (gI h7 61 x1.toNatClampNeg) h7)
    · refine x_aload_n C dX9_next_66 rfl 0 rfl ?_
      refine x_aload_n C dX9_next_67 rfl 0 rfl ?_
      refine x_get (v := .int (gI h6 51 15)) C 15 dX9_next_68 (xc_51 G h6) rfl (by decide) rfl (fun w h => List.mem_cons_of_mem _ (iWM_X9 w h)) (by decide) rfl (C.2.2.2.2.1 _ (List.mem_cons_of_mem _ qM_69)) ?_
      refine x_putI (ty0 := tyX9) (ty := .int) C 18 dX9_next_71 (xc_51 G h6) rfl (Nat.le_of_ble_eq_true rfl) (by decide) rfl (fun w h => List.mem_cons_of_mem _ (iWM_X9 w h)) tyX9_ok nmX9 (by decide) rfl rfl (by decide +kernel) rfl rfl (C.2.2.2.2.1 _ (List.mem_cons_of_mem _ qM_74)) (fun h8 => ?_)
      refine x_aload_n C dX9_next_74 rfl 0 rfl ?_
      refine x_aload_n C dX9_next_75 rfl 0 rfl ?_
      refine x_get (v := .int (gI h8 51 15)) C 15 dX9_next_76 (xc_51 G h8) rfl (by decide) rfl (fun w h => List.mem_cons_of_mem _ (iWM_X9 w h)) (by decide) rfl (C.2.2.2.2.1 _ (List.mem_cons_of_mem _ qM_69)) ?_
      refine x_putI (ty0 := tyX9) (ty := .int) C 19 dX9_next_79 (xc_51 G h8) rfl (Nat.le_of_ble_eq_true rfl) (by decide) rfl (fun w h => List.mem_cons_of_mem _ (iWM_X9 w h)) tyX9_ok nmX9 (by decide) rfl rfl (by decide +kernel) rfl rfl (C.2.2.2.2.1 _ (List.mem_cons_of_mem _ qM_81)) (fun h9 => ?_)
      exact x_vret C dX9_next_82 hr
set_option maxHeartbeats 4000000 in
set_option maxRecDepth 100000 in
theorem T_X9_next_20_n {G : xG} {p : Program} {l : Launch} {e : Env} {s : State} {m : MethodId} {args : Array Value} {below : List Frame} {meth : Method} {c : Code} {N : Nat} (C : xC G p s m args meth c cX9_next 3 vX9_next RX9) (hr : meth.sig.returnType = none) : ∀ (n : Nat) (x1 : Int32) (h : xHp), J_X9_next G p l e s m args below meth c 20 [(0, .ref (xad G 51)), (1, .int x1)] [] h (xit (F_X9_next_20_b N) (fun _ _ => none) n x1 h) := by
  intro n
  induction n with
  | zero => intros; exact x_none
  | succ n ih => intros; exact T_X9_next_20_b C hr ih _ _
set_option maxHeartbeats 4000000 in
set_option maxRecDepth 100000 in
theorem T_X9_next_20 {G : xG} {p : Program} {l : Launch} {e : Env} {s : State} {m : MethodId} {args : Array Value} {below : List Frame} {meth : Method} {c : Code} {N : Nat} (C : xC G p s m args meth c cX9_next 3 vX9_next RX9) (hr : meth.sig.returnType = none) (x1 : Int32) (h : xHp) : J_X9_next G p l e s m args below meth c 20 [(0, .ref (xad G 51)), (1, .int x1)] [] h (F_X9_next_20 N x1 h) := T_X9_next_20_n C hr N x1 h
set_option maxHeartbeats 4000000 in
set_option maxRecDepth 100000 in
theorem M_X9_next (G : xG) (l : Launch) (N : Nat) (h : xHp) : ∀ r, F_X9_next N h = some r → Met l yX9_next vX9_next ({ frames := 2, cells := 0, slots := 0, locals := 43 } : Room) (xPc G [.ref (xad G 51)] h) (xQv G r) 0 0 (xA G) := by
  refine x_met (own := RX9) (cc := cX9_next) (maxL := 3) (ret := none) (lv0 := [(0, .ref (xad G 51))]) (by decide +kernel) rfl rfl (Nat.le_of_ble_eq_true rfl) rfl ?_
  intro p e s m below meth c C hr
  unfold F_X9_next
  refine x_aload_n C dX9_next_0 rfl 0 rfl ?_
  refine x_get (v := .int (gI h 51 20)) C 20 dX9_next_1 (xc_51 G h) rfl (by decide) rfl (fun w h => List.mem_cons_of_mem _ (iWM_X9 w h)) (by decide) rfl (C.2.2.2.2.1 _ (List.mem_cons_of_mem _ qM_88)) ?_
  refine x_bipush (v := 100) C dX9_next_4 (by decide) ?_
  refine x_icmp_le (tgt := 15) C dX9_next_6 (by decide) ?_ ?_
  · refine x_aload_n C dX9_next_15 rfl 0 rfl ?_
    refine x_get (v := .int (gI h 51 19)) C 19 dX9_next_16 (xc_51 G h) rfl (by decide) rfl (fun w h => List.mem_cons_of_mem _ (iWM_X9 w h)) (by decide) rfl (C.2.2.2.2.1 _ (List.mem_cons_of_mem _ qM_81)) ?_
    refine x_istore_n (lv' := [(1, .int (gI h 51 19)), (0, .ref (xad G 51))]) C dX9_next_19 rfl (by decide) rfl ?_
    exact x_sub [1, 0] rfl (T_X9_next_20 C hr (gI h 51 19) h)
  · refine x_aload_n C dX9_next_9 rfl 0 rfl ?_
    refine x_iconst (v := 5) C dX9_next_10 (by decide) ?_
    refine x_callVv C dX9_next_11 (M_X9_fail G l N 5 h) (cwV 1 C.2.2.2.2.1 (gdV gWM qM_85 qM_86 qM_87 qM_9 qM_72) rfl rfl rfl (by decide +kernel) ⟨Nat.le_of_ble_eq_true rfl, Nat.le_of_ble_eq_true rfl⟩) (xc_51 G h) (by decide) rfl rfl rfl (Nat.le_of_ble_eq_true rfl) (fun r1 h2 => ?_)
    exact x_vret C dX9_next_14 hr
/-! X9_sign: 12 instructions -/
abbrev J_X9_sign (G : xG) (p : Program) (l : Launch) (e : Env) (s : State) (m : MethodId) (args : Array Value) (below : List Frame) (meth : Method) (c : Code) : Nat → List (Nat × Value) → List Value → xHp → Option (Int32 × xHp) → Prop := xJ G p l e ({ frames := 0, cells := 0, slots := 0, locals := 0 } : Room) s m args below meth c 2 (fun res => MQ below (xQi G res) args s 0 0 (xA G))
def F_X9_sign_20 (N : Nat) (h : xHp) : Option (Int32 × xHp) := some (0, h)
def F_X9_sign (N : Nat) (p1 : Int32) (h : xHp) : Option (Int32 × xHp) := if (gI h 51 16) = 3 then if (gI h 51 17) = p1 then some (1, h) else F_X9_sign_20 N h else F_X9_sign_20 N h
set_option maxHeartbeats 4000000 in
set_option maxRecDepth 100000 in
theorem T_X9_sign_20 {G : xG} {p : Program} {l : Launch} {e : Env} {s : State} {m : MethodId} {args : Array Value} {below : List Frame} {meth : Method} {c : Code} {N : Nat} (C : xC G p s m args meth c cX9_sign 2 vX9_sign RX9) (hr : meth.sig.returnType = (some .boolean)) (h : xHp) : J_X9_sign G p l e s m args below meth c 20 [] [] h (F_X9_sign_20 N h) := by
  unfold F_X9_sign_20
  refine x_iconst (v := 0) C dX9_sign_20 (by decide) ?_
  exact x_zretL C dX9_sign_21 hr rfl
set_option maxHeartbeats 4000000 in
set_option maxRecDepth 100000 in
theorem M_X9_sign (G : xG) (l : Launch) (N : Nat) (p1 : Int32) (h : xHp) : ∀ r, F_X9_sign N p1 h = some r → Met l yX9_sign vX9_sign ({ frames := 0, cells := 0, slots := 0, locals := 0 } : Room) (xPc G [.ref (xad G 51), .int p1] h) (xQi G r) 0 0 (xA G) := by
  refine x_met (own := RX9) (cc := cX9_sign) (maxL := 2) (ret := (some .boolean)) (lv0 := [(0, .ref (xad G 51)), (1, .int p1)]) (by decide +kernel) rfl rfl (Nat.le_of_ble_eq_true rfl) rfl ?_
  intro p e s m below meth c C hr
  unfold F_X9_sign
  refine x_aload_n C dX9_sign_0 rfl 0 rfl ?_
  refine x_get (v := .int (gI h 51 16)) C 16 dX9_sign_1 (xc_51 G h) rfl (by decide) rfl (fun w h => List.mem_cons_of_mem _ (iWM_X9 w h)) (by decide) rfl (C.2.2.2.2.1 _ (List.mem_cons_of_mem _ qM_79)) ?_
  refine x_iconst (v := 3) C dX9_sign_4 (by decide) ?_
  refine x_icmp_ne (tgt := 20) C dX9_sign_5 (by decide) ?_ ?_
  · refine x_aload_n C dX9_sign_8 rfl 0 rfl ?_
    refine x_get (v := .int (gI h 51 17)) C 17 dX9_sign_9 (xc_51 G h) rfl (by decide) rfl (fun w h => List.mem_cons_of_mem _ (iWM_X9 w h)) (by decide) rfl (C.2.2.2.2.1 _ (List.mem_cons_of_mem _ qM_80)) ?_
    refine x_iload_n C dX9_sign_12 rfl 1 rfl ?_
    refine x_icmp_ne (tgt := 20) C dX9_sign_13 (by decide) ?_ ?_
    · refine x_iconst (v := 1) C dX9_sign_16 (by decide) ?_
      refine x_goto (tgt := 21) C dX9_sign_17 (by decide) ?_
      exact x_zretL C dX9_sign_21 hr rfl
    · exact x_sub [] rfl (T_X9_sign_20 C hr h)
  · exact x_sub [] rfl (T_X9_sign_20 C hr h)
/-! X9_put: 13 instructions -/
abbrev J_X9_put (G : xG) (p : Program) (l : Launch) (e : Env) (s : State) (m : MethodId) (args : Array Value) (below : List Frame) (meth : Method) (c : Code) : Nat → List (Nat × Value) → List Value → xHp → Option (Unit × xHp) → Prop := xJ G p l e ({ frames := 0, cells := 0, slots := 0, locals := 0 } : Room) s m args below meth c 2 (fun res => MQ below (xQv G res) args s 0 0 (xA G))
def F_X9_put (N : Nat) (p1 : Int32) (h : xHp) : Option (Unit × xHp) := grd (xin (gI h 51 34) 1000) (bnd (sI h 69 (gI h 51 34).toNatClampNeg p1) fun h1 => bnd (sI h1 51 34 ((gI h1 51 34) + 1)) fun h2 => some ((), h2))
set_option maxHeartbeats 4000000 in
set_option maxRecDepth 100000 in
theorem M_X9_put (G : xG) (l : Launch) (N : Nat) (p1 : Int32) (h : xHp) : ∀ r, F_X9_put N p1 h = some r → Met l yX9_put vX9_put ({ frames := 0, cells := 0, slots := 0, locals := 0 } : Room) (xPc G [.ref (xad G 51), .int p1] h) (xQv G r) 0 0 (xA G) := by
  refine x_met (own := RX9) (cc := cX9_put) (maxL := 2) (ret := none) (lv0 := [(0, .ref (xad G 51)), (1, .int p1)]) (by decide +kernel) rfl rfl (Nat.le_of_ble_eq_true rfl) rfl ?_
  intro p e s m below meth c C hr
  unfold F_X9_put
  refine x_aload_n C dX9_put_0 rfl 0 rfl ?_
  refine x_get (v := .ref (xad G 69)) C 35 dX9_put_1 (xc_51 G h) rfl (by decide) rfl (fun w h => List.mem_cons_of_mem _ (iWM_X9 w h)) (by decide) rfl (C.2.2.2.2.1 _ (List.mem_cons_of_mem _ qM_98)) ?_
  refine x_aload_n C dX9_put_4 rfl 0 rfl ?_
  refine x_get (v := .int (gI h 51 34)) C 34 dX9_put_5 (xc_51 G h) rfl (by decide) rfl (fun w h => List.mem_cons_of_mem _ (iWM_X9 w h)) (by decide) rfl (C.2.2.2.2.1 _ (List.mem_cons_of_mem _ qM_99)) ?_
  refine x_iload_n C dX9_put_8 rfl 1 rfl ?_
  refine x_iast (n := 1000) C dX9_put_9 (fun g => xp_69 G g _ _) (by decide) (fun h1 => ?_)
  refine x_aload_n C dX9_put_10 rfl 0 rfl ?_
  refine x_dup C dX9_put_11 rfl ?_
  refine x_get (v := .int (gI h1 51 34)) C 34 dX9_put_12 (xc_51 G h1) rfl (by decide) rfl (fun w h => List.mem_cons_of_mem _ (iWM_X9 w h)) (by decide) rfl (C.2.2.2.2.1 _ (List.mem_cons_of_mem _ qM_99)) ?_
  refine x_iconst (v := 1) C dX9_put_15 (by decide) ?_
  refine x_iadd C dX9_put_16 ?_
  refine x_putI (ty0 := tyX9) (ty := .int) C 34 dX9_put_17 (xc_51 G h1) rfl (Nat.le_of_ble_eq_true rfl) (by decide) rfl (fun w h => List.mem_cons_of_mem _ (iWM_X9 w h)) tyX9_ok nmX9 (by decide) rfl rfl (by decide +kernel) rfl rfl (C.2.2.2.2.1 _ (List.mem_cons_of_mem _ qM_99)) (fun h2 => ?_)
  exact x_vret C dX9_put_20 hr
/-! X9_opened: 14 instructions -/
abbrev J_X9_opened (G : xG) (p : Program) (l : Launch) (e : Env) (s : State) (m : MethodId) (args : Array Value) (below : List Frame) (meth : Method) (c : Code) : Nat → List (Nat × Value) → List Value → xHp → Option (Unit × xHp) → Prop := xJ G p l e ({ frames := 1, cells := 0, slots := 0, locals := 21 } : Room) s m args below meth c 1 (fun res => MQ below (xQv G res) args s 0 0 (xA G))
def F_X9_opened (N : Nat) (h : xHp) : Option (Unit × xHp) := bnd (sI h 51 38 ((gI h 51 38) + 1)) fun h1 => if (gI h1 51 38) ≤ 20 then some ((), h1) else bnd2 (F_X9_fail N 4 h1) fun r2 h3 => some ((), h3)
set_option maxHeartbeats 4000000 in
set_option maxRecDepth 100000 in
theorem M_X9_opened (G : xG) (l : Launch) (N : Nat) (h : xHp) : ∀ r, F_X9_opened N h = some r → Met l yX9_opened vX9_opened ({ frames := 1, cells := 0, slots := 0, locals := 21 } : Room) (xPc G [.ref (xad G 51)] h) (xQv G r) 0 0 (xA G) := by
  refine x_met (own := RX9) (cc := cX9_opened) (maxL := 1) (ret := none) (lv0 := [(0, .ref (xad G 51))]) (by decide +kernel) rfl rfl (Nat.le_of_ble_eq_true rfl) rfl ?_
  intro p e s m below meth c C hr
  unfold F_X9_opened
  refine x_aload_n C dX9_opened_0 rfl 0 rfl ?_
  refine x_dup C dX9_opened_1 rfl ?_
  refine x_get (v := .int (gI h 51 38)) C 38 dX9_opened_2 (xc_51 G h) rfl (by decide) rfl (fun w h => List.mem_cons_of_mem _ (iWM_X9 w h)) (by decide) rfl (C.2.2.2.2.1 _ (List.mem_cons_of_mem _ qM_101)) ?_
  refine x_iconst (v := 1) C dX9_opened_5 (by decide) ?_
  refine x_iadd C dX9_opened_6 ?_
  refine x_putI (ty0 := tyX9) (ty := .int) C 38 dX9_opened_7 (xc_51 G h) rfl (Nat.le_of_ble_eq_true rfl) (by decide) rfl (fun w h => List.mem_cons_of_mem _ (iWM_X9 w h)) tyX9_ok nmX9 (by decide) rfl rfl (by decide +kernel) rfl rfl (C.2.2.2.2.1 _ (List.mem_cons_of_mem _ qM_101)) (fun h1 => ?_)
  refine x_aload_n C dX9_opened_10 rfl 0 rfl ?_
  refine x_get (v := .int (gI h1 51 38)) C 38 dX9_opened_11 (xc_51 G h1) rfl (by decide) rfl (fun w h => List.mem_cons_of_mem _ (iWM_X9 w h)) (by decide) rfl (C.2.2.2.2.1 _ (List.mem_cons_of_mem _ qM_101)) ?_
  refine x_bipush (v := 20) C dX9_opened_14 (by decide) ?_
  refine x_icmp_le (tgt := 24) C dX9_opened_16 (by decide) ?_ ?_
  · exact x_vret C dX9_opened_24 hr
  · refine x_aload_n C dX9_opened_19 rfl 0 rfl ?_
    refine x_iconst (v := 4) C dX9_opened_20 (by decide) ?_
    refine x_callVv C dX9_opened_21 (M_X9_fail G l N 4 h1) (cwV 1 C.2.2.2.2.1 (gdV gWM qM_85 qM_86 qM_87 qM_9 qM_72) rfl rfl rfl (by decide +kernel) ⟨Nat.le_of_ble_eq_true rfl, Nat.le_of_ble_eq_true rfl⟩) (xc_51 G h1) (by decide) rfl rfl rfl (Nat.le_of_ble_eq_true rfl) (fun r2 h3 => ?_)
    exact x_vret C dX9_opened_24 hr
/-! X9_await1: 13 instructions -/
abbrev J_X9_await1 (G : xG) (p : Program) (l : Launch) (e : Env) (s : State) (m : MethodId) (args : Array Value) (below : List Frame) (meth : Method) (c : Code) : Nat → List (Nat × Value) → List Value → xHp → Option (Unit × xHp) → Prop := xJ G p l e ({ frames := 0, cells := 0, slots := 0, locals := 0 } : Room) s m args below meth c 2 (fun res => MQ below (xQv G res) args s 0 0 (xA G))
def F_X9_await1 (N : Nat) (p1 : Int32) (h : xHp) : Option (Unit × xHp) := grd (xin (gI h 51 37) 400) (bnd (sI h 70 (gI h 51 37).toNatClampNeg p1) fun h1 => bnd (sI h1 51 37 ((gI h1 51 37) + 1)) fun h2 => some ((), h2))
set_option maxHeartbeats 4000000 in
set_option maxRecDepth 100000 in
theorem M_X9_await1 (G : xG) (l : Launch) (N : Nat) (p1 : Int32) (h : xHp) : ∀ r, F_X9_await1 N p1 h = some r → Met l yX9_await1 vX9_await1 ({ frames := 0, cells := 0, slots := 0, locals := 0 } : Room) (xPc G [.ref (xad G 51), .int p1] h) (xQv G r) 0 0 (xA G) := by
  refine x_met (own := RX9) (cc := cX9_await1) (maxL := 2) (ret := none) (lv0 := [(0, .ref (xad G 51)), (1, .int p1)]) (by decide +kernel) rfl rfl (Nat.le_of_ble_eq_true rfl) rfl ?_
  intro p e s m below meth c C hr
  unfold F_X9_await1
  refine x_aload_n C dX9_await1_0 rfl 0 rfl ?_
  refine x_get (v := .ref (xad G 70)) C 36 dX9_await1_1 (xc_51 G h) rfl (by decide) rfl (fun w h => List.mem_cons_of_mem _ (iWM_X9 w h)) (by decide) rfl (C.2.2.2.2.1 _ (List.mem_cons_of_mem _ qM_103)) ?_
  refine x_aload_n C dX9_await1_4 rfl 0 rfl ?_
  refine x_get (v := .int (gI h 51 37)) C 37 dX9_await1_5 (xc_51 G h) rfl (by decide) rfl (fun w h => List.mem_cons_of_mem _ (iWM_X9 w h)) (by decide) rfl (C.2.2.2.2.1 _ (List.mem_cons_of_mem _ qM_104)) ?_
  refine x_iload_n C dX9_await1_8 rfl 1 rfl ?_
  refine x_iast (n := 400) C dX9_await1_9 (fun g => xp_70 G g _ _) (by decide) (fun h1 => ?_)
  refine x_aload_n C dX9_await1_10 rfl 0 rfl ?_
  refine x_dup C dX9_await1_11 rfl ?_
  refine x_get (v := .int (gI h1 51 37)) C 37 dX9_await1_12 (xc_51 G h1) rfl (by decide) rfl (fun w h => List.mem_cons_of_mem _ (iWM_X9 w h)) (by decide) rfl (C.2.2.2.2.1 _ (List.mem_cons_of_mem _ qM_104)) ?_
  refine x_iconst (v := 1) C dX9_await1_15 (by decide) ?_
  refine x_iadd C dX9_await1_16 ?_
  refine x_putI (ty0 := tyX9) (ty := .int) C 37 dX9_await1_17 (xc_51 G h1) rfl (Nat.le_of_ble_eq_true rfl) (by decide) rfl (fun w h => List.mem_cons_of_mem _ (iWM_X9 w h)) tyX9_ok nmX9 (by decide) rfl rfl (by decide +kernel) rfl rfl (C.2.2.2.2.1 _ (List.mem_cons_of_mem _ qM_104)) (fun h2 => ?_)
  exact x_vret C dX9_await1_20 hr
/-! X9_atMost: 106 instructions -/
abbrev J_X9_atMost (G : xG) (p : Program) (l : Launch) (e : Env) (s : State) (m : MethodId) (args : Array Value) (below : List Frame) (meth : Method) (c : Code) : Nat → List (Nat × Value) → List Value → xHp → Option (Unit × xHp) → Prop := xJ G p l e ({ frames := 1, cells := 0, slots := 0, locals := 21 } : Room) s m args below meth c 9 (fun res => MQ below (xQv G res) args s 0 0 (xA G))
def F_X9_atMost_17 (N : Nat) (s1 : Int32) (h : xHp) : Option (Unit × xHp) := bnd2 (F_X9_put N s1 h) fun r1 h2 => some ((), h2)
def F_X9_atMost_120 (N : Nat) (k75 : Int32 → Int32 → Int32 → Int32 → Int32 → xHp → Option (Unit × xHp)) (x4 : Int32) (x5 : Int32) (x6 : Int32) (x7 : Int32) (x8 : Int32) (h : xHp) : Option (Unit × xHp) := k75 x4 x5 x6 x7 (x8 + 1) h
def F_X9_atMost_185 (N : Nat) (x4 : Int32) (x8 : Int32) (h : xHp) : Option (Unit × xHp) := bnd2 (F_X9_put N x8 h) fun r1 h2 => if x4 = 0 then some ((), h2) else bnd2 (F_X9_put N 22 h2) fun r3 h4 => some ((), h4)
def F_X9_atMost_126 (N : Nat) (x4 : Int32) (x5 : Int32) (x6 : Int32) (x7 : Int32) (x8 : Int32) (h : xHp) : Option (Unit × xHp) := if x8 = (gI h 51 30) then if x8 < 10 then grd (xin x8 12) (bnd (sI h 66 x8.toNatClampNeg x5) fun h1 => grd (xin x8 12) (bnd (sI h1 67 x8.toNatClampNeg x6) fun h2 => grd (xin x8 12) (bnd (sI h2 68 x8.toNatClampNeg x7) fun h3 => bnd (sI h3 51 30 ((gI h3 51 30) + 1)) fun h4 => F_X9_atMost_185 N x4 x8 h4))) else bnd2 (F_X9_fail N 3 h) fun r5 h6 => some ((), h6) else F_X9_atMost_185 N x4 x8 h
def F_X9_atMost_75_b (N : Nat) (k75 : Int32 → Int32 → Int32 → Int32 → Int32 → xHp → Option (Unit × xHp)) (x4 : Int32) (x5 : Int32) (x6 : Int32) (x7 : Int32) (x8 : Int32) (h : xHp) : Option (Unit × xHp) := if (gI h 51 30) ≤ x8 then F_X9_atMost_126 N x4 x5 x6 x7 x8 h else grd (xin x8 12) (if (gI h 66 x8.toNatClampNeg) = x5 then grd (xin x8 12) (if (gI h 67 x8.toNatClampNeg) = x6 then grd (xin x8 12) (if (gI h 68 x8.toNatClampNeg) = x7 then F_X9_atMost_126 N x4 x5 x6 x7 x8 h else F_X9_atMost_120 N k75 x4 x5 x6 x7 x8 h) else F_X9_atMost_120 N k75 x4 x5 x6 x7 x8 h) else F_X9_atMost_120 N k75 x4 x5 x6 x7 x8 h)
def F_X9_atMost_75 (N : Nat) (x4 : Int32) (x5 : Int32) (x6 : Int32) (x7 : Int32) (x8 : Int32) (h : xHp) : Option (Unit × xHp) := xit (F_X9_atMost_75_b N) (fun _ _ _ _ _ _ => none) N x4 x5 x6 x7 x8 h
def F_X9_atMost_70 (N : Nat) (x4 : Int32) (x5 : Int32) (x6 : Int32) (s0 : Int32) (h : xHp) : Option (Unit × xHp) := F_X9_atMost_75 N x4 x5 x6 s0 0 h
def F_X9_atMost_55 (N : Nat) (x3 : Int32) (x4 : Int32) (x5 : Int32) (s0 : Int32) (h : xHp) : Option (Unit × xHp) := if x4 = 0 then F_X9_atMost_70 N x4 x5 s0 x3 h else F_X9_atMost_70 N x4 x5 s0 ((-x3) - 1) h
def F_X9_atMost_43 (N : Nat) (x1 : Int32) (x2 : Int32) (x3 : Int32) (x4 : Int32) (s0 : Int32) (h : xHp) : Option (Unit × xHp) := if x4 = 0 then F_X9_atMost_55 N x3 x4 s0 x2 h else F_X9_atMost_55 N x3 x4 s0 x1 h
def F_X9_atMost_31 (N : Nat) (x1 : Int32) (x2 : Int32) (x3 : Int32) (s0 : Int32) (h : xHp) : Option (Unit × xHp) := if s0 = 0 then F_X9_atMost_43 N x1 x2 x3 s0 x1 h else F_X9_atMost_43 N x1 x2 x3 s0 x2 h
def F_X9_atMost (N : Nat) (p1 : Int32) (p2 : Int32) (p3 : Int32) (h : xHp) : Option (Unit × xHp) := if p1 = p2 then if p3 < 0 then F_X9_atMost_17 N 20 h else F_X9_atMost_17 N 21 h else if p1 ≤ p2 then F_X9_atMost_31 N p1 p2 p3 0 h else F_X9_atMost_31 N p1 p2 p3 1 h
set_option maxHeartbeats 4000000 in
set_option maxRecDepth 100000 in
theorem T_X9_atMost_17 {G : xG} {p : Program} {l : Launch} {e : Env} {s : State} {m : MethodId} {args : Array Value} {below : List Frame} {meth : Method} {c : Code} {N : Nat} (C : xC G p s m args meth c cX9_atMost 9 vX9_atMost RX9) (hr : meth.sig.returnType = none) (s1 : Int32) (h : xHp) : J_X9_atMost G p l e s m args below meth c 17 [] [.int s1, .ref (xad G 51)] h (F_X9_atMost_17 N s1 h) := by
  unfold F_X9_atMost_17
  refine x_callVv C dX9_atMost_17 (M_X9_put G l N s1 h) (cwV 1 C.2.2.2.2.1 (gdV gWM qM_110 qM_111 qM_112 qM_9 qM_97) rfl rfl rfl (by decide +kernel) ⟨Nat.le_of_ble_eq_true rfl, Nat.le_of_ble_eq_true rfl⟩) (xc_51 G h) (by decide) rfl rfl rfl (Nat.le_of_ble_eq_true rfl) (fun r1 h2 => ?_)
  exact x_vret C dX9_atMost_20 hr
set_option maxHeartbeats 4000000 in
set_option maxRecDepth 100000 in
theorem T_X9_atMost_120 {G : xG} {p : Program} {l : Launch} {e : Env} {s : State} {m : MethodId} {args : Array Value} {below : List Frame} {meth : Method} {c : Code} {N : Nat} (C : xC G p s m args meth c cX9_atMost 9 vX9_atMost RX9) (hr : meth.sig.returnType = none) {k75 : Int32 → Int32 → Int32 → Int32 → Int32 → xHp → Option (Unit × xHp)} (hk75 : ∀ (x4 : Int32) (x5 : Int32) (x6 : Int32) (x7 : Int32) (x8 : Int32) (h : xHp), J_X9_atMost G p l e s m args below meth c 75 [(0, .ref (xad G 51)), (4, .int x4), (5, .int x5), (6, .int x6), (7, .int x7), (8, .int x8)] [] h (k75 x4 x5 x6 x7 x8 h)) (x4 : Int32) (x5 : Int32) (x6 : Int32) (x7 : Int32) (x8 : Int32) (h : xHp) : J_X9_atMost G p l e s m args below meth c 120 [(0, .ref (xad G 51)), (4, .int x4), (5, .int x5), (6, .int x6), (7, .int x7), (8, .int x8)] [] h (F_X9_atMost_120 N k75 x4 x5 x6 x7 x8 h) := by
  unfold F_X9_atMost_120
  refine x_iinc (v := (x8 + 1)) (j := 5) (lv' := [(8, .int (x8 + 1)), (0, .ref (xad G 51)), (4, .int x4), (5, .int x5), (6, .int x6), (7, .int x7)]) C dX9_atMost_120 rfl (by rfl) (by decide) rfl ?_
  refine x_goto (tgt := 75) C dX9_atMost_123 (by decide) ?_
  exact x_sub [1, 2, 3, 4, 5, 0] rfl (hk75 x4 x5 x6 x7 (x8 + 1) h)
set_option maxHeartbeats 4000000 in
set_option maxRecDepth 100000 in
theorem T_X9_atMost_185 {G : xG} {p : Program} {l : Launch} {e : Env} {s : State} {m : MethodId} {args : Array Value} {below : List Frame} {meth : Method} {c : Code} {N : Nat} (C : xC G p s m args meth c cX9_atMost 9 vX9_atMost RX9) (hr : meth.sig.returnType = none) (x4 : Int32) (x8 : Int32) (h : xHp) : J_X9_atMost G p l e s m args below meth c 185 [(0, .ref (xad G 51)), (4, .int x4), (8, .int x8)] [] h (F_X9_atMost_185 N x4 x8 h) := by
  unfold F_X9_atMost_185
  refine x_aload_n C dX9_atMost_185 rfl 0 rfl ?_
  refine x_iload C dX9_atMost_186 2 rfl ?_
  refine x_callVv C dX9_atMost_188 (M_X9_put G l N x8 h) (cwV 1 C.2.2.2.2.1 (gdV gWM qM_110 qM_111 qM_112 qM_9 qM_97) rfl rfl rfl (by decide +kernel) ⟨Nat.le_of_ble_eq_true rfl, Nat.le_of_ble_eq_true rfl⟩) (xc_51 G h) (by decide) rfl rfl rfl (Nat.le_of_ble_eq_true rfl) (fun r1 h2 => ?_)
  refine x_iload C dX9_atMost_191 1 rfl ?_
  refine x_if_eq (tgt := 202) C dX9_atMost_193 (by decide) ?_ ?_
  · exact x_vret C dX9_atMost_202 hr
  · refine x_aload_n C dX9_atMost_196 rfl 0 rfl ?_
    refine x_bipush (v := 22) C dX9_atMost_197 (by decide) ?_
    refine x_callVv C dX9_atMost_199 (M_X9_put G l N 22 h2) (cwV 1 C.2.2.2.2.1 (gdV gWM qM_110 qM_111 qM_112 qM_9 qM_97) rfl rfl rfl (by decide +kernel) ⟨Nat.le_of_ble_eq_true rfl, Nat.le_of_ble_eq_true rfl⟩) (xc_51 G h2) (by decide) rfl rfl rfl (Nat.le_of_ble_eq_true rfl) (fun r3 h4 => ?_)
    exact x_vret C dX9_atMost_202 hr
set_option maxHeartbeats 4000000 in
set_option maxRecDepth 100000 in
theorem T_X9_atMost_126 {G : xG} {p : Program} {l : Launch} {e : Env} {s : State} {m : MethodId} {args : Array Value} {below : List Frame} {meth : Method} {c : Code} {N : Nat} (C : xC G p s m args meth c cX9_atMost 9 vX9_atMost RX9) (hr : meth.sig.returnType = none) (x4 : Int32) (x5 : Int32) (x6 : Int32) (x7 : Int32) (x8 : Int32) (h : xHp) : J_X9_atMost G p l e s m args below meth c 126 [(0, .ref (xad G 51)), (4, .int x4), (5, .int x5), (6, .int x6), (7, .int x7), (8, .int x8)] [] h (F_X9_atMost_126 N x4 x5 x6 x7 x8 h) := by
  unfold F_X9_atMost_126
  refine x_iload C dX9_atMost_126 5 rfl ?_
  refine x_aload_n C dX9_atMost_128 rfl 0 rfl ?_
  refine x_get (v := .int (gI h 51 30)) C 30 dX9_atMost_129 (xc_51 G h) rfl (by decide) rfl (fun w h => List.mem_cons_of_mem _ (iWM_X9 w h)) (by decide) rfl (C.2.2.2.2.1 _ (List.mem_cons_of_mem _ qM_106)) ?_
  refine x_icmp_ne (tgt := 185) C dX9_atMost_132 (by decide) ?_ ?_
  · refine x_iload C dX9_atMost_135 5 rfl ?_
    refine x_bipush (v := 10) C dX9_atMost_137 (by decide) ?_
    refine x_icmp_lt (tgt := 148) C dX9_atMost_139 (by decide) ?_ ?_
    · refine x_aload_n C dX9_atMost_148 rfl 0 rfl ?_
      refine x_get (v := .ref (xad G 66)) C 31 dX9_atMost_149 (xc_51 G h) rfl (by decide) rfl (fun w h => List.mem_cons_of_mem _ (iWM_X9 w h)) (by decide) rfl (C.2.2.2.2.1 _ (List.mem_cons_of_mem _ qM_107)) ?_
      refine x_iload C dX9_atMost_152 5 rfl ?_
      refine x_iload C dX9_atMost_154 2 rfl ?_
      refine x_iast (n := 12) C dX9_atMost_156 (fun g => xp_66 G g _ _) (by decide) (fun h1 => ?_)
      refine x_aload_n C dX9_atMost_157 rfl 0 rfl ?_
      refine x_get (v := .ref (xad G 67)) C 32 dX9_atMost_158 (xc_51 G h1) rfl (by decide) rfl (fun w h => List.mem_cons_of_mem _ (iWM_X9 w h)) (by decide) rfl (C.2.2.2.2.1 _ (List.mem_cons_of_mem _ qM_108)) ?_
      refine x_iload C dX9_atMost_161 5 rfl ?_
      refine x_iload C dX9_atMost_163 3 rfl ?_
      refine x_iast (n := 12) C dX9_atMost_165 (fun g => xp_67 G g _ _) (by decide) (fun h2 => ?_)
      refine x_aload_n C dX9_atMost_166 rfl 0 rfl ?_
      refine x_get (v := .ref (xad G 68)) C 33 dX9_atMost_167 (xc_51 G h2) rfl (by decide) rfl (fun w h => List.mem_cons_of_mem _ (iWM_X9 w h)) (by decide) rfl (C.2.2.2.2.1 _ (List.mem_cons_of_mem _ qM_109)) ?_
      refine x_iload C dX9_atMost_170 5 rfl ?_
      refine x_iload C dX9_atMost_172 4 rfl ?_
      refine x_iast (n := 12) C dX9_atMost_174 (fun g => xp_68 G g _ _) (by decide) (fun h3 => ?_)
      refine x_aload_n C dX9_atMost_175 rfl 0 rfl ?_
      refine x_dup C dX9_atMost_176 rfl ?_
      refine x_get (v := .int (gI h3 51 30)) C 30 dX9_atMost_177 (xc_51 G h3) rfl (by decide) rfl (fun w h => List.mem_cons_of_mem _ (iWM_X9 w h)) (by decide) rfl (C.2.2.2.2.1 _ (List.mem_cons_of_mem _ qM_106)) ?_
      refine x_iconst (v := 1) C dX9_atMost_180 (by decide) ?_
      refine x_iadd C dX9_atMost_181 ?_
      refine x_putI (ty0 := tyX9) (ty := .int) C 30 dX9_atMost_182 (xc_51 G h3) rfl (Nat.le_of_ble_eq_true rfl) (by decide) rfl (fun w h => List.mem_cons_of_mem _ (iWM_X9 w h)) tyX9_ok nmX9 (by decide) rfl rfl (by decide +kernel) rfl rfl (C.2.2.2.2.1 _ (List.mem_cons_of_mem _ qM_106)) (fun h4 => ?_)
      exact x_sub [0, 1, 5] rfl (T_X9_atMost_185 C hr x4 x8 h4)
    · refine x_aload_n C dX9_atMost_142 rfl 0 rfl ?_
      refine x_iconst (v := 3) C dX9_atMost_143 (by decide) ?_
      refine x_callVv C dX9_atMost_144 (M_X9_fail G l N 3 h) (cwV 1 C.2.2.2.2.1 (gdV gWM qM_85 qM_86 qM_87 qM_9 qM_72) rfl rfl rfl (by decide +kernel) ⟨Nat.le_of_ble_eq_true rfl, Nat.le_of_ble_eq_true rfl⟩) (xc_51 G h) (by decide) rfl rfl rfl (Nat.le_of_ble_eq_true rfl) (fun r5 h6 => ?_)
      exact x_vret C dX9_atMost_147 hr
  · exact x_sub [0, 1, 5] rfl (T_X9_atMost_185 C hr x4 x8 h)
set_option maxHeartbeats 4000000 in
set_option maxRecDepth 100000 in
theorem T_X9_atMost_75_b {G : xG} {p : Program} {l : Launch} {e : Env} {s : State} {m : MethodId} {args : Array Value} {below : List Frame} {meth : Method} {c : Code} {N : Nat} (C : xC G p s m args meth c cX9_atMost 9 vX9_atMost RX9) (hr : meth.sig.returnType = none) {k75 : Int32 → Int32 → Int32 → Int32 → Int32 → xHp → Option (Unit × xHp)} (hk75 : ∀ (x4 : Int32) (x5 : Int32) (x6 : Int32) (x7 : Int32) (x8 : Int32) (h : xHp), J_X9_atMost G p l e s m args below meth c 75 [(0, .ref (xad G 51)), (4, .int x4), (5, .int x5), (6, .int x6), (7, .int x7), (8, .int x8)] [] h (k75 x4 x5 x6 x7 x8 h)) (x4 : Int32) (x5 : Int32) (x6 : Int32) (x7 : Int32) (x8 : Int32) (h : xHp) : J_X9_atMost G p l e s m args below meth c 75 [(0, .ref (xad G 51)), (4, .int x4), (5, .int x5), (6, .int x6), (7, .int x7), (8, .int x8)] [] h (F_X9_atMost_75_b N k75 x4 x5 x6 x7 x8 h) := by
  unfold F_X9_atMost_75_b
  refine x_iload C dX9_atMost_75 5 rfl ?_
  refine x_aload_n C dX9_atMost_77 rfl 0 rfl ?_
  refine x_get (v := .int (gI h 51 30)) C 30 dX9_atMost_78 (xc_51 G h) rfl (by decide) rfl (fun w h => List.mem_cons_of_mem _ (iWM_X9 w h)) (by decide) rfl (C.2.2.2.2.1 _ (List.mem_cons_of_mem _ qM_106)) ?_
  refine x_icmp_ge (tgt := 126) C dX9_atMost_81 (by decide) ?_ ?_
  · exact x_sub [0, 1, 2, 3, 4, 5] rfl (T_X9_atMost_126 C hr x4 x5 x6 x7 x8 h)
  · refine x_aload_n C dX9_atMost_84 rfl 0 rfl ?_
    refine x_get (v := .ref (xad G 66)) C 31 dX9_atMost_85 (xc_51 G h) rfl (by decide) rfl (fun w h => List.mem_cons_of_mem _ (iWM_X9 w h)) (by decide) rfl (C.2.2.2.2.1 _ (List.mem_cons_of_mem _ qM_107)) ?_
    refine x_iload C dX9_atMost_88 5 rfl ?_
    refine x_iald (n := 12) C dX9_atMost_90 (xc_66 G h) (by decide) ?_
    refine x_iload C dX9_atMost_91 2 rfl ?_
    refine x_icmp_ne (tgt := 120) C dX9_atMost_93 (by decide) ?_ ?_
    · refine x_aload_n C dX9_atMost_96 rfl 0 rfl ?_
      refine x_get (v := .ref (xad G 67)) C 32 dX9_atMost_97 (xc_51 G h) rfl (by decide) rfl (fun w h => List.mem_cons_of_mem _ (iWM_X9 w h)) (by decide) rfl (C.2.2.2.2.1 _ (List.mem_cons_of_mem _ qM_108)) ?_
      refine x_iload C dX9_atMost_100 5 rfl ?_
      refine x_iald (n := 12) C dX9_atMost_102 (xc_67 G h) (by decide) ?_
      refine x_iload C dX9_atMost_103 3 rfl ?_
      refine x_icmp_ne (tgt := 120) C dX9_atMost_105 (by decide) ?_ ?_
      · refine x_aload_n C dX9_atMost_108 rfl 0 rfl ?_
        refine x_get (v := .ref (xad G 68)) C 33 dX9_atMost_109 (xc_51 G h) rfl (by decide) rfl (fun w h => List.mem_cons_of_mem _ (iWM_X9 w h)) (by decide) rfl (C.2.2.2.2.1 _ (List.mem_cons_of_mem _ qM_109)) ?_
        refine x_iload C dX9_atMost_112 5 rfl ?_
        refine x_iald (n := 12) C dX9_atMost_114 (xc_68 G h) (by decide) ?_
        refine x_iload C dX9_atMost_115 4 rfl ?_
        refine x_icmp_eq (tgt := 126) C dX9_atMost_117 (by decide) ?_ ?_
        · exact x_sub [0, 1, 2, 3, 4, 5] rfl (T_X9_atMost_126 C hr x4 x5 x6 x7 x8 h)
        · exact x_sub [0, 1, 2, 3, 4, 5] rfl (T_X9_atMost_120 C hr hk75 x4 x5 x6 x7 x8 h)
      · exact x_sub [0, 1, 2, 3, 4, 5] rfl (T_X9_atMost_120 C hr hk75 x4 x5 x6 x7 x8 h)
    · exact x_sub [0, 1, 2, 3, 4, 5] rfl (T_X9_atMost_120 C hr hk75 x4 x5 x6 x7 x8 h)
set_option maxHeartbeats 4000000 in
set_option maxRecDepth 100000 in
theorem T_X9_atMost_75_n {G : xG} {p : Program} {l : Launch} {e : Env} {s : State} {m : MethodId} {args : Array Value} {below : List Frame} {meth : Method} {c : Code} {N : Nat} (C : xC G p s m args meth c cX9_atMost 9 vX9_atMost RX9) (hr : meth.sig.returnType = none) : ∀ (n : Nat) (x4 : Int32) (x5 : Int32) (x6 : Int32) (x7 : Int32) (x8 : Int32) (h : xHp), J_X9_atMost G p l e s m args below meth c 75 [(0, .ref (xad G 51)), (4, .int x4), (5, .int x5), (6, .int x6), (7, .int x7), (8, .int x8)] [] h (xit (F_X9_atMost_75_b N) (fun _ _ _ _ _ _ => none) n x4 x5 x6 x7 x8 h) := by
  intro n
  induction n with
  | zero => intros; exact x_none
  | succ n ih => intros; exact T_X9_atMost_75_b C hr ih _ _ _ _ _ _
set_option maxHeartbeats 4000000 in
set_option maxRecDepth 100000 in
theorem T_X9_atMost_75 {G : xG} {p : Program} {l : Launch} {e : Env} {s : State} {m : MethodId} {args : Array Value} {below : List Frame} {meth : Method} {c : Code} {N : Nat} (C : xC G p s m args meth c cX9_atMost 9 vX9_atMost RX9) (hr : meth.sig.returnType = none) (x4 : Int32) (x5 : Int32) (x6 : Int32) (x7 : Int32) (x8 : Int32) (h : xHp) : J_X9_atMost G p l e s m args below meth c 75 [(0, .ref (xad G 51)), (4, .int x4), (5, .int x5), (6, .int x6), (7, .int x7), (8, .int x8)] [] h (F_X9_atMost_75 N x4 x5 x6 x7 x8 h) := T_X9_atMost_75_n C hr N x4 x5 x6 x7 x8 h
set_option maxHeartbeats 4000000 in
set_option maxRecDepth 100000 in
theorem T_X9_atMost_70 {G : xG} {p : Program} {l : Launch} {e : Env} {s : State} {m : MethodId} {args : Array Value} {below : List Frame} {meth : Method} {c : Code} {N : Nat} (C : xC G p s m args meth c cX9_atMost 9 vX9_atMost RX9) (hr : meth.sig.returnType = none) (x4 : Int32) (x5 : Int32) (x6 : Int32) (s0 : Int32) (h : xHp) : J_X9_atMost G p l e s m args below meth c 70 [(0, .ref (xad G 51)), (4, .int x4), (5, .int x5), (6, .int x6)] [.int s0] h (F_X9_atMost_70 N x4 x5 x6 s0 h) := by
  unfold F_X9_atMost_70
  refine x_istore (lv' := [(7, .int s0), (0, .ref (xad G 51)), (4, .int x4), (5, .int x5), (6, .int x6)]) C dX9_atMost_70 (by decide) rfl ?_
  refine x_iconst (v := 0) C dX9_atMost_72 (by decide) ?_
  refine x_istore (lv' := [(8, .int 0), (7, .int s0), (0, .ref (xad G 51)), (4, .int x4), (5, .int x5), (6, .int x6)]) C dX9_atMost_73 (by decide) rfl ?_
  exact x_sub [2, 3, 4, 5, 1, 0] rfl (T_X9_atMost_75 C hr x4 x5 x6 s0 0 h)
set_option maxHeartbeats 4000000 in
set_option maxRecDepth 100000 in
theorem T_X9_atMost_55 {G : xG} {p : Program} {l : Launch} {e : Env} {s : State} {m : MethodId} {args : Array Value} {below : List Frame} {meth : Method} {c : Code} {N : Nat} (C : xC G p s m args meth c cX9_atMost 9 vX9_atMost RX9) (hr : meth.sig.returnType = none) (x3 : Int32) (x4 : Int32) (x5 : Int32) (s0 : Int32) (h : xHp) : J_X9_atMost G p l e s m args below meth c 55 [(0, .ref (xad G 51)), (3, .int x3), (4, .int x4), (5, .int x5)] [.int s0] h (F_X9_atMost_55 N x3 x4 x5 s0 h) := by
  unfold F_X9_atMost_55
  refine x_istore (lv' := [(6, .int s0), (0, .ref (xad G 51)), (3, .int x3), (4, .int x4), (5, .int x5)]) C dX9_atMost_55 (by decide) rfl ?_
  refine x_iload C dX9_atMost_57 3 rfl ?_
  refine x_if_eq (tgt := 69) C dX9_atMost_59 (by decide) ?_ ?_
  · refine x_iload_n C dX9_atMost_69 rfl 2 rfl ?_
    exact x_sub [1, 3, 4, 0] rfl (T_X9_atMost_70 C hr x4 x5 s0 x3 h)
  · refine x_iload_n C dX9_atMost_62 rfl 2 rfl ?_
    refine x_ineg C dX9_atMost_63 ?_
    refine x_iconst (v := 1) C dX9_atMost_64 (by decide) ?_
    refine x_isub C dX9_atMost_65 ?_
    refine x_goto (tgt := 70) C dX9_atMost_66 (by decide) ?_
    exact x_sub [1, 3, 4, 0] rfl (T_X9_atMost_70 C hr x4 x5 s0 ((-x3) - 1) h)
set_option maxHeartbeats 4000000 in
set_option maxRecDepth 100000 in
theorem T_X9_atMost_43 {G : xG} {p : Program} {l : Launch} {e : Env} {s : State} {m : MethodId} {args : Array Value} {below : List Frame} {meth : Method} {c : Code} {N : Nat} (C : xC G p s m args meth c cX9_atMost 9 vX9_atMost RX9) (hr : meth.sig.returnType = none) (x1 : Int32) (x2 : Int32) (x3 : Int32) (x4 : Int32) (s0 : Int32) (h : xHp) : J_X9_atMost G p l e s m args below meth c 43 [(0, .ref (xad G 51)), (1, .int x1), (2, .int x2), (3, .int x3), (4, .int x4)] [.int s0] h (F_X9_atMost_43 N x1 x2 x3 x4 s0 h) := by
  unfold F_X9_atMost_43
  refine x_istore (lv' := [(5, .int s0), (0, .ref (xad G 51)), (1, .int x1), (2, .int x2), (3, .int x3), (4, .int x4)]) C dX9_atMost_43 (by decide) rfl ?_
  refine x_iload C dX9_atMost_45 5 rfl ?_
  refine x_if_eq (tgt := 54) C dX9_atMost_47 (by decide) ?_ ?_
  · refine x_iload_n C dX9_atMost_54 rfl 3 rfl ?_
    exact x_sub [1, 4, 5, 0] rfl (T_X9_atMost_55 C hr x3 x4 s0 x2 h)
  · refine x_iload_n C dX9_atMost_50 rfl 2 rfl ?_
    refine x_goto (tgt := 55) C dX9_atMost_51 (by decide) ?_
    exact x_sub [1, 4, 5, 0] rfl (T_X9_atMost_55 C hr x3 x4 s0 x1 h)
set_option maxHeartbeats 4000000 in
set_option maxRecDepth 100000 in
theorem T_X9_atMost_31 {G : xG} {p : Program} {l : Launch} {e : Env} {s : State} {m : MethodId} {args : Array Value} {below : List Frame} {meth : Method} {c : Code} {N : Nat} (C : xC G p s m args meth c cX9_atMost 9 vX9_atMost RX9) (hr : meth.sig.returnType = none) (x1 : Int32) (x2 : Int32) (x3 : Int32) (s0 : Int32) (h : xHp) : J_X9_atMost G p l e s m args below meth c 31 [(0, .ref (xad G 51)), (1, .int x1), (2, .int x2), (3, .int x3)] [.int s0] h (F_X9_atMost_31 N x1 x2 x3 s0 h) := by
  unfold F_X9_atMost_31
  refine x_istore (lv' := [(4, .int s0), (0, .ref (xad G 51)), (1, .int x1), (2, .int x2), (3, .int x3)]) C dX9_atMost_31 (by decide) rfl ?_
  refine x_iload C dX9_atMost_33 0 rfl ?_
  refine x_if_eq (tgt := 42) C dX9_atMost_35 (by decide) ?_ ?_
  · refine x_iload_n C dX9_atMost_42 rfl 2 rfl ?_
    exact x_sub [1, 2, 3, 4, 0] rfl (T_X9_atMost_43 C hr x1 x2 x3 s0 x1 h)
  · refine x_iload_n C dX9_atMost_38 rfl 3 rfl ?_
    refine x_goto (tgt := 43) C dX9_atMost_39 (by decide) ?_
    exact x_sub [1, 2, 3, 4, 0] rfl (T_X9_atMost_43 C hr x1 x2 x3 s0 x2 h)
set_option maxHeartbeats 4000000 in
set_option maxRecDepth 100000 in
theorem M_X9_atMost (G : xG) (l : Launch) (N : Nat) (p1 : Int32) (p2 : Int32) (p3 : Int32) (h : xHp) : ∀ r, F_X9_atMost N p1 p2 p3 h = some r → Met l yX9_atMost vX9_atMost ({ frames := 1, cells := 0, slots := 0, locals := 21 } : Room) (xPc G [.ref (xad G 51), .int p1, .int p2, .int p3] h) (xQv G r) 0 0 (xA G) := by
  refine x_met (own := RX9) (cc := cX9_atMost) (maxL := 9) (ret := none) (lv0 := [(0, .ref (xad G 51)), (1, .int p1), (2, .int p2), (3, .int p3)]) (by decide +kernel) rfl rfl (Nat.le_of_ble_eq_true rfl) rfl ?_
  intro p e s m below meth c C hr
  unfold F_X9_atMost
  refine x_iload_n C dX9_atMost_0 rfl 1 rfl ?_
  refine x_iload_n C dX9_atMost_1 rfl 2 rfl ?_
  refine x_icmp_ne (tgt := 21) C dX9_atMost_2 (by decide) ?_ ?_
  · refine x_aload_n C dX9_atMost_5 rfl 0 rfl ?_
    refine x_iload_n C dX9_atMost_6 rfl 3 rfl ?_
    refine x_if_lt (tgt := 15) C dX9_atMost_7 (by decide) ?_ ?_
    · refine x_bipush (v := 20) C dX9_atMost_15 (by decide) ?_
      exact x_sub [] rfl (T_X9_atMost_17 C hr 20 h)
    · refine x_bipush (v := 21) C dX9_atMost_10 (by decide) ?_
      refine x_goto (tgt := 17) C dX9_atMost_12 (by decide) ?_
      exact x_sub [] rfl (T_X9_atMost_17 C hr 21 h)
  · refine x_iload_n C dX9_atMost_21 rfl 1 rfl ?_
    refine x_iload_n C dX9_atMost_22 rfl 2 rfl ?_
    refine x_icmp_le (tgt := 30) C dX9_atMost_23 (by decide) ?_ ?_
    · refine x_iconst (v := 0) C dX9_atMost_30 (by decide) ?_
      exact x_sub [0, 1, 2, 3] rfl (T_X9_atMost_31 C hr p1 p2 p3 0 h)
    · refine x_iconst (v := 1) C dX9_atMost_26 (by decide) ?_
      refine x_goto (tgt := 31) C dX9_atMost_27 (by decide) ?_
      exact x_sub [0, 1, 2, 3] rfl (T_X9_atMost_31 C hr p1 p2 p3 1 h)
/-! X9_comparison: 59 instructions -/
abbrev J_X9_comparison (G : xG) (p : Program) (l : Launch) (e : Env) (s : State) (m : MethodId) (args : Array Value) (below : List Frame) (meth : Method) (c : Code) : Nat → List (Nat × Value) → List Value → xHp → Option (Unit × xHp) → Prop := xJ G p l e ({ frames := 2, cells := 0, slots := 0, locals := 49 } : Room) s m args below meth c 6 (fun res => MQ below (xQv G res) args s 0 0 (xA G))
def F_X9_comparison_104 (N : Nat) (h : xHp) : Option (Unit × xHp) := bnd2 (F_X9_put N 22 h) fun r1 h2 => some ((), h2)
def F_X9_comparison_85 (N : Nat) (x1 : Int32) (h : xHp) : Option (Unit × xHp) := if x1 = 35 then F_X9_comparison_104 N h else if x1 = 162 then F_X9_comparison_104 N h else if x1 = 62 then F_X9_comparison_104 N h else some ((), h)
def F_X9_comparison_32 (N : Nat) (x1 : Int32) (x2 : Int32) (x3 : Int32) (x4 : Int32) (h : xHp) : Option (Unit × xHp) := bnd2 (F_X9_atMost N x2 x3 x4 h) fun r1 h2 => bnd2 (F_X9_atMost N x2 x3 (x4 - 1) h2) fun r3 h4 => bnd2 (F_X9_put N 22 h4) fun r5 h6 => bnd2 (F_X9_put N 23 h6) fun r7 h8 => F_X9_comparison_85 N x1 h8
def F_X9_comparison_82 (N : Nat) (x1 : Int32) (s3 : Int32) (s2 : Int32) (s1 : Int32) (h : xHp) : Option (Unit × xHp) := bnd2 (F_X9_atMost N s1 s2 s3 h) fun r1 h2 => F_X9_comparison_85 N x1 h2
def F_X9_comparison_18 (N : Nat) (x1 : Int32) (x2 : Int32) (x3 : Int32) (x4 : Int32) (s0 : Int32) (h : xHp) : Option (Unit × xHp) := if x1 = 61 then F_X9_comparison_32 N x1 x2 x3 x4 h else if x1 = 35 then F_X9_comparison_32 N x1 x2 x3 x4 h else if s0 = 0 then F_X9_comparison_82 N x1 x4 x3 x2 h else F_X9_comparison_82 N x1 (x4 - 1) x3 x2 h
def F_X9_comparison_13 (N : Nat) (x1 : Int32) (x2 : Int32) (x3 : Int32) (x4 : Int32) (h : xHp) : Option (Unit × xHp) := F_X9_comparison_18 N x1 x2 x3 x4 1 h
def F_X9_comparison (N : Nat) (p1 : Int32) (p2 : Int32) (p3 : Int32) (p4 : Int32) (h : xHp) : Option (Unit × xHp) := if p1 = 60 then F_X9_comparison_13 N p1 p2 p3 p4 h else if p1 = 162 then F_X9_comparison_13 N p1 p2 p3 p4 h else F_X9_comparison_18 N p1 p2 p3 p4 0 h
set_option maxHeartbeats 4000000 in
set_option maxRecDepth 100000 in
theorem T_X9_comparison_104 {G : xG} {p : Program} {l : Launch} {e : Env} {s : State} {m : MethodId} {args : Array Value} {below : List Frame} {meth : Method} {c : Code} {N : Nat} (C : xC G p s m args meth c cX9_comparison 6 vX9_comparison RX9) (hr : meth.sig.returnType = none) (h : xHp) : J_X9_comparison G p l e s m args below meth c 104 [(0, .ref (xad G 51))] [] h (F_X9_comparison_104 N h) := by
  unfold F_X9_comparison_104
  refine x_aload_n C dX9_comparison_104 rfl 0 rfl ?_
  refine x_bipush (v := 22) C dX9_comparison_105 (by decide) ?_
  refine x_callVv C dX9_comparison_107 (M_X9_put G l N 22 h) (cwV 1 C.2.2.2.2.1 (gdV gWM qM_110 qM_111 qM_112 qM_9 qM_97) rfl rfl rfl (by decide +kernel) ⟨Nat.le_of_ble_eq_true rfl, Nat.le_of_ble_eq_true rfl⟩) (xc_51 G h) (by decide) rfl rfl rfl (Nat.le_of_ble_eq_true rfl) (fun r1 h2 => ?_)
  exact x_vret C dX9_comparison_110 hr
set_option maxHeartbeats 4000000 in
set_option maxRecDepth 100000 in
theorem T_X9_comparison_85 {G : xG} {p : Program} {l : Launch} {e : Env} {s : State} {m : MethodId} {args : Array Value} {below : List Frame} {meth : Method} {c : Code} {N : Nat} (C : xC G p s m args meth c cX9_comparison 6 vX9_comparison RX9) (hr : meth.sig.returnType = none) (x1 : Int32) (h : xHp) : J_X9_comparison G p l e s m args below meth c 85 [(0, .ref (xad G 51)), (1, .int x1)] [] h (F_X9_comparison_85 N x1 h) := by
  unfold F_X9_comparison_85
  refine x_iload_n C dX9_comparison_85 rfl 1 rfl ?_
  refine x_bipush (v := 35) C dX9_comparison_86 (by decide) ?_
  refine x_icmp_eq (tgt := 104) C dX9_comparison_88 (by decide) ?_ ?_
  · exact x_sub [0] rfl (T_X9_comparison_104 C hr h)
  · refine x_iload_n C dX9_comparison_91 rfl 1 rfl ?_
    refine x_sipush (v := 162) C dX9_comparison_92 (by decide) ?_
    refine x_icmp_eq (tgt := 104) C dX9_comparison_95 (by decide) ?_ ?_
    · exact x_sub [0] rfl (T_X9_comparison_104 C hr h)
    · refine x_iload_n C dX9_comparison_98 rfl 1 rfl ?_
      refine x_bipush (v := 62) C dX9_comparison_99 (by decide) ?_
      refine x_icmp_ne (tgt := 110) C dX9_comparison_101 (by decide) ?_ ?_
      · exact x_sub [0] rfl (T_X9_comparison_104 C hr h)
      · exact x_vret C dX9_comparison_110 hr
set_option maxHeartbeats 4000000 in
set_option maxRecDepth 100000 in
theorem T_X9_comparison_32 {G : xG} {p : Program} {l : Launch} {e : Env} {s : State} {m : MethodId} {args : Array Value} {below : List Frame} {meth : Method} {c : Code} {N : Nat} (C : xC G p s m args meth c cX9_comparison 6 vX9_comparison RX9) (hr : meth.sig.returnType = none) (x1 : Int32) (x2 : Int32) (x3 : Int32) (x4 : Int32) (h : xHp) : J_X9_comparison G p l e s m args below meth c 32 [(0, .ref (xad G 51)), (1, .int x1), (2, .int x2), (3, .int x3), (4, .int x4)] [] h (F_X9_comparison_32 N x1 x2 x3 x4 h) := by
  unfold F_X9_comparison_32
  refine x_aload_n C dX9_comparison_32 rfl 0 rfl ?_
  refine x_iload_n C dX9_comparison_33 rfl 2 rfl ?_
  refine x_iload_n C dX9_comparison_34 rfl 3 rfl ?_
  refine x_iload C dX9_comparison_35 4 rfl ?_
  refine x_callVv C dX9_comparison_37 (M_X9_atMost G l N x2 x3 x4 h) (cwV 3 C.2.2.2.2.1 (gdV gWM qM_114 qM_115 qM_116 qM_9 qM_105) rfl rfl rfl (by decide +kernel) ⟨Nat.le_of_ble_eq_true rfl, Nat.le_of_ble_eq_true rfl⟩) (xc_51 G h) (by decide) rfl rfl rfl (Nat.le_of_ble_eq_true rfl) (fun r1 h2 => ?_)
  refine x_aload_n C dX9_comparison_40 rfl 0 rfl ?_
  refine x_iload_n C dX9_comparison_41 rfl 2 rfl ?_
  refine x_iload_n C dX9_comparison_42 rfl 3 rfl ?_
  refine x_iload C dX9_comparison_43 4 rfl ?_
  refine x_iconst (v := 1) C dX9_comparison_45 (by decide) ?_
  refine x_isub C dX9_comparison_46 ?_
  refine x_callVv C dX9_comparison_47 (M_X9_atMost G l N x2 x3 (x4 - 1) h2) (cwV 3 C.2.2.2.2.1 (gdV gWM qM_114 qM_115 qM_116 qM_9 qM_105) rfl rfl rfl (by decide +kernel) ⟨Nat.le_of_ble_eq_true rfl, Nat.le_of_ble_eq_true rfl⟩) (xc_51 G h2) (by decide) rfl rfl rfl (Nat.le_of_ble_eq_true rfl) (fun r3 h4 => ?_)
  refine x_aload_n C dX9_comparison_50 rfl 0 rfl ?_
  refine x_bipush (v := 22) C dX9_comparison_51 (by decide) ?_
  refine x_callVv C dX9_comparison_53 (M_X9_put G l N 22 h4) (cwV 1 C.2.2.2.2.1 (gdV gWM qM_110 qM_111 qM_112 qM_9 qM_97) rfl rfl rfl (by decide +kernel) ⟨Nat.le_of_ble_eq_true rfl, Nat.le_of_ble_eq_true rfl⟩) (xc_51 G h4) (by decide) rfl rfl rfl (Nat.le_of_ble_eq_true rfl) (fun r5 h6 => ?_)
  refine x_aload_n C dX9_comparison_56 rfl 0 rfl ?_
  refine x_bipush (v := 23) C dX9_comparison_57 (by decide) ?_
  refine x_callVv C dX9_comparison_59 (M_X9_put G l N 23 h6) (cwV 1 C.2.2.2.2.1 (gdV gWM qM_110 qM_111 qM_112 qM_9 qM_97) rfl rfl rfl (by decide +kernel) ⟨Nat.le_of_ble_eq_true rfl, Nat.le_of_ble_eq_true rfl⟩) (xc_51 G h6) (by decide) rfl rfl rfl (Nat.le_of_ble_eq_true rfl) (fun r7 h8 => ?_)
  refine x_goto (tgt := 85) C dX9_comparison_62 (by decide) ?_
  exact x_sub [0, 1] rfl (T_X9_comparison_85 C hr x1 h8)
set_option maxHeartbeats 4000000 in
set_option maxRecDepth 100000 in
theorem T_X9_comparison_82 {G : xG} {p : Program} {l : Launch} {e : Env} {s : State} {m : MethodId} {args : Array Value} {below : List Frame} {meth : Method} {c : Code} {N : Nat} (C : xC G p s m args meth c cX9_comparison 6 vX9_comparison RX9) (hr : meth.sig.returnType = none) (x1 : Int32) (s3 : Int32) (s2 : Int32) (s1 : Int32) (h : xHp) : J_X9_comparison G p l e s m args below meth c 82 [(0, .ref (xad G 51)), (1, .int x1)] [.int s3, .int s2, .int s1, .ref (xad G 51)] h (F_X9_comparison_82 N x1 s3 s2 s1 h) := by
  unfold F_X9_comparison_82
  refine x_callVv C dX9_comparison_82 (M_X9_atMost G l N s1 s2 s3 h) (cwV 3 C.2.2.2.2.1 (gdV gWM qM_114 qM_115 qM_116 qM_9 qM_105) rfl rfl rfl (by decide +kernel) ⟨Nat.le_of_ble_eq_true rfl, Nat.le_of_ble_eq_true rfl⟩) (xc_51 G h) (by decide) rfl rfl rfl (Nat.le_of_ble_eq_true rfl) (fun r1 h2 => ?_)
  exact x_sub [0, 1] rfl (T_X9_comparison_85 C hr x1 h2)
set_option maxHeartbeats 4000000 in
set_option maxRecDepth 100000 in
theorem T_X9_comparison_18 {G : xG} {p : Program} {l : Launch} {e : Env} {s : State} {m : MethodId} {args : Array Value} {below : List Frame} {meth : Method} {c : Code} {N : Nat} (C : xC G p s m args meth c cX9_comparison 6 vX9_comparison RX9) (hr : meth.sig.returnType = none) (x1 : Int32) (x2 : Int32) (x3 : Int32) (x4 : Int32) (s0 : Int32) (h : xHp) : J_X9_comparison G p l e s m args below meth c 18 [(0, .ref (xad G 51)), (1, .int x1), (2, .int x2), (3, .int x3), (4, .int x4)] [.int s0] h (F_X9_comparison_18 N x1 x2 x3 x4 s0 h) := by
  unfold F_X9_comparison_18
  refine x_istore (lv' := [(5, .int s0), (0, .ref (xad G 51)), (1, .int x1), (2, .int x2), (3, .int x3), (4, .int x4)]) C dX9_comparison_18 (by decide) rfl ?_
  refine x_iload_n C dX9_comparison_20 rfl 2 rfl ?_
  refine x_bipush (v := 61) C dX9_comparison_21 (by decide) ?_
  refine x_icmp_eq (tgt := 32) C dX9_comparison_23 (by decide) ?_ ?_
  · exact x_sub [1, 2, 3, 4, 5] rfl (T_X9_comparison_32 C hr x1 x2 x3 x4 h)
  · refine x_iload_n C dX9_comparison_26 rfl 2 rfl ?_
    refine x_bipush (v := 35) C dX9_comparison_27 (by decide) ?_
    refine x_icmp_ne (tgt := 65) C dX9_comparison_29 (by decide) ?_ ?_
    · exact x_sub [1, 2, 3, 4, 5] rfl (T_X9_comparison_32 C hr x1 x2 x3 x4 h)
    · refine x_aload_n C dX9_comparison_65 rfl 1 rfl ?_
      refine x_iload_n C dX9_comparison_66 rfl 3 rfl ?_
      refine x_iload_n C dX9_comparison_67 rfl 4 rfl ?_
      refine x_iload C dX9_comparison_68 0 rfl ?_
      refine x_if_eq (tgt := 80) C dX9_comparison_70 (by decide) ?_ ?_
      · refine x_iload C dX9_comparison_80 5 rfl ?_
        exact x_sub [1, 2] rfl (T_X9_comparison_82 C hr x1 x4 x3 x2 h)
      · refine x_iload C dX9_comparison_73 5 rfl ?_
        refine x_iconst (v := 1) C dX9_comparison_75 (by decide) ?_
        refine x_isub C dX9_comparison_76 ?_
        refine x_goto (tgt := 82) C dX9_comparison_77 (by decide) ?_
        exact x_sub [1, 2] rfl (T_X9_comparison_82 C hr x1 (x4 - 1) x3 x2 h)
set_option maxHeartbeats 4000000 in
set_option maxRecDepth 100000 in
theorem T_X9_comparison_13 {G : xG} {p : Program} {l : Launch} {e : Env} {s : State} {m : MethodId} {args : Array Value} {below : List Frame} {meth : Method} {c : Code} {N : Nat} (C : xC G p s m args meth c cX9_comparison 6 vX9_comparison RX9) (hr : meth.sig.returnType = none) (x1 : Int32) (x2 : Int32) (x3 : Int32) (x4 : Int32) (h : xHp) : J_X9_comparison G p l e s m args below meth c 13 [(0, .ref (xad G 51)), (1, .int x1), (2, .int x2), (3, .int x3), (4, .int x4)] [] h (F_X9_comparison_13 N x1 x2 x3 x4 h) := by
  unfold F_X9_comparison_13
  refine x_iconst (v := 1) C dX9_comparison_13 (by decide) ?_
  refine x_goto (tgt := 18) C dX9_comparison_14 (by decide) ?_
  exact x_sub [0, 1, 2, 3, 4] rfl (T_X9_comparison_18 C hr x1 x2 x3 x4 1 h)
set_option maxHeartbeats 4000000 in
set_option maxRecDepth 100000 in
theorem M_X9_comparison (G : xG) (l : Launch) (N : Nat) (p1 : Int32) (p2 : Int32) (p3 : Int32) (p4 : Int32) (h : xHp) : ∀ r, F_X9_comparison N p1 p2 p3 p4 h = some r → Met l yX9_comparison vX9_comparison ({ frames := 2, cells := 0, slots := 0, locals := 49 } : Room) (xPc G [.ref (xad G 51), .int p1, .int p2, .int p3, .int p4] h) (xQv G r) 0 0 (xA G) := by
  refine x_met (own := RX9) (cc := cX9_comparison) (maxL := 6) (ret := none) (lv0 := [(0, .ref (xad G 51)), (1, .int p1), (2, .int p2), (3, .int p3), (4, .int p4)]) (by decide +kernel) rfl rfl (Nat.le_of_ble_eq_true rfl) rfl ?_
  intro p e s m below meth c C hr
  unfold F_X9_comparison
  refine x_iload_n C dX9_comparison_0 rfl 1 rfl ?_
  refine x_bipush (v := 60) C dX9_comparison_1 (by decide) ?_
  refine x_icmp_eq (tgt := 13) C dX9_comparison_3 (by decide) ?_ ?_
  · exact x_sub [0, 1, 2, 3, 4] rfl (T_X9_comparison_13 C hr p1 p2 p3 p4 h)
  · refine x_iload_n C dX9_comparison_6 rfl 1 rfl ?_
    refine x_sipush (v := 162) C dX9_comparison_7 (by decide) ?_
    refine x_icmp_ne (tgt := 17) C dX9_comparison_10 (by decide) ?_ ?_
    · exact x_sub [0, 1, 2, 3, 4] rfl (T_X9_comparison_13 C hr p1 p2 p3 p4 h)
    · refine x_iconst (v := 0) C dX9_comparison_17 (by decide) ?_
      exact x_sub [0, 1, 2, 3, 4] rfl (T_X9_comparison_18 C hr p1 p2 p3 p4 0 h)
/-! X9_difference: 127 instructions -/
abbrev J_X9_difference (G : xG) (p : Program) (l : Launch) (e : Env) (s : State) (m : MethodId) (args : Array Value) (below : List Frame) (meth : Method) (c : Code) : Nat → List (Nat × Value) → List Value → xHp → Option (Unit × xHp) → Prop := xJ G p l e ({ frames := 3, cells := 0, slots := 0, locals := 74 } : Room) s m args below meth c 6 (fun res => MQ below (xQv G res) args s 0 0 (xA G))
def F_X9_difference_239 (N : Nat) (s4 : Int32) (s3 : Int32) (s2 : Int32) (s1 : Int32) (h : xHp) : Option (Unit × xHp) := bnd2 (F_X9_comparison N s1 s2 s3 s4 h) fun r1 h2 => if (gI h2 51 21) = 0 then bnd2 (F_X9_next N h2) fun r3 h4 => some ((), h4) else some ((), h2)
def F_X9_difference_210 (N : Nat) (x1 : Int32) (x2 : Int32) (x3 : Int32) (x5 : Int32) (h : xHp) : Option (Unit × xHp) := if (gI h 51 21) ≤ 0 then if x5 = 0 then F_X9_difference_239 N (gI h 51 17) x2 x1 x3 h else F_X9_difference_239 N (-(gI h 51 17)) x2 x1 x3 h else some ((), h)
def F_X9_difference_190 (N : Nat) (x1 : Int32) (x2 : Int32) (x3 : Int32) (x5 : Int32) (h : xHp) : Option (Unit × xHp) := if (gI h 51 21) = 0 then if (gI h 51 16) = 2 then F_X9_difference_210 N x1 x2 x3 x5 h else bnd2 (F_X9_fail N 2 h) fun r1 h2 => F_X9_difference_210 N x1 x2 x3 x5 h2 else F_X9_difference_210 N x1 x2 x3 x5 h
def F_X9_difference_179 (N : Nat) (x1 : Int32) (x2 : Int32) (x3 : Int32) (s0 : Int32) (h : xHp) : Option (Unit × xHp) := if s0 = 0 then F_X9_difference_190 N x1 x2 x3 s0 h else bnd2 (F_X9_next N h) fun r1 h2 => F_X9_difference_190 N x1 x2 x3 s0 h2
def F_X9_difference_178 (N : Nat) (x1 : Int32) (x2 : Int32) (x3 : Int32) (h : xHp) : Option (Unit × xHp) := F_X9_difference_179 N x1 x2 x3 0 h
def F_X9_difference_146 (N : Nat) (x1 : Int32) (x2 : Int32) (x3 : Int32) (h : xHp) : Option (Unit × xHp) := if (gI h 51 21) ≤ 0 then bnd2 (F_X9_next N h) fun r1 h2 => if (gI h2 51 21) = 0 then bnd2 (F_X9_sign N 45 h2) fun r3 h4 => if r3 = 0 then F_X9_difference_178 N x1 x2 x3 h4 else F_X9_difference_179 N x1 x2 x3 1 h4 else F_X9_difference_178 N x1 x2 x3 h2 else some ((), h)
def F_X9_difference_127 (N : Nat) (x1 : Int32) (x2 : Int32) (x3 : Int32) (s0 : Int32) (h : xHp) : Option (Unit × xHp) := if (gI h 51 21) = 0 then if s0 = 0 then bnd2 (F_X9_fail N 2 h) fun r1 h2 => F_X9_difference_146 N x1 x2 x3 h2 else F_X9_difference_146 N x1 x2 x3 h else F_X9_difference_146 N x1 x2 x3 h
def F_X9_difference_122 (N : Nat) (x1 : Int32) (x2 : Int32) (x3 : Int32) (h : xHp) : Option (Unit × xHp) := F_X9_difference_127 N x1 x2 x3 1 h
def F_X9_difference_83 (N : Nat) (x1 : Int32) (x2 : Int32) (s0 : Int32) (h : xHp) : Option (Unit × xHp) := if s0 = 60 then F_X9_difference_122 N x1 x2 s0 h else if s0 = 160 then F_X9_difference_122 N x1 x2 s0 h else if s0 = 62 then F_X9_difference_122 N x1 x2 s0 h else if s0 = 162 then F_X9_difference_122 N x1 x2 s0 h else if s0 = 61 then F_X9_difference_122 N x1 x2 s0 h else if s0 = 35 then F_X9_difference_122 N x1 x2 s0 h else F_X9_difference_127 N x1 x2 s0 0 h
def F_X9_difference_67 (N : Nat) (x1 : Int32) (x2 : Int32) (h : xHp) : Option (Unit × xHp) := if (gI h 51 16) = 3 then F_X9_difference_83 N x1 x2 (gI h 51 17) h else F_X9_difference_83 N x1 x2 0 h
def F_X9_difference_51 (N : Nat) (x1 : Int32) (h : xHp) : Option (Unit × xHp) := if (gI h 51 21) = 0 then bnd2 (F_X9_next N h) fun r1 h2 => F_X9_difference_67 N x1 (gI h 51 17) h2 else F_X9_difference_67 N x1 (gI h 51 17) h
def F_X9_difference (N : Nat) (h : xHp) : Option (Unit × xHp) := bnd2 (F_X9_next N h) fun r1 h2 => if (gI h2 51 21) = 0 then bnd2 (F_X9_sign N 45 h2) fun r3 h4 => if r3 = 0 then F_X9_difference_67 N (gI h 51 17) 0 h4 else bnd2 (F_X9_next N h4) fun r5 h6 => if (gI h6 51 21) = 0 then if (gI h6 51 16) = 1 then F_X9_difference_51 N (gI h 51 17) h6 else bnd2 (F_X9_fail N 2 h6) fun r7 h8 => F_X9_difference_51 N (gI h 51 17) h8 else F_X9_difference_51 N (gI h 51 17) h6 else F_X9_difference_67 N (gI h 51 17) 0 h2
set_option maxHeartbeats 4000000 in
set_option maxRecDepth 100000 in
theorem T_X9_difference_239 {G : xG} {p : Program} {l : Launch} {e : Env} {s : State} {m : MethodId} {args : Array Value} {below : List Frame} {meth : Method} {c : Code} {N : Nat} (C : xC G p s m args meth c cX9_difference 6 vX9_difference RX9) (hr : meth.sig.returnType = none) (s4 : Int32) (s3 : Int32) (s2 : Int32) (s1 : Int32) (h : xHp) : J_X9_difference G p l e s m args below meth c 239 [(0, .ref (xad G 51))] [.int s4, .int s3, .int s2, .int s1, .ref (xad G 51)] h (F_X9_difference_239 N s4 s3 s2 s1 h) := by
  unfold F_X9_difference_239
  refine x_callVv C dX9_difference_239 (M_X9_comparison G l N s1 s2 s3 s4 h) (cwV 4 C.2.2.2.2.1 (gdV gWM qM_123 qM_124 qM_125 qM_9 qM_113) rfl rfl rfl (by decide +kernel) ⟨Nat.le_of_ble_eq_true rfl, Nat.le_of_ble_eq_true rfl⟩) (xc_51 G h) (by decide) rfl rfl rfl (Nat.le_of_ble_eq_true rfl) (fun r1 h2 => ?_)
  refine x_aload_n C dX9_difference_242 rfl 0 rfl ?_
  refine x_get (v := .int (gI h2 51 21)) C 21 dX9_difference_243 (xc_51 G h2) rfl (by decide) rfl (fun w h => List.mem_cons_of_mem _ (iWM_X9 w h)) (by decide) rfl (C.2.2.2.2.1 _ (List.mem_cons_of_mem _ qM_73)) ?_
  refine x_if_ne (tgt := 253) C dX9_difference_246 (by decide) ?_ ?_
  · refine x_aload_n C dX9_difference_249 rfl 0 rfl ?_
    refine x_callVv C dX9_difference_250 (M_X9_next G l N h2) (cwV 0 C.2.2.2.2.1 (gdV gWM qM_117 qM_118 qM_119 qM_9 qM_95) rfl rfl rfl (by decide +kernel) ⟨Nat.le_of_ble_eq_true rfl, Nat.le_of_ble_eq_true rfl⟩) (xc_51 G h2) (by decide) rfl rfl rfl (Nat.le_of_ble_eq_true rfl) (fun r3 h4 => ?_)
    exact x_vret C dX9_difference_253 hr
  · exact x_vret C dX9_difference_253 hr
set_option maxHeartbeats 4000000 in
set_option maxRecDepth 100000 in
theorem T_X9_difference_210 {G : xG} {p : Program} {l : Launch} {e : Env} {s : State} {m : MethodId} {args : Array Value} {below : List Frame} {meth : Method} {c : Code} {N : Nat} (C : xC G p s m args meth c cX9_difference 6 vX9_difference RX9) (hr : meth.sig.returnType = none) (x1 : Int32) (x2 : Int32) (x3 : Int32) (x5 : Int32) (h : xHp) : J_X9_difference G p l e s m args below meth c 210 [(0, .ref (xad G 51)), (1, .int x1), (2, .int x2), (3, .int x3), (5, .int x5)] [] h (F_X9_difference_210 N x1 x2 x3 x5 h) := by
  unfold F_X9_difference_210
  refine x_aload_n C dX9_difference_210 rfl 0 rfl ?_
  refine x_get (v := .int (gI h 51 21)) C 21 dX9_difference_211 (xc_51 G h) rfl (by decide) rfl (fun w h => List.mem_cons_of_mem _ (iWM_X9 w h)) (by decide) rfl (C.2.2.2.2.1 _ (List.mem_cons_of_mem _ qM_73)) ?_
  refine x_if_le (tgt := 218) C dX9_difference_214 (by decide) ?_ ?_
  · refine x_aload_n C dX9_difference_218 rfl 0 rfl ?_
    refine x_iload_n C dX9_difference_219 rfl 3 rfl ?_
    refine x_iload_n C dX9_difference_220 rfl 1 rfl ?_
    refine x_iload_n C dX9_difference_221 rfl 2 rfl ?_
    refine x_iload C dX9_difference_222 4 rfl ?_
    refine x_if_eq (tgt := 235) C dX9_difference_224 (by decide) ?_ ?_
    · refine x_aload_n C dX9_difference_235 rfl 0 rfl ?_
      refine x_get (v := .int (gI h 51 17)) C 17 dX9_difference_236 (xc_51 G h) rfl (by decide) rfl (fun w h => List.mem_cons_of_mem _ (iWM_X9 w h)) (by decide) rfl (C.2.2.2.2.1 _ (List.mem_cons_of_mem _ qM_80)) ?_
      exact x_sub [0] rfl (T_X9_difference_239 C hr (gI h 51 17) x2 x1 x3 h)
    · refine x_aload_n C dX9_difference_227 rfl 0 rfl ?_
      refine x_get (v := .int (gI h 51 17)) C 17 dX9_difference_228 (xc_51 G h) rfl (by decide) rfl (fun w h => List.mem_cons_of_mem _ (iWM_X9 w h)) (by decide) rfl (C.2.2.2.2.1 _ (List.mem_cons_of_mem _ qM_80)) ?_
      refine x_ineg C dX9_difference_231 ?_
      refine x_goto (tgt := 239) C dX9_difference_232 (by decide) ?_
      exact x_sub [0] rfl (T_X9_difference_239 C hr (-(gI h 51 17)) x2 x1 x3 h)
  · exact x_vret C dX9_difference_217 hr
set_option maxHeartbeats 4000000 in
set_option maxRecDepth 100000 in
theorem T_X9_difference_190 {G : xG} {p : Program} {l : Launch} {e : Env} {s : State} {m : MethodId} {args : Array Value} {below : List Frame} {meth : Method} {c : Code} {N : Nat} (C : xC G p s m args meth c cX9_difference 6 vX9_difference RX9) (hr : meth.sig.returnType = none) (x1 : Int32) (x2 : Int32) (x3 : Int32) (x5 : Int32) (h : xHp) : J_X9_difference G p l e s m args below meth c 190 [(0, .ref (xad G 51)), (1, .int x1), (2, .int x2), (3, .int x3), (5, .int x5)] [] h (F_X9_difference_190 N x1 x2 x3 x5 h) := by
  unfold F_X9_difference_190
  refine x_aload_n C dX9_difference_190 rfl 0 rfl ?_
  refine x_get (v := .int (gI h 51 21)) C 21 dX9_difference_191 (xc_51 G h) rfl (by decide) rfl (fun w h => List.mem_cons_of_mem _ (iWM_X9 w h)) (by decide) rfl (C.2.2.2.2.1 _ (List.mem_cons_of_mem _ qM_73)) ?_
  refine x_if_ne (tgt := 210) C dX9_difference_194 (by decide) ?_ ?_
  · refine x_aload_n C dX9_difference_197 rfl 0 rfl ?_
    refine x_get (v := .int (gI h 51 16)) C 16 dX9_difference_198 (xc_51 G h) rfl (by decide) rfl (fun w h => List.mem_cons_of_mem _ (iWM_X9 w h)) (by decide) rfl (C.2.2.2.2.1 _ (List.mem_cons_of_mem _ qM_79)) ?_
    refine x_iconst (v := 2) C dX9_difference_201 (by decide) ?_
    refine x_icmp_eq (tgt := 210) C dX9_difference_202 (by decide) ?_ ?_
    · exact x_sub [0, 1, 2, 3, 4] rfl (T_X9_difference_210 C hr x1 x2 x3 x5 h)
    · refine x_aload_n C dX9_difference_205 rfl 0 rfl ?_
      refine x_iconst (v := 2) C dX9_difference_206 (by decide) ?_
      refine x_callVv C dX9_difference_207 (M_X9_fail G l N 2 h) (cwV 1 C.2.2.2.2.1 (gdV gWM qM_85 qM_86 qM_87 qM_9 qM_72) rfl rfl rfl (by decide +kernel) ⟨Nat.le_of_ble_eq_true rfl, Nat.le_of_ble_eq_true rfl⟩) (xc_51 G h) (by decide) rfl rfl rfl (Nat.le_of_ble_eq_true rfl) (fun r1 h2 => ?_)
      exact x_sub [0, 1, 2, 3, 4] rfl (T_X9_difference_210 C hr x1 x2 x3 x5 h2)
  · exact x_sub [0, 1, 2, 3, 4] rfl (T_X9_difference_210 C hr x1 x2 x3 x5 h)
set_option maxHeartbeats 4000000 in
set_option maxRecDepth 100000 in
theorem T_X9_difference_179 {G : xG} {p : Program} {l : Launch} {e : Env} {s : State} {m : MethodId} {args : Array Value} {below : List Frame} {meth : Method} {c : Code} {N : Nat} (C : xC G p s m args meth c cX9_difference 6 vX9_difference RX9) (hr : meth.sig.returnType = none) (x1 : Int32) (x2 : Int32) (x3 : Int32) (s0 : Int32) (h : xHp) : J_X9_difference G p l e s m args below meth c 179 [(0, .ref (xad G 51)), (1, .int x1), (2, .int x2), (3, .int x3)] [.int s0] h (F_X9_difference_179 N x1 x2 x3 s0 h) := by
  unfold F_X9_difference_179
  refine x_istore (lv' := [(5, .int s0), (0, .ref (xad G 51)), (1, .int x1), (2, .int x2), (3, .int x3)]) C dX9_difference_179 (by decide) rfl ?_
  refine x_iload C dX9_difference_181 0 rfl ?_
  refine x_if_eq (tgt := 190) C dX9_difference_183 (by decide) ?_ ?_
  · exact x_sub [1, 2, 3, 4, 0] rfl (T_X9_difference_190 C hr x1 x2 x3 s0 h)
  · refine x_aload_n C dX9_difference_186 rfl 1 rfl ?_
    refine x_callVv C dX9_difference_187 (M_X9_next G l N h) (cwV 0 C.2.2.2.2.1 (gdV gWM qM_117 qM_118 qM_119 qM_9 qM_95) rfl rfl rfl (by decide +kernel) ⟨Nat.le_of_ble_eq_true rfl, Nat.le_of_ble_eq_true rfl⟩) (xc_51 G h) (by decide) rfl rfl rfl (Nat.le_of_ble_eq_true rfl) (fun r1 h2 => ?_)
    exact x_sub [1, 2, 3, 4, 0] rfl (T_X9_difference_190 C hr x1 x2 x3 s0 h2)
set_option maxHeartbeats 4000000 in
set_option maxRecDepth 100000 in
theorem T_X9_difference_178 {G : xG} {p : Program} {l : Launch} {e : Env} {s : State} {m : MethodId} {args : Array Value} {below : List Frame} {meth : Method} {c : Code} {N : Nat} (C : xC G p s m args meth c cX9_difference 6 vX9_difference RX9) (hr : meth.sig.returnType = none) (x1 : Int32) (x2 : Int32) (x3 : Int32) (h : xHp) : J_X9_difference G p l e s m args below meth c 178 [(0, .ref (xad G 51)), (1, .int x1), (2, .int x2), (3, .int x3)] [] h (F_X9_difference_178 N x1 x2 x3 h) := by
  unfold F_X9_difference_178
  refine x_iconst (v := 0) C dX9_difference_178 (by decide) ?_
  exact x_sub [0, 1, 2, 3] rfl (T_X9_difference_179 C hr x1 x2 x3 0 h)
set_option maxHeartbeats 4000000 in
set_option maxRecDepth 100000 in
theorem T_X9_difference_146 {G : xG} {p : Program} {l : Launch} {e : Env} {s : State} {m : MethodId} {args : Array Value} {below : List Frame} {meth : Method} {c : Code} {N : Nat} (C : xC G p s m args meth c cX9_difference 6 vX9_difference RX9) (hr : meth.sig.returnType = none) (x1 : Int32) (x2 : Int32) (x3 : Int32) (h : xHp) : J_X9_difference G p l e s m args below meth c 146 [(0, .ref (xad G 51)), (1, .int x1), (2, .int x2), (3, .int x3)] [] h (F_X9_difference_146 N x1 x2 x3 h) := by
  unfold F_X9_difference_146
  refine x_aload_n C dX9_difference_146 rfl 0 rfl ?_
  refine x_get (v := .int (gI h 51 21)) C 21 dX9_difference_147 (xc_51 G h) rfl (by decide) rfl (fun w h => List.mem_cons_of_mem _ (iWM_X9 w h)) (by decide) rfl (C.2.2.2.2.1 _ (List.mem_cons_of_mem _ qM_73)) ?_
  refine x_if_le (tgt := 154) C dX9_difference_150 (by decide) ?_ ?_
  · refine x_aload_n C dX9_difference_154 rfl 0 rfl ?_
    refine x_callVv C dX9_difference_155 (M_X9_next G l N h) (cwV 0 C.2.2.2.2.1 (gdV gWM qM_117 qM_118 qM_119 qM_9 qM_95) rfl rfl rfl (by decide +kernel) ⟨Nat.le_of_ble_eq_true rfl, Nat.le_of_ble_eq_true rfl⟩) (xc_51 G h) (by decide) rfl rfl rfl (Nat.le_of_ble_eq_true rfl) (fun r1 h2 => ?_)
    refine x_aload_n C dX9_difference_158 rfl 0 rfl ?_
    refine x_get (v := .int (gI h2 51 21)) C 21 dX9_difference_159 (xc_51 G h2) rfl (by decide) rfl (fun w h => List.mem_cons_of_mem _ (iWM_X9 w h)) (by decide) rfl (C.2.2.2.2.1 _ (List.mem_cons_of_mem _ qM_73)) ?_
    refine x_if_ne (tgt := 178) C dX9_difference_162 (by decide) ?_ ?_
    · refine x_aload_n C dX9_difference_165 rfl 0 rfl ?_
      refine x_bipush (v := 45) C dX9_difference_166 (by decide) ?_
      refine x_callVi C dX9_difference_168 (M_X9_sign G l N 45 h2) (cwV 1 C.2.2.2.2.1 (gdV gWM qM_120 qM_121 qM_122 qM_9 qM_96) rfl rfl rfl (by decide +kernel) ⟨Nat.le_of_ble_eq_true rfl, Nat.le_of_ble_eq_true rfl⟩) (xc_51 G h2) (by decide) rfl rfl rfl (Nat.le_of_ble_eq_true rfl) (fun r3 h4 => ?_)
      refine x_if_eq (tgt := 178) C dX9_difference_171 (by decide) ?_ ?_
      · exact x_sub [0, 1, 2, 3] rfl (T_X9_difference_178 C hr x1 x2 x3 h4)
      · refine x_iconst (v := 1) C dX9_difference_174 (by decide) ?_
        refine x_goto (tgt := 179) C dX9_difference_175 (by decide) ?_
        exact x_sub [0, 1, 2, 3] rfl (T_X9_difference_179 C hr x1 x2 x3 1 h4)
    · exact x_sub [0, 1, 2, 3] rfl (T_X9_difference_178 C hr x1 x2 x3 h2)
  · exact x_vret C dX9_difference_153 hr
set_option maxHeartbeats 4000000 in
set_option maxRecDepth 100000 in
theorem T_X9_difference_127 {G : xG} {p : Program} {l : Launch} {e : Env} {s : State} {m : MethodId} {args : Array Value} {below : List Frame} {meth : Method} {c : Code} {N : Nat} (C : xC G p s m args meth c cX9_difference 6 vX9_difference RX9) (hr : meth.sig.returnType = none) (x1 : Int32) (x2 : Int32) (x3 : Int32) (s0 : Int32) (h : xHp) : J_X9_difference G p l e s m args below meth c 127 [(0, .ref (xad G 51)), (1, .int x1), (2, .int x2), (3, .int x3)] [.int s0] h (F_X9_difference_127 N x1 x2 x3 s0 h) := by
  unfold F_X9_difference_127
  refine x_istore (lv' := [(4, .int s0), (0, .ref (xad G 51)), (1, .int x1), (2, .int x2), (3, .int x3)]) C dX9_difference_127 (by decide) rfl ?_
  refine x_aload_n C dX9_difference_129 rfl 1 rfl ?_
  refine x_get (v := .int (gI h 51 21)) C 21 dX9_difference_130 (xc_51 G h) rfl (by decide) rfl (fun w h => List.mem_cons_of_mem _ (iWM_X9 w h)) (by decide) rfl (C.2.2.2.2.1 _ (List.mem_cons_of_mem _ qM_73)) ?_
  refine x_if_ne (tgt := 146) C dX9_difference_133 (by decide) ?_ ?_
  · refine x_iload C dX9_difference_136 0 rfl ?_
    refine x_if_ne (tgt := 146) C dX9_difference_138 (by decide) ?_ ?_
    · refine x_aload_n C dX9_difference_141 rfl 1 rfl ?_
      refine x_iconst (v := 2) C dX9_difference_142 (by decide) ?_
      refine x_callVv C dX9_difference_143 (M_X9_fail G l N 2 h) (cwV 1 C.2.2.2.2.1 (gdV gWM qM_85 qM_86 qM_87 qM_9 qM_72) rfl rfl rfl (by decide +kernel) ⟨Nat.le_of_ble_eq_true rfl, Nat.le_of_ble_eq_true rfl⟩) (xc_51 G h) (by decide) rfl rfl rfl (Nat.le_of_ble_eq_true rfl) (fun r1 h2 => ?_)
      exact x_sub [1, 2, 3, 4] rfl (T_X9_difference_146 C hr x1 x2 x3 h2)
    · exact x_sub [1, 2, 3, 4] rfl (T_X9_difference_146 C hr x1 x2 x3 h)
  · exact x_sub [1, 2, 3, 4] rfl (T_X9_difference_146 C hr x1 x2 x3 h)
set_option maxHeartbeats 4000000 in
set_option maxRecDepth 100000 in
theorem T_X9_difference_122 {G : xG} {p : Program} {l : Launch} {e : Env} {s : State} {m : MethodId} {args : Array Value} {below : List Frame} {meth : Method} {c : Code} {N : Nat} (C : xC G p s m args meth c cX9_difference 6 vX9_difference RX9) (hr : meth.sig.returnType = none) (x1 : Int32) (x2 : Int32) (x3 : Int32) (h : xHp) : J_X9_difference G p l e s m args below meth c 122 [(0, .ref (xad G 51)), (1, .int x1), (2, .int x2), (3, .int x3)] [] h (F_X9_difference_122 N x1 x2 x3 h) := by
  unfold F_X9_difference_122
  refine x_iconst (v := 1) C dX9_difference_122 (by decide) ?_
  refine x_goto (tgt := 127) C dX9_difference_123 (by decide) ?_
  exact x_sub [0, 1, 2, 3] rfl (T_X9_difference_127 C hr x1 x2 x3 1 h)
set_option maxHeartbeats 4000000 in
set_option maxRecDepth 100000 in
theorem T_X9_difference_83 {G : xG} {p : Program} {l : Launch} {e : Env} {s : State} {m : MethodId} {args : Array Value} {below : List Frame} {meth : Method} {c : Code} {N : Nat} (C : xC G p s m args meth c cX9_difference 6 vX9_difference RX9) (hr : meth.sig.returnType = none) (x1 : Int32) (x2 : Int32) (s0 : Int32) (h : xHp) : J_X9_difference G p l e s m args below meth c 83 [(0, .ref (xad G 51)), (1, .int x1), (2, .int x2)] [.int s0] h (F_X9_difference_83 N x1 x2 s0 h) := by
  unfold F_X9_difference_83
  refine x_istore_n (lv' := [(3, .int s0), (0, .ref (xad G 51)), (1, .int x1), (2, .int x2)]) C dX9_difference_83 rfl (by decide) rfl ?_
  refine x_iload_n C dX9_difference_84 rfl 0 rfl ?_
  refine x_bipush (v := 60) C dX9_difference_85 (by decide) ?_
  refine x_icmp_eq (tgt := 122) C dX9_difference_87 (by decide) ?_ ?_
  · exact x_sub [1, 2, 3, 0] rfl (T_X9_difference_122 C hr x1 x2 s0 h)
  · refine x_iload_n C dX9_difference_90 rfl 0 rfl ?_
    refine x_sipush (v := 160) C dX9_difference_91 (by decide) ?_
    refine x_icmp_eq (tgt := 122) C dX9_difference_94 (by decide) ?_ ?_
    · exact x_sub [1, 2, 3, 0] rfl (T_X9_difference_122 C hr x1 x2 s0 h)
    · refine x_iload_n C dX9_difference_97 rfl 0 rfl ?_
      refine x_bipush (v := 62) C dX9_difference_98 (by decide) ?_
      refine x_icmp_eq (tgt := 122) C dX9_difference_100 (by decide) ?_ ?_
      · exact x_sub [1, 2, 3, 0] rfl (T_X9_difference_122 C hr x1 x2 s0 h)
      · refine x_iload_n C dX9_difference_103 rfl 0 rfl ?_
        refine x_sipush (v := 162) C dX9_difference_104 (by decide) ?_
        refine x_icmp_eq (tgt := 122) C dX9_difference_107 (by decide) ?_ ?_
        · exact x_sub [1, 2, 3, 0] rfl (T_X9_difference_122 C hr x1 x2 s0 h)
        · refine x_iload_n C dX9_difference_110 rfl 0 rfl ?_
          refine x_bipush (v := 61) C dX9_difference_111 (by decide) ?_
          refine x_icmp_eq (tgt := 122) C dX9_difference_113 (by decide) ?_ ?_
          · exact x_sub [1, 2, 3, 0] rfl (T_X9_difference_122 C hr x1 x2 s0 h)
          · refine x_iload_n C dX9_difference_116 rfl 0 rfl ?_
            refine x_bipush (v := 35) C dX9_difference_117 (by decide) ?_
            refine x_icmp_ne (tgt := 126) C dX9_difference_119 (by decide) ?_ ?_
            · exact x_sub [1, 2, 3, 0] rfl (T_X9_difference_122 C hr x1 x2 s0 h)
            · refine x_iconst (v := 0) C dX9_difference_126 (by decide) ?_
              exact x_sub [1, 2, 3, 0] rfl (T_X9_difference_127 C hr x1 x2 s0 0 h)
set_option maxHeartbeats 4000000 in
set_option maxRecDepth 100000 in
theorem T_X9_difference_67 {G : xG} {p : Program} {l : Launch} {e : Env} {s : State} {m : MethodId} {args : Array Value} {below : List Frame} {meth : Method} {c : Code} {N : Nat} (C : xC G p s m args meth c cX9_difference 6 vX9_difference RX9) (hr : meth.sig.returnType = none) (x1 : Int32) (x2 : Int32) (h : xHp) : J_X9_difference G p l e s m args below meth c 67 [(0, .ref (xad G 51)), (1, .int x1), (2, .int x2)] [] h (F_X9_difference_67 N x1 x2 h) := by
  unfold F_X9_difference_67
  refine x_aload_n C dX9_difference_67 rfl 0 rfl ?_
  refine x_get (v := .int (gI h 51 16)) C 16 dX9_difference_68 (xc_51 G h) rfl (by decide) rfl (fun w h => List.mem_cons_of_mem _ (iWM_X9 w h)) (by decide) rfl (C.2.2.2.2.1 _ (List.mem_cons_of_mem _ qM_79)) ?_
  refine x_iconst (v := 3) C dX9_difference_71 (by decide) ?_
  refine x_icmp_ne (tgt := 82) C dX9_difference_72 (by decide) ?_ ?_
  · refine x_aload_n C dX9_difference_75 rfl 0 rfl ?_
    refine x_get (v := .int (gI h 51 17)) C 17 dX9_difference_76 (xc_51 G h) rfl (by decide) rfl (fun w h => List.mem_cons_of_mem _ (iWM_X9 w h)) (by decide) rfl (C.2.2.2.2.1 _ (List.mem_cons_of_mem _ qM_80)) ?_
    refine x_goto (tgt := 83) C dX9_difference_79 (by decide) ?_
    exact x_sub [0, 1, 2] rfl (T_X9_difference_83 C hr x1 x2 (gI h 51 17) h)
  · refine x_iconst (v := 0) C dX9_difference_82 (by decide) ?_
    exact x_sub [0, 1, 2] rfl (T_X9_difference_83 C hr x1 x2 0 h)
set_option maxHeartbeats 4000000 in
set_option maxRecDepth 100000 in
theorem T_X9_difference_51 {G : xG} {p : Program} {l : Launch} {e : Env} {s : State} {m : MethodId} {args : Array Value} {below : List Frame} {meth : Method} {c : Code} {N : Nat} (C : xC G p s m args meth c cX9_difference 6 vX9_difference RX9) (hr : meth.sig.returnType = none) (x1 : Int32) (h : xHp) : J_X9_difference G p l e s m args below meth c 51 [(0, .ref (xad G 51)), (1, .int x1)] [] h (F_X9_difference_51 N x1 h) := by
  unfold F_X9_difference_51
  refine x_aload_n C dX9_difference_51 rfl 0 rfl ?_
  refine x_get (v := .int (gI h 51 17)) C 17 dX9_difference_52 (xc_51 G h) rfl (by decide) rfl (fun w h => List.mem_cons_of_mem _ (iWM_X9 w h)) (by decide) rfl (C.2.2.2.2.1 _ (List.mem_cons_of_mem _ qM_80)) ?_
  refine x_istore_n (lv' := [(2, .int (gI h 51 17)), (0, .ref (xad G 51)), (1, .int x1)]) C dX9_difference_55 rfl (by decide) rfl ?_
  refine x_aload_n C dX9_difference_56 rfl 1 rfl ?_
  refine x_get (v := .int (gI h 51 21)) C 21 dX9_difference_57 (xc_51 G h) rfl (by decide) rfl (fun w h => List.mem_cons_of_mem _ (iWM_X9 w h)) (by decide) rfl (C.2.2.2.2.1 _ (List.mem_cons_of_mem _ qM_73)) ?_
  refine x_if_ne (tgt := 67) C dX9_difference_60 (by decide) ?_ ?_
  · refine x_aload_n C dX9_difference_63 rfl 1 rfl ?_
    refine x_callVv C dX9_difference_64 (M_X9_next G l N h) (cwV 0 C.2.2.2.2.1 (gdV gWM qM_117 qM_118 qM_119 qM_9 qM_95) rfl rfl rfl (by decide +kernel) ⟨Nat.le_of_ble_eq_true rfl, Nat.le_of_ble_eq_true rfl⟩) (xc_51 G h) (by decide) rfl rfl rfl (Nat.le_of_ble_eq_true rfl) (fun r1 h2 => ?_)
    exact x_sub [1, 2, 0] rfl (T_X9_difference_67 C hr x1 (gI h 51 17) h2)
  · exact x_sub [1, 2, 0] rfl (T_X9_difference_67 C hr x1 (gI h 51 17) h)
set_option maxHeartbeats 4000000 in
set_option maxRecDepth 100000 in
theorem M_X9_difference (G : xG) (l : Launch) (N : Nat) (h : xHp) : ∀ r, F_X9_difference N h = some r → Met l yX9_difference vX9_difference ({ frames := 3, cells := 0, slots := 0, locals := 74 } : Room) (xPc G [.ref (xad G 51)] h) (xQv G r) 0 0 (xA G) := by
  refine x_met (own := RX9) (cc := cX9_difference) (maxL := 6) (ret := none) (lv0 := [(0, .ref (xad G 51))]) (by decide +kernel) rfl rfl (Nat.le_of_ble_eq_true rfl) rfl ?_
  intro p e s m below meth c C hr
  unfold F_X9_difference
  refine x_aload_n C dX9_difference_0 rfl 0 rfl ?_
  refine x_get (v := .int (gI h 51 17)) C 17 dX9_difference_1 (xc_51 G h) rfl (by decide) rfl (fun w h => List.mem_cons_of_mem _ (iWM_X9 w h)) (by decide) rfl (C.2.2.2.2.1 _ (List.mem_cons_of_mem _ qM_80)) ?_
  refine x_istore_n (lv' := [(1, .int (gI h 51 17)), (0, .ref (xad G 51))]) C dX9_difference_4 rfl (by decide) rfl ?_
  refine x_iconst (v := 0) C dX9_difference_5 (by decide) ?_
  refine x_istore_n (lv' := [(2, .int 0), (1, .int (gI h 51 17)), (0, .ref (xad G 51))]) C dX9_difference_6 rfl (by decide) rfl ?_
  refine x_aload_n C dX9_difference_7 rfl 2 rfl ?_
  refine x_callVv C dX9_difference_8 (M_X9_next G l N h) (cwV 0 C.2.2.2.2.1 (gdV gWM qM_117 qM_118 qM_119 qM_9 qM_95) rfl rfl rfl (by decide +kernel) ⟨Nat.le_of_ble_eq_true rfl, Nat.le_of_ble_eq_true rfl⟩) (xc_51 G h) (by decide) rfl rfl rfl (Nat.le_of_ble_eq_true rfl) (fun r1 h2 => ?_)
  refine x_aload_n C dX9_difference_11 rfl 2 rfl ?_
  refine x_get (v := .int (gI h2 51 21)) C 21 dX9_difference_12 (xc_51 G h2) rfl (by decide) rfl (fun w h => List.mem_cons_of_mem _ (iWM_X9 w h)) (by decide) rfl (C.2.2.2.2.1 _ (List.mem_cons_of_mem _ qM_73)) ?_
  refine x_if_ne (tgt := 67) C dX9_difference_15 (by decide) ?_ ?_
  · refine x_aload_n C dX9_difference_18 rfl 2 rfl ?_
    refine x_bipush (v := 45) C dX9_difference_19 (by decide) ?_
    refine x_callVi C dX9_difference_21 (M_X9_sign G l N 45 h2) (cwV 1 C.2.2.2.2.1 (gdV gWM qM_120 qM_121 qM_122 qM_9 qM_96) rfl rfl rfl (by decide +kernel) ⟨Nat.le_of_ble_eq_true rfl, Nat.le_of_ble_eq_true rfl⟩) (xc_51 G h2) (by decide) rfl rfl rfl (Nat.le_of_ble_eq_true rfl) (fun r3 h4 => ?_)
    refine x_if_eq (tgt := 67) C dX9_difference_24 (by decide) ?_ ?_
    · exact x_sub [2, 1, 0] rfl (T_X9_difference_67 C hr (gI h 51 17) 0 h4)
    · refine x_aload_n C dX9_difference_27 rfl 2 rfl ?_
      refine x_callVv C dX9_difference_28 (M_X9_next G l N h4) (cwV 0 C.2.2.2.2.1 (gdV gWM qM_117 qM_118 qM_119 qM_9 qM_95) rfl rfl rfl (by decide +kernel) ⟨Nat.le_of_ble_eq_true rfl, Nat.le_of_ble_eq_true rfl⟩) (xc_51 G h4) (by decide) rfl rfl rfl (Nat.le_of_ble_eq_true rfl) (fun r5 h6 => ?_)
      refine x_aload_n C dX9_difference_31 rfl 2 rfl ?_
      refine x_get (v := .int (gI h6 51 21)) C 21 dX9_difference_32 (xc_51 G h6) rfl (by decide) rfl (fun w h => List.mem_cons_of_mem _ (iWM_X9 w h)) (by decide) rfl (C.2.2.2.2.1 _ (List.mem_cons_of_mem _ qM_73)) ?_
      refine x_if_ne (tgt := 51) C dX9_difference_35 (by decide) ?_ ?_
      · refine x_aload_n C dX9_difference_38 rfl 2 rfl ?_
        refine x_get (v := .int (gI h6 51 16)) C 16 dX9_difference_39 (xc_51 G h6) rfl (by decide) rfl (fun w h => List.mem_cons_of_mem _ (iWM_X9 w h)) (by decide) rfl (C.2.2.2.2.1 _ (List.mem_cons_of_mem _ qM_79)) ?_
        refine x_iconst (v := 1) C dX9_difference_42 (by decide) ?_
        refine x_icmp_eq (tgt := 51) C dX9_difference_43 (by decide) ?_ ?_
        · exact x_sub [2, 1] rfl (T_X9_difference_51 C hr (gI h 51 17) h6)
        · refine x_aload_n C dX9_difference_46 rfl 2 rfl ?_
          refine x_iconst (v := 2) C dX9_difference_47 (by decide) ?_
          refine x_callVv C dX9_difference_48 (M_X9_fail G l N 2 h6) (cwV 1 C.2.2.2.2.1 (gdV gWM qM_85 qM_86 qM_87 qM_9 qM_72) rfl rfl rfl (by decide +kernel) ⟨Nat.le_of_ble_eq_true rfl, Nat.le_of_ble_eq_true rfl⟩) (xc_51 G h6) (by decide) rfl rfl rfl (Nat.le_of_ble_eq_true rfl) (fun r7 h8 => ?_)
          exact x_sub [2, 1] rfl (T_X9_difference_51 C hr (gI h 51 17) h8)
      · exact x_sub [2, 1] rfl (T_X9_difference_51 C hr (gI h 51 17) h6)
  · exact x_sub [2, 1, 0] rfl (T_X9_difference_67 C hr (gI h 51 17) 0 h2)
