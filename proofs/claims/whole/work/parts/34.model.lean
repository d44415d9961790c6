/-! X9_check: 70 instructions -/
abbrev J_X9_check (G : xG) (p : Program) (l : Launch) (e : Env) (s : State) (m : MethodId) (args : Array Value) (below : List Frame) (meth : Method) (c : Code) : Nat → List (Nat × Value) → List Value → xHp → Option (Int32 × xHp) → Prop := xJ G p l e ({ frames := 5, cells := 0, slots := 0, locals := 118 } : Room) s m args below meth c 3 (fun res => MQ below (xQi G res) args s 0 0 (xA G))
def F_X9_check_69 (N : Nat) (k37 : Int32 → Int32 → xHp → Option (Int32 × xHp)) (x1 : Int32) (x2 : Int32) (s2 : Int32) (s1 : Int32) (h : xHp) : Option (Int32 × xHp) := grd (xin s1 6001) (bnd (sI h 74 s1.toNatClampNeg s2) fun h1 => k37 x1 (x2 + 1) h1)
def F_X9_check_110 (N : Nat) (s1 : Int32) (h : xHp) : Option (Int32 × xHp) := bnd (sI h 51 21 s1) fun h1 => if (gI h1 51 47) = (-1) then some (0, h1) else some (((-1) - (gI h1 51 47)), h1)
def F_X9_check_89 (N : Nat) (s1 : Int32) (h : xHp) : Option (Int32 × xHp) := bnd (sI h 51 15 s1) fun h1 => bnd2 (F_X9_goThrough N h1) fun r2 h3 => if (gI h3 51 47) = (-1) then F_X9_check_110 N 0 h3 else F_X9_check_110 N 1 h3
def F_X9_check_37_b (N : Nat) (k37 : Int32 → Int32 → xHp → Option (Int32 × xHp)) (x1 : Int32) (x2 : Int32) (h : xHp) : Option (Int32 × xHp) := if (gI h 51 45) ≤ x2 then if x1 = 0 then F_X9_check_89 N (gI h 51 15) h else F_X9_check_89 N 0 h else if x1 = 0 then grd (xin x2 6001) (F_X9_check_69 N k37 x1 x2 (gI h 73 x2.toNatClampNeg) x2 h) else grd (xin x2 400) (F_X9_check_69 N k37 x1 x2 (gI h 61 x2.toNatClampNeg) x2 h)
def F_X9_check_37 (N : Nat) (x1 : Int32) (x2 : Int32) (h : xHp) : Option (Int32 × xHp) := xit (F_X9_check_37_b N) (fun _ _ _ => none) N x1 x2 h
def F_X9_check_32 (N : Nat) (x1 : Int32) (s1 : Int32) (h : xHp) : Option (Int32 × xHp) := bnd (sI h 51 45 s1) fun h1 => F_X9_check_37 N x1 0 h1
def F_X9_check (N : Nat) (p1 : Int32) (h : xHp) : Option (Int32 × xHp) := bnd (sI h 51 0 0) fun h1 => if (gI h1 51 23) = 0 then some ((-20000), h1) else if p1 = 0 then F_X9_check_32 N p1 (gI h1 51 43) h1 else F_X9_check_32 N p1 (gI h1 51 15) h1
set_option maxHeartbeats 4000000 in
set_option maxRecDepth 100000 in
theorem T_X9_check_69 {G : xG} {p : Program} {l : Launch} {e : Env} {s : State} {m : MethodId} {args : Array Value} {below : List Frame} {meth : Method} {c : Code} {N : Nat} (C : xC G p s m args meth c cX9_check 3 vX9_check RX9) (hr : meth.sig.returnType = (some .int)) {k37 : Int32 → Int32 → xHp → Option (Int32 × xHp)} (hk37 : ∀ (x1 : Int32) (x2 : Int32) (h : xHp), J_X9_check G p l e s m args below meth c 37 [(0, .ref (xad G 51)), (1, .int x1), (2, .int x2)] [] h (k37 x1 x2 h)) (x1 : Int32) (x2 : Int32) (s2 : Int32) (s1 : Int32) (h : xHp) : J_X9_check G p l e s m args below meth c 69 [(0, .ref (xad G 51)), (1, .int x1), (2, .int x2)] [.int s2, .int s1, .ref (xad G 74)] h (F_X9_check_69 N k37 x1 x2 s2 s1 h) := by
  unfold F_X9_check_69
  refine x_iast (n := 6001) C dX9_check_69 (fun g => xp_74 G g _ _) (by decide) (fun h1 => ?_)
  refine x_iinc (v := (x2 + 1)) (j := 2) (lv' := [(2, .int (x2 + 1)), (0, .ref (xad G 51)), (1, .int x1)]) C dX9_check_70 rfl (by rfl) (by decide) rfl ?_
  refine x_goto (tgt := 37) C dX9_check_73 (by decide) ?_
  exact x_sub [1, 2, 0] rfl (hk37 x1 (x2 + 1) h1)
set_option maxHeartbeats 4000000 in
set_option maxRecDepth 100000 in
theorem T_X9_check_110 {G : xG} {p : Program} {l : Launch} {e : Env} {s : State} {m : MethodId} {args : Array Value} {below : List Frame} {meth : Method} {c : Code} {N : Nat} (C : xC G p s m args meth c cX9_check 3 vX9_check RX9) (hr : meth.sig.returnType = (some .int)) (s1 : Int32) (h : xHp) : J_X9_check G p l e s m args below meth c 110 [(0, .ref (xad G 51))] [.int s1, .ref (xad G 51)] h (F_X9_check_110 N s1 h) := by
  unfold F_X9_check_110
  refine x_putI (ty0 := tyX9) (ty := .int) C 21 dX9_check_110 (xc_51 G h) rfl (Nat.le_of_ble_eq_true rfl) (by decide) rfl (fun w h => List.mem_cons_of_mem _ (iWM_X9 w h)) tyX9_ok nmX9 (by decide) rfl rfl (by decide +kernel) rfl rfl (C.2.2.2.2.1 _ (List.mem_cons_of_mem _ qM_73)) (fun h1 => ?_)
  refine x_aload_n C dX9_check_113 rfl 0 rfl ?_
  refine x_get (v := .int (gI h1 51 47)) C 47 dX9_check_114 (xc_51 G h1) rfl (by decide) rfl (fun w h => List.mem_cons_of_mem _ (iWM_X9 w h)) (by decide) rfl (C.2.2.2.2.1 _ (List.mem_cons_of_mem _ qM_218)) ?_
  refine x_iconst (v := (-1)) C dX9_check_117 (by decide) ?_
  refine x_icmp_ne (tgt := 125) C dX9_check_118 (by decide) ?_ ?_
  · refine x_iconst (v := 0) C dX9_check_121 (by decide) ?_
    refine x_goto (tgt := 131) C dX9_check_122 (by decide) ?_
    exact x_iret C dX9_check_131 hr
  · refine x_iconst (v := (-1)) C dX9_check_125 (by decide) ?_
    refine x_aload_n C dX9_check_126 rfl 0 rfl ?_
    refine x_get (v := .int (gI h1 51 47)) C 47 dX9_check_127 (xc_51 G h1) rfl (by decide) rfl (fun w h => List.mem_cons_of_mem _ (iWM_X9 w h)) (by decide) rfl (C.2.2.2.2.1 _ (List.mem_cons_of_mem _ qM_218)) ?_
    refine x_isub C dX9_check_130 ?_
    exact x_iret C dX9_check_131 hr
set_option maxHeartbeats 4000000 in
set_option maxRecDepth 100000 in
theorem T_X9_check_89 {G : xG} {p : Program} {l : Launch} {e : Env} {s : State} {m : MethodId} {args : Array Value} {below : List Frame} {meth : Method} {c : Code} {N : Nat} (C : xC G p s m args meth c cX9_check 3 vX9_check RX9) (hr : meth.sig.returnType = (some .int)) (s1 : Int32) (h : xHp) : J_X9_check G p l e s m args below meth c 89 [(0, .ref (xad G 51))] [.int s1, .ref (xad G 51)] h (F_X9_check_89 N s1 h) := by
  unfold F_X9_check_89
  refine x_putI (ty0 := tyX9) (ty := .int) C 15 dX9_check_89 (xc_51 G h) rfl (Nat.le_of_ble_eq_true rfl) (by decide) rfl (fun w h => List.mem_cons_of_mem _ (iWM_X9 w h)) tyX9_ok nmX9 (by decide) rfl rfl (by decide +kernel) rfl rfl (C.2.2.2.2.1 _ (List.mem_cons_of_mem _ qM_69)) (fun h1 => ?_)
  refine x_aload_n C dX9_check_92 rfl 0 rfl ?_
  refine x_callVv C dX9_check_93 (M_X9_goThrough G l N h1) (cwV 0 C.2.2.2.2.1 (gdV gWM qM_247 qM_248 qM_249 qM_9 qM_246) rfl rfl rfl (by decide +kernel) ⟨Nat.le_of_ble_eq_true rfl, Nat.le_of_ble_eq_true rfl⟩) (xc_51 G h1) (by decide) rfl rfl rfl (Nat.le_of_ble_eq_true rfl) (fun r2 h3 => ?_)
  refine x_aload_n C dX9_check_96 rfl 0 rfl ?_
  refine x_aload_n C dX9_check_97 rfl 0 rfl ?_
  refine x_get (v := .int (gI h3 51 47)) C 47 dX9_check_98 (xc_51 G h3) rfl (by decide) rfl (fun w h => List.mem_cons_of_mem _ (iWM_X9 w h)) (by decide) rfl (C.2.2.2.2.1 _ (List.mem_cons_of_mem _ qM_218)) ?_
  refine x_iconst (v := (-1)) C dX9_check_101 (by decide) ?_
  refine x_icmp_ne (tgt := 109) C dX9_check_102 (by decide) ?_ ?_
  · refine x_iconst (v := 0) C dX9_check_105 (by decide) ?_
    refine x_goto (tgt := 110) C dX9_check_106 (by decide) ?_
    exact x_sub [0] rfl (T_X9_check_110 C hr 0 h3)
  · refine x_iconst (v := 1) C dX9_check_109 (by decide) ?_
    exact x_sub [0] rfl (T_X9_check_110 C hr 1 h3)
set_option maxHeartbeats 4000000 in
set_option maxRecDepth 100000 in
theorem T_X9_check_37_b {G : xG} {p : Program} {l : Launch} {e : Env} {s : State} {m : MethodId} {args : Array Value} {below : List Frame} {meth : Method} {c : Code} {N : Nat} (C : xC G p s m args meth c cX9_check 3 vX9_check RX9) (hr : meth.sig.returnType = (some .int)) {k37 : Int32 → Int32 → xHp → Option (Int32 × xHp)} (hk37 : ∀ (x1 : Int32) (x2 : Int32) (h : xHp), J_X9_check G p l e s m args below meth c 37 [(0, .ref (xad G 51)), (1, .int x1), (2, .int x2)] [] h (k37 x1 x2 h)) (x1 : Int32) (x2 : Int32) (h : xHp) : J_X9_check G p l e s m args below meth c 37 [(0, .ref (xad G 51)), (1, .int x1), (2, .int x2)] [] h (F_X9_check_37_b N k37 x1 x2 h) := by
  unfold F_X9_check_37_b
  refine x_iload_n C dX9_check_37 rfl 2 rfl ?_
  refine x_aload_n C dX9_check_38 rfl 0 rfl ?_
  refine x_get (v := .int (gI h 51 45)) C 45 dX9_check_39 (xc_51 G h) rfl (by decide) rfl (fun w h => List.mem_cons_of_mem _ (iWM_X9 w h)) (by decide) rfl (C.2.2.2.2.1 _ (List.mem_cons_of_mem _ qM_215)) ?_
  refine x_icmp_ge (tgt := 76) C dX9_check_42 (by decide) ?_ ?_
  · refine x_aload_n C dX9_check_76 rfl 0 rfl ?_
    refine x_iload_n C dX9_check_77 rfl 1 rfl ?_
    refine x_if_eq (tgt := 85) C dX9_check_78 (by decide) ?_ ?_
    · refine x_aload_n C dX9_check_85 rfl 0 rfl ?_
      refine x_get (v := .int (gI h 51 15)) C 15 dX9_check_86 (xc_51 G h) rfl (by decide) rfl (fun w h => List.mem_cons_of_mem _ (iWM_X9 w h)) (by decide) rfl (C.2.2.2.2.1 _ (List.mem_cons_of_mem _ qM_69)) ?_
      exact x_sub [0] rfl (T_X9_check_89 C hr (gI h 51 15) h)
    · refine x_iconst (v := 0) C dX9_check_81 (by decide) ?_
      refine x_goto (tgt := 89) C dX9_check_82 (by decide) ?_
      exact x_sub [0] rfl (T_X9_check_89 C hr 0 h)
  · refine x_aload_n C dX9_check_45 rfl 0 rfl ?_
    refine x_get (v := .ref (xad G 74)) C 44 dX9_check_46 (xc_51 G h) rfl (by decide) rfl (fun w h => List.mem_cons_of_mem _ (iWM_X9 w h)) (by decide) rfl (C.2.2.2.2.1 _ (List.mem_cons_of_mem _ qM_216)) ?_
    refine x_iload_n C dX9_check_49 rfl 2 rfl ?_
    refine x_iload_n C dX9_check_50 rfl 1 rfl ?_
    refine x_if_eq (tgt := 63) C dX9_check_51 (by decide) ?_ ?_
    · refine x_aload_n C dX9_check_63 rfl 0 rfl ?_
      refine x_get (v := .ref (xad G 73)) C 42 dX9_check_64 (xc_51 G h) rfl (by decide) rfl (fun w h => List.mem_cons_of_mem _ (iWM_X9 w h)) (by decide) rfl (C.2.2.2.2.1 _ (List.mem_cons_of_mem _ qM_188)) ?_
      refine x_iload_n C dX9_check_67 rfl 2 rfl ?_
      refine x_iald (n := 6001) C dX9_check_68 (xc_73 G h) (by decide) ?_
      exact x_sub [0, 1, 2] rfl (T_X9_check_69 C hr hk37 x1 x2 (gI h 73 x2.toNatClampNeg) x2 h)
    · refine x_aload_n C dX9_check_54 rfl 0 rfl ?_
      refine x_get (v := .ref (xad G 61)) C 14 dX9_check_55 (xc_51 G h) rfl (by decide) rfl (fun w h => List.mem_cons_of_mem _ (iWM_X9 w h)) (by decide) rfl (C.2.2.2.2.1 _ (List.mem_cons_of_mem _ qM_70)) ?_
      refine x_iload_n C dX9_check_58 rfl 2 rfl ?_
      refine x_iald (n := 400) C dX9_check_59 (xc_61 G h) (by decide) ?_
      refine x_goto (tgt := 69) C dX9_check_60 (by decide) ?_
      exact x_sub [0, 1, 2] rfl (T_X9_check_69 C hr hk37 x1 x2 (gI h 61 x2.toNatClampNeg) x2 h)
set_option maxHeartbeats 4000000 in
set_option maxRecDepth 100000 in
theorem T_X9_check_37_n {G : xG} {p : Program} {l : Launch} {e : Env} {s : State} {m : MethodId} {args : Array Value} {below : List Frame} {meth : Method} {c : Code} {N : Nat} (C : xC G p s m args meth c cX9_check 3 vX9_check RX9) (hr : meth.sig.returnType = (some .int)) : ∀ (n : Nat) (x1 : Int32) (x2 : Int32) (h : xHp), J_X9_check G p l e s m args below meth c 37 [(0, .ref (xad G 51)), (1, .int x1), (2, .int x2)] [] h (xit (F_X9_check_37_b N) (fun _ _ _ => none) n x1 x2 h) := by
  intro n
  induction n with
  | zero => intros; exact x_none
  | succ n ih => intros; exact T_X9_check_37_b C hr ih _ _ _
set_option maxHeartbeats 4000000 in
set_option maxRecDepth 100000 in
theorem T_X9_check_37 {G : xG} {p : Program} {l : Launch} {e : Env} {s : State} {m : MethodId} {args : Array Value} {below : List Frame} {meth : Method} {c : Code} {N : Nat} (C : xC G p s m args meth c cX9_check 3 vX9_check RX9) (hr : meth.sig.returnType = (some .int)) (x1 : Int32) (x2 : Int32) (h : xHp) : J_X9_check G p l e s m args below meth c 37 [(0, .ref (xad G 51)), (1, .int x1), (2, .int x2)] [] h (F_X9_check_37 N x1 x2 h) := T_X9_check_37_n C hr N x1 x2 h
set_option maxHeartbeats 4000000 in
set_option maxRecDepth 100000 in
theorem T_X9_check_32 {G : xG} {p : Program} {l : Launch} {e : Env} {s : State} {m : MethodId} {args : Array Value} {below : List Frame} {meth : Method} {c : Code} {N : Nat} (C : xC G p s m args meth c cX9_check 3 vX9_check RX9) (hr : meth.sig.returnType = (some .int)) (x1 : Int32) (s1 : Int32) (h : xHp) : J_X9_check G p l e s m args below meth c 32 [(0, .ref (xad G 51)), (1, .int x1)] [.int s1, .ref (xad G 51)] h (F_X9_check_32 N x1 s1 h) := by
  unfold F_X9_check_32
  refine x_putI (ty0 := tyX9) (ty := .int) C 45 dX9_check_32 (xc_51 G h) rfl (Nat.le_of_ble_eq_true rfl) (by decide) rfl (fun w h => List.mem_cons_of_mem _ (iWM_X9 w h)) tyX9_ok nmX9 (by decide) rfl rfl (by decide +kernel) rfl rfl (C.2.2.2.2.1 _ (List.mem_cons_of_mem _ qM_215)) (fun h1 => ?_)
  refine x_iconst (v := 0) C dX9_check_35 (by decide) ?_
  refine x_istore_n (lv' := [(2, .int 0), (0, .ref (xad G 51)), (1, .int x1)]) C dX9_check_36 rfl (by decide) rfl ?_
  exact x_sub [1, 2, 0] rfl (T_X9_check_37 C hr x1 0 h1)
set_option maxHeartbeats 4000000 in
set_option maxRecDepth 100000 in
theorem M_X9_check (G : xG) (l : Launch) (N : Nat) (p1 : Int32) (h : xHp) : ∀ r, F_X9_check N p1 h = some r → Met l yX9_check vX9_check ({ frames := 5, cells := 0, slots := 0, locals := 118 } : Room) (xPc G [.ref (xad G 51), .int p1] h) (xQi G r) 0 0 (xA G) := by
  refine x_met (own := RX9) (cc := cX9_check) (maxL := 3) (ret := (some .int)) (lv0 := [(0, .ref (xad G 51)), (1, .int p1)]) (by decide +kernel) rfl rfl (Nat.le_of_ble_eq_true rfl) rfl ?_
  intro p e s m below meth c C hr
  unfold F_X9_check
  refine x_aload_n C dX9_check_0 rfl 0 rfl ?_
  refine x_iconst (v := 0) C dX9_check_1 (by decide) ?_
  refine x_putI (ty0 := tyX9) (ty := .int) C 0 dX9_check_2 (xc_51 G h) rfl (Nat.le_of_ble_eq_true rfl) (by decide) rfl (fun w h => List.mem_cons_of_mem _ (iWM_X9 w h)) tyX9_ok nmX9 (by decide) rfl rfl (by decide +kernel) rfl rfl (C.2.2.2.2.1 _ (List.mem_cons_of_mem _ qM_2)) (fun h1 => ?_)
  refine x_aload_n C dX9_check_5 rfl 0 rfl ?_
  refine x_get (v := .int (gI h1 51 23)) C 23 dX9_check_6 (xc_51 G h1) rfl (by decide) rfl (fun w h => List.mem_cons_of_mem _ (iWM_X9 w h)) (by decide) rfl (C.2.2.2.2.1 _ (List.mem_cons_of_mem _ qM_147)) ?_
  refine x_if_ne (tgt := 16) C dX9_check_9 (by decide) ?_ ?_
  · refine x_sipush (v := (-20000)) C dX9_check_12 (by decide) ?_
    exact x_iret C dX9_check_15 hr
  · refine x_aload_n C dX9_check_16 rfl 0 rfl ?_
    refine x_iload_n C dX9_check_17 rfl 1 rfl ?_
    refine x_if_eq (tgt := 28) C dX9_check_18 (by decide) ?_ ?_
    · refine x_aload_n C dX9_check_28 rfl 0 rfl ?_
      refine x_get (v := .int (gI h1 51 43)) C 43 dX9_check_29 (xc_51 G h1) rfl (by decide) rfl (fun w h => List.mem_cons_of_mem _ (iWM_X9 w h)) (by decide) rfl (C.2.2.2.2.1 _ (List.mem_cons_of_mem _ qM_187)) ?_
      exact x_sub [0, 1] rfl (T_X9_check_32 C hr p1 (gI h1 51 43) h1)
    · refine x_aload_n C dX9_check_21 rfl 0 rfl ?_
      refine x_get (v := .int (gI h1 51 15)) C 15 dX9_check_22 (xc_51 G h1) rfl (by decide) rfl (fun w h => List.mem_cons_of_mem _ (iWM_X9 w h)) (by decide) rfl (C.2.2.2.2.1 _ (List.mem_cons_of_mem _ qM_69)) ?_
      refine x_goto (tgt := 32) C dX9_check_25 (by decide) ?_
      exact x_sub [0, 1] rfl (T_X9_check_32 C hr p1 (gI h1 51 15) h1)
/-! X9_told: 54 instructions -/
abbrev J_X9_told (G : xG) (p : Program) (l : Launch) (e : Env) (s : State) (m : MethodId) (args : Array Value) (below : List Frame) (meth : Method) (c : Code) : Nat → List (Nat × Value) → List Value → xHp → Option (Int32 × xHp) → Prop := xJ G p l e ({ frames := 1, cells := 0, slots := 0, locals := 25 } : Room) s m args below meth c 2 (fun res => MQ below (xQi G res) args s 0 0 (xA G))
def F_X9_told (N : Nat) (p1 : Int32) (h : xHp) : Option (Int32 × xHp) := bnd2 (F_X9_isIn N (p1.toInt64) 0 6 h) fun r1 h2 => bnd2 (F_X9_may N r1 1 1 h2) fun r3 h4 => if r3 = 0 then some (0, h4) else if p1 = 0 then some ((gI h4 51 1), h4) else if p1 = 1 then some ((gI h4 51 6), h4) else if p1 = 2 then some ((gI h4 51 8), h4) else if p1 = 3 then some ((gI h4 51 24), h4) else if p1 = 4 then some ((gI h4 51 15), h4) else if p1 = 5 then some ((gI h4 51 43), h4) else if (gI h4 51 23) = 0 then some (0, h4) else some (1, h4)
set_option maxHeartbeats 4000000 in
set_option maxRecDepth 100000 in
theorem M_X9_told (G : xG) (l : Launch) (N : Nat) (p1 : Int32) (h : xHp) : ∀ r, F_X9_told N p1 h = some r → Met l yX9_told vX9_told ({ frames := 1, cells := 0, slots := 0, locals := 25 } : Room) (xPc G [.ref (xad G 51), .int p1] h) (xQi G r) 0 0 (xA G) := by
  refine x_met (own := RX9) (cc := cX9_told) (maxL := 2) (ret := (some .int)) (lv0 := [(0, .ref (xad G 51)), (1, .int p1)]) (by decide +kernel) rfl rfl (Nat.le_of_ble_eq_true rfl) rfl ?_
  intro p e s m below meth c C hr
  unfold F_X9_told
  refine x_aload_n C dX9_told_0 rfl 0 rfl ?_
  refine x_iload_n C dX9_told_1 rfl 1 rfl ?_
  refine x_i2l C dX9_told_2 ?_
  refine x_lconst (v := 0) C dX9_told_3 (by decide) ?_
  refine x_ldc2 (v := 6) C dX9_told_4 (C.2.2.2.2.1 _ (List.mem_cons_of_mem _ qM_252)) ?_
  refine x_callSi C dX9_told_7 (M_X9_isIn G l N (p1.toInt64) 0 6 h) (va_cwS 3 C.2.2.2.2.1 (gdS gWM qM_7 qM_8 qM_9 qM_3) rfl rfl rfl (by decide +kernel) ⟨Nat.le_of_ble_eq_true rfl, Nat.le_of_ble_eq_true rfl⟩) rfl rfl (Nat.le_of_ble_eq_true rfl) (fun r1 h2 => ?_)
  refine x_iconst (v := 1) C dX9_told_10 (by decide) ?_
  refine x_iconst (v := 1) C dX9_told_11 (by decide) ?_
  refine x_callVi C dX9_told_12 (M_X9_may G l N r1 1 1 h2) (cwV 3 C.2.2.2.2.1 (gdV gWM qM_33 qM_34 qM_35 qM_9 qM_4) rfl rfl rfl (by decide +kernel) ⟨Nat.le_of_ble_eq_true rfl, Nat.le_of_ble_eq_true rfl⟩) (xc_51 G h2) (by decide) rfl rfl rfl (Nat.le_of_ble_eq_true rfl) (fun r3 h4 => ?_)
  refine x_if_ne (tgt := 20) C dX9_told_15 (by decide) ?_ ?_
  · refine x_iconst (v := 0) C dX9_told_18 (by decide) ?_
    exact x_iret C dX9_told_19 hr
  · refine x_iload_n C dX9_told_20 rfl 1 rfl ?_
    refine x_if_ne (tgt := 31) C dX9_told_21 (by decide) ?_ ?_
    · refine x_aload_n C dX9_told_24 rfl 0 rfl ?_
      refine x_get (v := .int (gI h4 51 1)) C 1 dX9_told_25 (xc_51 G h4) rfl (by decide) rfl (fun w h => List.mem_cons_of_mem _ (iWM_X9 w h)) (by decide) rfl (C.2.2.2.2.1 _ (List.mem_cons_of_mem _ qM_12)) ?_
      refine x_goto (tgt := 103) C dX9_told_28 (by decide) ?_
      exact x_iret C dX9_told_103 hr
    · refine x_iload_n C dX9_told_31 rfl 1 rfl ?_
      refine x_iconst (v := 1) C dX9_told_32 (by decide) ?_
      refine x_icmp_ne (tgt := 43) C dX9_told_33 (by decide) ?_ ?_
      · refine x_aload_n C dX9_told_36 rfl 0 rfl ?_
        refine x_get (v := .int (gI h4 51 6)) C 6 dX9_told_37 (xc_51 G h4) rfl (by decide) rfl (fun w h => List.mem_cons_of_mem _ (iWM_X9 w h)) (by decide) rfl (C.2.2.2.2.1 _ (List.mem_cons_of_mem _ qM_44)) ?_
        refine x_goto (tgt := 103) C dX9_told_40 (by decide) ?_
        exact x_iret C dX9_told_103 hr
      · refine x_iload_n C dX9_told_43 rfl 1 rfl ?_
        refine x_iconst (v := 2) C dX9_told_44 (by decide) ?_
        refine x_icmp_ne (tgt := 55) C dX9_told_45 (by decide) ?_ ?_
        · refine x_aload_n C dX9_told_48 rfl 0 rfl ?_
          refine x_get (v := .int (gI h4 51 8)) C 8 dX9_told_49 (xc_51 G h4) rfl (by decide) rfl (fun w h => List.mem_cons_of_mem _ (iWM_X9 w h)) (by decide) rfl (C.2.2.2.2.1 _ (List.mem_cons_of_mem _ qM_28)) ?_
          refine x_goto (tgt := 103) C dX9_told_52 (by decide) ?_
          exact x_iret C dX9_told_103 hr
        · refine x_iload_n C dX9_told_55 rfl 1 rfl ?_
          refine x_iconst (v := 3) C dX9_told_56 (by decide) ?_
          refine x_icmp_ne (tgt := 67) C dX9_told_57 (by decide) ?_ ?_
          · refine x_aload_n C dX9_told_60 rfl 0 rfl ?_
            refine x_get (v := .int (gI h4 51 24)) C 24 dX9_told_61 (xc_51 G h4) rfl (by decide) rfl (fun w h => List.mem_cons_of_mem _ (iWM_X9 w h)) (by decide) rfl (C.2.2.2.2.1 _ (List.mem_cons_of_mem _ qM_148)) ?_
            refine x_goto (tgt := 103) C dX9_told_64 (by decide) ?_
            exact x_iret C dX9_told_103 hr
          · refine x_iload_n C dX9_told_67 rfl 1 rfl ?_
            refine x_iconst (v := 4) C dX9_told_68 (by decide) ?_
            refine x_icmp_ne (tgt := 79) C dX9_told_69 (by decide) ?_ ?_
            · refine x_aload_n C dX9_told_72 rfl 0 rfl ?_
              refine x_get (v := .int (gI h4 51 15)) C 15 dX9_told_73 (xc_51 G h4) rfl (by decide) rfl (fun w h => List.mem_cons_of_mem _ (iWM_X9 w h)) (by decide) rfl (C.2.2.2.2.1 _ (List.mem_cons_of_mem _ qM_69)) ?_
              refine x_goto (tgt := 103) C dX9_told_76 (by decide) ?_
              exact x_iret C dX9_told_103 hr
            · refine x_iload_n C dX9_told_79 rfl 1 rfl ?_
              refine x_iconst (v := 5) C dX9_told_80 (by decide) ?_
              refine x_icmp_ne (tgt := 91) C dX9_told_81 (by decide) ?_ ?_
              · refine x_aload_n C dX9_told_84 rfl 0 rfl ?_
                refine x_get (v := .int (gI h4 51 43)) C 43 dX9_told_85 (xc_51 G h4) rfl (by decide) rfl (fun w h => List.mem_cons_of_mem _ (iWM_X9 w h)) (by decide) rfl (C.2.2.2.2.1 _ (List.mem_cons_of_mem _ qM_187)) ?_
                refine x_goto (tgt := 103) C dX9_told_88 (by decide) ?_
                exact x_iret C dX9_told_103 hr
              · refine x_aload_n C dX9_told_91 rfl 0 rfl ?_
                refine x_get (v := .int (gI h4 51 23)) C 23 dX9_told_92 (xc_51 G h4) rfl (by decide) rfl (fun w h => List.mem_cons_of_mem _ (iWM_X9 w h)) (by decide) rfl (C.2.2.2.2.1 _ (List.mem_cons_of_mem _ qM_147)) ?_
                refine x_if_eq (tgt := 102) C dX9_told_95 (by decide) ?_ ?_
                · refine x_iconst (v := 0) C dX9_told_102 (by decide) ?_
                  exact x_iret C dX9_told_103 hr
                · refine x_iconst (v := 1) C dX9_told_98 (by decide) ?_
                  refine x_goto (tgt := 103) C dX9_told_99 (by decide) ?_
                  exact x_iret C dX9_told_103 hr
/-! X9_clear: 31 instructions -/
abbrev J_X9_clear (G : xG) (p : Program) (l : Launch) (e : Env) (s : State) (m : MethodId) (args : Array Value) (below : List Frame) (meth : Method) (c : Code) : Nat → List (Nat × Value) → List Value → xHp → Option (Unit × xHp) → Prop := xJ G p l e ({ frames := 0, cells := 0, slots := 0, locals := 0 } : Room) s m args below meth c 1 (fun res => MQ below (xQv G res) args s 0 0 (xA G))
def F_X9_clear (N : Nat) (h : xHp) : Option (Unit × xHp) := bnd (sI h 51 0 0) fun h1 => bnd (sI h1 51 1 0) fun h2 => bnd (sI h2 51 6 0) fun h3 => bnd (sI h3 51 8 0) fun h4 => bnd (sI h4 51 15 0) fun h5 => bnd (sI h5 51 21 0) fun h6 => bnd (sI h6 51 23 0) fun h7 => bnd (sI h7 51 24 0) fun h8 => bnd (sI h8 51 28 0) fun h9 => bnd (sI h9 51 43 0) fun h10 => some ((), h10)
set_option maxHeartbeats 4000000 in
set_option maxRecDepth 100000 in
theorem M_X9_clear (G : xG) (l : Launch) (N : Nat) (h : xHp) : ∀ r, F_X9_clear N h = some r → Met l yX9_clear vX9_clear ({ frames := 0, cells := 0, slots := 0, locals := 0 } : Room) (xPc G [.ref (xad G 51)] h) (xQv G r) 0 0 (xA G) := by
  refine x_met (own := RX9) (cc := cX9_clear) (maxL := 1) (ret := none) (lv0 := [(0, .ref (xad G 51))]) (by decide +kernel) rfl rfl (Nat.le_of_ble_eq_true rfl) rfl ?_
  intro p e s m below meth c C hr
  unfold F_X9_clear
  refine x_aload_n C dX9_clear_0 rfl 0 rfl ?_
  refine x_iconst (v := 0) C dX9_clear_1 (by decide) ?_
  refine x_putI (ty0 := tyX9) (ty := .int) C 0 dX9_clear_2 (xc_51 G h) rfl (Nat.le_of_ble_eq_true rfl) (by decide) rfl (fun w h => List.mem_cons_of_mem _ (iWM_X9 w h)) tyX9_ok nmX9 (by decide) rfl rfl (by decide +kernel) rfl rfl (C.2.2.2.2.1 _ (List.mem_cons_of_mem _ qM_2)) (fun h1 => ?_)
  refine x_aload_n C dX9_clear_5 rfl 0 rfl ?_
  refine x_iconst (v := 0) C dX9_clear_6 (by decide) ?_
  refine x_putI (ty0 := tyX9) (ty := .int) C 1 dX9_clear_7 (xc_51 G h1) rfl (Nat.le_of_ble_eq_true rfl) (by decide) rfl (fun w h => List.mem_cons_of_mem _ (iWM_X9 w h)) tyX9_ok nmX9 (by decide) rfl rfl (by decide +kernel) rfl rfl (C.2.2.2.2.1 _ (List.mem_cons_of_mem _ qM_12)) (fun h2 => ?_)
  refine x_aload_n C dX9_clear_10 rfl 0 rfl ?_
  refine x_iconst (v := 0) C dX9_clear_11 (by decide) ?_
  refine x_putI (ty0 := tyX9) (ty := .int) C 6 dX9_clear_12 (xc_51 G h2) rfl (Nat.le_of_ble_eq_true rfl) (by decide) rfl (fun w h => List.mem_cons_of_mem _ (iWM_X9 w h)) tyX9_ok nmX9 (by decide) rfl rfl (by decide +kernel) rfl rfl (C.2.2.2.2.1 _ (List.mem_cons_of_mem _ qM_44)) (fun h3 => ?_)
  refine x_aload_n C dX9_clear_15 rfl 0 rfl ?_
  refine x_iconst (v := 0) C dX9_clear_16 (by decide) ?_
  refine x_putI (ty0 := tyX9) (ty := .int) C 8 dX9_clear_17 (xc_51 G h3) rfl (Nat.le_of_ble_eq_true rfl) (by decide) rfl (fun w h => List.mem_cons_of_mem _ (iWM_X9 w h)) tyX9_ok nmX9 (by decide) rfl rfl (by decide +kernel) rfl rfl (C.2.2.2.2.1 _ (List.mem_cons_of_mem _ qM_28)) (fun h4 => ?_)
  refine x_aload_n C dX9_clear_20 rfl 0 rfl ?_
  refine x_iconst (v := 0) C dX9_clear_21 (by decide) ?_
  refine x_putI (ty0 := tyX9) (ty := .int) C 15 dX9_clear_22 (xc_51 G h4) rfl (Nat.le_of_ble_eq_true rfl) (by decide) rfl (fun w h => List.mem_cons_of_mem _ (iWM_X9 w h)) tyX9_ok nmX9 (by decide) rfl rfl (by decide +kernel) rfl rfl (C.2.2.2.2.1 _ (List.mem_cons_of_mem _ qM_69)) (fun h5 => ?_)
  refine x_aload_n C dX9_clear_25 rfl 0 rfl ?_
  refine x_iconst (v := 0) C dX9_clear_26 (by decide) ?_
  refine x_putI (ty0 := tyX9) (ty := .int) C 21 dX9_clear_27 (xc_51 G h5) rfl (Nat.le_of_ble_eq_true rfl) (by decide) rfl (fun w h => List.mem_cons_of_mem _ (iWM_X9 w h)) tyX9_ok nmX9 (by decide) rfl rfl (by decide +kernel) rfl rfl (C.2.2.2.2.1 _ (List.mem_cons_of_mem _ qM_73)) (fun h6 => ?_)
  refine x_aload_n C dX9_clear_30 rfl 0 rfl ?_
  refine x_iconst (v := 0) C dX9_clear_31 (by decide) ?_
  refine x_putI (ty0 := tyX9) (ty := .boolean) C 23 dX9_clear_32 (xc_51 G h6) rfl (Nat.le_of_ble_eq_true rfl) (by decide) rfl (fun w h => List.mem_cons_of_mem _ (iWM_X9 w h)) tyX9_ok nmX9 (by decide) rfl rfl (by decide +kernel) rfl rfl (C.2.2.2.2.1 _ (List.mem_cons_of_mem _ qM_147)) (fun h7 => ?_)
  refine x_aload_n C dX9_clear_35 rfl 0 rfl ?_
  refine x_iconst (v := 0) C dX9_clear_36 (by decide) ?_
  refine x_putI (ty0 := tyX9) (ty := .int) C 24 dX9_clear_37 (xc_51 G h7) rfl (Nat.le_of_ble_eq_true rfl) (by decide) rfl (fun w h => List.mem_cons_of_mem _ (iWM_X9 w h)) tyX9_ok nmX9 (by decide) rfl rfl (by decide +kernel) rfl rfl (C.2.2.2.2.1 _ (List.mem_cons_of_mem _ qM_148)) (fun h8 => ?_)
  refine x_aload_n C dX9_clear_40 rfl 0 rfl ?_
  refine x_iconst (v := 0) C dX9_clear_41 (by decide) ?_
  refine x_putI (ty0 := tyX9) (ty := .int) C 28 dX9_clear_42 (xc_51 G h8) rfl (Nat.le_of_ble_eq_true rfl) (by decide) rfl (fun w h => List.mem_cons_of_mem _ (iWM_X9 w h)) tyX9_ok nmX9 (by decide) rfl rfl (by decide +kernel) rfl rfl (C.2.2.2.2.1 _ (List.mem_cons_of_mem _ qM_149)) (fun h9 => ?_)
  refine x_aload_n C dX9_clear_45 rfl 0 rfl ?_
  refine x_iconst (v := 0) C dX9_clear_46 (by decide) ?_
  refine x_putI (ty0 := tyX9) (ty := .int) C 43 dX9_clear_47 (xc_51 G h9) rfl (Nat.le_of_ble_eq_true rfl) (by decide) rfl (fun w h => List.mem_cons_of_mem _ (iWM_X9 w h)) tyX9_ok nmX9 (by decide) rfl rfl (by decide +kernel) rfl rfl (C.2.2.2.2.1 _ (List.mem_cons_of_mem _ qM_187)) (fun h10 => ?_)
  exact x_vret C dX9_clear_50 hr
