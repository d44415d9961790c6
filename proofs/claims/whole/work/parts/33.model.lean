/-! X9_must: 82 instructions -/
abbrev J_X9_must (G : xG) (p : Program) (l : Launch) (e : Env) (s : State) (m : MethodId) (args : Array Value) (below : List Frame) (meth : Method) (c : Code) : Nat → List (Nat × Value) → List Value → xHp → Option (Int32 × xHp) → Prop := xJ G p l e ({ frames := 2, cells := 0, slots := 0, locals := 48 } : Room) s m args below meth c 6 (fun res => MQ below (xQi G res) args s 0 0 (xA G))
def F_X9_must_119 (N : Nat) (k31 : Int32 → Int32 → Int32 → Int32 → xHp → Option (Int32 × xHp)) (x1 : Int32) (x2 : Int32) (x3 : Int32) (x4 : Int32) (h : xHp) : Option (Int32 × xHp) := k31 x1 x2 x3 (x4 + 1) h
def F_X9_must_118 (N : Nat) (k31 : Int32 → Int32 → Int32 → Int32 → xHp → Option (Int32 × xHp)) (x1 : Int32) (x2 : Int32) (x4 : Int32) (s0 : Int32) (h : xHp) : Option (Int32 × xHp) := F_X9_must_119 N k31 x1 x2 s0 x4 h
def F_X9_must_113 (N : Nat) (k31 : Int32 → Int32 → Int32 → Int32 → xHp → Option (Int32 × xHp)) (x1 : Int32) (x2 : Int32) (x4 : Int32) (h : xHp) : Option (Int32 × xHp) := F_X9_must_118 N k31 x1 x2 x4 1 h
def F_X9_must_103 (N : Nat) (k31 : Int32 → Int32 → Int32 → Int32 → xHp → Option (Int32 × xHp)) (x1 : Int32) (x3 : Int32) (x4 : Int32) (x5 : Int32) (s0 : Int32) (h : xHp) : Option (Int32 × xHp) := if x3 = 0 then if x5 = 0 then F_X9_must_113 N k31 x1 s0 x4 h else F_X9_must_118 N k31 x1 s0 x4 0 h else F_X9_must_113 N k31 x1 s0 x4 h
def F_X9_must_98 (N : Nat) (k31 : Int32 → Int32 → Int32 → Int32 → xHp → Option (Int32 × xHp)) (x1 : Int32) (x3 : Int32) (x4 : Int32) (x5 : Int32) (h : xHp) : Option (Int32 × xHp) := F_X9_must_103 N k31 x1 x3 x4 x5 1 h
def F_X9_must_80 (N : Nat) (k31 : Int32 → Int32 → Int32 → Int32 → xHp → Option (Int32 × xHp)) (x1 : Int32) (x2 : Int32) (x3 : Int32) (x4 : Int32) (x5 : Int32) (h : xHp) : Option (Int32 × xHp) := bnd2 (F_X9_isWay N x4 h) fun r1 h2 => if r1 = 0 then F_X9_must_119 N k31 x1 x2 x3 x4 h2 else if x2 = 0 then if x5 = 0 then F_X9_must_103 N k31 x1 x3 x4 x5 0 h2 else F_X9_must_98 N k31 x1 x3 x4 x5 h2 else F_X9_must_98 N k31 x1 x3 x4 x5 h2
def F_X9_must_62 (N : Nat) (k31 : Int32 → Int32 → Int32 → Int32 → xHp → Option (Int32 × xHp)) (x1 : Int32) (x2 : Int32) (x3 : Int32) (x4 : Int32) (s0 : Int32) (h : xHp) : Option (Int32 × xHp) := if s0 = 0 then if x3 = 0 then F_X9_must_80 N k31 x1 x2 x3 x4 s0 h else F_X9_must_119 N k31 x1 x2 x3 x4 h else if x2 = 0 then F_X9_must_80 N k31 x1 x2 x3 x4 s0 h else F_X9_must_119 N k31 x1 x2 x3 x4 h
def F_X9_must_31_b (N : Nat) (k31 : Int32 → Int32 → Int32 → Int32 → xHp → Option (Int32 × xHp)) (x1 : Int32) (x2 : Int32) (x3 : Int32) (x4 : Int32) (h : xHp) : Option (Int32 × xHp) := bnd2 (F_X9_rows N h) fun r1 h2 => if r1 ≤ x4 then if x2 = x3 then some ((-1), h2) else if x2 = 0 then some (0, h2) else some (1, h2) else if ((x4 >>> ((((gI h2 51 24) - 1) - x1) &&& 31)) &&& 1) = 1 then F_X9_must_62 N k31 x1 x2 x3 x4 1 h2 else F_X9_must_62 N k31 x1 x2 x3 x4 0 h2
def F_X9_must_31 (N : Nat) (x1 : Int32) (x2 : Int32) (x3 : Int32) (x4 : Int32) (h : xHp) : Option (Int32 × xHp) := xit (F_X9_must_31_b N) (fun _ _ _ _ _ => none) N x1 x2 x3 x4 h
def F_X9_must (N : Nat) (p1 : Int32) (h : xHp) : Option (Int32 × xHp) := bnd2 (F_X9_isIn N (p1.toInt64) 0 (((gI h 51 24) - 1).toInt64) h) fun r1 h2 => bnd2 (F_X9_may N r1 1 1 h2) fun r3 h4 => if r3 = 0 then some (0, h4) else F_X9_must_31 N p1 0 0 0 h4
set_option maxHeartbeats 4000000 in
set_option maxRecDepth 100000 in
theorem T_X9_must_119 {G : xG} {p : Program} {l : Launch} {e : Env} {s : State} {m : MethodId} {args : Array Value} {below : List Frame} {meth : Method} {c : Code} {N : Nat} (C : xC G p s m args meth c cX9_must 6 vX9_must RX9) (hr : meth.sig.returnType = (some .int)) {k31 : Int32 → Int32 → Int32 → Int32 → xHp → Option (Int32 × xHp)} (hk31 : ∀ (x1 : Int32) (x2 : Int32) (x3 : Int32) (x4 : Int32) (h : xHp), J_X9_must G p l e s m args below meth c 31 [(0, .ref (xad G 51)), (1, .int x1), (2, .int x2), (3, .int x3), (4, .int x4)] [] h (k31 x1 x2 x3 x4 h)) (x1 : Int32) (x2 : Int32) (x3 : Int32) (x4 : Int32) (h : xHp) : J_X9_must G p l e s m args below meth c 119 [(0, .ref (xad G 51)), (1, .int x1), (2, .int x2), (3, .int x3), (4, .int x4)] [] h (F_X9_must_119 N k31 x1 x2 x3 x4 h) := by
  unfold F_X9_must_119
  refine x_iinc (v := (x4 + 1)) (j := 4) (lv' := [(4, .int (x4 + 1)), (0, .ref (xad G 51)), (1, .int x1), (2, .int x2), (3, .int x3)]) C dX9_must_119 rfl (by rfl) (by decide) rfl ?_
  refine x_goto (tgt := 31) C dX9_must_122 (by decide) ?_
  exact x_sub [1, 2, 3, 4, 0] rfl (hk31 x1 x2 x3 (x4 + 1) h)
set_option maxHeartbeats 4000000 in
set_option maxRecDepth 100000 in
theorem T_X9_must_118 {G : xG} {p : Program} {l : Launch} {e : Env} {s : State} {m : MethodId} {args : Array Value} {below : List Frame} {meth : Method} {c : Code} {N : Nat} (C : xC G p s m args meth c cX9_must 6 vX9_must RX9) (hr : meth.sig.returnType = (some .int)) {k31 : Int32 → Int32 → Int32 → Int32 → xHp → Option (Int32 × xHp)} (hk31 : ∀ (x1 : Int32) (x2 : Int32) (x3 : Int32) (x4 : Int32) (h : xHp), J_X9_must G p l e s m args below meth c 31 [(0, .ref (xad G 51)), (1, .int x1), (2, .int x2), (3, .int x3), (4, .int x4)] [] h (k31 x1 x2 x3 x4 h)) (x1 : Int32) (x2 : Int32) (x4 : Int32) (s0 : Int32) (h : xHp) : J_X9_must G p l e s m args below meth c 118 [(0, .ref (xad G 51)), (1, .int x1), (2, .int x2), (4, .int x4)] [.int s0] h (F_X9_must_118 N k31 x1 x2 x4 s0 h) := by
  unfold F_X9_must_118
  refine x_istore_n (lv' := [(3, .int s0), (0, .ref (xad G 51)), (1, .int x1), (2, .int x2), (4, .int x4)]) C dX9_must_118 rfl (by decide) rfl ?_
  exact x_sub [1, 2, 3, 0, 4] rfl (T_X9_must_119 C hr hk31 x1 x2 s0 x4 h)
set_option maxHeartbeats 4000000 in
set_option maxRecDepth 100000 in
theorem T_X9_must_113 {G : xG} {p : Program} {l : Launch} {e : Env} {s : State} {m : MethodId} {args : Array Value} {below : List Frame} {meth : Method} {c : Code} {N : Nat} (C : xC G p s m args meth c cX9_must 6 vX9_must RX9) (hr : meth.sig.returnType = (some .int)) {k31 : Int32 → Int32 → Int32 → Int32 → xHp → Option (Int32 × xHp)} (hk31 : ∀ (x1 : Int32) (x2 : Int32) (x3 : Int32) (x4 : Int32) (h : xHp), J_X9_must G p l e s m args below meth c 31 [(0, .ref (xad G 51)), (1, .int x1), (2, .int x2), (3, .int x3), (4, .int x4)] [] h (k31 x1 x2 x3 x4 h)) (x1 : Int32) (x2 : Int32) (x4 : Int32) (h : xHp) : J_X9_must G p l e s m args below meth c 113 [(0, .ref (xad G 51)), (1, .int x1), (2, .int x2), (4, .int x4)] [] h (F_X9_must_113 N k31 x1 x2 x4 h) := by
  unfold F_X9_must_113
  refine x_iconst (v := 1) C dX9_must_113 (by decide) ?_
  refine x_goto (tgt := 118) C dX9_must_114 (by decide) ?_
  exact x_sub [0, 1, 2, 3] rfl (T_X9_must_118 C hr hk31 x1 x2 x4 1 h)
set_option maxHeartbeats 4000000 in
set_option maxRecDepth 100000 in
theorem T_X9_must_103 {G : xG} {p : Program} {l : Launch} {e : Env} {s : State} {m : MethodId} {args : Array Value} {below : List Frame} {meth : Method} {c : Code} {N : Nat} (C : xC G p s m args meth c cX9_must 6 vX9_must RX9) (hr : meth.sig.returnType = (some .int)) {k31 : Int32 → Int32 → Int32 → Int32 → xHp → Option (Int32 × xHp)} (hk31 : ∀ (x1 : Int32) (x2 : Int32) (x3 : Int32) (x4 : Int32) (h : xHp), J_X9_must G p l e s m args below meth c 31 [(0, .ref (xad G 51)), (1, .int x1), (2, .int x2), (3, .int x3), (4, .int x4)] [] h (k31 x1 x2 x3 x4 h)) (x1 : Int32) (x3 : Int32) (x4 : Int32) (x5 : Int32) (s0 : Int32) (h : xHp) : J_X9_must G p l e s m args below meth c 103 [(0, .ref (xad G 51)), (1, .int x1), (3, .int x3), (4, .int x4), (5, .int x5)] [.int s0] h (F_X9_must_103 N k31 x1 x3 x4 x5 s0 h) := by
  unfold F_X9_must_103
  refine x_istore_n (lv' := [(2, .int s0), (0, .ref (xad G 51)), (1, .int x1), (3, .int x3), (4, .int x4), (5, .int x5)]) C dX9_must_103 rfl (by decide) rfl ?_
  refine x_iload_n C dX9_must_104 rfl 3 rfl ?_
  refine x_if_ne (tgt := 113) C dX9_must_105 (by decide) ?_ ?_
  · refine x_iload C dX9_must_108 5 rfl ?_
    refine x_if_ne (tgt := 117) C dX9_must_110 (by decide) ?_ ?_
    · exact x_sub [1, 2, 0, 4] rfl (T_X9_must_113 C hr hk31 x1 s0 x4 h)
    · refine x_iconst (v := 0) C dX9_must_117 (by decide) ?_
      exact x_sub [1, 2, 0, 4] rfl (T_X9_must_118 C hr hk31 x1 s0 x4 0 h)
  · exact x_sub [1, 2, 0, 4] rfl (T_X9_must_113 C hr hk31 x1 s0 x4 h)
set_option maxHeartbeats 4000000 in
set_option maxRecDepth 100000 in
theorem T_X9_must_98 {G : xG} {p : Program} {l : Launch} {e : Env} {s : State} {m : MethodId} {args : Array Value} {below : List Frame} {meth : Method} {c : Code} {N : Nat} (C : xC G p s m args meth c cX9_must 6 vX9_must RX9) (hr : meth.sig.returnType = (some .int)) {k31 : Int32 → Int32 → Int32 → Int32 → xHp → Option (Int32 × xHp)} (hk31 : ∀ (x1 : Int32) (x2 : Int32) (x3 : Int32) (x4 : Int32) (h : xHp), J_X9_must G p l e s m args below meth c 31 [(0, .ref (xad G 51)), (1, .int x1), (2, .int x2), (3, .int x3), (4, .int x4)] [] h (k31 x1 x2 x3 x4 h)) (x1 : Int32) (x3 : Int32) (x4 : Int32) (x5 : Int32) (h : xHp) : J_X9_must G p l e s m args below meth c 98 [(0, .ref (xad G 51)), (1, .int x1), (3, .int x3), (4, .int x4), (5, .int x5)] [] h (F_X9_must_98 N k31 x1 x3 x4 x5 h) := by
  unfold F_X9_must_98
  refine x_iconst (v := 1) C dX9_must_98 (by decide) ?_
  refine x_goto (tgt := 103) C dX9_must_99 (by decide) ?_
  exact x_sub [0, 1, 2, 3, 4] rfl (T_X9_must_103 C hr hk31 x1 x3 x4 x5 1 h)
set_option maxHeartbeats 4000000 in
set_option maxRecDepth 100000 in
theorem T_X9_must_80 {G : xG} {p : Program} {l : Launch} {e : Env} {s : State} {m : MethodId} {args : Array Value} {below : List Frame} {meth : Method} {c : Code} {N : Nat} (C : xC G p s m args meth c cX9_must 6 vX9_must RX9) (hr : meth.sig.returnType = (some .int)) {k31 : Int32 → Int32 → Int32 → Int32 → xHp → Option (Int32 × xHp)} (hk31 : ∀ (x1 : Int32) (x2 : Int32) (x3 : Int32) (x4 : Int32) (h : xHp), J_X9_must G p l e s m args below meth c 31 [(0, .ref (xad G 51)), (1, .int x1), (2, .int x2), (3, .int x3), (4, .int x4)] [] h (k31 x1 x2 x3 x4 h)) (x1 : Int32) (x2 : Int32) (x3 : Int32) (x4 : Int32) (x5 : Int32) (h : xHp) : J_X9_must G p l e s m args below meth c 80 [(0, .ref (xad G 51)), (1, .int x1), (2, .int x2), (3, .int x3), (4, .int x4), (5, .int x5)] [] h (F_X9_must_80 N k31 x1 x2 x3 x4 x5 h) := by
  unfold F_X9_must_80
  refine x_aload_n C dX9_must_80 rfl 0 rfl ?_
  refine x_iload C dX9_must_81 4 rfl ?_
  refine x_callVi C dX9_must_83 (M_X9_isWay G l N x4 h) (cwV 1 C.2.2.2.2.1 (gdV gWM qM_179 qM_180 qM_181 qM_9 qM_174) rfl rfl rfl (by decide +kernel) ⟨Nat.le_of_ble_eq_true rfl, Nat.le_of_ble_eq_true rfl⟩) (xc_51 G h) (by decide) rfl rfl rfl (Nat.le_of_ble_eq_true rfl) (fun r1 h2 => ?_)
  refine x_if_eq (tgt := 119) C dX9_must_86 (by decide) ?_ ?_
  · exact x_sub [0, 1, 2, 3, 4] rfl (T_X9_must_119 C hr hk31 x1 x2 x3 x4 h2)
  · refine x_iload_n C dX9_must_89 rfl 2 rfl ?_
    refine x_if_ne (tgt := 98) C dX9_must_90 (by decide) ?_ ?_
    · refine x_iload C dX9_must_93 5 rfl ?_
      refine x_if_eq (tgt := 102) C dX9_must_95 (by decide) ?_ ?_
      · refine x_iconst (v := 0) C dX9_must_102 (by decide) ?_
        exact x_sub [0, 1, 3, 4, 5] rfl (T_X9_must_103 C hr hk31 x1 x3 x4 x5 0 h2)
      · exact x_sub [0, 1, 3, 4, 5] rfl (T_X9_must_98 C hr hk31 x1 x3 x4 x5 h2)
    · exact x_sub [0, 1, 3, 4, 5] rfl (T_X9_must_98 C hr hk31 x1 x3 x4 x5 h2)
set_option maxHeartbeats 4000000 in
set_option maxRecDepth 100000 in
theorem T_X9_must_62 {G : xG} {p : Program} {l : Launch} {e : Env} {s : State} {m : MethodId} {args : Array Value} {below : List Frame} {meth : Method} {c : Code} {N : Nat} (C : xC G p s m args meth c cX9_must 6 vX9_must RX9) (hr : meth.sig.returnType = (some .int)) {k31 : Int32 → Int32 → Int32 → Int32 → xHp → Option (Int32 × xHp)} (hk31 : ∀ (x1 : Int32) (x2 : Int32) (x3 : Int32) (x4 : Int32) (h : xHp), J_X9_must G p l e s m args below meth c 31 [(0, .ref (xad G 51)), (1, .int x1), (2, .int x2), (3, .int x3), (4, .int x4)] [] h (k31 x1 x2 x3 x4 h)) (x1 : Int32) (x2 : Int32) (x3 : Int32) (x4 : Int32) (s0 : Int32) (h : xHp) : J_X9_must G p l e s m args below meth c 62 [(0, .ref (xad G 51)), (1, .int x1), (2, .int x2), (3, .int x3), (4, .int x4)] [.int s0] h (F_X9_must_62 N k31 x1 x2 x3 x4 s0 h) := by
  unfold F_X9_must_62
  refine x_istore (lv' := [(5, .int s0), (0, .ref (xad G 51)), (1, .int x1), (2, .int x2), (3, .int x3), (4, .int x4)]) C dX9_must_62 (by decide) rfl ?_
  refine x_iload C dX9_must_64 0 rfl ?_
  refine x_if_eq (tgt := 76) C dX9_must_66 (by decide) ?_ ?_
  · refine x_iload_n C dX9_must_76 rfl 4 rfl ?_
    refine x_if_ne (tgt := 119) C dX9_must_77 (by decide) ?_ ?_
    · exact x_sub [1, 2, 3, 4, 5, 0] rfl (T_X9_must_80 C hr hk31 x1 x2 x3 x4 s0 h)
    · exact x_sub [1, 2, 3, 4, 5] rfl (T_X9_must_119 C hr hk31 x1 x2 x3 x4 h)
  · refine x_iload_n C dX9_must_69 rfl 3 rfl ?_
    refine x_if_ne (tgt := 119) C dX9_must_70 (by decide) ?_ ?_
    · refine x_goto (tgt := 80) C dX9_must_73 (by decide) ?_
      exact x_sub [1, 2, 3, 4, 5, 0] rfl (T_X9_must_80 C hr hk31 x1 x2 x3 x4 s0 h)
    · exact x_sub [1, 2, 3, 4, 5] rfl (T_X9_must_119 C hr hk31 x1 x2 x3 x4 h)
set_option maxHeartbeats 4000000 in
set_option maxRecDepth 100000 in
theorem T_X9_must_31_b {G : xG} {p : Program} {l : Launch} {e : Env} {s : State} {m : MethodId} {args : Array Value} {below : List Frame} {meth : Method} {c : Code} {N : Nat} (C : xC G p s m args meth c cX9_must 6 vX9_must RX9) (hr : meth.sig.returnType = (some .int)) {k31 : Int32 → Int32 → Int32 → Int32 → xHp → Option (Int32 × xHp)} (hk31 : ∀ (x1 : Int32) (x2 : Int32) (x3 : Int32) (x4 : Int32) (h : xHp), J_X9_must G p l e s m args below meth c 31 [(0, .ref (xad G 51)), (1, .int x1), (2, .int x2), (3, .int x3), (4, .int x4)] [] h (k31 x1 x2 x3 x4 h)) (x1 : Int32) (x2 : Int32) (x3 : Int32) (x4 : Int32) (h : xHp) : J_X9_must G p l e s m args below meth c 31 [(0, .ref (xad G 51)), (1, .int x1), (2, .int x2), (3, .int x3), (4, .int x4)] [] h (F_X9_must_31_b N k31 x1 x2 x3 x4 h) := by
  unfold F_X9_must_31_b
  refine x_iload C dX9_must_31 4 rfl ?_
  refine x_aload_n C dX9_must_33 rfl 0 rfl ?_
  refine x_callVi C dX9_must_34 (M_X9_rows G l N h) (cwV 0 C.2.2.2.2.1 (gdV gWM qM_176 qM_177 qM_178 qM_9 qM_175) rfl rfl rfl (by decide +kernel) ⟨Nat.le_of_ble_eq_true rfl, Nat.le_of_ble_eq_true rfl⟩) (xc_51 G h) (by decide) rfl rfl rfl (Nat.le_of_ble_eq_true rfl) (fun r1 h2 => ?_)
  refine x_icmp_ge (tgt := 125) C dX9_must_37 (by decide) ?_ ?_
  · refine x_iload_n C dX9_must_125 rfl 2 rfl ?_
    refine x_iload_n C dX9_must_126 rfl 3 rfl ?_
    refine x_icmp_ne (tgt := 134) C dX9_must_127 (by decide) ?_ ?_
    · refine x_iconst (v := (-1)) C dX9_must_130 (by decide) ?_
      refine x_goto (tgt := 143) C dX9_must_131 (by decide) ?_
      exact x_iret C dX9_must_143 hr
    · refine x_iload_n C dX9_must_134 rfl 2 rfl ?_
      refine x_if_eq (tgt := 142) C dX9_must_135 (by decide) ?_ ?_
      · refine x_iconst (v := 0) C dX9_must_142 (by decide) ?_
        exact x_iret C dX9_must_143 hr
      · refine x_iconst (v := 1) C dX9_must_138 (by decide) ?_
        refine x_goto (tgt := 143) C dX9_must_139 (by decide) ?_
        exact x_iret C dX9_must_143 hr
  · refine x_iload C dX9_must_40 4 rfl ?_
    refine x_aload_n C dX9_must_42 rfl 0 rfl ?_
    refine x_get (v := .int (gI h2 51 24)) C 24 dX9_must_43 (xc_51 G h2) rfl (by decide) rfl (fun w h => List.mem_cons_of_mem _ (iWM_X9 w h)) (by decide) rfl (C.2.2.2.2.1 _ (List.mem_cons_of_mem _ qM_148)) ?_
    refine x_iconst (v := 1) C dX9_must_46 (by decide) ?_
    refine x_isub C dX9_must_47 ?_
    refine x_iload_n C dX9_must_48 rfl 1 rfl ?_
    refine x_isub C dX9_must_49 ?_
    refine x_ishr C dX9_must_50 ?_
    refine x_iconst (v := 1) C dX9_must_51 (by decide) ?_
    refine x_iand C dX9_must_52 ?_
    refine x_iconst (v := 1) C dX9_must_53 (by decide) ?_
    refine x_icmp_ne (tgt := 61) C dX9_must_54 (by decide) ?_ ?_
    · refine x_iconst (v := 1) C dX9_must_57 (by decide) ?_
      refine x_goto (tgt := 62) C dX9_must_58 (by decide) ?_
      exact x_sub [0, 1, 2, 3, 4] rfl (T_X9_must_62 C hr hk31 x1 x2 x3 x4 1 h2)
    · refine x_iconst (v := 0) C dX9_must_61 (by decide) ?_
      exact x_sub [0, 1, 2, 3, 4] rfl (T_X9_must_62 C hr hk31 x1 x2 x3 x4 0 h2)
set_option maxHeartbeats 4000000 in
set_option maxRecDepth 100000 in
theorem T_X9_must_31_n {G : xG} {p : Program} {l : Launch} {e : Env} {s : State} {m : MethodId} {args : Array Value} {below : List Frame} {meth : Method} {c : Code} {N : Nat} (C : xC G p s m args meth c cX9_must 6 vX9_must RX9) (hr : meth.sig.returnType = (some .int)) : ∀ (n : Nat) (x1 : Int32) (x2 : Int32) (x3 : Int32) (x4 : Int32) (h : xHp), J_X9_must G p l e s m args below meth c 31 [(0, .ref (xad G 51)), (1, .int x1), (2, .int x2), (3, .int x3), (4, .int x4)] [] h (xit (F_X9_must_31_b N) (fun _ _ _ _ _ => none) n x1 x2 x3 x4 h) := by
  intro n
  induction n with
  | zero => intros; exact x_none
  | succ n ih => intros; exact T_X9_must_31_b C hr ih _ _ _ _ _
set_option maxHeartbeats 4000000 in
set_option maxRecDepth 100000 in
theorem T_X9_must_31 {G : xG} {p : Program} {l : Launch} {e : Env} {s : State} {m : MethodId} {args : Array Value} {below : List Frame} {meth : Method} {c : Code} {N : Nat} (C : xC G p s m args meth c cX9_must 6 vX9_must RX9) (hr : meth.sig.returnType = (some .int)) (x1 : Int32) (x2 : Int32) (x3 : Int32) (x4 : Int32) (h : xHp) : J_X9_must G p l e s m args below meth c 31 [(0, .ref (xad G 51)), (1, .int x1), (2, .int x2), (3, .int x3), (4, .int x4)] [] h (F_X9_must_31 N x1 x2 x3 x4 h) := T_X9_must_31_n C hr N x1 x2 x3 x4 h
set_option maxHeartbeats 4000000 in
set_option maxRecDepth 100000 in
theorem M_X9_must (G : xG) (l : Launch) (N : Nat) (p1 : Int32) (h : xHp) : ∀ r, F_X9_must N p1 h = some r → Met l yX9_must vX9_must ({ frames := 2, cells := 0, slots := 0, locals := 48 } : Room) (xPc G [.ref (xad G 51), .int p1] h) (xQi G r) 0 0 (xA G) := by
  refine x_met (own := RX9) (cc := cX9_must) (maxL := 6) (ret := (some .int)) (lv0 := [(0, .ref (xad G 51)), (1, .int p1)]) (by decide +kernel) rfl rfl (Nat.le_of_ble_eq_true rfl) rfl ?_
  intro p e s m below meth c C hr
  unfold F_X9_must
  refine x_aload_n C dX9_must_0 rfl 0 rfl ?_
  refine x_iload_n C dX9_must_1 rfl 1 rfl ?_
  refine x_i2l C dX9_must_2 ?_
  refine x_lconst (v := 0) C dX9_must_3 (by decide) ?_
  refine x_aload_n C dX9_must_4 rfl 0 rfl ?_
  refine x_get (v := .int (gI h 51 24)) C 24 dX9_must_5 (xc_51 G h) rfl (by decide) rfl (fun w h => List.mem_cons_of_mem _ (iWM_X9 w h)) (by decide) rfl (C.2.2.2.2.1 _ (List.mem_cons_of_mem _ qM_148)) ?_
  refine x_iconst (v := 1) C dX9_must_8 (by decide) ?_
  refine x_isub C dX9_must_9 ?_
  refine x_i2l C dX9_must_10 ?_
  refine x_callSi C dX9_must_11 (M_X9_isIn G l N (p1.toInt64) 0 (((gI h 51 24) - 1).toInt64) h) (va_cwS 3 C.2.2.2.2.1 (gdS gWM qM_7 qM_8 qM_9 qM_3) rfl rfl rfl (by decide +kernel) ⟨Nat.le_of_ble_eq_true rfl, Nat.le_of_ble_eq_true rfl⟩) rfl rfl (Nat.le_of_ble_eq_true rfl) (fun r1 h2 => ?_)
  refine x_iconst (v := 1) C dX9_must_14 (by decide) ?_
  refine x_iconst (v := 1) C dX9_must_15 (by decide) ?_
  refine x_callVi C dX9_must_16 (M_X9_may G l N r1 1 1 h2) (cwV 3 C.2.2.2.2.1 (gdV gWM qM_33 qM_34 qM_35 qM_9 qM_4) rfl rfl rfl (by decide +kernel) ⟨Nat.le_of_ble_eq_true rfl, Nat.le_of_ble_eq_true rfl⟩) (xc_51 G h2) (by decide) rfl rfl rfl (Nat.le_of_ble_eq_true rfl) (fun r3 h4 => ?_)
  refine x_if_ne (tgt := 24) C dX9_must_19 (by decide) ?_ ?_
  · refine x_iconst (v := 0) C dX9_must_22 (by decide) ?_
    exact x_iret C dX9_must_23 hr
  · refine x_iconst (v := 0) C dX9_must_24 (by decide) ?_
    refine x_istore_n (lv' := [(2, .int 0), (0, .ref (xad G 51)), (1, .int p1)]) C dX9_must_25 rfl (by decide) rfl ?_
    refine x_iconst (v := 0) C dX9_must_26 (by decide) ?_
    refine x_istore_n (lv' := [(3, .int 0), (2, .int 0), (0, .ref (xad G 51)), (1, .int p1)]) C dX9_must_27 rfl (by decide) rfl ?_
    refine x_iconst (v := 0) C dX9_must_28 (by decide) ?_
    refine x_istore (lv' := [(4, .int 0), (3, .int 0), (2, .int 0), (0, .ref (xad G 51)), (1, .int p1)]) C dX9_must_29 (by decide) rfl ?_
    exact x_sub [3, 4, 2, 1, 0] rfl (T_X9_must_31 C hr p1 0 0 0 h4)
/-! X9_write: 17 instructions -/
abbrev J_X9_write (G : xG) (p : Program) (l : Launch) (e : Env) (s : State) (m : MethodId) (args : Array Value) (below : List Frame) (meth : Method) (c : Code) : Nat → List (Nat × Value) → List Value → xHp → Option (Unit × xHp) → Prop := xJ G p l e ({ frames := 0, cells := 0, slots := 0, locals := 0 } : Room) s m args below meth c 2 (fun res => MQ below (xQv G res) args s 0 0 (xA G))
def F_X9_write (N : Nat) (p1 : Int32) (h : xHp) : Option (Unit × xHp) := if (6000 : Int32) < (gI h 51 43) then some ((), h) else grd (xin (gI h 51 43) 6001) (bnd (sI h 73 (gI h 51 43).toNatClampNeg p1) fun h1 => bnd (sI h1 51 43 ((gI h1 51 43) + 1)) fun h2 => some ((), h2))
set_option maxHeartbeats 4000000 in
set_option maxRecDepth 100000 in
theorem M_X9_write (G : xG) (l : Launch) (N : Nat) (p1 : Int32) (h : xHp) : ∀ r, F_X9_write N p1 h = some r → Met l yX9_write vX9_write ({ frames := 0, cells := 0, slots := 0, locals := 0 } : Room) (xPc G [.ref (xad G 51), .int p1] h) (xQv G r) 0 0 (xA G) := by
  refine x_met (own := RX9) (cc := cX9_write) (maxL := 2) (ret := none) (lv0 := [(0, .ref (xad G 51)), (1, .int p1)]) (by decide +kernel) rfl rfl (Nat.le_of_ble_eq_true rfl) rfl ?_
  intro p e s m below meth c C hr
  unfold F_X9_write
  refine x_aload_n C dX9_write_0 rfl 0 rfl ?_
  refine x_get (v := .int (gI h 51 43)) C 43 dX9_write_1 (xc_51 G h) rfl (by decide) rfl (fun w h => List.mem_cons_of_mem _ (iWM_X9 w h)) (by decide) rfl (C.2.2.2.2.1 _ (List.mem_cons_of_mem _ qM_187)) ?_
  refine x_sipush (v := 6000) C dX9_write_4 (by decide) ?_
  refine x_icmp_gt (tgt := 30) C dX9_write_7 (by decide) ?_ ?_
  · exact x_vret C dX9_write_30 hr
  · refine x_aload_n C dX9_write_10 rfl 0 rfl ?_
    refine x_get (v := .ref (xad G 73)) C 42 dX9_write_11 (xc_51 G h) rfl (by decide) rfl (fun w h => List.mem_cons_of_mem _ (iWM_X9 w h)) (by decide) rfl (C.2.2.2.2.1 _ (List.mem_cons_of_mem _ qM_188)) ?_
    refine x_aload_n C dX9_write_14 rfl 0 rfl ?_
    refine x_get (v := .int (gI h 51 43)) C 43 dX9_write_15 (xc_51 G h) rfl (by decide) rfl (fun w h => List.mem_cons_of_mem _ (iWM_X9 w h)) (by decide) rfl (C.2.2.2.2.1 _ (List.mem_cons_of_mem _ qM_187)) ?_
    refine x_iload_n C dX9_write_18 rfl 1 rfl ?_
    refine x_iast (n := 6001) C dX9_write_19 (fun g => xp_73 G g _ _) (by decide) (fun h1 => ?_)
    refine x_aload_n C dX9_write_20 rfl 0 rfl ?_
    refine x_dup C dX9_write_21 rfl ?_
    refine x_get (v := .int (gI h1 51 43)) C 43 dX9_write_22 (xc_51 G h1) rfl (by decide) rfl (fun w h => List.mem_cons_of_mem _ (iWM_X9 w h)) (by decide) rfl (C.2.2.2.2.1 _ (List.mem_cons_of_mem _ qM_187)) ?_
    refine x_iconst (v := 1) C dX9_write_25 (by decide) ?_
    refine x_iadd C dX9_write_26 ?_
    refine x_putI (ty0 := tyX9) (ty := .int) C 43 dX9_write_27 (xc_51 G h1) rfl (Nat.le_of_ble_eq_true rfl) (by decide) rfl (fun w h => List.mem_cons_of_mem _ (iWM_X9 w h)) tyX9_ok nmX9 (by decide) rfl rfl (by decide +kernel) rfl rfl (C.2.2.2.2.1 _ (List.mem_cons_of_mem _ qM_187)) (fun h2 => ?_)
    exact x_vret C dX9_write_30 hr
/-! X9_writeItem: 35 instructions -/
abbrev J_X9_writeItem (G : xG) (p : Program) (l : Launch) (e : Env) (s : State) (m : MethodId) (args : Array Value) (below : List Frame) (meth : Method) (c : Code) : Nat → List (Nat × Value) → List Value → xHp → Option (Unit × xHp) → Prop := xJ G p l e ({ frames := 1, cells := 0, slots := 0, locals := 21 } : Room) s m args below meth c 2 (fun res => MQ below (xQv G res) args s 0 0 (xA G))
def F_X9_writeItem_41 (N : Nat) (x1 : Int32) (h : xHp) : Option (Unit × xHp) := bnd2 (F_X9_write N (48 + (x1 - x1 / 10 * 10)) h) fun r1 h2 => bnd2 (F_X9_write N 93 h2) fun r3 h4 => some ((), h4)
def F_X9_writeItem (N : Nat) (p1 : Int32) (h : xHp) : Option (Unit × xHp) := if p1 < 60 then bnd2 (F_X9_write N 91 h) fun r1 h2 => if p1 ≤ 9 then F_X9_writeItem_41 N p1 h2 else bnd2 (F_X9_write N (48 + (p1 / 10)) h2) fun r3 h4 => F_X9_writeItem_41 N p1 h4 else bnd2 (F_X9_write N ((48 + p1) - 60) h) fun r5 h6 => some ((), h6)
set_option maxHeartbeats 4000000 in
set_option maxRecDepth 100000 in
theorem T_X9_writeItem_41 {G : xG} {p : Program} {l : Launch} {e : Env} {s : State} {m : MethodId} {args : Array Value} {below : List Frame} {meth : Method} {c : Code} {N : Nat} (C : xC G p s m args meth c cX9_writeItem 2 vX9_writeItem RX9) (hr : meth.sig.returnType = none) (x1 : Int32) (h : xHp) : J_X9_writeItem G p l e s m args below meth c 41 [(0, .ref (xad G 51)), (1, .int x1)] [] h (F_X9_writeItem_41 N x1 h) := by
  unfold F_X9_writeItem_41
  refine x_aload_n C dX9_writeItem_41 rfl 0 rfl ?_
  refine x_bipush (v := 48) C dX9_writeItem_42 (by decide) ?_
  refine x_iload_n C dX9_writeItem_44 rfl 1 rfl ?_
  refine x_bipush (v := 10) C dX9_writeItem_45 (by decide) ?_
  refine x_irem C dX9_writeItem_47 (by decide) ?_
  refine x_iadd C dX9_writeItem_48 ?_
  refine x_callVv C dX9_writeItem_49 (M_X9_write G l N (48 + (x1 - x1 / 10 * 10)) h) (cwV 1 C.2.2.2.2.1 (gdV gWM qM_190 qM_191 qM_192 qM_9 qM_186) rfl rfl rfl (by decide +kernel) ⟨Nat.le_of_ble_eq_true rfl, Nat.le_of_ble_eq_true rfl⟩) (xc_51 G h) (by decide) rfl rfl rfl (Nat.le_of_ble_eq_true rfl) (fun r1 h2 => ?_)
  refine x_aload_n C dX9_writeItem_52 rfl 0 rfl ?_
  refine x_bipush (v := 93) C dX9_writeItem_53 (by decide) ?_
  refine x_callVv C dX9_writeItem_55 (M_X9_write G l N 93 h2) (cwV 1 C.2.2.2.2.1 (gdV gWM qM_190 qM_191 qM_192 qM_9 qM_186) rfl rfl rfl (by decide +kernel) ⟨Nat.le_of_ble_eq_true rfl, Nat.le_of_ble_eq_true rfl⟩) (xc_51 G h2) (by decide) rfl rfl rfl (Nat.le_of_ble_eq_true rfl) (fun r3 h4 => ?_)
  exact x_vret C dX9_writeItem_58 hr
set_option maxHeartbeats 4000000 in
set_option maxRecDepth 100000 in
theorem M_X9_writeItem (G : xG) (l : Launch) (N : Nat) (p1 : Int32) (h : xHp) : ∀ r, F_X9_writeItem N p1 h = some r → Met l yX9_writeItem vX9_writeItem ({ frames := 1, cells := 0, slots := 0, locals := 21 } : Room) (xPc G [.ref (xad G 51), .int p1] h) (xQv G r) 0 0 (xA G) := by
  refine x_met (own := RX9) (cc := cX9_writeItem) (maxL := 2) (ret := none) (lv0 := [(0, .ref (xad G 51)), (1, .int p1)]) (by decide +kernel) rfl rfl (Nat.le_of_ble_eq_true rfl) rfl ?_
  intro p e s m below meth c C hr
  unfold F_X9_writeItem
  refine x_iload_n C dX9_writeItem_0 rfl 1 rfl ?_
  refine x_bipush (v := 60) C dX9_writeItem_1 (by decide) ?_
  refine x_icmp_lt (tgt := 18) C dX9_writeItem_3 (by decide) ?_ ?_
  · refine x_aload_n C dX9_writeItem_18 rfl 0 rfl ?_
    refine x_bipush (v := 91) C dX9_writeItem_19 (by decide) ?_
    refine x_callVv C dX9_writeItem_21 (M_X9_write G l N 91 h) (cwV 1 C.2.2.2.2.1 (gdV gWM qM_190 qM_191 qM_192 qM_9 qM_186) rfl rfl rfl (by decide +kernel) ⟨Nat.le_of_ble_eq_true rfl, Nat.le_of_ble_eq_true rfl⟩) (xc_51 G h) (by decide) rfl rfl rfl (Nat.le_of_ble_eq_true rfl) (fun r1 h2 => ?_)
    refine x_iload_n C dX9_writeItem_24 rfl 1 rfl ?_
    refine x_bipush (v := 9) C dX9_writeItem_25 (by decide) ?_
    refine x_icmp_le (tgt := 41) C dX9_writeItem_27 (by decide) ?_ ?_
    · exact x_sub [0, 1] rfl (T_X9_writeItem_41 C hr p1 h2)
    · refine x_aload_n C dX9_writeItem_30 rfl 0 rfl ?_
      refine x_bipush (v := 48) C dX9_writeItem_31 (by decide) ?_
      refine x_iload_n C dX9_writeItem_33 rfl 1 rfl ?_
      refine x_bipush (v := 10) C dX9_writeItem_34 (by decide) ?_
      refine x_idiv C dX9_writeItem_36 (by decide) ?_
      refine x_iadd C dX9_writeItem_37 ?_
      refine x_callVv C dX9_writeItem_38 (M_X9_write G l N (48 + (p1 / 10)) h2) (cwV 1 C.2.2.2.2.1 (gdV gWM qM_190 qM_191 qM_192 qM_9 qM_186) rfl rfl rfl (by decide +kernel) ⟨Nat.le_of_ble_eq_true rfl, Nat.le_of_ble_eq_true rfl⟩) (xc_51 G h2) (by decide) rfl rfl rfl (Nat.le_of_ble_eq_true rfl) (fun r3 h4 => ?_)
      exact x_sub [0, 1] rfl (T_X9_writeItem_41 C hr p1 h4)
  · refine x_aload_n C dX9_writeItem_6 rfl 0 rfl ?_
    refine x_bipush (v := 48) C dX9_writeItem_7 (by decide) ?_
    refine x_iload_n C dX9_writeItem_9 rfl 1 rfl ?_
    refine x_iadd C dX9_writeItem_10 ?_
    refine x_bipush (v := 60) C dX9_writeItem_11 (by decide) ?_
    refine x_isub C dX9_writeItem_13 ?_
    refine x_callVv C dX9_writeItem_14 (M_X9_write G l N ((48 + p1) - 60) h) (cwV 1 C.2.2.2.2.1 (gdV gWM qM_190 qM_191 qM_192 qM_9 qM_186) rfl rfl rfl (by decide +kernel) ⟨Nat.le_of_ble_eq_true rfl, Nat.le_of_ble_eq_true rfl⟩) (xc_51 G h) (by decide) rfl rfl rfl (Nat.le_of_ble_eq_true rfl) (fun r5 h6 => ?_)
    exact x_vret C dX9_writeItem_17 hr
/-! X9_isRefused: 45 instructions -/
abbrev J_X9_isRefused (G : xG) (p : Program) (l : Launch) (e : Env) (s : State) (m : MethodId) (args : Array Value) (below : List Frame) (meth : Method) (c : Code) : Nat → List (Nat × Value) → List Value → xHp → Option (Int32 × xHp) → Prop := xJ G p l e ({ frames := 2, cells := 0, slots := 0, locals := 56 } : Room) s m args below meth c 3 (fun res => MQ below (xQi G res) args s 0 0 (xA G))
def F_X9_isRefused_12_b (N : Nat) (k12 : Int32 → Int32 → xHp → Option (Int32 × xHp)) (x1 : Int32) (x2 : Int32) (h : xHp) : Option (Int32 × xHp) := if x1 ≤ x2 then grd (xin ((60 + x1) - 1) 70) (bnd (sI h 55 ((60 + x1) - 1).toNatClampNeg (vp_nar .boolean 0)) fun h1 => grd (xin ((60 + x1) - 1) 70) (grd (xin ((60 + x1) - 1) 70) (grd (xin ((60 + x1) - 1) 70) (bnd2 (F_X9_findRow N (gI h1 53 ((60 + x1) - 1).toNatClampNeg) (gI h1 52 ((60 + x1) - 1).toNatClampNeg) ((-1) - ((gI h1 54 ((60 + x1) - 1).toNatClampNeg).toInt64)) h1) fun r2 h3 => some (vp_nar .boolean r2, h3))))) else bnd2 (F_X9_putDifference N x2 h) fun r4 h5 => k12 x1 (x2 + 1) h5
def F_X9_isRefused_12 (N : Nat) (x1 : Int32) (x2 : Int32) (h : xHp) : Option (Int32 × xHp) := xit (F_X9_isRefused_12_b N) (fun _ _ _ => none) N x1 x2 h
def F_X9_isRefused (N : Nat) (p1 : Int32) (h : xHp) : Option (Int32 × xHp) := if p1 = 0 then some (0, h) else bnd2 (F_X9_constraintsAlone N h) fun r1 h2 => F_X9_isRefused_12 N p1 0 h2
set_option maxHeartbeats 4000000 in
set_option maxRecDepth 100000 in
theorem T_X9_isRefused_12_b {G : xG} {p : Program} {l : Launch} {e : Env} {s : State} {m : MethodId} {args : Array Value} {below : List Frame} {meth : Method} {c : Code} {N : Nat} (C : xC G p s m args meth c cX9_isRefused 3 vX9_isRefused RX9) (hr : meth.sig.returnType = (some .boolean)) {k12 : Int32 → Int32 → xHp → Option (Int32 × xHp)} (hk12 : ∀ (x1 : Int32) (x2 : Int32) (h : xHp), J_X9_isRefused G p l e s m args below meth c 12 [(0, .ref (xad G 51)), (1, .int x1), (2, .int x2)] [] h (k12 x1 x2 h)) (x1 : Int32) (x2 : Int32) (h : xHp) : J_X9_isRefused G p l e s m args below meth c 12 [(0, .ref (xad G 51)), (1, .int x1), (2, .int x2)] [] h (F_X9_isRefused_12_b N k12 x1 x2 h) := by
  unfold F_X9_isRefused_12_b
  refine x_iload_n C dX9_isRefused_12 rfl 2 rfl ?_
  refine x_iload_n C dX9_isRefused_13 rfl 1 rfl ?_
  refine x_icmp_ge (tgt := 28) C dX9_isRefused_14 (by decide) ?_ ?_
  · refine x_bipush (v := 60) C dX9_isRefused_28 (by decide) ?_
    refine x_iload_n C dX9_isRefused_30 rfl 1 rfl ?_
    refine x_iadd C dX9_isRefused_31 ?_
    refine x_iconst (v := 1) C dX9_isRefused_32 (by decide) ?_
    refine x_isub C dX9_isRefused_33 ?_
    refine x_istore_n (lv' := [(2, .int ((60 + x1) - 1)), (0, .ref (xad G 51)), (1, .int x1)]) C dX9_isRefused_34 rfl (by decide) rfl ?_
    refine x_aload_n C dX9_isRefused_35 rfl 1 rfl ?_
    refine x_get (v := .ref (xad G 55)) C 5 dX9_isRefused_36 (xc_51 G h) rfl (by decide) rfl (fun w h => List.mem_cons_of_mem _ (iWM_X9 w h)) (by decide) rfl (C.2.2.2.2.1 _ (List.mem_cons_of_mem _ qM_11)) ?_
    refine x_iload_n C dX9_isRefused_39 rfl 0 rfl ?_
    refine x_iconst (v := 0) C dX9_isRefused_40 (by decide) ?_
    refine x_zast (n := 70) C dX9_isRefused_41 (fun g => xp_55 G g _ _) (by decide) (fun h1 => ?_)
    refine x_aload_n C dX9_isRefused_42 rfl 1 rfl ?_
    refine x_aload_n C dX9_isRefused_43 rfl 1 rfl ?_
    refine x_get (v := .ref (xad G 53)) C 3 dX9_isRefused_44 (xc_51 G h1) rfl (by decide) rfl (fun w h => List.mem_cons_of_mem _ (iWM_X9 w h)) (by decide) rfl (C.2.2.2.2.1 _ (List.mem_cons_of_mem _ qM_16)) ?_
    refine x_iload_n C dX9_isRefused_47 rfl 0 rfl ?_
    refine x_iald (n := 70) C dX9_isRefused_48 (xc_53 G h1) (by decide) ?_
    refine x_aload_n C dX9_isRefused_49 rfl 1 rfl ?_
    refine x_get (v := .ref (xad G 52)) C 2 dX9_isRefused_50 (xc_51 G h1) rfl (by decide) rfl (fun w h => List.mem_cons_of_mem _ (iWM_X9 w h)) (by decide) rfl (C.2.2.2.2.1 _ (List.mem_cons_of_mem _ qM_18)) ?_
    refine x_iload_n C dX9_isRefused_53 rfl 0 rfl ?_
    refine x_iald (n := 70) C dX9_isRefused_54 (xc_52 G h1) (by decide) ?_
    refine x_ldc2 (v := (-1)) C dX9_isRefused_55 (C.2.2.2.2.1 _ (List.mem_cons_of_mem _ qM_27)) ?_
    refine x_aload_n C dX9_isRefused_58 rfl 1 rfl ?_
    refine x_get (v := .ref (xad G 54)) C 4 dX9_isRefused_59 (xc_51 G h1) rfl (by decide) rfl (fun w h => List.mem_cons_of_mem _ (iWM_X9 w h)) (by decide) rfl (C.2.2.2.2.1 _ (List.mem_cons_of_mem _ qM_17)) ?_
    refine x_iload_n C dX9_isRefused_62 rfl 0 rfl ?_
    refine x_iald (n := 70) C dX9_isRefused_63 (xc_54 G h1) (by decide) ?_
    refine x_i2l C dX9_isRefused_64 ?_
    refine x_lsub C dX9_isRefused_65 ?_
    refine x_callVi C dX9_isRefused_66 (M_X9_findRow G l N (gI h1 53 ((60 + x1) - 1).toNatClampNeg) (gI h1 52 ((60 + x1) - 1).toNatClampNeg) ((-1) - ((gI h1 54 ((60 + x1) - 1).toNatClampNeg).toInt64)) h1) (cwV 3 C.2.2.2.2.1 (gdV gWM qM_39 qM_40 qM_41 qM_9 qM_19) rfl rfl rfl (by decide +kernel) ⟨Nat.le_of_ble_eq_true rfl, Nat.le_of_ble_eq_true rfl⟩) (xc_51 G h1) (by decide) rfl rfl rfl (Nat.le_of_ble_eq_true rfl) (fun r2 h3 => ?_)
    exact x_zret C dX9_isRefused_69 hr
  · refine x_aload_n C dX9_isRefused_17 rfl 0 rfl ?_
    refine x_iload_n C dX9_isRefused_18 rfl 2 rfl ?_
    refine x_callVv C dX9_isRefused_19 (M_X9_putDifference G l N x2 h) (cwV 1 C.2.2.2.2.1 (gdV gWM qM_171 qM_172 qM_173 qM_9 qM_167) rfl rfl rfl (by decide +kernel) ⟨Nat.le_of_ble_eq_true rfl, Nat.le_of_ble_eq_true rfl⟩) (xc_51 G h) (by decide) rfl rfl rfl (Nat.le_of_ble_eq_true rfl) (fun r4 h5 => ?_)
    refine x_iinc (v := (x2 + 1)) (j := 2) (lv' := [(2, .int (x2 + 1)), (0, .ref (xad G 51)), (1, .int x1)]) C dX9_isRefused_22 rfl (by rfl) (by decide) rfl ?_
    refine x_goto (tgt := 12) C dX9_isRefused_25 (by decide) ?_
    exact x_sub [1, 2, 0] rfl (hk12 x1 (x2 + 1) h5)
set_option maxHeartbeats 4000000 in
set_option maxRecDepth 100000 in
theorem T_X9_isRefused_12_n {G : xG} {p : Program} {l : Launch} {e : Env} {s : State} {m : MethodId} {args : Array Value} {below : List Frame} {meth : Method} {c : Code} {N : Nat} (C : xC G p s m args meth c cX9_isRefused 3 vX9_isRefused RX9) (hr : meth.sig.returnType = (some .boolean)) : ∀ (n : Nat) (x1 : Int32) (x2 : Int32) (h : xHp), J_X9_isRefused G p l e s m args below meth c 12 [(0, .ref (xad G 51)), (1, .int x1), (2, .int x2)] [] h (xit (F_X9_isRefused_12_b N) (fun _ _ _ => none) n x1 x2 h) := by
  intro n
  induction n with
  | zero => intros; exact x_none
  | succ n ih => intros; exact T_X9_isRefused_12_b C hr ih _ _ _
set_option maxHeartbeats 4000000 in
set_option maxRecDepth 100000 in
theorem T_X9_isRefused_12 {G : xG} {p : Program} {l : Launch} {e : Env} {s : State} {m : MethodId} {args : Array Value} {below : List Frame} {meth : Method} {c : Code} {N : Nat} (C : xC G p s m args meth c cX9_isRefused 3 vX9_isRefused RX9) (hr : meth.sig.returnType = (some .boolean)) (x1 : Int32) (x2 : Int32) (h : xHp) : J_X9_isRefused G p l e s m args below meth c 12 [(0, .ref (xad G 51)), (1, .int x1), (2, .int x2)] [] h (F_X9_isRefused_12 N x1 x2 h) := T_X9_isRefused_12_n C hr N x1 x2 h
set_option maxHeartbeats 4000000 in
set_option maxRecDepth 100000 in
theorem M_X9_isRefused (G : xG) (l : Launch) (N : Nat) (p1 : Int32) (h : xHp) : ∀ r, F_X9_isRefused N p1 h = some r → Met l yX9_isRefused vX9_isRefused ({ frames := 2, cells := 0, slots := 0, locals := 56 } : Room) (xPc G [.ref (xad G 51), .int p1] h) (xQi G r) 0 0 (xA G) := by
  refine x_met (own := RX9) (cc := cX9_isRefused) (maxL := 3) (ret := (some .boolean)) (lv0 := [(0, .ref (xad G 51)), (1, .int p1)]) (by decide +kernel) rfl rfl (Nat.le_of_ble_eq_true rfl) rfl ?_
  intro p e s m below meth c C hr
  unfold F_X9_isRefused
  refine x_iload_n C dX9_isRefused_0 rfl 1 rfl ?_
  refine x_if_ne (tgt := 6) C dX9_isRefused_1 (by decide) ?_ ?_
  · refine x_iconst (v := 0) C dX9_isRefused_4 (by decide) ?_
    exact x_zretL C dX9_isRefused_5 hr rfl
  · refine x_aload_n C dX9_isRefused_6 rfl 0 rfl ?_
    refine x_callVv C dX9_isRefused_7 (M_X9_constraintsAlone G l N h) (cwV 0 C.2.2.2.2.1 (gdV gWM qM_36 qM_37 qM_38 qM_9 qM_10) rfl rfl rfl (by decide +kernel) ⟨Nat.le_of_ble_eq_true rfl, Nat.le_of_ble_eq_true rfl⟩) (xc_51 G h) (by decide) rfl rfl rfl (Nat.le_of_ble_eq_true rfl) (fun r1 h2 => ?_)
    refine x_iconst (v := 0) C dX9_isRefused_10 (by decide) ?_
    refine x_istore_n (lv' := [(2, .int 0), (0, .ref (xad G 51)), (1, .int p1)]) C dX9_isRefused_11 rfl (by decide) rfl ?_
    exact x_sub [1, 2, 0] rfl (T_X9_isRefused_12 C hr p1 0 h2)
/-! X9_writeLeaf: 43 instructions -/
abbrev J_X9_writeLeaf (G : xG) (p : Program) (l : Launch) (e : Env) (s : State) (m : MethodId) (args : Array Value) (below : List Frame) (meth : Method) (c : Code) : Nat → List (Nat × Value) → List Value → xHp → Option (Int32 × xHp) → Prop := xJ G p l e ({ frames := 3, cells := 0, slots := 0, locals := 78 } : Room) s m args below meth c 3 (fun res => MQ below (xQi G res) args s 0 0 (xA G))
def F_X9_writeLeaf_43_b (N : Nat) (k43 : Int32 → xHp → Option (Int32 × xHp)) (x2 : Int32) (h : xHp) : Option (Int32 × xHp) := if (gI h 51 12) ≤ x2 then bnd2 (F_X9_write N 59 h) fun r1 h2 => some (1, h2) else grd (xin x2 20) (bnd2 (F_X9_writeItem N (gI h 59 x2.toNatClampNeg) h) fun r3 h4 => k43 (x2 + 1) h4)
def F_X9_writeLeaf_43 (N : Nat) (x2 : Int32) (h : xHp) : Option (Int32 × xHp) := xit (F_X9_writeLeaf_43_b N) (fun _ _ => none) N x2 h
def F_X9_writeLeaf (N : Nat) (p1 : Int32) (h : xHp) : Option (Int32 × xHp) := bnd2 (F_X9_judged N h) fun r1 h2 => if r1 = 0 then bnd2 (F_X9_write N 46 h2) fun r3 h4 => some (1, h4) else bnd2 (F_X9_isRefused N p1 h2) fun r5 h6 => if r5 = 0 then some (0, h6) else bnd2 (F_X9_write N 33 h6) fun r7 h8 => bnd2 (F_X9_writeItem N ((60 + p1) - 1) h8) fun r9 h10 => F_X9_writeLeaf_43 N 0 h10
set_option maxHeartbeats 4000000 in
set_option maxRecDepth 100000 in
theorem T_X9_writeLeaf_43_b {G : xG} {p : Program} {l : Launch} {e : Env} {s : State} {m : MethodId} {args : Array Value} {below : List Frame} {meth : Method} {c : Code} {N : Nat} (C : xC G p s m args meth c cX9_writeLeaf 3 vX9_writeLeaf RX9) (hr : meth.sig.returnType = (some .boolean)) {k43 : Int32 → xHp → Option (Int32 × xHp)} (hk43 : ∀ (x2 : Int32) (h : xHp), J_X9_writeLeaf G p l e s m args below meth c 43 [(0, .ref (xad G 51)), (2, .int x2)] [] h (k43 x2 h)) (x2 : Int32) (h : xHp) : J_X9_writeLeaf G p l e s m args below meth c 43 [(0, .ref (xad G 51)), (2, .int x2)] [] h (F_X9_writeLeaf_43_b N k43 x2 h) := by
  unfold F_X9_writeLeaf_43_b
  refine x_iload_n C dX9_writeLeaf_43 rfl 1 rfl ?_
  refine x_aload_n C dX9_writeLeaf_44 rfl 0 rfl ?_
  refine x_get (v := .int (gI h 51 12)) C 12 dX9_writeLeaf_45 (xc_51 G h) rfl (by decide) rfl (fun w h => List.mem_cons_of_mem _ (iWM_X9 w h)) (by decide) rfl (C.2.2.2.2.1 _ (List.mem_cons_of_mem _ qM_20)) ?_
  refine x_icmp_ge (tgt := 67) C dX9_writeLeaf_48 (by decide) ?_ ?_
  · refine x_aload_n C dX9_writeLeaf_67 rfl 0 rfl ?_
    refine x_bipush (v := 59) C dX9_writeLeaf_68 (by decide) ?_
    refine x_callVv C dX9_writeLeaf_70 (M_X9_write G l N 59 h) (cwV 1 C.2.2.2.2.1 (gdV gWM qM_190 qM_191 qM_192 qM_9 qM_186) rfl rfl rfl (by decide +kernel) ⟨Nat.le_of_ble_eq_true rfl, Nat.le_of_ble_eq_true rfl⟩) (xc_51 G h) (by decide) rfl rfl rfl (Nat.le_of_ble_eq_true rfl) (fun r1 h2 => ?_)
    refine x_iconst (v := 1) C dX9_writeLeaf_73 (by decide) ?_
    exact x_zretL C dX9_writeLeaf_74 hr rfl
  · refine x_aload_n C dX9_writeLeaf_51 rfl 0 rfl ?_
    refine x_aload_n C dX9_writeLeaf_52 rfl 0 rfl ?_
    refine x_get (v := .ref (xad G 59)) C 11 dX9_writeLeaf_53 (xc_51 G h) rfl (by decide) rfl (fun w h => List.mem_cons_of_mem _ (iWM_X9 w h)) (by decide) rfl (C.2.2.2.2.1 _ (List.mem_cons_of_mem _ qM_21)) ?_
    refine x_iload_n C dX9_writeLeaf_56 rfl 1 rfl ?_
    refine x_iald (n := 20) C dX9_writeLeaf_57 (xc_59 G h) (by decide) ?_
    refine x_callVv C dX9_writeLeaf_58 (M_X9_writeItem G l N (gI h 59 x2.toNatClampNeg) h) (cwV 1 C.2.2.2.2.1 (gdV gWM qM_197 qM_198 qM_199 qM_9 qM_189) rfl rfl rfl (by decide +kernel) ⟨Nat.le_of_ble_eq_true rfl, Nat.le_of_ble_eq_true rfl⟩) (xc_51 G h) (by decide) rfl rfl rfl (Nat.le_of_ble_eq_true rfl) (fun r3 h4 => ?_)
    refine x_iinc (v := (x2 + 1)) (j := 1) (lv' := [(2, .int (x2 + 1)), (0, .ref (xad G 51))]) C dX9_writeLeaf_61 rfl (by rfl) (by decide) rfl ?_
    refine x_goto (tgt := 43) C dX9_writeLeaf_64 (by decide) ?_
    exact x_sub [1, 0] rfl (hk43 (x2 + 1) h4)
set_option maxHeartbeats 4000000 in
set_option maxRecDepth 100000 in
theorem T_X9_writeLeaf_43_n {G : xG} {p : Program} {l : Launch} {e : Env} {s : State} {m : MethodId} {args : Array Value} {below : List Frame} {meth : Method} {c : Code} {N : Nat} (C : xC G p s m args meth c cX9_writeLeaf 3 vX9_writeLeaf RX9) (hr : meth.sig.returnType = (some .boolean)) : ∀ (n : Nat) (x2 : Int32) (h : xHp), J_X9_writeLeaf G p l e s m args below meth c 43 [(0, .ref (xad G 51)), (2, .int x2)] [] h (xit (F_X9_writeLeaf_43_b N) (fun _ _ => none) n x2 h) := by
  intro n
  induction n with
  | zero => intros; exact x_none
  | succ n ih => intros; exact T_X9_writeLeaf_43_b C hr ih _ _
set_option maxHeartbeats 4000000 in
set_option maxRecDepth 100000 in
theorem T_X9_writeLeaf_43 {G : xG} {p : Program} {l : Launch} {e : Env} {s : State} {m : MethodId} {args : Array Value} {below : List Frame} {meth : Method} {c : Code} {N : Nat} (C : xC G p s m args meth c cX9_writeLeaf 3 vX9_writeLeaf RX9) (hr : meth.sig.returnType = (some .boolean)) (x2 : Int32) (h : xHp) : J_X9_writeLeaf G p l e s m args below meth c 43 [(0, .ref (xad G 51)), (2, .int x2)] [] h (F_X9_writeLeaf_43 N x2 h) := T_X9_writeLeaf_43_n C hr N x2 h
set_option maxHeartbeats 4000000 in
set_option maxRecDepth 100000 in
theorem M_X9_writeLeaf (G : xG) (l : Launch) (N : Nat) (p1 : Int32) (h : xHp) : ∀ r, F_X9_writeLeaf N p1 h = some r → Met l yX9_writeLeaf vX9_writeLeaf ({ frames := 3, cells := 0, slots := 0, locals := 78 } : Room) (xPc G [.ref (xad G 51), .int p1] h) (xQi G r) 0 0 (xA G) := by
  refine x_met (own := RX9) (cc := cX9_writeLeaf) (maxL := 3) (ret := (some .boolean)) (lv0 := [(0, .ref (xad G 51)), (1, .int p1)]) (by decide +kernel) rfl rfl (Nat.le_of_ble_eq_true rfl) rfl ?_
  intro p e s m below meth c C hr
  unfold F_X9_writeLeaf
  refine x_aload_n C dX9_writeLeaf_0 rfl 0 rfl ?_
  refine x_callVi C dX9_writeLeaf_1 (M_X9_judged G l N h) (cwV 0 C.2.2.2.2.1 (gdV gWM qM_168 qM_169 qM_170 qM_9 qM_164) rfl rfl rfl (by decide +kernel) ⟨Nat.le_of_ble_eq_true rfl, Nat.le_of_ble_eq_true rfl⟩) (xc_51 G h) (by decide) rfl rfl rfl (Nat.le_of_ble_eq_true rfl) (fun r1 h2 => ?_)
  refine x_if_ne (tgt := 15) C dX9_writeLeaf_4 (by decide) ?_ ?_
  · refine x_aload_n C dX9_writeLeaf_7 rfl 0 rfl ?_
    refine x_bipush (v := 46) C dX9_writeLeaf_8 (by decide) ?_
    refine x_callVv C dX9_writeLeaf_10 (M_X9_write G l N 46 h2) (cwV 1 C.2.2.2.2.1 (gdV gWM qM_190 qM_191 qM_192 qM_9 qM_186) rfl rfl rfl (by decide +kernel) ⟨Nat.le_of_ble_eq_true rfl, Nat.le_of_ble_eq_true rfl⟩) (xc_51 G h2) (by decide) rfl rfl rfl (Nat.le_of_ble_eq_true rfl) (fun r3 h4 => ?_)
    refine x_iconst (v := 1) C dX9_writeLeaf_13 (by decide) ?_
    exact x_zretL C dX9_writeLeaf_14 hr rfl
  · refine x_aload_n C dX9_writeLeaf_15 rfl 0 rfl ?_
    refine x_iload_n C dX9_writeLeaf_16 rfl 1 rfl ?_
    refine x_callVi C dX9_writeLeaf_17 (M_X9_isRefused G l N p1 h2) (cwV 1 C.2.2.2.2.1 (gdV gWM qM_194 qM_195 qM_196 qM_9 qM_193) rfl rfl rfl (by decide +kernel) ⟨Nat.le_of_ble_eq_true rfl, Nat.le_of_ble_eq_true rfl⟩) (xc_51 G h2) (by decide) rfl rfl rfl (Nat.le_of_ble_eq_true rfl) (fun r5 h6 => ?_)
    refine x_if_ne (tgt := 25) C dX9_writeLeaf_20 (by decide) ?_ ?_
    · refine x_iconst (v := 0) C dX9_writeLeaf_23 (by decide) ?_
      exact x_zretL C dX9_writeLeaf_24 hr rfl
    · refine x_aload_n C dX9_writeLeaf_25 rfl 0 rfl ?_
      refine x_bipush (v := 33) C dX9_writeLeaf_26 (by decide) ?_
      refine x_callVv C dX9_writeLeaf_28 (M_X9_write G l N 33 h6) (cwV 1 C.2.2.2.2.1 (gdV gWM qM_190 qM_191 qM_192 qM_9 qM_186) rfl rfl rfl (by decide +kernel) ⟨Nat.le_of_ble_eq_true rfl, Nat.le_of_ble_eq_true rfl⟩) (xc_51 G h6) (by decide) rfl rfl rfl (Nat.le_of_ble_eq_true rfl) (fun r7 h8 => ?_)
      refine x_aload_n C dX9_writeLeaf_31 rfl 0 rfl ?_
      refine x_bipush (v := 60) C dX9_writeLeaf_32 (by decide) ?_
      refine x_iload_n C dX9_writeLeaf_34 rfl 1 rfl ?_
      refine x_iadd C dX9_writeLeaf_35 ?_
      refine x_iconst (v := 1) C dX9_writeLeaf_36 (by decide) ?_
      refine x_isub C dX9_writeLeaf_37 ?_
      refine x_callVv C dX9_writeLeaf_38 (M_X9_writeItem G l N ((60 + p1) - 1) h8) (cwV 1 C.2.2.2.2.1 (gdV gWM qM_197 qM_198 qM_199 qM_9 qM_189) rfl rfl rfl (by decide +kernel) ⟨Nat.le_of_ble_eq_true rfl, Nat.le_of_ble_eq_true rfl⟩) (xc_51 G h8) (by decide) rfl rfl rfl (Nat.le_of_ble_eq_true rfl) (fun r9 h10 => ?_)
      refine x_iconst (v := 0) C dX9_writeLeaf_41 (by decide) ?_
      refine x_istore_n (lv' := [(2, .int 0), (0, .ref (xad G 51)), (1, .int p1)]) C dX9_writeLeaf_42 rfl (by decide) rfl ?_
      exact x_sub [1, 0] rfl (T_X9_writeLeaf_43 C hr 0 h10)
/-! X9_writeProof: 78 instructions -/
abbrev J_X9_writeProof (G : xG) (p : Program) (l : Launch) (e : Env) (s : State) (m : MethodId) (args : Array Value) (below : List Frame) (meth : Method) (c : Code) : Nat → List (Nat × Value) → List Value → xHp → Option (Unit × xHp) → Prop := xJ G p l e ({ frames := 4, cells := 0, slots := 0, locals := 100 } : Room) s m args below meth c 3 (fun res => MQ below (xQv G res) args s 0 0 (xA G))
def F_X9_writeProof_109 (N : Nat) (k25 : Int32 → Int32 → xHp → Option (Unit × xHp)) (x1 : Int32) (x2 : Int32) (h : xHp) : Option (Unit × xHp) := if x1 = 0 then k25 x1 0 h else bnd2 (F_X9_write N 44 h) fun r1 h2 => grd (xin (x1 - 1) 10) (bnd (sI h2 71 (x1 - 1).toNatClampNeg 1) fun h3 => k25 x1 x2 h3)
def F_X9_writeProof_74_b (N : Nat) (k25 : Int32 → Int32 → xHp → Option (Unit × xHp)) (k74 : Int32 → Int32 → xHp → Option (Unit × xHp)) (x1 : Int32) (x2 : Int32) (h : xHp) : Option (Unit × xHp) := if x1 ≤ 0 then F_X9_writeProof_109 N k25 x1 x2 h else grd (xin (x1 - 1) 10) (if (gI h 71 (x1 - 1).toNatClampNeg) = 1 then grd (xin (x1 + (-1)) 10) (bnd (sI h 71 (x1 + (-1)).toNatClampNeg 2) fun h1 => bnd2 (F_X9_write N 41 h1) fun r2 h3 => k74 (x1 + (-1)) x2 h3) else F_X9_writeProof_109 N k25 x1 x2 h)
def F_X9_writeProof_74 (N : Nat) (k25 : Int32 → Int32 → xHp → Option (Unit × xHp)) (x1 : Int32) (x2 : Int32) (h : xHp) : Option (Unit × xHp) := xit (F_X9_writeProof_74_b N k25) (fun _ _ _ => none) N x1 x2 h
def F_X9_writeProof_25_b (N : Nat) (k25 : Int32 → Int32 → xHp → Option (Unit × xHp)) (x1 : Int32) (x2 : Int32) (h : xHp) : Option (Unit × xHp) := if x2 = 0 then some ((), h) else if (6000 : Int32) < (gI h 51 43) then some ((), h) else bnd2 (F_X9_writeLeaf N x1 h) fun r1 h2 => if r1 = 0 then bnd2 (F_X9_write N (48 + x1) h2) fun r3 h4 => bnd2 (F_X9_write N 40 h4) fun r5 h6 => grd (xin x1 10) (bnd (sI h6 71 x1.toNatClampNeg 0) fun h7 => k25 (x1 + 1) x2 h7) else F_X9_writeProof_74 N k25 x1 x2 h2
def F_X9_writeProof_25 (N : Nat) (x1 : Int32) (x2 : Int32) (h : xHp) : Option (Unit × xHp) := xit (F_X9_writeProof_25_b N) (fun _ _ _ => none) N x1 x2 h
def F_X9_writeProof_2_b (N : Nat) (k2 : Int32 → xHp → Option (Unit × xHp)) (x1 : Int32) (h : xHp) : Option (Unit × xHp) := if 10 ≤ x1 then F_X9_writeProof_25 N 0 1 h else grd (xin x1 10) (bnd (sI h 71 x1.toNatClampNeg 2) fun h1 => k2 (x1 + 1) h1)
def F_X9_writeProof_2 (N : Nat) (x1 : Int32) (h : xHp) : Option (Unit × xHp) := xit (F_X9_writeProof_2_b N) (fun _ _ => none) N x1 h
def F_X9_writeProof (N : Nat) (h : xHp) : Option (Unit × xHp) := F_X9_writeProof_2 N 0 h
set_option maxHeartbeats 4000000 in
set_option maxRecDepth 100000 in
theorem T_X9_writeProof_109 {G : xG} {p : Program} {l : Launch} {e : Env} {s : State} {m : MethodId} {args : Array Value} {below : List Frame} {meth : Method} {c : Code} {N : Nat} (C : xC G p s m args meth c cX9_writeProof 3 vX9_writeProof RX9) (hr : meth.sig.returnType = none) {k25 : Int32 → Int32 → xHp → Option (Unit × xHp)} (hk25 : ∀ (x1 : Int32) (x2 : Int32) (h : xHp), J_X9_writeProof G p l e s m args below meth c 25 [(0, .ref (xad G 51)), (1, .int x1), (2, .int x2)] [] h (k25 x1 x2 h)) (x1 : Int32) (x2 : Int32) (h : xHp) : J_X9_writeProof G p l e s m args below meth c 109 [(0, .ref (xad G 51)), (1, .int x1), (2, .int x2)] [] h (F_X9_writeProof_109 N k25 x1 x2 h) := by
  unfold F_X9_writeProof_109
  refine x_iload_n C dX9_writeProof_109 rfl 1 rfl ?_
  refine x_if_ne (tgt := 118) C dX9_writeProof_110 (by decide) ?_ ?_
  · refine x_iconst (v := 0) C dX9_writeProof_113 (by decide) ?_
    refine x_istore_n (lv' := [(2, .int 0), (0, .ref (xad G 51)), (1, .int x1)]) C dX9_writeProof_114 rfl (by decide) rfl ?_
    refine x_goto (tgt := 25) C dX9_writeProof_115 (by decide) ?_
    exact x_sub [1, 2, 0] rfl (hk25 x1 0 h)
  · refine x_aload_n C dX9_writeProof_118 rfl 0 rfl ?_
    refine x_bipush (v := 44) C dX9_writeProof_119 (by decide) ?_
    refine x_callVv C dX9_writeProof_121 (M_X9_write G l N 44 h) (cwV 1 C.2.2.2.2.1 (gdV gWM qM_190 qM_191 qM_192 qM_9 qM_186) rfl rfl rfl (by decide +kernel) ⟨Nat.le_of_ble_eq_true rfl, Nat.le_of_ble_eq_true rfl⟩) (xc_51 G h) (by decide) rfl rfl rfl (Nat.le_of_ble_eq_true rfl) (fun r1 h2 => ?_)
    refine x_aload_n C dX9_writeProof_124 rfl 0 rfl ?_
    refine x_get (v := .ref (xad G 71)) C 40 dX9_writeProof_125 (xc_51 G h2) rfl (by decide) rfl (fun w h => List.mem_cons_of_mem _ (iWM_X9 w h)) (by decide) rfl (C.2.2.2.2.1 _ (List.mem_cons_of_mem _ qM_166)) ?_
    refine x_iload_n C dX9_writeProof_128 rfl 1 rfl ?_
    refine x_iconst (v := 1) C dX9_writeProof_129 (by decide) ?_
    refine x_isub C dX9_writeProof_130 ?_
    refine x_iconst (v := 1) C dX9_writeProof_131 (by decide) ?_
    refine x_iast (n := 10) C dX9_writeProof_132 (fun g => xp_71 G g _ _) (by decide) (fun h3 => ?_)
    refine x_goto (tgt := 25) C dX9_writeProof_133 (by decide) ?_
    exact x_sub [0, 1, 2] rfl (hk25 x1 x2 h3)
set_option maxHeartbeats 4000000 in
set_option maxRecDepth 100000 in
theorem T_X9_writeProof_74_b {G : xG} {p : Program} {l : Launch} {e : Env} {s : State} {m : MethodId} {args : Array Value} {below : List Frame} {meth : Method} {c : Code} {N : Nat} (C : xC G p s m args meth c cX9_writeProof 3 vX9_writeProof RX9) (hr : meth.sig.returnType = none) {k25 : Int32 → Int32 → xHp → Option (Unit × xHp)} (hk25 : ∀ (x1 : Int32) (x2 : Int32) (h : xHp), J_X9_writeProof G p l e s m args below meth c 25 [(0, .ref (xad G 51)), (1, .int x1), (2, .int x2)] [] h (k25 x1 x2 h)) {k74 : Int32 → Int32 → xHp → Option (Unit × xHp)} (hk74 : ∀ (x1 : Int32) (x2 : Int32) (h : xHp), J_X9_writeProof G p l e s m args below meth c 74 [(0, .ref (xad G 51)), (1, .int x1), (2, .int x2)] [] h (k74 x1 x2 h)) (x1 : Int32) (x2 : Int32) (h : xHp) : J_X9_writeProof G p l e s m args below meth c 74 [(0, .ref (xad G 51)), (1, .int x1), (2, .int x2)] [] h (F_X9_writeProof_74_b N k25 k74 x1 x2 h) := by
  unfold F_X9_writeProof_74_b
  refine x_iload_n C dX9_writeProof_74 rfl 1 rfl ?_
  refine x_if_le (tgt := 109) C dX9_writeProof_75 (by decide) ?_ ?_
  · exact x_sub [0, 1, 2] rfl (T_X9_writeProof_109 C hr hk25 x1 x2 h)
  · refine x_aload_n C dX9_writeProof_78 rfl 0 rfl ?_
    refine x_get (v := .ref (xad G 71)) C 40 dX9_writeProof_79 (xc_51 G h) rfl (by decide) rfl (fun w h => List.mem_cons_of_mem _ (iWM_X9 w h)) (by decide) rfl (C.2.2.2.2.1 _ (List.mem_cons_of_mem _ qM_166)) ?_
    refine x_iload_n C dX9_writeProof_82 rfl 1 rfl ?_
    refine x_iconst (v := 1) C dX9_writeProof_83 (by decide) ?_
    refine x_isub C dX9_writeProof_84 ?_
    refine x_iald (n := 10) C dX9_writeProof_85 (xc_71 G h) (by decide) ?_
    refine x_iconst (v := 1) C dX9_writeProof_86 (by decide) ?_
    refine x_icmp_ne (tgt := 109) C dX9_writeProof_87 (by decide) ?_ ?_
    · refine x_iinc (v := (x1 + (-1))) (j := 1) (lv' := [(1, .int (x1 + (-1))), (0, .ref (xad G 51)), (2, .int x2)]) C dX9_writeProof_90 rfl (by rfl) (by decide) rfl ?_
      refine x_aload_n C dX9_writeProof_93 rfl 1 rfl ?_
      refine x_get (v := .ref (xad G 71)) C 40 dX9_writeProof_94 (xc_51 G h) rfl (by decide) rfl (fun w h => List.mem_cons_of_mem _ (iWM_X9 w h)) (by decide) rfl (C.2.2.2.2.1 _ (List.mem_cons_of_mem _ qM_166)) ?_
      refine x_iload_n C dX9_writeProof_97 rfl 0 rfl ?_
      refine x_iconst (v := 2) C dX9_writeProof_98 (by decide) ?_
      refine x_iast (n := 10) C dX9_writeProof_99 (fun g => xp_71 G g _ _) (by decide) (fun h1 => ?_)
      refine x_aload_n C dX9_writeProof_100 rfl 1 rfl ?_
      refine x_bipush (v := 41) C dX9_writeProof_101 (by decide) ?_
      refine x_callVv C dX9_writeProof_103 (M_X9_write G l N 41 h1) (cwV 1 C.2.2.2.2.1 (gdV gWM qM_190 qM_191 qM_192 qM_9 qM_186) rfl rfl rfl (by decide +kernel) ⟨Nat.le_of_ble_eq_true rfl, Nat.le_of_ble_eq_true rfl⟩) (xc_51 G h1) (by decide) rfl rfl rfl (Nat.le_of_ble_eq_true rfl) (fun r2 h3 => ?_)
      refine x_goto (tgt := 74) C dX9_writeProof_106 (by decide) ?_
      exact x_sub [1, 0, 2] rfl (hk74 (x1 + (-1)) x2 h3)
    · exact x_sub [0, 1, 2] rfl (T_X9_writeProof_109 C hr hk25 x1 x2 h)
set_option maxHeartbeats 4000000 in
set_option maxRecDepth 100000 in
theorem T_X9_writeProof_74_n {G : xG} {p : Program} {l : Launch} {e : Env} {s : State} {m : MethodId} {args : Array Value} {below : List Frame} {meth : Method} {c : Code} {N : Nat} (C : xC G p s m args meth c cX9_writeProof 3 vX9_writeProof RX9) (hr : meth.sig.returnType = none) {k25 : Int32 → Int32 → xHp → Option (Unit × xHp)} (hk25 : ∀ (x1 : Int32) (x2 : Int32) (h : xHp), J_X9_writeProof G p l e s m args below meth c 25 [(0, .ref (xad G 51)), (1, .int x1), (2, .int x2)] [] h (k25 x1 x2 h)) : ∀ (n : Nat) (x1 : Int32) (x2 : Int32) (h : xHp), J_X9_writeProof G p l e s m args below meth c 74 [(0, .ref (xad G 51)), (1, .int x1), (2, .int x2)] [] h (xit (F_X9_writeProof_74_b N k25) (fun _ _ _ => none) n x1 x2 h) := by
  intro n
  induction n with
  | zero => intros; exact x_none
  | succ n ih => intros; exact T_X9_writeProof_74_b C hr hk25 ih _ _ _
set_option maxHeartbeats 4000000 in
set_option maxRecDepth 100000 in
theorem T_X9_writeProof_74 {G : xG} {p : Program} {l : Launch} {e : Env} {s : State} {m : MethodId} {args : Array Value} {below : List Frame} {meth : Method} {c : Code} {N : Nat} (C : xC G p s m args meth c cX9_writeProof 3 vX9_writeProof RX9) (hr : meth.sig.returnType = none) {k25 : Int32 → Int32 → xHp → Option (Unit × xHp)} (hk25 : ∀ (x1 : Int32) (x2 : Int32) (h : xHp), J_X9_writeProof G p l e s m args below meth c 25 [(0, .ref (xad G 51)), (1, .int x1), (2, .int x2)] [] h (k25 x1 x2 h)) (x1 : Int32) (x2 : Int32) (h : xHp) : J_X9_writeProof G p l e s m args below meth c 74 [(0, .ref (xad G 51)), (1, .int x1), (2, .int x2)] [] h (F_X9_writeProof_74 N k25 x1 x2 h) := T_X9_writeProof_74_n C hr hk25 N x1 x2 h
set_option maxHeartbeats 4000000 in
set_option maxRecDepth 100000 in
theorem T_X9_writeProof_25_b {G : xG} {p : Program} {l : Launch} {e : Env} {s : State} {m : MethodId} {args : Array Value} {below : List Frame} {meth : Method} {c : Code} {N : Nat} (C : xC G p s m args meth c cX9_writeProof 3 vX9_writeProof RX9) (hr : meth.sig.returnType = none) {k25 : Int32 → Int32 → xHp → Option (Unit × xHp)} (hk25 : ∀ (x1 : Int32) (x2 : Int32) (h : xHp), J_X9_writeProof G p l e s m args below meth c 25 [(0, .ref (xad G 51)), (1, .int x1), (2, .int x2)] [] h (k25 x1 x2 h)) (x1 : Int32) (x2 : Int32) (h : xHp) : J_X9_writeProof G p l e s m args below meth c 25 [(0, .ref (xad G 51)), (1, .int x1), (2, .int x2)] [] h (F_X9_writeProof_25_b N k25 x1 x2 h) := by
  unfold F_X9_writeProof_25_b
  refine x_iload_n C dX9_writeProof_25 rfl 2 rfl ?_
  refine x_if_eq (tgt := 136) C dX9_writeProof_26 (by decide) ?_ ?_
  · exact x_vret C dX9_writeProof_136 hr
  · refine x_aload_n C dX9_writeProof_29 rfl 0 rfl ?_
    refine x_get (v := .int (gI h 51 43)) C 43 dX9_writeProof_30 (xc_51 G h) rfl (by decide) rfl (fun w h => List.mem_cons_of_mem _ (iWM_X9 w h)) (by decide) rfl (C.2.2.2.2.1 _ (List.mem_cons_of_mem _ qM_187)) ?_
    refine x_sipush (v := 6000) C dX9_writeProof_33 (by decide) ?_
    refine x_icmp_gt (tgt := 136) C dX9_writeProof_36 (by decide) ?_ ?_
    · exact x_vret C dX9_writeProof_136 hr
    · refine x_aload_n C dX9_writeProof_39 rfl 0 rfl ?_
      refine x_iload_n C dX9_writeProof_40 rfl 1 rfl ?_
      refine x_callVi C dX9_writeProof_41 (M_X9_writeLeaf G l N x1 h) (cwV 1 C.2.2.2.2.1 (gdV gWM qM_201 qM_202 qM_203 qM_9 qM_200) rfl rfl rfl (by decide +kernel) ⟨Nat.le_of_ble_eq_true rfl, Nat.le_of_ble_eq_true rfl⟩) (xc_51 G h) (by decide) rfl rfl rfl (Nat.le_of_ble_eq_true rfl) (fun r1 h2 => ?_)
      refine x_if_ne (tgt := 74) C dX9_writeProof_44 (by decide) ?_ ?_
      · refine x_aload_n C dX9_writeProof_47 rfl 0 rfl ?_
        refine x_bipush (v := 48) C dX9_writeProof_48 (by decide) ?_
        refine x_iload_n C dX9_writeProof_50 rfl 1 rfl ?_
        refine x_iadd C dX9_writeProof_51 ?_
        refine x_callVv C dX9_writeProof_52 (M_X9_write G l N (48 + x1) h2) (cwV 1 C.2.2.2.2.1 (gdV gWM qM_190 qM_191 qM_192 qM_9 qM_186) rfl rfl rfl (by decide +kernel) ⟨Nat.le_of_ble_eq_true rfl, Nat.le_of_ble_eq_true rfl⟩) (xc_51 G h2) (by decide) rfl rfl rfl (Nat.le_of_ble_eq_true rfl) (fun r3 h4 => ?_)
        refine x_aload_n C dX9_writeProof_55 rfl 0 rfl ?_
        refine x_bipush (v := 40) C dX9_writeProof_56 (by decide) ?_
        refine x_callVv C dX9_writeProof_58 (M_X9_write G l N 40 h4) (cwV 1 C.2.2.2.2.1 (gdV gWM qM_190 qM_191 qM_192 qM_9 qM_186) rfl rfl rfl (by decide +kernel) ⟨Nat.le_of_ble_eq_true rfl, Nat.le_of_ble_eq_true rfl⟩) (xc_51 G h4) (by decide) rfl rfl rfl (Nat.le_of_ble_eq_true rfl) (fun r5 h6 => ?_)
        refine x_aload_n C dX9_writeProof_61 rfl 0 rfl ?_
        refine x_get (v := .ref (xad G 71)) C 40 dX9_writeProof_62 (xc_51 G h6) rfl (by decide) rfl (fun w h => List.mem_cons_of_mem _ (iWM_X9 w h)) (by decide) rfl (C.2.2.2.2.1 _ (List.mem_cons_of_mem _ qM_166)) ?_
        refine x_iload_n C dX9_writeProof_65 rfl 1 rfl ?_
        refine x_iconst (v := 0) C dX9_writeProof_66 (by decide) ?_
        refine x_iast (n := 10) C dX9_writeProof_67 (fun g => xp_71 G g _ _) (by decide) (fun h7 => ?_)
        refine x_iinc (v := (x1 + 1)) (j := 1) (lv' := [(1, .int (x1 + 1)), (0, .ref (xad G 51)), (2, .int x2)]) C dX9_writeProof_68 rfl (by rfl) (by decide) rfl ?_
        refine x_goto (tgt := 25) C dX9_writeProof_71 (by decide) ?_
        exact x_sub [1, 0, 2] rfl (hk25 (x1 + 1) x2 h7)
      · exact x_sub [0, 1, 2] rfl (T_X9_writeProof_74 C hr hk25 x1 x2 h2)
set_option maxHeartbeats 4000000 in
set_option maxRecDepth 100000 in
theorem T_X9_writeProof_25_n {G : xG} {p : Program} {l : Launch} {e : Env} {s : State} {m : MethodId} {args : Array Value} {below : List Frame} {meth : Method} {c : Code} {N : Nat} (C : xC G p s m args meth c cX9_writeProof 3 vX9_writeProof RX9) (hr : meth.sig.returnType = none) : ∀ (n : Nat) (x1 : Int32) (x2 : Int32) (h : xHp), J_X9_writeProof G p l e s m args below meth c 25 [(0, .ref (xad G 51)), (1, .int x1), (2, .int x2)] [] h (xit (F_X9_writeProof_25_b N) (fun _ _ _ => none) n x1 x2 h) := by
  intro n
  induction n with
  | zero => intros; exact x_none
  | succ n ih => intros; exact T_X9_writeProof_25_b C hr ih _ _ _
set_option maxHeartbeats 4000000 in
set_option maxRecDepth 100000 in
theorem T_X9_writeProof_25 {G : xG} {p : Program} {l : Launch} {e : Env} {s : State} {m : MethodId} {args : Array Value} {below : List Frame} {meth : Method} {c : Code} {N : Nat} (C : xC G p s m args meth c cX9_writeProof 3 vX9_writeProof RX9) (hr : meth.sig.returnType = none) (x1 : Int32) (x2 : Int32) (h : xHp) : J_X9_writeProof G p l e s m args below meth c 25 [(0, .ref (xad G 51)), (1, .int x1), (2, .int x2)] [] h (F_X9_writeProof_25 N x1 x2 h) := T_X9_writeProof_25_n C hr N x1 x2 h
set_option maxHeartbeats 4000000 in
set_option maxRecDepth 100000 in
theorem T_X9_writeProof_2_b {G : xG} {p : Program} {l : Launch} {e : Env} {s : State} {m : MethodId} {args : Array Value} {below : List Frame} {meth : Method} {c : Code} {N : Nat} (C : xC G p s m args meth c cX9_writeProof 3 vX9_writeProof RX9) (hr : meth.sig.returnType = none) {k2 : Int32 → xHp → Option (Unit × xHp)} (hk2 : ∀ (x1 : Int32) (h : xHp), J_X9_writeProof G p l e s m args below meth c 2 [(0, .ref (xad G 51)), (1, .int x1)] [] h (k2 x1 h)) (x1 : Int32) (h : xHp) : J_X9_writeProof G p l e s m args below meth c 2 [(0, .ref (xad G 51)), (1, .int x1)] [] h (F_X9_writeProof_2_b N k2 x1 h) := by
  unfold F_X9_writeProof_2_b
  refine x_iload_n C dX9_writeProof_2 rfl 1 rfl ?_
  refine x_bipush (v := 10) C dX9_writeProof_3 (by decide) ?_
  refine x_icmp_ge (tgt := 21) C dX9_writeProof_5 (by decide) ?_ ?_
  · refine x_iconst (v := 0) C dX9_writeProof_21 (by decide) ?_
    refine x_istore_n (lv' := [(1, .int 0), (0, .ref (xad G 51))]) C dX9_writeProof_22 rfl (by decide) rfl ?_
    refine x_iconst (v := 1) C dX9_writeProof_23 (by decide) ?_
    refine x_istore_n (lv' := [(2, .int 1), (1, .int 0), (0, .ref (xad G 51))]) C dX9_writeProof_24 rfl (by decide) rfl ?_
    exact x_sub [2, 1, 0] rfl (T_X9_writeProof_25 C hr 0 1 h)
  · refine x_aload_n C dX9_writeProof_8 rfl 0 rfl ?_
    refine x_get (v := .ref (xad G 71)) C 40 dX9_writeProof_9 (xc_51 G h) rfl (by decide) rfl (fun w h => List.mem_cons_of_mem _ (iWM_X9 w h)) (by decide) rfl (C.2.2.2.2.1 _ (List.mem_cons_of_mem _ qM_166)) ?_
    refine x_iload_n C dX9_writeProof_12 rfl 1 rfl ?_
    refine x_iconst (v := 2) C dX9_writeProof_13 (by decide) ?_
    refine x_iast (n := 10) C dX9_writeProof_14 (fun g => xp_71 G g _ _) (by decide) (fun h1 => ?_)
    refine x_iinc (v := (x1 + 1)) (j := 1) (lv' := [(1, .int (x1 + 1)), (0, .ref (xad G 51))]) C dX9_writeProof_15 rfl (by rfl) (by decide) rfl ?_
    refine x_goto (tgt := 2) C dX9_writeProof_18 (by decide) ?_
    exact x_sub [1, 0] rfl (hk2 (x1 + 1) h1)
set_option maxHeartbeats 4000000 in
set_option maxRecDepth 100000 in
theorem T_X9_writeProof_2_n {G : xG} {p : Program} {l : Launch} {e : Env} {s : State} {m : MethodId} {args : Array Value} {below : List Frame} {meth : Method} {c : Code} {N : Nat} (C : xC G p s m args meth c cX9_writeProof 3 vX9_writeProof RX9) (hr : meth.sig.returnType = none) : ∀ (n : Nat) (x1 : Int32) (h : xHp), J_X9_writeProof G p l e s m args below meth c 2 [(0, .ref (xad G 51)), (1, .int x1)] [] h (xit (F_X9_writeProof_2_b N) (fun _ _ => none) n x1 h) := by
  intro n
  induction n with
  | zero => intros; exact x_none
  | succ n ih => intros; exact T_X9_writeProof_2_b C hr ih _ _
set_option maxHeartbeats 4000000 in
set_option maxRecDepth 100000 in
theorem T_X9_writeProof_2 {G : xG} {p : Program} {l : Launch} {e : Env} {s : State} {m : MethodId} {args : Array Value} {below : List Frame} {meth : Method} {c : Code} {N : Nat} (C : xC G p s m args meth c cX9_writeProof 3 vX9_writeProof RX9) (hr : meth.sig.returnType = none) (x1 : Int32) (h : xHp) : J_X9_writeProof G p l e s m args below meth c 2 [(0, .ref (xad G 51)), (1, .int x1)] [] h (F_X9_writeProof_2 N x1 h) := T_X9_writeProof_2_n C hr N x1 h
set_option maxHeartbeats 4000000 in
set_option maxRecDepth 100000 in
theorem M_X9_writeProof (G : xG) (l : Launch) (N : Nat) (h : xHp) : ∀ r, F_X9_writeProof N h = some r → Met l yX9_writeProof vX9_writeProof ({ frames := 4, cells := 0, slots := 0, locals := 100 } : Room) (xPc G [.ref (xad G 51)] h) (xQv G r) 0 0 (xA G) := by
  refine x_met (own := RX9) (cc := cX9_writeProof) (maxL := 3) (ret := none) (lv0 := [(0, .ref (xad G 51))]) (by decide +kernel) rfl rfl (Nat.le_of_ble_eq_true rfl) rfl ?_
  intro p e s m below meth c C hr
  unfold F_X9_writeProof
  refine x_iconst (v := 0) C dX9_writeProof_0 (by decide) ?_
  refine x_istore_n (lv' := [(1, .int 0), (0, .ref (xad G 51))]) C dX9_writeProof_1 rfl (by decide) rfl ?_
  exact x_sub [1, 0] rfl (T_X9_writeProof_2 C hr 0 h)
/-! X9_prove: 28 instructions -/
abbrev J_X9_prove (G : xG) (p : Program) (l : Launch) (e : Env) (s : State) (m : MethodId) (args : Array Value) (below : List Frame) (meth : Method) (c : Code) : Nat → List (Nat × Value) → List Value → xHp → Option (Int32 × xHp) → Prop := xJ G p l e ({ frames := 5, cells := 0, slots := 0, locals := 122 } : Room) s m args below meth c 1 (fun res => MQ below (xQi G res) args s 0 0 (xA G))
def F_X9_prove_24 (N : Nat) (h : xHp) : Option (Int32 × xHp) := some ((-1), h)
def F_X9_prove (N : Nat) (h : xHp) : Option (Int32 × xHp) := bnd (sI h 51 0 0) fun h1 => bnd (sI h1 51 43 0) fun h2 => if (gI h2 51 23) = 0 then F_X9_prove_24 N h2 else bnd2 (F_X9_ways N h2) fun r3 h4 => if r3 ≤ 0 then bnd2 (F_X9_writeProof N h4) fun r5 h6 => if (gI h6 51 43) ≤ 6000 then some ((gI h6 51 43), h6) else bnd (sI h6 51 43 0) fun h7 => some ((-1), h7) else F_X9_prove_24 N h4
set_option maxHeartbeats 4000000 in
set_option maxRecDepth 100000 in
theorem T_X9_prove_24 {G : xG} {p : Program} {l : Launch} {e : Env} {s : State} {m : MethodId} {args : Array Value} {below : List Frame} {meth : Method} {c : Code} {N : Nat} (C : xC G p s m args meth c cX9_prove 1 vX9_prove RX9) (hr : meth.sig.returnType = (some .int)) (h : xHp) : J_X9_prove G p l e s m args below meth c 24 [] [] h (F_X9_prove_24 N h) := by
  unfold F_X9_prove_24
  refine x_iconst (v := (-1)) C dX9_prove_24 (by decide) ?_
  exact x_iret C dX9_prove_25 hr
set_option maxHeartbeats 4000000 in
set_option maxRecDepth 100000 in
theorem M_X9_prove (G : xG) (l : Launch) (N : Nat) (h : xHp) : ∀ r, F_X9_prove N h = some r → Met l yX9_prove vX9_prove ({ frames := 5, cells := 0, slots := 0, locals := 122 } : Room) (xPc G [.ref (xad G 51)] h) (xQi G r) 0 0 (xA G) := by
  refine x_met (own := RX9) (cc := cX9_prove) (maxL := 1) (ret := (some .int)) (lv0 := [(0, .ref (xad G 51))]) (by decide +kernel) rfl rfl (Nat.le_of_ble_eq_true rfl) rfl ?_
  intro p e s m below meth c C hr
  unfold F_X9_prove
  refine x_aload_n C dX9_prove_0 rfl 0 rfl ?_
  refine x_iconst (v := 0) C dX9_prove_1 (by decide) ?_
  refine x_putI (ty0 := tyX9) (ty := .int) C 0 dX9_prove_2 (xc_51 G h) rfl (Nat.le_of_ble_eq_true rfl) (by decide) rfl (fun w h => List.mem_cons_of_mem _ (iWM_X9 w h)) tyX9_ok nmX9 (by decide) rfl rfl (by decide +kernel) rfl rfl (C.2.2.2.2.1 _ (List.mem_cons_of_mem _ qM_2)) (fun h1 => ?_)
  refine x_aload_n C dX9_prove_5 rfl 0 rfl ?_
  refine x_iconst (v := 0) C dX9_prove_6 (by decide) ?_
  refine x_putI (ty0 := tyX9) (ty := .int) C 43 dX9_prove_7 (xc_51 G h1) rfl (Nat.le_of_ble_eq_true rfl) (by decide) rfl (fun w h => List.mem_cons_of_mem _ (iWM_X9 w h)) tyX9_ok nmX9 (by decide) rfl rfl (by decide +kernel) rfl rfl (C.2.2.2.2.1 _ (List.mem_cons_of_mem _ qM_187)) (fun h2 => ?_)
  refine x_aload_n C dX9_prove_10 rfl 0 rfl ?_
  refine x_get (v := .int (gI h2 51 23)) C 23 dX9_prove_11 (xc_51 G h2) rfl (by decide) rfl (fun w h => List.mem_cons_of_mem _ (iWM_X9 w h)) (by decide) rfl (C.2.2.2.2.1 _ (List.mem_cons_of_mem _ qM_147)) ?_
  refine x_if_eq (tgt := 24) C dX9_prove_14 (by decide) ?_ ?_
  · exact x_sub [] rfl (T_X9_prove_24 C hr h2)
  · refine x_aload_n C dX9_prove_17 rfl 0 rfl ?_
    refine x_callVi C dX9_prove_18 (M_X9_ways G l N h2) (cwV 0 C.2.2.2.2.1 (gdV gWM qM_205 qM_206 qM_207 qM_9 qM_182) rfl rfl rfl (by decide +kernel) ⟨Nat.le_of_ble_eq_true rfl, Nat.le_of_ble_eq_true rfl⟩) (xc_51 G h2) (by decide) rfl rfl rfl (Nat.le_of_ble_eq_true rfl) (fun r3 h4 => ?_)
    refine x_if_le (tgt := 26) C dX9_prove_21 (by decide) ?_ ?_
    · refine x_aload_n C dX9_prove_26 rfl 0 rfl ?_
      refine x_callVv C dX9_prove_27 (M_X9_writeProof G l N h4) (cwV 0 C.2.2.2.2.1 (gdV gWM qM_208 qM_209 qM_210 qM_9 qM_204) rfl rfl rfl (by decide +kernel) ⟨Nat.le_of_ble_eq_true rfl, Nat.le_of_ble_eq_true rfl⟩) (xc_51 G h4) (by decide) rfl rfl rfl (Nat.le_of_ble_eq_true rfl) (fun r5 h6 => ?_)
      refine x_aload_n C dX9_prove_30 rfl 0 rfl ?_
      refine x_get (v := .int (gI h6 51 43)) C 43 dX9_prove_31 (xc_51 G h6) rfl (by decide) rfl (fun w h => List.mem_cons_of_mem _ (iWM_X9 w h)) (by decide) rfl (C.2.2.2.2.1 _ (List.mem_cons_of_mem _ qM_187)) ?_
      refine x_sipush (v := 6000) C dX9_prove_34 (by decide) ?_
      refine x_icmp_le (tgt := 47) C dX9_prove_37 (by decide) ?_ ?_
      · refine x_aload_n C dX9_prove_47 rfl 0 rfl ?_
        refine x_get (v := .int (gI h6 51 43)) C 43 dX9_prove_48 (xc_51 G h6) rfl (by decide) rfl (fun w h => List.mem_cons_of_mem _ (iWM_X9 w h)) (by decide) rfl (C.2.2.2.2.1 _ (List.mem_cons_of_mem _ qM_187)) ?_
        exact x_iret C dX9_prove_51 hr
      · refine x_aload_n C dX9_prove_40 rfl 0 rfl ?_
        refine x_iconst (v := 0) C dX9_prove_41 (by decide) ?_
        refine x_putI (ty0 := tyX9) (ty := .int) C 43 dX9_prove_42 (xc_51 G h6) rfl (Nat.le_of_ble_eq_true rfl) (by decide) rfl (fun w h => List.mem_cons_of_mem _ (iWM_X9 w h)) tyX9_ok nmX9 (by decide) rfl rfl (by decide +kernel) rfl rfl (C.2.2.2.2.1 _ (List.mem_cons_of_mem _ qM_187)) (fun h7 => ?_)
        refine x_iconst (v := (-1)) C dX9_prove_45 (by decide) ?_
        exact x_iret C dX9_prove_46 hr
    · exact x_sub [] rfl (T_X9_prove_24 C hr h4)
/-! X9_written: 21 instructions -/
abbrev J_X9_written (G : xG) (p : Program) (l : Launch) (e : Env) (s : State) (m : MethodId) (args : Array Value) (below : List Frame) (meth : Method) (c : Code) : Nat → List (Nat × Value) → List Value → xHp → Option (Int32 × xHp) → Prop := xJ G p l e ({ frames := 1, cells := 0, slots := 0, locals := 25 } : Room) s m args below meth c 2 (fun res => MQ below (xQi G res) args s 0 0 (xA G))
def F_X9_written (N : Nat) (p1 : Int32) (h : xHp) : Option (Int32 × xHp) := bnd2 (F_X9_isIn N (p1.toInt64) 0 (((gI h 51 43) - 1).toInt64) h) fun r1 h2 => bnd2 (F_X9_may N r1 1 1 h2) fun r3 h4 => if r3 = 0 then some (0, h4) else grd (xin p1 6001) (some ((gI h4 73 p1.toNatClampNeg), h4))
set_option maxHeartbeats 4000000 in
set_option maxRecDepth 100000 in
theorem M_X9_written (G : xG) (l : Launch) (N : Nat) (p1 : Int32) (h : xHp) : ∀ r, F_X9_written N p1 h = some r → Met l yX9_written vX9_written ({ frames := 1, cells := 0, slots := 0, locals := 25 } : Room) (xPc G [.ref (xad G 51), .int p1] h) (xQi G r) 0 0 (xA G) := by
  refine x_met (own := RX9) (cc := cX9_written) (maxL := 2) (ret := (some .int)) (lv0 := [(0, .ref (xad G 51)), (1, .int p1)]) (by decide +kernel) rfl rfl (Nat.le_of_ble_eq_true rfl) rfl ?_
  intro p e s m below meth c C hr
  unfold F_X9_written
  refine x_aload_n C dX9_written_0 rfl 0 rfl ?_
  refine x_iload_n C dX9_written_1 rfl 1 rfl ?_
  refine x_i2l C dX9_written_2 ?_
  refine x_lconst (v := 0) C dX9_written_3 (by decide) ?_
  refine x_aload_n C dX9_written_4 rfl 0 rfl ?_
  refine x_get (v := .int (gI h 51 43)) C 43 dX9_written_5 (xc_51 G h) rfl (by decide) rfl (fun w h => List.mem_cons_of_mem _ (iWM_X9 w h)) (by decide) rfl (C.2.2.2.2.1 _ (List.mem_cons_of_mem _ qM_187)) ?_
  refine x_iconst (v := 1) C dX9_written_8 (by decide) ?_
  refine x_isub C dX9_written_9 ?_
  refine x_i2l C dX9_written_10 ?_
  refine x_callSi C dX9_written_11 (M_X9_isIn G l N (p1.toInt64) 0 (((gI h 51 43) - 1).toInt64) h) (va_cwS 3 C.2.2.2.2.1 (gdS gWM qM_7 qM_8 qM_9 qM_3) rfl rfl rfl (by decide +kernel) ⟨Nat.le_of_ble_eq_true rfl, Nat.le_of_ble_eq_true rfl⟩) rfl rfl (Nat.le_of_ble_eq_true rfl) (fun r1 h2 => ?_)
  refine x_iconst (v := 1) C dX9_written_14 (by decide) ?_
  refine x_iconst (v := 1) C dX9_written_15 (by decide) ?_
  refine x_callVi C dX9_written_16 (M_X9_may G l N r1 1 1 h2) (cwV 3 C.2.2.2.2.1 (gdV gWM qM_33 qM_34 qM_35 qM_9 qM_4) rfl rfl rfl (by decide +kernel) ⟨Nat.le_of_ble_eq_true rfl, Nat.le_of_ble_eq_true rfl⟩) (xc_51 G h2) (by decide) rfl rfl rfl (Nat.le_of_ble_eq_true rfl) (fun r3 h4 => ?_)
  refine x_if_eq (tgt := 31) C dX9_written_19 (by decide) ?_ ?_
  · refine x_iconst (v := 0) C dX9_written_31 (by decide) ?_
    exact x_iret C dX9_written_32 hr
  · refine x_aload_n C dX9_written_22 rfl 0 rfl ?_
    refine x_get (v := .ref (xad G 73)) C 42 dX9_written_23 (xc_51 G h4) rfl (by decide) rfl (fun w h => List.mem_cons_of_mem _ (iWM_X9 w h)) (by decide) rfl (C.2.2.2.2.1 _ (List.mem_cons_of_mem _ qM_188)) ?_
    refine x_iload_n C dX9_written_26 rfl 1 rfl ?_
    refine x_iald (n := 6001) C dX9_written_27 (xc_73 G h4) (by decide) ?_
    refine x_goto (tgt := 32) C dX9_written_28 (by decide) ?_
    exact x_iret C dX9_written_32 hr
/-! X9_here: 13 instructions -/
abbrev J_X9_here (G : xG) (p : Program) (l : Launch) (e : Env) (s : State) (m : MethodId) (args : Array Value) (below : List Frame) (meth : Method) (c : Code) : Nat → List (Nat × Value) → List Value → xHp → Option (Int32 × xHp) → Prop := xJ G p l e ({ frames := 0, cells := 0, slots := 0, locals := 0 } : Room) s m args below meth c 1 (fun res => MQ below (xQi G res) args s 0 0 (xA G))
def F_X9_here (N : Nat) (h : xHp) : Option (Int32 × xHp) := if (gI h 51 45) ≤ (gI h 51 46) then some (0, h) else grd (xin (gI h 51 46) 6001) (some ((gI h 74 (gI h 51 46).toNatClampNeg), h))
set_option maxHeartbeats 4000000 in
set_option maxRecDepth 100000 in
theorem M_X9_here (G : xG) (l : Launch) (N : Nat) (h : xHp) : ∀ r, F_X9_here N h = some r → Met l yX9_here vX9_here ({ frames := 0, cells := 0, slots := 0, locals := 0 } : Room) (xPc G [.ref (xad G 51)] h) (xQi G r) 0 0 (xA G) := by
  refine x_met (own := RX9) (cc := cX9_here) (maxL := 1) (ret := (some .int)) (lv0 := [(0, .ref (xad G 51))]) (by decide +kernel) rfl rfl (Nat.le_of_ble_eq_true rfl) rfl ?_
  intro p e s m below meth c C hr
  unfold F_X9_here
  refine x_aload_n C dX9_here_0 rfl 0 rfl ?_
  refine x_get (v := .int (gI h 51 46)) C 46 dX9_here_1 (xc_51 G h) rfl (by decide) rfl (fun w h => List.mem_cons_of_mem _ (iWM_X9 w h)) (by decide) rfl (C.2.2.2.2.1 _ (List.mem_cons_of_mem _ qM_214)) ?_
  refine x_aload_n C dX9_here_4 rfl 0 rfl ?_
  refine x_get (v := .int (gI h 51 45)) C 45 dX9_here_5 (xc_51 G h) rfl (by decide) rfl (fun w h => List.mem_cons_of_mem _ (iWM_X9 w h)) (by decide) rfl (C.2.2.2.2.1 _ (List.mem_cons_of_mem _ qM_215)) ?_
  refine x_icmp_ge (tgt := 23) C dX9_here_8 (by decide) ?_ ?_
  · refine x_iconst (v := 0) C dX9_here_23 (by decide) ?_
    exact x_iret C dX9_here_24 hr
  · refine x_aload_n C dX9_here_11 rfl 0 rfl ?_
    refine x_get (v := .ref (xad G 74)) C 44 dX9_here_12 (xc_51 G h) rfl (by decide) rfl (fun w h => List.mem_cons_of_mem _ (iWM_X9 w h)) (by decide) rfl (C.2.2.2.2.1 _ (List.mem_cons_of_mem _ qM_216)) ?_
    refine x_aload_n C dX9_here_15 rfl 0 rfl ?_
    refine x_get (v := .int (gI h 51 46)) C 46 dX9_here_16 (xc_51 G h) rfl (by decide) rfl (fun w h => List.mem_cons_of_mem _ (iWM_X9 w h)) (by decide) rfl (C.2.2.2.2.1 _ (List.mem_cons_of_mem _ qM_214)) ?_
    refine x_iald (n := 6001) C dX9_here_19 (xc_74 G h) (by decide) ?_
    refine x_goto (tgt := 24) C dX9_here_20 (by decide) ?_
    exact x_iret C dX9_here_24 hr
/-! X9_wrong: 11 instructions -/
abbrev J_X9_wrong (G : xG) (p : Program) (l : Launch) (e : Env) (s : State) (m : MethodId) (args : Array Value) (below : List Frame) (meth : Method) (c : Code) : Nat → List (Nat × Value) → List Value → xHp → Option (Unit × xHp) → Prop := xJ G p l e ({ frames := 0, cells := 0, slots := 0, locals := 0 } : Room) s m args below meth c 2 (fun res => MQ below (xQv G res) args s 0 0 (xA G))
def F_X9_wrong_17 (N : Nat) (s1 : Int32) (h : xHp) : Option (Unit × xHp) := bnd (sI h 51 47 s1) fun h1 => some ((), h1)
def F_X9_wrong (N : Nat) (p1 : Int32) (h : xHp) : Option (Unit × xHp) := if (gI h 51 47) = (-1) then F_X9_wrong_17 N p1 h else F_X9_wrong_17 N (gI h 51 47) h
set_option maxHeartbeats 4000000 in
set_option maxRecDepth 100000 in
theorem T_X9_wrong_17 {G : xG} {p : Program} {l : Launch} {e : Env} {s : State} {m : MethodId} {args : Array Value} {below : List Frame} {meth : Method} {c : Code} {N : Nat} (C : xC G p s m args meth c cX9_wrong 2 vX9_wrong RX9) (hr : meth.sig.returnType = none) (s1 : Int32) (h : xHp) : J_X9_wrong G p l e s m args below meth c 17 [] [.int s1, .ref (xad G 51)] h (F_X9_wrong_17 N s1 h) := by
  unfold F_X9_wrong_17
  refine x_putI (ty0 := tyX9) (ty := .int) C 47 dX9_wrong_17 (xc_51 G h) rfl (Nat.le_of_ble_eq_true rfl) (by decide) rfl (fun w h => List.mem_cons_of_mem _ (iWM_X9 w h)) tyX9_ok nmX9 (by decide) rfl rfl (by decide +kernel) rfl rfl (C.2.2.2.2.1 _ (List.mem_cons_of_mem _ qM_218)) (fun h1 => ?_)
  exact x_vret C dX9_wrong_20 hr
set_option maxHeartbeats 4000000 in
set_option maxRecDepth 100000 in
theorem M_X9_wrong (G : xG) (l : Launch) (N : Nat) (p1 : Int32) (h : xHp) : ∀ r, F_X9_wrong N p1 h = some r → Met l yX9_wrong vX9_wrong ({ frames := 0, cells := 0, slots := 0, locals := 0 } : Room) (xPc G [.ref (xad G 51), .int p1] h) (xQv G r) 0 0 (xA G) := by
  refine x_met (own := RX9) (cc := cX9_wrong) (maxL := 2) (ret := none) (lv0 := [(0, .ref (xad G 51)), (1, .int p1)]) (by decide +kernel) rfl rfl (Nat.le_of_ble_eq_true rfl) rfl ?_
  intro p e s m below meth c C hr
  unfold F_X9_wrong
  refine x_aload_n C dX9_wrong_0 rfl 0 rfl ?_
  refine x_aload_n C dX9_wrong_1 rfl 0 rfl ?_
  refine x_get (v := .int (gI h 51 47)) C 47 dX9_wrong_2 (xc_51 G h) rfl (by decide) rfl (fun w h => List.mem_cons_of_mem _ (iWM_X9 w h)) (by decide) rfl (C.2.2.2.2.1 _ (List.mem_cons_of_mem _ qM_218)) ?_
  refine x_iconst (v := (-1)) C dX9_wrong_5 (by decide) ?_
  refine x_icmp_ne (tgt := 13) C dX9_wrong_6 (by decide) ?_ ?_
  · refine x_iload_n C dX9_wrong_9 rfl 1 rfl ?_
    refine x_goto (tgt := 17) C dX9_wrong_10 (by decide) ?_
    exact x_sub [] rfl (T_X9_wrong_17 C hr p1 h)
  · refine x_aload_n C dX9_wrong_13 rfl 0 rfl ?_
    refine x_get (v := .int (gI h 51 47)) C 47 dX9_wrong_14 (xc_51 G h) rfl (by decide) rfl (fun w h => List.mem_cons_of_mem _ (iWM_X9 w h)) (by decide) rfl (C.2.2.2.2.1 _ (List.mem_cons_of_mem _ qM_218)) ?_
    exact x_sub [] rfl (T_X9_wrong_17 C hr (gI h 51 47) h)
/-! X9_takeItem: 19 instructions -/
abbrev J_X9_takeItem (G : xG) (p : Program) (l : Launch) (e : Env) (s : State) (m : MethodId) (args : Array Value) (below : List Frame) (meth : Method) (c : Code) : Nat → List (Nat × Value) → List Value → xHp → Option (Unit × xHp) → Prop := xJ G p l e ({ frames := 0, cells := 0, slots := 0, locals := 0 } : Room) s m args below meth c 2 (fun res => MQ below (xQv G res) args s 0 0 (xA G))
def F_X9_takeItem (N : Nat) (p1 : Int32) (h : xHp) : Option (Unit × xHp) := grd (xin p1 70) (bnd (sI h 51 50 (gI h 52 p1.toNatClampNeg)) fun h1 => grd (xin p1 70) (bnd (sI h1 51 51 (gI h1 53 p1.toNatClampNeg)) fun h2 => grd (xin p1 70) (bnd (sI h2 51 52 (gI h2 54 p1.toNatClampNeg)) fun h3 => some ((), h3))))
set_option maxHeartbeats 4000000 in
set_option maxRecDepth 100000 in
theorem M_X9_takeItem (G : xG) (l : Launch) (N : Nat) (p1 : Int32) (h : xHp) : ∀ r, F_X9_takeItem N p1 h = some r → Met l yX9_takeItem vX9_takeItem ({ frames := 0, cells := 0, slots := 0, locals := 0 } : Room) (xPc G [.ref (xad G 51), .int p1] h) (xQv G r) 0 0 (xA G) := by
  refine x_met (own := RX9) (cc := cX9_takeItem) (maxL := 2) (ret := none) (lv0 := [(0, .ref (xad G 51)), (1, .int p1)]) (by decide +kernel) rfl rfl (Nat.le_of_ble_eq_true rfl) rfl ?_
  intro p e s m below meth c C hr
  unfold F_X9_takeItem
  refine x_aload_n C dX9_takeItem_0 rfl 0 rfl ?_
  refine x_aload_n C dX9_takeItem_1 rfl 0 rfl ?_
  refine x_get (v := .ref (xad G 52)) C 2 dX9_takeItem_2 (xc_51 G h) rfl (by decide) rfl (fun w h => List.mem_cons_of_mem _ (iWM_X9 w h)) (by decide) rfl (C.2.2.2.2.1 _ (List.mem_cons_of_mem _ qM_18)) ?_
  refine x_iload_n C dX9_takeItem_5 rfl 1 rfl ?_
  refine x_iald (n := 70) C dX9_takeItem_6 (xc_52 G h) (by decide) ?_
  refine x_putI (ty0 := tyX9) (ty := .int) C 50 dX9_takeItem_7 (xc_51 G h) rfl (Nat.le_of_ble_eq_true rfl) (by decide) rfl (fun w h => List.mem_cons_of_mem _ (iWM_X9 w h)) tyX9_ok nmX9 (by decide) rfl rfl (by decide +kernel) rfl rfl (C.2.2.2.2.1 _ (List.mem_cons_of_mem _ qM_220)) (fun h1 => ?_)
  refine x_aload_n C dX9_takeItem_10 rfl 0 rfl ?_
  refine x_aload_n C dX9_takeItem_11 rfl 0 rfl ?_
  refine x_get (v := .ref (xad G 53)) C 3 dX9_takeItem_12 (xc_51 G h1) rfl (by decide) rfl (fun w h => List.mem_cons_of_mem _ (iWM_X9 w h)) (by decide) rfl (C.2.2.2.2.1 _ (List.mem_cons_of_mem _ qM_16)) ?_
  refine x_iload_n C dX9_takeItem_15 rfl 1 rfl ?_
  refine x_iald (n := 70) C dX9_takeItem_16 (xc_53 G h1) (by decide) ?_
  refine x_putI (ty0 := tyX9) (ty := .int) C 51 dX9_takeItem_17 (xc_51 G h1) rfl (Nat.le_of_ble_eq_true rfl) (by decide) rfl (fun w h => List.mem_cons_of_mem _ (iWM_X9 w h)) tyX9_ok nmX9 (by decide) rfl rfl (by decide +kernel) rfl rfl (C.2.2.2.2.1 _ (List.mem_cons_of_mem _ qM_221)) (fun h2 => ?_)
  refine x_aload_n C dX9_takeItem_20 rfl 0 rfl ?_
  refine x_aload_n C dX9_takeItem_21 rfl 0 rfl ?_
  refine x_get (v := .ref (xad G 54)) C 4 dX9_takeItem_22 (xc_51 G h2) rfl (by decide) rfl (fun w h => List.mem_cons_of_mem _ (iWM_X9 w h)) (by decide) rfl (C.2.2.2.2.1 _ (List.mem_cons_of_mem _ qM_17)) ?_
  refine x_iload_n C dX9_takeItem_25 rfl 1 rfl ?_
  refine x_iald (n := 70) C dX9_takeItem_26 (xc_54 G h2) (by decide) ?_
  refine x_putI (ty0 := tyX9) (ty := .int) C 52 dX9_takeItem_27 (xc_51 G h2) rfl (Nat.le_of_ble_eq_true rfl) (by decide) rfl (fun w h => List.mem_cons_of_mem _ (iWM_X9 w h)) tyX9_ok nmX9 (by decide) rfl rfl (by decide +kernel) rfl rfl (C.2.2.2.2.1 _ (List.mem_cons_of_mem _ qM_222)) (fun h3 => ?_)
  exact x_vret C dX9_takeItem_30 hr
/-! X9_item: 115 instructions -/
abbrev J_X9_item (G : xG) (p : Program) (l : Launch) (e : Env) (s : State) (m : MethodId) (args : Array Value) (below : List Frame) (meth : Method) (c : Code) : Nat → List (Nat × Value) → List Value → xHp → Option (Unit × xHp) → Prop := xJ G p l e ({ frames := 1, cells := 0, slots := 0, locals := 22 } : Room) s m args below meth c 5 (fun res => MQ below (xQv G res) args s 0 0 (xA G))
def F_X9_item_40 (N : Nat) (x1 : Int32) (h : xHp) : Option (Unit × xHp) := bnd2 (F_X9_wrong N x1 h) fun r1 h2 => some ((), h2)
def F_X9_item_163 (N : Nat) (h : xHp) : Option (Unit × xHp) := bnd2 (F_X9_wrong N (gI h 51 46) h) fun r1 h2 => some ((), h2)
def F_X9_item_149 (N : Nat) (x1 : Int32) (x3 : Int32) (x4 : Int32) (h : xHp) : Option (Unit × xHp) := if x4 = 0 then F_X9_item_163 N h else bnd2 (F_X9_here N h) fun r1 h2 => if r1 = 93 then if x3 < (gI h2 51 1) then bnd2 (F_X9_takeItem N x3 h2) fun r3 h4 => bnd (sI h4 51 46 ((gI h4 51 46) + 1)) fun h5 => some ((), h5) else bnd2 (F_X9_wrong N x1 h2) fun r6 h7 => some ((), h7) else F_X9_item_163 N h2
def F_X9_item_104_b (N : Nat) (k104 : Int32 → Int32 → Int32 → xHp → Option (Unit × xHp)) (x1 : Int32) (x3 : Int32) (x4 : Int32) (h : xHp) : Option (Unit × xHp) := bnd2 (F_X9_here N h) fun r1 h2 => bnd2 (F_X9_isFigure N r1 h2) fun r3 h4 => if r3 = 0 then F_X9_item_149 N x1 x3 x4 h4 else if 2 ≤ x4 then F_X9_item_149 N x1 x3 x4 h4 else bnd2 (F_X9_here N h4) fun r5 h6 => bnd (sI h6 51 46 ((gI h6 51 46) + 1)) fun h7 => k104 x1 (((10 * x3) + r5) - 48) (x4 + 1) h7
def F_X9_item_104 (N : Nat) (x1 : Int32) (x3 : Int32) (x4 : Int32) (h : xHp) : Option (Unit × xHp) := xit (F_X9_item_104_b N) (fun _ _ _ _ => none) N x1 x3 x4 h
def F_X9_item (N : Nat) (h : xHp) : Option (Unit × xHp) := bnd2 (F_X9_here N h) fun r1 h2 => bnd2 (F_X9_isFigure N r1 h2) fun r3 h4 => if r3 = 0 then if r1 = 91 then bnd (sI h4 51 46 ((gI h4 51 46) + 1)) fun h5 => F_X9_item_104 N (gI h 51 46) 0 0 h5 else bnd2 (F_X9_wrong N (gI h4 51 46) h4) fun r6 h7 => some ((), h7) else if (gI h4 51 24) ≤ (r1 - 48) then F_X9_item_40 N (gI h 51 46) h4 else grd (xin (r1 - 48) 10) (if (gI h4 71 (r1 - 48).toNatClampNeg) = 2 then F_X9_item_40 N (gI h 51 46) h4 else bnd2 (F_X9_constraintsAlone N h4) fun r8 h9 => bnd2 (F_X9_putDifference N (r1 - 48) h9) fun r10 h11 => bnd2 (F_X9_takeItem N (60 + (r1 - 48)) h11) fun r12 h13 => bnd (sI h13 51 46 ((gI h13 51 46) + 1)) fun h14 => some ((), h14))
set_option maxHeartbeats 4000000 in
set_option maxRecDepth 100000 in
theorem T_X9_item_40 {G : xG} {p : Program} {l : Launch} {e : Env} {s : State} {m : MethodId} {args : Array Value} {below : List Frame} {meth : Method} {c : Code} {N : Nat} (C : xC G p s m args meth c cX9_item 5 vX9_item RX9) (hr : meth.sig.returnType = none) (x1 : Int32) (h : xHp) : J_X9_item G p l e s m args below meth c 40 [(0, .ref (xad G 51)), (1, .int x1)] [] h (F_X9_item_40 N x1 h) := by
  unfold F_X9_item_40
  refine x_aload_n C dX9_item_40 rfl 0 rfl ?_
  refine x_iload_n C dX9_item_41 rfl 1 rfl ?_
  refine x_callVv C dX9_item_42 (M_X9_wrong G l N x1 h) (cwV 1 C.2.2.2.2.1 (gdV gWM qM_226 qM_227 qM_228 qM_9 qM_217) rfl rfl rfl (by decide +kernel) ⟨Nat.le_of_ble_eq_true rfl, Nat.le_of_ble_eq_true rfl⟩) (xc_51 G h) (by decide) rfl rfl rfl (Nat.le_of_ble_eq_true rfl) (fun r1 h2 => ?_)
  exact x_vret C dX9_item_45 hr
set_option maxHeartbeats 4000000 in
set_option maxRecDepth 100000 in
theorem T_X9_item_163 {G : xG} {p : Program} {l : Launch} {e : Env} {s : State} {m : MethodId} {args : Array Value} {below : List Frame} {meth : Method} {c : Code} {N : Nat} (C : xC G p s m args meth c cX9_item 5 vX9_item RX9) (hr : meth.sig.returnType = none) (h : xHp) : J_X9_item G p l e s m args below meth c 163 [(0, .ref (xad G 51))] [] h (F_X9_item_163 N h) := by
  unfold F_X9_item_163
  refine x_aload_n C dX9_item_163 rfl 0 rfl ?_
  refine x_aload_n C dX9_item_164 rfl 0 rfl ?_
  refine x_get (v := .int (gI h 51 46)) C 46 dX9_item_165 (xc_51 G h) rfl (by decide) rfl (fun w h => List.mem_cons_of_mem _ (iWM_X9 w h)) (by decide) rfl (C.2.2.2.2.1 _ (List.mem_cons_of_mem _ qM_214)) ?_
  refine x_callVv C dX9_item_168 (M_X9_wrong G l N (gI h 51 46) h) (cwV 1 C.2.2.2.2.1 (gdV gWM qM_226 qM_227 qM_228 qM_9 qM_217) rfl rfl rfl (by decide +kernel) ⟨Nat.le_of_ble_eq_true rfl, Nat.le_of_ble_eq_true rfl⟩) (xc_51 G h) (by decide) rfl rfl rfl (Nat.le_of_ble_eq_true rfl) (fun r1 h2 => ?_)
  exact x_vret C dX9_item_171 hr
set_option maxHeartbeats 4000000 in
set_option maxRecDepth 100000 in
theorem T_X9_item_149 {G : xG} {p : Program} {l : Launch} {e : Env} {s : State} {m : MethodId} {args : Array Value} {below : List Frame} {meth : Method} {c : Code} {N : Nat} (C : xC G p s m args meth c cX9_item 5 vX9_item RX9) (hr : meth.sig.returnType = none) (x1 : Int32) (x3 : Int32) (x4 : Int32) (h : xHp) : J_X9_item G p l e s m args below meth c 149 [(0, .ref (xad G 51)), (1, .int x1), (3, .int x3), (4, .int x4)] [] h (F_X9_item_149 N x1 x3 x4 h) := by
  unfold F_X9_item_149
  refine x_iload C dX9_item_149 3 rfl ?_
  refine x_if_eq (tgt := 163) C dX9_item_151 (by decide) ?_ ?_
  · exact x_sub [0] rfl (T_X9_item_163 C hr h)
  · refine x_aload_n C dX9_item_154 rfl 0 rfl ?_
    refine x_callVi C dX9_item_155 (M_X9_here G l N h) (cwV 0 C.2.2.2.2.1 (gdV gWM qM_223 qM_224 qM_225 qM_9 qM_213) rfl rfl rfl (by decide +kernel) ⟨Nat.le_of_ble_eq_true rfl, Nat.le_of_ble_eq_true rfl⟩) (xc_51 G h) (by decide) rfl rfl rfl (Nat.le_of_ble_eq_true rfl) (fun r1 h2 => ?_)
    refine x_bipush (v := 93) C dX9_item_158 (by decide) ?_
    refine x_icmp_eq (tgt := 172) C dX9_item_160 (by decide) ?_ ?_
    · refine x_iload_n C dX9_item_172 rfl 2 rfl ?_
      refine x_aload_n C dX9_item_173 rfl 0 rfl ?_
      refine x_get (v := .int (gI h2 51 1)) C 1 dX9_item_174 (xc_51 G h2) rfl (by decide) rfl (fun w h => List.mem_cons_of_mem _ (iWM_X9 w h)) (by decide) rfl (C.2.2.2.2.1 _ (List.mem_cons_of_mem _ qM_12)) ?_
      refine x_icmp_lt (tgt := 186) C dX9_item_177 (by decide) ?_ ?_
      · refine x_aload_n C dX9_item_186 rfl 0 rfl ?_
        refine x_iload_n C dX9_item_187 rfl 2 rfl ?_
        refine x_callVv C dX9_item_188 (M_X9_takeItem G l N x3 h2) (cwV 1 C.2.2.2.2.1 (gdV gWM qM_229 qM_230 qM_231 qM_9 qM_219) rfl rfl rfl (by decide +kernel) ⟨Nat.le_of_ble_eq_true rfl, Nat.le_of_ble_eq_true rfl⟩) (xc_51 G h2) (by decide) rfl rfl rfl (Nat.le_of_ble_eq_true rfl) (fun r3 h4 => ?_)
        refine x_aload_n C dX9_item_191 rfl 0 rfl ?_
        refine x_dup C dX9_item_192 rfl ?_
        refine x_get (v := .int (gI h4 51 46)) C 46 dX9_item_193 (xc_51 G h4) rfl (by decide) rfl (fun w h => List.mem_cons_of_mem _ (iWM_X9 w h)) (by decide) rfl (C.2.2.2.2.1 _ (List.mem_cons_of_mem _ qM_214)) ?_
        refine x_iconst (v := 1) C dX9_item_196 (by decide) ?_
        refine x_iadd C dX9_item_197 ?_
        refine x_putI (ty0 := tyX9) (ty := .int) C 46 dX9_item_198 (xc_51 G h4) rfl (Nat.le_of_ble_eq_true rfl) (by decide) rfl (fun w h => List.mem_cons_of_mem _ (iWM_X9 w h)) tyX9_ok nmX9 (by decide) rfl rfl (by decide +kernel) rfl rfl (C.2.2.2.2.1 _ (List.mem_cons_of_mem _ qM_214)) (fun h5 => ?_)
        exact x_vret C dX9_item_201 hr
      · refine x_aload_n C dX9_item_180 rfl 0 rfl ?_
        refine x_iload_n C dX9_item_181 rfl 1 rfl ?_
        refine x_callVv C dX9_item_182 (M_X9_wrong G l N x1 h2) (cwV 1 C.2.2.2.2.1 (gdV gWM qM_226 qM_227 qM_228 qM_9 qM_217) rfl rfl rfl (by decide +kernel) ⟨Nat.le_of_ble_eq_true rfl, Nat.le_of_ble_eq_true rfl⟩) (xc_51 G h2) (by decide) rfl rfl rfl (Nat.le_of_ble_eq_true rfl) (fun r6 h7 => ?_)
        exact x_vret C dX9_item_185 hr
    · exact x_sub [0] rfl (T_X9_item_163 C hr h2)
set_option maxHeartbeats 4000000 in
set_option maxRecDepth 100000 in
theorem T_X9_item_104_b {G : xG} {p : Program} {l : Launch} {e : Env} {s : State} {m : MethodId} {args : Array Value} {below : List Frame} {meth : Method} {c : Code} {N : Nat} (C : xC G p s m args meth c cX9_item 5 vX9_item RX9) (hr : meth.sig.returnType = none) {k104 : Int32 → Int32 → Int32 → xHp → Option (Unit × xHp)} (hk104 : ∀ (x1 : Int32) (x3 : Int32) (x4 : Int32) (h : xHp), J_X9_item G p l e s m args below meth c 104 [(0, .ref (xad G 51)), (1, .int x1), (3, .int x3), (4, .int x4)] [] h (k104 x1 x3 x4 h)) (x1 : Int32) (x3 : Int32) (x4 : Int32) (h : xHp) : J_X9_item G p l e s m args below meth c 104 [(0, .ref (xad G 51)), (1, .int x1), (3, .int x3), (4, .int x4)] [] h (F_X9_item_104_b N k104 x1 x3 x4 h) := by
  unfold F_X9_item_104_b
  refine x_aload_n C dX9_item_104 rfl 0 rfl ?_
  refine x_callVi C dX9_item_105 (M_X9_here G l N h) (cwV 0 C.2.2.2.2.1 (gdV gWM qM_223 qM_224 qM_225 qM_9 qM_213) rfl rfl rfl (by decide +kernel) ⟨Nat.le_of_ble_eq_true rfl, Nat.le_of_ble_eq_true rfl⟩) (xc_51 G h) (by decide) rfl rfl rfl (Nat.le_of_ble_eq_true rfl) (fun r1 h2 => ?_)
  refine x_callSi C dX9_item_108 (M_X9_isFigure G l N r1 h2) (va_cwS 1 C.2.2.2.2.1 (gdS gWM qM_90 qM_91 qM_9 qM_77) rfl rfl rfl (by decide +kernel) ⟨Nat.le_of_ble_eq_true rfl, Nat.le_of_ble_eq_true rfl⟩) rfl rfl (Nat.le_of_ble_eq_true rfl) (fun r3 h4 => ?_)
  refine x_if_eq (tgt := 149) C dX9_item_111 (by decide) ?_ ?_
  · exact x_sub [0, 1, 2, 3] rfl (T_X9_item_149 C hr x1 x3 x4 h4)
  · refine x_iload C dX9_item_114 3 rfl ?_
    refine x_iconst (v := 2) C dX9_item_116 (by decide) ?_
    refine x_icmp_ge (tgt := 149) C dX9_item_117 (by decide) ?_ ?_
    · exact x_sub [0, 1, 2, 3] rfl (T_X9_item_149 C hr x1 x3 x4 h4)
    · refine x_bipush (v := 10) C dX9_item_120 (by decide) ?_
      refine x_iload_n C dX9_item_122 rfl 2 rfl ?_
      refine x_imul C dX9_item_123 ?_
      refine x_aload_n C dX9_item_124 rfl 0 rfl ?_
      refine x_callVi C dX9_item_125 (M_X9_here G l N h4) (cwV 0 C.2.2.2.2.1 (gdV gWM qM_223 qM_224 qM_225 qM_9 qM_213) rfl rfl rfl (by decide +kernel) ⟨Nat.le_of_ble_eq_true rfl, Nat.le_of_ble_eq_true rfl⟩) (xc_51 G h4) (by decide) rfl rfl rfl (Nat.le_of_ble_eq_true rfl) (fun r5 h6 => ?_)
      refine x_iadd C dX9_item_128 ?_
      refine x_bipush (v := 48) C dX9_item_129 (by decide) ?_
      refine x_isub C dX9_item_131 ?_
      refine x_istore_n (lv' := [(3, .int (((10 * x3) + r5) - 48)), (0, .ref (xad G 51)), (1, .int x1), (4, .int x4)]) C dX9_item_132 rfl (by decide) rfl ?_
      refine x_iinc (v := (x4 + 1)) (j := 3) (lv' := [(4, .int (x4 + 1)), (3, .int (((10 * x3) + r5) - 48)), (0, .ref (xad G 51)), (1, .int x1)]) C dX9_item_133 rfl (by rfl) (by decide) rfl ?_
      refine x_aload_n C dX9_item_136 rfl 2 rfl ?_
      refine x_dup C dX9_item_137 rfl ?_
      refine x_get (v := .int (gI h6 51 46)) C 46 dX9_item_138 (xc_51 G h6) rfl (by decide) rfl (fun w h => List.mem_cons_of_mem _ (iWM_X9 w h)) (by decide) rfl (C.2.2.2.2.1 _ (List.mem_cons_of_mem _ qM_214)) ?_
      refine x_iconst (v := 1) C dX9_item_141 (by decide) ?_
      refine x_iadd C dX9_item_142 ?_
      refine x_putI (ty0 := tyX9) (ty := .int) C 46 dX9_item_143 (xc_51 G h6) rfl (Nat.le_of_ble_eq_true rfl) (by decide) rfl (fun w h => List.mem_cons_of_mem _ (iWM_X9 w h)) tyX9_ok nmX9 (by decide) rfl rfl (by decide +kernel) rfl rfl (C.2.2.2.2.1 _ (List.mem_cons_of_mem _ qM_214)) (fun h7 => ?_)
      refine x_goto (tgt := 104) C dX9_item_146 (by decide) ?_
      exact x_sub [2, 3, 1, 0] rfl (hk104 x1 (((10 * x3) + r5) - 48) (x4 + 1) h7)
set_option maxHeartbeats 4000000 in
set_option maxRecDepth 100000 in
theorem T_X9_item_104_n {G : xG} {p : Program} {l : Launch} {e : Env} {s : State} {m : MethodId} {args : Array Value} {below : List Frame} {meth : Method} {c : Code} {N : Nat} (C : xC G p s m args meth c cX9_item 5 vX9_item RX9) (hr : meth.sig.returnType = none) : ∀ (n : Nat) (x1 : Int32) (x3 : Int32) (x4 : Int32) (h : xHp), J_X9_item G p l e s m args below meth c 104 [(0, .ref (xad G 51)), (1, .int x1), (3, .int x3), (4, .int x4)] [] h (xit (F_X9_item_104_b N) (fun _ _ _ _ => none) n x1 x3 x4 h) := by
  intro n
  induction n with
  | zero => intros; exact x_none
  | succ n ih => intros; exact T_X9_item_104_b C hr ih _ _ _ _
set_option maxHeartbeats 4000000 in
set_option maxRecDepth 100000 in
theorem T_X9_item_104 {G : xG} {p : Program} {l : Launch} {e : Env} {s : State} {m : MethodId} {args : Array Value} {below : List Frame} {meth : Method} {c : Code} {N : Nat} (C : xC G p s m args meth c cX9_item 5 vX9_item RX9) (hr : meth.sig.returnType = none) (x1 : Int32) (x3 : Int32) (x4 : Int32) (h : xHp) : J_X9_item G p l e s m args below meth c 104 [(0, .ref (xad G 51)), (1, .int x1), (3, .int x3), (4, .int x4)] [] h (F_X9_item_104 N x1 x3 x4 h) := T_X9_item_104_n C hr N x1 x3 x4 h
set_option maxHeartbeats 4000000 in
set_option maxRecDepth 100000 in
theorem M_X9_item (G : xG) (l : Launch) (N : Nat) (h : xHp) : ∀ r, F_X9_item N h = some r → Met l yX9_item vX9_item ({ frames := 1, cells := 0, slots := 0, locals := 22 } : Room) (xPc G [.ref (xad G 51)] h) (xQv G r) 0 0 (xA G) := by
  refine x_met (own := RX9) (cc := cX9_item) (maxL := 5) (ret := none) (lv0 := [(0, .ref (xad G 51))]) (by decide +kernel) rfl rfl (Nat.le_of_ble_eq_true rfl) rfl ?_
  intro p e s m below meth c C hr
  unfold F_X9_item
  refine x_aload_n C dX9_item_0 rfl 0 rfl ?_
  refine x_get (v := .int (gI h 51 46)) C 46 dX9_item_1 (xc_51 G h) rfl (by decide) rfl (fun w h => List.mem_cons_of_mem _ (iWM_X9 w h)) (by decide) rfl (C.2.2.2.2.1 _ (List.mem_cons_of_mem _ qM_214)) ?_
  refine x_istore_n (lv' := [(1, .int (gI h 51 46)), (0, .ref (xad G 51))]) C dX9_item_4 rfl (by decide) rfl ?_
  refine x_aload_n C dX9_item_5 rfl 1 rfl ?_
  refine x_callVi C dX9_item_6 (M_X9_here G l N h) (cwV 0 C.2.2.2.2.1 (gdV gWM qM_223 qM_224 qM_225 qM_9 qM_213) rfl rfl rfl (by decide +kernel) ⟨Nat.le_of_ble_eq_true rfl, Nat.le_of_ble_eq_true rfl⟩) (xc_51 G h) (by decide) rfl rfl rfl (Nat.le_of_ble_eq_true rfl) (fun r1 h2 => ?_)
  refine x_istore_n (lv' := [(2, .int r1), (1, .int (gI h 51 46)), (0, .ref (xad G 51))]) C dX9_item_9 rfl (by decide) rfl ?_
  refine x_iload_n C dX9_item_10 rfl 0 rfl ?_
  refine x_callSi C dX9_item_11 (M_X9_isFigure G l N r1 h2) (va_cwS 1 C.2.2.2.2.1 (gdS gWM qM_90 qM_91 qM_9 qM_77) rfl rfl rfl (by decide +kernel) ⟨Nat.le_of_ble_eq_true rfl, Nat.le_of_ble_eq_true rfl⟩) rfl rfl (Nat.le_of_ble_eq_true rfl) (fun r3 h4 => ?_)
  refine x_if_eq (tgt := 74) C dX9_item_14 (by decide) ?_ ?_
  · refine x_iload_n C dX9_item_74 rfl 0 rfl ?_
    refine x_bipush (v := 91) C dX9_item_75 (by decide) ?_
    refine x_icmp_eq (tgt := 89) C dX9_item_77 (by decide) ?_ ?_
    · refine x_aload_n C dX9_item_89 rfl 2 rfl ?_
      refine x_dup C dX9_item_90 rfl ?_
      refine x_get (v := .int (gI h4 51 46)) C 46 dX9_item_91 (xc_51 G h4) rfl (by decide) rfl (fun w h => List.mem_cons_of_mem _ (iWM_X9 w h)) (by decide) rfl (C.2.2.2.2.1 _ (List.mem_cons_of_mem _ qM_214)) ?_
      refine x_iconst (v := 1) C dX9_item_94 (by decide) ?_
      refine x_iadd C dX9_item_95 ?_
      refine x_putI (ty0 := tyX9) (ty := .int) C 46 dX9_item_96 (xc_51 G h4) rfl (Nat.le_of_ble_eq_true rfl) (by decide) rfl (fun w h => List.mem_cons_of_mem _ (iWM_X9 w h)) tyX9_ok nmX9 (by decide) rfl rfl (by decide +kernel) rfl rfl (C.2.2.2.2.1 _ (List.mem_cons_of_mem _ qM_214)) (fun h5 => ?_)
      refine x_iconst (v := 0) C dX9_item_99 (by decide) ?_
      refine x_istore_n (lv' := [(3, .int 0), (2, .int r1), (1, .int (gI h 51 46)), (0, .ref (xad G 51))]) C dX9_item_100 rfl (by decide) rfl ?_
      refine x_iconst (v := 0) C dX9_item_101 (by decide) ?_
      refine x_istore (lv' := [(4, .int 0), (3, .int 0), (2, .int r1), (1, .int (gI h 51 46)), (0, .ref (xad G 51))]) C dX9_item_102 (by decide) rfl ?_
      exact x_sub [4, 3, 1, 0] rfl (T_X9_item_104 C hr (gI h 51 46) 0 0 h5)
    · refine x_aload_n C dX9_item_80 rfl 2 rfl ?_
      refine x_aload_n C dX9_item_81 rfl 2 rfl ?_
      refine x_get (v := .int (gI h4 51 46)) C 46 dX9_item_82 (xc_51 G h4) rfl (by decide) rfl (fun w h => List.mem_cons_of_mem _ (iWM_X9 w h)) (by decide) rfl (C.2.2.2.2.1 _ (List.mem_cons_of_mem _ qM_214)) ?_
      refine x_callVv C dX9_item_85 (M_X9_wrong G l N (gI h4 51 46) h4) (cwV 1 C.2.2.2.2.1 (gdV gWM qM_226 qM_227 qM_228 qM_9 qM_217) rfl rfl rfl (by decide +kernel) ⟨Nat.le_of_ble_eq_true rfl, Nat.le_of_ble_eq_true rfl⟩) (xc_51 G h4) (by decide) rfl rfl rfl (Nat.le_of_ble_eq_true rfl) (fun r6 h7 => ?_)
      exact x_vret C dX9_item_88 hr
  · refine x_iload_n C dX9_item_17 rfl 0 rfl ?_
    refine x_bipush (v := 48) C dX9_item_18 (by decide) ?_
    refine x_isub C dX9_item_20 ?_
    refine x_istore_n (lv' := [(3, .int (r1 - 48)), (2, .int r1), (1, .int (gI h 51 46)), (0, .ref (xad G 51))]) C dX9_item_21 rfl (by decide) rfl ?_
    refine x_iload_n C dX9_item_22 rfl 0 rfl ?_
    refine x_aload_n C dX9_item_23 rfl 3 rfl ?_
    refine x_get (v := .int (gI h4 51 24)) C 24 dX9_item_24 (xc_51 G h4) rfl (by decide) rfl (fun w h => List.mem_cons_of_mem _ (iWM_X9 w h)) (by decide) rfl (C.2.2.2.2.1 _ (List.mem_cons_of_mem _ qM_148)) ?_
    refine x_icmp_ge (tgt := 40) C dX9_item_27 (by decide) ?_ ?_
    · exact x_sub [3, 2] rfl (T_X9_item_40 C hr (gI h 51 46) h4)
    · refine x_aload_n C dX9_item_30 rfl 3 rfl ?_
      refine x_get (v := .ref (xad G 71)) C 40 dX9_item_31 (xc_51 G h4) rfl (by decide) rfl (fun w h => List.mem_cons_of_mem _ (iWM_X9 w h)) (by decide) rfl (C.2.2.2.2.1 _ (List.mem_cons_of_mem _ qM_166)) ?_
      refine x_iload_n C dX9_item_34 rfl 0 rfl ?_
      refine x_iald (n := 10) C dX9_item_35 (xc_71 G h4) (by decide) ?_
      refine x_iconst (v := 2) C dX9_item_36 (by decide) ?_
      refine x_icmp_ne (tgt := 46) C dX9_item_37 (by decide) ?_ ?_
      · exact x_sub [3, 2] rfl (T_X9_item_40 C hr (gI h 51 46) h4)
      · refine x_aload_n C dX9_item_46 rfl 3 rfl ?_
        refine x_callVv C dX9_item_47 (M_X9_constraintsAlone G l N h4) (cwV 0 C.2.2.2.2.1 (gdV gWM qM_36 qM_37 qM_38 qM_9 qM_10) rfl rfl rfl (by decide +kernel) ⟨Nat.le_of_ble_eq_true rfl, Nat.le_of_ble_eq_true rfl⟩) (xc_51 G h4) (by decide) rfl rfl rfl (Nat.le_of_ble_eq_true rfl) (fun r8 h9 => ?_)
        refine x_aload_n C dX9_item_50 rfl 3 rfl ?_
        refine x_iload_n C dX9_item_51 rfl 0 rfl ?_
        refine x_callVv C dX9_item_52 (M_X9_putDifference G l N (r1 - 48) h9) (cwV 1 C.2.2.2.2.1 (gdV gWM qM_171 qM_172 qM_173 qM_9 qM_167) rfl rfl rfl (by decide +kernel) ⟨Nat.le_of_ble_eq_true rfl, Nat.le_of_ble_eq_true rfl⟩) (xc_51 G h9) (by decide) rfl rfl rfl (Nat.le_of_ble_eq_true rfl) (fun r10 h11 => ?_)
        refine x_aload_n C dX9_item_55 rfl 3 rfl ?_
        refine x_bipush (v := 60) C dX9_item_56 (by decide) ?_
        refine x_iload_n C dX9_item_58 rfl 0 rfl ?_
        refine x_iadd C dX9_item_59 ?_
        refine x_callVv C dX9_item_60 (M_X9_takeItem G l N (60 + (r1 - 48)) h11) (cwV 1 C.2.2.2.2.1 (gdV gWM qM_229 qM_230 qM_231 qM_9 qM_219) rfl rfl rfl (by decide +kernel) ⟨Nat.le_of_ble_eq_true rfl, Nat.le_of_ble_eq_true rfl⟩) (xc_51 G h11) (by decide) rfl rfl rfl (Nat.le_of_ble_eq_true rfl) (fun r12 h13 => ?_)
        refine x_aload_n C dX9_item_63 rfl 3 rfl ?_
        refine x_dup C dX9_item_64 rfl ?_
        refine x_get (v := .int (gI h13 51 46)) C 46 dX9_item_65 (xc_51 G h13) rfl (by decide) rfl (fun w h => List.mem_cons_of_mem _ (iWM_X9 w h)) (by decide) rfl (C.2.2.2.2.1 _ (List.mem_cons_of_mem _ qM_214)) ?_
        refine x_iconst (v := 1) C dX9_item_68 (by decide) ?_
        refine x_iadd C dX9_item_69 ?_
        refine x_putI (ty0 := tyX9) (ty := .int) C 46 dX9_item_70 (xc_51 G h13) rfl (Nat.le_of_ble_eq_true rfl) (by decide) rfl (fun w h => List.mem_cons_of_mem _ (iWM_X9 w h)) tyX9_ok nmX9 (by decide) rfl rfl (by decide +kernel) rfl rfl (C.2.2.2.2.1 _ (List.mem_cons_of_mem _ qM_214)) (fun h14 => ?_)
        exact x_vret C dX9_item_73 hr
/-! X9_round: 78 instructions -/
abbrev J_X9_round (G : xG) (p : Program) (l : Launch) (e : Env) (s : State) (m : MethodId) (args : Array Value) (below : List Frame) (meth : Method) (c : Code) : Nat → List (Nat × Value) → List Value → xHp → Option (Unit × xHp) → Prop := xJ G p l e ({ frames := 2, cells := 0, slots := 0, locals := 46 } : Room) s m args below meth c 7 (fun res => MQ below (xQv G res) args s 0 0 (xA G))
def F_X9_round_84 (N : Nat) (k19 : Int32 → Int32 → Int32 → Int64 → xHp → Option (Unit × xHp)) (x1 : Int32) (x4 : Int64) (s0 : Int32) (h : xHp) : Option (Unit × xHp) := k19 (x1 + 1) s0 (gI h 51 51) (x4 + ((gI h 51 52).toInt64)) h
def F_X9_round_72 (N : Nat) (k19 : Int32 → Int32 → Int32 → Int64 → xHp → Option (Unit × xHp)) (x1 : Int32) (x2 : Int32) (x4 : Int64) (h : xHp) : Option (Unit × xHp) := if x1 = 0 then F_X9_round_84 N k19 x1 x4 (gI h 51 50) h else F_X9_round_84 N k19 x1 x4 x2 h
def F_X9_round_130 (N : Nat) (h : xHp) : Option (Unit × xHp) := bnd (sI h 51 46 ((gI h 51 46) + 1)) fun h1 => some ((), h1)
def F_X9_round_122 (N : Nat) (h : xHp) : Option (Unit × xHp) := bnd2 (F_X9_wrong N (gI h 51 46) h) fun r1 h2 => F_X9_round_130 N h2
def F_X9_round_106 (N : Nat) (x1 : Int32) (x2 : Int32) (x3 : Int32) (x4 : Int64) (h : xHp) : Option (Unit × xHp) := if x1 = 0 then F_X9_round_122 N h else if x3 = x2 then if (lg_cmp x4 0) < 0 then F_X9_round_130 N h else F_X9_round_122 N h else F_X9_round_122 N h
def F_X9_round_19_b (N : Nat) (k19 : Int32 → Int32 → Int32 → Int64 → xHp → Option (Unit × xHp)) (x1 : Int32) (x2 : Int32) (x3 : Int32) (x4 : Int64) (h : xHp) : Option (Unit × xHp) := if (gI h 51 47) = (-1) then bnd2 (F_X9_here N h) fun r1 h2 => if r1 = 59 then F_X9_round_106 N x1 x2 x3 x4 h2 else bnd2 (F_X9_item N h2) fun r3 h4 => if (gI h4 51 47) = (-1) then if x1 ≤ 0 then F_X9_round_72 N k19 x1 x2 x4 h4 else if (gI h4 51 50) = x3 then F_X9_round_72 N k19 x1 x2 x4 h4 else bnd2 (F_X9_wrong N (gI h2 51 46) h4) fun r5 h6 => F_X9_round_72 N k19 x1 x2 x4 h6 else F_X9_round_72 N k19 x1 x2 x4 h4 else F_X9_round_106 N x1 x2 x3 x4 h
def F_X9_round_19 (N : Nat) (x1 : Int32) (x2 : Int32) (x3 : Int32) (x4 : Int64) (h : xHp) : Option (Unit × xHp) := xit (F_X9_round_19_b N) (fun _ _ _ _ _ => none) N x1 x2 x3 x4 h
def F_X9_round (N : Nat) (h : xHp) : Option (Unit × xHp) := bnd (sI h 51 46 ((gI h 51 46) + 1)) fun h1 => F_X9_round_19 N 0 0 0 0 h1
set_option maxHeartbeats 4000000 in
set_option maxRecDepth 100000 in
theorem T_X9_round_84 {G : xG} {p : Program} {l : Launch} {e : Env} {s : State} {m : MethodId} {args : Array Value} {below : List Frame} {meth : Method} {c : Code} {N : Nat} (C : xC G p s m args meth c cX9_round 7 vX9_round RX9) (hr : meth.sig.returnType = none) {k19 : Int32 → Int32 → Int32 → Int64 → xHp → Option (Unit × xHp)} (hk19 : ∀ (x1 : Int32) (x2 : Int32) (x3 : Int32) (x4 : Int64) (h : xHp), J_X9_round G p l e s m args below meth c 19 [(0, .ref (xad G 51)), (1, .int x1), (2, .int x2), (3, .int x3), (4, .long x4)] [] h (k19 x1 x2 x3 x4 h)) (x1 : Int32) (x4 : Int64) (s0 : Int32) (h : xHp) : J_X9_round G p l e s m args below meth c 84 [(0, .ref (xad G 51)), (1, .int x1), (4, .long x4)] [.int s0] h (F_X9_round_84 N k19 x1 x4 s0 h) := by
  unfold F_X9_round_84
  refine x_istore_n (lv' := [(2, .int s0), (0, .ref (xad G 51)), (1, .int x1), (4, .long x4)]) C dX9_round_84 rfl (by decide) rfl ?_
  refine x_aload_n C dX9_round_85 rfl 1 rfl ?_
  refine x_get (v := .int (gI h 51 51)) C 51 dX9_round_86 (xc_51 G h) rfl (by decide) rfl (fun w h => List.mem_cons_of_mem _ (iWM_X9 w h)) (by decide) rfl (C.2.2.2.2.1 _ (List.mem_cons_of_mem _ qM_221)) ?_
  refine x_istore_n (lv' := [(3, .int (gI h 51 51)), (2, .int s0), (0, .ref (xad G 51)), (1, .int x1), (4, .long x4)]) C dX9_round_89 rfl (by decide) rfl ?_
  refine x_lload C dX9_round_90 4 rfl ?_
  refine x_aload_n C dX9_round_92 rfl 2 rfl ?_
  refine x_get (v := .int (gI h 51 52)) C 52 dX9_round_93 (xc_51 G h) rfl (by decide) rfl (fun w h => List.mem_cons_of_mem _ (iWM_X9 w h)) (by decide) rfl (C.2.2.2.2.1 _ (List.mem_cons_of_mem _ qM_222)) ?_
  refine x_i2l C dX9_round_96 ?_
  refine x_ladd C dX9_round_97 ?_
  refine x_lstore (lv' := [(4, .long (x4 + ((gI h 51 52).toInt64))), (3, .int (gI h 51 51)), (2, .int s0), (0, .ref (xad G 51)), (1, .int x1)]) C dX9_round_98 (by decide) rfl ?_
  refine x_iinc (v := (x1 + 1)) (j := 4) (lv' := [(1, .int (x1 + 1)), (4, .long (x4 + ((gI h 51 52).toInt64))), (3, .int (gI h 51 51)), (2, .int s0), (0, .ref (xad G 51))]) C dX9_round_100 rfl (by rfl) (by decide) rfl ?_
  refine x_goto (tgt := 19) C dX9_round_103 (by decide) ?_
  exact x_sub [4, 0, 3, 2, 1] rfl (hk19 (x1 + 1) s0 (gI h 51 51) (x4 + ((gI h 51 52).toInt64)) h)
set_option maxHeartbeats 4000000 in
set_option maxRecDepth 100000 in
theorem T_X9_round_72 {G : xG} {p : Program} {l : Launch} {e : Env} {s : State} {m : MethodId} {args : Array Value} {below : List Frame} {meth : Method} {c : Code} {N : Nat} (C : xC G p s m args meth c cX9_round 7 vX9_round RX9) (hr : meth.sig.returnType = none) {k19 : Int32 → Int32 → Int32 → Int64 → xHp → Option (Unit × xHp)} (hk19 : ∀ (x1 : Int32) (x2 : Int32) (x3 : Int32) (x4 : Int64) (h : xHp), J_X9_round G p l e s m args below meth c 19 [(0, .ref (xad G 51)), (1, .int x1), (2, .int x2), (3, .int x3), (4, .long x4)] [] h (k19 x1 x2 x3 x4 h)) (x1 : Int32) (x2 : Int32) (x4 : Int64) (h : xHp) : J_X9_round G p l e s m args below meth c 72 [(0, .ref (xad G 51)), (1, .int x1), (2, .int x2), (4, .long x4)] [] h (F_X9_round_72 N k19 x1 x2 x4 h) := by
  unfold F_X9_round_72
  refine x_iload_n C dX9_round_72 rfl 1 rfl ?_
  refine x_if_ne (tgt := 83) C dX9_round_73 (by decide) ?_ ?_
  · refine x_aload_n C dX9_round_76 rfl 0 rfl ?_
    refine x_get (v := .int (gI h 51 50)) C 50 dX9_round_77 (xc_51 G h) rfl (by decide) rfl (fun w h => List.mem_cons_of_mem _ (iWM_X9 w h)) (by decide) rfl (C.2.2.2.2.1 _ (List.mem_cons_of_mem _ qM_220)) ?_
    refine x_goto (tgt := 84) C dX9_round_80 (by decide) ?_
    exact x_sub [0, 1, 3] rfl (T_X9_round_84 C hr hk19 x1 x4 (gI h 51 50) h)
  · refine x_iload_n C dX9_round_83 rfl 2 rfl ?_
    exact x_sub [0, 1, 3] rfl (T_X9_round_84 C hr hk19 x1 x4 x2 h)
set_option maxHeartbeats 4000000 in
set_option maxRecDepth 100000 in
theorem T_X9_round_130 {G : xG} {p : Program} {l : Launch} {e : Env} {s : State} {m : MethodId} {args : Array Value} {below : List Frame} {meth : Method} {c : Code} {N : Nat} (C : xC G p s m args meth c cX9_round 7 vX9_round RX9) (hr : meth.sig.returnType = none) (h : xHp) : J_X9_round G p l e s m args below meth c 130 [(0, .ref (xad G 51))] [] h (F_X9_round_130 N h) := by
  unfold F_X9_round_130
  refine x_aload_n C dX9_round_130 rfl 0 rfl ?_
  refine x_dup C dX9_round_131 rfl ?_
  refine x_get (v := .int (gI h 51 46)) C 46 dX9_round_132 (xc_51 G h) rfl (by decide) rfl (fun w h => List.mem_cons_of_mem _ (iWM_X9 w h)) (by decide) rfl (C.2.2.2.2.1 _ (List.mem_cons_of_mem _ qM_214)) ?_
  refine x_iconst (v := 1) C dX9_round_135 (by decide) ?_
  refine x_iadd C dX9_round_136 ?_
  refine x_putI (ty0 := tyX9) (ty := .int) C 46 dX9_round_137 (xc_51 G h) rfl (Nat.le_of_ble_eq_true rfl) (by decide) rfl (fun w h => List.mem_cons_of_mem _ (iWM_X9 w h)) tyX9_ok nmX9 (by decide) rfl rfl (by decide +kernel) rfl rfl (C.2.2.2.2.1 _ (List.mem_cons_of_mem _ qM_214)) (fun h1 => ?_)
  exact x_vret C dX9_round_140 hr
set_option maxHeartbeats 4000000 in
set_option maxRecDepth 100000 in
theorem T_X9_round_122 {G : xG} {p : Program} {l : Launch} {e : Env} {s : State} {m : MethodId} {args : Array Value} {below : List Frame} {meth : Method} {c : Code} {N : Nat} (C : xC G p s m args meth c cX9_round 7 vX9_round RX9) (hr : meth.sig.returnType = none) (h : xHp) : J_X9_round G p l e s m args below meth c 122 [(0, .ref (xad G 51))] [] h (F_X9_round_122 N h) := by
  unfold F_X9_round_122
  refine x_aload_n C dX9_round_122 rfl 0 rfl ?_
  refine x_aload_n C dX9_round_123 rfl 0 rfl ?_
  refine x_get (v := .int (gI h 51 46)) C 46 dX9_round_124 (xc_51 G h) rfl (by decide) rfl (fun w h => List.mem_cons_of_mem _ (iWM_X9 w h)) (by decide) rfl (C.2.2.2.2.1 _ (List.mem_cons_of_mem _ qM_214)) ?_
  refine x_callVv C dX9_round_127 (M_X9_wrong G l N (gI h 51 46) h) (cwV 1 C.2.2.2.2.1 (gdV gWM qM_226 qM_227 qM_228 qM_9 qM_217) rfl rfl rfl (by decide +kernel) ⟨Nat.le_of_ble_eq_true rfl, Nat.le_of_ble_eq_true rfl⟩) (xc_51 G h) (by decide) rfl rfl rfl (Nat.le_of_ble_eq_true rfl) (fun r1 h2 => ?_)
  exact x_sub [0] rfl (T_X9_round_130 C hr h2)
set_option maxHeartbeats 4000000 in
set_option maxRecDepth 100000 in
theorem T_X9_round_106 {G : xG} {p : Program} {l : Launch} {e : Env} {s : State} {m : MethodId} {args : Array Value} {below : List Frame} {meth : Method} {c : Code} {N : Nat} (C : xC G p s m args meth c cX9_round 7 vX9_round RX9) (hr : meth.sig.returnType = none) (x1 : Int32) (x2 : Int32) (x3 : Int32) (x4 : Int64) (h : xHp) : J_X9_round G p l e s m args below meth c 106 [(0, .ref (xad G 51)), (1, .int x1), (2, .int x2), (3, .int x3), (4, .long x4)] [] h (F_X9_round_106 N x1 x2 x3 x4 h) := by
  unfold F_X9_round_106
  refine x_iload_n C dX9_round_106 rfl 1 rfl ?_
  refine x_if_eq (tgt := 122) C dX9_round_107 (by decide) ?_ ?_
  · exact x_sub [0] rfl (T_X9_round_122 C hr h)
  · refine x_iload_n C dX9_round_110 rfl 3 rfl ?_
    refine x_iload_n C dX9_round_111 rfl 2 rfl ?_
    refine x_icmp_ne (tgt := 122) C dX9_round_112 (by decide) ?_ ?_
    · refine x_lload C dX9_round_115 4 rfl ?_
      refine x_lconst (v := 0) C dX9_round_117 (by decide) ?_
      refine x_lcmp C dX9_round_118 ?_
      refine x_if_lt (tgt := 130) C dX9_round_119 (by decide) ?_ ?_
      · exact x_sub [0] rfl (T_X9_round_130 C hr h)
      · exact x_sub [0] rfl (T_X9_round_122 C hr h)
    · exact x_sub [0] rfl (T_X9_round_122 C hr h)
set_option maxHeartbeats 4000000 in
set_option maxRecDepth 100000 in
theorem T_X9_round_19_b {G : xG} {p : Program} {l : Launch} {e : Env} {s : State} {m : MethodId} {args : Array Value} {below : List Frame} {meth : Method} {c : Code} {N : Nat} (C : xC G p s m args meth c cX9_round 7 vX9_round RX9) (hr : meth.sig.returnType = none) {k19 : Int32 → Int32 → Int32 → Int64 → xHp → Option (Unit × xHp)} (hk19 : ∀ (x1 : Int32) (x2 : Int32) (x3 : Int32) (x4 : Int64) (h : xHp), J_X9_round G p l e s m args below meth c 19 [(0, .ref (xad G 51)), (1, .int x1), (2, .int x2), (3, .int x3), (4, .long x4)] [] h (k19 x1 x2 x3 x4 h)) (x1 : Int32) (x2 : Int32) (x3 : Int32) (x4 : Int64) (h : xHp) : J_X9_round G p l e s m args below meth c 19 [(0, .ref (xad G 51)), (1, .int x1), (2, .int x2), (3, .int x3), (4, .long x4)] [] h (F_X9_round_19_b N k19 x1 x2 x3 x4 h) := by
  unfold F_X9_round_19_b
  refine x_aload_n C dX9_round_19 rfl 0 rfl ?_
  refine x_get (v := .int (gI h 51 47)) C 47 dX9_round_20 (xc_51 G h) rfl (by decide) rfl (fun w h => List.mem_cons_of_mem _ (iWM_X9 w h)) (by decide) rfl (C.2.2.2.2.1 _ (List.mem_cons_of_mem _ qM_218)) ?_
  refine x_iconst (v := (-1)) C dX9_round_23 (by decide) ?_
  refine x_icmp_ne (tgt := 106) C dX9_round_24 (by decide) ?_ ?_
  · refine x_aload_n C dX9_round_27 rfl 0 rfl ?_
    refine x_callVi C dX9_round_28 (M_X9_here G l N h) (cwV 0 C.2.2.2.2.1 (gdV gWM qM_223 qM_224 qM_225 qM_9 qM_213) rfl rfl rfl (by decide +kernel) ⟨Nat.le_of_ble_eq_true rfl, Nat.le_of_ble_eq_true rfl⟩) (xc_51 G h) (by decide) rfl rfl rfl (Nat.le_of_ble_eq_true rfl) (fun r1 h2 => ?_)
    refine x_bipush (v := 59) C dX9_round_31 (by decide) ?_
    refine x_icmp_eq (tgt := 106) C dX9_round_33 (by decide) ?_ ?_
    · exact x_sub [0, 1, 2, 3, 4] rfl (T_X9_round_106 C hr x1 x2 x3 x4 h2)
    · refine x_aload_n C dX9_round_36 rfl 0 rfl ?_
      refine x_get (v := .int (gI h2 51 46)) C 46 dX9_round_37 (xc_51 G h2) rfl (by decide) rfl (fun w h => List.mem_cons_of_mem _ (iWM_X9 w h)) (by decide) rfl (C.2.2.2.2.1 _ (List.mem_cons_of_mem _ qM_214)) ?_
      refine x_istore (lv' := [(6, .int (gI h2 51 46)), (0, .ref (xad G 51)), (1, .int x1), (2, .int x2), (3, .int x3), (4, .long x4)]) C dX9_round_40 (by decide) rfl ?_
      refine x_aload_n C dX9_round_42 rfl 1 rfl ?_
      refine x_callVv C dX9_round_43 (M_X9_item G l N h2) (cwV 0 C.2.2.2.2.1 (gdV gWM qM_233 qM_234 qM_235 qM_9 qM_232) rfl rfl rfl (by decide +kernel) ⟨Nat.le_of_ble_eq_true rfl, Nat.le_of_ble_eq_true rfl⟩) (xc_51 G h2) (by decide) rfl rfl rfl (Nat.le_of_ble_eq_true rfl) (fun r3 h4 => ?_)
      refine x_aload_n C dX9_round_46 rfl 1 rfl ?_
      refine x_get (v := .int (gI h4 51 47)) C 47 dX9_round_47 (xc_51 G h4) rfl (by decide) rfl (fun w h => List.mem_cons_of_mem _ (iWM_X9 w h)) (by decide) rfl (C.2.2.2.2.1 _ (List.mem_cons_of_mem _ qM_218)) ?_
      refine x_iconst (v := (-1)) C dX9_round_50 (by decide) ?_
      refine x_icmp_ne (tgt := 72) C dX9_round_51 (by decide) ?_ ?_
      · refine x_iload_n C dX9_round_54 rfl 2 rfl ?_
        refine x_if_le (tgt := 72) C dX9_round_55 (by decide) ?_ ?_
        · exact x_sub [1, 2, 3, 5] rfl (T_X9_round_72 C hr hk19 x1 x2 x4 h4)
        · refine x_aload_n C dX9_round_58 rfl 1 rfl ?_
          refine x_get (v := .int (gI h4 51 50)) C 50 dX9_round_59 (xc_51 G h4) rfl (by decide) rfl (fun w h => List.mem_cons_of_mem _ (iWM_X9 w h)) (by decide) rfl (C.2.2.2.2.1 _ (List.mem_cons_of_mem _ qM_220)) ?_
          refine x_iload_n C dX9_round_62 rfl 4 rfl ?_
          refine x_icmp_eq (tgt := 72) C dX9_round_63 (by decide) ?_ ?_
          · exact x_sub [1, 2, 3, 5] rfl (T_X9_round_72 C hr hk19 x1 x2 x4 h4)
          · refine x_aload_n C dX9_round_66 rfl 1 rfl ?_
            refine x_iload C dX9_round_67 0 rfl ?_
            refine x_callVv C dX9_round_69 (M_X9_wrong G l N (gI h2 51 46) h4) (cwV 1 C.2.2.2.2.1 (gdV gWM qM_226 qM_227 qM_228 qM_9 qM_217) rfl rfl rfl (by decide +kernel) ⟨Nat.le_of_ble_eq_true rfl, Nat.le_of_ble_eq_true rfl⟩) (xc_51 G h4) (by decide) rfl rfl rfl (Nat.le_of_ble_eq_true rfl) (fun r5 h6 => ?_)
            exact x_sub [1, 2, 3, 5] rfl (T_X9_round_72 C hr hk19 x1 x2 x4 h6)
      · exact x_sub [1, 2, 3, 5] rfl (T_X9_round_72 C hr hk19 x1 x2 x4 h4)
  · exact x_sub [0, 1, 2, 3, 4] rfl (T_X9_round_106 C hr x1 x2 x3 x4 h)
set_option maxHeartbeats 4000000 in
set_option maxRecDepth 100000 in
theorem T_X9_round_19_n {G : xG} {p : Program} {l : Launch} {e : Env} {s : State} {m : MethodId} {args : Array Value} {below : List Frame} {meth : Method} {c : Code} {N : Nat} (C : xC G p s m args meth c cX9_round 7 vX9_round RX9) (hr : meth.sig.returnType = none) : ∀ (n : Nat) (x1 : Int32) (x2 : Int32) (x3 : Int32) (x4 : Int64) (h : xHp), J_X9_round G p l e s m args below meth c 19 [(0, .ref (xad G 51)), (1, .int x1), (2, .int x2), (3, .int x3), (4, .long x4)] [] h (xit (F_X9_round_19_b N) (fun _ _ _ _ _ => none) n x1 x2 x3 x4 h) := by
  intro n
  induction n with
  | zero => intros; exact x_none
  | succ n ih => intros; exact T_X9_round_19_b C hr ih _ _ _ _ _
set_option maxHeartbeats 4000000 in
set_option maxRecDepth 100000 in
theorem T_X9_round_19 {G : xG} {p : Program} {l : Launch} {e : Env} {s : State} {m : MethodId} {args : Array Value} {below : List Frame} {meth : Method} {c : Code} {N : Nat} (C : xC G p s m args meth c cX9_round 7 vX9_round RX9) (hr : meth.sig.returnType = none) (x1 : Int32) (x2 : Int32) (x3 : Int32) (x4 : Int64) (h : xHp) : J_X9_round G p l e s m args below meth c 19 [(0, .ref (xad G 51)), (1, .int x1), (2, .int x2), (3, .int x3), (4, .long x4)] [] h (F_X9_round_19 N x1 x2 x3 x4 h) := T_X9_round_19_n C hr N x1 x2 x3 x4 h
set_option maxHeartbeats 4000000 in
set_option maxRecDepth 100000 in
theorem M_X9_round (G : xG) (l : Launch) (N : Nat) (h : xHp) : ∀ r, F_X9_round N h = some r → Met l yX9_round vX9_round ({ frames := 2, cells := 0, slots := 0, locals := 46 } : Room) (xPc G [.ref (xad G 51)] h) (xQv G r) 0 0 (xA G) := by
  refine x_met (own := RX9) (cc := cX9_round) (maxL := 7) (ret := none) (lv0 := [(0, .ref (xad G 51))]) (by decide +kernel) rfl rfl (Nat.le_of_ble_eq_true rfl) rfl ?_
  intro p e s m below meth c C hr
  unfold F_X9_round
  refine x_aload_n C dX9_round_0 rfl 0 rfl ?_
  refine x_dup C dX9_round_1 rfl ?_
  refine x_get (v := .int (gI h 51 46)) C 46 dX9_round_2 (xc_51 G h) rfl (by decide) rfl (fun w h => List.mem_cons_of_mem _ (iWM_X9 w h)) (by decide) rfl (C.2.2.2.2.1 _ (List.mem_cons_of_mem _ qM_214)) ?_
  refine x_iconst (v := 1) C dX9_round_5 (by decide) ?_
  refine x_iadd C dX9_round_6 ?_
  refine x_putI (ty0 := tyX9) (ty := .int) C 46 dX9_round_7 (xc_51 G h) rfl (Nat.le_of_ble_eq_true rfl) (by decide) rfl (fun w h => List.mem_cons_of_mem _ (iWM_X9 w h)) tyX9_ok nmX9 (by decide) rfl rfl (by decide +kernel) rfl rfl (C.2.2.2.2.1 _ (List.mem_cons_of_mem _ qM_214)) (fun h1 => ?_)
  refine x_iconst (v := 0) C dX9_round_10 (by decide) ?_
  refine x_istore_n (lv' := [(1, .int 0), (0, .ref (xad G 51))]) C dX9_round_11 rfl (by decide) rfl ?_
  refine x_iconst (v := 0) C dX9_round_12 (by decide) ?_
  refine x_istore_n (lv' := [(2, .int 0), (1, .int 0), (0, .ref (xad G 51))]) C dX9_round_13 rfl (by decide) rfl ?_
  refine x_iconst (v := 0) C dX9_round_14 (by decide) ?_
  refine x_istore_n (lv' := [(3, .int 0), (2, .int 0), (1, .int 0), (0, .ref (xad G 51))]) C dX9_round_15 rfl (by decide) rfl ?_
  refine x_lconst (v := 0) C dX9_round_16 (by decide) ?_
  refine x_lstore (lv' := [(4, .long 0), (3, .int 0), (2, .int 0), (1, .int 0), (0, .ref (xad G 51))]) C dX9_round_17 (by decide) rfl ?_
  exact x_sub [4, 3, 2, 1, 0] rfl (T_X9_round_19 C hr 0 0 0 0 h1)
/-! X9_leaf: 90 instructions -/
abbrev J_X9_leaf (G : xG) (p : Program) (l : Launch) (e : Env) (s : State) (m : MethodId) (args : Array Value) (below : List Frame) (meth : Method) (c : Code) : Nat → List (Nat × Value) → List Value → xHp → Option (Int32 × xHp) → Prop := xJ G p l e ({ frames := 3, cells := 0, slots := 0, locals := 72 } : Room) s m args below meth c 4 (fun res => MQ below (xQi G res) args s 0 0 (xA G))
def F_X9_leaf_26 (N : Nat) (h : xHp) : Option (Int32 × xHp) := bnd (sI h 51 46 ((gI h 51 46) + 1)) fun h1 => some (1, h1)
def F_X9_leaf_80 (N : Nat) (h : xHp) : Option (Int32 × xHp) := bnd2 (F_X9_wrong N (gI h 51 46) h) fun r1 h2 => some (1, h2)
def F_X9_leaf (N : Nat) (p1 : Int32) (h : xHp) : Option (Int32 × xHp) := bnd2 (F_X9_here N h) fun r1 h2 => if r1 = 46 then bnd2 (F_X9_judged N h2) fun r3 h4 => if r3 = 0 then F_X9_leaf_26 N h4 else bnd2 (F_X9_wrong N (gI h4 51 46) h4) fun r5 h6 => F_X9_leaf_26 N h6 else if r1 = 33 then bnd2 (F_X9_round N h2) fun r7 h8 => some (1, h8) else bnd2 (F_X9_isFigure N r1 h2) fun r9 h10 => if r9 = 0 then F_X9_leaf_80 N h10 else if (gI h10 51 24) ≤ (r1 - 48) then F_X9_leaf_80 N h10 else grd (xin (r1 - 48) 10) (if (gI h10 71 (r1 - 48).toNatClampNeg) = 2 then bnd (sI h10 51 46 ((gI h10 51 46) + 1)) fun h11 => bnd2 (F_X9_here N h11) fun r12 h13 => if r12 = 40 then bnd (sI h13 51 46 ((gI h13 51 46) + 1)) fun h14 => grd (xin p1 11) (bnd (sI h14 75 p1.toNatClampNeg (r1 - 48)) fun h15 => grd (xin p1 11) (bnd (sI h15 76 p1.toNatClampNeg (vp_nar .boolean 0)) fun h16 => grd (xin (r1 - 48) 10) (bnd (sI h16 71 (r1 - 48).toNatClampNeg 0) fun h17 => some (0, h17)))) else bnd2 (F_X9_wrong N (gI h13 51 46) h13) fun r18 h19 => some (1, h19) else F_X9_leaf_80 N h10)
set_option maxHeartbeats 4000000 in
set_option maxRecDepth 100000 in
theorem T_X9_leaf_26 {G : xG} {p : Program} {l : Launch} {e : Env} {s : State} {m : MethodId} {args : Array Value} {below : List Frame} {meth : Method} {c : Code} {N : Nat} (C : xC G p s m args meth c cX9_leaf 4 vX9_leaf RX9) (hr : meth.sig.returnType = (some .boolean)) (h : xHp) : J_X9_leaf G p l e s m args below meth c 26 [(0, .ref (xad G 51))] [] h (F_X9_leaf_26 N h) := by
  unfold F_X9_leaf_26
  refine x_aload_n C dX9_leaf_26 rfl 0 rfl ?_
  refine x_dup C dX9_leaf_27 rfl ?_
  refine x_get (v := .int (gI h 51 46)) C 46 dX9_leaf_28 (xc_51 G h) rfl (by decide) rfl (fun w h => List.mem_cons_of_mem _ (iWM_X9 w h)) (by decide) rfl (C.2.2.2.2.1 _ (List.mem_cons_of_mem _ qM_214)) ?_
  refine x_iconst (v := 1) C dX9_leaf_31 (by decide) ?_
  refine x_iadd C dX9_leaf_32 ?_
  refine x_putI (ty0 := tyX9) (ty := .int) C 46 dX9_leaf_33 (xc_51 G h) rfl (Nat.le_of_ble_eq_true rfl) (by decide) rfl (fun w h => List.mem_cons_of_mem _ (iWM_X9 w h)) tyX9_ok nmX9 (by decide) rfl rfl (by decide +kernel) rfl rfl (C.2.2.2.2.1 _ (List.mem_cons_of_mem _ qM_214)) (fun h1 => ?_)
  refine x_iconst (v := 1) C dX9_leaf_36 (by decide) ?_
  exact x_zretL C dX9_leaf_37 hr rfl
set_option maxHeartbeats 4000000 in
set_option maxRecDepth 100000 in
theorem T_X9_leaf_80 {G : xG} {p : Program} {l : Launch} {e : Env} {s : State} {m : MethodId} {args : Array Value} {below : List Frame} {meth : Method} {c : Code} {N : Nat} (C : xC G p s m args meth c cX9_leaf 4 vX9_leaf RX9) (hr : meth.sig.returnType = (some .boolean)) (h : xHp) : J_X9_leaf G p l e s m args below meth c 80 [(0, .ref (xad G 51))] [] h (F_X9_leaf_80 N h) := by
  unfold F_X9_leaf_80
  refine x_aload_n C dX9_leaf_80 rfl 0 rfl ?_
  refine x_aload_n C dX9_leaf_81 rfl 0 rfl ?_
  refine x_get (v := .int (gI h 51 46)) C 46 dX9_leaf_82 (xc_51 G h) rfl (by decide) rfl (fun w h => List.mem_cons_of_mem _ (iWM_X9 w h)) (by decide) rfl (C.2.2.2.2.1 _ (List.mem_cons_of_mem _ qM_214)) ?_
  refine x_callVv C dX9_leaf_85 (M_X9_wrong G l N (gI h 51 46) h) (cwV 1 C.2.2.2.2.1 (gdV gWM qM_226 qM_227 qM_228 qM_9 qM_217) rfl rfl rfl (by decide +kernel) ⟨Nat.le_of_ble_eq_true rfl, Nat.le_of_ble_eq_true rfl⟩) (xc_51 G h) (by decide) rfl rfl rfl (Nat.le_of_ble_eq_true rfl) (fun r1 h2 => ?_)
  refine x_iconst (v := 1) C dX9_leaf_88 (by decide) ?_
  exact x_zretL C dX9_leaf_89 hr rfl
set_option maxHeartbeats 4000000 in
set_option maxRecDepth 100000 in
theorem M_X9_leaf (G : xG) (l : Launch) (N : Nat) (p1 : Int32) (h : xHp) : ∀ r, F_X9_leaf N p1 h = some r → Met l yX9_leaf vX9_leaf ({ frames := 3, cells := 0, slots := 0, locals := 72 } : Room) (xPc G [.ref (xad G 51), .int p1] h) (xQi G r) 0 0 (xA G) := by
  refine x_met (own := RX9) (cc := cX9_leaf) (maxL := 4) (ret := (some .boolean)) (lv0 := [(0, .ref (xad G 51)), (1, .int p1)]) (by decide +kernel) rfl rfl (Nat.le_of_ble_eq_true rfl) rfl ?_
  intro p e s m below meth c C hr
  unfold F_X9_leaf
  refine x_aload_n C dX9_leaf_0 rfl 0 rfl ?_
  refine x_callVi C dX9_leaf_1 (M_X9_here G l N h) (cwV 0 C.2.2.2.2.1 (gdV gWM qM_223 qM_224 qM_225 qM_9 qM_213) rfl rfl rfl (by decide +kernel) ⟨Nat.le_of_ble_eq_true rfl, Nat.le_of_ble_eq_true rfl⟩) (xc_51 G h) (by decide) rfl rfl rfl (Nat.le_of_ble_eq_true rfl) (fun r1 h2 => ?_)
  refine x_istore_n (lv' := [(2, .int r1), (0, .ref (xad G 51)), (1, .int p1)]) C dX9_leaf_4 rfl (by decide) rfl ?_
  refine x_iload_n C dX9_leaf_5 rfl 0 rfl ?_
  refine x_bipush (v := 46) C dX9_leaf_6 (by decide) ?_
  refine x_icmp_ne (tgt := 38) C dX9_leaf_8 (by decide) ?_ ?_
  · refine x_aload_n C dX9_leaf_11 rfl 1 rfl ?_
    refine x_callVi C dX9_leaf_12 (M_X9_judged G l N h2) (cwV 0 C.2.2.2.2.1 (gdV gWM qM_168 qM_169 qM_170 qM_9 qM_164) rfl rfl rfl (by decide +kernel) ⟨Nat.le_of_ble_eq_true rfl, Nat.le_of_ble_eq_true rfl⟩) (xc_51 G h2) (by decide) rfl rfl rfl (Nat.le_of_ble_eq_true rfl) (fun r3 h4 => ?_)
    refine x_if_eq (tgt := 26) C dX9_leaf_15 (by decide) ?_ ?_
    · exact x_sub [1] rfl (T_X9_leaf_26 C hr h4)
    · refine x_aload_n C dX9_leaf_18 rfl 1 rfl ?_
      refine x_aload_n C dX9_leaf_19 rfl 1 rfl ?_
      refine x_get (v := .int (gI h4 51 46)) C 46 dX9_leaf_20 (xc_51 G h4) rfl (by decide) rfl (fun w h => List.mem_cons_of_mem _ (iWM_X9 w h)) (by decide) rfl (C.2.2.2.2.1 _ (List.mem_cons_of_mem _ qM_214)) ?_
      refine x_callVv C dX9_leaf_23 (M_X9_wrong G l N (gI h4 51 46) h4) (cwV 1 C.2.2.2.2.1 (gdV gWM qM_226 qM_227 qM_228 qM_9 qM_217) rfl rfl rfl (by decide +kernel) ⟨Nat.le_of_ble_eq_true rfl, Nat.le_of_ble_eq_true rfl⟩) (xc_51 G h4) (by decide) rfl rfl rfl (Nat.le_of_ble_eq_true rfl) (fun r5 h6 => ?_)
      exact x_sub [1] rfl (T_X9_leaf_26 C hr h6)
  · refine x_iload_n C dX9_leaf_38 rfl 0 rfl ?_
    refine x_bipush (v := 33) C dX9_leaf_39 (by decide) ?_
    refine x_icmp_ne (tgt := 50) C dX9_leaf_41 (by decide) ?_ ?_
    · refine x_aload_n C dX9_leaf_44 rfl 1 rfl ?_
      refine x_callVv C dX9_leaf_45 (M_X9_round G l N h2) (cwV 0 C.2.2.2.2.1 (gdV gWM qM_239 qM_240 qM_241 qM_9 qM_236) rfl rfl rfl (by decide +kernel) ⟨Nat.le_of_ble_eq_true rfl, Nat.le_of_ble_eq_true rfl⟩) (xc_51 G h2) (by decide) rfl rfl rfl (Nat.le_of_ble_eq_true rfl) (fun r7 h8 => ?_)
      refine x_iconst (v := 1) C dX9_leaf_48 (by decide) ?_
      exact x_zretL C dX9_leaf_49 hr rfl
    · refine x_iload_n C dX9_leaf_50 rfl 0 rfl ?_
      refine x_bipush (v := 48) C dX9_leaf_51 (by decide) ?_
      refine x_isub C dX9_leaf_53 ?_
      refine x_istore_n (lv' := [(3, .int (r1 - 48)), (2, .int r1), (0, .ref (xad G 51)), (1, .int p1)]) C dX9_leaf_54 rfl (by decide) rfl ?_
      refine x_iload_n C dX9_leaf_55 rfl 1 rfl ?_
      refine x_callSi C dX9_leaf_56 (M_X9_isFigure G l N r1 h2) (va_cwS 1 C.2.2.2.2.1 (gdS gWM qM_90 qM_91 qM_9 qM_77) rfl rfl rfl (by decide +kernel) ⟨Nat.le_of_ble_eq_true rfl, Nat.le_of_ble_eq_true rfl⟩) rfl rfl (Nat.le_of_ble_eq_true rfl) (fun r9 h10 => ?_)
      refine x_if_eq (tgt := 80) C dX9_leaf_59 (by decide) ?_ ?_
      · exact x_sub [2] rfl (T_X9_leaf_80 C hr h10)
      · refine x_iload_n C dX9_leaf_62 rfl 0 rfl ?_
        refine x_aload_n C dX9_leaf_63 rfl 2 rfl ?_
        refine x_get (v := .int (gI h10 51 24)) C 24 dX9_leaf_64 (xc_51 G h10) rfl (by decide) rfl (fun w h => List.mem_cons_of_mem _ (iWM_X9 w h)) (by decide) rfl (C.2.2.2.2.1 _ (List.mem_cons_of_mem _ qM_148)) ?_
        refine x_icmp_ge (tgt := 80) C dX9_leaf_67 (by decide) ?_ ?_
        · exact x_sub [2] rfl (T_X9_leaf_80 C hr h10)
        · refine x_aload_n C dX9_leaf_70 rfl 2 rfl ?_
          refine x_get (v := .ref (xad G 71)) C 40 dX9_leaf_71 (xc_51 G h10) rfl (by decide) rfl (fun w h => List.mem_cons_of_mem _ (iWM_X9 w h)) (by decide) rfl (C.2.2.2.2.1 _ (List.mem_cons_of_mem _ qM_166)) ?_
          refine x_iload_n C dX9_leaf_74 rfl 0 rfl ?_
          refine x_iald (n := 10) C dX9_leaf_75 (xc_71 G h10) (by decide) ?_
          refine x_iconst (v := 2) C dX9_leaf_76 (by decide) ?_
          refine x_icmp_eq (tgt := 90) C dX9_leaf_77 (by decide) ?_ ?_
          · refine x_aload_n C dX9_leaf_90 rfl 2 rfl ?_
            refine x_dup C dX9_leaf_91 rfl ?_
            refine x_get (v := .int (gI h10 51 46)) C 46 dX9_leaf_92 (xc_51 G h10) rfl (by decide) rfl (fun w h => List.mem_cons_of_mem _ (iWM_X9 w h)) (by decide) rfl (C.2.2.2.2.1 _ (List.mem_cons_of_mem _ qM_214)) ?_
            refine x_iconst (v := 1) C dX9_leaf_95 (by decide) ?_
            refine x_iadd C dX9_leaf_96 ?_
            refine x_putI (ty0 := tyX9) (ty := .int) C 46 dX9_leaf_97 (xc_51 G h10) rfl (Nat.le_of_ble_eq_true rfl) (by decide) rfl (fun w h => List.mem_cons_of_mem _ (iWM_X9 w h)) tyX9_ok nmX9 (by decide) rfl rfl (by decide +kernel) rfl rfl (C.2.2.2.2.1 _ (List.mem_cons_of_mem _ qM_214)) (fun h11 => ?_)
            refine x_aload_n C dX9_leaf_100 rfl 2 rfl ?_
            refine x_callVi C dX9_leaf_101 (M_X9_here G l N h11) (cwV 0 C.2.2.2.2.1 (gdV gWM qM_223 qM_224 qM_225 qM_9 qM_213) rfl rfl rfl (by decide +kernel) ⟨Nat.le_of_ble_eq_true rfl, Nat.le_of_ble_eq_true rfl⟩) (xc_51 G h11) (by decide) rfl rfl rfl (Nat.le_of_ble_eq_true rfl) (fun r12 h13 => ?_)
            refine x_bipush (v := 40) C dX9_leaf_104 (by decide) ?_
            refine x_icmp_eq (tgt := 119) C dX9_leaf_106 (by decide) ?_ ?_
            · refine x_aload_n C dX9_leaf_119 rfl 2 rfl ?_
              refine x_dup C dX9_leaf_120 rfl ?_
              refine x_get (v := .int (gI h13 51 46)) C 46 dX9_leaf_121 (xc_51 G h13) rfl (by decide) rfl (fun w h => List.mem_cons_of_mem _ (iWM_X9 w h)) (by decide) rfl (C.2.2.2.2.1 _ (List.mem_cons_of_mem _ qM_214)) ?_
              refine x_iconst (v := 1) C dX9_leaf_124 (by decide) ?_
              refine x_iadd C dX9_leaf_125 ?_
              refine x_putI (ty0 := tyX9) (ty := .int) C 46 dX9_leaf_126 (xc_51 G h13) rfl (Nat.le_of_ble_eq_true rfl) (by decide) rfl (fun w h => List.mem_cons_of_mem _ (iWM_X9 w h)) tyX9_ok nmX9 (by decide) rfl rfl (by decide +kernel) rfl rfl (C.2.2.2.2.1 _ (List.mem_cons_of_mem _ qM_214)) (fun h14 => ?_)
              refine x_aload_n C dX9_leaf_129 rfl 2 rfl ?_
              refine x_get (v := .ref (xad G 75)) C 48 dX9_leaf_130 (xc_51 G h14) rfl (by decide) rfl (fun w h => List.mem_cons_of_mem _ (iWM_X9 w h)) (by decide) rfl (C.2.2.2.2.1 _ (List.mem_cons_of_mem _ qM_237)) ?_
              refine x_iload_n C dX9_leaf_133 rfl 3 rfl ?_
              refine x_iload_n C dX9_leaf_134 rfl 0 rfl ?_
              refine x_iast (n := 11) C dX9_leaf_135 (fun g => xp_75 G g _ _) (by decide) (fun h15 => ?_)
              refine x_aload_n C dX9_leaf_136 rfl 2 rfl ?_
              refine x_get (v := .ref (xad G 76)) C 49 dX9_leaf_137 (xc_51 G h15) rfl (by decide) rfl (fun w h => List.mem_cons_of_mem _ (iWM_X9 w h)) (by decide) rfl (C.2.2.2.2.1 _ (List.mem_cons_of_mem _ qM_238)) ?_
              refine x_iload_n C dX9_leaf_140 rfl 3 rfl ?_
              refine x_iconst (v := 0) C dX9_leaf_141 (by decide) ?_
              refine x_zast (n := 11) C dX9_leaf_142 (fun g => xp_76 G g _ _) (by decide) (fun h16 => ?_)
              refine x_aload_n C dX9_leaf_143 rfl 2 rfl ?_
              refine x_get (v := .ref (xad G 71)) C 40 dX9_leaf_144 (xc_51 G h16) rfl (by decide) rfl (fun w h => List.mem_cons_of_mem _ (iWM_X9 w h)) (by decide) rfl (C.2.2.2.2.1 _ (List.mem_cons_of_mem _ qM_166)) ?_
              refine x_iload_n C dX9_leaf_147 rfl 0 rfl ?_
              refine x_iconst (v := 0) C dX9_leaf_148 (by decide) ?_
              refine x_iast (n := 10) C dX9_leaf_149 (fun g => xp_71 G g _ _) (by decide) (fun h17 => ?_)
              refine x_iconst (v := 0) C dX9_leaf_150 (by decide) ?_
              exact x_zretL C dX9_leaf_151 hr rfl
            · refine x_aload_n C dX9_leaf_109 rfl 2 rfl ?_
              refine x_aload_n C dX9_leaf_110 rfl 2 rfl ?_
              refine x_get (v := .int (gI h13 51 46)) C 46 dX9_leaf_111 (xc_51 G h13) rfl (by decide) rfl (fun w h => List.mem_cons_of_mem _ (iWM_X9 w h)) (by decide) rfl (C.2.2.2.2.1 _ (List.mem_cons_of_mem _ qM_214)) ?_
              refine x_callVv C dX9_leaf_114 (M_X9_wrong G l N (gI h13 51 46) h13) (cwV 1 C.2.2.2.2.1 (gdV gWM qM_226 qM_227 qM_228 qM_9 qM_217) rfl rfl rfl (by decide +kernel) ⟨Nat.le_of_ble_eq_true rfl, Nat.le_of_ble_eq_true rfl⟩) (xc_51 G h13) (by decide) rfl rfl rfl (Nat.le_of_ble_eq_true rfl) (fun r18 h19 => ?_)
              refine x_iconst (v := 1) C dX9_leaf_117 (by decide) ?_
              exact x_zretL C dX9_leaf_118 hr rfl
          · exact x_sub [2] rfl (T_X9_leaf_80 C hr h10)
/-! X9_goThrough: 129 instructions -/
abbrev J_X9_goThrough (G : xG) (p : Program) (l : Launch) (e : Env) (s : State) (m : MethodId) (args : Array Value) (below : List Frame) (meth : Method) (c : Code) : Nat → List (Nat × Value) → List Value → xHp → Option (Unit × xHp) → Prop := xJ G p l e ({ frames := 4, cells := 0, slots := 0, locals := 95 } : Room) s m args below meth c 4 (fun res => MQ below (xQv G res) args s 0 0 (xA G))
def F_X9_goThrough_114 (N : Nat) (k35 : Int32 → Int32 → xHp → Option (Unit × xHp)) (k63 : Int32 → Int32 → Int32 → xHp → Option (Unit × xHp)) (x1 : Int32) (x2 : Int32) (x3 : Int32) (h : xHp) : Option (Unit × xHp) := bnd (sI h 51 46 ((gI h 51 46) + 1)) fun h1 => grd (xin (x1 + (-1)) 11) (grd (xin (gI h1 75 (x1 + (-1)).toNatClampNeg) 10) (bnd (sI h1 71 (gI h1 75 (x1 + (-1)).toNatClampNeg).toNatClampNeg 2) fun h2 => k63 (x1 + (-1)) x2 x3 h2))
def F_X9_goThrough_159 (N : Nat) (k35 : Int32 → Int32 → xHp → Option (Unit × xHp)) (k63 : Int32 → Int32 → Int32 → xHp → Option (Unit × xHp)) (x1 : Int32) (x2 : Int32) (h : xHp) : Option (Unit × xHp) := bnd (sI h 51 46 ((gI h 51 46) + 1)) fun h1 => grd (xin (x1 - 1) 11) (bnd (sI h1 76 (x1 - 1).toNatClampNeg (vp_nar .boolean 1)) fun h2 => grd (xin (x1 - 1) 11) (grd (xin (gI h2 75 (x1 - 1).toNatClampNeg) 10) (bnd (sI h2 71 (gI h2 75 (x1 - 1).toNatClampNeg).toNatClampNeg 1) fun h3 => k63 x1 x2 0 h3)))
def F_X9_goThrough_197 (N : Nat) (k35 : Int32 → Int32 → xHp → Option (Unit × xHp)) (x1 : Int32) (x2 : Int32) (h : xHp) : Option (Unit × xHp) := k35 x1 x2 h
def F_X9_goThrough_63_b (N : Nat) (k35 : Int32 → Int32 → xHp → Option (Unit × xHp)) (k63 : Int32 → Int32 → Int32 → xHp → Option (Unit × xHp)) (x1 : Int32) (x2 : Int32) (x3 : Int32) (h : xHp) : Option (Unit × xHp) := if x3 = 0 then F_X9_goThrough_197 N k35 x1 x2 h else if (gI h 51 47) = (-1) then if x1 = 0 then k63 x1 0 0 h else grd (xin (x1 - 1) 11) (if (gI h 76 (x1 - 1).toNatClampNeg) = 0 then bnd2 (F_X9_here N h) fun r1 h2 => if r1 = 44 then F_X9_goThrough_159 N k35 k63 x1 x2 h2 else bnd2 (F_X9_wrong N (gI h2 51 46) h2) fun r3 h4 => F_X9_goThrough_159 N k35 k63 x1 x2 h4 else bnd2 (F_X9_here N h) fun r5 h6 => if r5 = 41 then F_X9_goThrough_114 N k35 k63 x1 x2 x3 h6 else bnd2 (F_X9_wrong N (gI h6 51 46) h6) fun r7 h8 => F_X9_goThrough_114 N k35 k63 x1 x2 x3 h8) else F_X9_goThrough_197 N k35 x1 x2 h
def F_X9_goThrough_63 (N : Nat) (k35 : Int32 → Int32 → xHp → Option (Unit × xHp)) (x1 : Int32) (x2 : Int32) (x3 : Int32) (h : xHp) : Option (Unit × xHp) := xit (F_X9_goThrough_63_b N k35) (fun _ _ _ _ => none) N x1 x2 x3 h
def F_X9_goThrough_200 (N : Nat) (h : xHp) : Option (Unit × xHp) := if (gI h 51 47) = (-1) then if (gI h 51 45) ≤ (gI h 51 46) then some ((), h) else bnd2 (F_X9_wrong N (gI h 51 46) h) fun r1 h2 => some ((), h2) else some ((), h)
def F_X9_goThrough_35_b (N : Nat) (k35 : Int32 → Int32 → xHp → Option (Unit × xHp)) (x1 : Int32) (x2 : Int32) (h : xHp) : Option (Unit × xHp) := if x2 = 0 then F_X9_goThrough_200 N h else if (gI h 51 47) = (-1) then bnd2 (F_X9_leaf N x1 h) fun r1 h2 => if r1 = 0 then k35 (x1 + 1) x2 h2 else F_X9_goThrough_63 N k35 x1 x2 1 h2 else F_X9_goThrough_200 N h
def F_X9_goThrough_35 (N : Nat) (x1 : Int32) (x2 : Int32) (h : xHp) : Option (Unit × xHp) := xit (F_X9_goThrough_35_b N) (fun _ _ _ => none) N x1 x2 h
def F_X9_goThrough_2_b (N : Nat) (k2 : Int32 → xHp → Option (Unit × xHp)) (x1 : Int32) (h : xHp) : Option (Unit × xHp) := if 10 ≤ x1 then bnd (sI h 51 46 0) fun h1 => bnd (sI h1 51 47 (-1)) fun h2 => F_X9_goThrough_35 N 0 1 h2 else grd (xin x1 10) (bnd (sI h 71 x1.toNatClampNeg 2) fun h3 => k2 (x1 + 1) h3)
def F_X9_goThrough_2 (N : Nat) (x1 : Int32) (h : xHp) : Option (Unit × xHp) := xit (F_X9_goThrough_2_b N) (fun _ _ => none) N x1 h
def F_X9_goThrough (N : Nat) (h : xHp) : Option (Unit × xHp) := F_X9_goThrough_2 N 0 h
set_option maxHeartbeats 4000000 in
set_option maxRecDepth 100000 in
theorem T_X9_goThrough_114 {G : xG} {p : Program} {l : Launch} {e : Env} {s : State} {m : MethodId} {args : Array Value} {below : List Frame} {meth : Method} {c : Code} {N : Nat} (C : xC G p s m args meth c cX9_goThrough 4 vX9_goThrough RX9) (hr : meth.sig.returnType = none) {k35 : Int32 → Int32 → xHp → Option (Unit × xHp)} (hk35 : ∀ (x1 : Int32) (x2 : Int32) (h : xHp), J_X9_goThrough G p l e s m args below meth c 35 [(0, .ref (xad G 51)), (1, .int x1), (2, .int x2)] [] h (k35 x1 x2 h)) {k63 : Int32 → Int32 → Int32 → xHp → Option (Unit × xHp)} (hk63 : ∀ (x1 : Int32) (x2 : Int32) (x3 : Int32) (h : xHp), J_X9_goThrough G p l e s m args below meth c 63 [(0, .ref (xad G 51)), (1, .int x1), (2, .int x2), (3, .int x3)] [] h (k63 x1 x2 x3 h)) (x1 : Int32) (x2 : Int32) (x3 : Int32) (h : xHp) : J_X9_goThrough G p l e s m args below meth c 114 [(0, .ref (xad G 51)), (1, .int x1), (2, .int x2), (3, .int x3)] [] h (F_X9_goThrough_114 N k35 k63 x1 x2 x3 h) := by
  unfold F_X9_goThrough_114
  refine x_aload_n C dX9_goThrough_114 rfl 0 rfl ?_
  refine x_dup C dX9_goThrough_115 rfl ?_
  refine x_get (v := .int (gI h 51 46)) C 46 dX9_goThrough_116 (xc_51 G h) rfl (by decide) rfl (fun w h => List.mem_cons_of_mem _ (iWM_X9 w h)) (by decide) rfl (C.2.2.2.2.1 _ (List.mem_cons_of_mem _ qM_214)) ?_
  refine x_iconst (v := 1) C dX9_goThrough_119 (by decide) ?_
  refine x_iadd C dX9_goThrough_120 ?_
  refine x_putI (ty0 := tyX9) (ty := .int) C 46 dX9_goThrough_121 (xc_51 G h) rfl (Nat.le_of_ble_eq_true rfl) (by decide) rfl (fun w h => List.mem_cons_of_mem _ (iWM_X9 w h)) tyX9_ok nmX9 (by decide) rfl rfl (by decide +kernel) rfl rfl (C.2.2.2.2.1 _ (List.mem_cons_of_mem _ qM_214)) (fun h1 => ?_)
  refine x_iinc (v := (x1 + (-1))) (j := 1) (lv' := [(1, .int (x1 + (-1))), (0, .ref (xad G 51)), (2, .int x2), (3, .int x3)]) C dX9_goThrough_124 rfl (by rfl) (by decide) rfl ?_
  refine x_aload_n C dX9_goThrough_127 rfl 1 rfl ?_
  refine x_get (v := .ref (xad G 71)) C 40 dX9_goThrough_128 (xc_51 G h1) rfl (by decide) rfl (fun w h => List.mem_cons_of_mem _ (iWM_X9 w h)) (by decide) rfl (C.2.2.2.2.1 _ (List.mem_cons_of_mem _ qM_166)) ?_
  refine x_aload_n C dX9_goThrough_131 rfl 1 rfl ?_
  refine x_get (v := .ref (xad G 75)) C 48 dX9_goThrough_132 (xc_51 G h1) rfl (by decide) rfl (fun w h => List.mem_cons_of_mem _ (iWM_X9 w h)) (by decide) rfl (C.2.2.2.2.1 _ (List.mem_cons_of_mem _ qM_237)) ?_
  refine x_iload_n C dX9_goThrough_135 rfl 0 rfl ?_
  refine x_iald (n := 11) C dX9_goThrough_136 (xc_75 G h1) (by decide) ?_
  refine x_iconst (v := 2) C dX9_goThrough_137 (by decide) ?_
  refine x_iast (n := 10) C dX9_goThrough_138 (fun g => xp_71 G g _ _) (by decide) (fun h2 => ?_)
  refine x_goto (tgt := 63) C dX9_goThrough_139 (by decide) ?_
  exact x_sub [1, 0, 2, 3] rfl (hk63 (x1 + (-1)) x2 x3 h2)
set_option maxHeartbeats 4000000 in
set_option maxRecDepth 100000 in
theorem T_X9_goThrough_159 {G : xG} {p : Program} {l : Launch} {e : Env} {s : State} {m : MethodId} {args : Array Value} {below : List Frame} {meth : Method} {c : Code} {N : Nat} (C : xC G p s m args meth c cX9_goThrough 4 vX9_goThrough RX9) (hr : meth.sig.returnType = none) {k35 : Int32 → Int32 → xHp → Option (Unit × xHp)} (hk35 : ∀ (x1 : Int32) (x2 : Int32) (h : xHp), J_X9_goThrough G p l e s m args below meth c 35 [(0, .ref (xad G 51)), (1, .int x1), (2, .int x2)] [] h (k35 x1 x2 h)) {k63 : Int32 → Int32 → Int32 → xHp → Option (Unit × xHp)} (hk63 : ∀ (x1 : Int32) (x2 : Int32) (x3 : Int32) (h : xHp), J_X9_goThrough G p l e s m args below meth c 63 [(0, .ref (xad G 51)), (1, .int x1), (2, .int x2), (3, .int x3)] [] h (k63 x1 x2 x3 h)) (x1 : Int32) (x2 : Int32) (h : xHp) : J_X9_goThrough G p l e s m args below meth c 159 [(0, .ref (xad G 51)), (1, .int x1), (2, .int x2)] [] h (F_X9_goThrough_159 N k35 k63 x1 x2 h) := by
  unfold F_X9_goThrough_159
  refine x_aload_n C dX9_goThrough_159 rfl 0 rfl ?_
  refine x_dup C dX9_goThrough_160 rfl ?_
  refine x_get (v := .int (gI h 51 46)) C 46 dX9_goThrough_161 (xc_51 G h) rfl (by decide) rfl (fun w h => List.mem_cons_of_mem _ (iWM_X9 w h)) (by decide) rfl (C.2.2.2.2.1 _ (List.mem_cons_of_mem _ qM_214)) ?_
  refine x_iconst (v := 1) C dX9_goThrough_164 (by decide) ?_
  refine x_iadd C dX9_goThrough_165 ?_
  refine x_putI (ty0 := tyX9) (ty := .int) C 46 dX9_goThrough_166 (xc_51 G h) rfl (Nat.le_of_ble_eq_true rfl) (by decide) rfl (fun w h => List.mem_cons_of_mem _ (iWM_X9 w h)) tyX9_ok nmX9 (by decide) rfl rfl (by decide +kernel) rfl rfl (C.2.2.2.2.1 _ (List.mem_cons_of_mem _ qM_214)) (fun h1 => ?_)
  refine x_aload_n C dX9_goThrough_169 rfl 0 rfl ?_
  refine x_get (v := .ref (xad G 76)) C 49 dX9_goThrough_170 (xc_51 G h1) rfl (by decide) rfl (fun w h => List.mem_cons_of_mem _ (iWM_X9 w h)) (by decide) rfl (C.2.2.2.2.1 _ (List.mem_cons_of_mem _ qM_238)) ?_
  refine x_iload_n C dX9_goThrough_173 rfl 1 rfl ?_
  refine x_iconst (v := 1) C dX9_goThrough_174 (by decide) ?_
  refine x_isub C dX9_goThrough_175 ?_
  refine x_iconst (v := 1) C dX9_goThrough_176 (by decide) ?_
  refine x_zast (n := 11) C dX9_goThrough_177 (fun g => xp_76 G g _ _) (by decide) (fun h2 => ?_)
  refine x_aload_n C dX9_goThrough_178 rfl 0 rfl ?_
  refine x_get (v := .ref (xad G 71)) C 40 dX9_goThrough_179 (xc_51 G h2) rfl (by decide) rfl (fun w h => List.mem_cons_of_mem _ (iWM_X9 w h)) (by decide) rfl (C.2.2.2.2.1 _ (List.mem_cons_of_mem _ qM_166)) ?_
  refine x_aload_n C dX9_goThrough_182 rfl 0 rfl ?_
  refine x_get (v := .ref (xad G 75)) C 48 dX9_goThrough_183 (xc_51 G h2) rfl (by decide) rfl (fun w h => List.mem_cons_of_mem _ (iWM_X9 w h)) (by decide) rfl (C.2.2.2.2.1 _ (List.mem_cons_of_mem _ qM_237)) ?_
  refine x_iload_n C dX9_goThrough_186 rfl 1 rfl ?_
  refine x_iconst (v := 1) C dX9_goThrough_187 (by decide) ?_
  refine x_isub C dX9_goThrough_188 ?_
  refine x_iald (n := 11) C dX9_goThrough_189 (xc_75 G h2) (by decide) ?_
  refine x_iconst (v := 1) C dX9_goThrough_190 (by decide) ?_
  refine x_iast (n := 10) C dX9_goThrough_191 (fun g => xp_71 G g _ _) (by decide) (fun h3 => ?_)
  refine x_iconst (v := 0) C dX9_goThrough_192 (by decide) ?_
  refine x_istore_n (lv' := [(3, .int 0), (0, .ref (xad G 51)), (1, .int x1), (2, .int x2)]) C dX9_goThrough_193 rfl (by decide) rfl ?_
  refine x_goto (tgt := 63) C dX9_goThrough_194 (by decide) ?_
  exact x_sub [1, 2, 3, 0] rfl (hk63 x1 x2 0 h3)
set_option maxHeartbeats 4000000 in
set_option maxRecDepth 100000 in
theorem T_X9_goThrough_197 {G : xG} {p : Program} {l : Launch} {e : Env} {s : State} {m : MethodId} {args : Array Value} {below : List Frame} {meth : Method} {c : Code} {N : Nat} (C : xC G p s m args meth c cX9_goThrough 4 vX9_goThrough RX9) (hr : meth.sig.returnType = none) {k35 : Int32 → Int32 → xHp → Option (Unit × xHp)} (hk35 : ∀ (x1 : Int32) (x2 : Int32) (h : xHp), J_X9_goThrough G p l e s m args below meth c 35 [(0, .ref (xad G 51)), (1, .int x1), (2, .int x2)] [] h (k35 x1 x2 h)) (x1 : Int32) (x2 : Int32) (h : xHp) : J_X9_goThrough G p l e s m args below meth c 197 [(0, .ref (xad G 51)), (1, .int x1), (2, .int x2)] [] h (F_X9_goThrough_197 N k35 x1 x2 h) := by
  unfold F_X9_goThrough_197
  refine x_goto (tgt := 35) C dX9_goThrough_197 (by decide) ?_
  exact x_sub [0, 1, 2] rfl (hk35 x1 x2 h)
set_option maxHeartbeats 4000000 in
set_option maxRecDepth 100000 in
theorem T_X9_goThrough_63_b {G : xG} {p : Program} {l : Launch} {e : Env} {s : State} {m : MethodId} {args : Array Value} {below : List Frame} {meth : Method} {c : Code} {N : Nat} (C : xC G p s m args meth c cX9_goThrough 4 vX9_goThrough RX9) (hr : meth.sig.returnType = none) {k35 : Int32 → Int32 → xHp → Option (Unit × xHp)} (hk35 : ∀ (x1 : Int32) (x2 : Int32) (h : xHp), J_X9_goThrough G p l e s m args below meth c 35 [(0, .ref (xad G 51)), (1, .int x1), (2, .int x2)] [] h (k35 x1 x2 h)) {k63 : Int32 → Int32 → Int32 → xHp → Option (Unit × xHp)} (hk63 : ∀ (x1 : Int32) (x2 : Int32) (x3 : Int32) (h : xHp), J_X9_goThrough G p l e s m args below meth c 63 [(0, .ref (xad G 51)), (1, .int x1), (2, .int x2), (3, .int x3)] [] h (k63 x1 x2 x3 h)) (x1 : Int32) (x2 : Int32) (x3 : Int32) (h : xHp) : J_X9_goThrough G p l e s m args below meth c 63 [(0, .ref (xad G 51)), (1, .int x1), (2, .int x2), (3, .int x3)] [] h (F_X9_goThrough_63_b N k35 k63 x1 x2 x3 h) := by
  unfold F_X9_goThrough_63_b
  refine x_iload_n C dX9_goThrough_63 rfl 3 rfl ?_
  refine x_if_eq (tgt := 197) C dX9_goThrough_64 (by decide) ?_ ?_
  · exact x_sub [0, 1, 2] rfl (T_X9_goThrough_197 C hr hk35 x1 x2 h)
  · refine x_aload_n C dX9_goThrough_67 rfl 0 rfl ?_
    refine x_get (v := .int (gI h 51 47)) C 47 dX9_goThrough_68 (xc_51 G h) rfl (by decide) rfl (fun w h => List.mem_cons_of_mem _ (iWM_X9 w h)) (by decide) rfl (C.2.2.2.2.1 _ (List.mem_cons_of_mem _ qM_218)) ?_
    refine x_iconst (v := (-1)) C dX9_goThrough_71 (by decide) ?_
    refine x_icmp_ne (tgt := 197) C dX9_goThrough_72 (by decide) ?_ ?_
    · refine x_iload_n C dX9_goThrough_75 rfl 1 rfl ?_
      refine x_if_ne (tgt := 86) C dX9_goThrough_76 (by decide) ?_ ?_
      · refine x_iconst (v := 0) C dX9_goThrough_79 (by decide) ?_
        refine x_istore_n (lv' := [(2, .int 0), (0, .ref (xad G 51)), (1, .int x1), (3, .int x3)]) C dX9_goThrough_80 rfl (by decide) rfl ?_
        refine x_iconst (v := 0) C dX9_goThrough_81 (by decide) ?_
        refine x_istore_n (lv' := [(3, .int 0), (2, .int 0), (0, .ref (xad G 51)), (1, .int x1)]) C dX9_goThrough_82 rfl (by decide) rfl ?_
        refine x_goto (tgt := 63) C dX9_goThrough_83 (by decide) ?_
        exact x_sub [2, 3, 1, 0] rfl (hk63 x1 0 0 h)
      · refine x_aload_n C dX9_goThrough_86 rfl 0 rfl ?_
        refine x_get (v := .ref (xad G 76)) C 49 dX9_goThrough_87 (xc_51 G h) rfl (by decide) rfl (fun w h => List.mem_cons_of_mem _ (iWM_X9 w h)) (by decide) rfl (C.2.2.2.2.1 _ (List.mem_cons_of_mem _ qM_238)) ?_
        refine x_iload_n C dX9_goThrough_90 rfl 1 rfl ?_
        refine x_iconst (v := 1) C dX9_goThrough_91 (by decide) ?_
        refine x_isub C dX9_goThrough_92 ?_
        refine x_zald (n := 11) C dX9_goThrough_93 (xc_76 G h) (by decide) ?_
        refine x_if_eq (tgt := 142) C dX9_goThrough_94 (by decide) ?_ ?_
        · refine x_aload_n C dX9_goThrough_142 rfl 0 rfl ?_
          refine x_callVi C dX9_goThrough_143 (M_X9_here G l N h) (cwV 0 C.2.2.2.2.1 (gdV gWM qM_223 qM_224 qM_225 qM_9 qM_213) rfl rfl rfl (by decide +kernel) ⟨Nat.le_of_ble_eq_true rfl, Nat.le_of_ble_eq_true rfl⟩) (xc_51 G h) (by decide) rfl rfl rfl (Nat.le_of_ble_eq_true rfl) (fun r1 h2 => ?_)
          refine x_bipush (v := 44) C dX9_goThrough_146 (by decide) ?_
          refine x_icmp_eq (tgt := 159) C dX9_goThrough_148 (by decide) ?_ ?_
          · exact x_sub [0, 1, 2] rfl (T_X9_goThrough_159 C hr hk35 hk63 x1 x2 h2)
          · refine x_aload_n C dX9_goThrough_151 rfl 0 rfl ?_
            refine x_aload_n C dX9_goThrough_152 rfl 0 rfl ?_
            refine x_get (v := .int (gI h2 51 46)) C 46 dX9_goThrough_153 (xc_51 G h2) rfl (by decide) rfl (fun w h => List.mem_cons_of_mem _ (iWM_X9 w h)) (by decide) rfl (C.2.2.2.2.1 _ (List.mem_cons_of_mem _ qM_214)) ?_
            refine x_callVv C dX9_goThrough_156 (M_X9_wrong G l N (gI h2 51 46) h2) (cwV 1 C.2.2.2.2.1 (gdV gWM qM_226 qM_227 qM_228 qM_9 qM_217) rfl rfl rfl (by decide +kernel) ⟨Nat.le_of_ble_eq_true rfl, Nat.le_of_ble_eq_true rfl⟩) (xc_51 G h2) (by decide) rfl rfl rfl (Nat.le_of_ble_eq_true rfl) (fun r3 h4 => ?_)
            exact x_sub [0, 1, 2] rfl (T_X9_goThrough_159 C hr hk35 hk63 x1 x2 h4)
        · refine x_aload_n C dX9_goThrough_97 rfl 0 rfl ?_
          refine x_callVi C dX9_goThrough_98 (M_X9_here G l N h) (cwV 0 C.2.2.2.2.1 (gdV gWM qM_223 qM_224 qM_225 qM_9 qM_213) rfl rfl rfl (by decide +kernel) ⟨Nat.le_of_ble_eq_true rfl, Nat.le_of_ble_eq_true rfl⟩) (xc_51 G h) (by decide) rfl rfl rfl (Nat.le_of_ble_eq_true rfl) (fun r5 h6 => ?_)
          refine x_bipush (v := 41) C dX9_goThrough_101 (by decide) ?_
          refine x_icmp_eq (tgt := 114) C dX9_goThrough_103 (by decide) ?_ ?_
          · exact x_sub [0, 1, 2, 3] rfl (T_X9_goThrough_114 C hr hk35 hk63 x1 x2 x3 h6)
          · refine x_aload_n C dX9_goThrough_106 rfl 0 rfl ?_
            refine x_aload_n C dX9_goThrough_107 rfl 0 rfl ?_
            refine x_get (v := .int (gI h6 51 46)) C 46 dX9_goThrough_108 (xc_51 G h6) rfl (by decide) rfl (fun w h => List.mem_cons_of_mem _ (iWM_X9 w h)) (by decide) rfl (C.2.2.2.2.1 _ (List.mem_cons_of_mem _ qM_214)) ?_
            refine x_callVv C dX9_goThrough_111 (M_X9_wrong G l N (gI h6 51 46) h6) (cwV 1 C.2.2.2.2.1 (gdV gWM qM_226 qM_227 qM_228 qM_9 qM_217) rfl rfl rfl (by decide +kernel) ⟨Nat.le_of_ble_eq_true rfl, Nat.le_of_ble_eq_true rfl⟩) (xc_51 G h6) (by decide) rfl rfl rfl (Nat.le_of_ble_eq_true rfl) (fun r7 h8 => ?_)
            exact x_sub [0, 1, 2, 3] rfl (T_X9_goThrough_114 C hr hk35 hk63 x1 x2 x3 h8)
    · exact x_sub [0, 1, 2] rfl (T_X9_goThrough_197 C hr hk35 x1 x2 h)
set_option maxHeartbeats 4000000 in
set_option maxRecDepth 100000 in
theorem T_X9_goThrough_63_n {G : xG} {p : Program} {l : Launch} {e : Env} {s : State} {m : MethodId} {args : Array Value} {below : List Frame} {meth : Method} {c : Code} {N : Nat} (C : xC G p s m args meth c cX9_goThrough 4 vX9_goThrough RX9) (hr : meth.sig.returnType = none) {k35 : Int32 → Int32 → xHp → Option (Unit × xHp)} (hk35 : ∀ (x1 : Int32) (x2 : Int32) (h : xHp), J_X9_goThrough G p l e s m args below meth c 35 [(0, .ref (xad G 51)), (1, .int x1), (2, .int x2)] [] h (k35 x1 x2 h)) : ∀ (n : Nat) (x1 : Int32) (x2 : Int32) (x3 : Int32) (h : xHp), J_X9_goThrough G p l e s m args below meth c 63 [(0, .ref (xad G 51)), (1, .int x1), (2, .int x2), (3, .int x3)] [] h (xit (F_X9_goThrough_63_b N k35) (fun _ _ _ _ => none) n x1 x2 x3 h) := by
  intro n
  induction n with
  | zero => intros; exact x_none
  | succ n ih => intros; exact T_X9_goThrough_63_b C hr hk35 ih _ _ _ _
set_option maxHeartbeats 4000000 in
set_option maxRecDepth 100000 in
theorem T_X9_goThrough_63 {G : xG} {p : Program} {l : Launch} {e : Env} {s : State} {m : MethodId} {args : Array Value} {below : List Frame} {meth : Method} {c : Code} {N : Nat} (C : xC G p s m args meth c cX9_goThrough 4 vX9_goThrough RX9) (hr : meth.sig.returnType = none) {k35 : Int32 → Int32 → xHp → Option (Unit × xHp)} (hk35 : ∀ (x1 : Int32) (x2 : Int32) (h : xHp), J_X9_goThrough G p l e s m args below meth c 35 [(0, .ref (xad G 51)), (1, .int x1), (2, .int x2)] [] h (k35 x1 x2 h)) (x1 : Int32) (x2 : Int32) (x3 : Int32) (h : xHp) : J_X9_goThrough G p l e s m args below meth c 63 [(0, .ref (xad G 51)), (1, .int x1), (2, .int x2), (3, .int x3)] [] h (F_X9_goThrough_63 N k35 x1 x2 x3 h) := T_X9_goThrough_63_n C hr hk35 N x1 x2 x3 h
set_option maxHeartbeats 4000000 in
set_option maxRecDepth 100000 in
theorem T_X9_goThrough_200 {G : xG} {p : Program} {l : Launch} {e : Env} {s : State} {m : MethodId} {args : Array Value} {below : List Frame} {meth : Method} {c : Code} {N : Nat} (C : xC G p s m args meth c cX9_goThrough 4 vX9_goThrough RX9) (hr : meth.sig.returnType = none) (h : xHp) : J_X9_goThrough G p l e s m args below meth c 200 [(0, .ref (xad G 51))] [] h (F_X9_goThrough_200 N h) := by
  unfold F_X9_goThrough_200
  refine x_aload_n C dX9_goThrough_200 rfl 0 rfl ?_
  refine x_get (v := .int (gI h 51 47)) C 47 dX9_goThrough_201 (xc_51 G h) rfl (by decide) rfl (fun w h => List.mem_cons_of_mem _ (iWM_X9 w h)) (by decide) rfl (C.2.2.2.2.1 _ (List.mem_cons_of_mem _ qM_218)) ?_
  refine x_iconst (v := (-1)) C dX9_goThrough_204 (by decide) ?_
  refine x_icmp_ne (tgt := 227) C dX9_goThrough_205 (by decide) ?_ ?_
  · refine x_aload_n C dX9_goThrough_208 rfl 0 rfl ?_
    refine x_get (v := .int (gI h 51 46)) C 46 dX9_goThrough_209 (xc_51 G h) rfl (by decide) rfl (fun w h => List.mem_cons_of_mem _ (iWM_X9 w h)) (by decide) rfl (C.2.2.2.2.1 _ (List.mem_cons_of_mem _ qM_214)) ?_
    refine x_aload_n C dX9_goThrough_212 rfl 0 rfl ?_
    refine x_get (v := .int (gI h 51 45)) C 45 dX9_goThrough_213 (xc_51 G h) rfl (by decide) rfl (fun w h => List.mem_cons_of_mem _ (iWM_X9 w h)) (by decide) rfl (C.2.2.2.2.1 _ (List.mem_cons_of_mem _ qM_215)) ?_
    refine x_icmp_ge (tgt := 227) C dX9_goThrough_216 (by decide) ?_ ?_
    · exact x_vret C dX9_goThrough_227 hr
    · refine x_aload_n C dX9_goThrough_219 rfl 0 rfl ?_
      refine x_aload_n C dX9_goThrough_220 rfl 0 rfl ?_
      refine x_get (v := .int (gI h 51 46)) C 46 dX9_goThrough_221 (xc_51 G h) rfl (by decide) rfl (fun w h => List.mem_cons_of_mem _ (iWM_X9 w h)) (by decide) rfl (C.2.2.2.2.1 _ (List.mem_cons_of_mem _ qM_214)) ?_
      refine x_callVv C dX9_goThrough_224 (M_X9_wrong G l N (gI h 51 46) h) (cwV 1 C.2.2.2.2.1 (gdV gWM qM_226 qM_227 qM_228 qM_9 qM_217) rfl rfl rfl (by decide +kernel) ⟨Nat.le_of_ble_eq_true rfl, Nat.le_of_ble_eq_true rfl⟩) (xc_51 G h) (by decide) rfl rfl rfl (Nat.le_of_ble_eq_true rfl) (fun r1 h2 => ?_)
      exact x_vret C dX9_goThrough_227 hr
  · exact x_vret C dX9_goThrough_227 hr
set_option maxHeartbeats 4000000 in
set_option maxRecDepth 100000 in
theorem T_X9_goThrough_35_b {G : xG} {p : Program} {l : Launch} {e : Env} {s : State} {m : MethodId} {args : Array Value} {below : List Frame} {meth : Method} {c : Code} {N : Nat} (C : xC G p s m args meth c cX9_goThrough 4 vX9_goThrough RX9) (hr : meth.sig.returnType = none) {k35 : Int32 → Int32 → xHp → Option (Unit × xHp)} (hk35 : ∀ (x1 : Int32) (x2 : Int32) (h : xHp), J_X9_goThrough G p l e s m args below meth c 35 [(0, .ref (xad G 51)), (1, .int x1), (2, .int x2)] [] h (k35 x1 x2 h)) (x1 : Int32) (x2 : Int32) (h : xHp) : J_X9_goThrough G p l e s m args below meth c 35 [(0, .ref (xad G 51)), (1, .int x1), (2, .int x2)] [] h (F_X9_goThrough_35_b N k35 x1 x2 h) := by
  unfold F_X9_goThrough_35_b
  refine x_iload_n C dX9_goThrough_35 rfl 2 rfl ?_
  refine x_if_eq (tgt := 200) C dX9_goThrough_36 (by decide) ?_ ?_
  · exact x_sub [0] rfl (T_X9_goThrough_200 C hr h)
  · refine x_aload_n C dX9_goThrough_39 rfl 0 rfl ?_
    refine x_get (v := .int (gI h 51 47)) C 47 dX9_goThrough_40 (xc_51 G h) rfl (by decide) rfl (fun w h => List.mem_cons_of_mem _ (iWM_X9 w h)) (by decide) rfl (C.2.2.2.2.1 _ (List.mem_cons_of_mem _ qM_218)) ?_
    refine x_iconst (v := (-1)) C dX9_goThrough_43 (by decide) ?_
    refine x_icmp_ne (tgt := 200) C dX9_goThrough_44 (by decide) ?_ ?_
    · refine x_aload_n C dX9_goThrough_47 rfl 0 rfl ?_
      refine x_iload_n C dX9_goThrough_48 rfl 1 rfl ?_
      refine x_callVi C dX9_goThrough_49 (M_X9_leaf G l N x1 h) (cwV 1 C.2.2.2.2.1 (gdV gWM qM_243 qM_244 qM_245 qM_9 qM_242) rfl rfl rfl (by decide +kernel) ⟨Nat.le_of_ble_eq_true rfl, Nat.le_of_ble_eq_true rfl⟩) (xc_51 G h) (by decide) rfl rfl rfl (Nat.le_of_ble_eq_true rfl) (fun r1 h2 => ?_)
      refine x_if_ne (tgt := 61) C dX9_goThrough_52 (by decide) ?_ ?_
      · refine x_iinc (v := (x1 + 1)) (j := 1) (lv' := [(1, .int (x1 + 1)), (0, .ref (xad G 51)), (2, .int x2)]) C dX9_goThrough_55 rfl (by rfl) (by decide) rfl ?_
        refine x_goto (tgt := 35) C dX9_goThrough_58 (by decide) ?_
        exact x_sub [1, 0, 2] rfl (hk35 (x1 + 1) x2 h2)
      · refine x_iconst (v := 1) C dX9_goThrough_61 (by decide) ?_
        refine x_istore_n (lv' := [(3, .int 1), (0, .ref (xad G 51)), (1, .int x1), (2, .int x2)]) C dX9_goThrough_62 rfl (by decide) rfl ?_
        exact x_sub [1, 2, 3, 0] rfl (T_X9_goThrough_63 C hr hk35 x1 x2 1 h2)
    · exact x_sub [0] rfl (T_X9_goThrough_200 C hr h)
set_option maxHeartbeats 4000000 in
set_option maxRecDepth 100000 in
theorem T_X9_goThrough_35_n {G : xG} {p : Program} {l : Launch} {e : Env} {s : State} {m : MethodId} {args : Array Value} {below : List Frame} {meth : Method} {c : Code} {N : Nat} (C : xC G p s m args meth c cX9_goThrough 4 vX9_goThrough RX9) (hr : meth.sig.returnType = none) : ∀ (n : Nat) (x1 : Int32) (x2 : Int32) (h : xHp), J_X9_goThrough G p l e s m args below meth c 35 [(0, .ref (xad G 51)), (1, .int x1), (2, .int x2)] [] h (xit (F_X9_goThrough_35_b N) (fun _ _ _ => none) n x1 x2 h) := by
  intro n
  induction n with
  | zero => intros; exact x_none
  | succ n ih => intros; exact T_X9_goThrough_35_b C hr ih _ _ _
set_option maxHeartbeats 4000000 in
set_option maxRecDepth 100000 in
theorem T_X9_goThrough_35 {G : xG} {p : Program} {l : Launch} {e : Env} {s : State} {m : MethodId} {args : Array Value} {below : List Frame} {meth : Method} {c : Code} {N : Nat} (C : xC G p s m args meth c cX9_goThrough 4 vX9_goThrough RX9) (hr : meth.sig.returnType = none) (x1 : Int32) (x2 : Int32) (h : xHp) : J_X9_goThrough G p l e s m args below meth c 35 [(0, .ref (xad G 51)), (1, .int x1), (2, .int x2)] [] h (F_X9_goThrough_35 N x1 x2 h) := T_X9_goThrough_35_n C hr N x1 x2 h
set_option maxHeartbeats 4000000 in
set_option maxRecDepth 100000 in
theorem T_X9_goThrough_2_b {G : xG} {p : Program} {l : Launch} {e : Env} {s : State} {m : MethodId} {args : Array Value} {below : List Frame} {meth : Method} {c : Code} {N : Nat} (C : xC G p s m args meth c cX9_goThrough 4 vX9_goThrough RX9) (hr : meth.sig.returnType = none) {k2 : Int32 → xHp → Option (Unit × xHp)} (hk2 : ∀ (x1 : Int32) (h : xHp), J_X9_goThrough G p l e s m args below meth c 2 [(0, .ref (xad G 51)), (1, .int x1)] [] h (k2 x1 h)) (x1 : Int32) (h : xHp) : J_X9_goThrough G p l e s m args below meth c 2 [(0, .ref (xad G 51)), (1, .int x1)] [] h (F_X9_goThrough_2_b N k2 x1 h) := by
  unfold F_X9_goThrough_2_b
  refine x_iload_n C dX9_goThrough_2 rfl 1 rfl ?_
  refine x_bipush (v := 10) C dX9_goThrough_3 (by decide) ?_
  refine x_icmp_ge (tgt := 21) C dX9_goThrough_5 (by decide) ?_ ?_
  · refine x_aload_n C dX9_goThrough_21 rfl 0 rfl ?_
    refine x_iconst (v := 0) C dX9_goThrough_22 (by decide) ?_
    refine x_putI (ty0 := tyX9) (ty := .int) C 46 dX9_goThrough_23 (xc_51 G h) rfl (Nat.le_of_ble_eq_true rfl) (by decide) rfl (fun w h => List.mem_cons_of_mem _ (iWM_X9 w h)) tyX9_ok nmX9 (by decide) rfl rfl (by decide +kernel) rfl rfl (C.2.2.2.2.1 _ (List.mem_cons_of_mem _ qM_214)) (fun h1 => ?_)
    refine x_aload_n C dX9_goThrough_26 rfl 0 rfl ?_
    refine x_iconst (v := (-1)) C dX9_goThrough_27 (by decide) ?_
    refine x_putI (ty0 := tyX9) (ty := .int) C 47 dX9_goThrough_28 (xc_51 G h1) rfl (Nat.le_of_ble_eq_true rfl) (by decide) rfl (fun w h => List.mem_cons_of_mem _ (iWM_X9 w h)) tyX9_ok nmX9 (by decide) rfl rfl (by decide +kernel) rfl rfl (C.2.2.2.2.1 _ (List.mem_cons_of_mem _ qM_218)) (fun h2 => ?_)
    refine x_iconst (v := 0) C dX9_goThrough_31 (by decide) ?_
    refine x_istore_n (lv' := [(1, .int 0), (0, .ref (xad G 51))]) C dX9_goThrough_32 rfl (by decide) rfl ?_
    refine x_iconst (v := 1) C dX9_goThrough_33 (by decide) ?_
    refine x_istore_n (lv' := [(2, .int 1), (1, .int 0), (0, .ref (xad G 51))]) C dX9_goThrough_34 rfl (by decide) rfl ?_
    exact x_sub [2, 1, 0] rfl (T_X9_goThrough_35 C hr 0 1 h2)
  · refine x_aload_n C dX9_goThrough_8 rfl 0 rfl ?_
    refine x_get (v := .ref (xad G 71)) C 40 dX9_goThrough_9 (xc_51 G h) rfl (by decide) rfl (fun w h => List.mem_cons_of_mem _ (iWM_X9 w h)) (by decide) rfl (C.2.2.2.2.1 _ (List.mem_cons_of_mem _ qM_166)) ?_
    refine x_iload_n C dX9_goThrough_12 rfl 1 rfl ?_
    refine x_iconst (v := 2) C dX9_goThrough_13 (by decide) ?_
    refine x_iast (n := 10) C dX9_goThrough_14 (fun g => xp_71 G g _ _) (by decide) (fun h3 => ?_)
    refine x_iinc (v := (x1 + 1)) (j := 1) (lv' := [(1, .int (x1 + 1)), (0, .ref (xad G 51))]) C dX9_goThrough_15 rfl (by rfl) (by decide) rfl ?_
    refine x_goto (tgt := 2) C dX9_goThrough_18 (by decide) ?_
    exact x_sub [1, 0] rfl (hk2 (x1 + 1) h3)
set_option maxHeartbeats 4000000 in
set_option maxRecDepth 100000 in
theorem T_X9_goThrough_2_n {G : xG} {p : Program} {l : Launch} {e : Env} {s : State} {m : MethodId} {args : Array Value} {below : List Frame} {meth : Method} {c : Code} {N : Nat} (C : xC G p s m args meth c cX9_goThrough 4 vX9_goThrough RX9) (hr : meth.sig.returnType = none) : ∀ (n : Nat) (x1 : Int32) (h : xHp), J_X9_goThrough G p l e s m args below meth c 2 [(0, .ref (xad G 51)), (1, .int x1)] [] h (xit (F_X9_goThrough_2_b N) (fun _ _ => none) n x1 h) := by
  intro n
  induction n with
  | zero => intros; exact x_none
  | succ n ih => intros; exact T_X9_goThrough_2_b C hr ih _ _
set_option maxHeartbeats 4000000 in
set_option maxRecDepth 100000 in
theorem T_X9_goThrough_2 {G : xG} {p : Program} {l : Launch} {e : Env} {s : State} {m : MethodId} {args : Array Value} {below : List Frame} {meth : Method} {c : Code} {N : Nat} (C : xC G p s m args meth c cX9_goThrough 4 vX9_goThrough RX9) (hr : meth.sig.returnType = none) (x1 : Int32) (h : xHp) : J_X9_goThrough G p l e s m args below meth c 2 [(0, .ref (xad G 51)), (1, .int x1)] [] h (F_X9_goThrough_2 N x1 h) := T_X9_goThrough_2_n C hr N x1 h
set_option maxHeartbeats 4000000 in
set_option maxRecDepth 100000 in
theorem M_X9_goThrough (G : xG) (l : Launch) (N : Nat) (h : xHp) : ∀ r, F_X9_goThrough N h = some r → Met l yX9_goThrough vX9_goThrough ({ frames := 4, cells := 0, slots := 0, locals := 95 } : Room) (xPc G [.ref (xad G 51)] h) (xQv G r) 0 0 (xA G) := by
  refine x_met (own := RX9) (cc := cX9_goThrough) (maxL := 4) (ret := none) (lv0 := [(0, .ref (xad G 51))]) (by decide +kernel) rfl rfl (Nat.le_of_ble_eq_true rfl) rfl ?_
  intro p e s m below meth c C hr
  unfold F_X9_goThrough
  refine x_iconst (v := 0) C dX9_goThrough_0 (by decide) ?_
  refine x_istore_n (lv' := [(1, .int 0), (0, .ref (xad G 51))]) C dX9_goThrough_1 rfl (by decide) rfl ?_
  exact x_sub [1, 0] rfl (T_X9_goThrough_2 C hr 0 h)
