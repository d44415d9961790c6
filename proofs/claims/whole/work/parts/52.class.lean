/-! X2_firstOnward: 42 instructions -/
abbrev J_X2_firstOnward (G : xG) (p : Program) (l : Launch) (e : Env) (s : State) (m : MethodId) (args : Array Value) (below : List Frame) (meth : Method) (c : Code) : Nat → List (Nat × Value) → List Value → xHp → Option (Int32 × xHp) → Prop := xJ G p l e ({ frames := 0, cells := 0, slots := 0, locals := 0 } : Room) s m args below meth c 8 (fun res => MQ below (xQi G res) args s 0 0 (xA G))
def F_X2_firstOnward_67 (N : Nat) (k3 : Int32 → Int32 → Int64 → Int32 → xHp → Option (Int32 × xHp)) (x1 : Int32) (x2 : Int32) (x3 : Int64) (x5 : Int32) (h : xHp) : Option (Int32 × xHp) := k3 x1 x2 x3 (x5 + 1) h
def F_X2_firstOnward_3_b (N : Nat) (k3 : Int32 → Int32 → Int64 → Int32 → xHp → Option (Int32 × xHp)) (x1 : Int32) (x2 : Int32) (x3 : Int64) (x5 : Int32) (h : xHp) : Option (Int32 × xHp) := if (gI h 1 3) ≤ x5 then some ((-1), h) else grd (xin x2 16) (grd (xin x5 70) (grd (xin (gI h 3 x5.toNatClampNeg) 16) (grd (xin x5 70) (if (gI h 2 x5.toNatClampNeg) = x1 then if (lg_cmp (gJ h (8 + x2.toNatClampNeg) (gI h 3 x5.toNatClampNeg).toNatClampNeg) 9223372036854775807) = 0 then F_X2_firstOnward_67 N k3 x1 x2 x3 x5 h else grd (xin x5 70) (if 0 < (lg_cmp (((gI h 4 x5.toNatClampNeg).toInt64) + (gJ h (8 + x2.toNatClampNeg) (gI h 3 x5.toNatClampNeg).toNatClampNeg)) x3) then F_X2_firstOnward_67 N k3 x1 x2 x3 x5 h else some (x5, h)) else F_X2_firstOnward_67 N k3 x1 x2 x3 x5 h))))
def F_X2_firstOnward_3 (N : Nat) (x1 : Int32) (x2 : Int32) (x3 : Int64) (x5 : Int32) (h : xHp) : Option (Int32 × xHp) := xit (F_X2_firstOnward_3_b N) (fun _ _ _ _ _ => none) N x1 x2 x3 x5 h
def F_X2_firstOnward (N : Nat) (p1 : Int32) (p2 : Int32) (p3 : Int64) (h : xHp) : Option (Int32 × xHp) := F_X2_firstOnward_3 N p1 p2 p3 0 h
set_option maxHeartbeats 4000000 in
set_option maxRecDepth 100000 in
theorem T_X2_firstOnward_67 {G : xG} {p : Program} {l : Launch} {e : Env} {s : State} {m : MethodId} {args : Array Value} {below : List Frame} {meth : Method} {c : Code} {N : Nat} (C : xCz G p s m args meth c cX2_firstOnward 8 vX2_firstOnward RX2) (hr : meth.sig.returnType = (some .int)) {k3 : Int32 → Int32 → Int64 → Int32 → xHp → Option (Int32 × xHp)} (hk3 : ∀ (x1 : Int32) (x2 : Int32) (x3 : Int64) (x5 : Int32) (h : xHp), J_X2_firstOnward G p l e s m args below meth c 3 [(0, .ref (xad G 1)), (1, .int x1), (2, .int x2), (3, .long x3), (5, .int x5)] [] h (k3 x1 x2 x3 x5 h)) (x1 : Int32) (x2 : Int32) (x3 : Int64) (x5 : Int32) (h : xHp) : J_X2_firstOnward G p l e s m args below meth c 67 [(0, .ref (xad G 1)), (1, .int x1), (2, .int x2), (3, .long x3), (5, .int x5)] [] h (F_X2_firstOnward_67 N k3 x1 x2 x3 x5 h) := by
  unfold F_X2_firstOnward_67
  refine x_iinc (v := (x5 + 1)) (j := 4) (lv' := [(5, .int (x5 + 1)), (0, .ref (xad G 1)), (1, .int x1), (2, .int x2), (3, .long x3)]) C.1 dX2_firstOnward_67 rfl (by rfl) (by decide) rfl ?_
  refine x_goto (tgt := 3) C.1 dX2_firstOnward_70 (by decide) ?_
  exact x_sub [1, 2, 3, 4, 0] rfl (hk3 x1 x2 x3 (x5 + 1) h)
set_option maxHeartbeats 4000000 in
set_option maxRecDepth 100000 in
theorem T_X2_firstOnward_3_b {G : xG} {p : Program} {l : Launch} {e : Env} {s : State} {m : MethodId} {args : Array Value} {below : List Frame} {meth : Method} {c : Code} {N : Nat} (C : xCz G p s m args meth c cX2_firstOnward 8 vX2_firstOnward RX2) (hr : meth.sig.returnType = (some .int)) {k3 : Int32 → Int32 → Int64 → Int32 → xHp → Option (Int32 × xHp)} (hk3 : ∀ (x1 : Int32) (x2 : Int32) (x3 : Int64) (x5 : Int32) (h : xHp), J_X2_firstOnward G p l e s m args below meth c 3 [(0, .ref (xad G 1)), (1, .int x1), (2, .int x2), (3, .long x3), (5, .int x5)] [] h (k3 x1 x2 x3 x5 h)) (x1 : Int32) (x2 : Int32) (x3 : Int64) (x5 : Int32) (h : xHp) : J_X2_firstOnward G p l e s m args below meth c 3 [(0, .ref (xad G 1)), (1, .int x1), (2, .int x2), (3, .long x3), (5, .int x5)] [] h (F_X2_firstOnward_3_b N k3 x1 x2 x3 x5 h) := by
  unfold F_X2_firstOnward_3_b
  refine x_iload C.1 dX2_firstOnward_3 4 rfl ?_
  refine x_aload_n C.1 dX2_firstOnward_5 rfl 0 rfl ?_
  refine x_get (v := .int (gI h 1 3)) C.1 3 dX2_firstOnward_6 (xc_1 G h) rfl (by decide) rfl (fun w h => List.mem_cons_of_mem _ (iWC_X2 w h)) (by decide) rfl (C.1.2.2.2.2.1 _ (List.mem_cons_of_mem _ qC_131)) ?_
  refine x_icmp_ge (tgt := 73) C.1 dX2_firstOnward_9 (by decide) ?_ ?_
  · refine x_iconst (v := (-1)) C.1 dX2_firstOnward_73 (by decide) ?_
    exact x_iret C.1 dX2_firstOnward_74 hr
  · refine x_aload_n C.1 dX2_firstOnward_12 rfl 0 rfl ?_
    refine x_get (v := .ref (xad G 6)) C.1 6 dX2_firstOnward_13 (xc_1 G h) rfl (by decide) rfl (fun w h => List.mem_cons_of_mem _ (iWC_X2 w h)) (by decide) rfl (C.1.2.2.2.2.1 _ (List.mem_cons_of_mem _ qC_127)) ?_
    refine x_iload_n C.1 dX2_firstOnward_16 rfl 2 rfl ?_
    refine x_aald (a := (8 + x2.toNatClampNeg)) C.1 dX2_firstOnward_17 rfl (fun hl1 => ?_)
    refine x_aload_n C.1 dX2_firstOnward_18 rfl 0 rfl ?_
    refine x_get (v := .ref (xad G 3)) C.1 1 dX2_firstOnward_19 (xc_1 G h) rfl (by decide) rfl (fun w h => List.mem_cons_of_mem _ (iWC_X2 w h)) (by decide) rfl (C.1.2.2.2.2.1 _ (List.mem_cons_of_mem _ qC_132)) ?_
    refine x_iload C.1 dX2_firstOnward_22 4 rfl ?_
    refine x_iald (n := 70) C.1 dX2_firstOnward_24 (xc_3 G h) (by decide) ?_
    refine x_lald (n := 16) C.1 dX2_firstOnward_25 (xcell_row G (Nat.le_add_right 8 _) (Nat.add_lt_add_left hl1 8) _ _ _) (Nat.lt_of_lt_of_le (Nat.add_lt_add_left hl1 8) (by decide)) ?_
    refine x_lstore (lv' := [(6, .long (gJ h (8 + x2.toNatClampNeg) (gI h 3 x5.toNatClampNeg).toNatClampNeg)), (0, .ref (xad G 1)), (1, .int x1), (2, .int x2), (3, .long x3), (5, .int x5)]) C.1 dX2_firstOnward_26 (by decide) rfl ?_
    refine x_aload_n C.1 dX2_firstOnward_28 rfl 1 rfl ?_
    refine x_get (v := .ref (xad G 2)) C.1 0 dX2_firstOnward_29 (xc_1 G h) rfl (by decide) rfl (fun w h => List.mem_cons_of_mem _ (iWC_X2 w h)) (by decide) rfl (C.1.2.2.2.2.1 _ (List.mem_cons_of_mem _ qC_134)) ?_
    refine x_iload C.1 dX2_firstOnward_32 5 rfl ?_
    refine x_iald (n := 70) C.1 dX2_firstOnward_34 (xc_2 G h) (by decide) ?_
    refine x_iload_n C.1 dX2_firstOnward_35 rfl 2 rfl ?_
    refine x_icmp_ne (tgt := 67) C.1 dX2_firstOnward_36 (by decide) ?_ ?_
    · refine x_lload C.1 dX2_firstOnward_39 0 rfl ?_
      refine x_ldc2 (v := 9223372036854775807) C.1 dX2_firstOnward_41 (C.1.2.2.2.2.1 _ (List.mem_cons_of_mem _ qC_128)) ?_
      refine x_lcmp C.1 dX2_firstOnward_44 ?_
      refine x_if_eq (tgt := 67) C.1 dX2_firstOnward_45 (by decide) ?_ ?_
      · exact x_sub [1, 2, 3, 4, 5] rfl (T_X2_firstOnward_67 C hr hk3 x1 x2 x3 x5 h)
      · refine x_aload_n C.1 dX2_firstOnward_48 rfl 1 rfl ?_
        refine x_get (v := .ref (xad G 4)) C.1 2 dX2_firstOnward_49 (xc_1 G h) rfl (by decide) rfl (fun w h => List.mem_cons_of_mem _ (iWC_X2 w h)) (by decide) rfl (C.1.2.2.2.2.1 _ (List.mem_cons_of_mem _ qC_133)) ?_
        refine x_iload C.1 dX2_firstOnward_52 5 rfl ?_
        refine x_iald (n := 70) C.1 dX2_firstOnward_54 (xc_4 G h) (by decide) ?_
        refine x_i2l C.1 dX2_firstOnward_55 ?_
        refine x_lload C.1 dX2_firstOnward_56 0 rfl ?_
        refine x_ladd C.1 dX2_firstOnward_58 ?_
        refine x_lload_n C.1 dX2_firstOnward_59 rfl 4 rfl ?_
        refine x_lcmp C.1 dX2_firstOnward_60 ?_
        refine x_if_gt (tgt := 67) C.1 dX2_firstOnward_61 (by decide) ?_ ?_
        · exact x_sub [1, 2, 3, 4, 5] rfl (T_X2_firstOnward_67 C hr hk3 x1 x2 x3 x5 h)
        · refine x_iload C.1 dX2_firstOnward_64 5 rfl ?_
          exact x_iret C.1 dX2_firstOnward_66 hr
    · exact x_sub [1, 2, 3, 4, 5] rfl (T_X2_firstOnward_67 C hr hk3 x1 x2 x3 x5 h)
set_option maxHeartbeats 4000000 in
set_option maxRecDepth 100000 in
theorem T_X2_firstOnward_3_n {G : xG} {p : Program} {l : Launch} {e : Env} {s : State} {m : MethodId} {args : Array Value} {below : List Frame} {meth : Method} {c : Code} {N : Nat} (C : xCz G p s m args meth c cX2_firstOnward 8 vX2_firstOnward RX2) (hr : meth.sig.returnType = (some .int)) : ∀ (n : Nat) (x1 : Int32) (x2 : Int32) (x3 : Int64) (x5 : Int32) (h : xHp), J_X2_firstOnward G p l e s m args below meth c 3 [(0, .ref (xad G 1)), (1, .int x1), (2, .int x2), (3, .long x3), (5, .int x5)] [] h (xit (F_X2_firstOnward_3_b N) (fun _ _ _ _ _ => none) n x1 x2 x3 x5 h) := by
  intro n
  induction n with
  | zero => intros; exact x_none
  | succ n ih => intros; exact T_X2_firstOnward_3_b C hr ih _ _ _ _ _
set_option maxHeartbeats 4000000 in
set_option maxRecDepth 100000 in
theorem T_X2_firstOnward_3 {G : xG} {p : Program} {l : Launch} {e : Env} {s : State} {m : MethodId} {args : Array Value} {below : List Frame} {meth : Method} {c : Code} {N : Nat} (C : xCz G p s m args meth c cX2_firstOnward 8 vX2_firstOnward RX2) (hr : meth.sig.returnType = (some .int)) (x1 : Int32) (x2 : Int32) (x3 : Int64) (x5 : Int32) (h : xHp) : J_X2_firstOnward G p l e s m args below meth c 3 [(0, .ref (xad G 1)), (1, .int x1), (2, .int x2), (3, .long x3), (5, .int x5)] [] h (F_X2_firstOnward_3 N x1 x2 x3 x5 h) := T_X2_firstOnward_3_n C hr N x1 x2 x3 x5 h
set_option maxHeartbeats 4000000 in
set_option maxRecDepth 100000 in
theorem M_X2_firstOnward (G : xG) (l : Launch) (N : Nat) (p1 : Int32) (p2 : Int32) (p3 : Int64) (h : xHp) : ∀ r, F_X2_firstOnward N p1 p2 p3 h = some r → Met l yX2_firstOnward vX2_firstOnward ({ frames := 0, cells := 0, slots := 0, locals := 0 } : Room) (xPz G [.ref (xad G 1), .int p1, .int p2, .long p3] h) (xQi G r) 0 0 (xA G) := by
  refine z_met (own := RX2) (cc := cX2_firstOnward) (maxL := 8) (ret := (some .int)) (lv0 := [(0, .ref (xad G 1)), (1, .int p1), (2, .int p2), (3, .long p3)]) (by decide +kernel) rfl rfl (Nat.le_of_ble_eq_true rfl) rfl ?_
  intro p e s m below meth c C hr
  unfold F_X2_firstOnward
  refine x_iconst (v := 0) C.1 dX2_firstOnward_0 (by decide) ?_
  refine x_istore (lv' := [(5, .int 0), (0, .ref (xad G 1)), (1, .int p1), (2, .int p2), (3, .long p3)]) C.1 dX2_firstOnward_1 (by decide) rfl ?_
  exact x_sub [1, 2, 3, 4, 0] rfl (T_X2_firstOnward_3 C hr p1 p2 p3 0 h)
/-! X2_traceRow: 76 instructions -/
abbrev J_X2_traceRow (G : xG) (p : Program) (l : Launch) (e : Env) (s : State) (m : MethodId) (args : Array Value) (below : List Frame) (meth : Method) (c : Code) : Nat → List (Nat × Value) → List Value → xHp → Option (Int32 × xHp) → Prop := xJ G p l e ({ frames := 1, cells := 0, slots := 0, locals := 27 } : Room) s m args below meth c 10 (fun res => MQ below (xQi G res) args s 0 0 (xA G))
def F_X2_traceRow_60_b (N : Nat) (k60 : Int32 → Int64 → Int32 → xHp → Option (Int32 × xHp)) (x5 : Int32) (x6 : Int64) (x8 : Int32) (h : xHp) : Option (Int32 × xHp) := if x8 < 0 then some (1, h) else bnd2 (F_X2_firstOnward N x5 x8 x6 h) fun r1 h2 => if r1 = (-1) then some (0, h2) else grd (xin (gI h2 1 5) 16) (bnd (sI h2 5 (gI h2 1 5).toNatClampNeg r1) fun h3 => bnd (sI h3 1 5 ((gI h3 1 5) + 1)) fun h4 => grd (xin r1 70) (grd (xin r1 70) (k60 (gI h4 3 r1.toNatClampNeg) (x6 - ((gI h4 4 r1.toNatClampNeg).toInt64)) (x8 + (-1)) h4)))
def F_X2_traceRow_60 (N : Nat) (x5 : Int32) (x6 : Int64) (x8 : Int32) (h : xHp) : Option (Int32 × xHp) := xit (F_X2_traceRow_60_b N) (fun _ _ _ _ => none) N x5 x6 x8 h
def F_X2_traceRow_37 (N : Nat) (x1 : Int32) (x2 : Int64) (x4 : Int32) (h : xHp) : Option (Int32 × xHp) := if x4 ≤ (gI h 1 7) then F_X2_traceRow_60 N x1 x2 (x4 - 1) h else some (0, h)
def F_X2_traceRow_8_b (N : Nat) (k8 : Int32 → Int64 → Int32 → xHp → Option (Int32 × xHp)) (x1 : Int32) (x2 : Int64) (x4 : Int32) (h : xHp) : Option (Int32 × xHp) := if (gI h 1 7) < x4 then F_X2_traceRow_37 N x1 x2 x4 h else grd (xin x4 16) (grd (xin x1 16) (if (lg_cmp (gJ h (8 + x4.toNatClampNeg) x1.toNatClampNeg) x2) ≤ 0 then F_X2_traceRow_37 N x1 x2 x4 h else k8 x1 x2 (x4 + 1) h))
def F_X2_traceRow_8 (N : Nat) (x1 : Int32) (x2 : Int64) (x4 : Int32) (h : xHp) : Option (Int32 × xHp) := xit (F_X2_traceRow_8_b N) (fun _ _ _ _ => none) N x1 x2 x4 h
def F_X2_traceRow (N : Nat) (p1 : Int32) (p2 : Int64) (h : xHp) : Option (Int32 × xHp) := bnd (sI h 1 5 0) fun h1 => F_X2_traceRow_8 N p1 p2 0 h1
set_option maxHeartbeats 4000000 in
set_option maxRecDepth 100000 in
theorem T_X2_traceRow_60_b {G : xG} {p : Program} {l : Launch} {e : Env} {s : State} {m : MethodId} {args : Array Value} {below : List Frame} {meth : Method} {c : Code} {N : Nat} (C : xCz G p s m args meth c cX2_traceRow 10 vX2_traceRow RX2) (hr : meth.sig.returnType = (some .boolean)) {k60 : Int32 → Int64 → Int32 → xHp → Option (Int32 × xHp)} (hk60 : ∀ (x5 : Int32) (x6 : Int64) (x8 : Int32) (h : xHp), J_X2_traceRow G p l e s m args below meth c 60 [(0, .ref (xad G 1)), (5, .int x5), (6, .long x6), (8, .int x8)] [] h (k60 x5 x6 x8 h)) (x5 : Int32) (x6 : Int64) (x8 : Int32) (h : xHp) : J_X2_traceRow G p l e s m args below meth c 60 [(0, .ref (xad G 1)), (5, .int x5), (6, .long x6), (8, .int x8)] [] h (F_X2_traceRow_60_b N k60 x5 x6 x8 h) := by
  unfold F_X2_traceRow_60_b
  refine x_iload C.1 dX2_traceRow_60 3 rfl ?_
  refine x_if_lt (tgt := 134) C.1 dX2_traceRow_62 (by decide) ?_ ?_
  · refine x_iconst (v := 1) C.1 dX2_traceRow_134 (by decide) ?_
    exact x_zretL C.1 dX2_traceRow_135 hr rfl
  · refine x_aload_n C.1 dX2_traceRow_65 rfl 0 rfl ?_
    refine x_iload C.1 dX2_traceRow_66 1 rfl ?_
    refine x_iload C.1 dX2_traceRow_68 3 rfl ?_
    refine x_lload C.1 dX2_traceRow_70 2 rfl ?_
    refine z_callVi C dX2_traceRow_72 (M_X2_firstOnward G l N x5 x8 x6 h) (cwV 3 C.1.2.2.2.2.1 (gdV gWC qC_141 qC_142 qC_143 qC_144 qC_137) rfl rfl rfl (by decide +kernel) ⟨Nat.le_of_ble_eq_true rfl, Nat.le_of_ble_eq_true rfl⟩) (xc_1 G h) (by decide) rfl rfl rfl (Nat.le_of_ble_eq_true rfl) (fun r1 h2 => ?_)
    refine x_istore (lv' := [(9, .int r1), (0, .ref (xad G 1)), (5, .int x5), (6, .long x6), (8, .int x8)]) C.1 dX2_traceRow_75 (by decide) rfl ?_
    refine x_iload C.1 dX2_traceRow_77 0 rfl ?_
    refine x_iconst (v := (-1)) C.1 dX2_traceRow_79 (by decide) ?_
    refine x_icmp_ne (tgt := 85) C.1 dX2_traceRow_80 (by decide) ?_ ?_
    · refine x_iconst (v := 0) C.1 dX2_traceRow_83 (by decide) ?_
      exact x_zretL C.1 dX2_traceRow_84 hr rfl
    · refine x_aload_n C.1 dX2_traceRow_85 rfl 1 rfl ?_
      refine x_get (v := .ref (xad G 5)) C.1 4 dX2_traceRow_86 (xc_1 G h2) rfl (by decide) rfl (fun w h => List.mem_cons_of_mem _ (iWC_X2 w h)) (by decide) rfl (C.1.2.2.2.2.1 _ (List.mem_cons_of_mem _ qC_140)) ?_
      refine x_aload_n C.1 dX2_traceRow_89 rfl 1 rfl ?_
      refine x_get (v := .int (gI h2 1 5)) C.1 5 dX2_traceRow_90 (xc_1 G h2) rfl (by decide) rfl (fun w h => List.mem_cons_of_mem _ (iWC_X2 w h)) (by decide) rfl (C.1.2.2.2.2.1 _ (List.mem_cons_of_mem _ qC_139)) ?_
      refine x_iload C.1 dX2_traceRow_93 0 rfl ?_
      refine x_iast (n := 16) C.1 dX2_traceRow_95 (fun g => xp_5 G g _ _) (by decide) (fun h3 => ?_)
      refine x_aload_n C.1 dX2_traceRow_96 rfl 1 rfl ?_
      refine x_dup C.1 dX2_traceRow_97 rfl ?_
      refine x_get (v := .int (gI h3 1 5)) C.1 5 dX2_traceRow_98 (xc_1 G h3) rfl (by decide) rfl (fun w h => List.mem_cons_of_mem _ (iWC_X2 w h)) (by decide) rfl (C.1.2.2.2.2.1 _ (List.mem_cons_of_mem _ qC_139)) ?_
      refine x_iconst (v := 1) C.1 dX2_traceRow_101 (by decide) ?_
      refine x_iadd C.1 dX2_traceRow_102 ?_
      refine x_putI (ty0 := tyX2) (ty := .int) C.1 5 dX2_traceRow_103 (xc_1 G h3) rfl (Nat.le_of_ble_eq_true rfl) (by decide) rfl (fun w h => List.mem_cons_of_mem _ (iWC_X2 w h)) tyX2_ok nmX2 (by decide) rfl rfl (by decide +kernel) rfl rfl (C.1.2.2.2.2.1 _ (List.mem_cons_of_mem _ qC_139)) (fun h4 => ?_)
      refine x_lload C.1 dX2_traceRow_106 3 rfl ?_
      refine x_aload_n C.1 dX2_traceRow_108 rfl 1 rfl ?_
      refine x_get (v := .ref (xad G 4)) C.1 2 dX2_traceRow_109 (xc_1 G h4) rfl (by decide) rfl (fun w h => List.mem_cons_of_mem _ (iWC_X2 w h)) (by decide) rfl (C.1.2.2.2.2.1 _ (List.mem_cons_of_mem _ qC_133)) ?_
      refine x_iload C.1 dX2_traceRow_112 0 rfl ?_
      refine x_iald (n := 70) C.1 dX2_traceRow_114 (xc_4 G h4) (by decide) ?_
      refine x_i2l C.1 dX2_traceRow_115 ?_
      refine x_lsub C.1 dX2_traceRow_116 ?_
      refine x_lstore (lv' := [(6, .long (x6 - ((gI h4 4 r1.toNatClampNeg).toInt64))), (9, .int r1), (0, .ref (xad G 1)), (5, .int x5), (8, .int x8)]) C.1 dX2_traceRow_117 (by decide) rfl ?_
      refine x_aload_n C.1 dX2_traceRow_119 rfl 2 rfl ?_
      refine x_get (v := .ref (xad G 3)) C.1 1 dX2_traceRow_120 (xc_1 G h4) rfl (by decide) rfl (fun w h => List.mem_cons_of_mem _ (iWC_X2 w h)) (by decide) rfl (C.1.2.2.2.2.1 _ (List.mem_cons_of_mem _ qC_132)) ?_
      refine x_iload C.1 dX2_traceRow_123 1 rfl ?_
      refine x_iald (n := 70) C.1 dX2_traceRow_125 (xc_3 G h4) (by decide) ?_
      refine x_istore (lv' := [(5, .int (gI h4 3 r1.toNatClampNeg)), (6, .long (x6 - ((gI h4 4 r1.toNatClampNeg).toInt64))), (9, .int r1), (0, .ref (xad G 1)), (8, .int x8)]) C.1 dX2_traceRow_126 (by decide) rfl ?_
      refine x_iinc (v := (x8 + (-1))) (j := 4) (lv' := [(8, .int (x8 + (-1))), (5, .int (gI h4 3 r1.toNatClampNeg)), (6, .long (x6 - ((gI h4 4 r1.toNatClampNeg).toInt64))), (9, .int r1), (0, .ref (xad G 1))]) C.1 dX2_traceRow_128 rfl (by rfl) (by decide) rfl ?_
      refine x_goto (tgt := 60) C.1 dX2_traceRow_131 (by decide) ?_
      exact x_sub [4, 1, 2, 0] rfl (hk60 (gI h4 3 r1.toNatClampNeg) (x6 - ((gI h4 4 r1.toNatClampNeg).toInt64)) (x8 + (-1)) h4)
set_option maxHeartbeats 4000000 in
set_option maxRecDepth 100000 in
theorem T_X2_traceRow_60_n {G : xG} {p : Program} {l : Launch} {e : Env} {s : State} {m : MethodId} {args : Array Value} {below : List Frame} {meth : Method} {c : Code} {N : Nat} (C : xCz G p s m args meth c cX2_traceRow 10 vX2_traceRow RX2) (hr : meth.sig.returnType = (some .boolean)) : ∀ (n : Nat) (x5 : Int32) (x6 : Int64) (x8 : Int32) (h : xHp), J_X2_traceRow G p l e s m args below meth c 60 [(0, .ref (xad G 1)), (5, .int x5), (6, .long x6), (8, .int x8)] [] h (xit (F_X2_traceRow_60_b N) (fun _ _ _ _ => none) n x5 x6 x8 h) := by
  intro n
  induction n with
  | zero => intros; exact x_none
  | succ n ih => intros; exact T_X2_traceRow_60_b C hr ih _ _ _ _
set_option maxHeartbeats 4000000 in
set_option maxRecDepth 100000 in
theorem T_X2_traceRow_60 {G : xG} {p : Program} {l : Launch} {e : Env} {s : State} {m : MethodId} {args : Array Value} {below : List Frame} {meth : Method} {c : Code} {N : Nat} (C : xCz G p s m args meth c cX2_traceRow 10 vX2_traceRow RX2) (hr : meth.sig.returnType = (some .boolean)) (x5 : Int32) (x6 : Int64) (x8 : Int32) (h : xHp) : J_X2_traceRow G p l e s m args below meth c 60 [(0, .ref (xad G 1)), (5, .int x5), (6, .long x6), (8, .int x8)] [] h (F_X2_traceRow_60 N x5 x6 x8 h) := T_X2_traceRow_60_n C hr N x5 x6 x8 h
set_option maxHeartbeats 4000000 in
set_option maxRecDepth 100000 in
theorem T_X2_traceRow_37 {G : xG} {p : Program} {l : Launch} {e : Env} {s : State} {m : MethodId} {args : Array Value} {below : List Frame} {meth : Method} {c : Code} {N : Nat} (C : xCz G p s m args meth c cX2_traceRow 10 vX2_traceRow RX2) (hr : meth.sig.returnType = (some .boolean)) (x1 : Int32) (x2 : Int64) (x4 : Int32) (h : xHp) : J_X2_traceRow G p l e s m args below meth c 37 [(0, .ref (xad G 1)), (1, .int x1), (2, .long x2), (4, .int x4)] [] h (F_X2_traceRow_37 N x1 x2 x4 h) := by
  unfold F_X2_traceRow_37
  refine x_iload C.1 dX2_traceRow_37 3 rfl ?_
  refine x_aload_n C.1 dX2_traceRow_39 rfl 0 rfl ?_
  refine x_get (v := .int (gI h 1 7)) C.1 7 dX2_traceRow_40 (xc_1 G h) rfl (by decide) rfl (fun w h => List.mem_cons_of_mem _ (iWC_X2 w h)) (by decide) rfl (C.1.2.2.2.2.1 _ (List.mem_cons_of_mem _ qC_129)) ?_
  refine x_icmp_le (tgt := 48) C.1 dX2_traceRow_43 (by decide) ?_ ?_
  · refine x_iload_n C.1 dX2_traceRow_48 rfl 1 rfl ?_
    refine x_istore (lv' := [(5, .int x1), (0, .ref (xad G 1)), (1, .int x1), (2, .long x2), (4, .int x4)]) C.1 dX2_traceRow_49 (by decide) rfl ?_
    refine x_lload_n C.1 dX2_traceRow_51 rfl 3 rfl ?_
    refine x_lstore (lv' := [(6, .long x2), (5, .int x1), (0, .ref (xad G 1)), (1, .int x1), (2, .long x2), (4, .int x4)]) C.1 dX2_traceRow_52 (by decide) rfl ?_
    refine x_iload C.1 dX2_traceRow_54 5 rfl ?_
    refine x_iconst (v := 1) C.1 dX2_traceRow_56 (by decide) ?_
    refine x_isub C.1 dX2_traceRow_57 ?_
    refine x_istore (lv' := [(8, .int (x4 - 1)), (6, .long x2), (5, .int x1), (0, .ref (xad G 1)), (1, .int x1), (2, .long x2), (4, .int x4)]) C.1 dX2_traceRow_58 (by decide) rfl ?_
    exact x_sub [3, 2, 1, 0] rfl (T_X2_traceRow_60 C hr x1 x2 (x4 - 1) h)
  · refine x_iconst (v := 0) C.1 dX2_traceRow_46 (by decide) ?_
    exact x_zretL C.1 dX2_traceRow_47 hr rfl
set_option maxHeartbeats 4000000 in
set_option maxRecDepth 100000 in
theorem T_X2_traceRow_8_b {G : xG} {p : Program} {l : Launch} {e : Env} {s : State} {m : MethodId} {args : Array Value} {below : List Frame} {meth : Method} {c : Code} {N : Nat} (C : xCz G p s m args meth c cX2_traceRow 10 vX2_traceRow RX2) (hr : meth.sig.returnType = (some .boolean)) {k8 : Int32 → Int64 → Int32 → xHp → Option (Int32 × xHp)} (hk8 : ∀ (x1 : Int32) (x2 : Int64) (x4 : Int32) (h : xHp), J_X2_traceRow G p l e s m args below meth c 8 [(0, .ref (xad G 1)), (1, .int x1), (2, .long x2), (4, .int x4)] [] h (k8 x1 x2 x4 h)) (x1 : Int32) (x2 : Int64) (x4 : Int32) (h : xHp) : J_X2_traceRow G p l e s m args below meth c 8 [(0, .ref (xad G 1)), (1, .int x1), (2, .long x2), (4, .int x4)] [] h (F_X2_traceRow_8_b N k8 x1 x2 x4 h) := by
  unfold F_X2_traceRow_8_b
  refine x_iload C.1 dX2_traceRow_8 3 rfl ?_
  refine x_aload_n C.1 dX2_traceRow_10 rfl 0 rfl ?_
  refine x_get (v := .int (gI h 1 7)) C.1 7 dX2_traceRow_11 (xc_1 G h) rfl (by decide) rfl (fun w h => List.mem_cons_of_mem _ (iWC_X2 w h)) (by decide) rfl (C.1.2.2.2.2.1 _ (List.mem_cons_of_mem _ qC_129)) ?_
  refine x_icmp_gt (tgt := 37) C.1 dX2_traceRow_14 (by decide) ?_ ?_
  · exact x_sub [0, 1, 2, 3] rfl (T_X2_traceRow_37 C hr x1 x2 x4 h)
  · refine x_aload_n C.1 dX2_traceRow_17 rfl 0 rfl ?_
    refine x_get (v := .ref (xad G 6)) C.1 6 dX2_traceRow_18 (xc_1 G h) rfl (by decide) rfl (fun w h => List.mem_cons_of_mem _ (iWC_X2 w h)) (by decide) rfl (C.1.2.2.2.2.1 _ (List.mem_cons_of_mem _ qC_127)) ?_
    refine x_iload C.1 dX2_traceRow_21 3 rfl ?_
    refine x_aald (a := (8 + x4.toNatClampNeg)) C.1 dX2_traceRow_23 rfl (fun hl1 => ?_)
    refine x_iload_n C.1 dX2_traceRow_24 rfl 1 rfl ?_
    refine x_lald (n := 16) C.1 dX2_traceRow_25 (xcell_row G (Nat.le_add_right 8 _) (Nat.add_lt_add_left hl1 8) _ _ _) (Nat.lt_of_lt_of_le (Nat.add_lt_add_left hl1 8) (by decide)) ?_
    refine x_lload_n C.1 dX2_traceRow_26 rfl 2 rfl ?_
    refine x_lcmp C.1 dX2_traceRow_27 ?_
    refine x_if_le (tgt := 37) C.1 dX2_traceRow_28 (by decide) ?_ ?_
    · exact x_sub [0, 1, 2, 3] rfl (T_X2_traceRow_37 C hr x1 x2 x4 h)
    · refine x_iinc (v := (x4 + 1)) (j := 3) (lv' := [(4, .int (x4 + 1)), (0, .ref (xad G 1)), (1, .int x1), (2, .long x2)]) C.1 dX2_traceRow_31 rfl (by rfl) (by decide) rfl ?_
      refine x_goto (tgt := 8) C.1 dX2_traceRow_34 (by decide) ?_
      exact x_sub [1, 2, 3, 0] rfl (hk8 x1 x2 (x4 + 1) h)
set_option maxHeartbeats 4000000 in
set_option maxRecDepth 100000 in
theorem T_X2_traceRow_8_n {G : xG} {p : Program} {l : Launch} {e : Env} {s : State} {m : MethodId} {args : Array Value} {below : List Frame} {meth : Method} {c : Code} {N : Nat} (C : xCz G p s m args meth c cX2_traceRow 10 vX2_traceRow RX2) (hr : meth.sig.returnType = (some .boolean)) : ∀ (n : Nat) (x1 : Int32) (x2 : Int64) (x4 : Int32) (h : xHp), J_X2_traceRow G p l e s m args below meth c 8 [(0, .ref (xad G 1)), (1, .int x1), (2, .long x2), (4, .int x4)] [] h (xit (F_X2_traceRow_8_b N) (fun _ _ _ _ => none) n x1 x2 x4 h) := by
  intro n
  induction n with
  | zero => intros; exact x_none
  | succ n ih => intros; exact T_X2_traceRow_8_b C hr ih _ _ _ _
set_option maxHeartbeats 4000000 in
set_option maxRecDepth 100000 in
theorem T_X2_traceRow_8 {G : xG} {p : Program} {l : Launch} {e : Env} {s : State} {m : MethodId} {args : Array Value} {below : List Frame} {meth : Method} {c : Code} {N : Nat} (C : xCz G p s m args meth c cX2_traceRow 10 vX2_traceRow RX2) (hr : meth.sig.returnType = (some .boolean)) (x1 : Int32) (x2 : Int64) (x4 : Int32) (h : xHp) : J_X2_traceRow G p l e s m args below meth c 8 [(0, .ref (xad G 1)), (1, .int x1), (2, .long x2), (4, .int x4)] [] h (F_X2_traceRow_8 N x1 x2 x4 h) := T_X2_traceRow_8_n C hr N x1 x2 x4 h
set_option maxHeartbeats 4000000 in
set_option maxRecDepth 100000 in
theorem M_X2_traceRow (G : xG) (l : Launch) (N : Nat) (p1 : Int32) (p2 : Int64) (h : xHp) : ∀ r, F_X2_traceRow N p1 p2 h = some r → Met l yX2_traceRow vX2_traceRow ({ frames := 1, cells := 0, slots := 0, locals := 27 } : Room) (xPz G [.ref (xad G 1), .int p1, .long p2] h) (xQi G r) 0 0 (xA G) := by
  refine z_met (own := RX2) (cc := cX2_traceRow) (maxL := 10) (ret := (some .boolean)) (lv0 := [(0, .ref (xad G 1)), (1, .int p1), (2, .long p2)]) (by decide +kernel) rfl rfl (Nat.le_of_ble_eq_true rfl) rfl ?_
  intro p e s m below meth c C hr
  unfold F_X2_traceRow
  refine x_aload_n C.1 dX2_traceRow_0 rfl 0 rfl ?_
  refine x_iconst (v := 0) C.1 dX2_traceRow_1 (by decide) ?_
  refine x_putI (ty0 := tyX2) (ty := .int) C.1 5 dX2_traceRow_2 (xc_1 G h) rfl (Nat.le_of_ble_eq_true rfl) (by decide) rfl (fun w h => List.mem_cons_of_mem _ (iWC_X2 w h)) tyX2_ok nmX2 (by decide) rfl rfl (by decide +kernel) rfl rfl (C.1.2.2.2.2.1 _ (List.mem_cons_of_mem _ qC_139)) (fun h1 => ?_)
  refine x_iconst (v := 0) C.1 dX2_traceRow_5 (by decide) ?_
  refine x_istore (lv' := [(4, .int 0), (0, .ref (xad G 1)), (1, .int p1), (2, .long p2)]) C.1 dX2_traceRow_6 (by decide) rfl ?_
  exact x_sub [1, 2, 3, 0] rfl (T_X2_traceRow_8 C hr p1 p2 0 h1)
/-! X2_refuses: 12 instructions -/
abbrev J_X2_refuses (G : xG) (p : Program) (l : Launch) (e : Env) (s : State) (m : MethodId) (args : Array Value) (below : List Frame) (meth : Method) (c : Code) : Nat → List (Nat × Value) → List Value → xHp → Option (Int32 × xHp) → Prop := xJ G p l e ({ frames := 2, cells := 0, slots := 0, locals := 107 } : Room) s m args below meth c 4 (fun res => MQ below (xQi G res) args s 0 0 (xA G))
def F_X2_refuses (N : Nat) (p1 : Int32) (p2 : Int32) (p3 : Int32) (h : xHp) : Option (Int32 × xHp) := bnd2 (F_X2_measure N p1 (-1) h) fun r1 h2 => bnd2 (F_X2_traceRow N p2 ((-1) - (p3.toInt64)) h2) fun r3 h4 => some (vp_nar .boolean r3, h4)
set_option maxHeartbeats 4000000 in
set_option maxRecDepth 100000 in
theorem M_X2_refuses (G : xG) (l : Launch) (N : Nat) (p1 : Int32) (p2 : Int32) (p3 : Int32) (h : xHp) : ∀ r, F_X2_refuses N p1 p2 p3 h = some r → Met l yX2_refuses vX2_refuses ({ frames := 2, cells := 0, slots := 0, locals := 107 } : Room) (xPz G [.ref (xad G 1), .int p1, .int p2, .int p3] h) (xQi G r) 0 0 (xA G) := by
  refine z_met (own := RX2) (cc := cX2_refuses) (maxL := 4) (ret := (some .boolean)) (lv0 := [(0, .ref (xad G 1)), (1, .int p1), (2, .int p2), (3, .int p3)]) (by decide +kernel) rfl rfl (Nat.le_of_ble_eq_true rfl) rfl ?_
  intro p e s m below meth c C hr
  unfold F_X2_refuses
  refine x_aload_n C.1 dX2_refuses_0 rfl 0 rfl ?_
  refine x_iload_n C.1 dX2_refuses_1 rfl 1 rfl ?_
  refine x_iconst (v := (-1)) C.1 dX2_refuses_2 (by decide) ?_
  refine z_callVv C dX2_refuses_3 (M_X2_measure G l N p1 (-1) h) (cwV 2 C.1.2.2.2.2.1 (gdV gWC qC_146 qC_147 qC_148 qC_144 qC_126) rfl rfl rfl (by decide +kernel) ⟨Nat.le_of_ble_eq_true rfl, Nat.le_of_ble_eq_true rfl⟩) (xc_1 G h) (by decide) rfl rfl rfl (Nat.le_of_ble_eq_true rfl) (fun r1 h2 => ?_)
  refine x_aload_n C.1 dX2_refuses_6 rfl 0 rfl ?_
  refine x_iload_n C.1 dX2_refuses_7 rfl 2 rfl ?_
  refine x_ldc2 (v := (-1)) C.1 dX2_refuses_8 (C.1.2.2.2.2.1 _ (List.mem_cons_of_mem _ qC_145)) ?_
  refine x_iload_n C.1 dX2_refuses_11 rfl 3 rfl ?_
  refine x_i2l C.1 dX2_refuses_12 ?_
  refine x_lsub C.1 dX2_refuses_13 ?_
  refine z_callVi C dX2_refuses_14 (M_X2_traceRow G l N p2 ((-1) - (p3.toInt64)) h2) (cwV 2 C.1.2.2.2.2.1 (gdV gWC qC_149 qC_150 qC_151 qC_144 qC_138) rfl rfl rfl (by decide +kernel) ⟨Nat.le_of_ble_eq_true rfl, Nat.le_of_ble_eq_true rfl⟩) (xc_1 G h2) (by decide) rfl rfl rfl (Nat.le_of_ble_eq_true rfl) (fun r3 h4 => ?_)
  exact x_zret C.1 dX2_refuses_17 hr
/-! X2_append: 31 instructions -/
abbrev J_X2_append (G : xG) (p : Program) (l : Launch) (e : Env) (s : State) (m : MethodId) (args : Array Value) (below : List Frame) (meth : Method) (c : Code) : Nat → List (Nat × Value) → List Value → xHp → Option (Unit × xHp) → Prop := xJ G p l e ({ frames := 0, cells := 0, slots := 0, locals := 0 } : Room) s m args below meth c 4 (fun res => MQ below (xQv G res) args s 0 0 (xA G))
def F_X2_append (N : Nat) (p1 : Int32) (p2 : Int32) (p3 : Int32) (h : xHp) : Option (Unit × xHp) := if (70 : Int32) ≤ (gI h 1 3) then some ((), h) else grd (xin (gI h 1 3) 70) (bnd (sI h 2 (gI h 1 3).toNatClampNeg p1) fun h1 => grd (xin (gI h1 1 3) 70) (bnd (sI h1 3 (gI h1 1 3).toNatClampNeg p2) fun h2 => grd (xin (gI h2 1 3) 70) (bnd (sI h2 4 (gI h2 1 3).toNatClampNeg p3) fun h3 => bnd (sI h3 1 3 ((gI h3 1 3) + 1)) fun h4 => some ((), h4))))
set_option maxHeartbeats 4000000 in
set_option maxRecDepth 100000 in
theorem M_X2_append (G : xG) (l : Launch) (N : Nat) (p1 : Int32) (p2 : Int32) (p3 : Int32) (h : xHp) : ∀ r, F_X2_append N p1 p2 p3 h = some r → Met l yX2_append vX2_append ({ frames := 0, cells := 0, slots := 0, locals := 0 } : Room) (xPz G [.ref (xad G 1), .int p1, .int p2, .int p3] h) (xQv G r) 0 0 (xA G) := by
  refine z_met (own := RX2) (cc := cX2_append) (maxL := 4) (ret := none) (lv0 := [(0, .ref (xad G 1)), (1, .int p1), (2, .int p2), (3, .int p3)]) (by decide +kernel) rfl rfl (Nat.le_of_ble_eq_true rfl) rfl ?_
  intro p e s m below meth c C hr
  unfold F_X2_append
  refine x_aload_n C.1 dX2_append_0 rfl 0 rfl ?_
  refine x_get (v := .int (gI h 1 3)) C.1 3 dX2_append_1 (xc_1 G h) rfl (by decide) rfl (fun w h => List.mem_cons_of_mem _ (iWC_X2 w h)) (by decide) rfl (C.1.2.2.2.2.1 _ (List.mem_cons_of_mem _ qC_131)) ?_
  refine x_aload_n C.1 dX2_append_4 rfl 0 rfl ?_
  refine x_get (v := .ref (xad G 2)) C.1 0 dX2_append_5 (xc_1 G h) rfl (by decide) rfl (fun w h => List.mem_cons_of_mem _ (iWC_X2 w h)) (by decide) rfl (C.1.2.2.2.2.1 _ (List.mem_cons_of_mem _ qC_134)) ?_
  refine x_alen (v := 70) (t0 := 1) C.1 dX2_append_8 (xc_2 G h) rfl rfl (by decide) ?_
  refine x_icmp_ge (tgt := 52) C.1 dX2_append_9 (by decide) ?_ ?_
  · exact x_vret C.1 dX2_append_52 hr
  · refine x_aload_n C.1 dX2_append_12 rfl 0 rfl ?_
    refine x_get (v := .ref (xad G 2)) C.1 0 dX2_append_13 (xc_1 G h) rfl (by decide) rfl (fun w h => List.mem_cons_of_mem _ (iWC_X2 w h)) (by decide) rfl (C.1.2.2.2.2.1 _ (List.mem_cons_of_mem _ qC_134)) ?_
    refine x_aload_n C.1 dX2_append_16 rfl 0 rfl ?_
    refine x_get (v := .int (gI h 1 3)) C.1 3 dX2_append_17 (xc_1 G h) rfl (by decide) rfl (fun w h => List.mem_cons_of_mem _ (iWC_X2 w h)) (by decide) rfl (C.1.2.2.2.2.1 _ (List.mem_cons_of_mem _ qC_131)) ?_
    refine x_iload_n C.1 dX2_append_20 rfl 1 rfl ?_
    refine x_iast (n := 70) C.1 dX2_append_21 (fun g => xp_2 G g _ _) (by decide) (fun h1 => ?_)
    refine x_aload_n C.1 dX2_append_22 rfl 0 rfl ?_
    refine x_get (v := .ref (xad G 3)) C.1 1 dX2_append_23 (xc_1 G h1) rfl (by decide) rfl (fun w h => List.mem_cons_of_mem _ (iWC_X2 w h)) (by decide) rfl (C.1.2.2.2.2.1 _ (List.mem_cons_of_mem _ qC_132)) ?_
    refine x_aload_n C.1 dX2_append_26 rfl 0 rfl ?_
    refine x_get (v := .int (gI h1 1 3)) C.1 3 dX2_append_27 (xc_1 G h1) rfl (by decide) rfl (fun w h => List.mem_cons_of_mem _ (iWC_X2 w h)) (by decide) rfl (C.1.2.2.2.2.1 _ (List.mem_cons_of_mem _ qC_131)) ?_
    refine x_iload_n C.1 dX2_append_30 rfl 2 rfl ?_
    refine x_iast (n := 70) C.1 dX2_append_31 (fun g => xp_3 G g _ _) (by decide) (fun h2 => ?_)
    refine x_aload_n C.1 dX2_append_32 rfl 0 rfl ?_
    refine x_get (v := .ref (xad G 4)) C.1 2 dX2_append_33 (xc_1 G h2) rfl (by decide) rfl (fun w h => List.mem_cons_of_mem _ (iWC_X2 w h)) (by decide) rfl (C.1.2.2.2.2.1 _ (List.mem_cons_of_mem _ qC_133)) ?_
    refine x_aload_n C.1 dX2_append_36 rfl 0 rfl ?_
    refine x_get (v := .int (gI h2 1 3)) C.1 3 dX2_append_37 (xc_1 G h2) rfl (by decide) rfl (fun w h => List.mem_cons_of_mem _ (iWC_X2 w h)) (by decide) rfl (C.1.2.2.2.2.1 _ (List.mem_cons_of_mem _ qC_131)) ?_
    refine x_iload_n C.1 dX2_append_40 rfl 3 rfl ?_
    refine x_iast (n := 70) C.1 dX2_append_41 (fun g => xp_4 G g _ _) (by decide) (fun h3 => ?_)
    refine x_aload_n C.1 dX2_append_42 rfl 0 rfl ?_
    refine x_dup C.1 dX2_append_43 rfl ?_
    refine x_get (v := .int (gI h3 1 3)) C.1 3 dX2_append_44 (xc_1 G h3) rfl (by decide) rfl (fun w h => List.mem_cons_of_mem _ (iWC_X2 w h)) (by decide) rfl (C.1.2.2.2.2.1 _ (List.mem_cons_of_mem _ qC_131)) ?_
    refine x_iconst (v := 1) C.1 dX2_append_47 (by decide) ?_
    refine x_iadd C.1 dX2_append_48 ?_
    refine x_putI (ty0 := tyX2) (ty := .int) C.1 3 dX2_append_49 (xc_1 G h3) rfl (Nat.le_of_ble_eq_true rfl) (by decide) rfl (fun w h => List.mem_cons_of_mem _ (iWC_X2 w h)) tyX2_ok nmX2 (by decide) rfl rfl (by decide +kernel) rfl rfl (C.1.2.2.2.2.1 _ (List.mem_cons_of_mem _ qC_131)) (fun h4 => ?_)
    exact x_vret C.1 dX2_append_52 hr
/-! X1_joins_30_1: 27 instructions -/
abbrev J_X1_joins_30_1 (G : xG) (p : Program) (l : Launch) (e : Env) (s : State) (m : MethodId) (args : Array Value) (below : List Frame) (meth : Method) (c : Code) : Nat → List (Nat × Value) → List Value → xHp → Option (Int32 × xHp) → Prop := xJ G p l e ({ frames := 3, cells := 0, slots := 0, locals := 130 } : Room) s m args below meth c 3 (fun res => MQ below (xQi G res) args s 0 0 (xA G))
def F_X1_joins_30_1 (N : Nat) (p2 : Int32) (h : xHp) : Option (Int32 × xHp) := bnd2 (F_X1_fromOf_30 N p2 h) fun r1 h2 => bnd2 (F_X1_toOf_30 N p2 h2) fun r3 h4 => bnd2 (F_X1_mostOf_30 N p2 h4) fun r5 h6 => bnd2 (F_X2_refuses N r1 r3 r5 h6) fun r7 h8 => if r7 = 0 then bnd2 (F_X1_fromOf_30 N p2 h8) fun r9 h10 => bnd2 (F_X1_toOf_30 N p2 h10) fun r11 h12 => bnd2 (F_X1_mostOf_30 N p2 h12) fun r13 h14 => bnd2 (F_X2_append N r9 r11 r13 h14) fun r15 h16 => some (1, h16) else some (0, h8)
set_option maxHeartbeats 4000000 in
set_option maxRecDepth 100000 in
theorem M_X1_joins_30_1 (G : xG) (l : Launch) (N : Nat) (p2 : Int32) (h : xHp) : ∀ r, F_X1_joins_30_1 N p2 h = some r → Met l yX1_joins vX1_joins ({ frames := 3, cells := 0, slots := 0, locals := 130 } : Room) (xPz G [.ref (xad G 30), .ref (xad G 1), .int p2] h) (xQi G r) 0 0 (xA G) := by
  refine z_met (own := RX1) (cc := cX1_joins) (maxL := 3) (ret := (some .boolean)) (lv0 := [(0, .ref (xad G 30)), (1, .ref (xad G 1)), (2, .int p2)]) (by decide +kernel) rfl rfl (Nat.le_of_ble_eq_true rfl) rfl ?_
  intro p e s m below meth c C hr
  unfold F_X1_joins_30_1
  refine x_aload_n C.1 dX1_joins_0 rfl 1 rfl ?_
  refine x_aload_n C.1 dX1_joins_1 rfl 0 rfl ?_
  refine x_iload_n C.1 dX1_joins_2 rfl 2 rfl ?_
  refine z_callVi C dX1_joins_3 (M_X1_fromOf_30 G l N p2 h) (cwV 1 C.1.2.2.2.2.1 (gdV gWC qC_154 qC_67 qC_68 qC_32 qC_57) rfl rfl rfl (by decide +kernel) ⟨Nat.le_of_ble_eq_true rfl, Nat.le_of_ble_eq_true rfl⟩) (xc_30 G h) (by decide) rfl rfl rfl (Nat.le_of_ble_eq_true rfl) (fun r1 h2 => ?_)
  refine x_aload_n C.1 dX1_joins_6 rfl 0 rfl ?_
  refine x_iload_n C.1 dX1_joins_7 rfl 2 rfl ?_
  refine z_callVi C dX1_joins_8 (M_X1_toOf_30 G l N p2 h2) (cwV 1 C.1.2.2.2.2.1 (gdV gWC qC_155 qC_70 qC_71 qC_32 qC_60) rfl rfl rfl (by decide +kernel) ⟨Nat.le_of_ble_eq_true rfl, Nat.le_of_ble_eq_true rfl⟩) (xc_30 G h2) (by decide) rfl rfl rfl (Nat.le_of_ble_eq_true rfl) (fun r3 h4 => ?_)
  refine x_aload_n C.1 dX1_joins_11 rfl 0 rfl ?_
  refine x_iload_n C.1 dX1_joins_12 rfl 2 rfl ?_
  refine z_callVi C dX1_joins_13 (M_X1_mostOf_30 G l N p2 h4) (cwV 1 C.1.2.2.2.2.1 (gdV gWC qC_156 qC_73 qC_74 qC_32 qC_61) rfl rfl rfl (by decide +kernel) ⟨Nat.le_of_ble_eq_true rfl, Nat.le_of_ble_eq_true rfl⟩) (xc_30 G h4) (by decide) rfl rfl rfl (Nat.le_of_ble_eq_true rfl) (fun r5 h6 => ?_)
  refine z_callVi C dX1_joins_16 (M_X2_refuses G l N r1 r3 r5 h6) (cwV 3 C.1.2.2.2.2.1 (gdV gWC qC_157 qC_158 qC_159 qC_144 qC_152) rfl rfl rfl (by decide +kernel) ⟨Nat.le_of_ble_eq_true rfl, Nat.le_of_ble_eq_true rfl⟩) (xc_1 G h6) (by decide) rfl rfl rfl (Nat.le_of_ble_eq_true rfl) (fun r7 h8 => ?_)
  refine x_if_eq (tgt := 24) C.1 dX1_joins_19 (by decide) ?_ ?_
  · refine x_aload_n C.1 dX1_joins_24 rfl 1 rfl ?_
    refine x_aload_n C.1 dX1_joins_25 rfl 0 rfl ?_
    refine x_iload_n C.1 dX1_joins_26 rfl 2 rfl ?_
    refine z_callVi C dX1_joins_27 (M_X1_fromOf_30 G l N p2 h8) (cwV 1 C.1.2.2.2.2.1 (gdV gWC qC_154 qC_67 qC_68 qC_32 qC_57) rfl rfl rfl (by decide +kernel) ⟨Nat.le_of_ble_eq_true rfl, Nat.le_of_ble_eq_true rfl⟩) (xc_30 G h8) (by decide) rfl rfl rfl (Nat.le_of_ble_eq_true rfl) (fun r9 h10 => ?_)
    refine x_aload_n C.1 dX1_joins_30 rfl 0 rfl ?_
    refine x_iload_n C.1 dX1_joins_31 rfl 2 rfl ?_
    refine z_callVi C dX1_joins_32 (M_X1_toOf_30 G l N p2 h10) (cwV 1 C.1.2.2.2.2.1 (gdV gWC qC_155 qC_70 qC_71 qC_32 qC_60) rfl rfl rfl (by decide +kernel) ⟨Nat.le_of_ble_eq_true rfl, Nat.le_of_ble_eq_true rfl⟩) (xc_30 G h10) (by decide) rfl rfl rfl (Nat.le_of_ble_eq_true rfl) (fun r11 h12 => ?_)
    refine x_aload_n C.1 dX1_joins_35 rfl 0 rfl ?_
    refine x_iload_n C.1 dX1_joins_36 rfl 2 rfl ?_
    refine z_callVi C dX1_joins_37 (M_X1_mostOf_30 G l N p2 h12) (cwV 1 C.1.2.2.2.2.1 (gdV gWC qC_156 qC_73 qC_74 qC_32 qC_61) rfl rfl rfl (by decide +kernel) ⟨Nat.le_of_ble_eq_true rfl, Nat.le_of_ble_eq_true rfl⟩) (xc_30 G h12) (by decide) rfl rfl rfl (Nat.le_of_ble_eq_true rfl) (fun r13 h14 => ?_)
    refine z_callVv C dX1_joins_40 (M_X2_append G l N r9 r11 r13 h14) (cwV 3 C.1.2.2.2.2.1 (gdV gWC qC_160 qC_161 qC_162 qC_144 qC_153) rfl rfl rfl (by decide +kernel) ⟨Nat.le_of_ble_eq_true rfl, Nat.le_of_ble_eq_true rfl⟩) (xc_1 G h14) (by decide) rfl rfl rfl (Nat.le_of_ble_eq_true rfl) (fun r15 h16 => ?_)
    refine x_iconst (v := 1) C.1 dX1_joins_43 (by decide) ?_
    exact x_zretL C.1 dX1_joins_44 hr rfl
  · refine x_iconst (v := 0) C.1 dX1_joins_22 (by decide) ?_
    exact x_zretL C.1 dX1_joins_23 hr rfl
/-! X5_tryTruth: 28 instructions -/
abbrev J_X5_tryTruth (d : Nat) (G : xG) (p : Program) (l : Launch) (e : Env) (s : State) (m : MethodId) (args : Array Value) (below : List Frame) (meth : Method) (c : Code) : Nat → List (Nat × Value) → List Value → xHp → Option (Unit × xHp) → Prop := xJ G p l e ({ frames := 4 + 2 * d + 1, cells := 0, slots := 0, locals := 152 + 47 * d + 23 } : Room) s m args below meth c 5 (fun res => MQ below (xQv G res) args s 0 0 (xA G))
def F_X5_tryTruth_42 (N : Nat) (rA : Int32 → Int32 → xHp → Option (Unit × xHp)) (x4 : Int32) (h : xHp) : Option (Unit × xHp) := bnd2 (F_X2_cutTo N x4 h) fun r1 h2 => some ((), h2)
def F_X5_tryTruth (N : Nat) (rA : Int32 → Int32 → xHp → Option (Unit × xHp)) (p1 : Int32) (p2 : Int32) (p3 : Int32) (h : xHp) : Option (Unit × xHp) := grd (xin p1 10) (bnd (sI h 34 p1.toNatClampNeg p2) fun h1 => bnd2 (F_X1_joins_30_1 N p1 h1) fun r2 h3 => if r2 = 0 then F_X5_tryTruth_42 N rA (gI h 1 3) h3 else bnd2 (rA (p1 + 1) p3 h3) fun r4 h5 => F_X5_tryTruth_42 N rA (gI h 1 3) h5)
set_option maxHeartbeats 4000000 in
set_option maxRecDepth 100000 in
theorem T_X5_tryTruth_42 {G : xG} {p : Program} {l : Launch} {e : Env} {s : State} {m : MethodId} {args : Array Value} {below : List Frame} {meth : Method} {c : Code} {N : Nat} (C : xCz G p s m args meth c cX5_tryTruth 5 vX5_tryTruth RX5) (hr : meth.sig.returnType = none) {d : Nat} {rA : Int32 → Int32 → xHp → Option (Unit × xHp)} (hA : ∀ (a0 : Int32) (a1 : Int32) (h : xHp) (r : Unit × xHp), rA a0 a1 h = some r → Met l yX5_search vX5_search ({ frames := 4 + 2 * d, cells := 0, slots := 0, locals := 152 + 47 * d } : Room) (xPz G [.ref (xad G 47), .int a0, .int a1] h) (xQv G r) 0 0 (xA G)) (x4 : Int32) (h : xHp) : J_X5_tryTruth d G p l e s m args below meth c 42 [(0, .ref (xad G 47)), (4, .int x4)] [] h (F_X5_tryTruth_42 N rA x4 h) := by
  unfold F_X5_tryTruth_42
  refine x_aload_n C.1 dX5_tryTruth_42 rfl 0 rfl ?_
  refine x_get (v := .ref (xad G 1)) C.1 4 dX5_tryTruth_43 (xc_47 G h) rfl (by decide) rfl (fun w h => List.mem_cons_of_mem _ (iWC_X5 w h)) (by decide) rfl (C.1.2.2.2.2.1 _ (List.mem_cons_of_mem _ qC_297)) ?_
  refine x_iload C.1 dX5_tryTruth_46 1 rfl ?_
  refine z_callVv C dX5_tryTruth_48 (M_X2_cutTo G l N x4 h) (cwV 1 C.1.2.2.2.2.1 (gdV gWC qC_305 qC_306 qC_307 qC_144 qC_165) rfl rfl rfl (by decide +kernel) ⟨by dsimp only; omega, by dsimp only; omega⟩) (xc_1 G h) (by decide) rfl rfl rfl (Nat.le_of_ble_eq_true rfl) (fun r1 h2 => ?_)
  exact x_vret C.1 dX5_tryTruth_51 hr
set_option maxHeartbeats 4000000 in
set_option maxRecDepth 100000 in
theorem M_X5_tryTruth (G : xG) (l : Launch) (N : Nat) {d : Nat} {rA : Int32 → Int32 → xHp → Option (Unit × xHp)} (hA : ∀ (a0 : Int32) (a1 : Int32) (h : xHp) (r : Unit × xHp), rA a0 a1 h = some r → Met l yX5_search vX5_search ({ frames := 4 + 2 * d, cells := 0, slots := 0, locals := 152 + 47 * d } : Room) (xPz G [.ref (xad G 47), .int a0, .int a1] h) (xQv G r) 0 0 (xA G)) (p1 : Int32) (p2 : Int32) (p3 : Int32) (h : xHp) : ∀ r, F_X5_tryTruth N rA p1 p2 p3 h = some r → Met l yX5_tryTruth vX5_tryTruth ({ frames := 4 + 2 * d + 1, cells := 0, slots := 0, locals := 152 + 47 * d + 23 } : Room) (xPz G [.ref (xad G 47), .int p1, .int p2, .int p3] h) (xQv G r) 0 0 (xA G) := by
  refine z_met (own := RX5) (cc := cX5_tryTruth) (maxL := 5) (ret := none) (lv0 := [(0, .ref (xad G 47)), (1, .int p1), (2, .int p2), (3, .int p3)]) (by decide +kernel) rfl rfl (Nat.le_of_ble_eq_true rfl) rfl ?_
  intro p e s m below meth c C hr
  unfold F_X5_tryTruth
  refine x_aload_n C.1 dX5_tryTruth_0 rfl 0 rfl ?_
  refine x_get (v := .ref (xad G 1)) C.1 4 dX5_tryTruth_1 (xc_47 G h) rfl (by decide) rfl (fun w h => List.mem_cons_of_mem _ (iWC_X5 w h)) (by decide) rfl (C.1.2.2.2.2.1 _ (List.mem_cons_of_mem _ qC_297)) ?_
  refine x_get (v := .int (gI h 1 3)) C.1 3 dX5_tryTruth_4 (xc_1 G h) rfl (by decide) rfl (fun w h => List.mem_cons_of_mem _ (iWC_X2 w h)) (by decide) rfl (C.1.2.2.2.2.1 _ (List.mem_cons_of_mem _ qC_298)) ?_
  refine x_istore (lv' := [(4, .int (gI h 1 3)), (0, .ref (xad G 47)), (1, .int p1), (2, .int p2), (3, .int p3)]) C.1 dX5_tryTruth_7 (by decide) rfl ?_
  refine x_aload_n C.1 dX5_tryTruth_9 rfl 1 rfl ?_
  refine x_get (v := .ref (xad G 30)) C.1 3 dX5_tryTruth_10 (xc_47 G h) rfl (by decide) rfl (fun w h => List.mem_cons_of_mem _ (iWC_X5 w h)) (by decide) rfl (C.1.2.2.2.2.1 _ (List.mem_cons_of_mem _ qC_286)) ?_
  refine x_get (v := .ref (xad G 34)) C.1 4 dX5_tryTruth_13 (xc_30 G h) rfl (by decide) rfl (fun w h => List.mem_cons_of_mem _ (iWC_X1 w h)) (by decide) rfl (C.1.2.2.2.2.1 _ (List.mem_cons_of_mem _ qC_288)) ?_
  refine x_iload_n C.1 dX5_tryTruth_16 rfl 2 rfl ?_
  refine x_iload_n C.1 dX5_tryTruth_17 rfl 3 rfl ?_
  refine x_iast (n := 10) C.1 dX5_tryTruth_18 (fun g => xp_34 G g _ _) (by decide) (fun h1 => ?_)
  refine x_aload_n C.1 dX5_tryTruth_19 rfl 1 rfl ?_
  refine x_get (v := .ref (xad G 30)) C.1 3 dX5_tryTruth_20 (xc_47 G h1) rfl (by decide) rfl (fun w h => List.mem_cons_of_mem _ (iWC_X5 w h)) (by decide) rfl (C.1.2.2.2.2.1 _ (List.mem_cons_of_mem _ qC_286)) ?_
  refine x_aload_n C.1 dX5_tryTruth_23 rfl 1 rfl ?_
  refine x_get (v := .ref (xad G 1)) C.1 4 dX5_tryTruth_24 (xc_47 G h1) rfl (by decide) rfl (fun w h => List.mem_cons_of_mem _ (iWC_X5 w h)) (by decide) rfl (C.1.2.2.2.2.1 _ (List.mem_cons_of_mem _ qC_297)) ?_
  refine x_iload_n C.1 dX5_tryTruth_27 rfl 2 rfl ?_
  refine z_callVi C dX5_tryTruth_28 (M_X1_joins_30_1 G l N p1 h1) (cwV 2 C.1.2.2.2.2.1 (gdV gWC qC_299 qC_300 qC_301 qC_32 qC_163) rfl rfl rfl (by decide +kernel) ⟨by dsimp only; omega, by dsimp only; omega⟩) (xc_30 G h1) (by decide) rfl rfl rfl (Nat.le_of_ble_eq_true rfl) (fun r2 h3 => ?_)
  refine x_if_eq (tgt := 42) C.1 dX5_tryTruth_31 (by decide) ?_ ?_
  · exact x_sub [1, 0] rfl (T_X5_tryTruth_42 C hr hA (gI h 1 3) h3)
  · refine x_aload_n C.1 dX5_tryTruth_34 rfl 1 rfl ?_
    refine x_iload_n C.1 dX5_tryTruth_35 rfl 2 rfl ?_
    refine x_iconst (v := 1) C.1 dX5_tryTruth_36 (by decide) ?_
    refine x_iadd C.1 dX5_tryTruth_37 ?_
    refine x_iload_n C.1 dX5_tryTruth_38 rfl 4 rfl ?_
    refine z_callVv C dX5_tryTruth_39 (hA (p1 + 1) p3 h3) (cwV 2 C.1.2.2.2.2.1 (gdV gWC qC_302 qC_303 qC_304 qC_295 qC_308) rfl rfl rfl (by decide +kernel) ⟨by dsimp only; omega, by dsimp only; omega⟩) (xc_47 G h3) (by decide) rfl rfl rfl (Nat.le_of_ble_eq_true rfl) (fun r4 h5 => ?_)
    exact x_sub [1, 0] rfl (T_X5_tryTruth_42 C hr hA (gI h 1 3) h5)
/-! X5_search: 59 instructions -/
abbrev J_X5_search (d : Nat) (G : xG) (p : Program) (l : Launch) (e : Env) (s : State) (m : MethodId) (args : Array Value) (below : List Frame) (meth : Method) (c : Code) : Nat → List (Nat × Value) → List Value → xHp → Option (Unit × xHp) → Prop := xJ G p l e ({ frames := 4 + 2 * (d + 1), cells := 0, slots := 0, locals := 152 + 47 * (d + 1) } : Room) s m args below meth c 4 (fun res => MQ below (xQv G res) args s 0 0 (xA G))
def F_X5_search_r (N : Nat) (rA : Int32 → Int32 → xHp → Option (Unit × xHp)) (p1 : Int32) (p2 : Int32) (h : xHp) : Option (Unit × xHp) := bnd2 (F_X1_judge_30 N h) fun r1 h2 => if r1 = 0 then some ((), h2) else if p1 ≤ (gI h2 30 3) then if (gI h2 30 3) ≤ p1 then if p2 < 0 then some ((), h2) else if 1024 ≤ p2 then some ((), h2) else grd (xin p2 1024) (bnd (sI h2 48 p2.toNatClampNeg (vp_nar .boolean 1)) fun h3 => bnd (sI h3 47 1 ((gI h3 47 1) + 1)) fun h4 => some ((), h4)) else bnd2 (F_X5_tryTruth N rA p1 0 (2 * p2) h2) fun r5 h6 => bnd2 (F_X5_tryTruth N rA p1 2 ((2 * p2) + 1) h6) fun r7 h8 => grd (xin p1 10) (bnd (sI h8 34 p1.toNatClampNeg 1) fun h9 => some ((), h9)) else some ((), h2)
def F_X5_search (N d : Nat) (p1 : Int32) (p2 : Int32) (h : xHp) : Option (Unit × xHp) := xit (F_X5_search_r N) (fun _ _ _ => none) d p1 p2 h
set_option maxHeartbeats 4000000 in
set_option maxRecDepth 100000 in
theorem M_X5_search_r (G : xG) (l : Launch) (N : Nat) {d : Nat} {rA : Int32 → Int32 → xHp → Option (Unit × xHp)} (hA : ∀ (a0 : Int32) (a1 : Int32) (h : xHp) (r : Unit × xHp), rA a0 a1 h = some r → Met l yX5_search vX5_search ({ frames := 4 + 2 * d, cells := 0, slots := 0, locals := 152 + 47 * d } : Room) (xPz G [.ref (xad G 47), .int a0, .int a1] h) (xQv G r) 0 0 (xA G)) (p1 : Int32) (p2 : Int32) (h : xHp) : ∀ r, F_X5_search_r N rA p1 p2 h = some r → Met l yX5_search vX5_search ({ frames := 4 + 2 * (d + 1), cells := 0, slots := 0, locals := 152 + 47 * (d + 1) } : Room) (xPz G [.ref (xad G 47), .int p1, .int p2] h) (xQv G r) 0 0 (xA G) := by
  refine z_met (own := RX5) (cc := cX5_search) (maxL := 4) (ret := none) (lv0 := [(0, .ref (xad G 47)), (1, .int p1), (2, .int p2)]) (by decide +kernel) rfl rfl (Nat.le_of_ble_eq_true rfl) rfl ?_
  intro p e s m below meth c C hr
  unfold F_X5_search_r
  refine x_aload_n C.1 dX5_search_0 rfl 0 rfl ?_
  refine x_get (v := .ref (xad G 30)) C.1 3 dX5_search_1 (xc_47 G h) rfl (by decide) rfl (fun w h => List.mem_cons_of_mem _ (iWC_X5 w h)) (by decide) rfl (C.1.2.2.2.2.1 _ (List.mem_cons_of_mem _ qC_286)) ?_
  refine z_callVi C dX5_search_4 (M_X1_judge_30 G l N h) (cwV 0 C.1.2.2.2.2.1 (gdV gWC qC_291 qC_88 qC_89 qC_32 qC_26) rfl rfl rfl (by decide +kernel) ⟨by dsimp only; omega, by dsimp only; omega⟩) (xc_30 G h) (by decide) rfl rfl rfl (Nat.le_of_ble_eq_true rfl) (fun r1 h2 => ?_)
  refine x_istore_n (lv' := [(3, .int r1), (0, .ref (xad G 47)), (1, .int p1), (2, .int p2)]) C.1 dX5_search_7 rfl (by decide) rfl ?_
  refine x_iload_n C.1 dX5_search_8 rfl 0 rfl ?_
  refine x_if_eq (tgt := 23) C.1 dX5_search_9 (by decide) ?_ ?_
  · exact x_vret C.1 dX5_search_23 hr
  · refine x_iload_n C.1 dX5_search_12 rfl 2 rfl ?_
    refine x_aload_n C.1 dX5_search_13 rfl 1 rfl ?_
    refine x_get (v := .ref (xad G 30)) C.1 3 dX5_search_14 (xc_47 G h2) rfl (by decide) rfl (fun w h => List.mem_cons_of_mem _ (iWC_X5 w h)) (by decide) rfl (C.1.2.2.2.2.1 _ (List.mem_cons_of_mem _ qC_286)) ?_
    refine x_get (v := .int (gI h2 30 3)) C.1 3 dX5_search_17 (xc_30 G h2) rfl (by decide) rfl (fun w h => List.mem_cons_of_mem _ (iWC_X1 w h)) (by decide) rfl (C.1.2.2.2.2.1 _ (List.mem_cons_of_mem _ qC_287)) ?_
    refine x_icmp_le (tgt := 24) C.1 dX5_search_20 (by decide) ?_ ?_
    · refine x_iload_n C.1 dX5_search_24 rfl 2 rfl ?_
      refine x_aload_n C.1 dX5_search_25 rfl 1 rfl ?_
      refine x_get (v := .ref (xad G 30)) C.1 3 dX5_search_26 (xc_47 G h2) rfl (by decide) rfl (fun w h => List.mem_cons_of_mem _ (iWC_X5 w h)) (by decide) rfl (C.1.2.2.2.2.1 _ (List.mem_cons_of_mem _ qC_286)) ?_
      refine x_get (v := .int (gI h2 30 3)) C.1 3 dX5_search_29 (xc_30 G h2) rfl (by decide) rfl (fun w h => List.mem_cons_of_mem _ (iWC_X1 w h)) (by decide) rfl (C.1.2.2.2.2.1 _ (List.mem_cons_of_mem _ qC_287)) ?_
      refine x_icmp_ge (tgt := 68) C.1 dX5_search_32 (by decide) ?_ ?_
      · refine x_iload_n C.1 dX5_search_68 rfl 3 rfl ?_
        refine x_if_lt (tgt := 98) C.1 dX5_search_69 (by decide) ?_ ?_
        · exact x_vret C.1 dX5_search_98 hr
        · refine x_iload_n C.1 dX5_search_72 rfl 3 rfl ?_
          refine x_aload_n C.1 dX5_search_73 rfl 1 rfl ?_
          refine x_get (v := .ref (xad G 48)) C.1 0 dX5_search_74 (xc_47 G h2) rfl (by decide) rfl (fun w h => List.mem_cons_of_mem _ (iWC_X5 w h)) (by decide) rfl (C.1.2.2.2.2.1 _ (List.mem_cons_of_mem _ qC_289)) ?_
          refine x_alen (v := 1024) (t0 := 3) C.1 dX5_search_77 (xc_48 G h2) rfl rfl (by decide) ?_
          refine x_icmp_ge (tgt := 98) C.1 dX5_search_78 (by decide) ?_ ?_
          · exact x_vret C.1 dX5_search_98 hr
          · refine x_aload_n C.1 dX5_search_81 rfl 1 rfl ?_
            refine x_get (v := .ref (xad G 48)) C.1 0 dX5_search_82 (xc_47 G h2) rfl (by decide) rfl (fun w h => List.mem_cons_of_mem _ (iWC_X5 w h)) (by decide) rfl (C.1.2.2.2.2.1 _ (List.mem_cons_of_mem _ qC_289)) ?_
            refine x_iload_n C.1 dX5_search_85 rfl 3 rfl ?_
            refine x_iconst (v := 1) C.1 dX5_search_86 (by decide) ?_
            refine x_zast (n := 1024) C.1 dX5_search_87 (fun g => xp_48 G g _ _) (by decide) (fun h3 => ?_)
            refine x_aload_n C.1 dX5_search_88 rfl 1 rfl ?_
            refine x_dup C.1 dX5_search_89 rfl ?_
            refine x_get (v := .int (gI h3 47 1)) C.1 1 dX5_search_90 (xc_47 G h3) rfl (by decide) rfl (fun w h => List.mem_cons_of_mem _ (iWC_X5 w h)) (by decide) rfl (C.1.2.2.2.2.1 _ (List.mem_cons_of_mem _ qC_290)) ?_
            refine x_iconst (v := 1) C.1 dX5_search_93 (by decide) ?_
            refine x_iadd C.1 dX5_search_94 ?_
            refine x_putI (ty0 := tyX5) (ty := .int) C.1 1 dX5_search_95 (xc_47 G h3) rfl (Nat.le_of_ble_eq_true rfl) (by decide) rfl (fun w h => List.mem_cons_of_mem _ (iWC_X5 w h)) tyX5_ok nmX5 (by decide) rfl rfl (by decide +kernel) rfl rfl (C.1.2.2.2.2.1 _ (List.mem_cons_of_mem _ qC_290)) (fun h4 => ?_)
            exact x_vret C.1 dX5_search_98 hr
      · refine x_aload_n C.1 dX5_search_35 rfl 1 rfl ?_
        refine x_iload_n C.1 dX5_search_36 rfl 2 rfl ?_
        refine x_iconst (v := 0) C.1 dX5_search_37 (by decide) ?_
        refine x_iconst (v := 2) C.1 dX5_search_38 (by decide) ?_
        refine x_iload_n C.1 dX5_search_39 rfl 3 rfl ?_
        refine x_imul C.1 dX5_search_40 ?_
        refine z_callVv C dX5_search_41 (M_X5_tryTruth G l N hA p1 0 (2 * p2) h2) (cwV 3 C.1.2.2.2.2.1 (gdV gWC qC_292 qC_293 qC_294 qC_295 qC_296) rfl rfl rfl (by decide +kernel) ⟨by dsimp only; omega, by dsimp only; omega⟩) (xc_47 G h2) (by decide) rfl rfl rfl (Nat.le_of_ble_eq_true rfl) (fun r5 h6 => ?_)
        refine x_aload_n C.1 dX5_search_44 rfl 1 rfl ?_
        refine x_iload_n C.1 dX5_search_45 rfl 2 rfl ?_
        refine x_iconst (v := 2) C.1 dX5_search_46 (by decide) ?_
        refine x_iconst (v := 2) C.1 dX5_search_47 (by decide) ?_
        refine x_iload_n C.1 dX5_search_48 rfl 3 rfl ?_
        refine x_imul C.1 dX5_search_49 ?_
        refine x_iconst (v := 1) C.1 dX5_search_50 (by decide) ?_
        refine x_iadd C.1 dX5_search_51 ?_
        refine z_callVv C dX5_search_52 (M_X5_tryTruth G l N hA p1 2 ((2 * p2) + 1) h6) (cwV 3 C.1.2.2.2.2.1 (gdV gWC qC_292 qC_293 qC_294 qC_295 qC_296) rfl rfl rfl (by decide +kernel) ⟨by dsimp only; omega, by dsimp only; omega⟩) (xc_47 G h6) (by decide) rfl rfl rfl (Nat.le_of_ble_eq_true rfl) (fun r7 h8 => ?_)
        refine x_aload_n C.1 dX5_search_55 rfl 1 rfl ?_
        refine x_get (v := .ref (xad G 30)) C.1 3 dX5_search_56 (xc_47 G h8) rfl (by decide) rfl (fun w h => List.mem_cons_of_mem _ (iWC_X5 w h)) (by decide) rfl (C.1.2.2.2.2.1 _ (List.mem_cons_of_mem _ qC_286)) ?_
        refine x_get (v := .ref (xad G 34)) C.1 4 dX5_search_59 (xc_30 G h8) rfl (by decide) rfl (fun w h => List.mem_cons_of_mem _ (iWC_X1 w h)) (by decide) rfl (C.1.2.2.2.2.1 _ (List.mem_cons_of_mem _ qC_288)) ?_
        refine x_iload_n C.1 dX5_search_62 rfl 2 rfl ?_
        refine x_iconst (v := 1) C.1 dX5_search_63 (by decide) ?_
        refine x_iast (n := 10) C.1 dX5_search_64 (fun g => xp_34 G g _ _) (by decide) (fun h9 => ?_)
        refine x_goto (tgt := 98) C.1 dX5_search_65 (by decide) ?_
        exact x_vret C.1 dX5_search_98 hr
    · exact x_vret C.1 dX5_search_23 hr
set_option maxHeartbeats 4000000 in
set_option maxRecDepth 100000 in
theorem M_X5_search (G : xG) (l : Launch) (N : Nat) : ∀ (d : Nat) (p1 : Int32) (p2 : Int32) (h : xHp) (r : Unit × xHp), F_X5_search N d p1 p2 h = some r → Met l yX5_search vX5_search ({ frames := 4 + 2 * d, cells := 0, slots := 0, locals := 152 + 47 * d } : Room) (xPz G [.ref (xad G 47), .int p1, .int p2] h) (xQv G r) 0 0 (xA G) := by
  intro d
  induction d with
  | zero => intros; rename_i hx; cases hx
  | succ d ih => intro p1 p2 h r hx; exact M_X5_search_r G l N (rA := F_X5_search N d) ih p1 p2 h r hx
/-! X5_fill: 32 instructions -/
abbrev J_X5_fill (G : xG) (p : Program) (l : Launch) (e : Env) (s : State) (m : MethodId) (args : Array Value) (below : List Frame) (meth : Method) (c : Code) : Nat → List (Nat × Value) → List Value → xHp → Option (Unit × xHp) → Prop := xJ G p l e ({ frames := 29, cells := 0, slots := 0, locals := 739 } : Room) s m args below meth c 2 (fun res => MQ below (xQv G res) args s 0 0 (xA G))
def F_X5_fill_10_b (N : Nat) (k10 : Int32 → xHp → Option (Unit × xHp)) (x1 : Int32) (h : xHp) : Option (Unit × xHp) := if 1024 ≤ x1 then bnd (sI h 47 1 0) fun h1 => bnd2 (F_X1_giveNothing_30 N h1) fun r2 h3 => bnd2 (F_X5_search N 12 0 0 h3) fun r4 h5 => bnd (sI h5 47 2 1) fun h6 => some ((), h6) else grd (xin x1 1024) (bnd (sI h 48 x1.toNatClampNeg (vp_nar .boolean 0)) fun h7 => k10 (x1 + 1) h7)
def F_X5_fill_10 (N : Nat) (x1 : Int32) (h : xHp) : Option (Unit × xHp) := xit (F_X5_fill_10_b N) (fun _ _ => none) N x1 h
def F_X5_fill (N : Nat) (h : xHp) : Option (Unit × xHp) := if (gI h 47 2) = 0 then F_X5_fill_10 N 0 h else some ((), h)
set_option maxHeartbeats 4000000 in
set_option maxRecDepth 100000 in
theorem T_X5_fill_10_b {G : xG} {p : Program} {l : Launch} {e : Env} {s : State} {m : MethodId} {args : Array Value} {below : List Frame} {meth : Method} {c : Code} {N : Nat} (C : xCz G p s m args meth c cX5_fill 2 vX5_fill RX5) (hr : meth.sig.returnType = none) {k10 : Int32 → xHp → Option (Unit × xHp)} (hk10 : ∀ (x1 : Int32) (h : xHp), J_X5_fill G p l e s m args below meth c 10 [(0, .ref (xad G 47)), (1, .int x1)] [] h (k10 x1 h)) (x1 : Int32) (h : xHp) : J_X5_fill G p l e s m args below meth c 10 [(0, .ref (xad G 47)), (1, .int x1)] [] h (F_X5_fill_10_b N k10 x1 h) := by
  unfold F_X5_fill_10_b
  refine x_iload_n C.1 dX5_fill_10 rfl 1 rfl ?_
  refine x_aload_n C.1 dX5_fill_11 rfl 0 rfl ?_
  refine x_get (v := .ref (xad G 48)) C.1 0 dX5_fill_12 (xc_47 G h) rfl (by decide) rfl (fun w h => List.mem_cons_of_mem _ (iWC_X5 w h)) (by decide) rfl (C.1.2.2.2.2.1 _ (List.mem_cons_of_mem _ qC_289)) ?_
  refine x_alen (v := 1024) (t0 := 3) C.1 dX5_fill_15 (xc_48 G h) rfl rfl (by decide) ?_
  refine x_icmp_ge (tgt := 32) C.1 dX5_fill_16 (by decide) ?_ ?_
  · refine x_aload_n C.1 dX5_fill_32 rfl 0 rfl ?_
    refine x_iconst (v := 0) C.1 dX5_fill_33 (by decide) ?_
    refine x_putI (ty0 := tyX5) (ty := .int) C.1 1 dX5_fill_34 (xc_47 G h) rfl (Nat.le_of_ble_eq_true rfl) (by decide) rfl (fun w h => List.mem_cons_of_mem _ (iWC_X5 w h)) tyX5_ok nmX5 (by decide) rfl rfl (by decide +kernel) rfl rfl (C.1.2.2.2.2.1 _ (List.mem_cons_of_mem _ qC_290)) (fun h1 => ?_)
    refine x_aload_n C.1 dX5_fill_37 rfl 0 rfl ?_
    refine x_get (v := .ref (xad G 30)) C.1 3 dX5_fill_38 (xc_47 G h1) rfl (by decide) rfl (fun w h => List.mem_cons_of_mem _ (iWC_X5 w h)) (by decide) rfl (C.1.2.2.2.2.1 _ (List.mem_cons_of_mem _ qC_286)) ?_
    refine z_callVv C dX5_fill_41 (M_X1_giveNothing_30 G l N h1) (cwV 0 C.1.2.2.2.2.1 (gdV gWC qC_310 qC_99 qC_100 qC_32 qC_2) rfl rfl rfl (by decide +kernel) ⟨Nat.le_of_ble_eq_true rfl, Nat.le_of_ble_eq_true rfl⟩) (xc_30 G h1) (by decide) rfl rfl rfl (Nat.le_of_ble_eq_true rfl) (fun r2 h3 => ?_)
    refine x_aload_n C.1 dX5_fill_44 rfl 0 rfl ?_
    refine x_iconst (v := 0) C.1 dX5_fill_45 (by decide) ?_
    refine x_iconst (v := 0) C.1 dX5_fill_46 (by decide) ?_
    refine z_callVv C dX5_fill_47 (M_X5_search G l N 12 0 0 h3) (cwV 2 C.1.2.2.2.2.1 (gdV gWC qC_302 qC_303 qC_304 qC_295 qC_308) rfl rfl rfl (by decide +kernel) ⟨Nat.le_of_ble_eq_true rfl, Nat.le_of_ble_eq_true rfl⟩) (xc_47 G h3) (by decide) rfl rfl rfl (Nat.le_of_ble_eq_true rfl) (fun r4 h5 => ?_)
    refine x_aload_n C.1 dX5_fill_50 rfl 0 rfl ?_
    refine x_iconst (v := 1) C.1 dX5_fill_51 (by decide) ?_
    refine x_putI (ty0 := tyX5) (ty := .boolean) C.1 2 dX5_fill_52 (xc_47 G h5) rfl (Nat.le_of_ble_eq_true rfl) (by decide) rfl (fun w h => List.mem_cons_of_mem _ (iWC_X5 w h)) tyX5_ok nmX5 (by decide) rfl rfl (by decide +kernel) rfl rfl (C.1.2.2.2.2.1 _ (List.mem_cons_of_mem _ qC_309)) (fun h6 => ?_)
    exact x_vret C.1 dX5_fill_55 hr
  · refine x_aload_n C.1 dX5_fill_19 rfl 0 rfl ?_
    refine x_get (v := .ref (xad G 48)) C.1 0 dX5_fill_20 (xc_47 G h) rfl (by decide) rfl (fun w h => List.mem_cons_of_mem _ (iWC_X5 w h)) (by decide) rfl (C.1.2.2.2.2.1 _ (List.mem_cons_of_mem _ qC_289)) ?_
    refine x_iload_n C.1 dX5_fill_23 rfl 1 rfl ?_
    refine x_iconst (v := 0) C.1 dX5_fill_24 (by decide) ?_
    refine x_zast (n := 1024) C.1 dX5_fill_25 (fun g => xp_48 G g _ _) (by decide) (fun h7 => ?_)
    refine x_iinc (v := (x1 + 1)) (j := 1) (lv' := [(1, .int (x1 + 1)), (0, .ref (xad G 47))]) C.1 dX5_fill_26 rfl (by rfl) (by decide) rfl ?_
    refine x_goto (tgt := 10) C.1 dX5_fill_29 (by decide) ?_
    exact x_sub [1, 0] rfl (hk10 (x1 + 1) h7)
set_option maxHeartbeats 4000000 in
set_option maxRecDepth 100000 in
theorem T_X5_fill_10_n {G : xG} {p : Program} {l : Launch} {e : Env} {s : State} {m : MethodId} {args : Array Value} {below : List Frame} {meth : Method} {c : Code} {N : Nat} (C : xCz G p s m args meth c cX5_fill 2 vX5_fill RX5) (hr : meth.sig.returnType = none) : ∀ (n : Nat) (x1 : Int32) (h : xHp), J_X5_fill G p l e s m args below meth c 10 [(0, .ref (xad G 47)), (1, .int x1)] [] h (xit (F_X5_fill_10_b N) (fun _ _ => none) n x1 h) := by
  intro n
  induction n with
  | zero => intros; exact x_none
  | succ n ih => intros; exact T_X5_fill_10_b C hr ih _ _
set_option maxHeartbeats 4000000 in
set_option maxRecDepth 100000 in
theorem T_X5_fill_10 {G : xG} {p : Program} {l : Launch} {e : Env} {s : State} {m : MethodId} {args : Array Value} {below : List Frame} {meth : Method} {c : Code} {N : Nat} (C : xCz G p s m args meth c cX5_fill 2 vX5_fill RX5) (hr : meth.sig.returnType = none) (x1 : Int32) (h : xHp) : J_X5_fill G p l e s m args below meth c 10 [(0, .ref (xad G 47)), (1, .int x1)] [] h (F_X5_fill_10 N x1 h) := T_X5_fill_10_n C hr N x1 h
set_option maxHeartbeats 4000000 in
set_option maxRecDepth 100000 in
theorem M_X5_fill (G : xG) (l : Launch) (N : Nat) (h : xHp) : ∀ r, F_X5_fill N h = some r → Met l yX5_fill vX5_fill ({ frames := 29, cells := 0, slots := 0, locals := 739 } : Room) (xPz G [.ref (xad G 47)] h) (xQv G r) 0 0 (xA G) := by
  refine z_met (own := RX5) (cc := cX5_fill) (maxL := 2) (ret := none) (lv0 := [(0, .ref (xad G 47))]) (by decide +kernel) rfl rfl (Nat.le_of_ble_eq_true rfl) rfl ?_
  intro p e s m below meth c C hr
  unfold F_X5_fill
  refine x_aload_n C.1 dX5_fill_0 rfl 0 rfl ?_
  refine x_get (v := .int (gI h 47 2)) C.1 2 dX5_fill_1 (xc_47 G h) rfl (by decide) rfl (fun w h => List.mem_cons_of_mem _ (iWC_X5 w h)) (by decide) rfl (C.1.2.2.2.2.1 _ (List.mem_cons_of_mem _ qC_309)) ?_
  refine x_if_eq (tgt := 8) C.1 dX5_fill_4 (by decide) ?_ ?_
  · refine x_iconst (v := 0) C.1 dX5_fill_8 (by decide) ?_
    refine x_istore_n (lv' := [(1, .int 0), (0, .ref (xad G 47))]) C.1 dX5_fill_9 rfl (by decide) rfl ?_
    exact x_sub [1, 0] rfl (T_X5_fill_10 C hr 0 h)
  · exact x_vret C.1 dX5_fill_7 hr
/-! X8_ways: 12 instructions -/
abbrev J_X8_ways (G : xG) (p : Program) (l : Launch) (e : Env) (s : State) (m : MethodId) (args : Array Value) (below : List Frame) (meth : Method) (c : Code) : Nat → List (Nat × Value) → List Value → xHp → Option (Int32 × xHp) → Prop := xJ G p l e ({ frames := 30, cells := 0, slots := 0, locals := 760 } : Room) s m args below meth c 1 (fun res => MQ below (xQi G res) args s 0 0 (xA G))
def F_X8_ways (N : Nat) (h : xHp) : Option (Int32 × xHp) := if (gI h 0 9) = 0 then some ((-1), h) else bnd2 (F_X5_fill N h) fun r1 h2 => some ((gI h2 47 1), h2)
set_option maxHeartbeats 4000000 in
set_option maxRecDepth 100000 in
theorem M_X8_ways (G : xG) (l : Launch) (N : Nat) (h : xHp) : ∀ r, F_X8_ways N h = some r → Met l yX8_ways vX8_ways ({ frames := 30, cells := 0, slots := 0, locals := 760 } : Room) (xPz G [.ref (xad G 0)] h) (xQi G r) 0 0 (xA G) := by
  refine z_met (own := RX8) (cc := cX8_ways) (maxL := 1) (ret := (some .int)) (lv0 := [(0, .ref (xad G 0))]) (by decide +kernel) rfl rfl (Nat.le_of_ble_eq_true rfl) rfl ?_
  intro p e s m below meth c C hr
  unfold F_X8_ways
  refine x_aload_n C.1 dX8_ways_0 rfl 0 rfl ?_
  refine x_get (v := .int (gI h 0 9)) C.1 9 dX8_ways_1 (xc_0 G h) rfl (by decide) rfl (fun w h => List.mem_cons_of_mem _ (iWC_X8 w h)) (by decide) rfl (C.1.2.2.2.2.1 _ (List.mem_cons_of_mem _ qC_420)) ?_
  refine x_if_ne (tgt := 9) C.1 dX8_ways_4 (by decide) ?_ ?_
  · refine x_iconst (v := (-1)) C.1 dX8_ways_7 (by decide) ?_
    exact x_iret C.1 dX8_ways_8 hr
  · refine x_aload_n C.1 dX8_ways_9 rfl 0 rfl ?_
    refine x_get (v := .ref (xad G 47)) C.1 12 dX8_ways_10 (xc_0 G h) rfl (by decide) rfl (fun w h => List.mem_cons_of_mem _ (iWC_X8 w h)) (by decide) rfl (C.1.2.2.2.2.1 _ (List.mem_cons_of_mem _ qC_373)) ?_
    refine z_callVv C dX8_ways_13 (M_X5_fill G l N h) (cwV 0 C.1.2.2.2.2.1 (gdV gWC qC_439 qC_440 qC_441 qC_295 qC_311) rfl rfl rfl (by decide +kernel) ⟨Nat.le_of_ble_eq_true rfl, Nat.le_of_ble_eq_true rfl⟩) (xc_47 G h) (by decide) rfl rfl rfl (Nat.le_of_ble_eq_true rfl) (fun r1 h2 => ?_)
    refine x_aload_n C.1 dX8_ways_16 rfl 0 rfl ?_
    refine x_get (v := .ref (xad G 47)) C.1 12 dX8_ways_17 (xc_0 G h2) rfl (by decide) rfl (fun w h => List.mem_cons_of_mem _ (iWC_X8 w h)) (by decide) rfl (C.1.2.2.2.2.1 _ (List.mem_cons_of_mem _ qC_373)) ?_
    refine x_get (v := .int (gI h2 47 1)) C.1 1 dX8_ways_20 (xc_47 G h2) rfl (by decide) rfl (fun w h => List.mem_cons_of_mem _ (iWC_X5 w h)) (by decide) rfl (C.1.2.2.2.2.1 _ (List.mem_cons_of_mem _ qC_438)) ?_
    exact x_iret C.1 dX8_ways_23 hr
/-! X1_rows_30: 5 instructions -/
abbrev J_X1_rows_30 (G : xG) (p : Program) (l : Launch) (e : Env) (s : State) (m : MethodId) (args : Array Value) (below : List Frame) (meth : Method) (c : Code) : Nat → List (Nat × Value) → List Value → xHp → Option (Int32 × xHp) → Prop := xJ G p l e ({ frames := 0, cells := 0, slots := 0, locals := 0 } : Room) s m args below meth c 1 (fun res => MQ below (xQi G res) args s 0 0 (xA G))
def F_X1_rows_30 (N : Nat) (h : xHp) : Option (Int32 × xHp) := some ((1 <<< ((gI h 30 3) &&& 31)), h)
set_option maxHeartbeats 4000000 in
set_option maxRecDepth 100000 in
theorem M_X1_rows_30 (G : xG) (l : Launch) (N : Nat) (h : xHp) : ∀ r, F_X1_rows_30 N h = some r → Met l yX1_rows vX1_rows ({ frames := 0, cells := 0, slots := 0, locals := 0 } : Room) (xPz G [.ref (xad G 30)] h) (xQi G r) 0 0 (xA G) := by
  refine z_met (own := RX1) (cc := cX1_rows) (maxL := 1) (ret := (some .int)) (lv0 := [(0, .ref (xad G 30))]) (by decide +kernel) rfl rfl (Nat.le_of_ble_eq_true rfl) rfl ?_
  intro p e s m below meth c C hr
  unfold F_X1_rows_30
  refine x_iconst (v := 1) C.1 dX1_rows_0 (by decide) ?_
  refine x_aload_n C.1 dX1_rows_1 rfl 0 rfl ?_
  refine x_get (v := .int (gI h 30 3)) C.1 3 dX1_rows_2 (xc_30 G h) rfl (by decide) rfl (fun w h => List.mem_cons_of_mem _ (iWC_X1 w h)) (by decide) rfl (C.1.2.2.2.2.1 _ (List.mem_cons_of_mem _ qC_104)) ?_
  refine x_ishl C.1 dX1_rows_5 ?_
  exact x_iret C.1 dX1_rows_6 hr
/-! X8_way: 31 instructions -/
abbrev J_X8_way (G : xG) (p : Program) (l : Launch) (e : Env) (s : State) (m : MethodId) (args : Array Value) (below : List Frame) (meth : Method) (c : Code) : Nat → List (Nat × Value) → List Value → xHp → Option (Int32 × xHp) → Prop := xJ G p l e ({ frames := 30, cells := 0, slots := 0, locals := 760 } : Room) s m args below meth c 4 (fun res => MQ below (xQi G res) args s 0 0 (xA G))
def F_X8_way_30_b (N : Nat) (k30 : Int32 → Int32 → xHp → Option (Int32 × xHp)) (x2 : Int32) (x3 : Int32) (h : xHp) : Option (Int32 × xHp) := if x2 ≤ x3 then some ((-1), h) else grd (xin x3 1024) (if (gI h 48 x3.toNatClampNeg) = 0 then k30 x2 (x3 + 1) h else some (x3, h))
def F_X8_way_30 (N : Nat) (x2 : Int32) (x3 : Int32) (h : xHp) : Option (Int32 × xHp) := xit (F_X8_way_30_b N) (fun _ _ _ => none) N x2 x3 h
def F_X8_way (N : Nat) (p1 : Int32) (h : xHp) : Option (Int32 × xHp) := if (gI h 0 9) = 0 then some ((-1), h) else bnd2 (F_X5_fill N h) fun r1 h2 => bnd2 (F_X1_rows_30 N h2) fun r3 h4 => F_X8_way_30 N r3 (if (p1 : Int32) < 0 then 0 else p1) h4
set_option maxHeartbeats 4000000 in
set_option maxRecDepth 100000 in
theorem T_X8_way_30_b {G : xG} {p : Program} {l : Launch} {e : Env} {s : State} {m : MethodId} {args : Array Value} {below : List Frame} {meth : Method} {c : Code} {N : Nat} (C : xCz G p s m args meth c cX8_way 4 vX8_way RX8) (hr : meth.sig.returnType = (some .int)) {k30 : Int32 → Int32 → xHp → Option (Int32 × xHp)} (hk30 : ∀ (x2 : Int32) (x3 : Int32) (h : xHp), J_X8_way G p l e s m args below meth c 30 [(0, .ref (xad G 0)), (2, .int x2), (3, .int x3)] [] h (k30 x2 x3 h)) (x2 : Int32) (x3 : Int32) (h : xHp) : J_X8_way G p l e s m args below meth c 30 [(0, .ref (xad G 0)), (2, .int x2), (3, .int x3)] [] h (F_X8_way_30_b N k30 x2 x3 h) := by
  unfold F_X8_way_30_b
  refine x_iload_n C.1 dX8_way_30 rfl 2 rfl ?_
  refine x_iload_n C.1 dX8_way_31 rfl 1 rfl ?_
  refine x_icmp_ge (tgt := 55) C.1 dX8_way_32 (by decide) ?_ ?_
  · refine x_iconst (v := (-1)) C.1 dX8_way_55 (by decide) ?_
    exact x_iret C.1 dX8_way_56 hr
  · refine x_aload_n C.1 dX8_way_35 rfl 0 rfl ?_
    refine x_get (v := .ref (xad G 47)) C.1 12 dX8_way_36 (xc_0 G h) rfl (by decide) rfl (fun w h => List.mem_cons_of_mem _ (iWC_X8 w h)) (by decide) rfl (C.1.2.2.2.2.1 _ (List.mem_cons_of_mem _ qC_373)) ?_
    refine x_get (v := .ref (xad G 48)) C.1 0 dX8_way_39 (xc_47 G h) rfl (by decide) rfl (fun w h => List.mem_cons_of_mem _ (iWC_X5 w h)) (by decide) rfl (C.1.2.2.2.2.1 _ (List.mem_cons_of_mem _ qC_444)) ?_
    refine x_iload_n C.1 dX8_way_42 rfl 2 rfl ?_
    refine x_zald (n := 1024) C.1 dX8_way_43 (xc_48 G h) (by decide) ?_
    refine x_if_eq (tgt := 49) C.1 dX8_way_44 (by decide) ?_ ?_
    · refine x_iinc (v := (x3 + 1)) (j := 2) (lv' := [(3, .int (x3 + 1)), (0, .ref (xad G 0)), (2, .int x2)]) C.1 dX8_way_49 rfl (by rfl) (by decide) rfl ?_
      refine x_goto (tgt := 30) C.1 dX8_way_52 (by decide) ?_
      exact x_sub [1, 2, 0] rfl (hk30 x2 (x3 + 1) h)
    · refine x_iload_n C.1 dX8_way_47 rfl 2 rfl ?_
      exact x_iret C.1 dX8_way_48 hr
set_option maxHeartbeats 4000000 in
set_option maxRecDepth 100000 in
theorem T_X8_way_30_n {G : xG} {p : Program} {l : Launch} {e : Env} {s : State} {m : MethodId} {args : Array Value} {below : List Frame} {meth : Method} {c : Code} {N : Nat} (C : xCz G p s m args meth c cX8_way 4 vX8_way RX8) (hr : meth.sig.returnType = (some .int)) : ∀ (n : Nat) (x2 : Int32) (x3 : Int32) (h : xHp), J_X8_way G p l e s m args below meth c 30 [(0, .ref (xad G 0)), (2, .int x2), (3, .int x3)] [] h (xit (F_X8_way_30_b N) (fun _ _ _ => none) n x2 x3 h) := by
  intro n
  induction n with
  | zero => intros; exact x_none
  | succ n ih => intros; exact T_X8_way_30_b C hr ih _ _ _
set_option maxHeartbeats 4000000 in
set_option maxRecDepth 100000 in
theorem T_X8_way_30 {G : xG} {p : Program} {l : Launch} {e : Env} {s : State} {m : MethodId} {args : Array Value} {below : List Frame} {meth : Method} {c : Code} {N : Nat} (C : xCz G p s m args meth c cX8_way 4 vX8_way RX8) (hr : meth.sig.returnType = (some .int)) (x2 : Int32) (x3 : Int32) (h : xHp) : J_X8_way G p l e s m args below meth c 30 [(0, .ref (xad G 0)), (2, .int x2), (3, .int x3)] [] h (F_X8_way_30 N x2 x3 h) := T_X8_way_30_n C hr N x2 x3 h
set_option maxHeartbeats 4000000 in
set_option maxRecDepth 100000 in
theorem M_X8_way (G : xG) (l : Launch) (N : Nat) (p1 : Int32) (h : xHp) : ∀ r, F_X8_way N p1 h = some r → Met l yX8_way vX8_way ({ frames := 30, cells := 0, slots := 0, locals := 760 } : Room) (xPz G [.ref (xad G 0), .int p1] h) (xQi G r) 0 0 (xA G) := by
  refine z_met (own := RX8) (cc := cX8_way) (maxL := 4) (ret := (some .int)) (lv0 := [(0, .ref (xad G 0)), (1, .int p1)]) (by decide +kernel) rfl rfl (Nat.le_of_ble_eq_true rfl) rfl ?_
  intro p e s m below meth c C hr
  unfold F_X8_way
  refine x_aload_n C.1 dX8_way_0 rfl 0 rfl ?_
  refine x_get (v := .int (gI h 0 9)) C.1 9 dX8_way_1 (xc_0 G h) rfl (by decide) rfl (fun w h => List.mem_cons_of_mem _ (iWC_X8 w h)) (by decide) rfl (C.1.2.2.2.2.1 _ (List.mem_cons_of_mem _ qC_420)) ?_
  refine x_if_ne (tgt := 9) C.1 dX8_way_4 (by decide) ?_ ?_
  · refine x_iconst (v := (-1)) C.1 dX8_way_7 (by decide) ?_
    exact x_iret C.1 dX8_way_8 hr
  · refine x_aload_n C.1 dX8_way_9 rfl 0 rfl ?_
    refine x_get (v := .ref (xad G 47)) C.1 12 dX8_way_10 (xc_0 G h) rfl (by decide) rfl (fun w h => List.mem_cons_of_mem _ (iWC_X8 w h)) (by decide) rfl (C.1.2.2.2.2.1 _ (List.mem_cons_of_mem _ qC_373)) ?_
    refine z_callVv C dX8_way_13 (M_X5_fill G l N h) (cwV 0 C.1.2.2.2.2.1 (gdV gWC qC_439 qC_440 qC_441 qC_295 qC_311) rfl rfl rfl (by decide +kernel) ⟨Nat.le_of_ble_eq_true rfl, Nat.le_of_ble_eq_true rfl⟩) (xc_47 G h) (by decide) rfl rfl rfl (Nat.le_of_ble_eq_true rfl) (fun r1 h2 => ?_)
    refine x_aload_n C.1 dX8_way_16 rfl 0 rfl ?_
    refine x_get (v := .ref (xad G 30)) C.1 7 dX8_way_17 (xc_0 G h2) rfl (by decide) rfl (fun w h => List.mem_cons_of_mem _ (iWC_X8 w h)) (by decide) rfl (C.1.2.2.2.2.1 _ (List.mem_cons_of_mem _ qC_418)) ?_
    refine z_callVi C dX8_way_20 (M_X1_rows_30 G l N h2) (cwV 0 C.1.2.2.2.2.1 (gdV gWC qC_445 qC_446 qC_447 qC_32 qC_110) rfl rfl rfl (by decide +kernel) ⟨Nat.le_of_ble_eq_true rfl, Nat.le_of_ble_eq_true rfl⟩) (xc_30 G h2) (by decide) rfl rfl rfl (Nat.le_of_ble_eq_true rfl) (fun r3 h4 => ?_)
    refine x_istore_n (lv' := [(2, .int r3), (0, .ref (xad G 0)), (1, .int p1)]) C.1 dX8_way_23 rfl (by decide) rfl ?_
    refine x_iload_n C.1 dX8_way_24 rfl 2 rfl ?_
    refine x_iconst (v := 0) C.1 dX8_way_25 (by decide) ?_
    refine x_mmax C.1 dX8_way_26 (C.1.2.2.2.2.1 _ (List.mem_cons_of_mem _ qC_443)) (C.1.2.2.2.2.1 _ (List.mem_cons_of_mem _ qC_23)) (C.1.2.2.2.2.1 _ (List.mem_cons_of_mem _ qC_20)) (C.1.2.2.2.2.1 _ (List.mem_cons_of_mem _ qC_24)) (by decide) (by decide) ?_
    refine x_istore_n (lv' := [(3, .int (if (p1 : Int32) < 0 then 0 else p1)), (2, .int r3), (0, .ref (xad G 0)), (1, .int p1)]) C.1 dX8_way_29 rfl (by decide) rfl ?_
    exact x_sub [2, 1, 0] rfl (T_X8_way_30 C hr r3 (if (p1 : Int32) < 0 then 0 else p1) h4)
/-! X6_append_28: 26 instructions -/
abbrev J_X6_append_28 (G : xG) (p : Program) (l : Launch) (e : Env) (s : State) (m : MethodId) (args : Array Value) (below : List Frame) (meth : Method) (c : Code) : Nat → List (Nat × Value) → List Value → xHp → Option (Int32 × xHp) → Prop := xJ G p l e ({ frames := 0, cells := 0, slots := 0, locals := 0 } : Room) s m args below meth c 2 (fun res => MQ below (xQi G res) args s 0 0 (xA G))
def F_X6_append_28_19 (N : Nat) (h : xHp) : Option (Int32 × xHp) := some (0, h)
def F_X6_append_28 (N : Nat) (p1 : Int32) (h : xHp) : Option (Int32 × xHp) := if (gI h 28 1) < 0 then F_X6_append_28_19 N h else if (gI h 28 1) < 6000 then grd (xin (gI h 28 1) 6000) (bnd (sI h 29 (gI h 28 1).toNatClampNeg (vp_nar .byte p1.toInt8.toInt32)) fun h1 => bnd (sI h1 28 1 ((gI h1 28 1) + 1)) fun h2 => some (1, h2)) else F_X6_append_28_19 N h
set_option maxHeartbeats 4000000 in
set_option maxRecDepth 100000 in
theorem T_X6_append_28_19 {G : xG} {p : Program} {l : Launch} {e : Env} {s : State} {m : MethodId} {args : Array Value} {below : List Frame} {meth : Method} {c : Code} {N : Nat} (C : xCz G p s m args meth c cX6_append 2 vX6_append RX6) (hr : meth.sig.returnType = (some .boolean)) (h : xHp) : J_X6_append_28 G p l e s m args below meth c 19 [] [] h (F_X6_append_28_19 N h) := by
  unfold F_X6_append_28_19
  refine x_iconst (v := 0) C.1 dX6_append_19 (by decide) ?_
  exact x_zretL C.1 dX6_append_20 hr rfl
set_option maxHeartbeats 4000000 in
set_option maxRecDepth 100000 in
theorem M_X6_append_28 (G : xG) (l : Launch) (N : Nat) (p1 : Int32) (h : xHp) : ∀ r, F_X6_append_28 N p1 h = some r → Met l yX6_append vX6_append ({ frames := 0, cells := 0, slots := 0, locals := 0 } : Room) (xPz G [.ref (xad G 28), .int p1] h) (xQi G r) 0 0 (xA G) := by
  refine z_met (own := RX6) (cc := cX6_append) (maxL := 2) (ret := (some .boolean)) (lv0 := [(0, .ref (xad G 28)), (1, .int p1)]) (by decide +kernel) rfl rfl (Nat.le_of_ble_eq_true rfl) rfl ?_
  intro p e s m below meth c C hr
  unfold F_X6_append_28
  refine x_aload_n C.1 dX6_append_0 rfl 0 rfl ?_
  refine x_get (v := .int (gI h 28 1)) C.1 1 dX6_append_1 (xc_28 G h) rfl (by decide) rfl (fun w h => List.mem_cons_of_mem _ (iWC_X6 w h)) (by decide) rfl (C.1.2.2.2.2.1 _ (List.mem_cons_of_mem _ qC_8)) ?_
  refine x_if_lt (tgt := 19) C.1 dX6_append_4 (by decide) ?_ ?_
  · exact x_sub [] rfl (T_X6_append_28_19 C hr h)
  · refine x_aload_n C.1 dX6_append_7 rfl 0 rfl ?_
    refine x_get (v := .int (gI h 28 1)) C.1 1 dX6_append_8 (xc_28 G h) rfl (by decide) rfl (fun w h => List.mem_cons_of_mem _ (iWC_X6 w h)) (by decide) rfl (C.1.2.2.2.2.1 _ (List.mem_cons_of_mem _ qC_8)) ?_
    refine x_aload_n C.1 dX6_append_11 rfl 0 rfl ?_
    refine x_get (v := .ref (xad G 29)) C.1 0 dX6_append_12 (xc_28 G h) rfl (by decide) rfl (fun w h => List.mem_cons_of_mem _ (iWC_X6 w h)) (by decide) rfl (C.1.2.2.2.2.1 _ (List.mem_cons_of_mem _ qC_9)) ?_
    refine x_alen (v := 6000) (t0 := 0) C.1 dX6_append_15 (xc_29 G h) rfl rfl (by decide) ?_
    refine x_icmp_lt (tgt := 21) C.1 dX6_append_16 (by decide) ?_ ?_
    · refine x_aload_n C.1 dX6_append_21 rfl 0 rfl ?_
      refine x_get (v := .ref (xad G 29)) C.1 0 dX6_append_22 (xc_28 G h) rfl (by decide) rfl (fun w h => List.mem_cons_of_mem _ (iWC_X6 w h)) (by decide) rfl (C.1.2.2.2.2.1 _ (List.mem_cons_of_mem _ qC_9)) ?_
      refine x_aload_n C.1 dX6_append_25 rfl 0 rfl ?_
      refine x_get (v := .int (gI h 28 1)) C.1 1 dX6_append_26 (xc_28 G h) rfl (by decide) rfl (fun w h => List.mem_cons_of_mem _ (iWC_X6 w h)) (by decide) rfl (C.1.2.2.2.2.1 _ (List.mem_cons_of_mem _ qC_8)) ?_
      refine x_iload_n C.1 dX6_append_29 rfl 1 rfl ?_
      refine x_i2b C.1 dX6_append_30 ?_
      refine x_bast (n := 6000) C.1 dX6_append_31 (fun g => xp_29 G g _ _) (by decide) (fun h1 => ?_)
      refine x_aload_n C.1 dX6_append_32 rfl 0 rfl ?_
      refine x_dup C.1 dX6_append_33 rfl ?_
      refine x_get (v := .int (gI h1 28 1)) C.1 1 dX6_append_34 (xc_28 G h1) rfl (by decide) rfl (fun w h => List.mem_cons_of_mem _ (iWC_X6 w h)) (by decide) rfl (C.1.2.2.2.2.1 _ (List.mem_cons_of_mem _ qC_8)) ?_
      refine x_iconst (v := 1) C.1 dX6_append_37 (by decide) ?_
      refine x_iadd C.1 dX6_append_38 ?_
      refine x_putI (ty0 := tyX6) (ty := .int) C.1 1 dX6_append_39 (xc_28 G h1) rfl (Nat.le_of_ble_eq_true rfl) (by decide) rfl (fun w h => List.mem_cons_of_mem _ (iWC_X6 w h)) tyX6_ok nmX6 (by decide) rfl rfl (by decide +kernel) rfl rfl (C.1.2.2.2.2.1 _ (List.mem_cons_of_mem _ qC_8)) (fun h2 => ?_)
      refine x_iconst (v := 1) C.1 dX6_append_42 (by decide) ?_
      exact x_zretL C.1 dX6_append_43 hr rfl
    · exact x_sub [] rfl (T_X6_append_28_19 C hr h)
/-! X7_put: 9 instructions -/
abbrev J_X7_put (G : xG) (p : Program) (l : Launch) (e : Env) (s : State) (m : MethodId) (args : Array Value) (below : List Frame) (meth : Method) (c : Code) : Nat → List (Nat × Value) → List Value → xHp → Option (Unit × xHp) → Prop := xJ G p l e ({ frames := 1, cells := 0, slots := 0, locals := 21 } : Room) s m args below meth c 2 (fun res => MQ below (xQv G res) args s 0 0 (xA G))
def F_X7_put (N : Nat) (p1 : Int32) (h : xHp) : Option (Unit × xHp) := bnd2 (F_X6_append_28 N p1 h) fun r1 h2 => if r1 = 0 then bnd (sI h2 49 4 1) fun h3 => some ((), h3) else some ((), h2)
set_option maxHeartbeats 4000000 in
set_option maxRecDepth 100000 in
theorem M_X7_put (G : xG) (l : Launch) (N : Nat) (p1 : Int32) (h : xHp) : ∀ r, F_X7_put N p1 h = some r → Met l yX7_put vX7_put ({ frames := 1, cells := 0, slots := 0, locals := 21 } : Room) (xPz G [.ref (xad G 49), .int p1] h) (xQv G r) 0 0 (xA G) := by
  refine z_met (own := RX7) (cc := cX7_put) (maxL := 2) (ret := none) (lv0 := [(0, .ref (xad G 49)), (1, .int p1)]) (by decide +kernel) rfl rfl (Nat.le_of_ble_eq_true rfl) rfl ?_
  intro p e s m below meth c C hr
  unfold F_X7_put
  refine x_aload_n C.1 dX7_put_0 rfl 0 rfl ?_
  refine x_get (v := .ref (xad G 28)) C.1 2 dX7_put_1 (xc_49 G h) rfl (by decide) rfl (fun w h => List.mem_cons_of_mem _ (iWC_X7 w h)) (by decide) rfl (C.1.2.2.2.2.1 _ (List.mem_cons_of_mem _ qC_317)) ?_
  refine x_iload_n C.1 dX7_put_4 rfl 1 rfl ?_
  refine z_callVi C dX7_put_5 (M_X6_append_28 G l N p1 h) (cwV 1 C.1.2.2.2.2.1 (gdV gWC qC_319 qC_320 qC_321 qC_16 qC_314) rfl rfl rfl (by decide +kernel) ⟨Nat.le_of_ble_eq_true rfl, Nat.le_of_ble_eq_true rfl⟩) (xc_28 G h) (by decide) rfl rfl rfl (Nat.le_of_ble_eq_true rfl) (fun r1 h2 => ?_)
  refine x_if_ne (tgt := 16) C.1 dX7_put_8 (by decide) ?_ ?_
  · refine x_aload_n C.1 dX7_put_11 rfl 0 rfl ?_
    refine x_iconst (v := 1) C.1 dX7_put_12 (by decide) ?_
    refine x_putI (ty0 := tyX7) (ty := .boolean) C.1 4 dX7_put_13 (xc_49 G h2) rfl (Nat.le_of_ble_eq_true rfl) (by decide) rfl (fun w h => List.mem_cons_of_mem _ (iWC_X7 w h)) tyX7_ok nmX7 (by decide) rfl rfl (by decide +kernel) rfl rfl (C.1.2.2.2.2.1 _ (List.mem_cons_of_mem _ qC_318)) (fun h3 => ?_)
    exact x_vret C.1 dX7_put_16 hr
  · exact x_vret C.1 dX7_put_16 hr
/-! X7_writeItem: 37 instructions -/
abbrev J_X7_writeItem (G : xG) (p : Program) (l : Launch) (e : Env) (s : State) (m : MethodId) (args : Array Value) (below : List Frame) (meth : Method) (c : Code) : Nat → List (Nat × Value) → List Value → xHp → Option (Unit × xHp) → Prop := xJ G p l e ({ frames := 2, cells := 0, slots := 0, locals := 42 } : Room) s m args below meth c 2 (fun res => MQ below (xQv G res) args s 0 0 (xA G))
def F_X7_writeItem_45 (N : Nat) (x1 : Int32) (h : xHp) : Option (Unit × xHp) := bnd2 (F_X7_put N (48 + (x1 - x1 / 10 * 10)) h) fun r1 h2 => bnd2 (F_X7_put N 93 h2) fun r3 h4 => some ((), h4)
def F_X7_writeItem (N : Nat) (p1 : Int32) (h : xHp) : Option (Unit × xHp) := if p1 < (gI h 49 3) then bnd2 (F_X7_put N 91 h) fun r1 h2 => if p1 < 10 then F_X7_writeItem_45 N p1 h2 else bnd2 (F_X7_put N (48 + (p1 / 10)) h2) fun r3 h4 => F_X7_writeItem_45 N p1 h4 else bnd2 (F_X7_put N ((48 + p1) - (gI h 49 3)) h) fun r5 h6 => some ((), h6)
set_option maxHeartbeats 4000000 in
set_option maxRecDepth 100000 in
theorem T_X7_writeItem_45 {G : xG} {p : Program} {l : Launch} {e : Env} {s : State} {m : MethodId} {args : Array Value} {below : List Frame} {meth : Method} {c : Code} {N : Nat} (C : xCz G p s m args meth c cX7_writeItem 2 vX7_writeItem RX7) (hr : meth.sig.returnType = none) (x1 : Int32) (h : xHp) : J_X7_writeItem G p l e s m args below meth c 45 [(0, .ref (xad G 49)), (1, .int x1)] [] h (F_X7_writeItem_45 N x1 h) := by
  unfold F_X7_writeItem_45
  refine x_aload_n C.1 dX7_writeItem_45 rfl 0 rfl ?_
  refine x_bipush (v := 48) C.1 dX7_writeItem_46 (by decide) ?_
  refine x_iload_n C.1 dX7_writeItem_48 rfl 1 rfl ?_
  refine x_bipush (v := 10) C.1 dX7_writeItem_49 (by decide) ?_
  refine x_irem C.1 dX7_writeItem_51 (by decide) ?_
  refine x_iadd C.1 dX7_writeItem_52 ?_
  refine z_callVv C dX7_writeItem_53 (M_X7_put G l N (48 + (x1 - x1 / 10 * 10)) h) (cwV 1 C.1.2.2.2.2.1 (gdV gWC qC_324 qC_325 qC_326 qC_327 qC_316) rfl rfl rfl (by decide +kernel) ⟨Nat.le_of_ble_eq_true rfl, Nat.le_of_ble_eq_true rfl⟩) (xc_49 G h) (by decide) rfl rfl rfl (Nat.le_of_ble_eq_true rfl) (fun r1 h2 => ?_)
  refine x_aload_n C.1 dX7_writeItem_56 rfl 0 rfl ?_
  refine x_bipush (v := 93) C.1 dX7_writeItem_57 (by decide) ?_
  refine z_callVv C dX7_writeItem_59 (M_X7_put G l N 93 h2) (cwV 1 C.1.2.2.2.2.1 (gdV gWC qC_324 qC_325 qC_326 qC_327 qC_316) rfl rfl rfl (by decide +kernel) ⟨Nat.le_of_ble_eq_true rfl, Nat.le_of_ble_eq_true rfl⟩) (xc_49 G h2) (by decide) rfl rfl rfl (Nat.le_of_ble_eq_true rfl) (fun r3 h4 => ?_)
  exact x_vret C.1 dX7_writeItem_62 hr
set_option maxHeartbeats 4000000 in
set_option maxRecDepth 100000 in
theorem M_X7_writeItem (G : xG) (l : Launch) (N : Nat) (p1 : Int32) (h : xHp) : ∀ r, F_X7_writeItem N p1 h = some r → Met l yX7_writeItem vX7_writeItem ({ frames := 2, cells := 0, slots := 0, locals := 42 } : Room) (xPz G [.ref (xad G 49), .int p1] h) (xQv G r) 0 0 (xA G) := by
  refine z_met (own := RX7) (cc := cX7_writeItem) (maxL := 2) (ret := none) (lv0 := [(0, .ref (xad G 49)), (1, .int p1)]) (by decide +kernel) rfl rfl (Nat.le_of_ble_eq_true rfl) rfl ?_
  intro p e s m below meth c C hr
  unfold F_X7_writeItem
  refine x_iload_n C.1 dX7_writeItem_0 rfl 1 rfl ?_
  refine x_aload_n C.1 dX7_writeItem_1 rfl 0 rfl ?_
  refine x_get (v := .int (gI h 49 3)) C.1 3 dX7_writeItem_2 (xc_49 G h) rfl (by decide) rfl (fun w h => List.mem_cons_of_mem _ (iWC_X7 w h)) (by decide) rfl (C.1.2.2.2.2.1 _ (List.mem_cons_of_mem _ qC_323)) ?_
  refine x_icmp_lt (tgt := 22) C.1 dX7_writeItem_5 (by decide) ?_ ?_
  · refine x_aload_n C.1 dX7_writeItem_22 rfl 0 rfl ?_
    refine x_bipush (v := 91) C.1 dX7_writeItem_23 (by decide) ?_
    refine z_callVv C dX7_writeItem_25 (M_X7_put G l N 91 h) (cwV 1 C.1.2.2.2.2.1 (gdV gWC qC_324 qC_325 qC_326 qC_327 qC_316) rfl rfl rfl (by decide +kernel) ⟨Nat.le_of_ble_eq_true rfl, Nat.le_of_ble_eq_true rfl⟩) (xc_49 G h) (by decide) rfl rfl rfl (Nat.le_of_ble_eq_true rfl) (fun r1 h2 => ?_)
    refine x_iload_n C.1 dX7_writeItem_28 rfl 1 rfl ?_
    refine x_bipush (v := 10) C.1 dX7_writeItem_29 (by decide) ?_
    refine x_icmp_lt (tgt := 45) C.1 dX7_writeItem_31 (by decide) ?_ ?_
    · exact x_sub [0, 1] rfl (T_X7_writeItem_45 C hr p1 h2)
    · refine x_aload_n C.1 dX7_writeItem_34 rfl 0 rfl ?_
      refine x_bipush (v := 48) C.1 dX7_writeItem_35 (by decide) ?_
      refine x_iload_n C.1 dX7_writeItem_37 rfl 1 rfl ?_
      refine x_bipush (v := 10) C.1 dX7_writeItem_38 (by decide) ?_
      refine x_idiv C.1 dX7_writeItem_40 (by decide) ?_
      refine x_iadd C.1 dX7_writeItem_41 ?_
      refine z_callVv C dX7_writeItem_42 (M_X7_put G l N (48 + (p1 / 10)) h2) (cwV 1 C.1.2.2.2.2.1 (gdV gWC qC_324 qC_325 qC_326 qC_327 qC_316) rfl rfl rfl (by decide +kernel) ⟨Nat.le_of_ble_eq_true rfl, Nat.le_of_ble_eq_true rfl⟩) (xc_49 G h2) (by decide) rfl rfl rfl (Nat.le_of_ble_eq_true rfl) (fun r3 h4 => ?_)
      exact x_sub [0, 1] rfl (T_X7_writeItem_45 C hr p1 h4)
  · refine x_aload_n C.1 dX7_writeItem_8 rfl 0 rfl ?_
    refine x_bipush (v := 48) C.1 dX7_writeItem_9 (by decide) ?_
    refine x_iload_n C.1 dX7_writeItem_11 rfl 1 rfl ?_
    refine x_iadd C.1 dX7_writeItem_12 ?_
    refine x_aload_n C.1 dX7_writeItem_13 rfl 0 rfl ?_
    refine x_get (v := .int (gI h 49 3)) C.1 3 dX7_writeItem_14 (xc_49 G h) rfl (by decide) rfl (fun w h => List.mem_cons_of_mem _ (iWC_X7 w h)) (by decide) rfl (C.1.2.2.2.2.1 _ (List.mem_cons_of_mem _ qC_323)) ?_
    refine x_isub C.1 dX7_writeItem_17 ?_
    refine z_callVv C dX7_writeItem_18 (M_X7_put G l N ((48 + p1) - (gI h 49 3)) h) (cwV 1 C.1.2.2.2.2.1 (gdV gWC qC_324 qC_325 qC_326 qC_327 qC_316) rfl rfl rfl (by decide +kernel) ⟨Nat.le_of_ble_eq_true rfl, Nat.le_of_ble_eq_true rfl⟩) (xc_49 G h) (by decide) rfl rfl rfl (Nat.le_of_ble_eq_true rfl) (fun r5 h6 => ?_)
    exact x_vret C.1 dX7_writeItem_21 hr
/-! X7_writeRound: 28 instructions -/
abbrev J_X7_writeRound (G : xG) (p : Program) (l : Launch) (e : Env) (s : State) (m : MethodId) (args : Array Value) (below : List Frame) (meth : Method) (c : Code) : Nat → List (Nat × Value) → List Value → xHp → Option (Unit × xHp) → Prop := xJ G p l e ({ frames := 3, cells := 0, slots := 0, locals := 63 } : Room) s m args below meth c 3 (fun res => MQ below (xQv G res) args s 0 0 (xA G))
def F_X7_writeRound_16_b (N : Nat) (k16 : Int32 → xHp → Option (Unit × xHp)) (x2 : Int32) (h : xHp) : Option (Unit × xHp) := if (gI h 1 5) ≤ x2 then bnd2 (F_X7_put N 59 h) fun r1 h2 => some ((), h2) else grd (xin x2 16) (bnd2 (F_X7_writeItem N (gI h 5 x2.toNatClampNeg) h) fun r3 h4 => k16 (x2 + 1) h4)
def F_X7_writeRound_16 (N : Nat) (x2 : Int32) (h : xHp) : Option (Unit × xHp) := xit (F_X7_writeRound_16_b N) (fun _ _ => none) N x2 h
def F_X7_writeRound (N : Nat) (p1 : Int32) (h : xHp) : Option (Unit × xHp) := bnd2 (F_X7_put N 33 h) fun r1 h2 => bnd2 (F_X7_put N (48 + p1) h2) fun r3 h4 => F_X7_writeRound_16 N 0 h4
set_option maxHeartbeats 4000000 in
set_option maxRecDepth 100000 in
theorem T_X7_writeRound_16_b {G : xG} {p : Program} {l : Launch} {e : Env} {s : State} {m : MethodId} {args : Array Value} {below : List Frame} {meth : Method} {c : Code} {N : Nat} (C : xCz G p s m args meth c cX7_writeRound 3 vX7_writeRound RX7) (hr : meth.sig.returnType = none) {k16 : Int32 → xHp → Option (Unit × xHp)} (hk16 : ∀ (x2 : Int32) (h : xHp), J_X7_writeRound G p l e s m args below meth c 16 [(0, .ref (xad G 49)), (2, .int x2)] [] h (k16 x2 h)) (x2 : Int32) (h : xHp) : J_X7_writeRound G p l e s m args below meth c 16 [(0, .ref (xad G 49)), (2, .int x2)] [] h (F_X7_writeRound_16_b N k16 x2 h) := by
  unfold F_X7_writeRound_16_b
  refine x_iload_n C.1 dX7_writeRound_16 rfl 1 rfl ?_
  refine x_aload_n C.1 dX7_writeRound_17 rfl 0 rfl ?_
  refine x_get (v := .ref (xad G 1)) C.1 1 dX7_writeRound_18 (xc_49 G h) rfl (by decide) rfl (fun w h => List.mem_cons_of_mem _ (iWC_X7 w h)) (by decide) rfl (C.1.2.2.2.2.1 _ (List.mem_cons_of_mem _ qC_329)) ?_
  refine x_get (v := .int (gI h 1 5)) C.1 5 dX7_writeRound_21 (xc_1 G h) rfl (by decide) rfl (fun w h => List.mem_cons_of_mem _ (iWC_X2 w h)) (by decide) rfl (C.1.2.2.2.2.1 _ (List.mem_cons_of_mem _ qC_330)) ?_
  refine x_icmp_ge (tgt := 46) C.1 dX7_writeRound_24 (by decide) ?_ ?_
  · refine x_aload_n C.1 dX7_writeRound_46 rfl 0 rfl ?_
    refine x_bipush (v := 59) C.1 dX7_writeRound_47 (by decide) ?_
    refine z_callVv C dX7_writeRound_49 (M_X7_put G l N 59 h) (cwV 1 C.1.2.2.2.2.1 (gdV gWC qC_324 qC_325 qC_326 qC_327 qC_316) rfl rfl rfl (by decide +kernel) ⟨Nat.le_of_ble_eq_true rfl, Nat.le_of_ble_eq_true rfl⟩) (xc_49 G h) (by decide) rfl rfl rfl (Nat.le_of_ble_eq_true rfl) (fun r1 h2 => ?_)
    exact x_vret C.1 dX7_writeRound_52 hr
  · refine x_aload_n C.1 dX7_writeRound_27 rfl 0 rfl ?_
    refine x_aload_n C.1 dX7_writeRound_28 rfl 0 rfl ?_
    refine x_get (v := .ref (xad G 1)) C.1 1 dX7_writeRound_29 (xc_49 G h) rfl (by decide) rfl (fun w h => List.mem_cons_of_mem _ (iWC_X7 w h)) (by decide) rfl (C.1.2.2.2.2.1 _ (List.mem_cons_of_mem _ qC_329)) ?_
    refine x_get (v := .ref (xad G 5)) C.1 4 dX7_writeRound_32 (xc_1 G h) rfl (by decide) rfl (fun w h => List.mem_cons_of_mem _ (iWC_X2 w h)) (by decide) rfl (C.1.2.2.2.2.1 _ (List.mem_cons_of_mem _ qC_331)) ?_
    refine x_iload_n C.1 dX7_writeRound_35 rfl 1 rfl ?_
    refine x_iald (n := 16) C.1 dX7_writeRound_36 (xc_5 G h) (by decide) ?_
    refine z_callVv C dX7_writeRound_37 (M_X7_writeItem G l N (gI h 5 x2.toNatClampNeg) h) (cwV 1 C.1.2.2.2.2.1 (gdV gWC qC_332 qC_333 qC_334 qC_327 qC_322) rfl rfl rfl (by decide +kernel) ⟨Nat.le_of_ble_eq_true rfl, Nat.le_of_ble_eq_true rfl⟩) (xc_49 G h) (by decide) rfl rfl rfl (Nat.le_of_ble_eq_true rfl) (fun r3 h4 => ?_)
    refine x_iinc (v := (x2 + 1)) (j := 1) (lv' := [(2, .int (x2 + 1)), (0, .ref (xad G 49))]) C.1 dX7_writeRound_40 rfl (by rfl) (by decide) rfl ?_
    refine x_goto (tgt := 16) C.1 dX7_writeRound_43 (by decide) ?_
    exact x_sub [1, 0] rfl (hk16 (x2 + 1) h4)
set_option maxHeartbeats 4000000 in
set_option maxRecDepth 100000 in
theorem T_X7_writeRound_16_n {G : xG} {p : Program} {l : Launch} {e : Env} {s : State} {m : MethodId} {args : Array Value} {below : List Frame} {meth : Method} {c : Code} {N : Nat} (C : xCz G p s m args meth c cX7_writeRound 3 vX7_writeRound RX7) (hr : meth.sig.returnType = none) : ∀ (n : Nat) (x2 : Int32) (h : xHp), J_X7_writeRound G p l e s m args below meth c 16 [(0, .ref (xad G 49)), (2, .int x2)] [] h (xit (F_X7_writeRound_16_b N) (fun _ _ => none) n x2 h) := by
  intro n
  induction n with
  | zero => intros; exact x_none
  | succ n ih => intros; exact T_X7_writeRound_16_b C hr ih _ _
set_option maxHeartbeats 4000000 in
set_option maxRecDepth 100000 in
theorem T_X7_writeRound_16 {G : xG} {p : Program} {l : Launch} {e : Env} {s : State} {m : MethodId} {args : Array Value} {below : List Frame} {meth : Method} {c : Code} {N : Nat} (C : xCz G p s m args meth c cX7_writeRound 3 vX7_writeRound RX7) (hr : meth.sig.returnType = none) (x2 : Int32) (h : xHp) : J_X7_writeRound G p l e s m args below meth c 16 [(0, .ref (xad G 49)), (2, .int x2)] [] h (F_X7_writeRound_16 N x2 h) := T_X7_writeRound_16_n C hr N x2 h
set_option maxHeartbeats 4000000 in
set_option maxRecDepth 100000 in
theorem M_X7_writeRound (G : xG) (l : Launch) (N : Nat) (p1 : Int32) (h : xHp) : ∀ r, F_X7_writeRound N p1 h = some r → Met l yX7_writeRound vX7_writeRound ({ frames := 3, cells := 0, slots := 0, locals := 63 } : Room) (xPz G [.ref (xad G 49), .int p1] h) (xQv G r) 0 0 (xA G) := by
  refine z_met (own := RX7) (cc := cX7_writeRound) (maxL := 3) (ret := none) (lv0 := [(0, .ref (xad G 49)), (1, .int p1)]) (by decide +kernel) rfl rfl (Nat.le_of_ble_eq_true rfl) rfl ?_
  intro p e s m below meth c C hr
  unfold F_X7_writeRound
  refine x_aload_n C.1 dX7_writeRound_0 rfl 0 rfl ?_
  refine x_bipush (v := 33) C.1 dX7_writeRound_1 (by decide) ?_
  refine z_callVv C dX7_writeRound_3 (M_X7_put G l N 33 h) (cwV 1 C.1.2.2.2.2.1 (gdV gWC qC_324 qC_325 qC_326 qC_327 qC_316) rfl rfl rfl (by decide +kernel) ⟨Nat.le_of_ble_eq_true rfl, Nat.le_of_ble_eq_true rfl⟩) (xc_49 G h) (by decide) rfl rfl rfl (Nat.le_of_ble_eq_true rfl) (fun r1 h2 => ?_)
  refine x_aload_n C.1 dX7_writeRound_6 rfl 0 rfl ?_
  refine x_bipush (v := 48) C.1 dX7_writeRound_7 (by decide) ?_
  refine x_iload_n C.1 dX7_writeRound_9 rfl 1 rfl ?_
  refine x_iadd C.1 dX7_writeRound_10 ?_
  refine z_callVv C dX7_writeRound_11 (M_X7_put G l N (48 + p1) h2) (cwV 1 C.1.2.2.2.2.1 (gdV gWC qC_324 qC_325 qC_326 qC_327 qC_316) rfl rfl rfl (by decide +kernel) ⟨Nat.le_of_ble_eq_true rfl, Nat.le_of_ble_eq_true rfl⟩) (xc_49 G h2) (by decide) rfl rfl rfl (Nat.le_of_ble_eq_true rfl) (fun r3 h4 => ?_)
  refine x_iconst (v := 0) C.1 dX7_writeRound_14 (by decide) ?_
  refine x_istore_n (lv' := [(2, .int 0), (0, .ref (xad G 49)), (1, .int p1)]) C.1 dX7_writeRound_15 rfl (by decide) rfl ?_
  exact x_sub [1, 0] rfl (T_X7_writeRound_16 C hr 0 h4)
/-! X7_writeBranches: 43 instructions -/
abbrev J_X7_writeBranches (d : Nat) (G : xG) (p : Program) (l : Launch) (e : Env) (s : State) (m : MethodId) (args : Array Value) (below : List Frame) (meth : Method) (c : Code) : Nat → List (Nat × Value) → List Value → xHp → Option (Unit × xHp) → Prop := xJ G p l e ({ frames := 4 + 2 * d + 1, cells := 0, slots := 0, locals := 152 + 43 * d + 22 } : Room) s m args below meth c 2 (fun res => MQ below (xQv G res) args s 0 0 (xA G))
def F_X7_writeBranches (N : Nat) (rA : Int32 → xHp → Option (Unit × xHp)) (p1 : Int32) (h : xHp) : Option (Unit × xHp) := bnd2 (F_X7_put N (48 + p1) h) fun r1 h2 => bnd2 (F_X7_put N 40 h2) fun r3 h4 => grd (xin p1 10) (bnd (sI h4 34 p1.toNatClampNeg 0) fun h5 => bnd2 (rA (p1 + 1) h5) fun r6 h7 => bnd2 (F_X7_put N 44 h7) fun r8 h9 => grd (xin p1 10) (bnd (sI h9 34 p1.toNatClampNeg 2) fun h10 => bnd2 (rA (p1 + 1) h10) fun r11 h12 => grd (xin p1 10) (bnd (sI h12 34 p1.toNatClampNeg 1) fun h13 => bnd2 (F_X7_put N 41 h13) fun r14 h15 => some ((), h15))))
set_option maxHeartbeats 4000000 in
set_option maxRecDepth 100000 in
theorem M_X7_writeBranches (G : xG) (l : Launch) (N : Nat) {d : Nat} {rA : Int32 → xHp → Option (Unit × xHp)} (hA : ∀ (a0 : Int32) (h : xHp) (r : Unit × xHp), rA a0 h = some r → Met l yX7_writeTree vX7_writeTree ({ frames := 4 + 2 * d, cells := 0, slots := 0, locals := 152 + 43 * d } : Room) (xPz G [.ref (xad G 49), .int a0] h) (xQv G r) 0 0 (xA G)) (p1 : Int32) (h : xHp) : ∀ r, F_X7_writeBranches N rA p1 h = some r → Met l yX7_writeBranches vX7_writeBranches ({ frames := 4 + 2 * d + 1, cells := 0, slots := 0, locals := 152 + 43 * d + 22 } : Room) (xPz G [.ref (xad G 49), .int p1] h) (xQv G r) 0 0 (xA G) := by
  refine z_met (own := RX7) (cc := cX7_writeBranches) (maxL := 2) (ret := none) (lv0 := [(0, .ref (xad G 49)), (1, .int p1)]) (by decide +kernel) rfl rfl (Nat.le_of_ble_eq_true rfl) rfl ?_
  intro p e s m below meth c C hr
  unfold F_X7_writeBranches
  refine x_aload_n C.1 dX7_writeBranches_0 rfl 0 rfl ?_
  refine x_bipush (v := 48) C.1 dX7_writeBranches_1 (by decide) ?_
  refine x_iload_n C.1 dX7_writeBranches_3 rfl 1 rfl ?_
  refine x_iadd C.1 dX7_writeBranches_4 ?_
  refine z_callVv C dX7_writeBranches_5 (M_X7_put G l N (48 + p1) h) (cwV 1 C.1.2.2.2.2.1 (gdV gWC qC_324 qC_325 qC_326 qC_327 qC_316) rfl rfl rfl (by decide +kernel) ⟨by dsimp only; omega, by dsimp only; omega⟩) (xc_49 G h) (by decide) rfl rfl rfl (Nat.le_of_ble_eq_true rfl) (fun r1 h2 => ?_)
  refine x_aload_n C.1 dX7_writeBranches_8 rfl 0 rfl ?_
  refine x_bipush (v := 40) C.1 dX7_writeBranches_9 (by decide) ?_
  refine z_callVv C dX7_writeBranches_11 (M_X7_put G l N 40 h2) (cwV 1 C.1.2.2.2.2.1 (gdV gWC qC_324 qC_325 qC_326 qC_327 qC_316) rfl rfl rfl (by decide +kernel) ⟨by dsimp only; omega, by dsimp only; omega⟩) (xc_49 G h2) (by decide) rfl rfl rfl (Nat.le_of_ble_eq_true rfl) (fun r3 h4 => ?_)
  refine x_aload_n C.1 dX7_writeBranches_14 rfl 0 rfl ?_
  refine x_get (v := .ref (xad G 30)) C.1 0 dX7_writeBranches_15 (xc_49 G h4) rfl (by decide) rfl (fun w h => List.mem_cons_of_mem _ (iWC_X7 w h)) (by decide) rfl (C.1.2.2.2.2.1 _ (List.mem_cons_of_mem _ qC_335)) ?_
  refine x_get (v := .ref (xad G 34)) C.1 4 dX7_writeBranches_18 (xc_30 G h4) rfl (by decide) rfl (fun w h => List.mem_cons_of_mem _ (iWC_X1 w h)) (by decide) rfl (C.1.2.2.2.2.1 _ (List.mem_cons_of_mem _ qC_336)) ?_
  refine x_iload_n C.1 dX7_writeBranches_21 rfl 1 rfl ?_
  refine x_iconst (v := 0) C.1 dX7_writeBranches_22 (by decide) ?_
  refine x_iast (n := 10) C.1 dX7_writeBranches_23 (fun g => xp_34 G g _ _) (by decide) (fun h5 => ?_)
  refine x_aload_n C.1 dX7_writeBranches_24 rfl 0 rfl ?_
  refine x_iload_n C.1 dX7_writeBranches_25 rfl 1 rfl ?_
  refine x_iconst (v := 1) C.1 dX7_writeBranches_26 (by decide) ?_
  refine x_iadd C.1 dX7_writeBranches_27 ?_
  refine z_callVv C dX7_writeBranches_28 (hA (p1 + 1) h5) (cwV 1 C.1.2.2.2.2.1 (gdV gWC qC_337 qC_338 qC_339 qC_327 qC_340) rfl rfl rfl (by decide +kernel) ⟨by dsimp only; omega, by dsimp only; omega⟩) (xc_49 G h5) (by decide) rfl rfl rfl (Nat.le_of_ble_eq_true rfl) (fun r6 h7 => ?_)
  refine x_aload_n C.1 dX7_writeBranches_31 rfl 0 rfl ?_
  refine x_bipush (v := 44) C.1 dX7_writeBranches_32 (by decide) ?_
  refine z_callVv C dX7_writeBranches_34 (M_X7_put G l N 44 h7) (cwV 1 C.1.2.2.2.2.1 (gdV gWC qC_324 qC_325 qC_326 qC_327 qC_316) rfl rfl rfl (by decide +kernel) ⟨by dsimp only; omega, by dsimp only; omega⟩) (xc_49 G h7) (by decide) rfl rfl rfl (Nat.le_of_ble_eq_true rfl) (fun r8 h9 => ?_)
  refine x_aload_n C.1 dX7_writeBranches_37 rfl 0 rfl ?_
  refine x_get (v := .ref (xad G 30)) C.1 0 dX7_writeBranches_38 (xc_49 G h9) rfl (by decide) rfl (fun w h => List.mem_cons_of_mem _ (iWC_X7 w h)) (by decide) rfl (C.1.2.2.2.2.1 _ (List.mem_cons_of_mem _ qC_335)) ?_
  refine x_get (v := .ref (xad G 34)) C.1 4 dX7_writeBranches_41 (xc_30 G h9) rfl (by decide) rfl (fun w h => List.mem_cons_of_mem _ (iWC_X1 w h)) (by decide) rfl (C.1.2.2.2.2.1 _ (List.mem_cons_of_mem _ qC_336)) ?_
  refine x_iload_n C.1 dX7_writeBranches_44 rfl 1 rfl ?_
  refine x_iconst (v := 2) C.1 dX7_writeBranches_45 (by decide) ?_
  refine x_iast (n := 10) C.1 dX7_writeBranches_46 (fun g => xp_34 G g _ _) (by decide) (fun h10 => ?_)
  refine x_aload_n C.1 dX7_writeBranches_47 rfl 0 rfl ?_
  refine x_iload_n C.1 dX7_writeBranches_48 rfl 1 rfl ?_
  refine x_iconst (v := 1) C.1 dX7_writeBranches_49 (by decide) ?_
  refine x_iadd C.1 dX7_writeBranches_50 ?_
  refine z_callVv C dX7_writeBranches_51 (hA (p1 + 1) h10) (cwV 1 C.1.2.2.2.2.1 (gdV gWC qC_337 qC_338 qC_339 qC_327 qC_340) rfl rfl rfl (by decide +kernel) ⟨by dsimp only; omega, by dsimp only; omega⟩) (xc_49 G h10) (by decide) rfl rfl rfl (Nat.le_of_ble_eq_true rfl) (fun r11 h12 => ?_)
  refine x_aload_n C.1 dX7_writeBranches_54 rfl 0 rfl ?_
  refine x_get (v := .ref (xad G 30)) C.1 0 dX7_writeBranches_55 (xc_49 G h12) rfl (by decide) rfl (fun w h => List.mem_cons_of_mem _ (iWC_X7 w h)) (by decide) rfl (C.1.2.2.2.2.1 _ (List.mem_cons_of_mem _ qC_335)) ?_
  refine x_get (v := .ref (xad G 34)) C.1 4 dX7_writeBranches_58 (xc_30 G h12) rfl (by decide) rfl (fun w h => List.mem_cons_of_mem _ (iWC_X1 w h)) (by decide) rfl (C.1.2.2.2.2.1 _ (List.mem_cons_of_mem _ qC_336)) ?_
  refine x_iload_n C.1 dX7_writeBranches_61 rfl 1 rfl ?_
  refine x_iconst (v := 1) C.1 dX7_writeBranches_62 (by decide) ?_
  refine x_iast (n := 10) C.1 dX7_writeBranches_63 (fun g => xp_34 G g _ _) (by decide) (fun h13 => ?_)
  refine x_aload_n C.1 dX7_writeBranches_64 rfl 0 rfl ?_
  refine x_bipush (v := 41) C.1 dX7_writeBranches_65 (by decide) ?_
  refine z_callVv C dX7_writeBranches_67 (M_X7_put G l N 41 h13) (cwV 1 C.1.2.2.2.2.1 (gdV gWC qC_324 qC_325 qC_326 qC_327 qC_316) rfl rfl rfl (by decide +kernel) ⟨by dsimp only; omega, by dsimp only; omega⟩) (xc_49 G h13) (by decide) rfl rfl rfl (Nat.le_of_ble_eq_true rfl) (fun r14 h15 => ?_)
  exact x_vret C.1 dX7_writeBranches_70 hr
/-! X7_writeTree: 46 instructions -/
abbrev J_X7_writeTree (d : Nat) (G : xG) (p : Program) (l : Launch) (e : Env) (s : State) (m : MethodId) (args : Array Value) (below : List Frame) (meth : Method) (c : Code) : Nat → List (Nat × Value) → List Value → xHp → Option (Unit × xHp) → Prop := xJ G p l e ({ frames := 4 + 2 * (d + 1), cells := 0, slots := 0, locals := 152 + 43 * (d + 1) } : Room) s m args below meth c 3 (fun res => MQ below (xQv G res) args s 0 0 (xA G))
def F_X7_writeTree_82 (N : Nat) (rA : Int32 → xHp → Option (Unit × xHp)) (x2 : Int32) (h : xHp) : Option (Unit × xHp) := bnd2 (F_X2_cutTo N x2 h) fun r1 h2 => some ((), h2)
def F_X7_writeTree_66 (N : Nat) (rA : Int32 → xHp → Option (Unit × xHp)) (x1 : Int32) (x2 : Int32) (h : xHp) : Option (Unit × xHp) := if (gI h 30 3) ≤ x1 then F_X7_writeTree_82 N rA x2 h else bnd2 (F_X7_writeBranches N rA x1 h) fun r1 h2 => F_X7_writeTree_82 N rA x2 h2
def F_X7_writeTree_r (N : Nat) (rA : Int32 → xHp → Option (Unit × xHp)) (p1 : Int32) (h : xHp) : Option (Unit × xHp) := if (gI h 49 4) = 0 then bnd2 (F_X1_judge_30 N h) fun r1 h2 => if r1 = 0 then bnd2 (F_X7_put N 46 h2) fun r3 h4 => F_X7_writeTree_82 N rA (gI h 1 3) h4 else if p1 ≤ 0 then F_X7_writeTree_66 N rA p1 (gI h 1 3) h2 else bnd2 (F_X1_joins_30_1 N (p1 - 1) h2) fun r5 h6 => if r5 = 0 then bnd2 (F_X7_writeRound N (p1 - 1) h6) fun r7 h8 => F_X7_writeTree_82 N rA (gI h 1 3) h8 else F_X7_writeTree_66 N rA p1 (gI h 1 3) h6 else some ((), h)
def F_X7_writeTree (N d : Nat) (p1 : Int32) (h : xHp) : Option (Unit × xHp) := xit (F_X7_writeTree_r N) (fun _ _ => none) d p1 h
set_option maxHeartbeats 4000000 in
set_option maxRecDepth 100000 in
theorem T_X7_writeTree_82 {G : xG} {p : Program} {l : Launch} {e : Env} {s : State} {m : MethodId} {args : Array Value} {below : List Frame} {meth : Method} {c : Code} {N : Nat} (C : xCz G p s m args meth c cX7_writeTree 3 vX7_writeTree RX7) (hr : meth.sig.returnType = none) {d : Nat} {rA : Int32 → xHp → Option (Unit × xHp)} (hA : ∀ (a0 : Int32) (h : xHp) (r : Unit × xHp), rA a0 h = some r → Met l yX7_writeTree vX7_writeTree ({ frames := 4 + 2 * d, cells := 0, slots := 0, locals := 152 + 43 * d } : Room) (xPz G [.ref (xad G 49), .int a0] h) (xQv G r) 0 0 (xA G)) (x2 : Int32) (h : xHp) : J_X7_writeTree d G p l e s m args below meth c 82 [(0, .ref (xad G 49)), (2, .int x2)] [] h (F_X7_writeTree_82 N rA x2 h) := by
  unfold F_X7_writeTree_82
  refine x_aload_n C.1 dX7_writeTree_82 rfl 0 rfl ?_
  refine x_get (v := .ref (xad G 1)) C.1 1 dX7_writeTree_83 (xc_49 G h) rfl (by decide) rfl (fun w h => List.mem_cons_of_mem _ (iWC_X7 w h)) (by decide) rfl (C.1.2.2.2.2.1 _ (List.mem_cons_of_mem _ qC_329)) ?_
  refine x_iload_n C.1 dX7_writeTree_86 rfl 1 rfl ?_
  refine z_callVv C dX7_writeTree_87 (M_X2_cutTo G l N x2 h) (cwV 1 C.1.2.2.2.2.1 (gdV gWC qC_351 qC_306 qC_307 qC_144 qC_165) rfl rfl rfl (by decide +kernel) ⟨by dsimp only; omega, by dsimp only; omega⟩) (xc_1 G h) (by decide) rfl rfl rfl (Nat.le_of_ble_eq_true rfl) (fun r1 h2 => ?_)
  exact x_vret C.1 dX7_writeTree_90 hr
set_option maxHeartbeats 4000000 in
set_option maxRecDepth 100000 in
theorem T_X7_writeTree_66 {G : xG} {p : Program} {l : Launch} {e : Env} {s : State} {m : MethodId} {args : Array Value} {below : List Frame} {meth : Method} {c : Code} {N : Nat} (C : xCz G p s m args meth c cX7_writeTree 3 vX7_writeTree RX7) (hr : meth.sig.returnType = none) {d : Nat} {rA : Int32 → xHp → Option (Unit × xHp)} (hA : ∀ (a0 : Int32) (h : xHp) (r : Unit × xHp), rA a0 h = some r → Met l yX7_writeTree vX7_writeTree ({ frames := 4 + 2 * d, cells := 0, slots := 0, locals := 152 + 43 * d } : Room) (xPz G [.ref (xad G 49), .int a0] h) (xQv G r) 0 0 (xA G)) (x1 : Int32) (x2 : Int32) (h : xHp) : J_X7_writeTree d G p l e s m args below meth c 66 [(0, .ref (xad G 49)), (1, .int x1), (2, .int x2)] [] h (F_X7_writeTree_66 N rA x1 x2 h) := by
  unfold F_X7_writeTree_66
  refine x_iload_n C.1 dX7_writeTree_66 rfl 1 rfl ?_
  refine x_aload_n C.1 dX7_writeTree_67 rfl 0 rfl ?_
  refine x_get (v := .ref (xad G 30)) C.1 0 dX7_writeTree_68 (xc_49 G h) rfl (by decide) rfl (fun w h => List.mem_cons_of_mem _ (iWC_X7 w h)) (by decide) rfl (C.1.2.2.2.2.1 _ (List.mem_cons_of_mem _ qC_335)) ?_
  refine x_get (v := .int (gI h 30 3)) C.1 3 dX7_writeTree_71 (xc_30 G h) rfl (by decide) rfl (fun w h => List.mem_cons_of_mem _ (iWC_X1 w h)) (by decide) rfl (C.1.2.2.2.2.1 _ (List.mem_cons_of_mem _ qC_342)) ?_
  refine x_icmp_ge (tgt := 82) C.1 dX7_writeTree_74 (by decide) ?_ ?_
  · exact x_sub [0, 2] rfl (T_X7_writeTree_82 C hr hA x2 h)
  · refine x_aload_n C.1 dX7_writeTree_77 rfl 0 rfl ?_
    refine x_iload_n C.1 dX7_writeTree_78 rfl 1 rfl ?_
    refine z_callVv C dX7_writeTree_79 (M_X7_writeBranches G l N hA x1 h) (cwV 1 C.1.2.2.2.2.1 (gdV gWC qC_348 qC_349 qC_350 qC_327 qC_352) rfl rfl rfl (by decide +kernel) ⟨by dsimp only; omega, by dsimp only; omega⟩) (xc_49 G h) (by decide) rfl rfl rfl (Nat.le_of_ble_eq_true rfl) (fun r1 h2 => ?_)
    exact x_sub [0, 2] rfl (T_X7_writeTree_82 C hr hA x2 h2)
set_option maxHeartbeats 4000000 in
set_option maxRecDepth 100000 in
theorem M_X7_writeTree_r (G : xG) (l : Launch) (N : Nat) {d : Nat} {rA : Int32 → xHp → Option (Unit × xHp)} (hA : ∀ (a0 : Int32) (h : xHp) (r : Unit × xHp), rA a0 h = some r → Met l yX7_writeTree vX7_writeTree ({ frames := 4 + 2 * d, cells := 0, slots := 0, locals := 152 + 43 * d } : Room) (xPz G [.ref (xad G 49), .int a0] h) (xQv G r) 0 0 (xA G)) (p1 : Int32) (h : xHp) : ∀ r, F_X7_writeTree_r N rA p1 h = some r → Met l yX7_writeTree vX7_writeTree ({ frames := 4 + 2 * (d + 1), cells := 0, slots := 0, locals := 152 + 43 * (d + 1) } : Room) (xPz G [.ref (xad G 49), .int p1] h) (xQv G r) 0 0 (xA G) := by
  refine z_met (own := RX7) (cc := cX7_writeTree) (maxL := 3) (ret := none) (lv0 := [(0, .ref (xad G 49)), (1, .int p1)]) (by decide +kernel) rfl rfl (Nat.le_of_ble_eq_true rfl) rfl ?_
  intro p e s m below meth c C hr
  unfold F_X7_writeTree_r
  refine x_aload_n C.1 dX7_writeTree_0 rfl 0 rfl ?_
  refine x_get (v := .int (gI h 49 4)) C.1 4 dX7_writeTree_1 (xc_49 G h) rfl (by decide) rfl (fun w h => List.mem_cons_of_mem _ (iWC_X7 w h)) (by decide) rfl (C.1.2.2.2.2.1 _ (List.mem_cons_of_mem _ qC_318)) ?_
  refine x_if_eq (tgt := 8) C.1 dX7_writeTree_4 (by decide) ?_ ?_
  · refine x_aload_n C.1 dX7_writeTree_8 rfl 0 rfl ?_
    refine x_get (v := .ref (xad G 1)) C.1 1 dX7_writeTree_9 (xc_49 G h) rfl (by decide) rfl (fun w h => List.mem_cons_of_mem _ (iWC_X7 w h)) (by decide) rfl (C.1.2.2.2.2.1 _ (List.mem_cons_of_mem _ qC_329)) ?_
    refine x_get (v := .int (gI h 1 3)) C.1 3 dX7_writeTree_12 (xc_1 G h) rfl (by decide) rfl (fun w h => List.mem_cons_of_mem _ (iWC_X2 w h)) (by decide) rfl (C.1.2.2.2.2.1 _ (List.mem_cons_of_mem _ qC_341)) ?_
    refine x_istore_n (lv' := [(2, .int (gI h 1 3)), (0, .ref (xad G 49)), (1, .int p1)]) C.1 dX7_writeTree_15 rfl (by decide) rfl ?_
    refine x_aload_n C.1 dX7_writeTree_16 rfl 1 rfl ?_
    refine x_get (v := .ref (xad G 30)) C.1 0 dX7_writeTree_17 (xc_49 G h) rfl (by decide) rfl (fun w h => List.mem_cons_of_mem _ (iWC_X7 w h)) (by decide) rfl (C.1.2.2.2.2.1 _ (List.mem_cons_of_mem _ qC_335)) ?_
    refine z_callVi C dX7_writeTree_20 (M_X1_judge_30 G l N h) (cwV 0 C.1.2.2.2.2.1 (gdV gWC qC_343 qC_88 qC_89 qC_32 qC_26) rfl rfl rfl (by decide +kernel) ⟨by dsimp only; omega, by dsimp only; omega⟩) (xc_30 G h) (by decide) rfl rfl rfl (Nat.le_of_ble_eq_true rfl) (fun r1 h2 => ?_)
    refine x_if_ne (tgt := 35) C.1 dX7_writeTree_23 (by decide) ?_ ?_
    · refine x_aload_n C.1 dX7_writeTree_26 rfl 1 rfl ?_
      refine x_bipush (v := 46) C.1 dX7_writeTree_27 (by decide) ?_
      refine z_callVv C dX7_writeTree_29 (M_X7_put G l N 46 h2) (cwV 1 C.1.2.2.2.2.1 (gdV gWC qC_324 qC_325 qC_326 qC_327 qC_316) rfl rfl rfl (by decide +kernel) ⟨by dsimp only; omega, by dsimp only; omega⟩) (xc_49 G h2) (by decide) rfl rfl rfl (Nat.le_of_ble_eq_true rfl) (fun r3 h4 => ?_)
      refine x_goto (tgt := 82) C.1 dX7_writeTree_32 (by decide) ?_
      exact x_sub [1, 0] rfl (T_X7_writeTree_82 C hr hA (gI h 1 3) h4)
    · refine x_iload_n C.1 dX7_writeTree_35 rfl 2 rfl ?_
      refine x_if_le (tgt := 66) C.1 dX7_writeTree_36 (by decide) ?_ ?_
      · exact x_sub [1, 2, 0] rfl (T_X7_writeTree_66 C hr hA p1 (gI h 1 3) h2)
      · refine x_aload_n C.1 dX7_writeTree_39 rfl 1 rfl ?_
        refine x_get (v := .ref (xad G 30)) C.1 0 dX7_writeTree_40 (xc_49 G h2) rfl (by decide) rfl (fun w h => List.mem_cons_of_mem _ (iWC_X7 w h)) (by decide) rfl (C.1.2.2.2.2.1 _ (List.mem_cons_of_mem _ qC_335)) ?_
        refine x_aload_n C.1 dX7_writeTree_43 rfl 1 rfl ?_
        refine x_get (v := .ref (xad G 1)) C.1 1 dX7_writeTree_44 (xc_49 G h2) rfl (by decide) rfl (fun w h => List.mem_cons_of_mem _ (iWC_X7 w h)) (by decide) rfl (C.1.2.2.2.2.1 _ (List.mem_cons_of_mem _ qC_329)) ?_
        refine x_iload_n C.1 dX7_writeTree_47 rfl 2 rfl ?_
        refine x_iconst (v := 1) C.1 dX7_writeTree_48 (by decide) ?_
        refine x_isub C.1 dX7_writeTree_49 ?_
        refine z_callVi C dX7_writeTree_50 (M_X1_joins_30_1 G l N (p1 - 1) h2) (cwV 2 C.1.2.2.2.2.1 (gdV gWC qC_344 qC_300 qC_301 qC_32 qC_163) rfl rfl rfl (by decide +kernel) ⟨by dsimp only; omega, by dsimp only; omega⟩) (xc_30 G h2) (by decide) rfl rfl rfl (Nat.le_of_ble_eq_true rfl) (fun r5 h6 => ?_)
        refine x_if_ne (tgt := 66) C.1 dX7_writeTree_53 (by decide) ?_ ?_
        · refine x_aload_n C.1 dX7_writeTree_56 rfl 1 rfl ?_
          refine x_iload_n C.1 dX7_writeTree_57 rfl 2 rfl ?_
          refine x_iconst (v := 1) C.1 dX7_writeTree_58 (by decide) ?_
          refine x_isub C.1 dX7_writeTree_59 ?_
          refine z_callVv C dX7_writeTree_60 (M_X7_writeRound G l N (p1 - 1) h6) (cwV 1 C.1.2.2.2.2.1 (gdV gWC qC_345 qC_346 qC_347 qC_327 qC_328) rfl rfl rfl (by decide +kernel) ⟨by dsimp only; omega, by dsimp only; omega⟩) (xc_49 G h6) (by decide) rfl rfl rfl (Nat.le_of_ble_eq_true rfl) (fun r7 h8 => ?_)
          refine x_goto (tgt := 82) C.1 dX7_writeTree_63 (by decide) ?_
          exact x_sub [1, 0] rfl (T_X7_writeTree_82 C hr hA (gI h 1 3) h8)
        · exact x_sub [1, 2, 0] rfl (T_X7_writeTree_66 C hr hA p1 (gI h 1 3) h6)
  · exact x_vret C.1 dX7_writeTree_7 hr
set_option maxHeartbeats 4000000 in
set_option maxRecDepth 100000 in
theorem M_X7_writeTree (G : xG) (l : Launch) (N : Nat) : ∀ (d : Nat) (p1 : Int32) (h : xHp) (r : Unit × xHp), F_X7_writeTree N d p1 h = some r → Met l yX7_writeTree vX7_writeTree ({ frames := 4 + 2 * d, cells := 0, slots := 0, locals := 152 + 43 * d } : Room) (xPz G [.ref (xad G 49), .int p1] h) (xQv G r) 0 0 (xA G) := by
  intro d
  induction d with
  | zero => intros; rename_i hx; cases hx
  | succ d ih => intro p1 h r hx; exact M_X7_writeTree_r G l N (rA := F_X7_writeTree N d) ih p1 h r hx
/-! X7_writeProof: 32 instructions -/
abbrev J_X7_writeProof (G : xG) (p : Program) (l : Launch) (e : Env) (s : State) (m : MethodId) (args : Array Value) (below : List Frame) (meth : Method) (c : Code) : Nat → List (Nat × Value) → List Value → xHp → Option (Int32 × xHp) → Prop := xJ G p l e ({ frames := 29, cells := 0, slots := 0, locals := 690 } : Room) s m args below meth c 1 (fun res => MQ below (xQi G res) args s 0 0 (xA G))
def F_X7_writeProof_51 (N : Nat) (h : xHp) : Option (Int32 × xHp) := if (gI h 49 4) = 0 then some (1, h) else some (0, h)
def F_X7_writeProof (N : Nat) (h : xHp) : Option (Int32 × xHp) := bnd (sI h 28 1 0) fun h1 => bnd (sI h1 49 4 0) fun h2 => bnd (sI h2 49 3 (gI h2 1 3)) fun h3 => bnd2 (F_X1_giveNothing_30 N h3) fun r4 h5 => bnd2 (F_X7_writeTree N 12 0 h5) fun r6 h7 => if (gI h7 49 4) = 0 then F_X7_writeProof_51 N h7 else bnd (sI h7 28 1 0) fun h8 => F_X7_writeProof_51 N h8
set_option maxHeartbeats 4000000 in
set_option maxRecDepth 100000 in
theorem T_X7_writeProof_51 {G : xG} {p : Program} {l : Launch} {e : Env} {s : State} {m : MethodId} {args : Array Value} {below : List Frame} {meth : Method} {c : Code} {N : Nat} (C : xCz G p s m args meth c cX7_writeProof 1 vX7_writeProof RX7) (hr : meth.sig.returnType = (some .boolean)) (h : xHp) : J_X7_writeProof G p l e s m args below meth c 51 [(0, .ref (xad G 49))] [] h (F_X7_writeProof_51 N h) := by
  unfold F_X7_writeProof_51
  refine x_aload_n C.1 dX7_writeProof_51 rfl 0 rfl ?_
  refine x_get (v := .int (gI h 49 4)) C.1 4 dX7_writeProof_52 (xc_49 G h) rfl (by decide) rfl (fun w h => List.mem_cons_of_mem _ (iWC_X7 w h)) (by decide) rfl (C.1.2.2.2.2.1 _ (List.mem_cons_of_mem _ qC_318)) ?_
  refine x_if_ne (tgt := 62) C.1 dX7_writeProof_55 (by decide) ?_ ?_
  · refine x_iconst (v := 1) C.1 dX7_writeProof_58 (by decide) ?_
    refine x_goto (tgt := 63) C.1 dX7_writeProof_59 (by decide) ?_
    exact x_zretL C.1 dX7_writeProof_63 hr rfl
  · refine x_iconst (v := 0) C.1 dX7_writeProof_62 (by decide) ?_
    exact x_zretL C.1 dX7_writeProof_63 hr rfl
set_option maxHeartbeats 4000000 in
set_option maxRecDepth 100000 in
theorem M_X7_writeProof (G : xG) (l : Launch) (N : Nat) (h : xHp) : ∀ r, F_X7_writeProof N h = some r → Met l yX7_writeProof vX7_writeProof ({ frames := 29, cells := 0, slots := 0, locals := 690 } : Room) (xPz G [.ref (xad G 49)] h) (xQi G r) 0 0 (xA G) := by
  refine z_met (own := RX7) (cc := cX7_writeProof) (maxL := 1) (ret := (some .boolean)) (lv0 := [(0, .ref (xad G 49))]) (by decide +kernel) rfl rfl (Nat.le_of_ble_eq_true rfl) rfl ?_
  intro p e s m below meth c C hr
  unfold F_X7_writeProof
  refine x_aload_n C.1 dX7_writeProof_0 rfl 0 rfl ?_
  refine x_get (v := .ref (xad G 28)) C.1 2 dX7_writeProof_1 (xc_49 G h) rfl (by decide) rfl (fun w h => List.mem_cons_of_mem _ (iWC_X7 w h)) (by decide) rfl (C.1.2.2.2.2.1 _ (List.mem_cons_of_mem _ qC_317)) ?_
  refine x_iconst (v := 0) C.1 dX7_writeProof_4 (by decide) ?_
  refine x_putI (ty0 := tyX6) (ty := .int) C.1 1 dX7_writeProof_5 (xc_28 G h) rfl (Nat.le_of_ble_eq_true rfl) (by decide) rfl (fun w h => List.mem_cons_of_mem _ (iWC_X6 w h)) tyX6_ok nmX6 (by decide) rfl rfl (by decide +kernel) rfl rfl (C.1.2.2.2.2.1 _ (List.mem_cons_of_mem _ qC_353)) (fun h1 => ?_)
  refine x_aload_n C.1 dX7_writeProof_8 rfl 0 rfl ?_
  refine x_iconst (v := 0) C.1 dX7_writeProof_9 (by decide) ?_
  refine x_putI (ty0 := tyX7) (ty := .boolean) C.1 4 dX7_writeProof_10 (xc_49 G h1) rfl (Nat.le_of_ble_eq_true rfl) (by decide) rfl (fun w h => List.mem_cons_of_mem _ (iWC_X7 w h)) tyX7_ok nmX7 (by decide) rfl rfl (by decide +kernel) rfl rfl (C.1.2.2.2.2.1 _ (List.mem_cons_of_mem _ qC_318)) (fun h2 => ?_)
  refine x_aload_n C.1 dX7_writeProof_13 rfl 0 rfl ?_
  refine x_aload_n C.1 dX7_writeProof_14 rfl 0 rfl ?_
  refine x_get (v := .ref (xad G 1)) C.1 1 dX7_writeProof_15 (xc_49 G h2) rfl (by decide) rfl (fun w h => List.mem_cons_of_mem _ (iWC_X7 w h)) (by decide) rfl (C.1.2.2.2.2.1 _ (List.mem_cons_of_mem _ qC_329)) ?_
  refine x_get (v := .int (gI h2 1 3)) C.1 3 dX7_writeProof_18 (xc_1 G h2) rfl (by decide) rfl (fun w h => List.mem_cons_of_mem _ (iWC_X2 w h)) (by decide) rfl (C.1.2.2.2.2.1 _ (List.mem_cons_of_mem _ qC_341)) ?_
  refine x_putI (ty0 := tyX7) (ty := .int) C.1 3 dX7_writeProof_21 (xc_49 G h2) rfl (Nat.le_of_ble_eq_true rfl) (by decide) rfl (fun w h => List.mem_cons_of_mem _ (iWC_X7 w h)) tyX7_ok nmX7 (by decide) rfl rfl (by decide +kernel) rfl rfl (C.1.2.2.2.2.1 _ (List.mem_cons_of_mem _ qC_323)) (fun h3 => ?_)
  refine x_aload_n C.1 dX7_writeProof_24 rfl 0 rfl ?_
  refine x_get (v := .ref (xad G 30)) C.1 0 dX7_writeProof_25 (xc_49 G h3) rfl (by decide) rfl (fun w h => List.mem_cons_of_mem _ (iWC_X7 w h)) (by decide) rfl (C.1.2.2.2.2.1 _ (List.mem_cons_of_mem _ qC_335)) ?_
  refine z_callVv C dX7_writeProof_28 (M_X1_giveNothing_30 G l N h3) (cwV 0 C.1.2.2.2.2.1 (gdV gWC qC_354 qC_99 qC_100 qC_32 qC_2) rfl rfl rfl (by decide +kernel) ⟨Nat.le_of_ble_eq_true rfl, Nat.le_of_ble_eq_true rfl⟩) (xc_30 G h3) (by decide) rfl rfl rfl (Nat.le_of_ble_eq_true rfl) (fun r4 h5 => ?_)
  refine x_aload_n C.1 dX7_writeProof_31 rfl 0 rfl ?_
  refine x_iconst (v := 0) C.1 dX7_writeProof_32 (by decide) ?_
  refine z_callVv C dX7_writeProof_33 (M_X7_writeTree G l N 12 0 h5) (cwV 1 C.1.2.2.2.2.1 (gdV gWC qC_337 qC_338 qC_339 qC_327 qC_340) rfl rfl rfl (by decide +kernel) ⟨Nat.le_of_ble_eq_true rfl, Nat.le_of_ble_eq_true rfl⟩) (xc_49 G h5) (by decide) rfl rfl rfl (Nat.le_of_ble_eq_true rfl) (fun r6 h7 => ?_)
  refine x_aload_n C.1 dX7_writeProof_36 rfl 0 rfl ?_
  refine x_get (v := .int (gI h7 49 4)) C.1 4 dX7_writeProof_37 (xc_49 G h7) rfl (by decide) rfl (fun w h => List.mem_cons_of_mem _ (iWC_X7 w h)) (by decide) rfl (C.1.2.2.2.2.1 _ (List.mem_cons_of_mem _ qC_318)) ?_
  refine x_if_eq (tgt := 51) C.1 dX7_writeProof_40 (by decide) ?_ ?_
  · exact x_sub [0] rfl (T_X7_writeProof_51 C hr h7)
  · refine x_aload_n C.1 dX7_writeProof_43 rfl 0 rfl ?_
    refine x_get (v := .ref (xad G 28)) C.1 2 dX7_writeProof_44 (xc_49 G h7) rfl (by decide) rfl (fun w h => List.mem_cons_of_mem _ (iWC_X7 w h)) (by decide) rfl (C.1.2.2.2.2.1 _ (List.mem_cons_of_mem _ qC_317)) ?_
    refine x_iconst (v := 0) C.1 dX7_writeProof_47 (by decide) ?_
    refine x_putI (ty0 := tyX6) (ty := .int) C.1 1 dX7_writeProof_48 (xc_28 G h7) rfl (Nat.le_of_ble_eq_true rfl) (by decide) rfl (fun w h => List.mem_cons_of_mem _ (iWC_X6 w h)) tyX6_ok nmX6 (by decide) rfl rfl (by decide +kernel) rfl rfl (C.1.2.2.2.2.1 _ (List.mem_cons_of_mem _ qC_353)) (fun h8 => ?_)
    exact x_sub [0] rfl (T_X7_writeProof_51 C hr h8)
/-! X8_prove: 26 instructions -/
abbrev J_X8_prove (G : xG) (p : Program) (l : Launch) (e : Env) (s : State) (m : MethodId) (args : Array Value) (below : List Frame) (meth : Method) (c : Code) : Nat → List (Nat × Value) → List Value → xHp → Option (Int32 × xHp) → Prop := xJ G p l e ({ frames := 30, cells := 0, slots := 0, locals := 760 } : Room) s m args below meth c 1 (fun res => MQ below (xQi G res) args s 0 0 (xA G))
def F_X8_prove_44 (N : Nat) (h : xHp) : Option (Int32 × xHp) := some ((-1), h)
def F_X8_prove (N : Nat) (h : xHp) : Option (Int32 × xHp) := bnd (sI h 28 1 0) fun h1 => if (gI h1 0 9) = 0 then some ((-1), h1) else bnd2 (F_X5_fill N h1) fun r2 h3 => if (0 : Int32) < (gI h3 47 1) then F_X8_prove_44 N h3 else bnd2 (F_X7_writeProof N h3) fun r4 h5 => if r4 = 0 then F_X8_prove_44 N h5 else some ((gI h5 28 1), h5)
set_option maxHeartbeats 4000000 in
set_option maxRecDepth 100000 in
theorem T_X8_prove_44 {G : xG} {p : Program} {l : Launch} {e : Env} {s : State} {m : MethodId} {args : Array Value} {below : List Frame} {meth : Method} {c : Code} {N : Nat} (C : xCz G p s m args meth c cX8_prove 1 vX8_prove RX8) (hr : meth.sig.returnType = (some .int)) (h : xHp) : J_X8_prove G p l e s m args below meth c 44 [] [] h (F_X8_prove_44 N h) := by
  unfold F_X8_prove_44
  refine x_iconst (v := (-1)) C.1 dX8_prove_44 (by decide) ?_
  exact x_iret C.1 dX8_prove_45 hr
set_option maxHeartbeats 4000000 in
set_option maxRecDepth 100000 in
theorem M_X8_prove (G : xG) (l : Launch) (N : Nat) (h : xHp) : ∀ r, F_X8_prove N h = some r → Met l yX8_prove vX8_prove ({ frames := 30, cells := 0, slots := 0, locals := 760 } : Room) (xPz G [.ref (xad G 0)] h) (xQi G r) 0 0 (xA G) := by
  refine z_met (own := RX8) (cc := cX8_prove) (maxL := 1) (ret := (some .int)) (lv0 := [(0, .ref (xad G 0))]) (by decide +kernel) rfl rfl (Nat.le_of_ble_eq_true rfl) rfl ?_
  intro p e s m below meth c C hr
  unfold F_X8_prove
  refine x_aload_n C.1 dX8_prove_0 rfl 0 rfl ?_
  refine x_get (v := .ref (xad G 28)) C.1 6 dX8_prove_1 (xc_0 G h) rfl (by decide) rfl (fun w h => List.mem_cons_of_mem _ (iWC_X8 w h)) (by decide) rfl (C.1.2.2.2.2.1 _ (List.mem_cons_of_mem _ qC_460)) ?_
  refine x_iconst (v := 0) C.1 dX8_prove_4 (by decide) ?_
  refine x_putI (ty0 := tyX6) (ty := .int) C.1 1 dX8_prove_5 (xc_28 G h) rfl (Nat.le_of_ble_eq_true rfl) (by decide) rfl (fun w h => List.mem_cons_of_mem _ (iWC_X6 w h)) tyX6_ok nmX6 (by decide) rfl rfl (by decide +kernel) rfl rfl (C.1.2.2.2.2.1 _ (List.mem_cons_of_mem _ qC_412)) (fun h1 => ?_)
  refine x_aload_n C.1 dX8_prove_8 rfl 0 rfl ?_
  refine x_get (v := .int (gI h1 0 9)) C.1 9 dX8_prove_9 (xc_0 G h1) rfl (by decide) rfl (fun w h => List.mem_cons_of_mem _ (iWC_X8 w h)) (by decide) rfl (C.1.2.2.2.2.1 _ (List.mem_cons_of_mem _ qC_420)) ?_
  refine x_if_ne (tgt := 17) C.1 dX8_prove_12 (by decide) ?_ ?_
  · refine x_iconst (v := (-1)) C.1 dX8_prove_15 (by decide) ?_
    exact x_iret C.1 dX8_prove_16 hr
  · refine x_aload_n C.1 dX8_prove_17 rfl 0 rfl ?_
    refine x_get (v := .ref (xad G 47)) C.1 12 dX8_prove_18 (xc_0 G h1) rfl (by decide) rfl (fun w h => List.mem_cons_of_mem _ (iWC_X8 w h)) (by decide) rfl (C.1.2.2.2.2.1 _ (List.mem_cons_of_mem _ qC_373)) ?_
    refine z_callVv C dX8_prove_21 (M_X5_fill G l N h1) (cwV 0 C.1.2.2.2.2.1 (gdV gWC qC_439 qC_440 qC_441 qC_295 qC_311) rfl rfl rfl (by decide +kernel) ⟨Nat.le_of_ble_eq_true rfl, Nat.le_of_ble_eq_true rfl⟩) (xc_47 G h1) (by decide) rfl rfl rfl (Nat.le_of_ble_eq_true rfl) (fun r2 h3 => ?_)
    refine x_aload_n C.1 dX8_prove_24 rfl 0 rfl ?_
    refine x_get (v := .ref (xad G 47)) C.1 12 dX8_prove_25 (xc_0 G h3) rfl (by decide) rfl (fun w h => List.mem_cons_of_mem _ (iWC_X8 w h)) (by decide) rfl (C.1.2.2.2.2.1 _ (List.mem_cons_of_mem _ qC_373)) ?_
    refine x_get (v := .int (gI h3 47 1)) C.1 1 dX8_prove_28 (xc_47 G h3) rfl (by decide) rfl (fun w h => List.mem_cons_of_mem _ (iWC_X5 w h)) (by decide) rfl (C.1.2.2.2.2.1 _ (List.mem_cons_of_mem _ qC_438)) ?_
    refine x_if_gt (tgt := 44) C.1 dX8_prove_31 (by decide) ?_ ?_
    · exact x_sub [] rfl (T_X8_prove_44 C hr h3)
    · refine x_aload_n C.1 dX8_prove_34 rfl 0 rfl ?_
      refine x_get (v := .ref (xad G 49)) C.1 13 dX8_prove_35 (xc_0 G h3) rfl (by decide) rfl (fun w h => List.mem_cons_of_mem _ (iWC_X8 w h)) (by decide) rfl (C.1.2.2.2.2.1 _ (List.mem_cons_of_mem _ qC_461)) ?_
      refine z_callVi C dX8_prove_38 (M_X7_writeProof G l N h3) (cwV 0 C.1.2.2.2.2.1 (gdV gWC qC_462 qC_463 qC_464 qC_327 qC_355) rfl rfl rfl (by decide +kernel) ⟨Nat.le_of_ble_eq_true rfl, Nat.le_of_ble_eq_true rfl⟩) (xc_49 G h3) (by decide) rfl rfl rfl (Nat.le_of_ble_eq_true rfl) (fun r4 h5 => ?_)
      refine x_if_ne (tgt := 46) C.1 dX8_prove_41 (by decide) ?_ ?_
      · exact x_sub [] rfl (T_X8_prove_44 C hr h5)
      · refine x_aload_n C.1 dX8_prove_46 rfl 0 rfl ?_
        refine x_get (v := .ref (xad G 28)) C.1 6 dX8_prove_47 (xc_0 G h5) rfl (by decide) rfl (fun w h => List.mem_cons_of_mem _ (iWC_X8 w h)) (by decide) rfl (C.1.2.2.2.2.1 _ (List.mem_cons_of_mem _ qC_460)) ?_
        refine x_get (v := .int (gI h5 28 1)) C.1 1 dX8_prove_50 (xc_28 G h5) rfl (by decide) rfl (fun w h => List.mem_cons_of_mem _ (iWC_X6 w h)) (by decide) rfl (C.1.2.2.2.2.1 _ (List.mem_cons_of_mem _ qC_412)) ?_
        exact x_iret C.1 dX8_prove_53 hr
