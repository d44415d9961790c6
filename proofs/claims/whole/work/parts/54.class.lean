/-! X0_passBranches_t26: 72 instructions -/
abbrev J_X0_passBranches_t26 (d : Nat) (G : xG) (p : Program) (l : Launch) (e : Env) (s : State) (m : MethodId) (args : Array Value) (below : List Frame) (meth : Method) (c : Code) : Nat → List (Nat × Value) → List Value → xHp → Option (Int32 × xHp) → Prop := xJ G p l e ({ frames := 4 + 2 * d + 1, cells := 0, slots := 0, locals := 125 + 44 * d + 22 } : Room) s m args below meth c 3 (fun res => MQ below (xQi G res) args s 0 0 (xA G))
def F_X0_passBranches_t26_28 (N : Nat) (rA : Int32 → xHp → Option (Int32 × xHp)) (h : xHp) : Option (Int32 × xHp) := some (0, h)
def F_X0_passBranches_t26_80 (N : Nat) (rA : Int32 → xHp → Option (Int32 × xHp)) (h : xHp) : Option (Int32 × xHp) := some (0, h)
def F_X0_passBranches_t26_111 (N : Nat) (rA : Int32 → xHp → Option (Int32 × xHp)) (h : xHp) : Option (Int32 × xHp) := some (0, h)
def F_X0_passBranches_t26 (N : Nat) (rA : Int32 → xHp → Option (Int32 × xHp)) (p1 : Int32) (p2 : Int32) (h : xHp) : Option (Int32 × xHp) := if p1 < 0 then F_X0_passBranches_t26_28 N rA h else if (gI h 30 3) ≤ p1 then F_X0_passBranches_t26_28 N rA h else grd (xin p1 10) (if (gI h 34 p1.toNatClampNeg) = 1 then bnd (sI h 50 3 ((gI h 50 3) + 1)) fun h1 => bnd2 (F_X0_pass_t26 N 40 h1) fun r2 h3 => if r2 = 0 then some (0, h3) else grd (xin p1 10) (bnd (sI h3 34 p1.toNatClampNeg 0) fun h4 => bnd2 (rA (p2 + 1) h4) fun r5 h6 => if r5 = 0 then F_X0_passBranches_t26_80 N rA h6 else bnd2 (F_X0_pass_t26 N 44 h6) fun r7 h8 => if r7 = 0 then F_X0_passBranches_t26_80 N rA h8 else grd (xin p1 10) (bnd (sI h8 34 p1.toNatClampNeg 2) fun h9 => bnd2 (rA (p2 + 1) h9) fun r10 h11 => if r10 = 0 then F_X0_passBranches_t26_111 N rA h11 else bnd2 (F_X0_pass_t26 N 41 h11) fun r12 h13 => if r12 = 0 then F_X0_passBranches_t26_111 N rA h13 else grd (xin p1 10) (bnd (sI h13 34 p1.toNatClampNeg 1) fun h14 => some (1, h14)))) else F_X0_passBranches_t26_28 N rA h)
set_option maxHeartbeats 4000000 in
set_option maxRecDepth 100000 in
theorem T_X0_passBranches_t26_28 {G : xG} {p : Program} {l : Launch} {e : Env} {s : State} {m : MethodId} {args : Array Value} {below : List Frame} {meth : Method} {c : Code} {N : Nat} (C : xCz G p s m args meth c cX0_passBranches 3 vX0_passBranches RX0) (hr : meth.sig.returnType = (some .boolean)) {d : Nat} {rA : Int32 → xHp → Option (Int32 × xHp)} (hA : ∀ (a0 : Int32) (h : xHp) (r : Int32 × xHp), rA a0 h = some r → Met l yX0_passTree vX0_passTree ({ frames := 4 + 2 * d, cells := 0, slots := 0, locals := 125 + 44 * d } : Room) (xPz G [.ref (xad G 50), .int a0] h) (xQi G r) 0 0 (xA G)) (h : xHp) : J_X0_passBranches_t26 d G p l e s m args below meth c 28 [] [] h (F_X0_passBranches_t26_28 N rA h) := by
  unfold F_X0_passBranches_t26_28
  refine x_iconst (v := 0) C.1 dX0_passBranches_28 (by decide) ?_
  exact x_zretL C.1 dX0_passBranches_29 hr rfl
set_option maxHeartbeats 4000000 in
set_option maxRecDepth 100000 in
theorem T_X0_passBranches_t26_80 {G : xG} {p : Program} {l : Launch} {e : Env} {s : State} {m : MethodId} {args : Array Value} {below : List Frame} {meth : Method} {c : Code} {N : Nat} (C : xCz G p s m args meth c cX0_passBranches 3 vX0_passBranches RX0) (hr : meth.sig.returnType = (some .boolean)) {d : Nat} {rA : Int32 → xHp → Option (Int32 × xHp)} (hA : ∀ (a0 : Int32) (h : xHp) (r : Int32 × xHp), rA a0 h = some r → Met l yX0_passTree vX0_passTree ({ frames := 4 + 2 * d, cells := 0, slots := 0, locals := 125 + 44 * d } : Room) (xPz G [.ref (xad G 50), .int a0] h) (xQi G r) 0 0 (xA G)) (h : xHp) : J_X0_passBranches_t26 d G p l e s m args below meth c 80 [] [] h (F_X0_passBranches_t26_80 N rA h) := by
  unfold F_X0_passBranches_t26_80
  refine x_iconst (v := 0) C.1 dX0_passBranches_80 (by decide) ?_
  exact x_zretL C.1 dX0_passBranches_81 hr rfl
set_option maxHeartbeats 4000000 in
set_option maxRecDepth 100000 in
theorem T_X0_passBranches_t26_111 {G : xG} {p : Program} {l : Launch} {e : Env} {s : State} {m : MethodId} {args : Array Value} {below : List Frame} {meth : Method} {c : Code} {N : Nat} (C : xCz G p s m args meth c cX0_passBranches 3 vX0_passBranches RX0) (hr : meth.sig.returnType = (some .boolean)) {d : Nat} {rA : Int32 → xHp → Option (Int32 × xHp)} (hA : ∀ (a0 : Int32) (h : xHp) (r : Int32 × xHp), rA a0 h = some r → Met l yX0_passTree vX0_passTree ({ frames := 4 + 2 * d, cells := 0, slots := 0, locals := 125 + 44 * d } : Room) (xPz G [.ref (xad G 50), .int a0] h) (xQi G r) 0 0 (xA G)) (h : xHp) : J_X0_passBranches_t26 d G p l e s m args below meth c 111 [] [] h (F_X0_passBranches_t26_111 N rA h) := by
  unfold F_X0_passBranches_t26_111
  refine x_iconst (v := 0) C.1 dX0_passBranches_111 (by decide) ?_
  exact x_zretL C.1 dX0_passBranches_112 hr rfl
set_option maxHeartbeats 4000000 in
set_option maxRecDepth 100000 in
theorem M_X0_passBranches_t26 (G : xG) (l : Launch) (N : Nat) {d : Nat} {rA : Int32 → xHp → Option (Int32 × xHp)} (hA : ∀ (a0 : Int32) (h : xHp) (r : Int32 × xHp), rA a0 h = some r → Met l yX0_passTree vX0_passTree ({ frames := 4 + 2 * d, cells := 0, slots := 0, locals := 125 + 44 * d } : Room) (xPz G [.ref (xad G 50), .int a0] h) (xQi G r) 0 0 (xA G)) (p1 : Int32) (p2 : Int32) (h : xHp) : ∀ r, F_X0_passBranches_t26 N rA p1 p2 h = some r → Met l yX0_passBranches vX0_passBranches ({ frames := 4 + 2 * d + 1, cells := 0, slots := 0, locals := 125 + 44 * d + 22 } : Room) (xPz G [.ref (xad G 50), .int p1, .int p2] h) (xQi G r) 0 0 (xA G) := by
  refine z_met (own := RX0) (cc := cX0_passBranches) (maxL := 3) (ret := (some .boolean)) (lv0 := [(0, .ref (xad G 50)), (1, .int p1), (2, .int p2)]) (by decide +kernel) rfl rfl (Nat.le_of_ble_eq_true rfl) rfl ?_
  intro p e s m below meth c C hr
  unfold F_X0_passBranches_t26
  refine x_iload_n C.1 dX0_passBranches_0 rfl 1 rfl ?_
  refine x_if_lt (tgt := 28) C.1 dX0_passBranches_1 (by decide) ?_ ?_
  · exact x_sub [] rfl (T_X0_passBranches_t26_28 C hr hA h)
  · refine x_iload_n C.1 dX0_passBranches_4 rfl 1 rfl ?_
    refine x_aload_n C.1 dX0_passBranches_5 rfl 0 rfl ?_
    refine x_get (v := .ref (xad G 30)) C.1 0 dX0_passBranches_6 (xc_50 G h) rfl (by decide) rfl (fun w h => List.mem_cons_of_mem _ (iWC_X0 w h)) (by decide) rfl (C.1.2.2.2.2.1 _ (List.mem_cons_of_mem _ qC_63)) ?_
    refine x_get (v := .int (gI h 30 3)) C.1 3 dX0_passBranches_9 (xc_30 G h) rfl (by decide) rfl (fun w h => List.mem_cons_of_mem _ (iWC_X1 w h)) (by decide) rfl (C.1.2.2.2.2.1 _ (List.mem_cons_of_mem _ qC_64)) ?_
    refine x_icmp_ge (tgt := 28) C.1 dX0_passBranches_12 (by decide) ?_ ?_
    · exact x_sub [] rfl (T_X0_passBranches_t26_28 C hr hA h)
    · refine x_aload_n C.1 dX0_passBranches_15 rfl 0 rfl ?_
      refine x_get (v := .ref (xad G 30)) C.1 0 dX0_passBranches_16 (xc_50 G h) rfl (by decide) rfl (fun w h => List.mem_cons_of_mem _ (iWC_X0 w h)) (by decide) rfl (C.1.2.2.2.2.1 _ (List.mem_cons_of_mem _ qC_63)) ?_
      refine x_get (v := .ref (xad G 34)) C.1 4 dX0_passBranches_19 (xc_30 G h) rfl (by decide) rfl (fun w h => List.mem_cons_of_mem _ (iWC_X1 w h)) (by decide) rfl (C.1.2.2.2.2.1 _ (List.mem_cons_of_mem _ qC_65)) ?_
      refine x_iload_n C.1 dX0_passBranches_22 rfl 1 rfl ?_
      refine x_iald (n := 10) C.1 dX0_passBranches_23 (xc_34 G h) (by decide) ?_
      refine x_iconst (v := 1) C.1 dX0_passBranches_24 (by decide) ?_
      refine x_icmp_eq (tgt := 30) C.1 dX0_passBranches_25 (by decide) ?_ ?_
      · refine x_aload_n C.1 dX0_passBranches_30 rfl 0 rfl ?_
        refine x_dup C.1 dX0_passBranches_31 rfl ?_
        refine x_get (v := .int (gI h 50 3)) C.1 3 dX0_passBranches_32 (xc_50 G h) rfl (by decide) rfl (fun w h => List.mem_cons_of_mem _ (iWC_X0 w h)) (by decide) rfl (C.1.2.2.2.2.1 _ (List.mem_cons_of_mem _ qC_12)) ?_
        refine x_iconst (v := 1) C.1 dX0_passBranches_35 (by decide) ?_
        refine x_iadd C.1 dX0_passBranches_36 ?_
        refine x_putI (ty0 := tyX0) (ty := .int) C.1 3 dX0_passBranches_37 (xc_50 G h) rfl (Nat.le_of_ble_eq_true rfl) (by decide) rfl (fun w h => List.mem_cons_of_mem _ (iWC_X0 w h)) tyX0_ok nmX0 (by decide) rfl rfl (by decide +kernel) rfl rfl (C.1.2.2.2.2.1 _ (List.mem_cons_of_mem _ qC_12)) (fun h1 => ?_)
        refine x_aload_n C.1 dX0_passBranches_40 rfl 0 rfl ?_
        refine x_bipush (v := 40) C.1 dX0_passBranches_41 (by decide) ?_
        refine z_callVi C dX0_passBranches_43 (M_X0_pass_t26 G l N 40 h1) (cwV 1 C.1.2.2.2.2.1 (gdV gWC qC_47 qC_48 qC_49 qC_50 qC_10) rfl rfl rfl (by decide +kernel) ⟨by dsimp only; omega, by dsimp only; omega⟩) (xc_50 G h1) (by decide) rfl rfl rfl (Nat.le_of_ble_eq_true rfl) (fun r2 h3 => ?_)
        refine x_if_ne (tgt := 51) C.1 dX0_passBranches_46 (by decide) ?_ ?_
        · refine x_iconst (v := 0) C.1 dX0_passBranches_49 (by decide) ?_
          exact x_zretL C.1 dX0_passBranches_50 hr rfl
        · refine x_aload_n C.1 dX0_passBranches_51 rfl 0 rfl ?_
          refine x_get (v := .ref (xad G 30)) C.1 0 dX0_passBranches_52 (xc_50 G h3) rfl (by decide) rfl (fun w h => List.mem_cons_of_mem _ (iWC_X0 w h)) (by decide) rfl (C.1.2.2.2.2.1 _ (List.mem_cons_of_mem _ qC_63)) ?_
          refine x_get (v := .ref (xad G 34)) C.1 4 dX0_passBranches_55 (xc_30 G h3) rfl (by decide) rfl (fun w h => List.mem_cons_of_mem _ (iWC_X1 w h)) (by decide) rfl (C.1.2.2.2.2.1 _ (List.mem_cons_of_mem _ qC_65)) ?_
          refine x_iload_n C.1 dX0_passBranches_58 rfl 1 rfl ?_
          refine x_iconst (v := 0) C.1 dX0_passBranches_59 (by decide) ?_
          refine x_iast (n := 10) C.1 dX0_passBranches_60 (fun g => xp_34 G g _ _) (by decide) (fun h4 => ?_)
          refine x_aload_n C.1 dX0_passBranches_61 rfl 0 rfl ?_
          refine x_iload_n C.1 dX0_passBranches_62 rfl 2 rfl ?_
          refine x_iconst (v := 1) C.1 dX0_passBranches_63 (by decide) ?_
          refine x_iadd C.1 dX0_passBranches_64 ?_
          refine z_callVi C dX0_passBranches_65 (hA (p2 + 1) h4) (cwV 1 C.1.2.2.2.2.1 (gdV gWC qC_83 qC_84 qC_85 qC_50 qC_86) rfl rfl rfl (by decide +kernel) ⟨by dsimp only; omega, by dsimp only; omega⟩) (xc_50 G h4) (by decide) rfl rfl rfl (Nat.le_of_ble_eq_true rfl) (fun r5 h6 => ?_)
          refine x_if_eq (tgt := 80) C.1 dX0_passBranches_68 (by decide) ?_ ?_
          · exact x_sub [] rfl (T_X0_passBranches_t26_80 C hr hA h6)
          · refine x_aload_n C.1 dX0_passBranches_71 rfl 0 rfl ?_
            refine x_bipush (v := 44) C.1 dX0_passBranches_72 (by decide) ?_
            refine z_callVi C dX0_passBranches_74 (M_X0_pass_t26 G l N 44 h6) (cwV 1 C.1.2.2.2.2.1 (gdV gWC qC_47 qC_48 qC_49 qC_50 qC_10) rfl rfl rfl (by decide +kernel) ⟨by dsimp only; omega, by dsimp only; omega⟩) (xc_50 G h6) (by decide) rfl rfl rfl (Nat.le_of_ble_eq_true rfl) (fun r7 h8 => ?_)
            refine x_if_ne (tgt := 82) C.1 dX0_passBranches_77 (by decide) ?_ ?_
            · exact x_sub [] rfl (T_X0_passBranches_t26_80 C hr hA h8)
            · refine x_aload_n C.1 dX0_passBranches_82 rfl 0 rfl ?_
              refine x_get (v := .ref (xad G 30)) C.1 0 dX0_passBranches_83 (xc_50 G h8) rfl (by decide) rfl (fun w h => List.mem_cons_of_mem _ (iWC_X0 w h)) (by decide) rfl (C.1.2.2.2.2.1 _ (List.mem_cons_of_mem _ qC_63)) ?_
              refine x_get (v := .ref (xad G 34)) C.1 4 dX0_passBranches_86 (xc_30 G h8) rfl (by decide) rfl (fun w h => List.mem_cons_of_mem _ (iWC_X1 w h)) (by decide) rfl (C.1.2.2.2.2.1 _ (List.mem_cons_of_mem _ qC_65)) ?_
              refine x_iload_n C.1 dX0_passBranches_89 rfl 1 rfl ?_
              refine x_iconst (v := 2) C.1 dX0_passBranches_90 (by decide) ?_
              refine x_iast (n := 10) C.1 dX0_passBranches_91 (fun g => xp_34 G g _ _) (by decide) (fun h9 => ?_)
              refine x_aload_n C.1 dX0_passBranches_92 rfl 0 rfl ?_
              refine x_iload_n C.1 dX0_passBranches_93 rfl 2 rfl ?_
              refine x_iconst (v := 1) C.1 dX0_passBranches_94 (by decide) ?_
              refine x_iadd C.1 dX0_passBranches_95 ?_
              refine z_callVi C dX0_passBranches_96 (hA (p2 + 1) h9) (cwV 1 C.1.2.2.2.2.1 (gdV gWC qC_83 qC_84 qC_85 qC_50 qC_86) rfl rfl rfl (by decide +kernel) ⟨by dsimp only; omega, by dsimp only; omega⟩) (xc_50 G h9) (by decide) rfl rfl rfl (Nat.le_of_ble_eq_true rfl) (fun r10 h11 => ?_)
              refine x_if_eq (tgt := 111) C.1 dX0_passBranches_99 (by decide) ?_ ?_
              · exact x_sub [] rfl (T_X0_passBranches_t26_111 C hr hA h11)
              · refine x_aload_n C.1 dX0_passBranches_102 rfl 0 rfl ?_
                refine x_bipush (v := 41) C.1 dX0_passBranches_103 (by decide) ?_
                refine z_callVi C dX0_passBranches_105 (M_X0_pass_t26 G l N 41 h11) (cwV 1 C.1.2.2.2.2.1 (gdV gWC qC_47 qC_48 qC_49 qC_50 qC_10) rfl rfl rfl (by decide +kernel) ⟨by dsimp only; omega, by dsimp only; omega⟩) (xc_50 G h11) (by decide) rfl rfl rfl (Nat.le_of_ble_eq_true rfl) (fun r12 h13 => ?_)
                refine x_if_ne (tgt := 113) C.1 dX0_passBranches_108 (by decide) ?_ ?_
                · exact x_sub [] rfl (T_X0_passBranches_t26_111 C hr hA h13)
                · refine x_aload_n C.1 dX0_passBranches_113 rfl 0 rfl ?_
                  refine x_get (v := .ref (xad G 30)) C.1 0 dX0_passBranches_114 (xc_50 G h13) rfl (by decide) rfl (fun w h => List.mem_cons_of_mem _ (iWC_X0 w h)) (by decide) rfl (C.1.2.2.2.2.1 _ (List.mem_cons_of_mem _ qC_63)) ?_
                  refine x_get (v := .ref (xad G 34)) C.1 4 dX0_passBranches_117 (xc_30 G h13) rfl (by decide) rfl (fun w h => List.mem_cons_of_mem _ (iWC_X1 w h)) (by decide) rfl (C.1.2.2.2.2.1 _ (List.mem_cons_of_mem _ qC_65)) ?_
                  refine x_iload_n C.1 dX0_passBranches_120 rfl 1 rfl ?_
                  refine x_iconst (v := 1) C.1 dX0_passBranches_121 (by decide) ?_
                  refine x_iast (n := 10) C.1 dX0_passBranches_122 (fun g => xp_34 G g _ _) (by decide) (fun h14 => ?_)
                  refine x_iconst (v := 1) C.1 dX0_passBranches_123 (by decide) ?_
                  exact x_zretL C.1 dX0_passBranches_124 hr rfl
      · exact x_sub [] rfl (T_X0_passBranches_t26_28 C hr hA h)
/-! X0_passTree_t26: 40 instructions -/
abbrev J_X0_passTree_t26 (d : Nat) (G : xG) (p : Program) (l : Launch) (e : Env) (s : State) (m : MethodId) (args : Array Value) (below : List Frame) (meth : Method) (c : Code) : Nat → List (Nat × Value) → List Value → xHp → Option (Int32 × xHp) → Prop := xJ G p l e ({ frames := 4 + 2 * (d + 1), cells := 0, slots := 0, locals := 125 + 44 * (d + 1) } : Room) s m args below meth c 3 (fun res => MQ below (xQi G res) args s 0 0 (xA G))
def F_X0_passTree_t26_41 (N : Nat) (rA : Int32 → xHp → Option (Int32 × xHp)) (h : xHp) : Option (Int32 × xHp) := some (0, h)
def F_X0_passTree_t26_76 (N : Nat) (rA : Int32 → xHp → Option (Int32 × xHp)) (h : xHp) : Option (Int32 × xHp) := some (0, h)
def F_X0_passTree_t26_r (N : Nat) (rA : Int32 → xHp → Option (Int32 × xHp)) (p1 : Int32) (h : xHp) : Option (Int32 × xHp) := grd (decide (h.2.2 = 26)) (bnd2 (F_X6_at_26 N (gI h 50 3) h) fun r1 h2 => if r1 = 46 then bnd2 (F_X1_judge_30 N h2) fun r3 h4 => if r3 = 0 then bnd2 (F_X0_pass_t26 N 46 h4) fun r5 h6 => if r5 = 0 then F_X0_passTree_t26_41 N rA h6 else some (1, h6) else F_X0_passTree_t26_41 N rA h4 else if r1 = 33 then bnd2 (F_X0_passRound_t26 N h2) fun r7 h8 => some (vp_nar .boolean r7, h8) else if 10 ≤ p1 then F_X0_passTree_t26_76 N rA h2 else bnd2 (F_X8_figureOf N r1 h2) fun r9 h10 => bnd2 (F_X0_passBranches_t26 N rA r9 p1 h10) fun r11 h12 => if r11 = 0 then F_X0_passTree_t26_76 N rA h12 else some (1, h12))
def F_X0_passTree_t26 (N d : Nat) (p1 : Int32) (h : xHp) : Option (Int32 × xHp) := xit (F_X0_passTree_t26_r N) (fun _ _ => none) d p1 h
set_option maxHeartbeats 4000000 in
set_option maxRecDepth 100000 in
theorem T_X0_passTree_t26_41 {G : xG} {p : Program} {l : Launch} {e : Env} {s : State} {m : MethodId} {args : Array Value} {below : List Frame} {meth : Method} {c : Code} {N : Nat} (C : xCz G p s m args meth c cX0_passTree 3 vX0_passTree RX0) (hr : meth.sig.returnType = (some .boolean)) {d : Nat} {rA : Int32 → xHp → Option (Int32 × xHp)} (hA : ∀ (a0 : Int32) (h : xHp) (r : Int32 × xHp), rA a0 h = some r → Met l yX0_passTree vX0_passTree ({ frames := 4 + 2 * d, cells := 0, slots := 0, locals := 125 + 44 * d } : Room) (xPz G [.ref (xad G 50), .int a0] h) (xQi G r) 0 0 (xA G)) (h : xHp) : J_X0_passTree_t26 d G p l e s m args below meth c 41 [] [] h (F_X0_passTree_t26_41 N rA h) := by
  unfold F_X0_passTree_t26_41
  refine x_iconst (v := 0) C.1 dX0_passTree_41 (by decide) ?_
  exact x_zretL C.1 dX0_passTree_42 hr rfl
set_option maxHeartbeats 4000000 in
set_option maxRecDepth 100000 in
theorem T_X0_passTree_t26_76 {G : xG} {p : Program} {l : Launch} {e : Env} {s : State} {m : MethodId} {args : Array Value} {below : List Frame} {meth : Method} {c : Code} {N : Nat} (C : xCz G p s m args meth c cX0_passTree 3 vX0_passTree RX0) (hr : meth.sig.returnType = (some .boolean)) {d : Nat} {rA : Int32 → xHp → Option (Int32 × xHp)} (hA : ∀ (a0 : Int32) (h : xHp) (r : Int32 × xHp), rA a0 h = some r → Met l yX0_passTree vX0_passTree ({ frames := 4 + 2 * d, cells := 0, slots := 0, locals := 125 + 44 * d } : Room) (xPz G [.ref (xad G 50), .int a0] h) (xQi G r) 0 0 (xA G)) (h : xHp) : J_X0_passTree_t26 d G p l e s m args below meth c 76 [] [] h (F_X0_passTree_t26_76 N rA h) := by
  unfold F_X0_passTree_t26_76
  refine x_iconst (v := 0) C.1 dX0_passTree_76 (by decide) ?_
  exact x_zretL C.1 dX0_passTree_77 hr rfl
set_option maxHeartbeats 4000000 in
set_option maxRecDepth 100000 in
theorem M_X0_passTree_t26_r (G : xG) (l : Launch) (N : Nat) {d : Nat} {rA : Int32 → xHp → Option (Int32 × xHp)} (hA : ∀ (a0 : Int32) (h : xHp) (r : Int32 × xHp), rA a0 h = some r → Met l yX0_passTree vX0_passTree ({ frames := 4 + 2 * d, cells := 0, slots := 0, locals := 125 + 44 * d } : Room) (xPz G [.ref (xad G 50), .int a0] h) (xQi G r) 0 0 (xA G)) (p1 : Int32) (h : xHp) : ∀ r, F_X0_passTree_t26_r N rA p1 h = some r → Met l yX0_passTree vX0_passTree ({ frames := 4 + 2 * (d + 1), cells := 0, slots := 0, locals := 125 + 44 * (d + 1) } : Room) (xPz G [.ref (xad G 50), .int p1] h) (xQi G r) 0 0 (xA G) := by
  refine z_met (own := RX0) (cc := cX0_passTree) (maxL := 3) (ret := (some .boolean)) (lv0 := [(0, .ref (xad G 50)), (1, .int p1)]) (by decide +kernel) rfl rfl (Nat.le_of_ble_eq_true rfl) rfl ?_
  intro p e s m below meth c C hr
  unfold F_X0_passTree_t26_r
  refine x_aload_n C.1 dX0_passTree_0 rfl 0 rfl ?_
  refine x_getT (t := 26) C.1 2 dX0_passTree_1 (xc_50 G h) rfl (by decide) rfl (fun w h => List.mem_cons_of_mem _ (iWC_X0 w h)) (by decide) rfl (C.1.2.2.2.2.1 _ (List.mem_cons_of_mem _ qC_11)) ?_
  refine x_aload_n C.1 dX0_passTree_4 rfl 0 rfl ?_
  refine x_get (v := .int (gI h 50 3)) C.1 3 dX0_passTree_5 (xc_50 G h) rfl (by decide) rfl (fun w h => List.mem_cons_of_mem _ (iWC_X0 w h)) (by decide) rfl (C.1.2.2.2.2.1 _ (List.mem_cons_of_mem _ qC_12)) ?_
  refine z_callVi C dX0_passTree_8 (M_X6_at_26 G l N (gI h 50 3) h) (cwV 1 C.1.2.2.2.2.1 (gdV gWC qC_13 qC_14 qC_15 qC_16 qC_7) rfl rfl rfl (by decide +kernel) ⟨by dsimp only; omega, by dsimp only; omega⟩) (xc_26 G h) (by decide) rfl rfl rfl (Nat.le_of_ble_eq_true rfl) (fun r1 h2 => ?_)
  refine x_istore_n (lv' := [(2, .int r1), (0, .ref (xad G 50)), (1, .int p1)]) C.1 dX0_passTree_11 rfl (by decide) rfl ?_
  refine x_iload_n C.1 dX0_passTree_12 rfl 0 rfl ?_
  refine x_bipush (v := 46) C.1 dX0_passTree_13 (by decide) ?_
  refine x_icmp_ne (tgt := 43) C.1 dX0_passTree_15 (by decide) ?_ ?_
  · refine x_aload_n C.1 dX0_passTree_18 rfl 1 rfl ?_
    refine x_get (v := .ref (xad G 30)) C.1 0 dX0_passTree_19 (xc_50 G h2) rfl (by decide) rfl (fun w h => List.mem_cons_of_mem _ (iWC_X0 w h)) (by decide) rfl (C.1.2.2.2.2.1 _ (List.mem_cons_of_mem _ qC_63)) ?_
    refine z_callVi C dX0_passTree_22 (M_X1_judge_30 G l N h2) (cwV 0 C.1.2.2.2.2.1 (gdV gWC qC_87 qC_88 qC_89 qC_32 qC_26) rfl rfl rfl (by decide +kernel) ⟨by dsimp only; omega, by dsimp only; omega⟩) (xc_30 G h2) (by decide) rfl rfl rfl (Nat.le_of_ble_eq_true rfl) (fun r3 h4 => ?_)
    refine x_if_ne (tgt := 41) C.1 dX0_passTree_25 (by decide) ?_ ?_
    · refine x_aload_n C.1 dX0_passTree_28 rfl 1 rfl ?_
      refine x_bipush (v := 46) C.1 dX0_passTree_29 (by decide) ?_
      refine z_callVi C dX0_passTree_31 (M_X0_pass_t26 G l N 46 h4) (cwV 1 C.1.2.2.2.2.1 (gdV gWC qC_47 qC_48 qC_49 qC_50 qC_10) rfl rfl rfl (by decide +kernel) ⟨by dsimp only; omega, by dsimp only; omega⟩) (xc_50 G h4) (by decide) rfl rfl rfl (Nat.le_of_ble_eq_true rfl) (fun r5 h6 => ?_)
      refine x_if_eq (tgt := 41) C.1 dX0_passTree_34 (by decide) ?_ ?_
      · exact x_sub [] rfl (T_X0_passTree_t26_41 C hr hA h6)
      · refine x_iconst (v := 1) C.1 dX0_passTree_37 (by decide) ?_
        refine x_goto (tgt := 42) C.1 dX0_passTree_38 (by decide) ?_
        exact x_zretL C.1 dX0_passTree_42 hr rfl
    · exact x_sub [] rfl (T_X0_passTree_t26_41 C hr hA h4)
  · refine x_iload_n C.1 dX0_passTree_43 rfl 0 rfl ?_
    refine x_bipush (v := 33) C.1 dX0_passTree_44 (by decide) ?_
    refine x_icmp_ne (tgt := 54) C.1 dX0_passTree_46 (by decide) ?_ ?_
    · refine x_aload_n C.1 dX0_passTree_49 rfl 1 rfl ?_
      refine z_callVi C dX0_passTree_50 (M_X0_passRound_t26 G l N h2) (cwV 0 C.1.2.2.2.2.1 (gdV gWC qC_90 qC_91 qC_92 qC_50 qC_82) rfl rfl rfl (by decide +kernel) ⟨by dsimp only; omega, by dsimp only; omega⟩) (xc_50 G h2) (by decide) rfl rfl rfl (Nat.le_of_ble_eq_true rfl) (fun r7 h8 => ?_)
      exact x_zret C.1 dX0_passTree_53 hr
    · refine x_iload_n C.1 dX0_passTree_54 rfl 2 rfl ?_
      refine x_bipush (v := 10) C.1 dX0_passTree_55 (by decide) ?_
      refine x_icmp_ge (tgt := 76) C.1 dX0_passTree_57 (by decide) ?_ ?_
      · exact x_sub [] rfl (T_X0_passTree_t26_76 C hr hA h2)
      · refine x_aload_n C.1 dX0_passTree_60 rfl 1 rfl ?_
        refine x_iload_n C.1 dX0_passTree_61 rfl 0 rfl ?_
        refine z_callNi (host := RX8) C dX0_passTree_62 (M_X8_figureOf G l N r1 h2) ⟨va_cnB 1 C.1.2.2.2.2.1 (gdN gWC qC_36) rfl rfl rfl C.2.1 (C.1.2.2.2.2.1 _ (List.mem_cons_of_mem _ qC_52)) (by decide +kernel) ⟨by dsimp only; omega, by dsimp only; omega⟩, (C.1.2.2.2.2.1 _ (List.mem_cons_of_mem _ qC_51)), trivial⟩ rfl rfl (Nat.le_of_ble_eq_true rfl) (fun r9 h10 => ?_)
        refine x_iload_n C.1 dX0_passTree_65 rfl 2 rfl ?_
        refine z_callVi C dX0_passTree_66 (M_X0_passBranches_t26 G l N hA r9 p1 h10) (cwV 2 C.1.2.2.2.2.1 (gdV gWC qC_93 qC_94 qC_95 qC_50 qC_96) rfl rfl rfl (by decide +kernel) ⟨by dsimp only; omega, by dsimp only; omega⟩) (xc_50 G h10) (by decide) rfl rfl rfl (Nat.le_of_ble_eq_true rfl) (fun r11 h12 => ?_)
        refine x_if_eq (tgt := 76) C.1 dX0_passTree_69 (by decide) ?_ ?_
        · exact x_sub [] rfl (T_X0_passTree_t26_76 C hr hA h12)
        · refine x_iconst (v := 1) C.1 dX0_passTree_72 (by decide) ?_
          refine x_goto (tgt := 77) C.1 dX0_passTree_73 (by decide) ?_
          exact x_zretL C.1 dX0_passTree_77 hr rfl
set_option maxHeartbeats 4000000 in
set_option maxRecDepth 100000 in
theorem M_X0_passTree_t26 (G : xG) (l : Launch) (N : Nat) : ∀ (d : Nat) (p1 : Int32) (h : xHp) (r : Int32 × xHp), F_X0_passTree_t26 N d p1 h = some r → Met l yX0_passTree vX0_passTree ({ frames := 4 + 2 * d, cells := 0, slots := 0, locals := 125 + 44 * d } : Room) (xPz G [.ref (xad G 50), .int p1] h) (xQi G r) 0 0 (xA G) := by
  intro d
  induction d with
  | zero => intros; rename_i hx; cases hx
  | succ d ih => intro p1 h r hx; exact M_X0_passTree_t26_r G l N (rA := F_X0_passTree_t26 N d) ih p1 h r hx
/-! X0_findFault_t26: 24 instructions -/
abbrev J_X0_findFault_t26 (G : xG) (p : Program) (l : Launch) (e : Env) (s : State) (m : MethodId) (args : Array Value) (below : List Frame) (meth : Method) (c : Code) : Nat → List (Nat × Value) → List Value → xHp → Option (Int32 × xHp) → Prop := xJ G p l e ({ frames := 29, cells := 0, slots := 0, locals := 675 } : Room) s m args below meth c 2 (fun res => MQ below (xQi G res) args s 0 0 (xA G))
def F_X0_findFault_t26_43 (N : Nat) (h : xHp) : Option (Int32 × xHp) := some ((gI h 50 3), h)
def F_X0_findFault_t26 (N : Nat) (h : xHp) : Option (Int32 × xHp) := bnd (sT h 26) fun h1 => bnd (sI h1 50 3 0) fun h2 => bnd2 (F_X1_giveNothing_30 N h2) fun r3 h4 => bnd2 (F_X0_passTree_t26 N 12 0 h4) fun r5 h6 => if r5 = 0 then F_X0_findFault_t26_43 N h6 else grd (decide (h6.2.2 = 26)) (if (gI h6 50 3) = (gI h6 26 1) then some ((-1), h6) else F_X0_findFault_t26_43 N h6)
set_option maxHeartbeats 4000000 in
set_option maxRecDepth 100000 in
theorem T_X0_findFault_t26_43 {G : xG} {p : Program} {l : Launch} {e : Env} {s : State} {m : MethodId} {args : Array Value} {below : List Frame} {meth : Method} {c : Code} {N : Nat} (C : xCz G p s m args meth c cX0_findFault 2 vX0_findFault RX0) (hr : meth.sig.returnType = (some .int)) (h : xHp) : J_X0_findFault_t26 G p l e s m args below meth c 43 [(0, .ref (xad G 50))] [] h (F_X0_findFault_t26_43 N h) := by
  unfold F_X0_findFault_t26_43
  refine x_aload_n C.1 dX0_findFault_43 rfl 0 rfl ?_
  refine x_get (v := .int (gI h 50 3)) C.1 3 dX0_findFault_44 (xc_50 G h) rfl (by decide) rfl (fun w h => List.mem_cons_of_mem _ (iWC_X0 w h)) (by decide) rfl (C.1.2.2.2.2.1 _ (List.mem_cons_of_mem _ qC_12)) ?_
  exact x_iret C.1 dX0_findFault_47 hr
set_option maxHeartbeats 4000000 in
set_option maxRecDepth 100000 in
theorem M_X0_findFault_t26 (G : xG) (l : Launch) (N : Nat) (h : xHp) : ∀ r, F_X0_findFault_t26 N h = some r → Met l yX0_findFault vX0_findFault ({ frames := 29, cells := 0, slots := 0, locals := 675 } : Room) (xPz G [.ref (xad G 50), .ref (xad G 26)] h) (xQi G r) 0 0 (xA G) := by
  refine z_met (own := RX0) (cc := cX0_findFault) (maxL := 2) (ret := (some .int)) (lv0 := [(0, .ref (xad G 50)), (1, .ref (xad G 26))]) (by decide +kernel) rfl rfl (Nat.le_of_ble_eq_true rfl) rfl ?_
  intro p e s m below meth c C hr
  unfold F_X0_findFault_t26
  refine x_aload_n C.1 dX0_findFault_0 rfl 0 rfl ?_
  refine x_aload_n C.1 dX0_findFault_1 rfl 1 rfl ?_
  refine x_putT (ty0 := tyX0) (ty := .object "DistanceSolver$Text") C.1 2 dX0_findFault_2 (xc_50 G h) rfl (Nat.le_of_ble_eq_true rfl) (by decide) rfl (fun w h => List.mem_cons_of_mem _ (iWC_X0 w h)) tyX0_ok nmX0 (by decide) rfl rfl (by decide +kernel) rfl rfl (C.1.2.2.2.2.1 _ (List.mem_cons_of_mem _ qC_11)) (fun h1 => ?_)
  refine x_aload_n C.1 dX0_findFault_5 rfl 0 rfl ?_
  refine x_iconst (v := 0) C.1 dX0_findFault_6 (by decide) ?_
  refine x_putI (ty0 := tyX0) (ty := .int) C.1 3 dX0_findFault_7 (xc_50 G h1) rfl (Nat.le_of_ble_eq_true rfl) (by decide) rfl (fun w h => List.mem_cons_of_mem _ (iWC_X0 w h)) tyX0_ok nmX0 (by decide) rfl rfl (by decide +kernel) rfl rfl (C.1.2.2.2.2.1 _ (List.mem_cons_of_mem _ qC_12)) (fun h2 => ?_)
  refine x_aload_n C.1 dX0_findFault_10 rfl 0 rfl ?_
  refine x_get (v := .ref (xad G 30)) C.1 0 dX0_findFault_11 (xc_50 G h2) rfl (by decide) rfl (fun w h => List.mem_cons_of_mem _ (iWC_X0 w h)) (by decide) rfl (C.1.2.2.2.2.1 _ (List.mem_cons_of_mem _ qC_63)) ?_
  refine z_callVv C dX0_findFault_14 (M_X1_giveNothing_30 G l N h2) (cwV 0 C.1.2.2.2.2.1 (gdV gWC qC_98 qC_99 qC_100 qC_32 qC_2) rfl rfl rfl (by decide +kernel) ⟨Nat.le_of_ble_eq_true rfl, Nat.le_of_ble_eq_true rfl⟩) (xc_30 G h2) (by decide) rfl rfl rfl (Nat.le_of_ble_eq_true rfl) (fun r3 h4 => ?_)
  refine x_aload_n C.1 dX0_findFault_17 rfl 0 rfl ?_
  refine x_iconst (v := 0) C.1 dX0_findFault_18 (by decide) ?_
  refine z_callVi C dX0_findFault_19 (M_X0_passTree_t26 G l N 12 0 h4) (cwV 1 C.1.2.2.2.2.1 (gdV gWC qC_83 qC_84 qC_85 qC_50 qC_86) rfl rfl rfl (by decide +kernel) ⟨Nat.le_of_ble_eq_true rfl, Nat.le_of_ble_eq_true rfl⟩) (xc_50 G h4) (by decide) rfl rfl rfl (Nat.le_of_ble_eq_true rfl) (fun r5 h6 => ?_)
  refine x_if_eq (tgt := 43) C.1 dX0_findFault_22 (by decide) ?_ ?_
  · exact x_sub [0] rfl (T_X0_findFault_t26_43 C hr h6)
  · refine x_aload_n C.1 dX0_findFault_25 rfl 0 rfl ?_
    refine x_get (v := .int (gI h6 50 3)) C.1 3 dX0_findFault_26 (xc_50 G h6) rfl (by decide) rfl (fun w h => List.mem_cons_of_mem _ (iWC_X0 w h)) (by decide) rfl (C.1.2.2.2.2.1 _ (List.mem_cons_of_mem _ qC_12)) ?_
    refine x_aload_n C.1 dX0_findFault_29 rfl 0 rfl ?_
    refine x_getT (t := 26) C.1 2 dX0_findFault_30 (xc_50 G h6) rfl (by decide) rfl (fun w h => List.mem_cons_of_mem _ (iWC_X0 w h)) (by decide) rfl (C.1.2.2.2.2.1 _ (List.mem_cons_of_mem _ qC_11)) ?_
    refine x_get (v := .int (gI h6 26 1)) C.1 1 dX0_findFault_33 (xc_26 G h6) rfl (by decide) rfl (fun w h => List.mem_cons_of_mem _ (iWC_X6 w h)) (by decide) rfl (C.1.2.2.2.2.1 _ (List.mem_cons_of_mem _ qC_97)) ?_
    refine x_icmp_ne (tgt := 43) C.1 dX0_findFault_36 (by decide) ?_ ?_
    · refine x_iconst (v := (-1)) C.1 dX0_findFault_39 (by decide) ?_
      refine x_goto (tgt := 47) C.1 dX0_findFault_40 (by decide) ?_
      exact x_iret C.1 dX0_findFault_47 hr
    · exact x_sub [0] rfl (T_X0_findFault_t26_43 C hr h6)
/-! X8_check: 39 instructions -/
abbrev J_X8_check (G : xG) (p : Program) (l : Launch) (e : Env) (s : State) (m : MethodId) (args : Array Value) (below : List Frame) (meth : Method) (c : Code) : Nat → List (Nat × Value) → List Value → xHp → Option (Int32 × xHp) → Prop := xJ G p l e ({ frames := 30, cells := 0, slots := 0, locals := 696 } : Room) s m args below meth c 3 (fun res => MQ below (xQi G res) args s 0 0 (xA G))
def F_X8_check (N : Nat) (p1 : Int32) (h : xHp) : Option (Int32 × xHp) := if (gI h 0 9) = 0 then some ((-20000), h) else if p1 = 0 then bnd2 (F_X0_findFault_t28 N h) fun r1 h2 => if p1 = 0 then if r1 = (-1) then bnd (sI h2 0 10 0) fun h3 => if r1 = (-1) then some (0, h3) else some (((-1) - r1), h3) else bnd (sI h2 0 10 1) fun h4 => if r1 = (-1) then some (0, h4) else some (((-1) - r1), h4) else bnd (sI h2 26 1 0) fun h5 => if r1 = (-1) then bnd (sI h5 0 10 0) fun h6 => if r1 = (-1) then some (0, h6) else some (((-1) - r1), h6) else bnd (sI h5 0 10 1) fun h7 => if r1 = (-1) then some (0, h7) else some (((-1) - r1), h7) else bnd2 (F_X0_findFault_t26 N h) fun r8 h9 => if p1 = 0 then if r8 = (-1) then bnd (sI h9 0 10 0) fun h10 => if r8 = (-1) then some (0, h10) else some (((-1) - r8), h10) else bnd (sI h9 0 10 1) fun h11 => if r8 = (-1) then some (0, h11) else some (((-1) - r8), h11) else bnd (sI h9 26 1 0) fun h12 => if r8 = (-1) then bnd (sI h12 0 10 0) fun h13 => if r8 = (-1) then some (0, h13) else some (((-1) - r8), h13) else bnd (sI h12 0 10 1) fun h14 => if r8 = (-1) then some (0, h14) else some (((-1) - r8), h14)
set_option maxHeartbeats 4000000 in
set_option maxRecDepth 100000 in
theorem M_X8_check (G : xG) (l : Launch) (N : Nat) (p1 : Int32) (h : xHp) : ∀ r, F_X8_check N p1 h = some r → Met l yX8_check vX8_check ({ frames := 30, cells := 0, slots := 0, locals := 696 } : Room) (xPz G [.ref (xad G 0), .int p1] h) (xQi G r) 0 0 (xA G) := by
  refine z_met (own := RX8) (cc := cX8_check) (maxL := 3) (ret := (some .int)) (lv0 := [(0, .ref (xad G 0)), (1, .int p1)]) (by decide +kernel) rfl rfl (Nat.le_of_ble_eq_true rfl) rfl ?_
  intro p e s m below meth c C hr
  unfold F_X8_check
  refine x_aload_n C.1 dX8_check_0 rfl 0 rfl ?_
  refine x_get (v := .int (gI h 0 9)) C.1 9 dX8_check_1 (xc_0 G h) rfl (by decide) rfl (fun w h => List.mem_cons_of_mem _ (iWC_X8 w h)) (by decide) rfl (C.1.2.2.2.2.1 _ (List.mem_cons_of_mem _ qC_420)) ?_
  refine x_if_ne (tgt := 11) C.1 dX8_check_4 (by decide) ?_ ?_
  · refine x_sipush (v := (-20000)) C.1 dX8_check_7 (by decide) ?_
    exact x_iret C.1 dX8_check_10 hr
  · refine x_aload_n C.1 dX8_check_11 rfl 0 rfl ?_
    refine x_get (v := .ref (xad G 50)) C.1 14 dX8_check_12 (xc_0 G h) rfl (by decide) rfl (fun w h => List.mem_cons_of_mem _ (iWC_X8 w h)) (by decide) rfl (C.1.2.2.2.2.1 _ (List.mem_cons_of_mem _ qC_468)) ?_
    refine x_iload_n C.1 dX8_check_15 rfl 1 rfl ?_
    refine x_if_eq (tgt := 26) C.1 dX8_check_16 (by decide) ?_ ?_
    · refine x_aload_n C.1 dX8_check_26 rfl 0 rfl ?_
      refine x_get (v := .ref (xad G 28)) C.1 6 dX8_check_27 (xc_0 G h) rfl (by decide) rfl (fun w h => List.mem_cons_of_mem _ (iWC_X8 w h)) (by decide) rfl (C.1.2.2.2.2.1 _ (List.mem_cons_of_mem _ qC_460)) ?_
      refine z_callVi C dX8_check_30 (M_X0_findFault_t28 G l N h) (cwV 1 C.1.2.2.2.2.1 (gdV gWC qC_469 qC_470 qC_471 qC_50 qC_101) rfl rfl rfl (by decide +kernel) ⟨Nat.le_of_ble_eq_true rfl, Nat.le_of_ble_eq_true rfl⟩) (xc_50 G h) (by decide) rfl rfl rfl (Nat.le_of_ble_eq_true rfl) (fun r1 h2 => ?_)
      refine x_istore_n (lv' := [(2, .int r1), (0, .ref (xad G 0)), (1, .int p1)]) C.1 dX8_check_33 rfl (by decide) rfl ?_
      refine x_iload_n C.1 dX8_check_34 rfl 2 rfl ?_
      refine x_if_eq (tgt := 46) C.1 dX8_check_35 (by decide) ?_ ?_
      · refine x_aload_n C.1 dX8_check_46 rfl 1 rfl ?_
        refine x_iload_n C.1 dX8_check_47 rfl 0 rfl ?_
        refine x_iconst (v := (-1)) C.1 dX8_check_48 (by decide) ?_
        refine x_icmp_ne (tgt := 56) C.1 dX8_check_49 (by decide) ?_ ?_
        · refine x_iconst (v := 0) C.1 dX8_check_52 (by decide) ?_
          refine x_goto (tgt := 57) C.1 dX8_check_53 (by decide) ?_
          refine x_putI (ty0 := tyX8) (ty := .int) C.1 10 dX8_check_57 (xc_0 G h2) rfl (Nat.le_of_ble_eq_true rfl) (by decide) rfl (fun w h => List.mem_cons_of_mem _ (iWC_X8 w h)) tyX8_ok nmX8 (by decide) rfl rfl (by decide +kernel) rfl rfl (C.1.2.2.2.2.1 _ (List.mem_cons_of_mem _ qC_415)) (fun h3 => ?_)
          refine x_iload_n C.1 dX8_check_60 rfl 0 rfl ?_
          refine x_iconst (v := (-1)) C.1 dX8_check_61 (by decide) ?_
          refine x_icmp_ne (tgt := 69) C.1 dX8_check_62 (by decide) ?_ ?_
          · refine x_iconst (v := 0) C.1 dX8_check_65 (by decide) ?_
            refine x_goto (tgt := 72) C.1 dX8_check_66 (by decide) ?_
            exact x_iret C.1 dX8_check_72 hr
          · refine x_iconst (v := (-1)) C.1 dX8_check_69 (by decide) ?_
            refine x_iload_n C.1 dX8_check_70 rfl 0 rfl ?_
            refine x_isub C.1 dX8_check_71 ?_
            exact x_iret C.1 dX8_check_72 hr
        · refine x_iconst (v := 1) C.1 dX8_check_56 (by decide) ?_
          refine x_putI (ty0 := tyX8) (ty := .int) C.1 10 dX8_check_57 (xc_0 G h2) rfl (Nat.le_of_ble_eq_true rfl) (by decide) rfl (fun w h => List.mem_cons_of_mem _ (iWC_X8 w h)) tyX8_ok nmX8 (by decide) rfl rfl (by decide +kernel) rfl rfl (C.1.2.2.2.2.1 _ (List.mem_cons_of_mem _ qC_415)) (fun h4 => ?_)
          refine x_iload_n C.1 dX8_check_60 rfl 0 rfl ?_
          refine x_iconst (v := (-1)) C.1 dX8_check_61 (by decide) ?_
          refine x_icmp_ne (tgt := 69) C.1 dX8_check_62 (by decide) ?_ ?_
          · refine x_iconst (v := 0) C.1 dX8_check_65 (by decide) ?_
            refine x_goto (tgt := 72) C.1 dX8_check_66 (by decide) ?_
            exact x_iret C.1 dX8_check_72 hr
          · refine x_iconst (v := (-1)) C.1 dX8_check_69 (by decide) ?_
            refine x_iload_n C.1 dX8_check_70 rfl 0 rfl ?_
            refine x_isub C.1 dX8_check_71 ?_
            exact x_iret C.1 dX8_check_72 hr
      · refine x_aload_n C.1 dX8_check_38 rfl 1 rfl ?_
        refine x_get (v := .ref (xad G 26)) C.1 5 dX8_check_39 (xc_0 G h2) rfl (by decide) rfl (fun w h => List.mem_cons_of_mem _ (iWC_X8 w h)) (by decide) rfl (C.1.2.2.2.2.1 _ (List.mem_cons_of_mem _ qC_411)) ?_
        refine x_iconst (v := 0) C.1 dX8_check_42 (by decide) ?_
        refine x_putI (ty0 := tyX6) (ty := .int) C.1 1 dX8_check_43 (xc_26 G h2) rfl (Nat.le_of_ble_eq_true rfl) (by decide) rfl (fun w h => List.mem_cons_of_mem _ (iWC_X6 w h)) tyX6_ok nmX6 (by decide) rfl rfl (by decide +kernel) rfl rfl (C.1.2.2.2.2.1 _ (List.mem_cons_of_mem _ qC_412)) (fun h5 => ?_)
        refine x_aload_n C.1 dX8_check_46 rfl 1 rfl ?_
        refine x_iload_n C.1 dX8_check_47 rfl 0 rfl ?_
        refine x_iconst (v := (-1)) C.1 dX8_check_48 (by decide) ?_
        refine x_icmp_ne (tgt := 56) C.1 dX8_check_49 (by decide) ?_ ?_
        · refine x_iconst (v := 0) C.1 dX8_check_52 (by decide) ?_
          refine x_goto (tgt := 57) C.1 dX8_check_53 (by decide) ?_
          refine x_putI (ty0 := tyX8) (ty := .int) C.1 10 dX8_check_57 (xc_0 G h5) rfl (Nat.le_of_ble_eq_true rfl) (by decide) rfl (fun w h => List.mem_cons_of_mem _ (iWC_X8 w h)) tyX8_ok nmX8 (by decide) rfl rfl (by decide +kernel) rfl rfl (C.1.2.2.2.2.1 _ (List.mem_cons_of_mem _ qC_415)) (fun h6 => ?_)
          refine x_iload_n C.1 dX8_check_60 rfl 0 rfl ?_
          refine x_iconst (v := (-1)) C.1 dX8_check_61 (by decide) ?_
          refine x_icmp_ne (tgt := 69) C.1 dX8_check_62 (by decide) ?_ ?_
          · refine x_iconst (v := 0) C.1 dX8_check_65 (by decide) ?_
            refine x_goto (tgt := 72) C.1 dX8_check_66 (by decide) ?_
            exact x_iret C.1 dX8_check_72 hr
          · refine x_iconst (v := (-1)) C.1 dX8_check_69 (by decide) ?_
            refine x_iload_n C.1 dX8_check_70 rfl 0 rfl ?_
            refine x_isub C.1 dX8_check_71 ?_
            exact x_iret C.1 dX8_check_72 hr
        · refine x_iconst (v := 1) C.1 dX8_check_56 (by decide) ?_
          refine x_putI (ty0 := tyX8) (ty := .int) C.1 10 dX8_check_57 (xc_0 G h5) rfl (Nat.le_of_ble_eq_true rfl) (by decide) rfl (fun w h => List.mem_cons_of_mem _ (iWC_X8 w h)) tyX8_ok nmX8 (by decide) rfl rfl (by decide +kernel) rfl rfl (C.1.2.2.2.2.1 _ (List.mem_cons_of_mem _ qC_415)) (fun h7 => ?_)
          refine x_iload_n C.1 dX8_check_60 rfl 0 rfl ?_
          refine x_iconst (v := (-1)) C.1 dX8_check_61 (by decide) ?_
          refine x_icmp_ne (tgt := 69) C.1 dX8_check_62 (by decide) ?_ ?_
          · refine x_iconst (v := 0) C.1 dX8_check_65 (by decide) ?_
            refine x_goto (tgt := 72) C.1 dX8_check_66 (by decide) ?_
            exact x_iret C.1 dX8_check_72 hr
          · refine x_iconst (v := (-1)) C.1 dX8_check_69 (by decide) ?_
            refine x_iload_n C.1 dX8_check_70 rfl 0 rfl ?_
            refine x_isub C.1 dX8_check_71 ?_
            exact x_iret C.1 dX8_check_72 hr
    · refine x_aload_n C.1 dX8_check_19 rfl 0 rfl ?_
      refine x_get (v := .ref (xad G 26)) C.1 5 dX8_check_20 (xc_0 G h) rfl (by decide) rfl (fun w h => List.mem_cons_of_mem _ (iWC_X8 w h)) (by decide) rfl (C.1.2.2.2.2.1 _ (List.mem_cons_of_mem _ qC_411)) ?_
      refine x_goto (tgt := 30) C.1 dX8_check_23 (by decide) ?_
      refine z_callVi C dX8_check_30 (M_X0_findFault_t26 G l N h) (cwV 1 C.1.2.2.2.2.1 (gdV gWC qC_469 qC_470 qC_471 qC_50 qC_101) rfl rfl rfl (by decide +kernel) ⟨Nat.le_of_ble_eq_true rfl, Nat.le_of_ble_eq_true rfl⟩) (xc_50 G h) (by decide) rfl rfl rfl (Nat.le_of_ble_eq_true rfl) (fun r8 h9 => ?_)
      refine x_istore_n (lv' := [(2, .int r8), (0, .ref (xad G 0)), (1, .int p1)]) C.1 dX8_check_33 rfl (by decide) rfl ?_
      refine x_iload_n C.1 dX8_check_34 rfl 2 rfl ?_
      refine x_if_eq (tgt := 46) C.1 dX8_check_35 (by decide) ?_ ?_
      · refine x_aload_n C.1 dX8_check_46 rfl 1 rfl ?_
        refine x_iload_n C.1 dX8_check_47 rfl 0 rfl ?_
        refine x_iconst (v := (-1)) C.1 dX8_check_48 (by decide) ?_
        refine x_icmp_ne (tgt := 56) C.1 dX8_check_49 (by decide) ?_ ?_
        · refine x_iconst (v := 0) C.1 dX8_check_52 (by decide) ?_
          refine x_goto (tgt := 57) C.1 dX8_check_53 (by decide) ?_
          refine x_putI (ty0 := tyX8) (ty := .int) C.1 10 dX8_check_57 (xc_0 G h9) rfl (Nat.le_of_ble_eq_true rfl) (by decide) rfl (fun w h => List.mem_cons_of_mem _ (iWC_X8 w h)) tyX8_ok nmX8 (by decide) rfl rfl (by decide +kernel) rfl rfl (C.1.2.2.2.2.1 _ (List.mem_cons_of_mem _ qC_415)) (fun h10 => ?_)
          refine x_iload_n C.1 dX8_check_60 rfl 0 rfl ?_
          refine x_iconst (v := (-1)) C.1 dX8_check_61 (by decide) ?_
          refine x_icmp_ne (tgt := 69) C.1 dX8_check_62 (by decide) ?_ ?_
          · refine x_iconst (v := 0) C.1 dX8_check_65 (by decide) ?_
            refine x_goto (tgt := 72) C.1 dX8_check_66 (by decide) ?_
            exact x_iret C.1 dX8_check_72 hr
          · refine x_iconst (v := (-1)) C.1 dX8_check_69 (by decide) ?_
            refine x_iload_n C.1 dX8_check_70 rfl 0 rfl ?_
            refine x_isub C.1 dX8_check_71 ?_
            exact x_iret C.1 dX8_check_72 hr
        · refine x_iconst (v := 1) C.1 dX8_check_56 (by decide) ?_
          refine x_putI (ty0 := tyX8) (ty := .int) C.1 10 dX8_check_57 (xc_0 G h9) rfl (Nat.le_of_ble_eq_true rfl) (by decide) rfl (fun w h => List.mem_cons_of_mem _ (iWC_X8 w h)) tyX8_ok nmX8 (by decide) rfl rfl (by decide +kernel) rfl rfl (C.1.2.2.2.2.1 _ (List.mem_cons_of_mem _ qC_415)) (fun h11 => ?_)
          refine x_iload_n C.1 dX8_check_60 rfl 0 rfl ?_
          refine x_iconst (v := (-1)) C.1 dX8_check_61 (by decide) ?_
          refine x_icmp_ne (tgt := 69) C.1 dX8_check_62 (by decide) ?_ ?_
          · refine x_iconst (v := 0) C.1 dX8_check_65 (by decide) ?_
            refine x_goto (tgt := 72) C.1 dX8_check_66 (by decide) ?_
            exact x_iret C.1 dX8_check_72 hr
          · refine x_iconst (v := (-1)) C.1 dX8_check_69 (by decide) ?_
            refine x_iload_n C.1 dX8_check_70 rfl 0 rfl ?_
            refine x_isub C.1 dX8_check_71 ?_
            exact x_iret C.1 dX8_check_72 hr
      · refine x_aload_n C.1 dX8_check_38 rfl 1 rfl ?_
        refine x_get (v := .ref (xad G 26)) C.1 5 dX8_check_39 (xc_0 G h9) rfl (by decide) rfl (fun w h => List.mem_cons_of_mem _ (iWC_X8 w h)) (by decide) rfl (C.1.2.2.2.2.1 _ (List.mem_cons_of_mem _ qC_411)) ?_
        refine x_iconst (v := 0) C.1 dX8_check_42 (by decide) ?_
        refine x_putI (ty0 := tyX6) (ty := .int) C.1 1 dX8_check_43 (xc_26 G h9) rfl (Nat.le_of_ble_eq_true rfl) (by decide) rfl (fun w h => List.mem_cons_of_mem _ (iWC_X6 w h)) tyX6_ok nmX6 (by decide) rfl rfl (by decide +kernel) rfl rfl (C.1.2.2.2.2.1 _ (List.mem_cons_of_mem _ qC_412)) (fun h12 => ?_)
        refine x_aload_n C.1 dX8_check_46 rfl 1 rfl ?_
        refine x_iload_n C.1 dX8_check_47 rfl 0 rfl ?_
        refine x_iconst (v := (-1)) C.1 dX8_check_48 (by decide) ?_
        refine x_icmp_ne (tgt := 56) C.1 dX8_check_49 (by decide) ?_ ?_
        · refine x_iconst (v := 0) C.1 dX8_check_52 (by decide) ?_
          refine x_goto (tgt := 57) C.1 dX8_check_53 (by decide) ?_
          refine x_putI (ty0 := tyX8) (ty := .int) C.1 10 dX8_check_57 (xc_0 G h12) rfl (Nat.le_of_ble_eq_true rfl) (by decide) rfl (fun w h => List.mem_cons_of_mem _ (iWC_X8 w h)) tyX8_ok nmX8 (by decide) rfl rfl (by decide +kernel) rfl rfl (C.1.2.2.2.2.1 _ (List.mem_cons_of_mem _ qC_415)) (fun h13 => ?_)
          refine x_iload_n C.1 dX8_check_60 rfl 0 rfl ?_
          refine x_iconst (v := (-1)) C.1 dX8_check_61 (by decide) ?_
          refine x_icmp_ne (tgt := 69) C.1 dX8_check_62 (by decide) ?_ ?_
          · refine x_iconst (v := 0) C.1 dX8_check_65 (by decide) ?_
            refine x_goto (tgt := 72) C.1 dX8_check_66 (by decide) ?_
            exact x_iret C.1 dX8_check_72 hr
          · refine x_iconst (v := (-1)) C.1 dX8_check_69 (by decide) ?_
            refine x_iload_n C.1 dX8_check_70 rfl 0 rfl ?_
            refine x_isub C.1 dX8_check_71 ?_
            exact x_iret C.1 dX8_check_72 hr
        · refine x_iconst (v := 1) C.1 dX8_check_56 (by decide) ?_
          refine x_putI (ty0 := tyX8) (ty := .int) C.1 10 dX8_check_57 (xc_0 G h12) rfl (Nat.le_of_ble_eq_true rfl) (by decide) rfl (fun w h => List.mem_cons_of_mem _ (iWC_X8 w h)) tyX8_ok nmX8 (by decide) rfl rfl (by decide +kernel) rfl rfl (C.1.2.2.2.2.1 _ (List.mem_cons_of_mem _ qC_415)) (fun h14 => ?_)
          refine x_iload_n C.1 dX8_check_60 rfl 0 rfl ?_
          refine x_iconst (v := (-1)) C.1 dX8_check_61 (by decide) ?_
          refine x_icmp_ne (tgt := 69) C.1 dX8_check_62 (by decide) ?_ ?_
          · refine x_iconst (v := 0) C.1 dX8_check_65 (by decide) ?_
            refine x_goto (tgt := 72) C.1 dX8_check_66 (by decide) ?_
            exact x_iret C.1 dX8_check_72 hr
          · refine x_iconst (v := (-1)) C.1 dX8_check_69 (by decide) ?_
            refine x_iload_n C.1 dX8_check_70 rfl 0 rfl ?_
            refine x_isub C.1 dX8_check_71 ?_
            exact x_iret C.1 dX8_check_72 hr
/-! X1_makeEmpty_30: 7 instructions -/
abbrev J_X1_makeEmpty_30 (G : xG) (p : Program) (l : Launch) (e : Env) (s : State) (m : MethodId) (args : Array Value) (below : List Frame) (meth : Method) (c : Code) : Nat → List (Nat × Value) → List Value → xHp → Option (Unit × xHp) → Prop := xJ G p l e ({ frames := 0, cells := 0, slots := 0, locals := 0 } : Room) s m args below meth c 1 (fun res => MQ below (xQv G res) args s 0 0 (xA G))
def F_X1_makeEmpty_30 (N : Nat) (h : xHp) : Option (Unit × xHp) := bnd (sI h 30 3 0) fun h1 => bnd (sI h1 30 6 0) fun h2 => some ((), h2)
set_option maxHeartbeats 4000000 in
set_option maxRecDepth 100000 in
theorem M_X1_makeEmpty_30 (G : xG) (l : Launch) (N : Nat) (h : xHp) : ∀ r, F_X1_makeEmpty_30 N h = some r → Met l yX1_makeEmpty vX1_makeEmpty ({ frames := 0, cells := 0, slots := 0, locals := 0 } : Room) (xPz G [.ref (xad G 30)] h) (xQv G r) 0 0 (xA G) := by
  refine z_met (own := RX1) (cc := cX1_makeEmpty) (maxL := 1) (ret := none) (lv0 := [(0, .ref (xad G 30))]) (by decide +kernel) rfl rfl (Nat.le_of_ble_eq_true rfl) rfl ?_
  intro p e s m below meth c C hr
  unfold F_X1_makeEmpty_30
  refine x_aload_n C.1 dX1_makeEmpty_0 rfl 0 rfl ?_
  refine x_iconst (v := 0) C.1 dX1_makeEmpty_1 (by decide) ?_
  refine x_putI (ty0 := tyX1) (ty := .int) C.1 3 dX1_makeEmpty_2 (xc_30 G h) rfl (Nat.le_of_ble_eq_true rfl) (by decide) rfl (fun w h => List.mem_cons_of_mem _ (iWC_X1 w h)) tyX1_ok nmX1 (by decide) rfl rfl (by decide +kernel) rfl rfl (C.1.2.2.2.2.1 _ (List.mem_cons_of_mem _ qC_104)) (fun h1 => ?_)
  refine x_aload_n C.1 dX1_makeEmpty_5 rfl 0 rfl ?_
  refine x_iconst (v := 0) C.1 dX1_makeEmpty_6 (by decide) ?_
  refine x_putI (ty0 := tyX1) (ty := .int) C.1 6 dX1_makeEmpty_7 (xc_30 G h1) rfl (Nat.le_of_ble_eq_true rfl) (by decide) rfl (fun w h => List.mem_cons_of_mem _ (iWC_X1 w h)) tyX1_ok nmX1 (by decide) rfl rfl (by decide +kernel) rfl rfl (C.1.2.2.2.2.1 _ (List.mem_cons_of_mem _ qC_27)) (fun h2 => ?_)
  exact x_vret C.1 dX1_makeEmpty_10 hr
/-! X8_clear: 32 instructions -/
abbrev J_X8_clear (G : xG) (p : Program) (l : Launch) (e : Env) (s : State) (m : MethodId) (args : Array Value) (below : List Frame) (meth : Method) (c : Code) : Nat → List (Nat × Value) → List Value → xHp → Option (Unit × xHp) → Prop := xJ G p l e ({ frames := 1, cells := 0, slots := 0, locals := 21 } : Room) s m args below meth c 1 (fun res => MQ below (xQv G res) args s 0 0 (xA G))
def F_X8_clear (N : Nat) (h : xHp) : Option (Unit × xHp) := bnd2 (F_X2_cutTo N 0 h) fun r1 h2 => bnd (sI h2 0 2 0) fun h3 => bnd (sI h3 0 4 0) fun h4 => bnd (sI h4 26 1 0) fun h5 => bnd (sI h5 28 1 0) fun h6 => bnd2 (F_X1_makeEmpty_30 N h6) fun r7 h8 => bnd (sI h8 0 9 0) fun h9 => bnd (sI h9 0 10 0) fun h10 => bnd (sI h10 47 2 0) fun h11 => some ((), h11)
set_option maxHeartbeats 4000000 in
set_option maxRecDepth 100000 in
theorem M_X8_clear (G : xG) (l : Launch) (N : Nat) (h : xHp) : ∀ r, F_X8_clear N h = some r → Met l yX8_clear vX8_clear ({ frames := 1, cells := 0, slots := 0, locals := 21 } : Room) (xPz G [.ref (xad G 0)] h) (xQv G r) 0 0 (xA G) := by
  refine z_met (own := RX8) (cc := cX8_clear) (maxL := 1) (ret := none) (lv0 := [(0, .ref (xad G 0))]) (by decide +kernel) rfl rfl (Nat.le_of_ble_eq_true rfl) rfl ?_
  intro p e s m below meth c C hr
  unfold F_X8_clear
  refine x_aload_n C.1 dX8_clear_0 rfl 0 rfl ?_
  refine x_get (v := .ref (xad G 1)) C.1 0 dX8_clear_1 (xc_0 G h) rfl (by decide) rfl (fun w h => List.mem_cons_of_mem _ (iWC_X8 w h)) (by decide) rfl (C.1.2.2.2.2.1 _ (List.mem_cons_of_mem _ qC_363)) ?_
  refine x_iconst (v := 0) C.1 dX8_clear_4 (by decide) ?_
  refine z_callVv C dX8_clear_5 (M_X2_cutTo G l N 0 h) (cwV 1 C.1.2.2.2.2.1 (gdV gWC qC_388 qC_306 qC_307 qC_144 qC_165) rfl rfl rfl (by decide +kernel) ⟨Nat.le_of_ble_eq_true rfl, Nat.le_of_ble_eq_true rfl⟩) (xc_1 G h) (by decide) rfl rfl rfl (Nat.le_of_ble_eq_true rfl) (fun r1 h2 => ?_)
  refine x_aload_n C.1 dX8_clear_8 rfl 0 rfl ?_
  refine x_iconst (v := 0) C.1 dX8_clear_9 (by decide) ?_
  refine x_putI (ty0 := tyX8) (ty := .int) C.1 2 dX8_clear_10 (xc_0 G h2) rfl (Nat.le_of_ble_eq_true rfl) (by decide) rfl (fun w h => List.mem_cons_of_mem _ (iWC_X8 w h)) tyX8_ok nmX8 (by decide) rfl rfl (by decide +kernel) rfl rfl (C.1.2.2.2.2.1 _ (List.mem_cons_of_mem _ qC_385)) (fun h3 => ?_)
  refine x_aload_n C.1 dX8_clear_13 rfl 0 rfl ?_
  refine x_iconst (v := 0) C.1 dX8_clear_14 (by decide) ?_
  refine x_putI (ty0 := tyX8) (ty := .int) C.1 4 dX8_clear_15 (xc_0 G h3) rfl (Nat.le_of_ble_eq_true rfl) (by decide) rfl (fun w h => List.mem_cons_of_mem _ (iWC_X8 w h)) tyX8_ok nmX8 (by decide) rfl rfl (by decide +kernel) rfl rfl (C.1.2.2.2.2.1 _ (List.mem_cons_of_mem _ qC_362)) (fun h4 => ?_)
  refine x_aload_n C.1 dX8_clear_18 rfl 0 rfl ?_
  refine x_get (v := .ref (xad G 26)) C.1 5 dX8_clear_19 (xc_0 G h4) rfl (by decide) rfl (fun w h => List.mem_cons_of_mem _ (iWC_X8 w h)) (by decide) rfl (C.1.2.2.2.2.1 _ (List.mem_cons_of_mem _ qC_411)) ?_
  refine x_iconst (v := 0) C.1 dX8_clear_22 (by decide) ?_
  refine x_putI (ty0 := tyX6) (ty := .int) C.1 1 dX8_clear_23 (xc_26 G h4) rfl (Nat.le_of_ble_eq_true rfl) (by decide) rfl (fun w h => List.mem_cons_of_mem _ (iWC_X6 w h)) tyX6_ok nmX6 (by decide) rfl rfl (by decide +kernel) rfl rfl (C.1.2.2.2.2.1 _ (List.mem_cons_of_mem _ qC_412)) (fun h5 => ?_)
  refine x_aload_n C.1 dX8_clear_26 rfl 0 rfl ?_
  refine x_get (v := .ref (xad G 28)) C.1 6 dX8_clear_27 (xc_0 G h5) rfl (by decide) rfl (fun w h => List.mem_cons_of_mem _ (iWC_X8 w h)) (by decide) rfl (C.1.2.2.2.2.1 _ (List.mem_cons_of_mem _ qC_460)) ?_
  refine x_iconst (v := 0) C.1 dX8_clear_30 (by decide) ?_
  refine x_putI (ty0 := tyX6) (ty := .int) C.1 1 dX8_clear_31 (xc_28 G h5) rfl (Nat.le_of_ble_eq_true rfl) (by decide) rfl (fun w h => List.mem_cons_of_mem _ (iWC_X6 w h)) tyX6_ok nmX6 (by decide) rfl rfl (by decide +kernel) rfl rfl (C.1.2.2.2.2.1 _ (List.mem_cons_of_mem _ qC_412)) (fun h6 => ?_)
  refine x_aload_n C.1 dX8_clear_34 rfl 0 rfl ?_
  refine x_get (v := .ref (xad G 30)) C.1 7 dX8_clear_35 (xc_0 G h6) rfl (by decide) rfl (fun w h => List.mem_cons_of_mem _ (iWC_X8 w h)) (by decide) rfl (C.1.2.2.2.2.1 _ (List.mem_cons_of_mem _ qC_418)) ?_
  refine z_callVv C dX8_clear_38 (M_X1_makeEmpty_30 G l N h6) (cwV 0 C.1.2.2.2.2.1 (gdV gWC qC_475 qC_187 qC_188 qC_32 qC_103) rfl rfl rfl (by decide +kernel) ⟨Nat.le_of_ble_eq_true rfl, Nat.le_of_ble_eq_true rfl⟩) (xc_30 G h6) (by decide) rfl rfl rfl (Nat.le_of_ble_eq_true rfl) (fun r7 h8 => ?_)
  refine x_aload_n C.1 dX8_clear_41 rfl 0 rfl ?_
  refine x_iconst (v := 0) C.1 dX8_clear_42 (by decide) ?_
  refine x_putI (ty0 := tyX8) (ty := .boolean) C.1 9 dX8_clear_43 (xc_0 G h8) rfl (Nat.le_of_ble_eq_true rfl) (by decide) rfl (fun w h => List.mem_cons_of_mem _ (iWC_X8 w h)) tyX8_ok nmX8 (by decide) rfl rfl (by decide +kernel) rfl rfl (C.1.2.2.2.2.1 _ (List.mem_cons_of_mem _ qC_420)) (fun h9 => ?_)
  refine x_aload_n C.1 dX8_clear_46 rfl 0 rfl ?_
  refine x_iconst (v := 0) C.1 dX8_clear_47 (by decide) ?_
  refine x_putI (ty0 := tyX8) (ty := .int) C.1 10 dX8_clear_48 (xc_0 G h9) rfl (Nat.le_of_ble_eq_true rfl) (by decide) rfl (fun w h => List.mem_cons_of_mem _ (iWC_X8 w h)) tyX8_ok nmX8 (by decide) rfl rfl (by decide +kernel) rfl rfl (C.1.2.2.2.2.1 _ (List.mem_cons_of_mem _ qC_415)) (fun h10 => ?_)
  refine x_aload_n C.1 dX8_clear_51 rfl 0 rfl ?_
  refine x_get (v := .ref (xad G 47)) C.1 12 dX8_clear_52 (xc_0 G h10) rfl (by decide) rfl (fun w h => List.mem_cons_of_mem _ (iWC_X8 w h)) (by decide) rfl (C.1.2.2.2.2.1 _ (List.mem_cons_of_mem _ qC_373)) ?_
  refine x_iconst (v := 0) C.1 dX8_clear_55 (by decide) ?_
  refine x_putI (ty0 := tyX5) (ty := .boolean) C.1 2 dX8_clear_56 (xc_47 G h10) rfl (Nat.le_of_ble_eq_true rfl) (by decide) rfl (fun w h => List.mem_cons_of_mem _ (iWC_X5 w h)) tyX5_ok nmX5 (by decide) rfl rfl (by decide +kernel) rfl rfl (C.1.2.2.2.2.1 _ (List.mem_cons_of_mem _ qC_374)) (fun h11 => ?_)
  exact x_vret C.1 dX8_clear_59 hr
/-! X8_keepCore: 40 instructions -/
abbrev J_X8_keepCore (G : xG) (p : Program) (l : Launch) (e : Env) (s : State) (m : MethodId) (args : Array Value) (below : List Frame) (meth : Method) (c : Code) : Nat → List (Nat × Value) → List Value → xHp → Option (Unit × xHp) → Prop := xJ G p l e ({ frames := 0, cells := 0, slots := 0, locals := 0 } : Room) s m args below meth c 2 (fun res => MQ below (xQv G res) args s 0 0 (xA G))
def F_X8_keepCore_14_b (N : Nat) (k14 : Int32 → xHp → Option (Unit × xHp)) (x1 : Int32) (h : xHp) : Option (Unit × xHp) := if (gI h 1 5) ≤ x1 then some ((), h) else if (16 : Int32) ≤ (gI h 0 4) then some ((), h) else grd (xin x1 16) (grd (xin (gI h 0 4) 16) (bnd (sI h 25 (gI h 0 4).toNatClampNeg (gI h 5 x1.toNatClampNeg)) fun h1 => bnd (sI h1 0 4 ((gI h1 0 4) + 1)) fun h2 => k14 (x1 + 1) h2))
def F_X8_keepCore_14 (N : Nat) (x1 : Int32) (h : xHp) : Option (Unit × xHp) := xit (F_X8_keepCore_14_b N) (fun _ _ => none) N x1 h
def F_X8_keepCore (N : Nat) (h : xHp) : Option (Unit × xHp) := grd (xin 0 16) (bnd (sI h 25 (0 : Int32).toNatClampNeg (-1)) fun h1 => bnd (sI h1 0 4 1) fun h2 => F_X8_keepCore_14 N 0 h2)
set_option maxHeartbeats 4000000 in
set_option maxRecDepth 100000 in
theorem T_X8_keepCore_14_b {G : xG} {p : Program} {l : Launch} {e : Env} {s : State} {m : MethodId} {args : Array Value} {below : List Frame} {meth : Method} {c : Code} {N : Nat} (C : xCz G p s m args meth c cX8_keepCore 2 vX8_keepCore RX8) (hr : meth.sig.returnType = none) {k14 : Int32 → xHp → Option (Unit × xHp)} (hk14 : ∀ (x1 : Int32) (h : xHp), J_X8_keepCore G p l e s m args below meth c 14 [(0, .ref (xad G 0)), (1, .int x1)] [] h (k14 x1 h)) (x1 : Int32) (h : xHp) : J_X8_keepCore G p l e s m args below meth c 14 [(0, .ref (xad G 0)), (1, .int x1)] [] h (F_X8_keepCore_14_b N k14 x1 h) := by
  unfold F_X8_keepCore_14_b
  refine x_iload_n C.1 dX8_keepCore_14 rfl 1 rfl ?_
  refine x_aload_n C.1 dX8_keepCore_15 rfl 0 rfl ?_
  refine x_get (v := .ref (xad G 1)) C.1 0 dX8_keepCore_16 (xc_0 G h) rfl (by decide) rfl (fun w h => List.mem_cons_of_mem _ (iWC_X8 w h)) (by decide) rfl (C.1.2.2.2.2.1 _ (List.mem_cons_of_mem _ qC_363)) ?_
  refine x_get (v := .int (gI h 1 5)) C.1 5 dX8_keepCore_19 (xc_1 G h) rfl (by decide) rfl (fun w h => List.mem_cons_of_mem _ (iWC_X2 w h)) (by decide) rfl (C.1.2.2.2.2.1 _ (List.mem_cons_of_mem _ qC_364)) ?_
  refine x_icmp_ge (tgt := 71) C.1 dX8_keepCore_22 (by decide) ?_ ?_
  · exact x_vret C.1 dX8_keepCore_71 hr
  · refine x_aload_n C.1 dX8_keepCore_25 rfl 0 rfl ?_
    refine x_get (v := .int (gI h 0 4)) C.1 4 dX8_keepCore_26 (xc_0 G h) rfl (by decide) rfl (fun w h => List.mem_cons_of_mem _ (iWC_X8 w h)) (by decide) rfl (C.1.2.2.2.2.1 _ (List.mem_cons_of_mem _ qC_362)) ?_
    refine x_aload_n C.1 dX8_keepCore_29 rfl 0 rfl ?_
    refine x_get (v := .ref (xad G 25)) C.1 3 dX8_keepCore_30 (xc_0 G h) rfl (by decide) rfl (fun w h => List.mem_cons_of_mem _ (iWC_X8 w h)) (by decide) rfl (C.1.2.2.2.2.1 _ (List.mem_cons_of_mem _ qC_361)) ?_
    refine x_alen (v := 16) (t0 := 1) C.1 dX8_keepCore_33 (xc_25 G h) rfl rfl (by decide) ?_
    refine x_icmp_ge (tgt := 71) C.1 dX8_keepCore_34 (by decide) ?_ ?_
    · exact x_vret C.1 dX8_keepCore_71 hr
    · refine x_aload_n C.1 dX8_keepCore_37 rfl 0 rfl ?_
      refine x_get (v := .ref (xad G 25)) C.1 3 dX8_keepCore_38 (xc_0 G h) rfl (by decide) rfl (fun w h => List.mem_cons_of_mem _ (iWC_X8 w h)) (by decide) rfl (C.1.2.2.2.2.1 _ (List.mem_cons_of_mem _ qC_361)) ?_
      refine x_aload_n C.1 dX8_keepCore_41 rfl 0 rfl ?_
      refine x_get (v := .int (gI h 0 4)) C.1 4 dX8_keepCore_42 (xc_0 G h) rfl (by decide) rfl (fun w h => List.mem_cons_of_mem _ (iWC_X8 w h)) (by decide) rfl (C.1.2.2.2.2.1 _ (List.mem_cons_of_mem _ qC_362)) ?_
      refine x_aload_n C.1 dX8_keepCore_45 rfl 0 rfl ?_
      refine x_get (v := .ref (xad G 1)) C.1 0 dX8_keepCore_46 (xc_0 G h) rfl (by decide) rfl (fun w h => List.mem_cons_of_mem _ (iWC_X8 w h)) (by decide) rfl (C.1.2.2.2.2.1 _ (List.mem_cons_of_mem _ qC_363)) ?_
      refine x_get (v := .ref (xad G 5)) C.1 4 dX8_keepCore_49 (xc_1 G h) rfl (by decide) rfl (fun w h => List.mem_cons_of_mem _ (iWC_X2 w h)) (by decide) rfl (C.1.2.2.2.2.1 _ (List.mem_cons_of_mem _ qC_365)) ?_
      refine x_iload_n C.1 dX8_keepCore_52 rfl 1 rfl ?_
      refine x_iald (n := 16) C.1 dX8_keepCore_53 (xc_5 G h) (by decide) ?_
      refine x_iast (n := 16) C.1 dX8_keepCore_54 (fun g => xp_25 G g _ _) (by decide) (fun h1 => ?_)
      refine x_aload_n C.1 dX8_keepCore_55 rfl 0 rfl ?_
      refine x_dup C.1 dX8_keepCore_56 rfl ?_
      refine x_get (v := .int (gI h1 0 4)) C.1 4 dX8_keepCore_57 (xc_0 G h1) rfl (by decide) rfl (fun w h => List.mem_cons_of_mem _ (iWC_X8 w h)) (by decide) rfl (C.1.2.2.2.2.1 _ (List.mem_cons_of_mem _ qC_362)) ?_
      refine x_iconst (v := 1) C.1 dX8_keepCore_60 (by decide) ?_
      refine x_iadd C.1 dX8_keepCore_61 ?_
      refine x_putI (ty0 := tyX8) (ty := .int) C.1 4 dX8_keepCore_62 (xc_0 G h1) rfl (Nat.le_of_ble_eq_true rfl) (by decide) rfl (fun w h => List.mem_cons_of_mem _ (iWC_X8 w h)) tyX8_ok nmX8 (by decide) rfl rfl (by decide +kernel) rfl rfl (C.1.2.2.2.2.1 _ (List.mem_cons_of_mem _ qC_362)) (fun h2 => ?_)
      refine x_iinc (v := (x1 + 1)) (j := 1) (lv' := [(1, .int (x1 + 1)), (0, .ref (xad G 0))]) C.1 dX8_keepCore_65 rfl (by rfl) (by decide) rfl ?_
      refine x_goto (tgt := 14) C.1 dX8_keepCore_68 (by decide) ?_
      exact x_sub [1, 0] rfl (hk14 (x1 + 1) h2)
set_option maxHeartbeats 4000000 in
set_option maxRecDepth 100000 in
theorem T_X8_keepCore_14_n {G : xG} {p : Program} {l : Launch} {e : Env} {s : State} {m : MethodId} {args : Array Value} {below : List Frame} {meth : Method} {c : Code} {N : Nat} (C : xCz G p s m args meth c cX8_keepCore 2 vX8_keepCore RX8) (hr : meth.sig.returnType = none) : ∀ (n : Nat) (x1 : Int32) (h : xHp), J_X8_keepCore G p l e s m args below meth c 14 [(0, .ref (xad G 0)), (1, .int x1)] [] h (xit (F_X8_keepCore_14_b N) (fun _ _ => none) n x1 h) := by
  intro n
  induction n with
  | zero => intros; exact x_none
  | succ n ih => intros; exact T_X8_keepCore_14_b C hr ih _ _
set_option maxHeartbeats 4000000 in
set_option maxRecDepth 100000 in
theorem T_X8_keepCore_14 {G : xG} {p : Program} {l : Launch} {e : Env} {s : State} {m : MethodId} {args : Array Value} {below : List Frame} {meth : Method} {c : Code} {N : Nat} (C : xCz G p s m args meth c cX8_keepCore 2 vX8_keepCore RX8) (hr : meth.sig.returnType = none) (x1 : Int32) (h : xHp) : J_X8_keepCore G p l e s m args below meth c 14 [(0, .ref (xad G 0)), (1, .int x1)] [] h (F_X8_keepCore_14 N x1 h) := T_X8_keepCore_14_n C hr N x1 h
set_option maxHeartbeats 4000000 in
set_option maxRecDepth 100000 in
theorem M_X8_keepCore (G : xG) (l : Launch) (N : Nat) (h : xHp) : ∀ r, F_X8_keepCore N h = some r → Met l yX8_keepCore vX8_keepCore ({ frames := 0, cells := 0, slots := 0, locals := 0 } : Room) (xPz G [.ref (xad G 0)] h) (xQv G r) 0 0 (xA G) := by
  refine z_met (own := RX8) (cc := cX8_keepCore) (maxL := 2) (ret := none) (lv0 := [(0, .ref (xad G 0))]) (by decide +kernel) rfl rfl (Nat.le_of_ble_eq_true rfl) rfl ?_
  intro p e s m below meth c C hr
  unfold F_X8_keepCore
  refine x_aload_n C.1 dX8_keepCore_0 rfl 0 rfl ?_
  refine x_get (v := .ref (xad G 25)) C.1 3 dX8_keepCore_1 (xc_0 G h) rfl (by decide) rfl (fun w h => List.mem_cons_of_mem _ (iWC_X8 w h)) (by decide) rfl (C.1.2.2.2.2.1 _ (List.mem_cons_of_mem _ qC_361)) ?_
  refine x_iconst (v := 0) C.1 dX8_keepCore_4 (by decide) ?_
  refine x_iconst (v := (-1)) C.1 dX8_keepCore_5 (by decide) ?_
  refine x_iast (n := 16) C.1 dX8_keepCore_6 (fun g => xp_25 G g _ _) (by decide) (fun h1 => ?_)
  refine x_aload_n C.1 dX8_keepCore_7 rfl 0 rfl ?_
  refine x_iconst (v := 1) C.1 dX8_keepCore_8 (by decide) ?_
  refine x_putI (ty0 := tyX8) (ty := .int) C.1 4 dX8_keepCore_9 (xc_0 G h1) rfl (Nat.le_of_ble_eq_true rfl) (by decide) rfl (fun w h => List.mem_cons_of_mem _ (iWC_X8 w h)) tyX8_ok nmX8 (by decide) rfl rfl (by decide +kernel) rfl rfl (C.1.2.2.2.2.1 _ (List.mem_cons_of_mem _ qC_362)) (fun h2 => ?_)
  refine x_iconst (v := 0) C.1 dX8_keepCore_12 (by decide) ?_
  refine x_istore_n (lv' := [(1, .int 0), (0, .ref (xad G 0))]) C.1 dX8_keepCore_13 rfl (by decide) rfl ?_
  exact x_sub [1, 0] rfl (T_X8_keepCore_14 C hr 0 h2)
/-! X8_levelsBefore: 19 instructions -/
abbrev J_X8_levelsBefore (G : xG) (p : Program) (l : Launch) (e : Env) (s : State) (m : MethodId) (args : Array Value) (below : List Frame) (meth : Method) (c : Code) : Nat → List (Nat × Value) → List Value → xHp → Option (Int32 × xHp) → Prop := xJ G p l e ({ frames := 0, cells := 0, slots := 0, locals := 0 } : Room) s m args below meth c 4 (fun res => MQ below (xQi G res) args s 0 0 (xA G))
def F_X8_levelsBefore_25 (N : Nat) (k4 : Int32 → Int32 → Int32 → xHp → Option (Int32 × xHp)) (x1 : Int32) (x2 : Int32) (x3 : Int32) (h : xHp) : Option (Int32 × xHp) := k4 x1 x2 (x3 + 1) h
def F_X8_levelsBefore_4_b (N : Nat) (k4 : Int32 → Int32 → Int32 → xHp → Option (Int32 × xHp)) (x1 : Int32) (x2 : Int32) (x3 : Int32) (h : xHp) : Option (Int32 × xHp) := if (gI h 0 2) ≤ x3 then some (x2, h) else grd (xin x3 20) (if x1 < (gI h 24 x3.toNatClampNeg) then F_X8_levelsBefore_25 N k4 x1 x2 x3 h else F_X8_levelsBefore_25 N k4 x1 (x2 + 1) x3 h)
def F_X8_levelsBefore_4 (N : Nat) (x1 : Int32) (x2 : Int32) (x3 : Int32) (h : xHp) : Option (Int32 × xHp) := xit (F_X8_levelsBefore_4_b N) (fun _ _ _ _ => none) N x1 x2 x3 h
def F_X8_levelsBefore (N : Nat) (p1 : Int32) (h : xHp) : Option (Int32 × xHp) := F_X8_levelsBefore_4 N p1 0 0 h
set_option maxHeartbeats 4000000 in
set_option maxRecDepth 100000 in
theorem T_X8_levelsBefore_25 {G : xG} {p : Program} {l : Launch} {e : Env} {s : State} {m : MethodId} {args : Array Value} {below : List Frame} {meth : Method} {c : Code} {N : Nat} (C : xCz G p s m args meth c cX8_levelsBefore 4 vX8_levelsBefore RX8) (hr : meth.sig.returnType = (some .int)) {k4 : Int32 → Int32 → Int32 → xHp → Option (Int32 × xHp)} (hk4 : ∀ (x1 : Int32) (x2 : Int32) (x3 : Int32) (h : xHp), J_X8_levelsBefore G p l e s m args below meth c 4 [(0, .ref (xad G 0)), (1, .int x1), (2, .int x2), (3, .int x3)] [] h (k4 x1 x2 x3 h)) (x1 : Int32) (x2 : Int32) (x3 : Int32) (h : xHp) : J_X8_levelsBefore G p l e s m args below meth c 25 [(0, .ref (xad G 0)), (1, .int x1), (2, .int x2), (3, .int x3)] [] h (F_X8_levelsBefore_25 N k4 x1 x2 x3 h) := by
  unfold F_X8_levelsBefore_25
  refine x_iinc (v := (x3 + 1)) (j := 3) (lv' := [(3, .int (x3 + 1)), (0, .ref (xad G 0)), (1, .int x1), (2, .int x2)]) C.1 dX8_levelsBefore_25 rfl (by rfl) (by decide) rfl ?_
  refine x_goto (tgt := 4) C.1 dX8_levelsBefore_28 (by decide) ?_
  exact x_sub [1, 2, 3, 0] rfl (hk4 x1 x2 (x3 + 1) h)
set_option maxHeartbeats 4000000 in
set_option maxRecDepth 100000 in
theorem T_X8_levelsBefore_4_b {G : xG} {p : Program} {l : Launch} {e : Env} {s : State} {m : MethodId} {args : Array Value} {below : List Frame} {meth : Method} {c : Code} {N : Nat} (C : xCz G p s m args meth c cX8_levelsBefore 4 vX8_levelsBefore RX8) (hr : meth.sig.returnType = (some .int)) {k4 : Int32 → Int32 → Int32 → xHp → Option (Int32 × xHp)} (hk4 : ∀ (x1 : Int32) (x2 : Int32) (x3 : Int32) (h : xHp), J_X8_levelsBefore G p l e s m args below meth c 4 [(0, .ref (xad G 0)), (1, .int x1), (2, .int x2), (3, .int x3)] [] h (k4 x1 x2 x3 h)) (x1 : Int32) (x2 : Int32) (x3 : Int32) (h : xHp) : J_X8_levelsBefore G p l e s m args below meth c 4 [(0, .ref (xad G 0)), (1, .int x1), (2, .int x2), (3, .int x3)] [] h (F_X8_levelsBefore_4_b N k4 x1 x2 x3 h) := by
  unfold F_X8_levelsBefore_4_b
  refine x_iload_n C.1 dX8_levelsBefore_4 rfl 3 rfl ?_
  refine x_aload_n C.1 dX8_levelsBefore_5 rfl 0 rfl ?_
  refine x_get (v := .int (gI h 0 2)) C.1 2 dX8_levelsBefore_6 (xc_0 G h) rfl (by decide) rfl (fun w h => List.mem_cons_of_mem _ (iWC_X8 w h)) (by decide) rfl (C.1.2.2.2.2.1 _ (List.mem_cons_of_mem _ qC_385)) ?_
  refine x_icmp_ge (tgt := 31) C.1 dX8_levelsBefore_9 (by decide) ?_ ?_
  · refine x_iload_n C.1 dX8_levelsBefore_31 rfl 2 rfl ?_
    exact x_iret C.1 dX8_levelsBefore_32 hr
  · refine x_aload_n C.1 dX8_levelsBefore_12 rfl 0 rfl ?_
    refine x_get (v := .ref (xad G 24)) C.1 1 dX8_levelsBefore_13 (xc_0 G h) rfl (by decide) rfl (fun w h => List.mem_cons_of_mem _ (iWC_X8 w h)) (by decide) rfl (C.1.2.2.2.2.1 _ (List.mem_cons_of_mem _ qC_386)) ?_
    refine x_iload_n C.1 dX8_levelsBefore_16 rfl 3 rfl ?_
    refine x_iald (n := 20) C.1 dX8_levelsBefore_17 (xc_24 G h) (by decide) ?_
    refine x_iload_n C.1 dX8_levelsBefore_18 rfl 1 rfl ?_
    refine x_icmp_gt (tgt := 25) C.1 dX8_levelsBefore_19 (by decide) ?_ ?_
    · exact x_sub [0, 1, 2, 3] rfl (T_X8_levelsBefore_25 C hr hk4 x1 x2 x3 h)
    · refine x_iinc (v := (x2 + 1)) (j := 2) (lv' := [(2, .int (x2 + 1)), (0, .ref (xad G 0)), (1, .int x1), (3, .int x3)]) C.1 dX8_levelsBefore_22 rfl (by rfl) (by decide) rfl ?_
      exact x_sub [1, 2, 0, 3] rfl (T_X8_levelsBefore_25 C hr hk4 x1 (x2 + 1) x3 h)
set_option maxHeartbeats 4000000 in
set_option maxRecDepth 100000 in
theorem T_X8_levelsBefore_4_n {G : xG} {p : Program} {l : Launch} {e : Env} {s : State} {m : MethodId} {args : Array Value} {below : List Frame} {meth : Method} {c : Code} {N : Nat} (C : xCz G p s m args meth c cX8_levelsBefore 4 vX8_levelsBefore RX8) (hr : meth.sig.returnType = (some .int)) : ∀ (n : Nat) (x1 : Int32) (x2 : Int32) (x3 : Int32) (h : xHp), J_X8_levelsBefore G p l e s m args below meth c 4 [(0, .ref (xad G 0)), (1, .int x1), (2, .int x2), (3, .int x3)] [] h (xit (F_X8_levelsBefore_4_b N) (fun _ _ _ _ => none) n x1 x2 x3 h) := by
  intro n
  induction n with
  | zero => intros; exact x_none
  | succ n ih => intros; exact T_X8_levelsBefore_4_b C hr ih _ _ _ _
set_option maxHeartbeats 4000000 in
set_option maxRecDepth 100000 in
theorem T_X8_levelsBefore_4 {G : xG} {p : Program} {l : Launch} {e : Env} {s : State} {m : MethodId} {args : Array Value} {below : List Frame} {meth : Method} {c : Code} {N : Nat} (C : xCz G p s m args meth c cX8_levelsBefore 4 vX8_levelsBefore RX8) (hr : meth.sig.returnType = (some .int)) (x1 : Int32) (x2 : Int32) (x3 : Int32) (h : xHp) : J_X8_levelsBefore G p l e s m args below meth c 4 [(0, .ref (xad G 0)), (1, .int x1), (2, .int x2), (3, .int x3)] [] h (F_X8_levelsBefore_4 N x1 x2 x3 h) := T_X8_levelsBefore_4_n C hr N x1 x2 x3 h
set_option maxHeartbeats 4000000 in
set_option maxRecDepth 100000 in
theorem M_X8_levelsBefore (G : xG) (l : Launch) (N : Nat) (p1 : Int32) (h : xHp) : ∀ r, F_X8_levelsBefore N p1 h = some r → Met l yX8_levelsBefore vX8_levelsBefore ({ frames := 0, cells := 0, slots := 0, locals := 0 } : Room) (xPz G [.ref (xad G 0), .int p1] h) (xQi G r) 0 0 (xA G) := by
  refine z_met (own := RX8) (cc := cX8_levelsBefore) (maxL := 4) (ret := (some .int)) (lv0 := [(0, .ref (xad G 0)), (1, .int p1)]) (by decide +kernel) rfl rfl (Nat.le_of_ble_eq_true rfl) rfl ?_
  intro p e s m below meth c C hr
  unfold F_X8_levelsBefore
  refine x_iconst (v := 0) C.1 dX8_levelsBefore_0 (by decide) ?_
  refine x_istore_n (lv' := [(2, .int 0), (0, .ref (xad G 0)), (1, .int p1)]) C.1 dX8_levelsBefore_1 rfl (by decide) rfl ?_
  refine x_iconst (v := 0) C.1 dX8_levelsBefore_2 (by decide) ?_
  refine x_istore_n (lv' := [(3, .int 0), (2, .int 0), (0, .ref (xad G 0)), (1, .int p1)]) C.1 dX8_levelsBefore_3 rfl (by decide) rfl ?_
  exact x_sub [2, 3, 1, 0] rfl (T_X8_levelsBefore_4 C hr p1 0 0 h)
