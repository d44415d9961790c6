/-! CONSTRUCTORS: their contracts -/
set_option maxHeartbeats 4000000 in
set_option maxRecDepth 100000 in
theorem K_X6_400 (l : Launch) (D : va_G) (cy : Nat → ClassId) (sz : Nat) (h0 : Nat) : Met l yX6_init (.code yX6_init cX6_init 2 none :: WI) ({ frames := 1, cells := 1, slots := 400, locals := 12 } : Room) (nPc D cy [.ref h0, .int 400] [(h0, .inr (6, [.null, .int 0]))] sz (fun _ => True)) (nQv D (va_A [(h0, .inr (6, [.null, .int 0]))] sz) (fun u => [(h0, .inr (6, [.ref (u.1 0), .int 0])), ((u.1 0), .inl (cy 0, 400, .inl (fun _ => 0)))])) 1 400 (va_A [(h0, .inr (6, [.null, .int 0]))] sz) := by
  refine Met.ofW (cc := cX6_init) (maxL := 2) (ret := none) (by decide) rfl ?_
  intro p e s m args below meth c s₁ B hml hv
  obtain ⟨rfl, hsz, hP, hK, hD0, hZ⟩ := hv
  have hr := B.returns
  have hin : meth.name = "<init>" := (name_of_methodNamed B.named B.method).1
  subst hsz
  have hD := hD0.self (sz := s.heap.size)
  generalize hAe : va_A [(h0, .inr (6, [.null, .int 0]))] s.heap.size = A at hD ⊢
  have C : xNc D cy p s m #[.ref h0, .int 400] meth c cX6_init 2 (.code yX6_init cX6_init 2 none :: WI) RX6 A := ⟨B.exec, B.bytes, hml, findClass_of_methodNamed B.named, atoms_spec (ws := .code yX6_init cX6_init 2 none :: WI) B.pre, hK, fun q h => by rw [← hAe]; exact Or.inr h, B.notSynchronized⟩
  have hl := lv_entry [.ref h0, .int 400] (n := 2) (Nat.le_of_ble_eq_true rfl)
  rw [lg_entry_eq]
  refine n_go hP hD va_S.rf hl ?_
  refine n_aload_n C dX6_init_0 rfl 0 rfl ?_
  refine n_objInit C (C.2.2.2.2.1 _ (List.mem_cons_of_mem _ qI_46)) (C.2.2.2.2.1 _ (List.mem_cons_of_mem _ qI_2)) (C.2.2.2.2.1 _ (List.mem_cons_of_mem _ qI_3)) dX6_init_1 (Nat.le_of_ble_eq_true rfl) (Nat.le_of_ble_eq_true rfl) ?_
  refine n_aload_n C dX6_init_4 rfl 0 rfl ?_
  refine n_iload_n C dX6_init_5 rfl 1 rfl ?_
  refine n_if_le C dX6_init_6 (tgt := 13) rfl (by decide) ?_
  refine n_iload_n C dX6_init_9 rfl 1 rfl ?_
  refine n_goto C dX6_init_10 (tgt := 14) rfl ?_
  refine n_newa (ix := 0) (ty := .byte) (N' := 400) (con := .inl (fun _ => 0)) C rfl (C.2.2.2.2.1 _ (List.mem_cons_of_mem _ qI_47)) rfl (fun _ _ h => h) (fun _ => rfl) (by decide) rfl (by decide) (Nat.le_of_ble_eq_true rfl) (Nat.le_of_ble_eq_true rfl) dX6_init_14 (fun q14 => ?_)
  refine n_putF (C0 := RX6) (T := TX6) (ty0 := tyX6) (ty := .array .byte) (v := .ref q14) C 0 rfl rfl 0 (by decide) (fun w h => List.mem_cons_of_mem _ (iWI_X6 w h)) tyX6_ok nmX6 (C.2.2.2.2.1 _ (List.mem_cons_of_mem _ qI_48)) rfl hin rfl (by decide +kernel) rfl rfl (Nat.le_of_ble_eq_true rfl) dX6_init_16 ?_
  refine n_eq (ws' := [(h0, .inr (6, [.ref q14, .int 0])), (q14, .inl (cy 0, 400, .inl (fun _ => 0)))]) rfl ?_
  exact n_ret (u := (fun i => [q14].getD i 0, fun _ => 0)) C hr rfl dX6_init_19
set_option maxHeartbeats 4000000 in
set_option maxRecDepth 100000 in
theorem K_X6_6000 (l : Launch) (D : va_G) (cy : Nat → ClassId) (sz : Nat) (h0 : Nat) : Met l yX6_init (.code yX6_init cX6_init 2 none :: WI) ({ frames := 1, cells := 1, slots := 6000, locals := 12 } : Room) (nPc D cy [.ref h0, .int 6000] [(h0, .inr (6, [.null, .int 0]))] sz (fun _ => True)) (nQv D (va_A [(h0, .inr (6, [.null, .int 0]))] sz) (fun u => [(h0, .inr (6, [.ref (u.1 0), .int 0])), ((u.1 0), .inl (cy 0, 6000, .inl (fun _ => 0)))])) 1 6000 (va_A [(h0, .inr (6, [.null, .int 0]))] sz) := by
  refine Met.ofW (cc := cX6_init) (maxL := 2) (ret := none) (by decide) rfl ?_
  intro p e s m args below meth c s₁ B hml hv
  obtain ⟨rfl, hsz, hP, hK, hD0, hZ⟩ := hv
  have hr := B.returns
  have hin : meth.name = "<init>" := (name_of_methodNamed B.named B.method).1
  subst hsz
  have hD := hD0.self (sz := s.heap.size)
  generalize hAe : va_A [(h0, .inr (6, [.null, .int 0]))] s.heap.size = A at hD ⊢
  have C : xNc D cy p s m #[.ref h0, .int 6000] meth c cX6_init 2 (.code yX6_init cX6_init 2 none :: WI) RX6 A := ⟨B.exec, B.bytes, hml, findClass_of_methodNamed B.named, atoms_spec (ws := .code yX6_init cX6_init 2 none :: WI) B.pre, hK, fun q h => by rw [← hAe]; exact Or.inr h, B.notSynchronized⟩
  have hl := lv_entry [.ref h0, .int 6000] (n := 2) (Nat.le_of_ble_eq_true rfl)
  rw [lg_entry_eq]
  refine n_go hP hD va_S.rf hl ?_
  refine n_aload_n C dX6_init_0 rfl 0 rfl ?_
  refine n_objInit C (C.2.2.2.2.1 _ (List.mem_cons_of_mem _ qI_46)) (C.2.2.2.2.1 _ (List.mem_cons_of_mem _ qI_2)) (C.2.2.2.2.1 _ (List.mem_cons_of_mem _ qI_3)) dX6_init_1 (Nat.le_of_ble_eq_true rfl) (Nat.le_of_ble_eq_true rfl) ?_
  refine n_aload_n C dX6_init_4 rfl 0 rfl ?_
  refine n_iload_n C dX6_init_5 rfl 1 rfl ?_
  refine n_if_le C dX6_init_6 (tgt := 13) rfl (by decide) ?_
  refine n_iload_n C dX6_init_9 rfl 1 rfl ?_
  refine n_goto C dX6_init_10 (tgt := 14) rfl ?_
  refine n_newa (ix := 0) (ty := .byte) (N' := 6000) (con := .inl (fun _ => 0)) C rfl (C.2.2.2.2.1 _ (List.mem_cons_of_mem _ qI_47)) rfl (fun _ _ h => h) (fun _ => rfl) (by decide) rfl (by decide) (Nat.le_of_ble_eq_true rfl) (Nat.le_of_ble_eq_true rfl) dX6_init_14 (fun q14 => ?_)
  refine n_putF (C0 := RX6) (T := TX6) (ty0 := tyX6) (ty := .array .byte) (v := .ref q14) C 0 rfl rfl 0 (by decide) (fun w h => List.mem_cons_of_mem _ (iWI_X6 w h)) tyX6_ok nmX6 (C.2.2.2.2.1 _ (List.mem_cons_of_mem _ qI_48)) rfl hin rfl (by decide +kernel) rfl rfl (Nat.le_of_ble_eq_true rfl) dX6_init_16 ?_
  refine n_eq (ws' := [(h0, .inr (6, [.ref q14, .int 0])), (q14, .inl (cy 0, 6000, .inl (fun _ => 0)))]) rfl ?_
  exact n_ret (u := (fun i => [q14].getD i 0, fun _ => 0)) C hr rfl dX6_init_19
set_option maxHeartbeats 4000000 in
set_option maxRecDepth 100000 in
theorem K_X1 (l : Launch) (D : va_G) (cy : Nat → ClassId) (sz : Nat) (h0 : Nat) : Met l yX1_init (.code yX1_init cX1_init 1 none :: WI) ({ frames := 1, cells := 6, slots := 312, locals := 12 } : Room) (nPc D cy [.ref h0] [(h0, .inr (1, [.null, .null, .null, .int 0, .null, .null, .int 0, .null]))] sz (fun _ => True)) (nQv D (va_A [(h0, .inr (1, [.null, .null, .null, .int 0, .null, .null, .int 0, .null]))] sz) (fun u => [(h0, .inr (1, [.ref (u.1 0), .ref (u.1 1), .ref (u.1 2), .int 0, .ref (u.1 3), .ref (u.1 4), .int 0, .ref (u.1 5)])), ((u.1 0), .inl (cy 1, 10, .inl (fun _ => 0))), ((u.1 1), .inl (cy 1, 10, .inl (fun _ => 0))), ((u.1 2), .inl (cy 1, 10, .inl (fun _ => 0))), ((u.1 3), .inl (cy 1, 10, .inl (fun _ => 0))), ((u.1 4), .inl (cy 1, 240, .inl (fun _ => 0))), ((u.1 5), .inl (cy 1, 32, .inl (fun _ => 0)))])) 6 312 (va_A [(h0, .inr (1, [.null, .null, .null, .int 0, .null, .null, .int 0, .null]))] sz) := by
  refine Met.ofW (cc := cX1_init) (maxL := 1) (ret := none) (by decide) rfl ?_
  intro p e s m args below meth c s₁ B hml hv
  obtain ⟨rfl, hsz, hP, hK, hD0, hZ⟩ := hv
  have hr := B.returns
  have hin : meth.name = "<init>" := (name_of_methodNamed B.named B.method).1
  subst hsz
  have hD := hD0.self (sz := s.heap.size)
  generalize hAe : va_A [(h0, .inr (1, [.null, .null, .null, .int 0, .null, .null, .int 0, .null]))] s.heap.size = A at hD ⊢
  have C : xNc D cy p s m #[.ref h0] meth c cX1_init 1 (.code yX1_init cX1_init 1 none :: WI) RX1 A := ⟨B.exec, B.bytes, hml, findClass_of_methodNamed B.named, atoms_spec (ws := .code yX1_init cX1_init 1 none :: WI) B.pre, hK, fun q h => by rw [← hAe]; exact Or.inr h, B.notSynchronized⟩
  have hl := lv_entry [.ref h0] (n := 1) (Nat.le_of_ble_eq_true rfl)
  rw [lg_entry_eq]
  refine n_go hP hD va_S.rf hl ?_
  refine n_aload_n C dX1_init_0 rfl 0 rfl ?_
  refine n_objInit C (C.2.2.2.2.1 _ (List.mem_cons_of_mem _ qI_8)) (C.2.2.2.2.1 _ (List.mem_cons_of_mem _ qI_2)) (C.2.2.2.2.1 _ (List.mem_cons_of_mem _ qI_3)) dX1_init_1 (Nat.le_of_ble_eq_true rfl) (Nat.le_of_ble_eq_true rfl) ?_
  refine n_aload_n C dX1_init_4 rfl 0 rfl ?_
  refine n_bipush (v := 10) C dX1_init_5 rfl ?_
  refine n_newa (ix := 1) (ty := .int) (N' := 10) (con := .inl (fun _ => 0)) C rfl (C.2.2.2.2.1 _ (List.mem_cons_of_mem _ qI_9)) rfl (fun _ _ h => h) (fun _ => rfl) (by decide) rfl (by decide) (Nat.le_of_ble_eq_true rfl) (Nat.le_of_ble_eq_true rfl) dX1_init_7 (fun q7 => ?_)
  refine n_putF (C0 := RX1) (T := TX1) (ty0 := tyX1) (ty := .array .int) (v := .ref q7) C 0 rfl rfl 0 (by decide) (fun w h => List.mem_cons_of_mem _ (iWI_X1 w h)) tyX1_ok nmX1 (C.2.2.2.2.1 _ (List.mem_cons_of_mem _ qI_10)) rfl hin rfl (by decide +kernel) rfl rfl (Nat.le_of_ble_eq_true rfl) dX1_init_9 ?_
  refine n_eq (ws' := [(h0, .inr (1, [.ref q7, .null, .null, .int 0, .null, .null, .int 0, .null])), (q7, .inl (cy 1, 10, .inl (fun _ => 0)))]) rfl ?_
  refine n_aload_n C dX1_init_12 rfl 0 rfl ?_
  refine n_bipush (v := 10) C dX1_init_13 rfl ?_
  refine n_newa (ix := 1) (ty := .int) (N' := 10) (con := .inl (fun _ => 0)) C rfl (C.2.2.2.2.1 _ (List.mem_cons_of_mem _ qI_9)) rfl (fun _ _ h => h) (fun _ => rfl) (by decide) rfl (by decide) (Nat.le_of_ble_eq_true rfl) (Nat.le_of_ble_eq_true rfl) dX1_init_15 (fun q15 => ?_)
  refine n_putF (C0 := RX1) (T := TX1) (ty0 := tyX1) (ty := .array .int) (v := .ref q15) C 0 rfl rfl 1 (by decide) (fun w h => List.mem_cons_of_mem _ (iWI_X1 w h)) tyX1_ok nmX1 (C.2.2.2.2.1 _ (List.mem_cons_of_mem _ qI_11)) rfl hin rfl (by decide +kernel) rfl rfl (Nat.le_of_ble_eq_true rfl) dX1_init_17 ?_
  refine n_eq (ws' := [(h0, .inr (1, [.ref q7, .ref q15, .null, .int 0, .null, .null, .int 0, .null])), (q7, .inl (cy 1, 10, .inl (fun _ => 0))), (q15, .inl (cy 1, 10, .inl (fun _ => 0)))]) rfl ?_
  refine n_aload_n C dX1_init_20 rfl 0 rfl ?_
  refine n_bipush (v := 10) C dX1_init_21 rfl ?_
  refine n_newa (ix := 1) (ty := .int) (N' := 10) (con := .inl (fun _ => 0)) C rfl (C.2.2.2.2.1 _ (List.mem_cons_of_mem _ qI_9)) rfl (fun _ _ h => h) (fun _ => rfl) (by decide) rfl (by decide) (Nat.le_of_ble_eq_true rfl) (Nat.le_of_ble_eq_true rfl) dX1_init_23 (fun q23 => ?_)
  refine n_putF (C0 := RX1) (T := TX1) (ty0 := tyX1) (ty := .array .int) (v := .ref q23) C 0 rfl rfl 2 (by decide) (fun w h => List.mem_cons_of_mem _ (iWI_X1 w h)) tyX1_ok nmX1 (C.2.2.2.2.1 _ (List.mem_cons_of_mem _ qI_12)) rfl hin rfl (by decide +kernel) rfl rfl (Nat.le_of_ble_eq_true rfl) dX1_init_25 ?_
  refine n_eq (ws' := [(h0, .inr (1, [.ref q7, .ref q15, .ref q23, .int 0, .null, .null, .int 0, .null])), (q7, .inl (cy 1, 10, .inl (fun _ => 0))), (q15, .inl (cy 1, 10, .inl (fun _ => 0))), (q23, .inl (cy 1, 10, .inl (fun _ => 0)))]) rfl ?_
  refine n_aload_n C dX1_init_28 rfl 0 rfl ?_
  refine n_bipush (v := 10) C dX1_init_29 rfl ?_
  refine n_newa (ix := 1) (ty := .int) (N' := 10) (con := .inl (fun _ => 0)) C rfl (C.2.2.2.2.1 _ (List.mem_cons_of_mem _ qI_9)) rfl (fun _ _ h => h) (fun _ => rfl) (by decide) rfl (by decide) (Nat.le_of_ble_eq_true rfl) (Nat.le_of_ble_eq_true rfl) dX1_init_31 (fun q31 => ?_)
  refine n_putF (C0 := RX1) (T := TX1) (ty0 := tyX1) (ty := .array .int) (v := .ref q31) C 0 rfl rfl 4 (by decide) (fun w h => List.mem_cons_of_mem _ (iWI_X1 w h)) tyX1_ok nmX1 (C.2.2.2.2.1 _ (List.mem_cons_of_mem _ qI_13)) rfl hin rfl (by decide +kernel) rfl rfl (Nat.le_of_ble_eq_true rfl) dX1_init_33 ?_
  refine n_eq (ws' := [(h0, .inr (1, [.ref q7, .ref q15, .ref q23, .int 0, .ref q31, .null, .int 0, .null])), (q7, .inl (cy 1, 10, .inl (fun _ => 0))), (q15, .inl (cy 1, 10, .inl (fun _ => 0))), (q23, .inl (cy 1, 10, .inl (fun _ => 0))), (q31, .inl (cy 1, 10, .inl (fun _ => 0)))]) rfl ?_
  refine n_aload_n C dX1_init_36 rfl 0 rfl ?_
  refine n_sipush (v := 240) C dX1_init_37 rfl ?_
  refine n_newa (ix := 1) (ty := .int) (N' := 240) (con := .inl (fun _ => 0)) C rfl (C.2.2.2.2.1 _ (List.mem_cons_of_mem _ qI_9)) rfl (fun _ _ h => h) (fun _ => rfl) (by decide) rfl (by decide) (Nat.le_of_ble_eq_true rfl) (Nat.le_of_ble_eq_true rfl) dX1_init_40 (fun q40 => ?_)
  refine n_putF (C0 := RX1) (T := TX1) (ty0 := tyX1) (ty := .array .int) (v := .ref q40) C 0 rfl rfl 5 (by decide) (fun w h => List.mem_cons_of_mem _ (iWI_X1 w h)) tyX1_ok nmX1 (C.2.2.2.2.1 _ (List.mem_cons_of_mem _ qI_14)) rfl hin rfl (by decide +kernel) rfl rfl (Nat.le_of_ble_eq_true rfl) dX1_init_42 ?_
  refine n_eq (ws' := [(h0, .inr (1, [.ref q7, .ref q15, .ref q23, .int 0, .ref q31, .ref q40, .int 0, .null])), (q7, .inl (cy 1, 10, .inl (fun _ => 0))), (q15, .inl (cy 1, 10, .inl (fun _ => 0))), (q23, .inl (cy 1, 10, .inl (fun _ => 0))), (q31, .inl (cy 1, 10, .inl (fun _ => 0))), (q40, .inl (cy 1, 240, .inl (fun _ => 0)))]) rfl ?_
  refine n_aload_n C dX1_init_45 rfl 0 rfl ?_
  refine n_bipush (v := 32) C dX1_init_46 rfl ?_
  refine n_newa (ix := 1) (ty := .int) (N' := 32) (con := .inl (fun _ => 0)) C rfl (C.2.2.2.2.1 _ (List.mem_cons_of_mem _ qI_9)) rfl (fun _ _ h => h) (fun _ => rfl) (by decide) rfl (by decide) (Nat.le_of_ble_eq_true rfl) (Nat.le_of_ble_eq_true rfl) dX1_init_48 (fun q48 => ?_)
  refine n_putF (C0 := RX1) (T := TX1) (ty0 := tyX1) (ty := .array .int) (v := .ref q48) C 0 rfl rfl 7 (by decide) (fun w h => List.mem_cons_of_mem _ (iWI_X1 w h)) tyX1_ok nmX1 (C.2.2.2.2.1 _ (List.mem_cons_of_mem _ qI_15)) rfl hin rfl (by decide +kernel) rfl rfl (Nat.le_of_ble_eq_true rfl) dX1_init_50 ?_
  refine n_eq (ws' := [(h0, .inr (1, [.ref q7, .ref q15, .ref q23, .int 0, .ref q31, .ref q40, .int 0, .ref q48])), (q7, .inl (cy 1, 10, .inl (fun _ => 0))), (q15, .inl (cy 1, 10, .inl (fun _ => 0))), (q23, .inl (cy 1, 10, .inl (fun _ => 0))), (q31, .inl (cy 1, 10, .inl (fun _ => 0))), (q40, .inl (cy 1, 240, .inl (fun _ => 0))), (q48, .inl (cy 1, 32, .inl (fun _ => 0)))]) rfl ?_
  exact n_ret (u := (fun i => [q7, q15, q23, q31, q40, q48].getD i 0, fun _ => 0)) C hr rfl dX1_init_53
set_option maxHeartbeats 4000000 in
set_option maxRecDepth 100000 in
theorem K_X2 (l : Launch) (D : va_G) (cy : Nat → ClassId) (sz : Nat) (h0 : Nat) : Met l yX2_init (.code yX2_init cX2_init 1 none :: WI) ({ frames := 1, cells := 22, slots := 514, locals := 12 } : Room) (nPc D cy [.ref h0] [(h0, .inr (2, [.null, .null, .null, .int 0, .null, .int 0, .null, .int 0, .null]))] sz (xZA)) (nQv D (va_A [(h0, .inr (2, [.null, .null, .null, .int 0, .null, .int 0, .null, .int 0, .null]))] sz) (fun u => [(h0, .inr (2, [.ref (u.1 0), .ref (u.1 1), .ref (u.1 2), .int 0, .ref (u.1 3), .int 0, .ref (u.1 4), .int 0, .ref (u.1 5)])), ((u.1 0), .inl (cy 1, 70, .inl (fun _ => 0))), ((u.1 1), .inl (cy 1, 70, .inl (fun _ => 0))), ((u.1 2), .inl (cy 1, 70, .inl (fun _ => 0))), ((u.1 3), .inl (cy 1, 16, .inl (fun _ => 0))), ((u.1 4), xOut cy u.2), ((u.2 0), xRow cy), ((u.2 1), xRow cy), ((u.2 2), xRow cy), ((u.2 3), xRow cy), ((u.2 4), xRow cy), ((u.2 5), xRow cy), ((u.2 6), xRow cy), ((u.2 7), xRow cy), ((u.2 8), xRow cy), ((u.2 9), xRow cy), ((u.2 10), xRow cy), ((u.2 11), xRow cy), ((u.2 12), xRow cy), ((u.2 13), xRow cy), ((u.2 14), xRow cy), ((u.2 15), xRow cy), ((u.1 5), .inl (cy 2, 16, .inr (.inl (fun _ => 0))))])) 22 514 (va_A [(h0, .inr (2, [.null, .null, .null, .int 0, .null, .int 0, .null, .int 0, .null]))] sz) := by
  refine Met.ofW (cc := cX2_init) (maxL := 1) (ret := none) (by decide) rfl ?_
  intro p e s m args below meth c s₁ B hml hv
  obtain ⟨rfl, hsz, hP, hK, hD0, hZ⟩ := hv
  have hr := B.returns
  have hin : meth.name = "<init>" := (name_of_methodNamed B.named B.method).1
  subst hsz
  have hD := hD0.self (sz := s.heap.size)
  generalize hAe : va_A [(h0, .inr (2, [.null, .null, .null, .int 0, .null, .int 0, .null, .int 0, .null]))] s.heap.size = A at hD ⊢
  have C : xNc D cy p s m #[.ref h0] meth c cX2_init 1 (.code yX2_init cX2_init 1 none :: WI) RX2 A := ⟨B.exec, B.bytes, hml, findClass_of_methodNamed B.named, atoms_spec (ws := .code yX2_init cX2_init 1 none :: WI) B.pre, hK, fun q h => by rw [← hAe]; exact Or.inr h, B.notSynchronized⟩
  have hl := lv_entry [.ref h0] (n := 1) (Nat.le_of_ble_eq_true rfl)
  rw [lg_entry_eq]
  refine n_go hP hD va_S.rf hl ?_
  refine n_aload_n C dX2_init_0 rfl 0 rfl ?_
  refine n_objInit C (C.2.2.2.2.1 _ (List.mem_cons_of_mem _ qI_17)) (C.2.2.2.2.1 _ (List.mem_cons_of_mem _ qI_2)) (C.2.2.2.2.1 _ (List.mem_cons_of_mem _ qI_3)) dX2_init_1 (Nat.le_of_ble_eq_true rfl) (Nat.le_of_ble_eq_true rfl) ?_
  refine n_aload_n C dX2_init_4 rfl 0 rfl ?_
  refine n_bipush (v := 70) C dX2_init_5 rfl ?_
  refine n_newa (ix := 1) (ty := .int) (N' := 70) (con := .inl (fun _ => 0)) C rfl (C.2.2.2.2.1 _ (List.mem_cons_of_mem _ qI_9)) rfl (fun _ _ h => h) (fun _ => rfl) (by decide) rfl (by decide) (Nat.le_of_ble_eq_true rfl) (Nat.le_of_ble_eq_true rfl) dX2_init_7 (fun q7 => ?_)
  refine n_putF (C0 := RX2) (T := TX2) (ty0 := tyX2) (ty := .array .int) (v := .ref q7) C 0 rfl rfl 0 (by decide) (fun w h => List.mem_cons_of_mem _ (iWI_X2 w h)) tyX2_ok nmX2 (C.2.2.2.2.1 _ (List.mem_cons_of_mem _ qI_18)) rfl hin rfl (by decide +kernel) rfl rfl (Nat.le_of_ble_eq_true rfl) dX2_init_9 ?_
  refine n_eq (ws' := [(h0, .inr (2, [.ref q7, .null, .null, .int 0, .null, .int 0, .null, .int 0, .null])), (q7, .inl (cy 1, 70, .inl (fun _ => 0)))]) rfl ?_
  refine n_aload_n C dX2_init_12 rfl 0 rfl ?_
  refine n_bipush (v := 70) C dX2_init_13 rfl ?_
  refine n_newa (ix := 1) (ty := .int) (N' := 70) (con := .inl (fun _ => 0)) C rfl (C.2.2.2.2.1 _ (List.mem_cons_of_mem _ qI_9)) rfl (fun _ _ h => h) (fun _ => rfl) (by decide) rfl (by decide) (Nat.le_of_ble_eq_true rfl) (Nat.le_of_ble_eq_true rfl) dX2_init_15 (fun q15 => ?_)
  refine n_putF (C0 := RX2) (T := TX2) (ty0 := tyX2) (ty := .array .int) (v := .ref q15) C 0 rfl rfl 1 (by decide) (fun w h => List.mem_cons_of_mem _ (iWI_X2 w h)) tyX2_ok nmX2 (C.2.2.2.2.1 _ (List.mem_cons_of_mem _ qI_19)) rfl hin rfl (by decide +kernel) rfl rfl (Nat.le_of_ble_eq_true rfl) dX2_init_17 ?_
  refine n_eq (ws' := [(h0, .inr (2, [.ref q7, .ref q15, .null, .int 0, .null, .int 0, .null, .int 0, .null])), (q7, .inl (cy 1, 70, .inl (fun _ => 0))), (q15, .inl (cy 1, 70, .inl (fun _ => 0)))]) rfl ?_
  refine n_aload_n C dX2_init_20 rfl 0 rfl ?_
  refine n_bipush (v := 70) C dX2_init_21 rfl ?_
  refine n_newa (ix := 1) (ty := .int) (N' := 70) (con := .inl (fun _ => 0)) C rfl (C.2.2.2.2.1 _ (List.mem_cons_of_mem _ qI_9)) rfl (fun _ _ h => h) (fun _ => rfl) (by decide) rfl (by decide) (Nat.le_of_ble_eq_true rfl) (Nat.le_of_ble_eq_true rfl) dX2_init_23 (fun q23 => ?_)
  refine n_putF (C0 := RX2) (T := TX2) (ty0 := tyX2) (ty := .array .int) (v := .ref q23) C 0 rfl rfl 2 (by decide) (fun w h => List.mem_cons_of_mem _ (iWI_X2 w h)) tyX2_ok nmX2 (C.2.2.2.2.1 _ (List.mem_cons_of_mem _ qI_20)) rfl hin rfl (by decide +kernel) rfl rfl (Nat.le_of_ble_eq_true rfl) dX2_init_25 ?_
  refine n_eq (ws' := [(h0, .inr (2, [.ref q7, .ref q15, .ref q23, .int 0, .null, .int 0, .null, .int 0, .null])), (q7, .inl (cy 1, 70, .inl (fun _ => 0))), (q15, .inl (cy 1, 70, .inl (fun _ => 0))), (q23, .inl (cy 1, 70, .inl (fun _ => 0)))]) rfl ?_
  refine n_aload_n C dX2_init_28 rfl 0 rfl ?_
  refine n_bipush (v := 16) C dX2_init_29 rfl ?_
  refine n_newa (ix := 1) (ty := .int) (N' := 16) (con := .inl (fun _ => 0)) C rfl (C.2.2.2.2.1 _ (List.mem_cons_of_mem _ qI_9)) rfl (fun _ _ h => h) (fun _ => rfl) (by decide) rfl (by decide) (Nat.le_of_ble_eq_true rfl) (Nat.le_of_ble_eq_true rfl) dX2_init_31 (fun q31 => ?_)
  refine n_putF (C0 := RX2) (T := TX2) (ty0 := tyX2) (ty := .array .int) (v := .ref q31) C 0 rfl rfl 4 (by decide) (fun w h => List.mem_cons_of_mem _ (iWI_X2 w h)) tyX2_ok nmX2 (C.2.2.2.2.1 _ (List.mem_cons_of_mem _ qI_21)) rfl hin rfl (by decide +kernel) rfl rfl (Nat.le_of_ble_eq_true rfl) dX2_init_33 ?_
  refine n_eq (ws' := [(h0, .inr (2, [.ref q7, .ref q15, .ref q23, .int 0, .ref q31, .int 0, .null, .int 0, .null])), (q7, .inl (cy 1, 70, .inl (fun _ => 0))), (q15, .inl (cy 1, 70, .inl (fun _ => 0))), (q23, .inl (cy 1, 70, .inl (fun _ => 0))), (q31, .inl (cy 1, 16, .inl (fun _ => 0)))]) rfl ?_
  refine n_aload_n C dX2_init_36 rfl 0 rfl ?_
  refine n_bipush (v := 16) C dX2_init_37 rfl ?_
  refine n_bipush (v := 16) C dX2_init_39 rfl ?_
  refine n_mna C dX2_init_41 (C.2.2.2.2.1 _ (List.mem_cons_of_mem _ qI_22)) hZ (C.2.2.2.2.1 _ (List.mem_cons_of_mem _ qI_23)) (Nat.le_of_ble_eq_true rfl) (Nat.le_of_ble_eq_true rfl) (fun q41 r41 => ?_)
  refine n_putF (C0 := RX2) (T := TX2) (ty0 := tyX2) (ty := .array (.array .long)) (v := .ref q41) C 0 rfl rfl 6 (by decide) (fun w h => List.mem_cons_of_mem _ (iWI_X2 w h)) tyX2_ok nmX2 (C.2.2.2.2.1 _ (List.mem_cons_of_mem _ qI_24)) rfl hin rfl (by decide +kernel) rfl rfl (Nat.le_of_ble_eq_true rfl) dX2_init_45 ?_
  refine n_eq (ws' := [(h0, .inr (2, [.ref q7, .ref q15, .ref q23, .int 0, .ref q31, .int 0, .ref q41, .int 0, .null])), (q7, .inl (cy 1, 70, .inl (fun _ => 0))), (q15, .inl (cy 1, 70, .inl (fun _ => 0))), (q23, .inl (cy 1, 70, .inl (fun _ => 0))), (q31, .inl (cy 1, 16, .inl (fun _ => 0))), (q41, xOut cy r41), ((r41 0), xRow cy), ((r41 1), xRow cy), ((r41 2), xRow cy), ((r41 3), xRow cy), ((r41 4), xRow cy), ((r41 5), xRow cy), ((r41 6), xRow cy), ((r41 7), xRow cy), ((r41 8), xRow cy), ((r41 9), xRow cy), ((r41 10), xRow cy), ((r41 11), xRow cy), ((r41 12), xRow cy), ((r41 13), xRow cy), ((r41 14), xRow cy), ((r41 15), xRow cy)]) rfl ?_
  refine n_aload_n C dX2_init_48 rfl 0 rfl ?_
  refine n_bipush (v := 16) C dX2_init_49 rfl ?_
  refine n_newa (ix := 2) (ty := .long) (N' := 16) (con := .inr (.inl (fun _ => 0))) C rfl (C.2.2.2.2.1 _ (List.mem_cons_of_mem _ qI_23)) rfl (fun _ _ h => h) (fun _ => rfl) (by decide) rfl (by decide) (Nat.le_of_ble_eq_true rfl) (Nat.le_of_ble_eq_true rfl) dX2_init_51 (fun q51 => ?_)
  refine n_putF (C0 := RX2) (T := TX2) (ty0 := tyX2) (ty := .array .long) (v := .ref q51) C 0 rfl rfl 8 (by decide) (fun w h => List.mem_cons_of_mem _ (iWI_X2 w h)) tyX2_ok nmX2 (C.2.2.2.2.1 _ (List.mem_cons_of_mem _ qI_25)) rfl hin rfl (by decide +kernel) rfl rfl (Nat.le_of_ble_eq_true rfl) dX2_init_53 ?_
  refine n_eq (ws' := [(h0, .inr (2, [.ref q7, .ref q15, .ref q23, .int 0, .ref q31, .int 0, .ref q41, .int 0, .ref q51])), (q7, .inl (cy 1, 70, .inl (fun _ => 0))), (q15, .inl (cy 1, 70, .inl (fun _ => 0))), (q23, .inl (cy 1, 70, .inl (fun _ => 0))), (q31, .inl (cy 1, 16, .inl (fun _ => 0))), (q41, xOut cy r41), ((r41 0), xRow cy), ((r41 1), xRow cy), ((r41 2), xRow cy), ((r41 3), xRow cy), ((r41 4), xRow cy), ((r41 5), xRow cy), ((r41 6), xRow cy), ((r41 7), xRow cy), ((r41 8), xRow cy), ((r41 9), xRow cy), ((r41 10), xRow cy), ((r41 11), xRow cy), ((r41 12), xRow cy), ((r41 13), xRow cy), ((r41 14), xRow cy), ((r41 15), xRow cy), (q51, .inl (cy 2, 16, .inr (.inl (fun _ => 0))))]) rfl ?_
  exact n_ret (u := (fun i => [q7, q15, q23, q31, q41, q51].getD i 0, r41)) C hr rfl dX2_init_56
set_option maxHeartbeats 4000000 in
set_option maxRecDepth 100000 in
theorem K_X4 (l : Launch) (D : va_G) (cy : Nat → ClassId) (sz : Nat) (h0 : Nat) (a1 : Nat) : Met l yX4_init (.code yX4_init cX4_init 2 none :: WI) ({ frames := 1, cells := 0, slots := 0, locals := 12 } : Room) (nPc D cy [.ref h0, .ref a1] [(h0, .inr (4, [.null, .int 0, .int 0, .int 0, .int 0]))] sz (fun _ => True)) (nQv D (va_A [(h0, .inr (4, [.null, .int 0, .int 0, .int 0, .int 0]))] sz) (fun u => [(h0, .inr (4, [.ref a1, .int 0, .int 0, .int 0, .int 0]))])) 0 0 (va_A [(h0, .inr (4, [.null, .int 0, .int 0, .int 0, .int 0]))] sz) := by
  refine Met.ofW (cc := cX4_init) (maxL := 2) (ret := none) (by decide) rfl ?_
  intro p e s m args below meth c s₁ B hml hv
  obtain ⟨rfl, hsz, hP, hK, hD0, hZ⟩ := hv
  have hr := B.returns
  have hin : meth.name = "<init>" := (name_of_methodNamed B.named B.method).1
  subst hsz
  have hD := hD0.self (sz := s.heap.size)
  generalize hAe : va_A [(h0, .inr (4, [.null, .int 0, .int 0, .int 0, .int 0]))] s.heap.size = A at hD ⊢
  have C : xNc D cy p s m #[.ref h0, .ref a1] meth c cX4_init 2 (.code yX4_init cX4_init 2 none :: WI) RX4 A := ⟨B.exec, B.bytes, hml, findClass_of_methodNamed B.named, atoms_spec (ws := .code yX4_init cX4_init 2 none :: WI) B.pre, hK, fun q h => by rw [← hAe]; exact Or.inr h, B.notSynchronized⟩
  have hl := lv_entry [.ref h0, .ref a1] (n := 2) (Nat.le_of_ble_eq_true rfl)
  rw [lg_entry_eq]
  refine n_go hP hD va_S.rf hl ?_
  refine n_aload_n C dX4_init_0 rfl 0 rfl ?_
  refine n_objInit C (C.2.2.2.2.1 _ (List.mem_cons_of_mem _ qI_27)) (C.2.2.2.2.1 _ (List.mem_cons_of_mem _ qI_2)) (C.2.2.2.2.1 _ (List.mem_cons_of_mem _ qI_3)) dX4_init_1 (Nat.le_of_ble_eq_true rfl) (Nat.le_of_ble_eq_true rfl) ?_
  refine n_aload_n C dX4_init_4 rfl 0 rfl ?_
  refine n_aload_n C dX4_init_5 rfl 1 rfl ?_
  refine n_putF (C0 := RX4) (T := TX4) (ty0 := tyX4) (ty := .object "DistanceSolver$Text") (v := .ref a1) C 0 rfl rfl 0 (by decide) (fun w h => List.mem_cons_of_mem _ (iWI_X4 w h)) tyX4_ok nmX4 (C.2.2.2.2.1 _ (List.mem_cons_of_mem _ qI_28)) rfl hin rfl (by decide +kernel) rfl rfl (Nat.le_of_ble_eq_true rfl) dX4_init_6 ?_
  refine n_eq (ws' := [(h0, .inr (4, [.ref a1, .int 0, .int 0, .int 0, .int 0]))]) rfl ?_
  exact n_ret (u := (fun i => [].getD i 0, fun _ => 0)) C hr rfl dX4_init_9
set_option maxHeartbeats 4000000 in
set_option maxRecDepth 100000 in
theorem K_X3 (l : Launch) (D : va_G) (cy : Nat → ClassId) (sz : Nat) (h0 : Nat) (a1 : Nat) (a2 : Nat) : Met l yX3_init (.code yX3_init cX3_init 3 none :: WI) ({ frames := 2, cells := 2, slots := 69, locals := 33 } : Room) (nPc D cy [.ref h0, .ref a1, .ref a2] [(h0, .inr (3, [.null, .null, .null, .int 0, .int 0, .int 0, .int 0, .int 0, .int 0, .int 0, .int 0]))] sz (fun _ => True)) (nQv D (va_A [(h0, .inr (3, [.null, .null, .null, .int 0, .int 0, .int 0, .int 0, .int 0, .int 0, .int 0, .int 0]))] sz) (fun u => [(h0, .inr (3, [.ref (u.1 1), .ref a2, .ref (u.1 0), .int 0, .int 0, .int 0, .int 0, .int 0, .int 0, .int 0, .int 0])), ((u.1 0), .inl (cy 1, 64, .inl (fun _ => 0))), ((u.1 1), .inr (4, [.ref a1, .int 0, .int 0, .int 0, .int 0]))])) 2 69 (va_A [(h0, .inr (3, [.null, .null, .null, .int 0, .int 0, .int 0, .int 0, .int 0, .int 0, .int 0, .int 0]))] sz) := by
  refine Met.ofW (cc := cX3_init) (maxL := 3) (ret := none) (by decide) rfl ?_
  intro p e s m args below meth c s₁ B hml hv
  obtain ⟨rfl, hsz, hP, hK, hD0, hZ⟩ := hv
  have hr := B.returns
  have hin : meth.name = "<init>" := (name_of_methodNamed B.named B.method).1
  subst hsz
  have hD := hD0.self (sz := s.heap.size)
  generalize hAe : va_A [(h0, .inr (3, [.null, .null, .null, .int 0, .int 0, .int 0, .int 0, .int 0, .int 0, .int 0, .int 0]))] s.heap.size = A at hD ⊢
  have C : xNc D cy p s m #[.ref h0, .ref a1, .ref a2] meth c cX3_init 3 (.code yX3_init cX3_init 3 none :: WI) RX3 A := ⟨B.exec, B.bytes, hml, findClass_of_methodNamed B.named, atoms_spec (ws := .code yX3_init cX3_init 3 none :: WI) B.pre, hK, fun q h => by rw [← hAe]; exact Or.inr h, B.notSynchronized⟩
  have hl := lv_entry [.ref h0, .ref a1, .ref a2] (n := 3) (Nat.le_of_ble_eq_true rfl)
  rw [lg_entry_eq]
  refine n_go hP hD va_S.rf hl ?_
  refine n_aload_n C dX3_init_0 rfl 0 rfl ?_
  refine n_objInit C (C.2.2.2.2.1 _ (List.mem_cons_of_mem _ qI_30)) (C.2.2.2.2.1 _ (List.mem_cons_of_mem _ qI_2)) (C.2.2.2.2.1 _ (List.mem_cons_of_mem _ qI_3)) dX3_init_1 (Nat.le_of_ble_eq_true rfl) (Nat.le_of_ble_eq_true rfl) ?_
  refine n_aload_n C dX3_init_4 rfl 0 rfl ?_
  refine n_bipush (v := 64) C dX3_init_5 rfl ?_
  refine n_newa (ix := 1) (ty := .int) (N' := 64) (con := .inl (fun _ => 0)) C rfl (C.2.2.2.2.1 _ (List.mem_cons_of_mem _ qI_9)) rfl (fun _ _ h => h) (fun _ => rfl) (by decide) rfl (by decide) (Nat.le_of_ble_eq_true rfl) (Nat.le_of_ble_eq_true rfl) dX3_init_7 (fun q7 => ?_)
  refine n_putF (C0 := RX3) (T := TX3) (ty0 := tyX3) (ty := .array .int) (v := .ref q7) C 0 rfl rfl 2 (by decide) (fun w h => List.mem_cons_of_mem _ (iWI_X3 w h)) tyX3_ok nmX3 (C.2.2.2.2.1 _ (List.mem_cons_of_mem _ qI_31)) rfl hin rfl (by decide +kernel) rfl rfl (Nat.le_of_ble_eq_true rfl) dX3_init_9 ?_
  refine n_eq (ws' := [(h0, .inr (3, [.null, .null, .ref q7, .int 0, .int 0, .int 0, .int 0, .int 0, .int 0, .int 0, .int 0])), (q7, .inl (cy 1, 64, .inl (fun _ => 0)))]) rfl ?_
  refine n_aload_n C dX3_init_12 rfl 0 rfl ?_
  refine n_new (ci := 4) (fs := [.null, .int 0, .int 0, .int 0, .int 0]) (C0 := RX4) (T := TX4) (N := 5) (ty0 := tyX4) C (fun w h => List.mem_cons_of_mem _ (iWI_X4 w h)) tyX4_ok (C.2.2.2.2.1 _ (List.mem_cons_of_mem _ qI_32)) (C.2.2.2.2.1 _ (List.mem_cons_of_mem _ qI_33)) (C.2.2.2.2.1 _ (List.mem_cons_of_mem _ qI_34)) rfl rfl (Nat.le_of_ble_eq_true rfl) (Nat.le_of_ble_eq_true rfl) dX3_init_13 (fun q13 => ?_)
  refine n_eq (ws' := [(h0, .inr (3, [.null, .null, .ref q7, .int 0, .int 0, .int 0, .int 0, .int 0, .int 0, .int 0, .int 0])), (q7, .inl (cy 1, 64, .inl (fun _ => 0)))] ++ [(q13, .inr (4, [.null, .int 0, .int 0, .int 0, .int 0]))]) rfl ?_
  refine n_dup C dX3_init_16 rfl ?_
  refine n_aload_n C dX3_init_17 rfl 1 rfl ?_
  refine n_call (wr := [(h0, .inr (3, [.null, .null, .ref q7, .int 0, .int 0, .int 0, .int 0, .int 0, .int 0, .int 0, .int 0])), (q7, .inl (cy 1, 64, .inl (fun _ => 0)))]) (As := [.ref a1]) (st := [.ref q13, .ref h0]) C [2] [0, 1] rfl rfl rfl rfl (by decide) (fun sz => K_X4 l D cy sz q13 a1) (cwI 1 C.2.2.2.2.1 (gdI qI_26) rfl rfl rfl (C.2.2.2.2.1 _ (List.mem_cons_of_mem _ qI_34)) (C.2.2.2.2.1 _ (List.mem_cons_of_mem _ qI_37)) (C.2.2.2.2.1 _ (List.mem_cons_of_mem _ qI_38)) rfl (by decide +kernel) ⟨Nat.le_of_ble_eq_true rfl, Nat.le_of_ble_eq_true rfl⟩) (fun _ _ _ h => h) (fun _ _ => trivial) rfl rfl (by exact Nat.le_of_ble_eq_true rfl) dX3_init_18 (by exact Nat.le_of_ble_eq_true rfl) (by exact Nat.le_of_ble_eq_true rfl) (fun u18 => ?_)
  refine n_eq (ws' := [(h0, .inr (3, [.null, .null, .ref q7, .int 0, .int 0, .int 0, .int 0, .int 0, .int 0, .int 0, .int 0])), (q7, .inl (cy 1, 64, .inl (fun _ => 0))), (q13, .inr (4, [.ref a1, .int 0, .int 0, .int 0, .int 0]))]) rfl ?_
  refine n_putF (C0 := RX3) (T := TX3) (ty0 := tyX3) (ty := .object "DistanceSolver$Scanner") (v := .ref q13) C 0 rfl rfl 0 (by decide) (fun w h => List.mem_cons_of_mem _ (iWI_X3 w h)) tyX3_ok nmX3 (C.2.2.2.2.1 _ (List.mem_cons_of_mem _ qI_35)) rfl hin rfl (by decide +kernel) rfl rfl (Nat.le_of_ble_eq_true rfl) dX3_init_21 ?_
  refine n_eq (ws' := [(h0, .inr (3, [.ref q13, .null, .ref q7, .int 0, .int 0, .int 0, .int 0, .int 0, .int 0, .int 0, .int 0])), (q7, .inl (cy 1, 64, .inl (fun _ => 0))), (q13, .inr (4, [.ref a1, .int 0, .int 0, .int 0, .int 0]))]) rfl ?_
  refine n_aload_n C dX3_init_24 rfl 0 rfl ?_
  refine n_aload_n C dX3_init_25 rfl 2 rfl ?_
  refine n_putF (C0 := RX3) (T := TX3) (ty0 := tyX3) (ty := .object "DistanceSolver$Formula") (v := .ref a2) C 0 rfl rfl 1 (by decide) (fun w h => List.mem_cons_of_mem _ (iWI_X3 w h)) tyX3_ok nmX3 (C.2.2.2.2.1 _ (List.mem_cons_of_mem _ qI_36)) rfl hin rfl (by decide +kernel) rfl rfl (Nat.le_of_ble_eq_true rfl) dX3_init_26 ?_
  refine n_eq (ws' := [(h0, .inr (3, [.ref q13, .ref a2, .ref q7, .int 0, .int 0, .int 0, .int 0, .int 0, .int 0, .int 0, .int 0])), (q7, .inl (cy 1, 64, .inl (fun _ => 0))), (q13, .inr (4, [.ref a1, .int 0, .int 0, .int 0, .int 0]))]) rfl ?_
  exact n_ret (u := (fun i => [q7, q13].getD i 0, fun _ => 0)) C hr rfl dX3_init_29
set_option maxHeartbeats 4000000 in
set_option maxRecDepth 100000 in
theorem K_X5 (l : Launch) (D : va_G) (cy : Nat → ClassId) (sz : Nat) (h0 : Nat) (a1 : Nat) (a2 : Nat) : Met l yX5_init (.code yX5_init cX5_init 3 none :: WI) ({ frames := 1, cells := 1, slots := 1024, locals := 12 } : Room) (nPc D cy [.ref h0, .ref a1, .ref a2] [(h0, .inr (5, [.null, .int 0, .int 0, .null, .null]))] sz (fun _ => True)) (nQv D (va_A [(h0, .inr (5, [.null, .int 0, .int 0, .null, .null]))] sz) (fun u => [(h0, .inr (5, [.ref (u.1 0), .int 0, .int 0, .ref a1, .ref a2])), ((u.1 0), .inl (cy 3, 1024, .inl (fun _ => 0)))])) 1 1024 (va_A [(h0, .inr (5, [.null, .int 0, .int 0, .null, .null]))] sz) := by
  refine Met.ofW (cc := cX5_init) (maxL := 3) (ret := none) (by decide) rfl ?_
  intro p e s m args below meth c s₁ B hml hv
  obtain ⟨rfl, hsz, hP, hK, hD0, hZ⟩ := hv
  have hr := B.returns
  have hin : meth.name = "<init>" := (name_of_methodNamed B.named B.method).1
  subst hsz
  have hD := hD0.self (sz := s.heap.size)
  generalize hAe : va_A [(h0, .inr (5, [.null, .int 0, .int 0, .null, .null]))] s.heap.size = A at hD ⊢
  have C : xNc D cy p s m #[.ref h0, .ref a1, .ref a2] meth c cX5_init 3 (.code yX5_init cX5_init 3 none :: WI) RX5 A := ⟨B.exec, B.bytes, hml, findClass_of_methodNamed B.named, atoms_spec (ws := .code yX5_init cX5_init 3 none :: WI) B.pre, hK, fun q h => by rw [← hAe]; exact Or.inr h, B.notSynchronized⟩
  have hl := lv_entry [.ref h0, .ref a1, .ref a2] (n := 3) (Nat.le_of_ble_eq_true rfl)
  rw [lg_entry_eq]
  refine n_go hP hD va_S.rf hl ?_
  refine n_aload_n C dX5_init_0 rfl 0 rfl ?_
  refine n_objInit C (C.2.2.2.2.1 _ (List.mem_cons_of_mem _ qI_40)) (C.2.2.2.2.1 _ (List.mem_cons_of_mem _ qI_2)) (C.2.2.2.2.1 _ (List.mem_cons_of_mem _ qI_3)) dX5_init_1 (Nat.le_of_ble_eq_true rfl) (Nat.le_of_ble_eq_true rfl) ?_
  refine n_aload_n C dX5_init_4 rfl 0 rfl ?_
  refine n_sipush (v := 1024) C dX5_init_5 rfl ?_
  refine n_newa (ix := 3) (ty := .boolean) (N' := 1024) (con := .inl (fun _ => 0)) C rfl (C.2.2.2.2.1 _ (List.mem_cons_of_mem _ qI_41)) rfl (fun _ _ h => h) (fun _ => rfl) (by decide) rfl (by decide) (Nat.le_of_ble_eq_true rfl) (Nat.le_of_ble_eq_true rfl) dX5_init_8 (fun q8 => ?_)
  refine n_putF (C0 := RX5) (T := TX5) (ty0 := tyX5) (ty := .array .boolean) (v := .ref q8) C 0 rfl rfl 0 (by decide) (fun w h => List.mem_cons_of_mem _ (iWI_X5 w h)) tyX5_ok nmX5 (C.2.2.2.2.1 _ (List.mem_cons_of_mem _ qI_42)) rfl hin rfl (by decide +kernel) rfl rfl (Nat.le_of_ble_eq_true rfl) dX5_init_10 ?_
  refine n_eq (ws' := [(h0, .inr (5, [.ref q8, .int 0, .int 0, .null, .null])), (q8, .inl (cy 3, 1024, .inl (fun _ => 0)))]) rfl ?_
  refine n_aload_n C dX5_init_13 rfl 0 rfl ?_
  refine n_aload_n C dX5_init_14 rfl 1 rfl ?_
  refine n_putF (C0 := RX5) (T := TX5) (ty0 := tyX5) (ty := .object "DistanceSolver$Formula") (v := .ref a1) C 0 rfl rfl 3 (by decide) (fun w h => List.mem_cons_of_mem _ (iWI_X5 w h)) tyX5_ok nmX5 (C.2.2.2.2.1 _ (List.mem_cons_of_mem _ qI_43)) rfl hin rfl (by decide +kernel) rfl rfl (Nat.le_of_ble_eq_true rfl) dX5_init_15 ?_
  refine n_eq (ws' := [(h0, .inr (5, [.ref q8, .int 0, .int 0, .ref a1, .null])), (q8, .inl (cy 3, 1024, .inl (fun _ => 0)))]) rfl ?_
  refine n_aload_n C dX5_init_18 rfl 0 rfl ?_
  refine n_aload_n C dX5_init_19 rfl 2 rfl ?_
  refine n_putF (C0 := RX5) (T := TX5) (ty0 := tyX5) (ty := .object "DistanceSolver$Net") (v := .ref a2) C 0 rfl rfl 4 (by decide) (fun w h => List.mem_cons_of_mem _ (iWI_X5 w h)) tyX5_ok nmX5 (C.2.2.2.2.1 _ (List.mem_cons_of_mem _ qI_44)) rfl hin rfl (by decide +kernel) rfl rfl (Nat.le_of_ble_eq_true rfl) dX5_init_20 ?_
  refine n_eq (ws' := [(h0, .inr (5, [.ref q8, .int 0, .int 0, .ref a1, .ref a2])), (q8, .inl (cy 3, 1024, .inl (fun _ => 0)))]) rfl ?_
  exact n_ret (u := (fun i => [q8].getD i 0, fun _ => 0)) C hr rfl dX5_init_23
set_option maxHeartbeats 4000000 in
set_option maxRecDepth 100000 in
theorem K_X7 (l : Launch) (D : va_G) (cy : Nat → ClassId) (sz : Nat) (h0 : Nat) (a1 : Nat) (a2 : Nat) (a3 : Nat) : Met l yX7_init (.code yX7_init cX7_init 4 none :: WI) ({ frames := 1, cells := 0, slots := 0, locals := 12 } : Room) (nPc D cy [.ref h0, .ref a1, .ref a2, .ref a3] [(h0, .inr (7, [.null, .null, .null, .int 0, .int 0]))] sz (fun _ => True)) (nQv D (va_A [(h0, .inr (7, [.null, .null, .null, .int 0, .int 0]))] sz) (fun u => [(h0, .inr (7, [.ref a1, .ref a2, .ref a3, .int 0, .int 0]))])) 0 0 (va_A [(h0, .inr (7, [.null, .null, .null, .int 0, .int 0]))] sz) := by
  refine Met.ofW (cc := cX7_init) (maxL := 4) (ret := none) (by decide) rfl ?_
  intro p e s m args below meth c s₁ B hml hv
  obtain ⟨rfl, hsz, hP, hK, hD0, hZ⟩ := hv
  have hr := B.returns
  have hin : meth.name = "<init>" := (name_of_methodNamed B.named B.method).1
  subst hsz
  have hD := hD0.self (sz := s.heap.size)
  generalize hAe : va_A [(h0, .inr (7, [.null, .null, .null, .int 0, .int 0]))] s.heap.size = A at hD ⊢
  have C : xNc D cy p s m #[.ref h0, .ref a1, .ref a2, .ref a3] meth c cX7_init 4 (.code yX7_init cX7_init 4 none :: WI) RX7 A := ⟨B.exec, B.bytes, hml, findClass_of_methodNamed B.named, atoms_spec (ws := .code yX7_init cX7_init 4 none :: WI) B.pre, hK, fun q h => by rw [← hAe]; exact Or.inr h, B.notSynchronized⟩
  have hl := lv_entry [.ref h0, .ref a1, .ref a2, .ref a3] (n := 4) (Nat.le_of_ble_eq_true rfl)
  rw [lg_entry_eq]
  refine n_go hP hD va_S.rf hl ?_
  refine n_aload_n C dX7_init_0 rfl 0 rfl ?_
  refine n_objInit C (C.2.2.2.2.1 _ (List.mem_cons_of_mem _ qI_50)) (C.2.2.2.2.1 _ (List.mem_cons_of_mem _ qI_2)) (C.2.2.2.2.1 _ (List.mem_cons_of_mem _ qI_3)) dX7_init_1 (Nat.le_of_ble_eq_true rfl) (Nat.le_of_ble_eq_true rfl) ?_
  refine n_aload_n C dX7_init_4 rfl 0 rfl ?_
  refine n_aload_n C dX7_init_5 rfl 1 rfl ?_
  refine n_putF (C0 := RX7) (T := TX7) (ty0 := tyX7) (ty := .object "DistanceSolver$Formula") (v := .ref a1) C 0 rfl rfl 0 (by decide) (fun w h => List.mem_cons_of_mem _ (iWI_X7 w h)) tyX7_ok nmX7 (C.2.2.2.2.1 _ (List.mem_cons_of_mem _ qI_51)) rfl hin rfl (by decide +kernel) rfl rfl (Nat.le_of_ble_eq_true rfl) dX7_init_6 ?_
  refine n_eq (ws' := [(h0, .inr (7, [.ref a1, .null, .null, .int 0, .int 0]))]) rfl ?_
  refine n_aload_n C dX7_init_9 rfl 0 rfl ?_
  refine n_aload_n C dX7_init_10 rfl 2 rfl ?_
  refine n_putF (C0 := RX7) (T := TX7) (ty0 := tyX7) (ty := .object "DistanceSolver$Net") (v := .ref a2) C 0 rfl rfl 1 (by decide) (fun w h => List.mem_cons_of_mem _ (iWI_X7 w h)) tyX7_ok nmX7 (C.2.2.2.2.1 _ (List.mem_cons_of_mem _ qI_52)) rfl hin rfl (by decide +kernel) rfl rfl (Nat.le_of_ble_eq_true rfl) dX7_init_11 ?_
  refine n_eq (ws' := [(h0, .inr (7, [.ref a1, .ref a2, .null, .int 0, .int 0]))]) rfl ?_
  refine n_aload_n C dX7_init_14 rfl 0 rfl ?_
  refine n_aload_n C dX7_init_15 rfl 3 rfl ?_
  refine n_putF (C0 := RX7) (T := TX7) (ty0 := tyX7) (ty := .object "DistanceSolver$Text") (v := .ref a3) C 0 rfl rfl 2 (by decide) (fun w h => List.mem_cons_of_mem _ (iWI_X7 w h)) tyX7_ok nmX7 (C.2.2.2.2.1 _ (List.mem_cons_of_mem _ qI_53)) rfl hin rfl (by decide +kernel) rfl rfl (Nat.le_of_ble_eq_true rfl) dX7_init_16 ?_
  refine n_eq (ws' := [(h0, .inr (7, [.ref a1, .ref a2, .ref a3, .int 0, .int 0]))]) rfl ?_
  exact n_ret (u := (fun i => [].getD i 0, fun _ => 0)) C hr rfl dX7_init_19
set_option maxHeartbeats 4000000 in
set_option maxRecDepth 100000 in
theorem K_X0 (l : Launch) (D : va_G) (cy : Nat → ClassId) (sz : Nat) (h0 : Nat) (a1 : Nat) (a2 : Nat) (a3 : Nat) : Met l yX0_init (.code yX0_init cX0_init 4 none :: WI) ({ frames := 1, cells := 0, slots := 0, locals := 12 } : Room) (nPc D cy [.ref h0, .ref a1, .ref a2, .ref a3] [(h0, .inr (0, [.null, .null, .null, .int 0, .int 0, .int 0, .int 0, .long 0]))] sz (fun _ => True)) (nQv D (va_A [(h0, .inr (0, [.null, .null, .null, .int 0, .int 0, .int 0, .int 0, .long 0]))] sz) (fun u => [(h0, .inr (0, [.ref a1, .ref a2, .ref a3, .int 0, .int 0, .int 0, .int 0, .long 0]))])) 0 0 (va_A [(h0, .inr (0, [.null, .null, .null, .int 0, .int 0, .int 0, .int 0, .long 0]))] sz) := by
  refine Met.ofW (cc := cX0_init) (maxL := 4) (ret := none) (by decide) rfl ?_
  intro p e s m args below meth c s₁ B hml hv
  obtain ⟨rfl, hsz, hP, hK, hD0, hZ⟩ := hv
  have hr := B.returns
  have hin : meth.name = "<init>" := (name_of_methodNamed B.named B.method).1
  subst hsz
  have hD := hD0.self (sz := s.heap.size)
  generalize hAe : va_A [(h0, .inr (0, [.null, .null, .null, .int 0, .int 0, .int 0, .int 0, .long 0]))] s.heap.size = A at hD ⊢
  have C : xNc D cy p s m #[.ref h0, .ref a1, .ref a2, .ref a3] meth c cX0_init 4 (.code yX0_init cX0_init 4 none :: WI) RX0 A := ⟨B.exec, B.bytes, hml, findClass_of_methodNamed B.named, atoms_spec (ws := .code yX0_init cX0_init 4 none :: WI) B.pre, hK, fun q h => by rw [← hAe]; exact Or.inr h, B.notSynchronized⟩
  have hl := lv_entry [.ref h0, .ref a1, .ref a2, .ref a3] (n := 4) (Nat.le_of_ble_eq_true rfl)
  rw [lg_entry_eq]
  refine n_go hP hD va_S.rf hl ?_
  refine n_aload_n C dX0_init_0 rfl 0 rfl ?_
  refine n_objInit C (C.2.2.2.2.1 _ (List.mem_cons_of_mem _ qI_1)) (C.2.2.2.2.1 _ (List.mem_cons_of_mem _ qI_2)) (C.2.2.2.2.1 _ (List.mem_cons_of_mem _ qI_3)) dX0_init_1 (Nat.le_of_ble_eq_true rfl) (Nat.le_of_ble_eq_true rfl) ?_
  refine n_aload_n C dX0_init_4 rfl 0 rfl ?_
  refine n_aload_n C dX0_init_5 rfl 1 rfl ?_
  refine n_putF (C0 := RX0) (T := TX0) (ty0 := tyX0) (ty := .object "DistanceSolver$Formula") (v := .ref a1) C 0 rfl rfl 0 (by decide) (fun w h => List.mem_cons_of_mem _ (iWI_X0 w h)) tyX0_ok nmX0 (C.2.2.2.2.1 _ (List.mem_cons_of_mem _ qI_4)) rfl hin rfl (by decide +kernel) rfl rfl (Nat.le_of_ble_eq_true rfl) dX0_init_6 ?_
  refine n_eq (ws' := [(h0, .inr (0, [.ref a1, .null, .null, .int 0, .int 0, .int 0, .int 0, .long 0]))]) rfl ?_
  refine n_aload_n C dX0_init_9 rfl 0 rfl ?_
  refine n_aload_n C dX0_init_10 rfl 2 rfl ?_
  refine n_putF (C0 := RX0) (T := TX0) (ty0 := tyX0) (ty := .object "DistanceSolver$Net") (v := .ref a2) C 0 rfl rfl 1 (by decide) (fun w h => List.mem_cons_of_mem _ (iWI_X0 w h)) tyX0_ok nmX0 (C.2.2.2.2.1 _ (List.mem_cons_of_mem _ qI_5)) rfl hin rfl (by decide +kernel) rfl rfl (Nat.le_of_ble_eq_true rfl) dX0_init_11 ?_
  refine n_eq (ws' := [(h0, .inr (0, [.ref a1, .ref a2, .null, .int 0, .int 0, .int 0, .int 0, .long 0]))]) rfl ?_
  refine n_aload_n C dX0_init_14 rfl 0 rfl ?_
  refine n_aload_n C dX0_init_15 rfl 3 rfl ?_
  refine n_put (C0 := RX0) (T := TX0) (ty0 := tyX0) (ty := .object "DistanceSolver$Text") (v := .ref a3) C 0 rfl rfl 2 (by decide) (fun w h => List.mem_cons_of_mem _ (iWI_X0 w h)) tyX0_ok nmX0 (C.2.2.2.2.1 _ (List.mem_cons_of_mem _ qI_6)) rfl (by decide +kernel) rfl rfl (Nat.le_of_ble_eq_true rfl) dX0_init_16 ?_
  refine n_eq (ws' := [(h0, .inr (0, [.ref a1, .ref a2, .ref a3, .int 0, .int 0, .int 0, .int 0, .long 0]))]) rfl ?_
  exact n_ret (u := (fun i => [].getD i 0, fun _ => 0)) C hr rfl dX0_init_19
