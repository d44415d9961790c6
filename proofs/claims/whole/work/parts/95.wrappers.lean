/-! the fourteen wrappers: each keeps what its method does -/
abbrev vL_add : List Cond := .codeWith yL_add cL_add 6 (some .int) [(0, 12, 15, 13), (0, 12, 19, 15), (0, 12, 23, 17)] :: WL
set_option maxHeartbeats 4000000 in
set_option maxRecDepth 100000 in
theorem G_L_add (G : xG) (l : Launch) (N : Nat) (p1 : Int32) (p2 : Int32) (p3 : Int32) (h : xHp) : ∀ r, LwI (F_X8_add N p1 p2 p3 h) = some r → Met l yL_add vL_add rmL (xPL G [.ref (xad G 0), .int p1, .int p2, .int p3, .ref (xad G 77)] h) (xQi G r) 1 6 (xA G) := by
  refine w_met (own := RL) (cc := cL_add) (maxL := 6) (ret := some .int) (hh := [(0, 12, 15, 13), (0, 12, 19, 15), (0, 12, 23, 17)]) (lv0 := [(0, .ref (xad G 0)), (1, .int p1), (2, .int p2), (3, .int p3), (4, .ref (xad G 77))]) (by decide +kernel) rfl rfl (Nat.le_of_ble_eq_true rfl) rfl ?_
  intro p e s m below meth c C hn3 htab hr
  unfold LwI
  refine x_aload C.1 dL_add_0 4 rfl ?_
  refine x_iconst (v := 0) C.1 dL_add_2 rfl ?_
  refine x_aload_n C.1 dL_add_3 rfl 0 rfl ?_
  refine x_iload_n C.1 dL_add_4 rfl 1 rfl ?_
  refine x_iload_n C.1 dL_add_5 rfl 2 rfl ?_
  refine x_iload_n C.1 dL_add_6 rfl 3 rfl ?_
  refine z_callVi C dL_add_7 (M_X8_add G l N p1 p2 p3 h) (cwV 3 C.1.2.2.2.2.1 (gdV2 (W := WT) wtWL gWL qL_3 qL_4 qL_5 qL_6 (qL_7)) rfl rfl rfl (by decide +kernel) ⟨Nat.le_of_ble_eq_true rfl, Nat.le_of_ble_eq_true rfl⟩) (xc_0 G h) (by decide) rfl rfl rfl (Nat.le_of_ble_eq_true rfl) (fun V h1 => ?_)
  refine x_i2l C.1 dL_add_10 ?_
  refine x_last C.1 dL_add_11 (fun g => xp_77 G _ g _) (by decide) (fun h2 => ?_)
  refine x_goto (tgt := 27) C.1 dL_add_12 (by decide) ?_
  refine x_iconst (v := 0) C.1 dL_add_27 rfl ?_
  exact w_iret C.1 dL_add_28 hr
set_option maxHeartbeats 4000000 in
set_option maxRecDepth 100000 in
theorem T_L_add_1 (G : xG) (l : Launch) (hlt : l.stackTraces = false) (N : Nat) (p1 : Int32) (p2 : Int32) (p3 : Int32) (h : xHp) {h1 : xHp} (hF : F_X8_add_T N p1 p2 p3 h = some (1, h1)) : Met l yL_add vL_add rmL (xPL G [.ref (xad G 0), .int p1, .int p2, .int p3, .ref (xad G 77)] h) (xQi G (1, h1)) 1 6 (xA G) := by
  refine w_met (own := RL) (cc := cL_add) (maxL := 6) (ret := some .int) (hh := [(0, 12, 15, 13), (0, 12, 19, 15), (0, 12, 23, 17)]) (lv0 := [(0, .ref (xad G 0)), (1, .int p1), (2, .int p2), (3, .int p3), (4, .ref (xad G 77))]) (fo := some (1, h1)) (by decide +kernel) rfl rfl (Nat.le_of_ble_eq_true rfl) rfl ?_ _ rfl
  intro p e s m below meth c C hn3 htab hr
  refine x_aload C.1 dL_add_0 4 rfl ?_
  refine x_iconst (v := 0) C.1 dL_add_2 rfl ?_
  refine x_aload_n C.1 dL_add_3 rfl 0 rfl ?_
  refine x_iload_n C.1 dL_add_4 rfl 1 rfl ?_
  refine x_iload_n C.1 dL_add_5 rfl 2 rfl ?_
  refine x_iload_n C.1 dL_add_6 rfl 3 rfl ?_
  exact w_callXi (t := 1) C dL_add_7 (M_X8_add_T G l hlt N p1 p2 p3 h _ hF) (cwV 3 C.1.2.2.2.2.1 (gdV2 (W := WT) wtWL gWL qL_3 qL_4 qL_5 qL_6 (qL_7)) rfl rfl rfl (by decide +kernel) ⟨Nat.le_of_ble_eq_true rfl, Nat.le_of_ble_eq_true rfl⟩) (xc_0 G h) (by decide) rfl rfl rfl (Nat.le_of_ble_eq_true rfl) (by decide) (by decide) [] ⟨0, 12, 15, 13⟩ [⟨0, 12, 19, 15⟩, ⟨0, 12, 23, 17⟩] (htab.trans rfl) (fun z hz => by cases hz) (by decide) (by decide) (C.1.2.2.2.2.1 _ (List.mem_cons_of_mem _ qL_0)) C.2.2.2.2.2.2.1 (fun H locs ls q hP hS hl => w_hand C.1 dL_add_15 dL_add_17 dL_add_18 (by decide) rfl hr hP hS hl)
set_option maxHeartbeats 4000000 in
set_option maxRecDepth 100000 in
theorem T_L_add_2 (G : xG) (l : Launch) (hlt : l.stackTraces = false) (N : Nat) (p1 : Int32) (p2 : Int32) (p3 : Int32) (h : xHp) {h1 : xHp} (hF : F_X8_add_T N p1 p2 p3 h = some (2, h1)) : Met l yL_add vL_add rmL (xPL G [.ref (xad G 0), .int p1, .int p2, .int p3, .ref (xad G 77)] h) (xQi G (2, h1)) 1 6 (xA G) := by
  refine w_met (own := RL) (cc := cL_add) (maxL := 6) (ret := some .int) (hh := [(0, 12, 15, 13), (0, 12, 19, 15), (0, 12, 23, 17)]) (lv0 := [(0, .ref (xad G 0)), (1, .int p1), (2, .int p2), (3, .int p3), (4, .ref (xad G 77))]) (fo := some (2, h1)) (by decide +kernel) rfl rfl (Nat.le_of_ble_eq_true rfl) rfl ?_ _ rfl
  intro p e s m below meth c C hn3 htab hr
  refine x_aload C.1 dL_add_0 4 rfl ?_
  refine x_iconst (v := 0) C.1 dL_add_2 rfl ?_
  refine x_aload_n C.1 dL_add_3 rfl 0 rfl ?_
  refine x_iload_n C.1 dL_add_4 rfl 1 rfl ?_
  refine x_iload_n C.1 dL_add_5 rfl 2 rfl ?_
  refine x_iload_n C.1 dL_add_6 rfl 3 rfl ?_
  exact w_callXi (t := 2) C dL_add_7 (M_X8_add_T G l hlt N p1 p2 p3 h _ hF) (cwV 3 C.1.2.2.2.2.1 (gdV2 (W := WT) wtWL gWL qL_3 qL_4 qL_5 qL_6 (qL_7)) rfl rfl rfl (by decide +kernel) ⟨Nat.le_of_ble_eq_true rfl, Nat.le_of_ble_eq_true rfl⟩) (xc_0 G h) (by decide) rfl rfl rfl (Nat.le_of_ble_eq_true rfl) (by decide) (by decide) [⟨0, 12, 15, 13⟩] ⟨0, 12, 19, 15⟩ [⟨0, 12, 23, 17⟩] (htab.trans rfl) (fun z hz => by (rcases List.mem_cons.mp hz with rfl | hz; (exact Or.inr ⟨by decide, xexc 1, (C.1.2.2.2.2.1 _ (List.mem_cons_of_mem _ qL_0)), hn3.1⟩); (cases hz))) (by decide) (by decide) (C.1.2.2.2.2.1 _ (List.mem_cons_of_mem _ qL_1)) C.2.2.2.2.2.2.2.1 (fun H locs ls q hP hS hl => w_hand C.1 dL_add_19 dL_add_21 dL_add_22 (by decide) rfl hr hP hS hl)
set_option maxHeartbeats 4000000 in
set_option maxRecDepth 100000 in
theorem T_L_add_3 (G : xG) (l : Launch) (hlt : l.stackTraces = false) (N : Nat) (p1 : Int32) (p2 : Int32) (p3 : Int32) (h : xHp) {h1 : xHp} (hF : F_X8_add_T N p1 p2 p3 h = some (3, h1)) : Met l yL_add vL_add rmL (xPL G [.ref (xad G 0), .int p1, .int p2, .int p3, .ref (xad G 77)] h) (xQi G (3, h1)) 1 6 (xA G) := by
  refine w_met (own := RL) (cc := cL_add) (maxL := 6) (ret := some .int) (hh := [(0, 12, 15, 13), (0, 12, 19, 15), (0, 12, 23, 17)]) (lv0 := [(0, .ref (xad G 0)), (1, .int p1), (2, .int p2), (3, .int p3), (4, .ref (xad G 77))]) (fo := some (3, h1)) (by decide +kernel) rfl rfl (Nat.le_of_ble_eq_true rfl) rfl ?_ _ rfl
  intro p e s m below meth c C hn3 htab hr
  refine x_aload C.1 dL_add_0 4 rfl ?_
  refine x_iconst (v := 0) C.1 dL_add_2 rfl ?_
  refine x_aload_n C.1 dL_add_3 rfl 0 rfl ?_
  refine x_iload_n C.1 dL_add_4 rfl 1 rfl ?_
  refine x_iload_n C.1 dL_add_5 rfl 2 rfl ?_
  refine x_iload_n C.1 dL_add_6 rfl 3 rfl ?_
  exact w_callXi (t := 3) C dL_add_7 (M_X8_add_T G l hlt N p1 p2 p3 h _ hF) (cwV 3 C.1.2.2.2.2.1 (gdV2 (W := WT) wtWL gWL qL_3 qL_4 qL_5 qL_6 (qL_7)) rfl rfl rfl (by decide +kernel) ⟨Nat.le_of_ble_eq_true rfl, Nat.le_of_ble_eq_true rfl⟩) (xc_0 G h) (by decide) rfl rfl rfl (Nat.le_of_ble_eq_true rfl) (by decide) (by decide) [⟨0, 12, 15, 13⟩, ⟨0, 12, 19, 15⟩] ⟨0, 12, 23, 17⟩ [] (htab.trans rfl) (fun z hz => by (rcases List.mem_cons.mp hz with rfl | hz; (exact Or.inr ⟨by decide, xexc 1, (C.1.2.2.2.2.1 _ (List.mem_cons_of_mem _ qL_0)), hn3.2.1⟩); ((rcases List.mem_cons.mp hz with rfl | hz; (exact Or.inr ⟨by decide, xexc 2, (C.1.2.2.2.2.1 _ (List.mem_cons_of_mem _ qL_1)), hn3.2.2⟩); (cases hz))))) (by decide) (by decide) (C.1.2.2.2.2.1 _ (List.mem_cons_of_mem _ qL_2)) C.2.2.2.2.2.2.2.2.1 (fun H locs ls q hP hS hl => w_hand C.1 dL_add_23 dL_add_25 dL_add_26 (by decide) rfl hr hP hS hl)
abbrev vL_push : List Cond := .codeWith yL_push cL_push 3 (some .int) [(0, 8, 11, 17)] :: WL
set_option maxHeartbeats 4000000 in
set_option maxRecDepth 100000 in
theorem G_L_push (G : xG) (l : Launch) (N : Nat) (h : xHp) : ∀ r, LwI (F_X8_push N h) = some r → Met l yL_push vL_push rmL (xPL G [.ref (xad G 0), .ref (xad G 77)] h) (xQi G r) 1 6 (xA G) := by
  refine w_met (own := RL) (cc := cL_push) (maxL := 3) (ret := some .int) (hh := [(0, 8, 11, 17)]) (lv0 := [(0, .ref (xad G 0)), (1, .ref (xad G 77))]) (by decide +kernel) rfl rfl (Nat.le_of_ble_eq_true rfl) rfl ?_
  intro p e s m below meth c C hn3 htab hr
  unfold LwI
  refine x_aload_n C.1 dL_push_0 rfl 1 rfl ?_
  refine x_iconst (v := 0) C.1 dL_push_1 rfl ?_
  refine x_aload_n C.1 dL_push_2 rfl 0 rfl ?_
  refine z_callVi C dL_push_3 (M_X8_push G l N  h) (cwV 0 C.1.2.2.2.2.1 (gdV2 (W := WT) wtWL gWL qL_10 qL_11 qL_12 qL_6 (qL_13)) rfl rfl rfl (by decide +kernel) ⟨Nat.le_of_ble_eq_true rfl, Nat.le_of_ble_eq_true rfl⟩) (xc_0 G h) (by decide) rfl rfl rfl (Nat.le_of_ble_eq_true rfl) (fun V h1 => ?_)
  refine x_i2l C.1 dL_push_6 ?_
  refine x_last C.1 dL_push_7 (fun g => xp_77 G _ g _) (by decide) (fun h2 => ?_)
  refine x_goto (tgt := 14) C.1 dL_push_8 (by decide) ?_
  refine x_iconst (v := 0) C.1 dL_push_14 rfl ?_
  exact w_iret C.1 dL_push_15 hr
set_option maxHeartbeats 4000000 in
set_option maxRecDepth 100000 in
theorem T_L_push_3 (G : xG) (l : Launch) (hlt : l.stackTraces = false) (N : Nat) (h : xHp) {h1 : xHp} (hF : F_X8_push_T N h = some (3, h1)) : Met l yL_push vL_push rmL (xPL G [.ref (xad G 0), .ref (xad G 77)] h) (xQi G (1, h1)) 1 6 (xA G) := by
  refine w_met (own := RL) (cc := cL_push) (maxL := 3) (ret := some .int) (hh := [(0, 8, 11, 17)]) (lv0 := [(0, .ref (xad G 0)), (1, .ref (xad G 77))]) (fo := some (1, h1)) (by decide +kernel) rfl rfl (Nat.le_of_ble_eq_true rfl) rfl ?_ _ rfl
  intro p e s m below meth c C hn3 htab hr
  refine x_aload_n C.1 dL_push_0 rfl 1 rfl ?_
  refine x_iconst (v := 0) C.1 dL_push_1 rfl ?_
  refine x_aload_n C.1 dL_push_2 rfl 0 rfl ?_
  exact w_callXi (t := 3) C dL_push_3 (M_X8_push_T G l hlt N  h _ hF) (cwV 0 C.1.2.2.2.2.1 (gdV2 (W := WT) wtWL gWL qL_10 qL_11 qL_12 qL_6 (qL_13)) rfl rfl rfl (by decide +kernel) ⟨Nat.le_of_ble_eq_true rfl, Nat.le_of_ble_eq_true rfl⟩) (xc_0 G h) (by decide) rfl rfl rfl (Nat.le_of_ble_eq_true rfl) (by decide) (by decide) [] ⟨0, 8, 11, 17⟩ [] (htab.trans rfl) (fun z hz => by cases hz) (by decide) (by decide) (C.1.2.2.2.2.1 _ (List.mem_cons_of_mem _ qL_2)) C.2.2.2.2.2.2.2.2.1 (fun H locs ls q hP hS hl => w_handn C.1 dL_push_11 dL_push_12 dL_push_13 rfl (by decide) rfl hr hP hS hl)
abbrev vL_pop : List Cond := .codeWith yL_pop cL_pop 4 (some .int) [(0, 9, 12, 15)] :: WL
set_option maxHeartbeats 4000000 in
set_option maxRecDepth 100000 in
theorem G_L_pop (G : xG) (l : Launch) (N : Nat) (p1 : Int32) (h : xHp) : ∀ r, LwI (F_X8_pop N p1 h) = some r → Met l yL_pop vL_pop rmL (xPL G [.ref (xad G 0), .int p1, .ref (xad G 77)] h) (xQi G r) 1 6 (xA G) := by
  refine w_met (own := RL) (cc := cL_pop) (maxL := 4) (ret := some .int) (hh := [(0, 9, 12, 15)]) (lv0 := [(0, .ref (xad G 0)), (1, .int p1), (2, .ref (xad G 77))]) (by decide +kernel) rfl rfl (Nat.le_of_ble_eq_true rfl) rfl ?_
  intro p e s m below meth c C hn3 htab hr
  unfold LwI
  refine x_aload_n C.1 dL_pop_0 rfl 2 rfl ?_
  refine x_iconst (v := 0) C.1 dL_pop_1 rfl ?_
  refine x_aload_n C.1 dL_pop_2 rfl 0 rfl ?_
  refine x_iload_n C.1 dL_pop_3 rfl 1 rfl ?_
  refine z_callVi C dL_pop_4 (M_X8_pop G l N p1 h) (cwV 1 C.1.2.2.2.2.1 (gdV2 (W := WT) wtWL gWL qL_15 qL_16 qL_17 qL_6 (qL_18)) rfl rfl rfl (by decide +kernel) ⟨Nat.le_of_ble_eq_true rfl, Nat.le_of_ble_eq_true rfl⟩) (xc_0 G h) (by decide) rfl rfl rfl (Nat.le_of_ble_eq_true rfl) (fun V h1 => ?_)
  refine x_i2l C.1 dL_pop_7 ?_
  refine x_last C.1 dL_pop_8 (fun g => xp_77 G _ g _) (by decide) (fun h2 => ?_)
  refine x_goto (tgt := 15) C.1 dL_pop_9 (by decide) ?_
  refine x_iconst (v := 0) C.1 dL_pop_15 rfl ?_
  exact w_iret C.1 dL_pop_16 hr
set_option maxHeartbeats 4000000 in
set_option maxRecDepth 100000 in
theorem T_L_pop_2 (G : xG) (l : Launch) (hlt : l.stackTraces = false) (N : Nat) (p1 : Int32) (h : xHp) {h1 : xHp} (hF : F_X8_pop_T N p1 h = some (2, h1)) : Met l yL_pop vL_pop rmL (xPL G [.ref (xad G 0), .int p1, .ref (xad G 77)] h) (xQi G (1, h1)) 1 6 (xA G) := by
  refine w_met (own := RL) (cc := cL_pop) (maxL := 4) (ret := some .int) (hh := [(0, 9, 12, 15)]) (lv0 := [(0, .ref (xad G 0)), (1, .int p1), (2, .ref (xad G 77))]) (fo := some (1, h1)) (by decide +kernel) rfl rfl (Nat.le_of_ble_eq_true rfl) rfl ?_ _ rfl
  intro p e s m below meth c C hn3 htab hr
  refine x_aload_n C.1 dL_pop_0 rfl 2 rfl ?_
  refine x_iconst (v := 0) C.1 dL_pop_1 rfl ?_
  refine x_aload_n C.1 dL_pop_2 rfl 0 rfl ?_
  refine x_iload_n C.1 dL_pop_3 rfl 1 rfl ?_
  exact w_callXi (t := 2) C dL_pop_4 (M_X8_pop_T G l hlt N p1 h _ hF) (cwV 1 C.1.2.2.2.2.1 (gdV2 (W := WT) wtWL gWL qL_15 qL_16 qL_17 qL_6 (qL_18)) rfl rfl rfl (by decide +kernel) ⟨Nat.le_of_ble_eq_true rfl, Nat.le_of_ble_eq_true rfl⟩) (xc_0 G h) (by decide) rfl rfl rfl (Nat.le_of_ble_eq_true rfl) (by decide) (by decide) [] ⟨0, 9, 12, 15⟩ [] (htab.trans rfl) (fun z hz => by cases hz) (by decide) (by decide) (C.1.2.2.2.2.1 _ (List.mem_cons_of_mem _ qL_1)) C.2.2.2.2.2.2.2.1 (fun H locs ls q hP hS hl => w_handn C.1 dL_pop_12 dL_pop_13 dL_pop_14 rfl (by decide) rfl hr hP hS hl)
abbrev vL_core : List Cond := .codeWith yL_core cL_core 4 (some .int) [(0, 9, 12, 13)] :: WL
set_option maxHeartbeats 4000000 in
set_option maxRecDepth 100000 in
theorem G_L_core (G : xG) (l : Launch) (N : Nat) (p1 : Int32) (h : xHp) : ∀ r, LwI (F_X8_core N p1 h) = some r → Met l yL_core vL_core rmL (xPL G [.ref (xad G 0), .int p1, .ref (xad G 77)] h) (xQi G r) 1 6 (xA G) := by
  refine w_met (own := RL) (cc := cL_core) (maxL := 4) (ret := some .int) (hh := [(0, 9, 12, 13)]) (lv0 := [(0, .ref (xad G 0)), (1, .int p1), (2, .ref (xad G 77))]) (by decide +kernel) rfl rfl (Nat.le_of_ble_eq_true rfl) rfl ?_
  intro p e s m below meth c C hn3 htab hr
  unfold LwI
  refine x_aload_n C.1 dL_core_0 rfl 2 rfl ?_
  refine x_iconst (v := 0) C.1 dL_core_1 rfl ?_
  refine x_aload_n C.1 dL_core_2 rfl 0 rfl ?_
  refine x_iload_n C.1 dL_core_3 rfl 1 rfl ?_
  refine z_callVi C dL_core_4 (M_X8_core G l N p1 h) (cwV 1 C.1.2.2.2.2.1 (gdV2 (W := WT) wtWL gWL qL_20 qL_21 qL_22 qL_6 (qL_23)) rfl rfl rfl (by decide +kernel) ⟨Nat.le_of_ble_eq_true rfl, Nat.le_of_ble_eq_true rfl⟩) (xc_0 G h) (by decide) rfl rfl rfl (Nat.le_of_ble_eq_true rfl) (fun V h1 => ?_)
  refine x_i2l C.1 dL_core_7 ?_
  refine x_last C.1 dL_core_8 (fun g => xp_77 G _ g _) (by decide) (fun h2 => ?_)
  refine x_goto (tgt := 15) C.1 dL_core_9 (by decide) ?_
  refine x_iconst (v := 0) C.1 dL_core_15 rfl ?_
  exact w_iret C.1 dL_core_16 hr
set_option maxHeartbeats 4000000 in
set_option maxRecDepth 100000 in
theorem T_L_core_1 (G : xG) (l : Launch) (hlt : l.stackTraces = false) (N : Nat) (p1 : Int32) (h : xHp) {h1 : xHp} (hF : F_X8_core_T N p1 h = some (1, h1)) : Met l yL_core vL_core rmL (xPL G [.ref (xad G 0), .int p1, .ref (xad G 77)] h) (xQi G (1, h1)) 1 6 (xA G) := by
  refine w_met (own := RL) (cc := cL_core) (maxL := 4) (ret := some .int) (hh := [(0, 9, 12, 13)]) (lv0 := [(0, .ref (xad G 0)), (1, .int p1), (2, .ref (xad G 77))]) (fo := some (1, h1)) (by decide +kernel) rfl rfl (Nat.le_of_ble_eq_true rfl) rfl ?_ _ rfl
  intro p e s m below meth c C hn3 htab hr
  refine x_aload_n C.1 dL_core_0 rfl 2 rfl ?_
  refine x_iconst (v := 0) C.1 dL_core_1 rfl ?_
  refine x_aload_n C.1 dL_core_2 rfl 0 rfl ?_
  refine x_iload_n C.1 dL_core_3 rfl 1 rfl ?_
  exact w_callXi (t := 1) C dL_core_4 (M_X8_core_T G l hlt N p1 h _ hF) (cwV 1 C.1.2.2.2.2.1 (gdV2 (W := WT) wtWL gWL qL_20 qL_21 qL_22 qL_6 (qL_23)) rfl rfl rfl (by decide +kernel) ⟨Nat.le_of_ble_eq_true rfl, Nat.le_of_ble_eq_true rfl⟩) (xc_0 G h) (by decide) rfl rfl rfl (Nat.le_of_ble_eq_true rfl) (by decide) (by decide) [] ⟨0, 9, 12, 13⟩ [] (htab.trans rfl) (fun z hz => by cases hz) (by decide) (by decide) (C.1.2.2.2.2.1 _ (List.mem_cons_of_mem _ qL_0)) C.2.2.2.2.2.2.1 (fun H locs ls q hP hS hl => w_handn C.1 dL_core_12 dL_core_13 dL_core_14 rfl (by decide) rfl hr hP hS hl)
abbrev vL_value : List Cond := .codeWith yL_value cL_value 4 (some .int) [(0, 8, 11, 13)] :: WL
set_option maxHeartbeats 4000000 in
set_option maxRecDepth 100000 in
theorem G_L_value (G : xG) (l : Launch) (N : Nat) (p1 : Int32) (h : xHp) : ∀ r, LwJ (F_X8_value N p1 h) = some r → Met l yL_value vL_value rmL (xPL G [.ref (xad G 0), .int p1, .ref (xad G 77)] h) (xQi G r) 1 6 (xA G) := by
  refine w_met (own := RL) (cc := cL_value) (maxL := 4) (ret := some .int) (hh := [(0, 8, 11, 13)]) (lv0 := [(0, .ref (xad G 0)), (1, .int p1), (2, .ref (xad G 77))]) (by decide +kernel) rfl rfl (Nat.le_of_ble_eq_true rfl) rfl ?_
  intro p e s m below meth c C hn3 htab hr
  unfold LwJ
  refine x_aload_n C.1 dL_value_0 rfl 2 rfl ?_
  refine x_iconst (v := 0) C.1 dL_value_1 rfl ?_
  refine x_aload_n C.1 dL_value_2 rfl 0 rfl ?_
  refine x_iload_n C.1 dL_value_3 rfl 1 rfl ?_
  refine z_callVl C dL_value_4 (M_X8_value G l N p1 h) (cwV 1 C.1.2.2.2.2.1 (gdV2 (W := WT) wtWL gWL qL_24 qL_25 qL_26 qL_6 (qL_27)) rfl rfl rfl (by decide +kernel) ⟨Nat.le_of_ble_eq_true rfl, Nat.le_of_ble_eq_true rfl⟩) (xc_0 G h) (by decide) rfl rfl rfl (Nat.le_of_ble_eq_true rfl) (fun V h1 => ?_)
  refine x_last C.1 dL_value_7 (fun g => xp_77 G _ g _) (by decide) (fun h2 => ?_)
  refine x_goto (tgt := 14) C.1 dL_value_8 (by decide) ?_
  refine x_iconst (v := 0) C.1 dL_value_14 rfl ?_
  exact w_iret C.1 dL_value_15 hr
set_option maxHeartbeats 4000000 in
set_option maxRecDepth 100000 in
theorem T_L_value_1 (G : xG) (l : Launch) (hlt : l.stackTraces = false) (N : Nat) (p1 : Int32) (h : xHp) {h1 : xHp} (hF : F_X8_value_T N p1 h = some (1, h1)) : Met l yL_value vL_value rmL (xPL G [.ref (xad G 0), .int p1, .ref (xad G 77)] h) (xQi G (1, h1)) 1 6 (xA G) := by
  refine w_met (own := RL) (cc := cL_value) (maxL := 4) (ret := some .int) (hh := [(0, 8, 11, 13)]) (lv0 := [(0, .ref (xad G 0)), (1, .int p1), (2, .ref (xad G 77))]) (fo := some (1, h1)) (by decide +kernel) rfl rfl (Nat.le_of_ble_eq_true rfl) rfl ?_ _ rfl
  intro p e s m below meth c C hn3 htab hr
  refine x_aload_n C.1 dL_value_0 rfl 2 rfl ?_
  refine x_iconst (v := 0) C.1 dL_value_1 rfl ?_
  refine x_aload_n C.1 dL_value_2 rfl 0 rfl ?_
  refine x_iload_n C.1 dL_value_3 rfl 1 rfl ?_
  exact w_callXl (t := 1) C dL_value_4 (M_X8_value_T G l hlt N p1 h _ hF) (cwV 1 C.1.2.2.2.2.1 (gdV2 (W := WT) wtWL gWL qL_24 qL_25 qL_26 qL_6 (qL_27)) rfl rfl rfl (by decide +kernel) ⟨Nat.le_of_ble_eq_true rfl, Nat.le_of_ble_eq_true rfl⟩) (xc_0 G h) (by decide) rfl rfl rfl (Nat.le_of_ble_eq_true rfl) (by decide) (by decide) [] ⟨0, 8, 11, 13⟩ [] (htab.trans rfl) (fun z hz => by cases hz) (by decide) (by decide) (C.1.2.2.2.2.1 _ (List.mem_cons_of_mem _ qL_0)) C.2.2.2.2.2.2.1 (fun H locs ls q hP hS hl => w_handn C.1 dL_value_11 dL_value_12 dL_value_13 rfl (by decide) rfl hr hP hS hl)
abbrev vL_bound : List Cond := .codeWith yL_bound cL_bound 5 (some .int) [(0, 9, 12, 13)] :: WL
set_option maxHeartbeats 4000000 in
set_option maxRecDepth 100000 in
theorem G_L_bound (G : xG) (l : Launch) (N : Nat) (p1 : Int32) (p2 : Int32) (h : xHp) : ∀ r, LwJ (F_X8_bound N p1 p2 h) = some r → Met l yL_bound vL_bound rmL (xPL G [.ref (xad G 0), .int p1, .int p2, .ref (xad G 77)] h) (xQi G r) 1 6 (xA G) := by
  refine w_met (own := RL) (cc := cL_bound) (maxL := 5) (ret := some .int) (hh := [(0, 9, 12, 13)]) (lv0 := [(0, .ref (xad G 0)), (1, .int p1), (2, .int p2), (3, .ref (xad G 77))]) (by decide +kernel) rfl rfl (Nat.le_of_ble_eq_true rfl) rfl ?_
  intro p e s m below meth c C hn3 htab hr
  unfold LwJ
  refine x_aload_n C.1 dL_bound_0 rfl 3 rfl ?_
  refine x_iconst (v := 0) C.1 dL_bound_1 rfl ?_
  refine x_aload_n C.1 dL_bound_2 rfl 0 rfl ?_
  refine x_iload_n C.1 dL_bound_3 rfl 1 rfl ?_
  refine x_iload_n C.1 dL_bound_4 rfl 2 rfl ?_
  refine z_callVl C dL_bound_5 (M_X8_bound G l N p1 p2 h) (cwV 2 C.1.2.2.2.2.1 (gdV2 (W := WT) wtWL gWL qL_29 qL_30 qL_31 qL_6 (qL_32)) rfl rfl rfl (by decide +kernel) ⟨Nat.le_of_ble_eq_true rfl, Nat.le_of_ble_eq_true rfl⟩) (xc_0 G h) (by decide) rfl rfl rfl (Nat.le_of_ble_eq_true rfl) (fun V h1 => ?_)
  refine x_last C.1 dL_bound_8 (fun g => xp_77 G _ g _) (by decide) (fun h2 => ?_)
  refine x_goto (tgt := 16) C.1 dL_bound_9 (by decide) ?_
  refine x_iconst (v := 0) C.1 dL_bound_16 rfl ?_
  exact w_iret C.1 dL_bound_17 hr
set_option maxHeartbeats 4000000 in
set_option maxRecDepth 100000 in
theorem T_L_bound_1 (G : xG) (l : Launch) (hlt : l.stackTraces = false) (N : Nat) (p1 : Int32) (p2 : Int32) (h : xHp) {h1 : xHp} (hF : F_X8_bound_T N p1 p2 h = some (1, h1)) : Met l yL_bound vL_bound rmL (xPL G [.ref (xad G 0), .int p1, .int p2, .ref (xad G 77)] h) (xQi G (1, h1)) 1 6 (xA G) := by
  refine w_met (own := RL) (cc := cL_bound) (maxL := 5) (ret := some .int) (hh := [(0, 9, 12, 13)]) (lv0 := [(0, .ref (xad G 0)), (1, .int p1), (2, .int p2), (3, .ref (xad G 77))]) (fo := some (1, h1)) (by decide +kernel) rfl rfl (Nat.le_of_ble_eq_true rfl) rfl ?_ _ rfl
  intro p e s m below meth c C hn3 htab hr
  refine x_aload_n C.1 dL_bound_0 rfl 3 rfl ?_
  refine x_iconst (v := 0) C.1 dL_bound_1 rfl ?_
  refine x_aload_n C.1 dL_bound_2 rfl 0 rfl ?_
  refine x_iload_n C.1 dL_bound_3 rfl 1 rfl ?_
  refine x_iload_n C.1 dL_bound_4 rfl 2 rfl ?_
  exact w_callXl (t := 1) C dL_bound_5 (M_X8_bound_T G l hlt N p1 p2 h _ hF) (cwV 2 C.1.2.2.2.2.1 (gdV2 (W := WT) wtWL gWL qL_29 qL_30 qL_31 qL_6 (qL_32)) rfl rfl rfl (by decide +kernel) ⟨Nat.le_of_ble_eq_true rfl, Nat.le_of_ble_eq_true rfl⟩) (xc_0 G h) (by decide) rfl rfl rfl (Nat.le_of_ble_eq_true rfl) (by decide) (by decide) [] ⟨0, 9, 12, 13⟩ [] (htab.trans rfl) (fun z hz => by cases hz) (by decide) (by decide) (C.1.2.2.2.2.1 _ (List.mem_cons_of_mem _ qL_0)) C.2.2.2.2.2.2.1 (fun H locs ls q hP hS hl => w_hand C.1 dL_bound_12 dL_bound_14 dL_bound_15 (by decide) rfl hr hP hS hl)
abbrev vL_why : List Cond := .codeWith yL_why cL_why 6 (some .int) [(0, 12, 15, 13), (0, 12, 19, 15)] :: WL
set_option maxHeartbeats 4000000 in
set_option maxRecDepth 100000 in
theorem G_L_why (G : xG) (l : Launch) (N : Nat) (p1 : Int32) (p2 : Int32) (p3 : Int32) (h : xHp) : ∀ r, LwI (F_X8_why N p1 p2 p3 h) = some r → Met l yL_why vL_why rmL (xPL G [.ref (xad G 0), .int p1, .int p2, .int p3, .ref (xad G 77)] h) (xQi G r) 1 6 (xA G) := by
  refine w_met (own := RL) (cc := cL_why) (maxL := 6) (ret := some .int) (hh := [(0, 12, 15, 13), (0, 12, 19, 15)]) (lv0 := [(0, .ref (xad G 0)), (1, .int p1), (2, .int p2), (3, .int p3), (4, .ref (xad G 77))]) (by decide +kernel) rfl rfl (Nat.le_of_ble_eq_true rfl) rfl ?_
  intro p e s m below meth c C hn3 htab hr
  unfold LwI
  refine x_aload C.1 dL_why_0 4 rfl ?_
  refine x_iconst (v := 0) C.1 dL_why_2 rfl ?_
  refine x_aload_n C.1 dL_why_3 rfl 0 rfl ?_
  refine x_iload_n C.1 dL_why_4 rfl 1 rfl ?_
  refine x_iload_n C.1 dL_why_5 rfl 2 rfl ?_
  refine x_iload_n C.1 dL_why_6 rfl 3 rfl ?_
  refine z_callVi C dL_why_7 (M_X8_why G l N p1 p2 p3 h) (cwV 3 C.1.2.2.2.2.1 (gdV2 (W := WT) wtWL gWL qL_34 qL_35 qL_36 qL_6 (qL_37)) rfl rfl rfl (by decide +kernel) ⟨Nat.le_of_ble_eq_true rfl, Nat.le_of_ble_eq_true rfl⟩) (xc_0 G h) (by decide) rfl rfl rfl (Nat.le_of_ble_eq_true rfl) (fun V h1 => ?_)
  refine x_i2l C.1 dL_why_10 ?_
  refine x_last C.1 dL_why_11 (fun g => xp_77 G _ g _) (by decide) (fun h2 => ?_)
  refine x_goto (tgt := 23) C.1 dL_why_12 (by decide) ?_
  refine x_iconst (v := 0) C.1 dL_why_23 rfl ?_
  exact w_iret C.1 dL_why_24 hr
set_option maxHeartbeats 4000000 in
set_option maxRecDepth 100000 in
theorem T_L_why_1 (G : xG) (l : Launch) (hlt : l.stackTraces = false) (N : Nat) (p1 : Int32) (p2 : Int32) (p3 : Int32) (h : xHp) {h1 : xHp} (hF : F_X8_why_T N p1 p2 p3 h = some (1, h1)) : Met l yL_why vL_why rmL (xPL G [.ref (xad G 0), .int p1, .int p2, .int p3, .ref (xad G 77)] h) (xQi G (1, h1)) 1 6 (xA G) := by
  refine w_met (own := RL) (cc := cL_why) (maxL := 6) (ret := some .int) (hh := [(0, 12, 15, 13), (0, 12, 19, 15)]) (lv0 := [(0, .ref (xad G 0)), (1, .int p1), (2, .int p2), (3, .int p3), (4, .ref (xad G 77))]) (fo := some (1, h1)) (by decide +kernel) rfl rfl (Nat.le_of_ble_eq_true rfl) rfl ?_ _ rfl
  intro p e s m below meth c C hn3 htab hr
  refine x_aload C.1 dL_why_0 4 rfl ?_
  refine x_iconst (v := 0) C.1 dL_why_2 rfl ?_
  refine x_aload_n C.1 dL_why_3 rfl 0 rfl ?_
  refine x_iload_n C.1 dL_why_4 rfl 1 rfl ?_
  refine x_iload_n C.1 dL_why_5 rfl 2 rfl ?_
  refine x_iload_n C.1 dL_why_6 rfl 3 rfl ?_
  exact w_callXi (t := 1) C dL_why_7 (M_X8_why_T G l hlt N p1 p2 p3 h _ hF) (cwV 3 C.1.2.2.2.2.1 (gdV2 (W := WT) wtWL gWL qL_34 qL_35 qL_36 qL_6 (qL_37)) rfl rfl rfl (by decide +kernel) ⟨Nat.le_of_ble_eq_true rfl, Nat.le_of_ble_eq_true rfl⟩) (xc_0 G h) (by decide) rfl rfl rfl (Nat.le_of_ble_eq_true rfl) (by decide) (by decide) [] ⟨0, 12, 15, 13⟩ [⟨0, 12, 19, 15⟩] (htab.trans rfl) (fun z hz => by cases hz) (by decide) (by decide) (C.1.2.2.2.2.1 _ (List.mem_cons_of_mem _ qL_0)) C.2.2.2.2.2.2.1 (fun H locs ls q hP hS hl => w_hand C.1 dL_why_15 dL_why_17 dL_why_18 (by decide) rfl hr hP hS hl)
set_option maxHeartbeats 4000000 in
set_option maxRecDepth 100000 in
theorem T_L_why_2 (G : xG) (l : Launch) (hlt : l.stackTraces = false) (N : Nat) (p1 : Int32) (p2 : Int32) (p3 : Int32) (h : xHp) {h1 : xHp} (hF : F_X8_why_T N p1 p2 p3 h = some (2, h1)) : Met l yL_why vL_why rmL (xPL G [.ref (xad G 0), .int p1, .int p2, .int p3, .ref (xad G 77)] h) (xQi G (2, h1)) 1 6 (xA G) := by
  refine w_met (own := RL) (cc := cL_why) (maxL := 6) (ret := some .int) (hh := [(0, 12, 15, 13), (0, 12, 19, 15)]) (lv0 := [(0, .ref (xad G 0)), (1, .int p1), (2, .int p2), (3, .int p3), (4, .ref (xad G 77))]) (fo := some (2, h1)) (by decide +kernel) rfl rfl (Nat.le_of_ble_eq_true rfl) rfl ?_ _ rfl
  intro p e s m below meth c C hn3 htab hr
  refine x_aload C.1 dL_why_0 4 rfl ?_
  refine x_iconst (v := 0) C.1 dL_why_2 rfl ?_
  refine x_aload_n C.1 dL_why_3 rfl 0 rfl ?_
  refine x_iload_n C.1 dL_why_4 rfl 1 rfl ?_
  refine x_iload_n C.1 dL_why_5 rfl 2 rfl ?_
  refine x_iload_n C.1 dL_why_6 rfl 3 rfl ?_
  exact w_callXi (t := 2) C dL_why_7 (M_X8_why_T G l hlt N p1 p2 p3 h _ hF) (cwV 3 C.1.2.2.2.2.1 (gdV2 (W := WT) wtWL gWL qL_34 qL_35 qL_36 qL_6 (qL_37)) rfl rfl rfl (by decide +kernel) ⟨Nat.le_of_ble_eq_true rfl, Nat.le_of_ble_eq_true rfl⟩) (xc_0 G h) (by decide) rfl rfl rfl (Nat.le_of_ble_eq_true rfl) (by decide) (by decide) [⟨0, 12, 15, 13⟩] ⟨0, 12, 19, 15⟩ [] (htab.trans rfl) (fun z hz => by (rcases List.mem_cons.mp hz with rfl | hz; (exact Or.inr ⟨by decide, xexc 1, (C.1.2.2.2.2.1 _ (List.mem_cons_of_mem _ qL_0)), hn3.1⟩); (cases hz))) (by decide) (by decide) (C.1.2.2.2.2.1 _ (List.mem_cons_of_mem _ qL_1)) C.2.2.2.2.2.2.2.1 (fun H locs ls q hP hS hl => w_hand C.1 dL_why_19 dL_why_21 dL_why_22 (by decide) rfl hr hP hS hl)
abbrev vL_constraint : List Cond := .codeWith yL_constraint cL_constraint 5 (some .int) [(0, 10, 13, 13), (0, 10, 17, 15)] :: WL
set_option maxHeartbeats 4000000 in
set_option maxRecDepth 100000 in
theorem G_L_constraint (G : xG) (l : Launch) (N : Nat) (p1 : Int32) (p2 : Int32) (h : xHp) : ∀ r, LwI (F_X8_constraint N p1 p2 h) = some r → Met l yL_constraint vL_constraint rmL (xPL G [.ref (xad G 0), .int p1, .int p2, .ref (xad G 77)] h) (xQi G r) 1 6 (xA G) := by
  refine w_met (own := RL) (cc := cL_constraint) (maxL := 5) (ret := some .int) (hh := [(0, 10, 13, 13), (0, 10, 17, 15)]) (lv0 := [(0, .ref (xad G 0)), (1, .int p1), (2, .int p2), (3, .ref (xad G 77))]) (by decide +kernel) rfl rfl (Nat.le_of_ble_eq_true rfl) rfl ?_
  intro p e s m below meth c C hn3 htab hr
  unfold LwI
  refine x_aload_n C.1 dL_constraint_0 rfl 3 rfl ?_
  refine x_iconst (v := 0) C.1 dL_constraint_1 rfl ?_
  refine x_aload_n C.1 dL_constraint_2 rfl 0 rfl ?_
  refine x_iload_n C.1 dL_constraint_3 rfl 1 rfl ?_
  refine x_iload_n C.1 dL_constraint_4 rfl 2 rfl ?_
  refine z_callVi C dL_constraint_5 (M_X8_constraint G l N p1 p2 h) (cwV 2 C.1.2.2.2.2.1 (gdV2 (W := WT) wtWL gWL qL_39 qL_40 qL_41 qL_6 (qL_42)) rfl rfl rfl (by decide +kernel) ⟨Nat.le_of_ble_eq_true rfl, Nat.le_of_ble_eq_true rfl⟩) (xc_0 G h) (by decide) rfl rfl rfl (Nat.le_of_ble_eq_true rfl) (fun V h1 => ?_)
  refine x_i2l C.1 dL_constraint_8 ?_
  refine x_last C.1 dL_constraint_9 (fun g => xp_77 G _ g _) (by decide) (fun h2 => ?_)
  refine x_goto (tgt := 21) C.1 dL_constraint_10 (by decide) ?_
  refine x_iconst (v := 0) C.1 dL_constraint_21 rfl ?_
  exact w_iret C.1 dL_constraint_22 hr
set_option maxHeartbeats 4000000 in
set_option maxRecDepth 100000 in
theorem T_L_constraint_1 (G : xG) (l : Launch) (hlt : l.stackTraces = false) (N : Nat) (p1 : Int32) (p2 : Int32) (h : xHp) {h1 : xHp} (hF : F_X8_constraint_T N p1 p2 h = some (1, h1)) : Met l yL_constraint vL_constraint rmL (xPL G [.ref (xad G 0), .int p1, .int p2, .ref (xad G 77)] h) (xQi G (1, h1)) 1 6 (xA G) := by
  refine w_met (own := RL) (cc := cL_constraint) (maxL := 5) (ret := some .int) (hh := [(0, 10, 13, 13), (0, 10, 17, 15)]) (lv0 := [(0, .ref (xad G 0)), (1, .int p1), (2, .int p2), (3, .ref (xad G 77))]) (fo := some (1, h1)) (by decide +kernel) rfl rfl (Nat.le_of_ble_eq_true rfl) rfl ?_ _ rfl
  intro p e s m below meth c C hn3 htab hr
  refine x_aload_n C.1 dL_constraint_0 rfl 3 rfl ?_
  refine x_iconst (v := 0) C.1 dL_constraint_1 rfl ?_
  refine x_aload_n C.1 dL_constraint_2 rfl 0 rfl ?_
  refine x_iload_n C.1 dL_constraint_3 rfl 1 rfl ?_
  refine x_iload_n C.1 dL_constraint_4 rfl 2 rfl ?_
  exact w_callXi (t := 1) C dL_constraint_5 (M_X8_constraint_T G l hlt N p1 p2 h _ hF) (cwV 2 C.1.2.2.2.2.1 (gdV2 (W := WT) wtWL gWL qL_39 qL_40 qL_41 qL_6 (qL_42)) rfl rfl rfl (by decide +kernel) ⟨Nat.le_of_ble_eq_true rfl, Nat.le_of_ble_eq_true rfl⟩) (xc_0 G h) (by decide) rfl rfl rfl (Nat.le_of_ble_eq_true rfl) (by decide) (by decide) [] ⟨0, 10, 13, 13⟩ [⟨0, 10, 17, 15⟩] (htab.trans rfl) (fun z hz => by cases hz) (by decide) (by decide) (C.1.2.2.2.2.1 _ (List.mem_cons_of_mem _ qL_0)) C.2.2.2.2.2.2.1 (fun H locs ls q hP hS hl => w_hand C.1 dL_constraint_13 dL_constraint_15 dL_constraint_16 (by decide) rfl hr hP hS hl)
set_option maxHeartbeats 4000000 in
set_option maxRecDepth 100000 in
theorem T_L_constraint_2 (G : xG) (l : Launch) (hlt : l.stackTraces = false) (N : Nat) (p1 : Int32) (p2 : Int32) (h : xHp) {h1 : xHp} (hF : F_X8_constraint_T N p1 p2 h = some (2, h1)) : Met l yL_constraint vL_constraint rmL (xPL G [.ref (xad G 0), .int p1, .int p2, .ref (xad G 77)] h) (xQi G (2, h1)) 1 6 (xA G) := by
  refine w_met (own := RL) (cc := cL_constraint) (maxL := 5) (ret := some .int) (hh := [(0, 10, 13, 13), (0, 10, 17, 15)]) (lv0 := [(0, .ref (xad G 0)), (1, .int p1), (2, .int p2), (3, .ref (xad G 77))]) (fo := some (2, h1)) (by decide +kernel) rfl rfl (Nat.le_of_ble_eq_true rfl) rfl ?_ _ rfl
  intro p e s m below meth c C hn3 htab hr
  refine x_aload_n C.1 dL_constraint_0 rfl 3 rfl ?_
  refine x_iconst (v := 0) C.1 dL_constraint_1 rfl ?_
  refine x_aload_n C.1 dL_constraint_2 rfl 0 rfl ?_
  refine x_iload_n C.1 dL_constraint_3 rfl 1 rfl ?_
  refine x_iload_n C.1 dL_constraint_4 rfl 2 rfl ?_
  exact w_callXi (t := 2) C dL_constraint_5 (M_X8_constraint_T G l hlt N p1 p2 h _ hF) (cwV 2 C.1.2.2.2.2.1 (gdV2 (W := WT) wtWL gWL qL_39 qL_40 qL_41 qL_6 (qL_42)) rfl rfl rfl (by decide +kernel) ⟨Nat.le_of_ble_eq_true rfl, Nat.le_of_ble_eq_true rfl⟩) (xc_0 G h) (by decide) rfl rfl rfl (Nat.le_of_ble_eq_true rfl) (by decide) (by decide) [⟨0, 10, 13, 13⟩] ⟨0, 10, 17, 15⟩ [] (htab.trans rfl) (fun z hz => by (rcases List.mem_cons.mp hz with rfl | hz; (exact Or.inr ⟨by decide, xexc 1, (C.1.2.2.2.2.1 _ (List.mem_cons_of_mem _ qL_0)), hn3.1⟩); (cases hz))) (by decide) (by decide) (C.1.2.2.2.2.1 _ (List.mem_cons_of_mem _ qL_1)) C.2.2.2.2.2.2.2.1 (fun H locs ls q hP hS hl => w_hand C.1 dL_constraint_17 dL_constraint_19 dL_constraint_20 (by decide) rfl hr hP hS hl)
abbrev vL_feed : List Cond := .codeWith yL_feed cL_feed 6 (some .int) [(0, 11, 14, 15), (0, 11, 18, 17)] :: WL
set_option maxHeartbeats 4000000 in
set_option maxRecDepth 100000 in
theorem G_L_feed (G : xG) (l : Launch) (N : Nat) (p1 : Int64) (p3 : Int32) (h : xHp) : ∀ r, LwI (F_X8_feed N p1 p3 h) = some r → Met l yL_feed vL_feed rmL (xPL G [.ref (xad G 0), .long p1, .int p3, .ref (xad G 77)] h) (xQi G r) 1 6 (xA G) := by
  refine w_met (own := RL) (cc := cL_feed) (maxL := 6) (ret := some .int) (hh := [(0, 11, 14, 15), (0, 11, 18, 17)]) (lv0 := [(0, .ref (xad G 0)), (1, .long p1), (3, .int p3), (4, .ref (xad G 77))]) (by decide +kernel) rfl rfl (Nat.le_of_ble_eq_true rfl) rfl ?_
  intro p e s m below meth c C hn3 htab hr
  unfold LwI
  refine x_aload C.1 dL_feed_0 3 rfl ?_
  refine x_iconst (v := 0) C.1 dL_feed_2 rfl ?_
  refine x_aload_n C.1 dL_feed_3 rfl 0 rfl ?_
  refine x_lload_n C.1 dL_feed_4 rfl 1 rfl ?_
  refine x_iload_n C.1 dL_feed_5 rfl 2 rfl ?_
  refine z_callVi C dL_feed_6 (M_X8_feed G l N p1 p3 h) (cwV 2 C.1.2.2.2.2.1 (gdV2 (W := WT) wtWL gWL qL_45 qL_46 qL_47 qL_6 (qL_48)) rfl rfl rfl (by decide +kernel) ⟨Nat.le_of_ble_eq_true rfl, Nat.le_of_ble_eq_true rfl⟩) (xc_0 G h) (by decide) rfl rfl rfl (Nat.le_of_ble_eq_true rfl) (fun V h1 => ?_)
  refine x_i2l C.1 dL_feed_9 ?_
  refine x_last C.1 dL_feed_10 (fun g => xp_77 G _ g _) (by decide) (fun h2 => ?_)
  refine x_goto (tgt := 22) C.1 dL_feed_11 (by decide) ?_
  refine x_iconst (v := 0) C.1 dL_feed_22 rfl ?_
  exact w_iret C.1 dL_feed_23 hr
set_option maxHeartbeats 4000000 in
set_option maxRecDepth 100000 in
theorem T_L_feed_2 (G : xG) (l : Launch) (hlt : l.stackTraces = false) (N : Nat) (p1 : Int64) (p3 : Int32) (h : xHp) {h1 : xHp} (hF : F_X8_feed_T N p1 p3 h = some (2, h1)) : Met l yL_feed vL_feed rmL (xPL G [.ref (xad G 0), .long p1, .int p3, .ref (xad G 77)] h) (xQi G (1, h1)) 1 6 (xA G) := by
  refine w_met (own := RL) (cc := cL_feed) (maxL := 6) (ret := some .int) (hh := [(0, 11, 14, 15), (0, 11, 18, 17)]) (lv0 := [(0, .ref (xad G 0)), (1, .long p1), (3, .int p3), (4, .ref (xad G 77))]) (fo := some (1, h1)) (by decide +kernel) rfl rfl (Nat.le_of_ble_eq_true rfl) rfl ?_ _ rfl
  intro p e s m below meth c C hn3 htab hr
  refine x_aload C.1 dL_feed_0 3 rfl ?_
  refine x_iconst (v := 0) C.1 dL_feed_2 rfl ?_
  refine x_aload_n C.1 dL_feed_3 rfl 0 rfl ?_
  refine x_lload_n C.1 dL_feed_4 rfl 1 rfl ?_
  refine x_iload_n C.1 dL_feed_5 rfl 2 rfl ?_
  exact w_callXi (t := 2) C dL_feed_6 (M_X8_feed_T G l hlt N p1 p3 h _ hF) (cwV 2 C.1.2.2.2.2.1 (gdV2 (W := WT) wtWL gWL qL_45 qL_46 qL_47 qL_6 (qL_48)) rfl rfl rfl (by decide +kernel) ⟨Nat.le_of_ble_eq_true rfl, Nat.le_of_ble_eq_true rfl⟩) (xc_0 G h) (by decide) rfl rfl rfl (Nat.le_of_ble_eq_true rfl) (by decide) (by decide) [] ⟨0, 11, 14, 15⟩ [⟨0, 11, 18, 17⟩] (htab.trans rfl) (fun z hz => by cases hz) (by decide) (by decide) (C.1.2.2.2.2.1 _ (List.mem_cons_of_mem _ qL_1)) C.2.2.2.2.2.2.2.1 (fun H locs ls q hP hS hl => w_hand C.1 dL_feed_14 dL_feed_16 dL_feed_17 (by decide) rfl hr hP hS hl)
set_option maxHeartbeats 4000000 in
set_option maxRecDepth 100000 in
theorem T_L_feed_3 (G : xG) (l : Launch) (hlt : l.stackTraces = false) (N : Nat) (p1 : Int64) (p3 : Int32) (h : xHp) {h1 : xHp} (hF : F_X8_feed_T N p1 p3 h = some (3, h1)) : Met l yL_feed vL_feed rmL (xPL G [.ref (xad G 0), .long p1, .int p3, .ref (xad G 77)] h) (xQi G (2, h1)) 1 6 (xA G) := by
  refine w_met (own := RL) (cc := cL_feed) (maxL := 6) (ret := some .int) (hh := [(0, 11, 14, 15), (0, 11, 18, 17)]) (lv0 := [(0, .ref (xad G 0)), (1, .long p1), (3, .int p3), (4, .ref (xad G 77))]) (fo := some (2, h1)) (by decide +kernel) rfl rfl (Nat.le_of_ble_eq_true rfl) rfl ?_ _ rfl
  intro p e s m below meth c C hn3 htab hr
  refine x_aload C.1 dL_feed_0 3 rfl ?_
  refine x_iconst (v := 0) C.1 dL_feed_2 rfl ?_
  refine x_aload_n C.1 dL_feed_3 rfl 0 rfl ?_
  refine x_lload_n C.1 dL_feed_4 rfl 1 rfl ?_
  refine x_iload_n C.1 dL_feed_5 rfl 2 rfl ?_
  exact w_callXi (t := 3) C dL_feed_6 (M_X8_feed_T G l hlt N p1 p3 h _ hF) (cwV 2 C.1.2.2.2.2.1 (gdV2 (W := WT) wtWL gWL qL_45 qL_46 qL_47 qL_6 (qL_48)) rfl rfl rfl (by decide +kernel) ⟨Nat.le_of_ble_eq_true rfl, Nat.le_of_ble_eq_true rfl⟩) (xc_0 G h) (by decide) rfl rfl rfl (Nat.le_of_ble_eq_true rfl) (by decide) (by decide) [⟨0, 11, 14, 15⟩] ⟨0, 11, 18, 17⟩ [] (htab.trans rfl) (fun z hz => by (rcases List.mem_cons.mp hz with rfl | hz; (exact Or.inr ⟨by decide, xexc 2, (C.1.2.2.2.2.1 _ (List.mem_cons_of_mem _ qL_1)), hn3.2.2⟩); (cases hz))) (by decide) (by decide) (C.1.2.2.2.2.1 _ (List.mem_cons_of_mem _ qL_2)) C.2.2.2.2.2.2.2.2.1 (fun H locs ls q hP hS hl => w_hand C.1 dL_feed_18 dL_feed_20 dL_feed_21 (by decide) rfl hr hP hS hl)
abbrev vL_atom : List Cond := .codeWith yL_atom cL_atom 5 (some .int) [(0, 10, 13, 13), (0, 10, 17, 15)] :: WL
set_option maxHeartbeats 4000000 in
set_option maxRecDepth 100000 in
theorem G_L_atom (G : xG) (l : Launch) (N : Nat) (p1 : Int32) (p2 : Int32) (h : xHp) : ∀ r, LwI (F_X8_atom N p1 p2 h) = some r → Met l yL_atom vL_atom rmL (xPL G [.ref (xad G 0), .int p1, .int p2, .ref (xad G 77)] h) (xQi G r) 1 6 (xA G) := by
  refine w_met (own := RL) (cc := cL_atom) (maxL := 5) (ret := some .int) (hh := [(0, 10, 13, 13), (0, 10, 17, 15)]) (lv0 := [(0, .ref (xad G 0)), (1, .int p1), (2, .int p2), (3, .ref (xad G 77))]) (by decide +kernel) rfl rfl (Nat.le_of_ble_eq_true rfl) rfl ?_
  intro p e s m below meth c C hn3 htab hr
  unfold LwI
  refine x_aload_n C.1 dL_atom_0 rfl 3 rfl ?_
  refine x_iconst (v := 0) C.1 dL_atom_1 rfl ?_
  refine x_aload_n C.1 dL_atom_2 rfl 0 rfl ?_
  refine x_iload_n C.1 dL_atom_3 rfl 1 rfl ?_
  refine x_iload_n C.1 dL_atom_4 rfl 2 rfl ?_
  refine z_callVi C dL_atom_5 (M_X8_atom G l N p1 p2 h) (cwV 2 C.1.2.2.2.2.1 (gdV2 (W := WT) wtWL gWL qL_50 qL_51 qL_52 qL_6 (qL_53)) rfl rfl rfl (by decide +kernel) ⟨Nat.le_of_ble_eq_true rfl, Nat.le_of_ble_eq_true rfl⟩) (xc_0 G h) (by decide) rfl rfl rfl (Nat.le_of_ble_eq_true rfl) (fun V h1 => ?_)
  refine x_i2l C.1 dL_atom_8 ?_
  refine x_last C.1 dL_atom_9 (fun g => xp_77 G _ g _) (by decide) (fun h2 => ?_)
  refine x_goto (tgt := 21) C.1 dL_atom_10 (by decide) ?_
  refine x_iconst (v := 0) C.1 dL_atom_21 rfl ?_
  exact w_iret C.1 dL_atom_22 hr
set_option maxHeartbeats 4000000 in
set_option maxRecDepth 100000 in
theorem T_L_atom_1 (G : xG) (l : Launch) (hlt : l.stackTraces = false) (N : Nat) (p1 : Int32) (p2 : Int32) (h : xHp) {h1 : xHp} (hF : F_X8_atom_T N p1 p2 h = some (1, h1)) : Met l yL_atom vL_atom rmL (xPL G [.ref (xad G 0), .int p1, .int p2, .ref (xad G 77)] h) (xQi G (1, h1)) 1 6 (xA G) := by
  refine w_met (own := RL) (cc := cL_atom) (maxL := 5) (ret := some .int) (hh := [(0, 10, 13, 13), (0, 10, 17, 15)]) (lv0 := [(0, .ref (xad G 0)), (1, .int p1), (2, .int p2), (3, .ref (xad G 77))]) (fo := some (1, h1)) (by decide +kernel) rfl rfl (Nat.le_of_ble_eq_true rfl) rfl ?_ _ rfl
  intro p e s m below meth c C hn3 htab hr
  refine x_aload_n C.1 dL_atom_0 rfl 3 rfl ?_
  refine x_iconst (v := 0) C.1 dL_atom_1 rfl ?_
  refine x_aload_n C.1 dL_atom_2 rfl 0 rfl ?_
  refine x_iload_n C.1 dL_atom_3 rfl 1 rfl ?_
  refine x_iload_n C.1 dL_atom_4 rfl 2 rfl ?_
  exact w_callXi (t := 1) C dL_atom_5 (M_X8_atom_T G l hlt N p1 p2 h _ hF) (cwV 2 C.1.2.2.2.2.1 (gdV2 (W := WT) wtWL gWL qL_50 qL_51 qL_52 qL_6 (qL_53)) rfl rfl rfl (by decide +kernel) ⟨Nat.le_of_ble_eq_true rfl, Nat.le_of_ble_eq_true rfl⟩) (xc_0 G h) (by decide) rfl rfl rfl (Nat.le_of_ble_eq_true rfl) (by decide) (by decide) [] ⟨0, 10, 13, 13⟩ [⟨0, 10, 17, 15⟩] (htab.trans rfl) (fun z hz => by cases hz) (by decide) (by decide) (C.1.2.2.2.2.1 _ (List.mem_cons_of_mem _ qL_0)) C.2.2.2.2.2.2.1 (fun H locs ls q hP hS hl => w_hand C.1 dL_atom_13 dL_atom_15 dL_atom_16 (by decide) rfl hr hP hS hl)
set_option maxHeartbeats 4000000 in
set_option maxRecDepth 100000 in
theorem T_L_atom_2 (G : xG) (l : Launch) (hlt : l.stackTraces = false) (N : Nat) (p1 : Int32) (p2 : Int32) (h : xHp) {h1 : xHp} (hF : F_X8_atom_T N p1 p2 h = some (2, h1)) : Met l yL_atom vL_atom rmL (xPL G [.ref (xad G 0), .int p1, .int p2, .ref (xad G 77)] h) (xQi G (2, h1)) 1 6 (xA G) := by
  refine w_met (own := RL) (cc := cL_atom) (maxL := 5) (ret := some .int) (hh := [(0, 10, 13, 13), (0, 10, 17, 15)]) (lv0 := [(0, .ref (xad G 0)), (1, .int p1), (2, .int p2), (3, .ref (xad G 77))]) (fo := some (2, h1)) (by decide +kernel) rfl rfl (Nat.le_of_ble_eq_true rfl) rfl ?_ _ rfl
  intro p e s m below meth c C hn3 htab hr
  refine x_aload_n C.1 dL_atom_0 rfl 3 rfl ?_
  refine x_iconst (v := 0) C.1 dL_atom_1 rfl ?_
  refine x_aload_n C.1 dL_atom_2 rfl 0 rfl ?_
  refine x_iload_n C.1 dL_atom_3 rfl 1 rfl ?_
  refine x_iload_n C.1 dL_atom_4 rfl 2 rfl ?_
  exact w_callXi (t := 2) C dL_atom_5 (M_X8_atom_T G l hlt N p1 p2 h _ hF) (cwV 2 C.1.2.2.2.2.1 (gdV2 (W := WT) wtWL gWL qL_50 qL_51 qL_52 qL_6 (qL_53)) rfl rfl rfl (by decide +kernel) ⟨Nat.le_of_ble_eq_true rfl, Nat.le_of_ble_eq_true rfl⟩) (xc_0 G h) (by decide) rfl rfl rfl (Nat.le_of_ble_eq_true rfl) (by decide) (by decide) [⟨0, 10, 13, 13⟩] ⟨0, 10, 17, 15⟩ [] (htab.trans rfl) (fun z hz => by (rcases List.mem_cons.mp hz with rfl | hz; (exact Or.inr ⟨by decide, xexc 1, (C.1.2.2.2.2.1 _ (List.mem_cons_of_mem _ qL_0)), hn3.1⟩); (cases hz))) (by decide) (by decide) (C.1.2.2.2.2.1 _ (List.mem_cons_of_mem _ qL_1)) C.2.2.2.2.2.2.2.1 (fun H locs ls q hP hS hl => w_hand C.1 dL_atom_17 dL_atom_19 dL_atom_20 (by decide) rfl hr hP hS hl)
abbrev vL_valueIn : List Cond := .codeWith yL_valueIn cL_valueIn 5 (some .int) [(0, 9, 12, 13)] :: WL
set_option maxHeartbeats 4000000 in
set_option maxRecDepth 100000 in
theorem G_L_valueIn (G : xG) (l : Launch) (N : Nat) (p1 : Int32) (p2 : Int32) (h : xHp) : ∀ r, LwJ (F_X8_valueIn N p1 p2 h) = some r → Met l yL_valueIn vL_valueIn rmL (xPL G [.ref (xad G 0), .int p1, .int p2, .ref (xad G 77)] h) (xQi G r) 1 6 (xA G) := by
  refine w_met (own := RL) (cc := cL_valueIn) (maxL := 5) (ret := some .int) (hh := [(0, 9, 12, 13)]) (lv0 := [(0, .ref (xad G 0)), (1, .int p1), (2, .int p2), (3, .ref (xad G 77))]) (by decide +kernel) rfl rfl (Nat.le_of_ble_eq_true rfl) rfl ?_
  intro p e s m below meth c C hn3 htab hr
  unfold LwJ
  refine x_aload_n C.1 dL_valueIn_0 rfl 3 rfl ?_
  refine x_iconst (v := 0) C.1 dL_valueIn_1 rfl ?_
  refine x_aload_n C.1 dL_valueIn_2 rfl 0 rfl ?_
  refine x_iload_n C.1 dL_valueIn_3 rfl 1 rfl ?_
  refine x_iload_n C.1 dL_valueIn_4 rfl 2 rfl ?_
  refine z_callVl C dL_valueIn_5 (M_X8_valueIn G l N p1 p2 h) (cwV 2 C.1.2.2.2.2.1 (gdV2 (W := WT) wtWL gWL qL_54 qL_55 qL_56 qL_6 (qL_57)) rfl rfl rfl (by decide +kernel) ⟨Nat.le_of_ble_eq_true rfl, Nat.le_of_ble_eq_true rfl⟩) (xc_0 G h) (by decide) rfl rfl rfl (Nat.le_of_ble_eq_true rfl) (fun V h1 => ?_)
  refine x_last C.1 dL_valueIn_8 (fun g => xp_77 G _ g _) (by decide) (fun h2 => ?_)
  refine x_goto (tgt := 16) C.1 dL_valueIn_9 (by decide) ?_
  refine x_iconst (v := 0) C.1 dL_valueIn_16 rfl ?_
  exact w_iret C.1 dL_valueIn_17 hr
set_option maxHeartbeats 4000000 in
set_option maxRecDepth 100000 in
theorem T_L_valueIn_1 (G : xG) (l : Launch) (hlt : l.stackTraces = false) (N : Nat) (p1 : Int32) (p2 : Int32) (h : xHp) {h1 : xHp} (hF : F_X8_valueIn_T N p1 p2 h = some (1, h1)) : Met l yL_valueIn vL_valueIn rmL (xPL G [.ref (xad G 0), .int p1, .int p2, .ref (xad G 77)] h) (xQi G (1, h1)) 1 6 (xA G) := by
  refine w_met (own := RL) (cc := cL_valueIn) (maxL := 5) (ret := some .int) (hh := [(0, 9, 12, 13)]) (lv0 := [(0, .ref (xad G 0)), (1, .int p1), (2, .int p2), (3, .ref (xad G 77))]) (fo := some (1, h1)) (by decide +kernel) rfl rfl (Nat.le_of_ble_eq_true rfl) rfl ?_ _ rfl
  intro p e s m below meth c C hn3 htab hr
  refine x_aload_n C.1 dL_valueIn_0 rfl 3 rfl ?_
  refine x_iconst (v := 0) C.1 dL_valueIn_1 rfl ?_
  refine x_aload_n C.1 dL_valueIn_2 rfl 0 rfl ?_
  refine x_iload_n C.1 dL_valueIn_3 rfl 1 rfl ?_
  refine x_iload_n C.1 dL_valueIn_4 rfl 2 rfl ?_
  exact w_callXl (t := 1) C dL_valueIn_5 (M_X8_valueIn_T G l hlt N p1 p2 h _ hF) (cwV 2 C.1.2.2.2.2.1 (gdV2 (W := WT) wtWL gWL qL_54 qL_55 qL_56 qL_6 (qL_57)) rfl rfl rfl (by decide +kernel) ⟨Nat.le_of_ble_eq_true rfl, Nat.le_of_ble_eq_true rfl⟩) (xc_0 G h) (by decide) rfl rfl rfl (Nat.le_of_ble_eq_true rfl) (by decide) (by decide) [] ⟨0, 9, 12, 13⟩ [] (htab.trans rfl) (fun z hz => by cases hz) (by decide) (by decide) (C.1.2.2.2.2.1 _ (List.mem_cons_of_mem _ qL_0)) C.2.2.2.2.2.2.1 (fun H locs ls q hP hS hl => w_hand C.1 dL_valueIn_12 dL_valueIn_14 dL_valueIn_15 (by decide) rfl hr hP hS hl)
abbrev vL_must : List Cond := .codeWith yL_must cL_must 4 (some .int) [(0, 9, 12, 13)] :: WL
set_option maxHeartbeats 4000000 in
set_option maxRecDepth 100000 in
theorem G_L_must (G : xG) (l : Launch) (N : Nat) (p1 : Int32) (h : xHp) : ∀ r, LwI (F_X8_must N p1 h) = some r → Met l yL_must vL_must rmL (xPL G [.ref (xad G 0), .int p1, .ref (xad G 77)] h) (xQi G r) 1 6 (xA G) := by
  refine w_met (own := RL) (cc := cL_must) (maxL := 4) (ret := some .int) (hh := [(0, 9, 12, 13)]) (lv0 := [(0, .ref (xad G 0)), (1, .int p1), (2, .ref (xad G 77))]) (by decide +kernel) rfl rfl (Nat.le_of_ble_eq_true rfl) rfl ?_
  intro p e s m below meth c C hn3 htab hr
  unfold LwI
  refine x_aload_n C.1 dL_must_0 rfl 2 rfl ?_
  refine x_iconst (v := 0) C.1 dL_must_1 rfl ?_
  refine x_aload_n C.1 dL_must_2 rfl 0 rfl ?_
  refine x_iload_n C.1 dL_must_3 rfl 1 rfl ?_
  refine z_callVi C dL_must_4 (M_X8_must G l N p1 h) (cwV 1 C.1.2.2.2.2.1 (gdV2 (W := WT) wtWL gWL qL_59 qL_60 qL_61 qL_6 (qL_62)) rfl rfl rfl (by decide +kernel) ⟨Nat.le_of_ble_eq_true rfl, Nat.le_of_ble_eq_true rfl⟩) (xc_0 G h) (by decide) rfl rfl rfl (Nat.le_of_ble_eq_true rfl) (fun V h1 => ?_)
  refine x_i2l C.1 dL_must_7 ?_
  refine x_last C.1 dL_must_8 (fun g => xp_77 G _ g _) (by decide) (fun h2 => ?_)
  refine x_goto (tgt := 15) C.1 dL_must_9 (by decide) ?_
  refine x_iconst (v := 0) C.1 dL_must_15 rfl ?_
  exact w_iret C.1 dL_must_16 hr
set_option maxHeartbeats 4000000 in
set_option maxRecDepth 100000 in
theorem T_L_must_1 (G : xG) (l : Launch) (hlt : l.stackTraces = false) (N : Nat) (p1 : Int32) (h : xHp) {h1 : xHp} (hF : F_X8_must_T N p1 h = some (1, h1)) : Met l yL_must vL_must rmL (xPL G [.ref (xad G 0), .int p1, .ref (xad G 77)] h) (xQi G (1, h1)) 1 6 (xA G) := by
  refine w_met (own := RL) (cc := cL_must) (maxL := 4) (ret := some .int) (hh := [(0, 9, 12, 13)]) (lv0 := [(0, .ref (xad G 0)), (1, .int p1), (2, .ref (xad G 77))]) (fo := some (1, h1)) (by decide +kernel) rfl rfl (Nat.le_of_ble_eq_true rfl) rfl ?_ _ rfl
  intro p e s m below meth c C hn3 htab hr
  refine x_aload_n C.1 dL_must_0 rfl 2 rfl ?_
  refine x_iconst (v := 0) C.1 dL_must_1 rfl ?_
  refine x_aload_n C.1 dL_must_2 rfl 0 rfl ?_
  refine x_iload_n C.1 dL_must_3 rfl 1 rfl ?_
  exact w_callXi (t := 1) C dL_must_4 (M_X8_must_T G l hlt N p1 h _ hF) (cwV 1 C.1.2.2.2.2.1 (gdV2 (W := WT) wtWL gWL qL_59 qL_60 qL_61 qL_6 (qL_62)) rfl rfl rfl (by decide +kernel) ⟨Nat.le_of_ble_eq_true rfl, Nat.le_of_ble_eq_true rfl⟩) (xc_0 G h) (by decide) rfl rfl rfl (Nat.le_of_ble_eq_true rfl) (by decide) (by decide) [] ⟨0, 9, 12, 13⟩ [] (htab.trans rfl) (fun z hz => by cases hz) (by decide) (by decide) (C.1.2.2.2.2.1 _ (List.mem_cons_of_mem _ qL_0)) C.2.2.2.2.2.2.1 (fun H locs ls q hP hS hl => w_handn C.1 dL_must_12 dL_must_13 dL_must_14 rfl (by decide) rfl hr hP hS hl)
abbrev vL_written : List Cond := .codeWith yL_written cL_written 4 (some .int) [(0, 9, 12, 13)] :: WL
set_option maxHeartbeats 4000000 in
set_option maxRecDepth 100000 in
theorem G_L_written (G : xG) (l : Launch) (N : Nat) (p1 : Int32) (h : xHp) : ∀ r, LwI (F_X8_written N p1 h) = some r → Met l yL_written vL_written rmL (xPL G [.ref (xad G 0), .int p1, .ref (xad G 77)] h) (xQi G r) 1 6 (xA G) := by
  refine w_met (own := RL) (cc := cL_written) (maxL := 4) (ret := some .int) (hh := [(0, 9, 12, 13)]) (lv0 := [(0, .ref (xad G 0)), (1, .int p1), (2, .ref (xad G 77))]) (by decide +kernel) rfl rfl (Nat.le_of_ble_eq_true rfl) rfl ?_
  intro p e s m below meth c C hn3 htab hr
  unfold LwI
  refine x_aload_n C.1 dL_written_0 rfl 2 rfl ?_
  refine x_iconst (v := 0) C.1 dL_written_1 rfl ?_
  refine x_aload_n C.1 dL_written_2 rfl 0 rfl ?_
  refine x_iload_n C.1 dL_written_3 rfl 1 rfl ?_
  refine z_callVi C dL_written_4 (M_X8_written G l N p1 h) (cwV 1 C.1.2.2.2.2.1 (gdV2 (W := WT) wtWL gWL qL_65 qL_66 qL_67 qL_6 (qL_68)) rfl rfl rfl (by decide +kernel) ⟨Nat.le_of_ble_eq_true rfl, Nat.le_of_ble_eq_true rfl⟩) (xc_0 G h) (by decide) rfl rfl rfl (Nat.le_of_ble_eq_true rfl) (fun V h1 => ?_)
  refine x_i2l C.1 dL_written_7 ?_
  refine x_last C.1 dL_written_8 (fun g => xp_77 G _ g _) (by decide) (fun h2 => ?_)
  refine x_goto (tgt := 15) C.1 dL_written_9 (by decide) ?_
  refine x_iconst (v := 0) C.1 dL_written_15 rfl ?_
  exact w_iret C.1 dL_written_16 hr
set_option maxHeartbeats 4000000 in
set_option maxRecDepth 100000 in
theorem T_L_written_1 (G : xG) (l : Launch) (hlt : l.stackTraces = false) (N : Nat) (p1 : Int32) (h : xHp) {h1 : xHp} (hF : F_X8_written_T N p1 h = some (1, h1)) : Met l yL_written vL_written rmL (xPL G [.ref (xad G 0), .int p1, .ref (xad G 77)] h) (xQi G (1, h1)) 1 6 (xA G) := by
  refine w_met (own := RL) (cc := cL_written) (maxL := 4) (ret := some .int) (hh := [(0, 9, 12, 13)]) (lv0 := [(0, .ref (xad G 0)), (1, .int p1), (2, .ref (xad G 77))]) (fo := some (1, h1)) (by decide +kernel) rfl rfl (Nat.le_of_ble_eq_true rfl) rfl ?_ _ rfl
  intro p e s m below meth c C hn3 htab hr
  refine x_aload_n C.1 dL_written_0 rfl 2 rfl ?_
  refine x_iconst (v := 0) C.1 dL_written_1 rfl ?_
  refine x_aload_n C.1 dL_written_2 rfl 0 rfl ?_
  refine x_iload_n C.1 dL_written_3 rfl 1 rfl ?_
  exact w_callXi (t := 1) C dL_written_4 (M_X8_written_T G l hlt N p1 h _ hF) (cwV 1 C.1.2.2.2.2.1 (gdV2 (W := WT) wtWL gWL qL_65 qL_66 qL_67 qL_6 (qL_68)) rfl rfl rfl (by decide +kernel) ⟨Nat.le_of_ble_eq_true rfl, Nat.le_of_ble_eq_true rfl⟩) (xc_0 G h) (by decide) rfl rfl rfl (Nat.le_of_ble_eq_true rfl) (by decide) (by decide) [] ⟨0, 9, 12, 13⟩ [] (htab.trans rfl) (fun z hz => by cases hz) (by decide) (by decide) (C.1.2.2.2.2.1 _ (List.mem_cons_of_mem _ qL_0)) C.2.2.2.2.2.2.1 (fun H locs ls q hP hS hl => w_handn C.1 dL_written_12 dL_written_13 dL_written_14 rfl (by decide) rfl hr hP hS hl)
abbrev vL_told : List Cond := .codeWith yL_told cL_told 4 (some .int) [(0, 9, 12, 15)] :: WL
set_option maxHeartbeats 4000000 in
set_option maxRecDepth 100000 in
theorem G_L_told (G : xG) (l : Launch) (N : Nat) (p1 : Int32) (h : xHp) : ∀ r, LwI (F_X8_told N p1 h) = some r → Met l yL_told vL_told rmL (xPL G [.ref (xad G 0), .int p1, .ref (xad G 77)] h) (xQi G r) 1 6 (xA G) := by
  refine w_met (own := RL) (cc := cL_told) (maxL := 4) (ret := some .int) (hh := [(0, 9, 12, 15)]) (lv0 := [(0, .ref (xad G 0)), (1, .int p1), (2, .ref (xad G 77))]) (by decide +kernel) rfl rfl (Nat.le_of_ble_eq_true rfl) rfl ?_
  intro p e s m below meth c C hn3 htab hr
  unfold LwI
  refine x_aload_n C.1 dL_told_0 rfl 2 rfl ?_
  refine x_iconst (v := 0) C.1 dL_told_1 rfl ?_
  refine x_aload_n C.1 dL_told_2 rfl 0 rfl ?_
  refine x_iload_n C.1 dL_told_3 rfl 1 rfl ?_
  refine z_callVi C dL_told_4 (M_X8_told G l N p1 h) (cwV 1 C.1.2.2.2.2.1 (gdV2 (W := WT) wtWL gWL qL_70 qL_71 qL_72 qL_6 (qL_73)) rfl rfl rfl (by decide +kernel) ⟨Nat.le_of_ble_eq_true rfl, Nat.le_of_ble_eq_true rfl⟩) (xc_0 G h) (by decide) rfl rfl rfl (Nat.le_of_ble_eq_true rfl) (fun V h1 => ?_)
  refine x_i2l C.1 dL_told_7 ?_
  refine x_last C.1 dL_told_8 (fun g => xp_77 G _ g _) (by decide) (fun h2 => ?_)
  refine x_goto (tgt := 15) C.1 dL_told_9 (by decide) ?_
  refine x_iconst (v := 0) C.1 dL_told_15 rfl ?_
  exact w_iret C.1 dL_told_16 hr
set_option maxHeartbeats 4000000 in
set_option maxRecDepth 100000 in
theorem T_L_told_2 (G : xG) (l : Launch) (hlt : l.stackTraces = false) (N : Nat) (p1 : Int32) (h : xHp) {h1 : xHp} (hF : F_X8_told_T N p1 h = some (2, h1)) : Met l yL_told vL_told rmL (xPL G [.ref (xad G 0), .int p1, .ref (xad G 77)] h) (xQi G (1, h1)) 1 6 (xA G) := by
  refine w_met (own := RL) (cc := cL_told) (maxL := 4) (ret := some .int) (hh := [(0, 9, 12, 15)]) (lv0 := [(0, .ref (xad G 0)), (1, .int p1), (2, .ref (xad G 77))]) (fo := some (1, h1)) (by decide +kernel) rfl rfl (Nat.le_of_ble_eq_true rfl) rfl ?_ _ rfl
  intro p e s m below meth c C hn3 htab hr
  refine x_aload_n C.1 dL_told_0 rfl 2 rfl ?_
  refine x_iconst (v := 0) C.1 dL_told_1 rfl ?_
  refine x_aload_n C.1 dL_told_2 rfl 0 rfl ?_
  refine x_iload_n C.1 dL_told_3 rfl 1 rfl ?_
  exact w_callXi (t := 2) C dL_told_4 (M_X8_told_T G l hlt N p1 h _ hF) (cwV 1 C.1.2.2.2.2.1 (gdV2 (W := WT) wtWL gWL qL_70 qL_71 qL_72 qL_6 (qL_73)) rfl rfl rfl (by decide +kernel) ⟨Nat.le_of_ble_eq_true rfl, Nat.le_of_ble_eq_true rfl⟩) (xc_0 G h) (by decide) rfl rfl rfl (Nat.le_of_ble_eq_true rfl) (by decide) (by decide) [] ⟨0, 9, 12, 15⟩ [] (htab.trans rfl) (fun z hz => by cases hz) (by decide) (by decide) (C.1.2.2.2.2.1 _ (List.mem_cons_of_mem _ qL_1)) C.2.2.2.2.2.2.2.1 (fun H locs ls q hP hS hl => w_handn C.1 dL_told_12 dL_told_13 dL_told_14 rfl (by decide) rfl hr hP hS hl)
