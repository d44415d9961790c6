/-! THE LAW: a round for each call -/
abbrev lvL (G : xG) (b : Nat) (i : Int32) : List (Nat × Value) := [(4, .int i), (3, .ref (xad G 77)), (2, .ref (xad G 51)), (1, .ref (xad G 0)), (0, .ref b)]
theorem out77 (h : xHp) (v : Int64) : (sJ h 77 0 v).2.1 77 0 = v := by simp [sJ, va_up, vp_updL]
set_option maxHeartbeats 4000000 in
set_option maxRecDepth 100000 in
theorem cs_add {G : xG} {p : Program} {l : Launch} {e : Env} {s : State} {m : MethodId} {b L : Nat} {xs : Nat → Int32} {below : List Frame} {meth : Method} {c : Code} {h : xHp} {k n : Nat} {a : Ab} {i : Int32} (C : lC G p s m meth c b L xs) (hlt : l.stackTraces = false) (hi1 : vp_in (i + 1) L) (hi2 : vp_in (i + 2) L) (hi3 : vp_in (i + 3) L) (w : RW a) (rc : RC a h) (rm : RM a h) (hk : k + 1 ≤ 601024) (hn : n + 6 ≤ 7293034) (kk : ∀ (a1 : Ab) (h1 : xHp), RW a1 → RC a1 h1 → RM a1 h1 → xL G p l e s m b below meth c 1174 (lvL G b i) [] h1 (k + 1) (n + 6)) : xL G p l e s m b below meth c 136 (lvL G b i) [] h k n := by
  refine l_aload_n C dL_law_136 rfl 3 rfl ?_
  refine l_aload_n C dL_law_137 rfl 4 rfl ?_
  refine l_iload C dL_law_138 0 rfl ?_
  refine l_iconst (v := 1) C dL_law_140 rfl ?_
  refine l_iadd C dL_law_141 ?_
  refine l_iald C hi1 dL_law_142 ?_
  refine l_aload_n C dL_law_143 rfl 4 rfl ?_
  refine l_iload C dL_law_144 0 rfl ?_
  refine l_iconst (v := 2) C dL_law_146 rfl ?_
  refine l_iadd C dL_law_147 ?_
  refine l_iald C hi2 dL_law_148 ?_
  refine l_aload_n C dL_law_149 rfl 4 rfl ?_
  refine l_iload C dL_law_150 0 rfl ?_
  refine l_iconst (v := 3) C dL_law_152 rfl ?_
  refine l_iadd C dL_law_153 ?_
  refine l_iald C hi3 dL_law_154 ?_
  refine l_aload_n C dL_law_155 rfl 1 rfl ?_
  rcases q_add 7000 (Nat.le_refl _) ((xs (i + 1).toNatClampNeg)) ((xs (i + 2).toNatClampNeg)) ((xs (i + 3).toNatClampNeg)) w rc rm with P | P
  · obtain ⟨V, hv, a1, e8, w1, rc1, rm1, F⟩ := P
    refine l_callS (As := [.ref (xad G 0), .int (xs (i + 1).toNatClampNeg), .int (xs (i + 2).toNatClampNeg), .int (xs (i + 3).toNatClampNeg), .ref (xad G 77)]) (st := []) C dL_law_156 (G_L_add G l 7000 _ _ _ h _ (LwI_of e8)) (vx_cwSW 5 C.1.1.2.2.2.2.1 (gdLS (W := WL) (fun _ h => h) gWL qL_87 qL_88 qL_89 qL_8) rfl rfl rfl (by decide +kernel) ⟨Nat.le_of_ble_eq_true rfl, Nat.le_of_ble_eq_true rfl⟩) rfl rfl (Nat.le_of_ble_eq_true rfl) hk hn ?_
    obtain ⟨h2, e9, ez, rc2, rm2⟩ := F (sJ hv 77 0 V.toInt64) rc1.out rm1.out
    have k77 : h2.2.1 77 0 = V.toInt64 := (congrFun (kf_X9_add 7000 _ _ _ _ _ e9) 0).trans (out77 hv V.toInt64)
    refine l_istore (lv' := [(5, .int 0), (4, .int i), (3, .ref (xad G 77)), (2, .ref (xad G 51)), (1, .ref (xad G 0)), (0, .ref b)]) C dL_law_159 (by decide) rfl ?_
    refine l_aload_n C dL_law_161 rfl 3 rfl ?_
    refine l_aload_n C dL_law_162 rfl 5 rfl ?_
    refine l_iload C dL_law_163 1 rfl ?_
    refine l_iconst (v := 1) C dL_law_165 rfl ?_
    refine l_iadd C dL_law_166 ?_
    refine l_iald C hi1 dL_law_167 ?_
    refine l_aload_n C dL_law_168 rfl 5 rfl ?_
    refine l_iload C dL_law_169 1 rfl ?_
    refine l_iconst (v := 2) C dL_law_171 rfl ?_
    refine l_iadd C dL_law_172 ?_
    refine l_iald C hi2 dL_law_173 ?_
    refine l_aload_n C dL_law_174 rfl 5 rfl ?_
    refine l_iload C dL_law_175 1 rfl ?_
    refine l_iconst (v := 3) C dL_law_177 rfl ?_
    refine l_iadd C dL_law_178 ?_
    refine l_iald C hi3 dL_law_179 ?_
    refine l_callMi (As := [.int (xs (i + 1).toNatClampNeg), .int (xs (i + 2).toNatClampNeg), .int (xs (i + 3).toNatClampNeg)]) (st := []) C dL_law_180 (M_X9_add G l 7000 _ _ _ _ _ e9) (cwV 3 C.1.1.2.2.2.2.1 (gdL (W := WM) wmWL gWL qL_90 qL_91 qL_92 qL_78 qL_93) rfl rfl rfl (by decide +kernel) ⟨Nat.le_of_ble_eq_true rfl, Nat.le_of_ble_eq_true rfl⟩) (xc_51 G _) (by decide) rfl rfl rfl (Nat.le_of_ble_eq_true rfl) (by omega) (by omega) ?_
    refine l_istore (lv' := [(6, .int V), (5, .int 0), (4, .int i), (3, .ref (xad G 77)), (2, .ref (xad G 51)), (1, .ref (xad G 0)), (0, .ref b)]) C dL_law_183 (by decide) rfl ?_
    refine l_aload_n C dL_law_185 rfl 4 rfl ?_
    refine l_callMi (As := []) (st := []) C dL_law_186 (M_X9_thrown G l 7000 _ _ rfl) (cwV 0 C.1.1.2.2.2.2.1 (gdL (W := WM) wmWL gWL qL_94 qL_95 qL_96 qL_78 qL_97) rfl rfl rfl (by decide +kernel) ⟨Nat.le_of_ble_eq_true rfl, Nat.le_of_ble_eq_true rfl⟩) (xc_51 G _) (by decide) rfl rfl rfl (Nat.le_of_ble_eq_true rfl) (by omega) (by omega) ?_
    refine l_iload C dL_law_189 1 rfl ?_
    refine l_icmp_eqT (tgt := 196) C dL_law_191 (by decide) ez ?_
    refine l_iload C dL_law_196 1 rfl ?_
    refine l_if_neF (tgt := 213) C dL_law_198 (by decide) rfl ?_
    refine l_aload_n C dL_law_201 rfl 3 rfl ?_
    refine l_iconst (v := 0) C dL_law_202 rfl ?_
    refine l_lald C dL_law_203 ?_
    refine l_iload C dL_law_204 0 rfl ?_
    refine l_i2l C dL_law_206 ?_
    refine l_lcmp C dL_law_207 ?_
    refine l_if_eqT (tgt := 213) C dL_law_208 (by decide) (by rw [k77]; exact lg_cmp_same _) ?_
    refine l_goto (tgt := 1174) C dL_law_213 (by decide) ?_
    exact l_sub [2, 3, 4, 5, 6] rfl (kk a1 h2 w1 rc2 rm2)
  · obtain ⟨t, c0, hv, eT, hm, rc1, rm1, F⟩ := P
    obtain ⟨V, h2, e9, ez, rc2, rm2⟩ := F hv rc1 rm1
    rcases List.mem_cons.mp hm with hm | hm
    · cases hm
      refine l_callS (As := [.ref (xad G 0), .int (xs (i + 1).toNatClampNeg), .int (xs (i + 2).toNatClampNeg), .int (xs (i + 3).toNatClampNeg), .ref (xad G 77)]) (st := []) C dL_law_156 (T_L_add_1 G l hlt 7000 _ _ _ h eT) (vx_cwSW 5 C.1.1.2.2.2.2.1 (gdLS (W := WL) (fun _ h => h) gWL qL_87 qL_88 qL_89 qL_8) rfl rfl rfl (by decide +kernel) ⟨Nat.le_of_ble_eq_true rfl, Nat.le_of_ble_eq_true rfl⟩) rfl rfl (Nat.le_of_ble_eq_true rfl) hk hn ?_
      refine l_istore (lv' := [(5, .int 1), (4, .int i), (3, .ref (xad G 77)), (2, .ref (xad G 51)), (1, .ref (xad G 0)), (0, .ref b)]) C dL_law_159 (by decide) rfl ?_
      refine l_aload_n C dL_law_161 rfl 3 rfl ?_
      refine l_aload_n C dL_law_162 rfl 5 rfl ?_
      refine l_iload C dL_law_163 1 rfl ?_
      refine l_iconst (v := 1) C dL_law_165 rfl ?_
      refine l_iadd C dL_law_166 ?_
      refine l_iald C hi1 dL_law_167 ?_
      refine l_aload_n C dL_law_168 rfl 5 rfl ?_
      refine l_iload C dL_law_169 1 rfl ?_
      refine l_iconst (v := 2) C dL_law_171 rfl ?_
      refine l_iadd C dL_law_172 ?_
      refine l_iald C hi2 dL_law_173 ?_
      refine l_aload_n C dL_law_174 rfl 5 rfl ?_
      refine l_iload C dL_law_175 1 rfl ?_
      refine l_iconst (v := 3) C dL_law_177 rfl ?_
      refine l_iadd C dL_law_178 ?_
      refine l_iald C hi3 dL_law_179 ?_
      refine l_callMi (As := [.int (xs (i + 1).toNatClampNeg), .int (xs (i + 2).toNatClampNeg), .int (xs (i + 3).toNatClampNeg)]) (st := []) C dL_law_180 (M_X9_add G l 7000 _ _ _ _ _ e9) (cwV 3 C.1.1.2.2.2.2.1 (gdL (W := WM) wmWL gWL qL_90 qL_91 qL_92 qL_78 qL_93) rfl rfl rfl (by decide +kernel) ⟨Nat.le_of_ble_eq_true rfl, Nat.le_of_ble_eq_true rfl⟩) (xc_51 G _) (by decide) rfl rfl rfl (Nat.le_of_ble_eq_true rfl) (by omega) (by omega) ?_
      refine l_istore (lv' := [(6, .int V), (5, .int 1), (4, .int i), (3, .ref (xad G 77)), (2, .ref (xad G 51)), (1, .ref (xad G 0)), (0, .ref b)]) C dL_law_183 (by decide) rfl ?_
      refine l_aload_n C dL_law_185 rfl 4 rfl ?_
      refine l_callMi (As := []) (st := []) C dL_law_186 (M_X9_thrown G l 7000 _ _ rfl) (cwV 0 C.1.1.2.2.2.2.1 (gdL (W := WM) wmWL gWL qL_94 qL_95 qL_96 qL_78 qL_97) rfl rfl rfl (by decide +kernel) ⟨Nat.le_of_ble_eq_true rfl, Nat.le_of_ble_eq_true rfl⟩) (xc_51 G _) (by decide) rfl rfl rfl (Nat.le_of_ble_eq_true rfl) (by omega) (by omega) ?_
      refine l_iload C dL_law_189 1 rfl ?_
      refine l_icmp_eqT (tgt := 196) C dL_law_191 (by decide) ez ?_
      refine l_iload C dL_law_196 1 rfl ?_
      refine l_if_neT (tgt := 213) C dL_law_198 (by decide) (by decide) ?_
      refine l_goto (tgt := 1174) C dL_law_213 (by decide) ?_
      exact l_sub [2, 3, 4, 5, 6] rfl (kk a h2 w rc2 rm2)
    rcases List.mem_cons.mp hm with hm | hm
    · cases hm
      refine l_callS (As := [.ref (xad G 0), .int (xs (i + 1).toNatClampNeg), .int (xs (i + 2).toNatClampNeg), .int (xs (i + 3).toNatClampNeg), .ref (xad G 77)]) (st := []) C dL_law_156 (T_L_add_2 G l hlt 7000 _ _ _ h eT) (vx_cwSW 5 C.1.1.2.2.2.2.1 (gdLS (W := WL) (fun _ h => h) gWL qL_87 qL_88 qL_89 qL_8) rfl rfl rfl (by decide +kernel) ⟨Nat.le_of_ble_eq_true rfl, Nat.le_of_ble_eq_true rfl⟩) rfl rfl (Nat.le_of_ble_eq_true rfl) hk hn ?_
      refine l_istore (lv' := [(5, .int 2), (4, .int i), (3, .ref (xad G 77)), (2, .ref (xad G 51)), (1, .ref (xad G 0)), (0, .ref b)]) C dL_law_159 (by decide) rfl ?_
      refine l_aload_n C dL_law_161 rfl 3 rfl ?_
      refine l_aload_n C dL_law_162 rfl 5 rfl ?_
      refine l_iload C dL_law_163 1 rfl ?_
      refine l_iconst (v := 1) C dL_law_165 rfl ?_
      refine l_iadd C dL_law_166 ?_
      refine l_iald C hi1 dL_law_167 ?_
      refine l_aload_n C dL_law_168 rfl 5 rfl ?_
      refine l_iload C dL_law_169 1 rfl ?_
      refine l_iconst (v := 2) C dL_law_171 rfl ?_
      refine l_iadd C dL_law_172 ?_
      refine l_iald C hi2 dL_law_173 ?_
      refine l_aload_n C dL_law_174 rfl 5 rfl ?_
      refine l_iload C dL_law_175 1 rfl ?_
      refine l_iconst (v := 3) C dL_law_177 rfl ?_
      refine l_iadd C dL_law_178 ?_
      refine l_iald C hi3 dL_law_179 ?_
      refine l_callMi (As := [.int (xs (i + 1).toNatClampNeg), .int (xs (i + 2).toNatClampNeg), .int (xs (i + 3).toNatClampNeg)]) (st := []) C dL_law_180 (M_X9_add G l 7000 _ _ _ _ _ e9) (cwV 3 C.1.1.2.2.2.2.1 (gdL (W := WM) wmWL gWL qL_90 qL_91 qL_92 qL_78 qL_93) rfl rfl rfl (by decide +kernel) ⟨Nat.le_of_ble_eq_true rfl, Nat.le_of_ble_eq_true rfl⟩) (xc_51 G _) (by decide) rfl rfl rfl (Nat.le_of_ble_eq_true rfl) (by omega) (by omega) ?_
      refine l_istore (lv' := [(6, .int V), (5, .int 2), (4, .int i), (3, .ref (xad G 77)), (2, .ref (xad G 51)), (1, .ref (xad G 0)), (0, .ref b)]) C dL_law_183 (by decide) rfl ?_
      refine l_aload_n C dL_law_185 rfl 4 rfl ?_
      refine l_callMi (As := []) (st := []) C dL_law_186 (M_X9_thrown G l 7000 _ _ rfl) (cwV 0 C.1.1.2.2.2.2.1 (gdL (W := WM) wmWL gWL qL_94 qL_95 qL_96 qL_78 qL_97) rfl rfl rfl (by decide +kernel) ⟨Nat.le_of_ble_eq_true rfl, Nat.le_of_ble_eq_true rfl⟩) (xc_51 G _) (by decide) rfl rfl rfl (Nat.le_of_ble_eq_true rfl) (by omega) (by omega) ?_
      refine l_iload C dL_law_189 1 rfl ?_
      refine l_icmp_eqT (tgt := 196) C dL_law_191 (by decide) ez ?_
      refine l_iload C dL_law_196 1 rfl ?_
      refine l_if_neT (tgt := 213) C dL_law_198 (by decide) (by decide) ?_
      refine l_goto (tgt := 1174) C dL_law_213 (by decide) ?_
      exact l_sub [2, 3, 4, 5, 6] rfl (kk a h2 w rc2 rm2)
    have hm := List.mem_singleton.mp hm
    cases hm
    refine l_callS (As := [.ref (xad G 0), .int (xs (i + 1).toNatClampNeg), .int (xs (i + 2).toNatClampNeg), .int (xs (i + 3).toNatClampNeg), .ref (xad G 77)]) (st := []) C dL_law_156 (T_L_add_3 G l hlt 7000 _ _ _ h eT) (vx_cwSW 5 C.1.1.2.2.2.2.1 (gdLS (W := WL) (fun _ h => h) gWL qL_87 qL_88 qL_89 qL_8) rfl rfl rfl (by decide +kernel) ⟨Nat.le_of_ble_eq_true rfl, Nat.le_of_ble_eq_true rfl⟩) rfl rfl (Nat.le_of_ble_eq_true rfl) hk hn ?_
    refine l_istore (lv' := [(5, .int 3), (4, .int i), (3, .ref (xad G 77)), (2, .ref (xad G 51)), (1, .ref (xad G 0)), (0, .ref b)]) C dL_law_159 (by decide) rfl ?_
    refine l_aload_n C dL_law_161 rfl 3 rfl ?_
    refine l_aload_n C dL_law_162 rfl 5 rfl ?_
    refine l_iload C dL_law_163 1 rfl ?_
    refine l_iconst (v := 1) C dL_law_165 rfl ?_
    refine l_iadd C dL_law_166 ?_
    refine l_iald C hi1 dL_law_167 ?_
    refine l_aload_n C dL_law_168 rfl 5 rfl ?_
    refine l_iload C dL_law_169 1 rfl ?_
    refine l_iconst (v := 2) C dL_law_171 rfl ?_
    refine l_iadd C dL_law_172 ?_
    refine l_iald C hi2 dL_law_173 ?_
    refine l_aload_n C dL_law_174 rfl 5 rfl ?_
    refine l_iload C dL_law_175 1 rfl ?_
    refine l_iconst (v := 3) C dL_law_177 rfl ?_
    refine l_iadd C dL_law_178 ?_
    refine l_iald C hi3 dL_law_179 ?_
    refine l_callMi (As := [.int (xs (i + 1).toNatClampNeg), .int (xs (i + 2).toNatClampNeg), .int (xs (i + 3).toNatClampNeg)]) (st := []) C dL_law_180 (M_X9_add G l 7000 _ _ _ _ _ e9) (cwV 3 C.1.1.2.2.2.2.1 (gdL (W := WM) wmWL gWL qL_90 qL_91 qL_92 qL_78 qL_93) rfl rfl rfl (by decide +kernel) ⟨Nat.le_of_ble_eq_true rfl, Nat.le_of_ble_eq_true rfl⟩) (xc_51 G _) (by decide) rfl rfl rfl (Nat.le_of_ble_eq_true rfl) (by omega) (by omega) ?_
    refine l_istore (lv' := [(6, .int V), (5, .int 3), (4, .int i), (3, .ref (xad G 77)), (2, .ref (xad G 51)), (1, .ref (xad G 0)), (0, .ref b)]) C dL_law_183 (by decide) rfl ?_
    refine l_aload_n C dL_law_185 rfl 4 rfl ?_
    refine l_callMi (As := []) (st := []) C dL_law_186 (M_X9_thrown G l 7000 _ _ rfl) (cwV 0 C.1.1.2.2.2.2.1 (gdL (W := WM) wmWL gWL qL_94 qL_95 qL_96 qL_78 qL_97) rfl rfl rfl (by decide +kernel) ⟨Nat.le_of_ble_eq_true rfl, Nat.le_of_ble_eq_true rfl⟩) (xc_51 G _) (by decide) rfl rfl rfl (Nat.le_of_ble_eq_true rfl) (by omega) (by omega) ?_
    refine l_iload C dL_law_189 1 rfl ?_
    refine l_icmp_eqT (tgt := 196) C dL_law_191 (by decide) ez ?_
    refine l_iload C dL_law_196 1 rfl ?_
    refine l_if_neT (tgt := 213) C dL_law_198 (by decide) (by decide) ?_
    refine l_goto (tgt := 1174) C dL_law_213 (by decide) ?_
    exact l_sub [2, 3, 4, 5, 6] rfl (kk a h2 w rc2 rm2)
set_option maxHeartbeats 4000000 in
set_option maxRecDepth 100000 in
theorem cs_push {G : xG} {p : Program} {l : Launch} {e : Env} {s : State} {m : MethodId} {b L : Nat} {xs : Nat → Int32} {below : List Frame} {meth : Method} {c : Code} {h : xHp} {k n : Nat} {a : Ab} {i : Int32} (C : lC G p s m meth c b L xs) (hlt : l.stackTraces = false) (hi1 : vp_in (i + 1) L) (hi2 : vp_in (i + 2) L) (hi3 : vp_in (i + 3) L) (w : RW a) (rc : RC a h) (rm : RM a h) (hk : k + 1 ≤ 601024) (hn : n + 6 ≤ 7293034) (kk : ∀ (a1 : Ab) (h1 : xHp), RW a1 → RC a1 h1 → RM a1 h1 → xL G p l e s m b below meth c 1174 (lvL G b i) [] h1 (k + 1) (n + 6)) : xL G p l e s m b below meth c 216 (lvL G b i) [] h k n := by
  refine l_aload_n C dL_law_216 rfl 3 rfl ?_
  refine l_aload_n C dL_law_217 rfl 1 rfl ?_
  rcases q_push 7000  w rc rm with P | P
  · obtain ⟨V, hv, a1, e8, w1, rc1, rm1, F⟩ := P
    refine l_callS (As := [.ref (xad G 0), .ref (xad G 77)]) (st := []) C dL_law_218 (G_L_push G l 7000  h _ (LwI_of e8)) (vx_cwSW 2 C.1.1.2.2.2.2.1 (gdLS (W := WL) (fun _ h => h) gWL qL_98 qL_99 qL_89 qL_9) rfl rfl rfl (by decide +kernel) ⟨Nat.le_of_ble_eq_true rfl, Nat.le_of_ble_eq_true rfl⟩) rfl rfl (Nat.le_of_ble_eq_true rfl) hk hn ?_
    obtain ⟨h2, e9, ez, rc2, rm2⟩ := F (sJ hv 77 0 V.toInt64) rc1.out rm1.out
    have k77 : h2.2.1 77 0 = V.toInt64 := (congrFun (kf_X9_push 7000  _ _ e9) 0).trans (out77 hv V.toInt64)
    refine l_istore (lv' := [(5, .int 0), (4, .int i), (3, .ref (xad G 77)), (2, .ref (xad G 51)), (1, .ref (xad G 0)), (0, .ref b)]) C dL_law_221 (by decide) rfl ?_
    refine l_aload_n C dL_law_223 rfl 3 rfl ?_
    refine l_callMi (As := []) (st := []) C dL_law_224 (M_X9_push G l 7000  _ _ e9) (cwV 0 C.1.1.2.2.2.2.1 (gdL (W := WM) wmWL gWL qL_100 qL_101 qL_102 qL_78 qL_103) rfl rfl rfl (by decide +kernel) ⟨Nat.le_of_ble_eq_true rfl, Nat.le_of_ble_eq_true rfl⟩) (xc_51 G _) (by decide) rfl rfl rfl (Nat.le_of_ble_eq_true rfl) (by omega) (by omega) ?_
    refine l_istore (lv' := [(6, .int V), (5, .int 0), (4, .int i), (3, .ref (xad G 77)), (2, .ref (xad G 51)), (1, .ref (xad G 0)), (0, .ref b)]) C dL_law_227 (by decide) rfl ?_
    refine l_aload_n C dL_law_229 rfl 4 rfl ?_
    refine l_callMi (As := []) (st := []) C dL_law_230 (M_X9_thrown G l 7000 _ _ rfl) (cwV 0 C.1.1.2.2.2.2.1 (gdL (W := WM) wmWL gWL qL_94 qL_95 qL_96 qL_78 qL_97) rfl rfl rfl (by decide +kernel) ⟨Nat.le_of_ble_eq_true rfl, Nat.le_of_ble_eq_true rfl⟩) (xc_51 G _) (by decide) rfl rfl rfl (Nat.le_of_ble_eq_true rfl) (by omega) (by omega) ?_
    refine l_iload C dL_law_233 1 rfl ?_
    refine l_icmp_eqT (tgt := 240) C dL_law_235 (by decide) ez ?_
    refine l_iload C dL_law_240 1 rfl ?_
    refine l_if_neF (tgt := 257) C dL_law_242 (by decide) rfl ?_
    refine l_aload_n C dL_law_245 rfl 3 rfl ?_
    refine l_iconst (v := 0) C dL_law_246 rfl ?_
    refine l_lald C dL_law_247 ?_
    refine l_iload C dL_law_248 0 rfl ?_
    refine l_i2l C dL_law_250 ?_
    refine l_lcmp C dL_law_251 ?_
    refine l_if_eqT (tgt := 257) C dL_law_252 (by decide) (by rw [k77]; exact lg_cmp_same _) ?_
    refine l_goto (tgt := 1174) C dL_law_257 (by decide) ?_
    exact l_sub [2, 3, 4, 5, 6] rfl (kk a1 h2 w1 rc2 rm2)
  · obtain ⟨t, c0, hv, eT, hm, rc1, rm1, F⟩ := P
    obtain ⟨V, h2, e9, ez, rc2, rm2⟩ := F hv rc1 rm1
    have hm := List.mem_singleton.mp hm
    cases hm
    refine l_callS (As := [.ref (xad G 0), .ref (xad G 77)]) (st := []) C dL_law_218 (T_L_push_3 G l hlt 7000  h eT) (vx_cwSW 2 C.1.1.2.2.2.2.1 (gdLS (W := WL) (fun _ h => h) gWL qL_98 qL_99 qL_89 qL_9) rfl rfl rfl (by decide +kernel) ⟨Nat.le_of_ble_eq_true rfl, Nat.le_of_ble_eq_true rfl⟩) rfl rfl (Nat.le_of_ble_eq_true rfl) hk hn ?_
    refine l_istore (lv' := [(5, .int 1), (4, .int i), (3, .ref (xad G 77)), (2, .ref (xad G 51)), (1, .ref (xad G 0)), (0, .ref b)]) C dL_law_221 (by decide) rfl ?_
    refine l_aload_n C dL_law_223 rfl 3 rfl ?_
    refine l_callMi (As := []) (st := []) C dL_law_224 (M_X9_push G l 7000  _ _ e9) (cwV 0 C.1.1.2.2.2.2.1 (gdL (W := WM) wmWL gWL qL_100 qL_101 qL_102 qL_78 qL_103) rfl rfl rfl (by decide +kernel) ⟨Nat.le_of_ble_eq_true rfl, Nat.le_of_ble_eq_true rfl⟩) (xc_51 G _) (by decide) rfl rfl rfl (Nat.le_of_ble_eq_true rfl) (by omega) (by omega) ?_
    refine l_istore (lv' := [(6, .int V), (5, .int 1), (4, .int i), (3, .ref (xad G 77)), (2, .ref (xad G 51)), (1, .ref (xad G 0)), (0, .ref b)]) C dL_law_227 (by decide) rfl ?_
    refine l_aload_n C dL_law_229 rfl 4 rfl ?_
    refine l_callMi (As := []) (st := []) C dL_law_230 (M_X9_thrown G l 7000 _ _ rfl) (cwV 0 C.1.1.2.2.2.2.1 (gdL (W := WM) wmWL gWL qL_94 qL_95 qL_96 qL_78 qL_97) rfl rfl rfl (by decide +kernel) ⟨Nat.le_of_ble_eq_true rfl, Nat.le_of_ble_eq_true rfl⟩) (xc_51 G _) (by decide) rfl rfl rfl (Nat.le_of_ble_eq_true rfl) (by omega) (by omega) ?_
    refine l_iload C dL_law_233 1 rfl ?_
    refine l_icmp_eqT (tgt := 240) C dL_law_235 (by decide) ez ?_
    refine l_iload C dL_law_240 1 rfl ?_
    refine l_if_neT (tgt := 257) C dL_law_242 (by decide) (by decide) ?_
    refine l_goto (tgt := 1174) C dL_law_257 (by decide) ?_
    exact l_sub [2, 3, 4, 5, 6] rfl (kk a h2 w rc2 rm2)
set_option maxHeartbeats 4000000 in
set_option maxRecDepth 100000 in
theorem cs_pop {G : xG} {p : Program} {l : Launch} {e : Env} {s : State} {m : MethodId} {b L : Nat} {xs : Nat → Int32} {below : List Frame} {meth : Method} {c : Code} {h : xHp} {k n : Nat} {a : Ab} {i : Int32} (C : lC G p s m meth c b L xs) (hlt : l.stackTraces = false) (hi1 : vp_in (i + 1) L) (hi2 : vp_in (i + 2) L) (hi3 : vp_in (i + 3) L) (w : RW a) (rc : RC a h) (rm : RM a h) (hk : k + 1 ≤ 601024) (hn : n + 6 ≤ 7293034) (kk : ∀ (a1 : Ab) (h1 : xHp), RW a1 → RC a1 h1 → RM a1 h1 → xL G p l e s m b below meth c 1174 (lvL G b i) [] h1 (k + 1) (n + 6)) : xL G p l e s m b below meth c 260 (lvL G b i) [] h k n := by
  refine l_aload_n C dL_law_260 rfl 3 rfl ?_
  refine l_aload_n C dL_law_261 rfl 4 rfl ?_
  refine l_iload C dL_law_262 0 rfl ?_
  refine l_iconst (v := 1) C dL_law_264 rfl ?_
  refine l_iadd C dL_law_265 ?_
  refine l_iald C hi1 dL_law_266 ?_
  refine l_aload_n C dL_law_267 rfl 1 rfl ?_
  rcases q_pop 7000 ((xs (i + 1).toNatClampNeg)) w rc rm with P | P
  · obtain ⟨V, hv, a1, e8, w1, rc1, rm1, F⟩ := P
    refine l_callS (As := [.ref (xad G 0), .int (xs (i + 1).toNatClampNeg), .ref (xad G 77)]) (st := []) C dL_law_268 (G_L_pop G l 7000 _ h _ (LwI_of e8)) (vx_cwSW 3 C.1.1.2.2.2.2.1 (gdLS (W := WL) (fun _ h => h) gWL qL_104 qL_105 qL_89 qL_14) rfl rfl rfl (by decide +kernel) ⟨Nat.le_of_ble_eq_true rfl, Nat.le_of_ble_eq_true rfl⟩) rfl rfl (Nat.le_of_ble_eq_true rfl) hk hn ?_
    obtain ⟨h2, e9, ez, rc2, rm2⟩ := F (sJ hv 77 0 V.toInt64) rc1.out rm1.out
    have k77 : h2.2.1 77 0 = V.toInt64 := (congrFun (kf_X9_pop 7000 _ _ _ e9) 0).trans (out77 hv V.toInt64)
    refine l_istore (lv' := [(5, .int 0), (4, .int i), (3, .ref (xad G 77)), (2, .ref (xad G 51)), (1, .ref (xad G 0)), (0, .ref b)]) C dL_law_271 (by decide) rfl ?_
    refine l_aload_n C dL_law_273 rfl 3 rfl ?_
    refine l_aload_n C dL_law_274 rfl 5 rfl ?_
    refine l_iload C dL_law_275 1 rfl ?_
    refine l_iconst (v := 1) C dL_law_277 rfl ?_
    refine l_iadd C dL_law_278 ?_
    refine l_iald C hi1 dL_law_279 ?_
    refine l_callMi (As := [.int (xs (i + 1).toNatClampNeg)]) (st := []) C dL_law_280 (M_X9_pop G l 7000 _ _ _ e9) (cwV 1 C.1.1.2.2.2.2.1 (gdL (W := WM) wmWL gWL qL_106 qL_107 qL_108 qL_78 qL_109) rfl rfl rfl (by decide +kernel) ⟨Nat.le_of_ble_eq_true rfl, Nat.le_of_ble_eq_true rfl⟩) (xc_51 G _) (by decide) rfl rfl rfl (Nat.le_of_ble_eq_true rfl) (by omega) (by omega) ?_
    refine l_istore (lv' := [(6, .int V), (5, .int 0), (4, .int i), (3, .ref (xad G 77)), (2, .ref (xad G 51)), (1, .ref (xad G 0)), (0, .ref b)]) C dL_law_283 (by decide) rfl ?_
    refine l_aload_n C dL_law_285 rfl 4 rfl ?_
    refine l_callMi (As := []) (st := []) C dL_law_286 (M_X9_thrown G l 7000 _ _ rfl) (cwV 0 C.1.1.2.2.2.2.1 (gdL (W := WM) wmWL gWL qL_94 qL_95 qL_96 qL_78 qL_97) rfl rfl rfl (by decide +kernel) ⟨Nat.le_of_ble_eq_true rfl, Nat.le_of_ble_eq_true rfl⟩) (xc_51 G _) (by decide) rfl rfl rfl (Nat.le_of_ble_eq_true rfl) (by omega) (by omega) ?_
    refine l_iload C dL_law_289 1 rfl ?_
    refine l_icmp_eqT (tgt := 296) C dL_law_291 (by decide) ez ?_
    refine l_iload C dL_law_296 1 rfl ?_
    refine l_if_neF (tgt := 313) C dL_law_298 (by decide) rfl ?_
    refine l_aload_n C dL_law_301 rfl 3 rfl ?_
    refine l_iconst (v := 0) C dL_law_302 rfl ?_
    refine l_lald C dL_law_303 ?_
    refine l_iload C dL_law_304 0 rfl ?_
    refine l_i2l C dL_law_306 ?_
    refine l_lcmp C dL_law_307 ?_
    refine l_if_eqT (tgt := 313) C dL_law_308 (by decide) (by rw [k77]; exact lg_cmp_same _) ?_
    refine l_goto (tgt := 1174) C dL_law_313 (by decide) ?_
    exact l_sub [2, 3, 4, 5, 6] rfl (kk a1 h2 w1 rc2 rm2)
  · obtain ⟨t, c0, hv, eT, hm, rc1, rm1, F⟩ := P
    obtain ⟨V, h2, e9, ez, rc2, rm2⟩ := F hv rc1 rm1
    have hm := List.mem_singleton.mp hm
    cases hm
    refine l_callS (As := [.ref (xad G 0), .int (xs (i + 1).toNatClampNeg), .ref (xad G 77)]) (st := []) C dL_law_268 (T_L_pop_2 G l hlt 7000 _ h eT) (vx_cwSW 3 C.1.1.2.2.2.2.1 (gdLS (W := WL) (fun _ h => h) gWL qL_104 qL_105 qL_89 qL_14) rfl rfl rfl (by decide +kernel) ⟨Nat.le_of_ble_eq_true rfl, Nat.le_of_ble_eq_true rfl⟩) rfl rfl (Nat.le_of_ble_eq_true rfl) hk hn ?_
    refine l_istore (lv' := [(5, .int 1), (4, .int i), (3, .ref (xad G 77)), (2, .ref (xad G 51)), (1, .ref (xad G 0)), (0, .ref b)]) C dL_law_271 (by decide) rfl ?_
    refine l_aload_n C dL_law_273 rfl 3 rfl ?_
    refine l_aload_n C dL_law_274 rfl 5 rfl ?_
    refine l_iload C dL_law_275 1 rfl ?_
    refine l_iconst (v := 1) C dL_law_277 rfl ?_
    refine l_iadd C dL_law_278 ?_
    refine l_iald C hi1 dL_law_279 ?_
    refine l_callMi (As := [.int (xs (i + 1).toNatClampNeg)]) (st := []) C dL_law_280 (M_X9_pop G l 7000 _ _ _ e9) (cwV 1 C.1.1.2.2.2.2.1 (gdL (W := WM) wmWL gWL qL_106 qL_107 qL_108 qL_78 qL_109) rfl rfl rfl (by decide +kernel) ⟨Nat.le_of_ble_eq_true rfl, Nat.le_of_ble_eq_true rfl⟩) (xc_51 G _) (by decide) rfl rfl rfl (Nat.le_of_ble_eq_true rfl) (by omega) (by omega) ?_
    refine l_istore (lv' := [(6, .int V), (5, .int 1), (4, .int i), (3, .ref (xad G 77)), (2, .ref (xad G 51)), (1, .ref (xad G 0)), (0, .ref b)]) C dL_law_283 (by decide) rfl ?_
    refine l_aload_n C dL_law_285 rfl 4 rfl ?_
    refine l_callMi (As := []) (st := []) C dL_law_286 (M_X9_thrown G l 7000 _ _ rfl) (cwV 0 C.1.1.2.2.2.2.1 (gdL (W := WM) wmWL gWL qL_94 qL_95 qL_96 qL_78 qL_97) rfl rfl rfl (by decide +kernel) ⟨Nat.le_of_ble_eq_true rfl, Nat.le_of_ble_eq_true rfl⟩) (xc_51 G _) (by decide) rfl rfl rfl (Nat.le_of_ble_eq_true rfl) (by omega) (by omega) ?_
    refine l_iload C dL_law_289 1 rfl ?_
    refine l_icmp_eqT (tgt := 296) C dL_law_291 (by decide) ez ?_
    refine l_iload C dL_law_296 1 rfl ?_
    refine l_if_neT (tgt := 313) C dL_law_298 (by decide) (by decide) ?_
    refine l_goto (tgt := 1174) C dL_law_313 (by decide) ?_
    exact l_sub [2, 3, 4, 5, 6] rfl (kk a h2 w rc2 rm2)
set_option maxHeartbeats 4000000 in
set_option maxRecDepth 100000 in
theorem cs_core {G : xG} {p : Program} {l : Launch} {e : Env} {s : State} {m : MethodId} {b L : Nat} {xs : Nat → Int32} {below : List Frame} {meth : Method} {c : Code} {h : xHp} {k n : Nat} {a : Ab} {i : Int32} (C : lC G p s m meth c b L xs) (hlt : l.stackTraces = false) (hi1 : vp_in (i + 1) L) (hi2 : vp_in (i + 2) L) (hi3 : vp_in (i + 3) L) (w : RW a) (rc : RC a h) (rm : RM a h) (hk : k + 1 ≤ 601024) (hn : n + 6 ≤ 7293034) (kk : ∀ (a1 : Ab) (h1 : xHp), RW a1 → RC a1 h1 → RM a1 h1 → xL G p l e s m b below meth c 1174 (lvL G b i) [] h1 (k + 1) (n + 6)) : xL G p l e s m b below meth c 316 (lvL G b i) [] h k n := by
  refine l_aload_n C dL_law_316 rfl 3 rfl ?_
  refine l_aload_n C dL_law_317 rfl 4 rfl ?_
  refine l_iload C dL_law_318 0 rfl ?_
  refine l_iconst (v := 1) C dL_law_320 rfl ?_
  refine l_iadd C dL_law_321 ?_
  refine l_iald C hi1 dL_law_322 ?_
  refine l_aload_n C dL_law_323 rfl 1 rfl ?_
  rcases q_core 7000 ((xs (i + 1).toNatClampNeg)) w rc rm with P | P
  · obtain ⟨V, hv, a1, e8, w1, rc1, rm1, F⟩ := P
    refine l_callS (As := [.ref (xad G 0), .int (xs (i + 1).toNatClampNeg), .ref (xad G 77)]) (st := []) C dL_law_324 (G_L_core G l 7000 _ h _ (LwI_of e8)) (vx_cwSW 3 C.1.1.2.2.2.2.1 (gdLS (W := WL) (fun _ h => h) gWL qL_110 qL_111 qL_89 qL_19) rfl rfl rfl (by decide +kernel) ⟨Nat.le_of_ble_eq_true rfl, Nat.le_of_ble_eq_true rfl⟩) rfl rfl (Nat.le_of_ble_eq_true rfl) hk hn ?_
    obtain ⟨h2, e9, ez, rc2, rm2⟩ := F (sJ hv 77 0 V.toInt64) rc1.out rm1.out
    have k77 : h2.2.1 77 0 = V.toInt64 := (congrFun (kf_X9_core 7000 _ _ _ e9) 0).trans (out77 hv V.toInt64)
    refine l_istore (lv' := [(5, .int 0), (4, .int i), (3, .ref (xad G 77)), (2, .ref (xad G 51)), (1, .ref (xad G 0)), (0, .ref b)]) C dL_law_327 (by decide) rfl ?_
    refine l_aload_n C dL_law_329 rfl 3 rfl ?_
    refine l_aload_n C dL_law_330 rfl 5 rfl ?_
    refine l_iload C dL_law_331 1 rfl ?_
    refine l_iconst (v := 1) C dL_law_333 rfl ?_
    refine l_iadd C dL_law_334 ?_
    refine l_iald C hi1 dL_law_335 ?_
    refine l_callMi (As := [.int (xs (i + 1).toNatClampNeg)]) (st := []) C dL_law_336 (M_X9_core G l 7000 _ _ _ e9) (cwV 1 C.1.1.2.2.2.2.1 (gdL (W := WM) wmWL gWL qL_112 qL_113 qL_114 qL_78 qL_115) rfl rfl rfl (by decide +kernel) ⟨Nat.le_of_ble_eq_true rfl, Nat.le_of_ble_eq_true rfl⟩) (xc_51 G _) (by decide) rfl rfl rfl (Nat.le_of_ble_eq_true rfl) (by omega) (by omega) ?_
    refine l_istore (lv' := [(6, .int V), (5, .int 0), (4, .int i), (3, .ref (xad G 77)), (2, .ref (xad G 51)), (1, .ref (xad G 0)), (0, .ref b)]) C dL_law_339 (by decide) rfl ?_
    refine l_aload_n C dL_law_341 rfl 4 rfl ?_
    refine l_callMi (As := []) (st := []) C dL_law_342 (M_X9_thrown G l 7000 _ _ rfl) (cwV 0 C.1.1.2.2.2.2.1 (gdL (W := WM) wmWL gWL qL_94 qL_95 qL_96 qL_78 qL_97) rfl rfl rfl (by decide +kernel) ⟨Nat.le_of_ble_eq_true rfl, Nat.le_of_ble_eq_true rfl⟩) (xc_51 G _) (by decide) rfl rfl rfl (Nat.le_of_ble_eq_true rfl) (by omega) (by omega) ?_
    refine l_iload C dL_law_345 1 rfl ?_
    refine l_icmp_eqT (tgt := 352) C dL_law_347 (by decide) ez ?_
    refine l_iload C dL_law_352 1 rfl ?_
    refine l_if_neF (tgt := 369) C dL_law_354 (by decide) rfl ?_
    refine l_aload_n C dL_law_357 rfl 3 rfl ?_
    refine l_iconst (v := 0) C dL_law_358 rfl ?_
    refine l_lald C dL_law_359 ?_
    refine l_iload C dL_law_360 0 rfl ?_
    refine l_i2l C dL_law_362 ?_
    refine l_lcmp C dL_law_363 ?_
    refine l_if_eqT (tgt := 369) C dL_law_364 (by decide) (by rw [k77]; exact lg_cmp_same _) ?_
    refine l_goto (tgt := 1174) C dL_law_369 (by decide) ?_
    exact l_sub [2, 3, 4, 5, 6] rfl (kk a1 h2 w1 rc2 rm2)
  · obtain ⟨t, c0, hv, eT, hm, rc1, rm1, F⟩ := P
    obtain ⟨V, h2, e9, ez, rc2, rm2⟩ := F hv rc1 rm1
    have hm := List.mem_singleton.mp hm
    cases hm
    refine l_callS (As := [.ref (xad G 0), .int (xs (i + 1).toNatClampNeg), .ref (xad G 77)]) (st := []) C dL_law_324 (T_L_core_1 G l hlt 7000 _ h eT) (vx_cwSW 3 C.1.1.2.2.2.2.1 (gdLS (W := WL) (fun _ h => h) gWL qL_110 qL_111 qL_89 qL_19) rfl rfl rfl (by decide +kernel) ⟨Nat.le_of_ble_eq_true rfl, Nat.le_of_ble_eq_true rfl⟩) rfl rfl (Nat.le_of_ble_eq_true rfl) hk hn ?_
    refine l_istore (lv' := [(5, .int 1), (4, .int i), (3, .ref (xad G 77)), (2, .ref (xad G 51)), (1, .ref (xad G 0)), (0, .ref b)]) C dL_law_327 (by decide) rfl ?_
    refine l_aload_n C dL_law_329 rfl 3 rfl ?_
    refine l_aload_n C dL_law_330 rfl 5 rfl ?_
    refine l_iload C dL_law_331 1 rfl ?_
    refine l_iconst (v := 1) C dL_law_333 rfl ?_
    refine l_iadd C dL_law_334 ?_
    refine l_iald C hi1 dL_law_335 ?_
    refine l_callMi (As := [.int (xs (i + 1).toNatClampNeg)]) (st := []) C dL_law_336 (M_X9_core G l 7000 _ _ _ e9) (cwV 1 C.1.1.2.2.2.2.1 (gdL (W := WM) wmWL gWL qL_112 qL_113 qL_114 qL_78 qL_115) rfl rfl rfl (by decide +kernel) ⟨Nat.le_of_ble_eq_true rfl, Nat.le_of_ble_eq_true rfl⟩) (xc_51 G _) (by decide) rfl rfl rfl (Nat.le_of_ble_eq_true rfl) (by omega) (by omega) ?_
    refine l_istore (lv' := [(6, .int V), (5, .int 1), (4, .int i), (3, .ref (xad G 77)), (2, .ref (xad G 51)), (1, .ref (xad G 0)), (0, .ref b)]) C dL_law_339 (by decide) rfl ?_
    refine l_aload_n C dL_law_341 rfl 4 rfl ?_
    refine l_callMi (As := []) (st := []) C dL_law_342 (M_X9_thrown G l 7000 _ _ rfl) (cwV 0 C.1.1.2.2.2.2.1 (gdL (W := WM) wmWL gWL qL_94 qL_95 qL_96 qL_78 qL_97) rfl rfl rfl (by decide +kernel) ⟨Nat.le_of_ble_eq_true rfl, Nat.le_of_ble_eq_true rfl⟩) (xc_51 G _) (by decide) rfl rfl rfl (Nat.le_of_ble_eq_true rfl) (by omega) (by omega) ?_
    refine l_iload C dL_law_345 1 rfl ?_
    refine l_icmp_eqT (tgt := 352) C dL_law_347 (by decide) ez ?_
    refine l_iload C dL_law_352 1 rfl ?_
    refine l_if_neT (tgt := 369) C dL_law_354 (by decide) (by decide) ?_
    refine l_goto (tgt := 1174) C dL_law_369 (by decide) ?_
    exact l_sub [2, 3, 4, 5, 6] rfl (kk a h2 w rc2 rm2)
set_option maxHeartbeats 4000000 in
set_option maxRecDepth 100000 in
theorem cs_value {G : xG} {p : Program} {l : Launch} {e : Env} {s : State} {m : MethodId} {b L : Nat} {xs : Nat → Int32} {below : List Frame} {meth : Method} {c : Code} {h : xHp} {k n : Nat} {a : Ab} {i : Int32} (C : lC G p s m meth c b L xs) (hlt : l.stackTraces = false) (hi1 : vp_in (i + 1) L) (hi2 : vp_in (i + 2) L) (hi3 : vp_in (i + 3) L) (w : RW a) (rc : RC a h) (rm : RM a h) (hk : k + 1 ≤ 601024) (hn : n + 6 ≤ 7293034) (kk : ∀ (a1 : Ab) (h1 : xHp), RW a1 → RC a1 h1 → RM a1 h1 → xL G p l e s m b below meth c 1174 (lvL G b i) [] h1 (k + 1) (n + 6)) : xL G p l e s m b below meth c 372 (lvL G b i) [] h k n := by
  refine l_aload_n C dL_law_372 rfl 3 rfl ?_
  refine l_aload_n C dL_law_373 rfl 4 rfl ?_
  refine l_iload C dL_law_374 0 rfl ?_
  refine l_iconst (v := 1) C dL_law_376 rfl ?_
  refine l_iadd C dL_law_377 ?_
  refine l_iald C hi1 dL_law_378 ?_
  refine l_aload_n C dL_law_379 rfl 1 rfl ?_
  rcases q_value 7000 (Nat.le_refl _) ((xs (i + 1).toNatClampNeg)) w rc rm with P | P
  · obtain ⟨V, hv, a1, e8, w1, rc1, rm1, F⟩ := P
    refine l_callS (As := [.ref (xad G 0), .int (xs (i + 1).toNatClampNeg), .ref (xad G 77)]) (st := []) C dL_law_380 (G_L_value G l 7000 _ h _ (LwJ_of e8)) (vx_cwSW 3 C.1.1.2.2.2.2.1 (gdLS (W := WL) (fun _ h => h) gWL qL_116 qL_117 qL_89 qL_28) rfl rfl rfl (by decide +kernel) ⟨Nat.le_of_ble_eq_true rfl, Nat.le_of_ble_eq_true rfl⟩) rfl rfl (Nat.le_of_ble_eq_true rfl) hk hn ?_
    obtain ⟨h2, e9, ez, rc2, rm2⟩ := F (sJ hv 77 0 V) rc1.out rm1.out
    have k77 : h2.2.1 77 0 = V := (congrFun (kf_X9_value 7000 _ _ _ e9) 0).trans (out77 hv V)
    refine l_istore (lv' := [(5, .int 0), (4, .int i), (3, .ref (xad G 77)), (2, .ref (xad G 51)), (1, .ref (xad G 0)), (0, .ref b)]) C dL_law_383 (by decide) rfl ?_
    refine l_aload_n C dL_law_385 rfl 3 rfl ?_
    refine l_aload_n C dL_law_386 rfl 5 rfl ?_
    refine l_iload C dL_law_387 1 rfl ?_
    refine l_iconst (v := 1) C dL_law_389 rfl ?_
    refine l_iadd C dL_law_390 ?_
    refine l_iald C hi1 dL_law_391 ?_
    refine l_callMl (As := [.int (xs (i + 1).toNatClampNeg)]) (st := []) C dL_law_392 (M_X9_value G l 7000 _ _ _ e9) (cwV 1 C.1.1.2.2.2.2.1 (gdL (W := WM) wmWL gWL qL_118 qL_119 qL_120 qL_78 qL_121) rfl rfl rfl (by decide +kernel) ⟨Nat.le_of_ble_eq_true rfl, Nat.le_of_ble_eq_true rfl⟩) (xc_51 G _) (by decide) rfl rfl rfl (Nat.le_of_ble_eq_true rfl) (by omega) (by omega) ?_
    refine l_lstore (lv' := [(6, .long V), (5, .int 0), (4, .int i), (3, .ref (xad G 77)), (2, .ref (xad G 51)), (1, .ref (xad G 0)), (0, .ref b)]) C dL_law_395 (by decide) rfl ?_
    refine l_aload_n C dL_law_397 rfl 4 rfl ?_
    refine l_callMi (As := []) (st := []) C dL_law_398 (M_X9_thrown G l 7000 _ _ rfl) (cwV 0 C.1.1.2.2.2.2.1 (gdL (W := WM) wmWL gWL qL_94 qL_95 qL_96 qL_78 qL_97) rfl rfl rfl (by decide +kernel) ⟨Nat.le_of_ble_eq_true rfl, Nat.le_of_ble_eq_true rfl⟩) (xc_51 G _) (by decide) rfl rfl rfl (Nat.le_of_ble_eq_true rfl) (by omega) (by omega) ?_
    refine l_iload C dL_law_401 1 rfl ?_
    refine l_icmp_eqT (tgt := 408) C dL_law_403 (by decide) ez ?_
    refine l_iload C dL_law_408 1 rfl ?_
    refine l_if_neF (tgt := 424) C dL_law_410 (by decide) rfl ?_
    refine l_aload_n C dL_law_413 rfl 3 rfl ?_
    refine l_iconst (v := 0) C dL_law_414 rfl ?_
    refine l_lald C dL_law_415 ?_
    refine l_lload C dL_law_416 0 rfl ?_
    refine l_lcmp C dL_law_418 ?_
    refine l_if_eqT (tgt := 424) C dL_law_419 (by decide) (by rw [k77]; exact lg_cmp_same _) ?_
    refine l_goto (tgt := 1174) C dL_law_424 (by decide) ?_
    exact l_sub [2, 3, 4, 5, 6] rfl (kk a1 h2 w1 rc2 rm2)
  · obtain ⟨t, c0, hv, eT, hm, rc1, rm1, F⟩ := P
    obtain ⟨V, h2, e9, ez, rc2, rm2⟩ := F hv rc1 rm1
    have hm := List.mem_singleton.mp hm
    cases hm
    refine l_callS (As := [.ref (xad G 0), .int (xs (i + 1).toNatClampNeg), .ref (xad G 77)]) (st := []) C dL_law_380 (T_L_value_1 G l hlt 7000 _ h eT) (vx_cwSW 3 C.1.1.2.2.2.2.1 (gdLS (W := WL) (fun _ h => h) gWL qL_116 qL_117 qL_89 qL_28) rfl rfl rfl (by decide +kernel) ⟨Nat.le_of_ble_eq_true rfl, Nat.le_of_ble_eq_true rfl⟩) rfl rfl (Nat.le_of_ble_eq_true rfl) hk hn ?_
    refine l_istore (lv' := [(5, .int 1), (4, .int i), (3, .ref (xad G 77)), (2, .ref (xad G 51)), (1, .ref (xad G 0)), (0, .ref b)]) C dL_law_383 (by decide) rfl ?_
    refine l_aload_n C dL_law_385 rfl 3 rfl ?_
    refine l_aload_n C dL_law_386 rfl 5 rfl ?_
    refine l_iload C dL_law_387 1 rfl ?_
    refine l_iconst (v := 1) C dL_law_389 rfl ?_
    refine l_iadd C dL_law_390 ?_
    refine l_iald C hi1 dL_law_391 ?_
    refine l_callMl (As := [.int (xs (i + 1).toNatClampNeg)]) (st := []) C dL_law_392 (M_X9_value G l 7000 _ _ _ e9) (cwV 1 C.1.1.2.2.2.2.1 (gdL (W := WM) wmWL gWL qL_118 qL_119 qL_120 qL_78 qL_121) rfl rfl rfl (by decide +kernel) ⟨Nat.le_of_ble_eq_true rfl, Nat.le_of_ble_eq_true rfl⟩) (xc_51 G _) (by decide) rfl rfl rfl (Nat.le_of_ble_eq_true rfl) (by omega) (by omega) ?_
    refine l_lstore (lv' := [(6, .long V), (5, .int 1), (4, .int i), (3, .ref (xad G 77)), (2, .ref (xad G 51)), (1, .ref (xad G 0)), (0, .ref b)]) C dL_law_395 (by decide) rfl ?_
    refine l_aload_n C dL_law_397 rfl 4 rfl ?_
    refine l_callMi (As := []) (st := []) C dL_law_398 (M_X9_thrown G l 7000 _ _ rfl) (cwV 0 C.1.1.2.2.2.2.1 (gdL (W := WM) wmWL gWL qL_94 qL_95 qL_96 qL_78 qL_97) rfl rfl rfl (by decide +kernel) ⟨Nat.le_of_ble_eq_true rfl, Nat.le_of_ble_eq_true rfl⟩) (xc_51 G _) (by decide) rfl rfl rfl (Nat.le_of_ble_eq_true rfl) (by omega) (by omega) ?_
    refine l_iload C dL_law_401 1 rfl ?_
    refine l_icmp_eqT (tgt := 408) C dL_law_403 (by decide) ez ?_
    refine l_iload C dL_law_408 1 rfl ?_
    refine l_if_neT (tgt := 424) C dL_law_410 (by decide) (by decide) ?_
    refine l_goto (tgt := 1174) C dL_law_424 (by decide) ?_
    exact l_sub [2, 3, 4, 5, 6] rfl (kk a h2 w rc2 rm2)
set_option maxHeartbeats 4000000 in
set_option maxRecDepth 100000 in
theorem cs_bound {G : xG} {p : Program} {l : Launch} {e : Env} {s : State} {m : MethodId} {b L : Nat} {xs : Nat → Int32} {below : List Frame} {meth : Method} {c : Code} {h : xHp} {k n : Nat} {a : Ab} {i : Int32} (C : lC G p s m meth c b L xs) (hlt : l.stackTraces = false) (hi1 : vp_in (i + 1) L) (hi2 : vp_in (i + 2) L) (hi3 : vp_in (i + 3) L) (w : RW a) (rc : RC a h) (rm : RM a h) (hk : k + 1 ≤ 601024) (hn : n + 6 ≤ 7293034) (kk : ∀ (a1 : Ab) (h1 : xHp), RW a1 → RC a1 h1 → RM a1 h1 → xL G p l e s m b below meth c 1174 (lvL G b i) [] h1 (k + 1) (n + 6)) : xL G p l e s m b below meth c 427 (lvL G b i) [] h k n := by
  refine l_aload_n C dL_law_427 rfl 3 rfl ?_
  refine l_aload_n C dL_law_428 rfl 4 rfl ?_
  refine l_iload C dL_law_429 0 rfl ?_
  refine l_iconst (v := 1) C dL_law_431 rfl ?_
  refine l_iadd C dL_law_432 ?_
  refine l_iald C hi1 dL_law_433 ?_
  refine l_aload_n C dL_law_434 rfl 4 rfl ?_
  refine l_iload C dL_law_435 0 rfl ?_
  refine l_iconst (v := 2) C dL_law_437 rfl ?_
  refine l_iadd C dL_law_438 ?_
  refine l_iald C hi2 dL_law_439 ?_
  refine l_aload_n C dL_law_440 rfl 1 rfl ?_
  rcases q_bound 7000 (Nat.le_refl _) ((xs (i + 1).toNatClampNeg)) ((xs (i + 2).toNatClampNeg)) w rc rm with P | P
  · obtain ⟨V, hv, a1, e8, w1, rc1, rm1, F⟩ := P
    refine l_callS (As := [.ref (xad G 0), .int (xs (i + 1).toNatClampNeg), .int (xs (i + 2).toNatClampNeg), .ref (xad G 77)]) (st := []) C dL_law_441 (G_L_bound G l 7000 _ _ h _ (LwJ_of e8)) (vx_cwSW 4 C.1.1.2.2.2.2.1 (gdLS (W := WL) (fun _ h => h) gWL qL_122 qL_123 qL_89 qL_33) rfl rfl rfl (by decide +kernel) ⟨Nat.le_of_ble_eq_true rfl, Nat.le_of_ble_eq_true rfl⟩) rfl rfl (Nat.le_of_ble_eq_true rfl) hk hn ?_
    obtain ⟨h2, e9, ez, rc2, rm2⟩ := F (sJ hv 77 0 V) rc1.out rm1.out
    have k77 : h2.2.1 77 0 = V := (congrFun (kf_X9_bound 7000 _ _ _ _ e9) 0).trans (out77 hv V)
    refine l_istore (lv' := [(5, .int 0), (4, .int i), (3, .ref (xad G 77)), (2, .ref (xad G 51)), (1, .ref (xad G 0)), (0, .ref b)]) C dL_law_444 (by decide) rfl ?_
    refine l_aload_n C dL_law_446 rfl 3 rfl ?_
    refine l_aload_n C dL_law_447 rfl 5 rfl ?_
    refine l_iload C dL_law_448 1 rfl ?_
    refine l_iconst (v := 1) C dL_law_450 rfl ?_
    refine l_iadd C dL_law_451 ?_
    refine l_iald C hi1 dL_law_452 ?_
    refine l_aload_n C dL_law_453 rfl 5 rfl ?_
    refine l_iload C dL_law_454 1 rfl ?_
    refine l_iconst (v := 2) C dL_law_456 rfl ?_
    refine l_iadd C dL_law_457 ?_
    refine l_iald C hi2 dL_law_458 ?_
    refine l_callMl (As := [.int (xs (i + 1).toNatClampNeg), .int (xs (i + 2).toNatClampNeg)]) (st := []) C dL_law_459 (M_X9_bound G l 7000 _ _ _ _ e9) (cwV 2 C.1.1.2.2.2.2.1 (gdL (W := WM) wmWL gWL qL_124 qL_125 qL_126 qL_78 qL_127) rfl rfl rfl (by decide +kernel) ⟨Nat.le_of_ble_eq_true rfl, Nat.le_of_ble_eq_true rfl⟩) (xc_51 G _) (by decide) rfl rfl rfl (Nat.le_of_ble_eq_true rfl) (by omega) (by omega) ?_
    refine l_lstore (lv' := [(6, .long V), (5, .int 0), (4, .int i), (3, .ref (xad G 77)), (2, .ref (xad G 51)), (1, .ref (xad G 0)), (0, .ref b)]) C dL_law_462 (by decide) rfl ?_
    refine l_aload_n C dL_law_464 rfl 4 rfl ?_
    refine l_callMi (As := []) (st := []) C dL_law_465 (M_X9_thrown G l 7000 _ _ rfl) (cwV 0 C.1.1.2.2.2.2.1 (gdL (W := WM) wmWL gWL qL_94 qL_95 qL_96 qL_78 qL_97) rfl rfl rfl (by decide +kernel) ⟨Nat.le_of_ble_eq_true rfl, Nat.le_of_ble_eq_true rfl⟩) (xc_51 G _) (by decide) rfl rfl rfl (Nat.le_of_ble_eq_true rfl) (by omega) (by omega) ?_
    refine l_iload C dL_law_468 1 rfl ?_
    refine l_icmp_eqT (tgt := 475) C dL_law_470 (by decide) ez ?_
    refine l_iload C dL_law_475 1 rfl ?_
    refine l_if_neF (tgt := 491) C dL_law_477 (by decide) rfl ?_
    refine l_aload_n C dL_law_480 rfl 3 rfl ?_
    refine l_iconst (v := 0) C dL_law_481 rfl ?_
    refine l_lald C dL_law_482 ?_
    refine l_lload C dL_law_483 0 rfl ?_
    refine l_lcmp C dL_law_485 ?_
    refine l_if_eqT (tgt := 491) C dL_law_486 (by decide) (by rw [k77]; exact lg_cmp_same _) ?_
    refine l_goto (tgt := 1174) C dL_law_491 (by decide) ?_
    exact l_sub [2, 3, 4, 5, 6] rfl (kk a1 h2 w1 rc2 rm2)
  · obtain ⟨t, c0, hv, eT, hm, rc1, rm1, F⟩ := P
    obtain ⟨V, h2, e9, ez, rc2, rm2⟩ := F hv rc1 rm1
    have hm := List.mem_singleton.mp hm
    cases hm
    refine l_callS (As := [.ref (xad G 0), .int (xs (i + 1).toNatClampNeg), .int (xs (i + 2).toNatClampNeg), .ref (xad G 77)]) (st := []) C dL_law_441 (T_L_bound_1 G l hlt 7000 _ _ h eT) (vx_cwSW 4 C.1.1.2.2.2.2.1 (gdLS (W := WL) (fun _ h => h) gWL qL_122 qL_123 qL_89 qL_33) rfl rfl rfl (by decide +kernel) ⟨Nat.le_of_ble_eq_true rfl, Nat.le_of_ble_eq_true rfl⟩) rfl rfl (Nat.le_of_ble_eq_true rfl) hk hn ?_
    refine l_istore (lv' := [(5, .int 1), (4, .int i), (3, .ref (xad G 77)), (2, .ref (xad G 51)), (1, .ref (xad G 0)), (0, .ref b)]) C dL_law_444 (by decide) rfl ?_
    refine l_aload_n C dL_law_446 rfl 3 rfl ?_
    refine l_aload_n C dL_law_447 rfl 5 rfl ?_
    refine l_iload C dL_law_448 1 rfl ?_
    refine l_iconst (v := 1) C dL_law_450 rfl ?_
    refine l_iadd C dL_law_451 ?_
    refine l_iald C hi1 dL_law_452 ?_
    refine l_aload_n C dL_law_453 rfl 5 rfl ?_
    refine l_iload C dL_law_454 1 rfl ?_
    refine l_iconst (v := 2) C dL_law_456 rfl ?_
    refine l_iadd C dL_law_457 ?_
    refine l_iald C hi2 dL_law_458 ?_
    refine l_callMl (As := [.int (xs (i + 1).toNatClampNeg), .int (xs (i + 2).toNatClampNeg)]) (st := []) C dL_law_459 (M_X9_bound G l 7000 _ _ _ _ e9) (cwV 2 C.1.1.2.2.2.2.1 (gdL (W := WM) wmWL gWL qL_124 qL_125 qL_126 qL_78 qL_127) rfl rfl rfl (by decide +kernel) ⟨Nat.le_of_ble_eq_true rfl, Nat.le_of_ble_eq_true rfl⟩) (xc_51 G _) (by decide) rfl rfl rfl (Nat.le_of_ble_eq_true rfl) (by omega) (by omega) ?_
    refine l_lstore (lv' := [(6, .long V), (5, .int 1), (4, .int i), (3, .ref (xad G 77)), (2, .ref (xad G 51)), (1, .ref (xad G 0)), (0, .ref b)]) C dL_law_462 (by decide) rfl ?_
    refine l_aload_n C dL_law_464 rfl 4 rfl ?_
    refine l_callMi (As := []) (st := []) C dL_law_465 (M_X9_thrown G l 7000 _ _ rfl) (cwV 0 C.1.1.2.2.2.2.1 (gdL (W := WM) wmWL gWL qL_94 qL_95 qL_96 qL_78 qL_97) rfl rfl rfl (by decide +kernel) ⟨Nat.le_of_ble_eq_true rfl, Nat.le_of_ble_eq_true rfl⟩) (xc_51 G _) (by decide) rfl rfl rfl (Nat.le_of_ble_eq_true rfl) (by omega) (by omega) ?_
    refine l_iload C dL_law_468 1 rfl ?_
    refine l_icmp_eqT (tgt := 475) C dL_law_470 (by decide) ez ?_
    refine l_iload C dL_law_475 1 rfl ?_
    refine l_if_neT (tgt := 491) C dL_law_477 (by decide) (by decide) ?_
    refine l_goto (tgt := 1174) C dL_law_491 (by decide) ?_
    exact l_sub [2, 3, 4, 5, 6] rfl (kk a h2 w rc2 rm2)
set_option maxHeartbeats 4000000 in
set_option maxRecDepth 100000 in
theorem cs_why {G : xG} {p : Program} {l : Launch} {e : Env} {s : State} {m : MethodId} {b L : Nat} {xs : Nat → Int32} {below : List Frame} {meth : Method} {c : Code} {h : xHp} {k n : Nat} {a : Ab} {i : Int32} (C : lC G p s m meth c b L xs) (hlt : l.stackTraces = false) (hi1 : vp_in (i + 1) L) (hi2 : vp_in (i + 2) L) (hi3 : vp_in (i + 3) L) (w : RW a) (rc : RC a h) (rm : RM a h) (hk : k + 1 ≤ 601024) (hn : n + 6 ≤ 7293034) (kk : ∀ (a1 : Ab) (h1 : xHp), RW a1 → RC a1 h1 → RM a1 h1 → xL G p l e s m b below meth c 1174 (lvL G b i) [] h1 (k + 1) (n + 6)) : xL G p l e s m b below meth c 494 (lvL G b i) [] h k n := by
  refine l_aload_n C dL_law_494 rfl 3 rfl ?_
  refine l_aload_n C dL_law_495 rfl 4 rfl ?_
  refine l_iload C dL_law_496 0 rfl ?_
  refine l_iconst (v := 1) C dL_law_498 rfl ?_
  refine l_iadd C dL_law_499 ?_
  refine l_iald C hi1 dL_law_500 ?_
  refine l_aload_n C dL_law_501 rfl 4 rfl ?_
  refine l_iload C dL_law_502 0 rfl ?_
  refine l_iconst (v := 2) C dL_law_504 rfl ?_
  refine l_iadd C dL_law_505 ?_
  refine l_iald C hi2 dL_law_506 ?_
  refine l_aload_n C dL_law_507 rfl 4 rfl ?_
  refine l_iload C dL_law_508 0 rfl ?_
  refine l_iconst (v := 3) C dL_law_510 rfl ?_
  refine l_iadd C dL_law_511 ?_
  refine l_iald C hi3 dL_law_512 ?_
  refine l_aload_n C dL_law_513 rfl 1 rfl ?_
  rcases q_why 7000 (Nat.le_refl _) ((xs (i + 1).toNatClampNeg)) ((xs (i + 2).toNatClampNeg)) ((xs (i + 3).toNatClampNeg)) w rc rm with P | P
  · obtain ⟨V, hv, a1, e8, w1, rc1, rm1, F⟩ := P
    refine l_callS (As := [.ref (xad G 0), .int (xs (i + 1).toNatClampNeg), .int (xs (i + 2).toNatClampNeg), .int (xs (i + 3).toNatClampNeg), .ref (xad G 77)]) (st := []) C dL_law_514 (G_L_why G l 7000 _ _ _ h _ (LwI_of e8)) (vx_cwSW 5 C.1.1.2.2.2.2.1 (gdLS (W := WL) (fun _ h => h) gWL qL_128 qL_129 qL_89 qL_38) rfl rfl rfl (by decide +kernel) ⟨Nat.le_of_ble_eq_true rfl, Nat.le_of_ble_eq_true rfl⟩) rfl rfl (Nat.le_of_ble_eq_true rfl) hk hn ?_
    obtain ⟨h2, e9, ez, rc2, rm2⟩ := F (sJ hv 77 0 V.toInt64) rc1.out rm1.out
    have k77 : h2.2.1 77 0 = V.toInt64 := (congrFun (kf_X9_why 7000 _ _ _ _ _ e9) 0).trans (out77 hv V.toInt64)
    refine l_istore (lv' := [(5, .int 0), (4, .int i), (3, .ref (xad G 77)), (2, .ref (xad G 51)), (1, .ref (xad G 0)), (0, .ref b)]) C dL_law_517 (by decide) rfl ?_
    refine l_aload_n C dL_law_519 rfl 3 rfl ?_
    refine l_aload_n C dL_law_520 rfl 5 rfl ?_
    refine l_iload C dL_law_521 1 rfl ?_
    refine l_iconst (v := 1) C dL_law_523 rfl ?_
    refine l_iadd C dL_law_524 ?_
    refine l_iald C hi1 dL_law_525 ?_
    refine l_aload_n C dL_law_526 rfl 5 rfl ?_
    refine l_iload C dL_law_527 1 rfl ?_
    refine l_iconst (v := 2) C dL_law_529 rfl ?_
    refine l_iadd C dL_law_530 ?_
    refine l_iald C hi2 dL_law_531 ?_
    refine l_aload_n C dL_law_532 rfl 5 rfl ?_
    refine l_iload C dL_law_533 1 rfl ?_
    refine l_iconst (v := 3) C dL_law_535 rfl ?_
    refine l_iadd C dL_law_536 ?_
    refine l_iald C hi3 dL_law_537 ?_
    refine l_callMi (As := [.int (xs (i + 1).toNatClampNeg), .int (xs (i + 2).toNatClampNeg), .int (xs (i + 3).toNatClampNeg)]) (st := []) C dL_law_538 (M_X9_why G l 7000 _ _ _ _ _ e9) (cwV 3 C.1.1.2.2.2.2.1 (gdL (W := WM) wmWL gWL qL_130 qL_131 qL_132 qL_78 qL_133) rfl rfl rfl (by decide +kernel) ⟨Nat.le_of_ble_eq_true rfl, Nat.le_of_ble_eq_true rfl⟩) (xc_51 G _) (by decide) rfl rfl rfl (Nat.le_of_ble_eq_true rfl) (by omega) (by omega) ?_
    refine l_istore (lv' := [(6, .int V), (5, .int 0), (4, .int i), (3, .ref (xad G 77)), (2, .ref (xad G 51)), (1, .ref (xad G 0)), (0, .ref b)]) C dL_law_541 (by decide) rfl ?_
    refine l_aload_n C dL_law_543 rfl 4 rfl ?_
    refine l_callMi (As := []) (st := []) C dL_law_544 (M_X9_thrown G l 7000 _ _ rfl) (cwV 0 C.1.1.2.2.2.2.1 (gdL (W := WM) wmWL gWL qL_94 qL_95 qL_96 qL_78 qL_97) rfl rfl rfl (by decide +kernel) ⟨Nat.le_of_ble_eq_true rfl, Nat.le_of_ble_eq_true rfl⟩) (xc_51 G _) (by decide) rfl rfl rfl (Nat.le_of_ble_eq_true rfl) (by omega) (by omega) ?_
    refine l_iload C dL_law_547 1 rfl ?_
    refine l_icmp_eqT (tgt := 554) C dL_law_549 (by decide) ez ?_
    refine l_iload C dL_law_554 1 rfl ?_
    refine l_if_neF (tgt := 571) C dL_law_556 (by decide) rfl ?_
    refine l_aload_n C dL_law_559 rfl 3 rfl ?_
    refine l_iconst (v := 0) C dL_law_560 rfl ?_
    refine l_lald C dL_law_561 ?_
    refine l_iload C dL_law_562 0 rfl ?_
    refine l_i2l C dL_law_564 ?_
    refine l_lcmp C dL_law_565 ?_
    refine l_if_eqT (tgt := 571) C dL_law_566 (by decide) (by rw [k77]; exact lg_cmp_same _) ?_
    refine l_goto (tgt := 1174) C dL_law_571 (by decide) ?_
    exact l_sub [2, 3, 4, 5, 6] rfl (kk a1 h2 w1 rc2 rm2)
  · obtain ⟨t, c0, hv, eT, hm, rc1, rm1, F⟩ := P
    obtain ⟨V, h2, e9, ez, rc2, rm2⟩ := F hv rc1 rm1
    rcases List.mem_cons.mp hm with hm | hm
    · cases hm
      refine l_callS (As := [.ref (xad G 0), .int (xs (i + 1).toNatClampNeg), .int (xs (i + 2).toNatClampNeg), .int (xs (i + 3).toNatClampNeg), .ref (xad G 77)]) (st := []) C dL_law_514 (T_L_why_1 G l hlt 7000 _ _ _ h eT) (vx_cwSW 5 C.1.1.2.2.2.2.1 (gdLS (W := WL) (fun _ h => h) gWL qL_128 qL_129 qL_89 qL_38) rfl rfl rfl (by decide +kernel) ⟨Nat.le_of_ble_eq_true rfl, Nat.le_of_ble_eq_true rfl⟩) rfl rfl (Nat.le_of_ble_eq_true rfl) hk hn ?_
      refine l_istore (lv' := [(5, .int 1), (4, .int i), (3, .ref (xad G 77)), (2, .ref (xad G 51)), (1, .ref (xad G 0)), (0, .ref b)]) C dL_law_517 (by decide) rfl ?_
      refine l_aload_n C dL_law_519 rfl 3 rfl ?_
      refine l_aload_n C dL_law_520 rfl 5 rfl ?_
      refine l_iload C dL_law_521 1 rfl ?_
      refine l_iconst (v := 1) C dL_law_523 rfl ?_
      refine l_iadd C dL_law_524 ?_
      refine l_iald C hi1 dL_law_525 ?_
      refine l_aload_n C dL_law_526 rfl 5 rfl ?_
      refine l_iload C dL_law_527 1 rfl ?_
      refine l_iconst (v := 2) C dL_law_529 rfl ?_
      refine l_iadd C dL_law_530 ?_
      refine l_iald C hi2 dL_law_531 ?_
      refine l_aload_n C dL_law_532 rfl 5 rfl ?_
      refine l_iload C dL_law_533 1 rfl ?_
      refine l_iconst (v := 3) C dL_law_535 rfl ?_
      refine l_iadd C dL_law_536 ?_
      refine l_iald C hi3 dL_law_537 ?_
      refine l_callMi (As := [.int (xs (i + 1).toNatClampNeg), .int (xs (i + 2).toNatClampNeg), .int (xs (i + 3).toNatClampNeg)]) (st := []) C dL_law_538 (M_X9_why G l 7000 _ _ _ _ _ e9) (cwV 3 C.1.1.2.2.2.2.1 (gdL (W := WM) wmWL gWL qL_130 qL_131 qL_132 qL_78 qL_133) rfl rfl rfl (by decide +kernel) ⟨Nat.le_of_ble_eq_true rfl, Nat.le_of_ble_eq_true rfl⟩) (xc_51 G _) (by decide) rfl rfl rfl (Nat.le_of_ble_eq_true rfl) (by omega) (by omega) ?_
      refine l_istore (lv' := [(6, .int V), (5, .int 1), (4, .int i), (3, .ref (xad G 77)), (2, .ref (xad G 51)), (1, .ref (xad G 0)), (0, .ref b)]) C dL_law_541 (by decide) rfl ?_
      refine l_aload_n C dL_law_543 rfl 4 rfl ?_
      refine l_callMi (As := []) (st := []) C dL_law_544 (M_X9_thrown G l 7000 _ _ rfl) (cwV 0 C.1.1.2.2.2.2.1 (gdL (W := WM) wmWL gWL qL_94 qL_95 qL_96 qL_78 qL_97) rfl rfl rfl (by decide +kernel) ⟨Nat.le_of_ble_eq_true rfl, Nat.le_of_ble_eq_true rfl⟩) (xc_51 G _) (by decide) rfl rfl rfl (Nat.le_of_ble_eq_true rfl) (by omega) (by omega) ?_
      refine l_iload C dL_law_547 1 rfl ?_
      refine l_icmp_eqT (tgt := 554) C dL_law_549 (by decide) ez ?_
      refine l_iload C dL_law_554 1 rfl ?_
      refine l_if_neT (tgt := 571) C dL_law_556 (by decide) (by decide) ?_
      refine l_goto (tgt := 1174) C dL_law_571 (by decide) ?_
      exact l_sub [2, 3, 4, 5, 6] rfl (kk a h2 w rc2 rm2)
    have hm := List.mem_singleton.mp hm
    cases hm
    refine l_callS (As := [.ref (xad G 0), .int (xs (i + 1).toNatClampNeg), .int (xs (i + 2).toNatClampNeg), .int (xs (i + 3).toNatClampNeg), .ref (xad G 77)]) (st := []) C dL_law_514 (T_L_why_2 G l hlt 7000 _ _ _ h eT) (vx_cwSW 5 C.1.1.2.2.2.2.1 (gdLS (W := WL) (fun _ h => h) gWL qL_128 qL_129 qL_89 qL_38) rfl rfl rfl (by decide +kernel) ⟨Nat.le_of_ble_eq_true rfl, Nat.le_of_ble_eq_true rfl⟩) rfl rfl (Nat.le_of_ble_eq_true rfl) hk hn ?_
    refine l_istore (lv' := [(5, .int 2), (4, .int i), (3, .ref (xad G 77)), (2, .ref (xad G 51)), (1, .ref (xad G 0)), (0, .ref b)]) C dL_law_517 (by decide) rfl ?_
    refine l_aload_n C dL_law_519 rfl 3 rfl ?_
    refine l_aload_n C dL_law_520 rfl 5 rfl ?_
    refine l_iload C dL_law_521 1 rfl ?_
    refine l_iconst (v := 1) C dL_law_523 rfl ?_
    refine l_iadd C dL_law_524 ?_
    refine l_iald C hi1 dL_law_525 ?_
    refine l_aload_n C dL_law_526 rfl 5 rfl ?_
    refine l_iload C dL_law_527 1 rfl ?_
    refine l_iconst (v := 2) C dL_law_529 rfl ?_
    refine l_iadd C dL_law_530 ?_
    refine l_iald C hi2 dL_law_531 ?_
    refine l_aload_n C dL_law_532 rfl 5 rfl ?_
    refine l_iload C dL_law_533 1 rfl ?_
    refine l_iconst (v := 3) C dL_law_535 rfl ?_
    refine l_iadd C dL_law_536 ?_
    refine l_iald C hi3 dL_law_537 ?_
    refine l_callMi (As := [.int (xs (i + 1).toNatClampNeg), .int (xs (i + 2).toNatClampNeg), .int (xs (i + 3).toNatClampNeg)]) (st := []) C dL_law_538 (M_X9_why G l 7000 _ _ _ _ _ e9) (cwV 3 C.1.1.2.2.2.2.1 (gdL (W := WM) wmWL gWL qL_130 qL_131 qL_132 qL_78 qL_133) rfl rfl rfl (by decide +kernel) ⟨Nat.le_of_ble_eq_true rfl, Nat.le_of_ble_eq_true rfl⟩) (xc_51 G _) (by decide) rfl rfl rfl (Nat.le_of_ble_eq_true rfl) (by omega) (by omega) ?_
    refine l_istore (lv' := [(6, .int V), (5, .int 2), (4, .int i), (3, .ref (xad G 77)), (2, .ref (xad G 51)), (1, .ref (xad G 0)), (0, .ref b)]) C dL_law_541 (by decide) rfl ?_
    refine l_aload_n C dL_law_543 rfl 4 rfl ?_
    refine l_callMi (As := []) (st := []) C dL_law_544 (M_X9_thrown G l 7000 _ _ rfl) (cwV 0 C.1.1.2.2.2.2.1 (gdL (W := WM) wmWL gWL qL_94 qL_95 qL_96 qL_78 qL_97) rfl rfl rfl (by decide +kernel) ⟨Nat.le_of_ble_eq_true rfl, Nat.le_of_ble_eq_true rfl⟩) (xc_51 G _) (by decide) rfl rfl rfl (Nat.le_of_ble_eq_true rfl) (by omega) (by omega) ?_
    refine l_iload C dL_law_547 1 rfl ?_
    refine l_icmp_eqT (tgt := 554) C dL_law_549 (by decide) ez ?_
    refine l_iload C dL_law_554 1 rfl ?_
    refine l_if_neT (tgt := 571) C dL_law_556 (by decide) (by decide) ?_
    refine l_goto (tgt := 1174) C dL_law_571 (by decide) ?_
    exact l_sub [2, 3, 4, 5, 6] rfl (kk a h2 w rc2 rm2)
set_option maxHeartbeats 4000000 in
set_option maxRecDepth 100000 in
theorem cs_constraint {G : xG} {p : Program} {l : Launch} {e : Env} {s : State} {m : MethodId} {b L : Nat} {xs : Nat → Int32} {below : List Frame} {meth : Method} {c : Code} {h : xHp} {k n : Nat} {a : Ab} {i : Int32} (C : lC G p s m meth c b L xs) (hlt : l.stackTraces = false) (hi1 : vp_in (i + 1) L) (hi2 : vp_in (i + 2) L) (hi3 : vp_in (i + 3) L) (w : RW a) (rc : RC a h) (rm : RM a h) (hk : k + 1 ≤ 601024) (hn : n + 6 ≤ 7293034) (kk : ∀ (a1 : Ab) (h1 : xHp), RW a1 → RC a1 h1 → RM a1 h1 → xL G p l e s m b below meth c 1174 (lvL G b i) [] h1 (k + 1) (n + 6)) : xL G p l e s m b below meth c 574 (lvL G b i) [] h k n := by
  refine l_aload_n C dL_law_574 rfl 3 rfl ?_
  refine l_aload_n C dL_law_575 rfl 4 rfl ?_
  refine l_iload C dL_law_576 0 rfl ?_
  refine l_iconst (v := 1) C dL_law_578 rfl ?_
  refine l_iadd C dL_law_579 ?_
  refine l_iald C hi1 dL_law_580 ?_
  refine l_aload_n C dL_law_581 rfl 4 rfl ?_
  refine l_iload C dL_law_582 0 rfl ?_
  refine l_iconst (v := 2) C dL_law_584 rfl ?_
  refine l_iadd C dL_law_585 ?_
  refine l_iald C hi2 dL_law_586 ?_
  refine l_aload_n C dL_law_587 rfl 1 rfl ?_
  rcases q_constraint 7000 (Nat.le_refl _) ((xs (i + 1).toNatClampNeg)) ((xs (i + 2).toNatClampNeg)) w rc rm with P | P
  · obtain ⟨V, hv, a1, e8, w1, rc1, rm1, F⟩ := P
    refine l_callS (As := [.ref (xad G 0), .int (xs (i + 1).toNatClampNeg), .int (xs (i + 2).toNatClampNeg), .ref (xad G 77)]) (st := []) C dL_law_588 (G_L_constraint G l 7000 _ _ h _ (LwI_of e8)) (vx_cwSW 4 C.1.1.2.2.2.2.1 (gdLS (W := WL) (fun _ h => h) gWL qL_134 qL_135 qL_89 qL_43) rfl rfl rfl (by decide +kernel) ⟨Nat.le_of_ble_eq_true rfl, Nat.le_of_ble_eq_true rfl⟩) rfl rfl (Nat.le_of_ble_eq_true rfl) hk hn ?_
    obtain ⟨h2, e9, ez, rc2, rm2⟩ := F (sJ hv 77 0 V.toInt64) rc1.out rm1.out
    have k77 : h2.2.1 77 0 = V.toInt64 := (congrFun (kf_X9_constraint 7000 _ _ _ _ e9) 0).trans (out77 hv V.toInt64)
    refine l_istore (lv' := [(5, .int 0), (4, .int i), (3, .ref (xad G 77)), (2, .ref (xad G 51)), (1, .ref (xad G 0)), (0, .ref b)]) C dL_law_591 (by decide) rfl ?_
    refine l_aload_n C dL_law_593 rfl 3 rfl ?_
    refine l_aload_n C dL_law_594 rfl 5 rfl ?_
    refine l_iload C dL_law_595 1 rfl ?_
    refine l_iconst (v := 1) C dL_law_597 rfl ?_
    refine l_iadd C dL_law_598 ?_
    refine l_iald C hi1 dL_law_599 ?_
    refine l_aload_n C dL_law_600 rfl 5 rfl ?_
    refine l_iload C dL_law_601 1 rfl ?_
    refine l_iconst (v := 2) C dL_law_603 rfl ?_
    refine l_iadd C dL_law_604 ?_
    refine l_iald C hi2 dL_law_605 ?_
    refine l_callMi (As := [.int (xs (i + 1).toNatClampNeg), .int (xs (i + 2).toNatClampNeg)]) (st := []) C dL_law_606 (M_X9_constraint G l 7000 _ _ _ _ e9) (cwV 2 C.1.1.2.2.2.2.1 (gdL (W := WM) wmWL gWL qL_136 qL_137 qL_138 qL_78 qL_139) rfl rfl rfl (by decide +kernel) ⟨Nat.le_of_ble_eq_true rfl, Nat.le_of_ble_eq_true rfl⟩) (xc_51 G _) (by decide) rfl rfl rfl (Nat.le_of_ble_eq_true rfl) (by omega) (by omega) ?_
    refine l_istore (lv' := [(6, .int V), (5, .int 0), (4, .int i), (3, .ref (xad G 77)), (2, .ref (xad G 51)), (1, .ref (xad G 0)), (0, .ref b)]) C dL_law_609 (by decide) rfl ?_
    refine l_aload_n C dL_law_611 rfl 4 rfl ?_
    refine l_callMi (As := []) (st := []) C dL_law_612 (M_X9_thrown G l 7000 _ _ rfl) (cwV 0 C.1.1.2.2.2.2.1 (gdL (W := WM) wmWL gWL qL_94 qL_95 qL_96 qL_78 qL_97) rfl rfl rfl (by decide +kernel) ⟨Nat.le_of_ble_eq_true rfl, Nat.le_of_ble_eq_true rfl⟩) (xc_51 G _) (by decide) rfl rfl rfl (Nat.le_of_ble_eq_true rfl) (by omega) (by omega) ?_
    refine l_iload C dL_law_615 1 rfl ?_
    refine l_icmp_eqT (tgt := 622) C dL_law_617 (by decide) ez ?_
    refine l_iload C dL_law_622 1 rfl ?_
    refine l_if_neF (tgt := 639) C dL_law_624 (by decide) rfl ?_
    refine l_aload_n C dL_law_627 rfl 3 rfl ?_
    refine l_iconst (v := 0) C dL_law_628 rfl ?_
    refine l_lald C dL_law_629 ?_
    refine l_iload C dL_law_630 0 rfl ?_
    refine l_i2l C dL_law_632 ?_
    refine l_lcmp C dL_law_633 ?_
    refine l_if_eqT (tgt := 639) C dL_law_634 (by decide) (by rw [k77]; exact lg_cmp_same _) ?_
    refine l_goto (tgt := 1174) C dL_law_639 (by decide) ?_
    exact l_sub [2, 3, 4, 5, 6] rfl (kk a1 h2 w1 rc2 rm2)
  · obtain ⟨t, c0, hv, eT, hm, rc1, rm1, F⟩ := P
    obtain ⟨V, h2, e9, ez, rc2, rm2⟩ := F hv rc1 rm1
    rcases List.mem_cons.mp hm with hm | hm
    · cases hm
      refine l_callS (As := [.ref (xad G 0), .int (xs (i + 1).toNatClampNeg), .int (xs (i + 2).toNatClampNeg), .ref (xad G 77)]) (st := []) C dL_law_588 (T_L_constraint_1 G l hlt 7000 _ _ h eT) (vx_cwSW 4 C.1.1.2.2.2.2.1 (gdLS (W := WL) (fun _ h => h) gWL qL_134 qL_135 qL_89 qL_43) rfl rfl rfl (by decide +kernel) ⟨Nat.le_of_ble_eq_true rfl, Nat.le_of_ble_eq_true rfl⟩) rfl rfl (Nat.le_of_ble_eq_true rfl) hk hn ?_
      refine l_istore (lv' := [(5, .int 1), (4, .int i), (3, .ref (xad G 77)), (2, .ref (xad G 51)), (1, .ref (xad G 0)), (0, .ref b)]) C dL_law_591 (by decide) rfl ?_
      refine l_aload_n C dL_law_593 rfl 3 rfl ?_
      refine l_aload_n C dL_law_594 rfl 5 rfl ?_
      refine l_iload C dL_law_595 1 rfl ?_
      refine l_iconst (v := 1) C dL_law_597 rfl ?_
      refine l_iadd C dL_law_598 ?_
      refine l_iald C hi1 dL_law_599 ?_
      refine l_aload_n C dL_law_600 rfl 5 rfl ?_
      refine l_iload C dL_law_601 1 rfl ?_
      refine l_iconst (v := 2) C dL_law_603 rfl ?_
      refine l_iadd C dL_law_604 ?_
      refine l_iald C hi2 dL_law_605 ?_
      refine l_callMi (As := [.int (xs (i + 1).toNatClampNeg), .int (xs (i + 2).toNatClampNeg)]) (st := []) C dL_law_606 (M_X9_constraint G l 7000 _ _ _ _ e9) (cwV 2 C.1.1.2.2.2.2.1 (gdL (W := WM) wmWL gWL qL_136 qL_137 qL_138 qL_78 qL_139) rfl rfl rfl (by decide +kernel) ⟨Nat.le_of_ble_eq_true rfl, Nat.le_of_ble_eq_true rfl⟩) (xc_51 G _) (by decide) rfl rfl rfl (Nat.le_of_ble_eq_true rfl) (by omega) (by omega) ?_
      refine l_istore (lv' := [(6, .int V), (5, .int 1), (4, .int i), (3, .ref (xad G 77)), (2, .ref (xad G 51)), (1, .ref (xad G 0)), (0, .ref b)]) C dL_law_609 (by decide) rfl ?_
      refine l_aload_n C dL_law_611 rfl 4 rfl ?_
      refine l_callMi (As := []) (st := []) C dL_law_612 (M_X9_thrown G l 7000 _ _ rfl) (cwV 0 C.1.1.2.2.2.2.1 (gdL (W := WM) wmWL gWL qL_94 qL_95 qL_96 qL_78 qL_97) rfl rfl rfl (by decide +kernel) ⟨Nat.le_of_ble_eq_true rfl, Nat.le_of_ble_eq_true rfl⟩) (xc_51 G _) (by decide) rfl rfl rfl (Nat.le_of_ble_eq_true rfl) (by omega) (by omega) ?_
      refine l_iload C dL_law_615 1 rfl ?_
      refine l_icmp_eqT (tgt := 622) C dL_law_617 (by decide) ez ?_
      refine l_iload C dL_law_622 1 rfl ?_
      refine l_if_neT (tgt := 639) C dL_law_624 (by decide) (by decide) ?_
      refine l_goto (tgt := 1174) C dL_law_639 (by decide) ?_
      exact l_sub [2, 3, 4, 5, 6] rfl (kk a h2 w rc2 rm2)
    have hm := List.mem_singleton.mp hm
    cases hm
    refine l_callS (As := [.ref (xad G 0), .int (xs (i + 1).toNatClampNeg), .int (xs (i + 2).toNatClampNeg), .ref (xad G 77)]) (st := []) C dL_law_588 (T_L_constraint_2 G l hlt 7000 _ _ h eT) (vx_cwSW 4 C.1.1.2.2.2.2.1 (gdLS (W := WL) (fun _ h => h) gWL qL_134 qL_135 qL_89 qL_43) rfl rfl rfl (by decide +kernel) ⟨Nat.le_of_ble_eq_true rfl, Nat.le_of_ble_eq_true rfl⟩) rfl rfl (Nat.le_of_ble_eq_true rfl) hk hn ?_
    refine l_istore (lv' := [(5, .int 2), (4, .int i), (3, .ref (xad G 77)), (2, .ref (xad G 51)), (1, .ref (xad G 0)), (0, .ref b)]) C dL_law_591 (by decide) rfl ?_
    refine l_aload_n C dL_law_593 rfl 3 rfl ?_
    refine l_aload_n C dL_law_594 rfl 5 rfl ?_
    refine l_iload C dL_law_595 1 rfl ?_
    refine l_iconst (v := 1) C dL_law_597 rfl ?_
    refine l_iadd C dL_law_598 ?_
    refine l_iald C hi1 dL_law_599 ?_
    refine l_aload_n C dL_law_600 rfl 5 rfl ?_
    refine l_iload C dL_law_601 1 rfl ?_
    refine l_iconst (v := 2) C dL_law_603 rfl ?_
    refine l_iadd C dL_law_604 ?_
    refine l_iald C hi2 dL_law_605 ?_
    refine l_callMi (As := [.int (xs (i + 1).toNatClampNeg), .int (xs (i + 2).toNatClampNeg)]) (st := []) C dL_law_606 (M_X9_constraint G l 7000 _ _ _ _ e9) (cwV 2 C.1.1.2.2.2.2.1 (gdL (W := WM) wmWL gWL qL_136 qL_137 qL_138 qL_78 qL_139) rfl rfl rfl (by decide +kernel) ⟨Nat.le_of_ble_eq_true rfl, Nat.le_of_ble_eq_true rfl⟩) (xc_51 G _) (by decide) rfl rfl rfl (Nat.le_of_ble_eq_true rfl) (by omega) (by omega) ?_
    refine l_istore (lv' := [(6, .int V), (5, .int 2), (4, .int i), (3, .ref (xad G 77)), (2, .ref (xad G 51)), (1, .ref (xad G 0)), (0, .ref b)]) C dL_law_609 (by decide) rfl ?_
    refine l_aload_n C dL_law_611 rfl 4 rfl ?_
    refine l_callMi (As := []) (st := []) C dL_law_612 (M_X9_thrown G l 7000 _ _ rfl) (cwV 0 C.1.1.2.2.2.2.1 (gdL (W := WM) wmWL gWL qL_94 qL_95 qL_96 qL_78 qL_97) rfl rfl rfl (by decide +kernel) ⟨Nat.le_of_ble_eq_true rfl, Nat.le_of_ble_eq_true rfl⟩) (xc_51 G _) (by decide) rfl rfl rfl (Nat.le_of_ble_eq_true rfl) (by omega) (by omega) ?_
    refine l_iload C dL_law_615 1 rfl ?_
    refine l_icmp_eqT (tgt := 622) C dL_law_617 (by decide) ez ?_
    refine l_iload C dL_law_622 1 rfl ?_
    refine l_if_neT (tgt := 639) C dL_law_624 (by decide) (by decide) ?_
    refine l_goto (tgt := 1174) C dL_law_639 (by decide) ?_
    exact l_sub [2, 3, 4, 5, 6] rfl (kk a h2 w rc2 rm2)
set_option maxHeartbeats 4000000 in
set_option maxRecDepth 100000 in
theorem cs_feed {G : xG} {p : Program} {l : Launch} {e : Env} {s : State} {m : MethodId} {b L : Nat} {xs : Nat → Int32} {below : List Frame} {meth : Method} {c : Code} {h : xHp} {k n : Nat} {a : Ab} {i : Int32} (C : lC G p s m meth c b L xs) (hlt : l.stackTraces = false) (hi1 : vp_in (i + 1) L) (hi2 : vp_in (i + 2) L) (hi3 : vp_in (i + 3) L) (w : RW a) (rc : RC a h) (rm : RM a h) (hk : k + 1 ≤ 601024) (hn : n + 6 ≤ 7293034) (kk : ∀ (a1 : Ab) (h1 : xHp), RW a1 → RC a1 h1 → RM a1 h1 → xL G p l e s m b below meth c 1174 (lvL G b i) [] h1 (k + 1) (n + 6)) : xL G p l e s m b below meth c 642 (lvL G b i) [] h k n := by
  refine l_aload_n C dL_law_642 rfl 3 rfl ?_
  refine l_aload_n C dL_law_643 rfl 4 rfl ?_
  refine l_iload C dL_law_644 0 rfl ?_
  refine l_iconst (v := 1) C dL_law_646 rfl ?_
  refine l_iadd C dL_law_647 ?_
  refine l_iald C hi1 dL_law_648 ?_
  refine l_i2l C dL_law_649 ?_
  refine l_bipush (v := 32) C dL_law_650 rfl ?_
  refine l_lshl C dL_law_652 ?_
  refine l_aload_n C dL_law_653 rfl 4 rfl ?_
  refine l_iload C dL_law_654 0 rfl ?_
  refine l_iconst (v := 2) C dL_law_656 rfl ?_
  refine l_iadd C dL_law_657 ?_
  refine l_iald C hi2 dL_law_658 ?_
  refine l_i2l C dL_law_659 ?_
  refine l_ldc2 (v := 4294967295) C dL_law_660 (C.1.1.2.2.2.2.1 _ qL_80) ?_
  refine l_land C dL_law_663 ?_
  refine l_lor C dL_law_664 ?_
  refine l_aload_n C dL_law_665 rfl 4 rfl ?_
  refine l_iload C dL_law_666 0 rfl ?_
  refine l_iconst (v := 3) C dL_law_668 rfl ?_
  refine l_iadd C dL_law_669 ?_
  refine l_iald C hi3 dL_law_670 ?_
  refine l_aload_n C dL_law_671 rfl 1 rfl ?_
  rcases q_feed 7000 (Nat.le_refl _) ((((xs (i + 1).toNatClampNeg).toInt64 <<< (Int32.toInt64 32 &&& 63)) ||| ((xs (i + 2).toNatClampNeg).toInt64 &&& 4294967295))) ((xs (i + 3).toNatClampNeg)) w rc rm with P | P
  · obtain ⟨V, hv, a1, e8, w1, rc1, rm1, F⟩ := P
    refine l_callS (As := [.ref (xad G 0), .long (((xs (i + 1).toNatClampNeg).toInt64 <<< (Int32.toInt64 32 &&& 63)) ||| ((xs (i + 2).toNatClampNeg).toInt64 &&& 4294967295)), .int (xs (i + 3).toNatClampNeg), .ref (xad G 77)]) (st := []) C dL_law_672 (G_L_feed G l 7000 _ _ h _ (LwI_of e8)) (vx_cwSW 4 C.1.1.2.2.2.2.1 (gdLS (W := WL) (fun _ h => h) gWL qL_140 qL_141 qL_89 qL_44) rfl rfl rfl (by decide +kernel) ⟨Nat.le_of_ble_eq_true rfl, Nat.le_of_ble_eq_true rfl⟩) rfl rfl (Nat.le_of_ble_eq_true rfl) hk hn ?_
    obtain ⟨h2, e9, ez, rc2, rm2⟩ := F (sJ hv 77 0 V.toInt64) rc1.out rm1.out
    have k77 : h2.2.1 77 0 = V.toInt64 := (congrFun (kf_X9_feed 7000 _ _ _ _ e9) 0).trans (out77 hv V.toInt64)
    refine l_istore (lv' := [(5, .int 0), (4, .int i), (3, .ref (xad G 77)), (2, .ref (xad G 51)), (1, .ref (xad G 0)), (0, .ref b)]) C dL_law_675 (by decide) rfl ?_
    refine l_aload_n C dL_law_677 rfl 3 rfl ?_
    refine l_aload_n C dL_law_678 rfl 5 rfl ?_
    refine l_iload C dL_law_679 1 rfl ?_
    refine l_iconst (v := 1) C dL_law_681 rfl ?_
    refine l_iadd C dL_law_682 ?_
    refine l_iald C hi1 dL_law_683 ?_
    refine l_i2l C dL_law_684 ?_
    refine l_bipush (v := 32) C dL_law_685 rfl ?_
    refine l_lshl C dL_law_687 ?_
    refine l_aload_n C dL_law_688 rfl 5 rfl ?_
    refine l_iload C dL_law_689 1 rfl ?_
    refine l_iconst (v := 2) C dL_law_691 rfl ?_
    refine l_iadd C dL_law_692 ?_
    refine l_iald C hi2 dL_law_693 ?_
    refine l_i2l C dL_law_694 ?_
    refine l_ldc2 (v := 4294967295) C dL_law_695 (C.1.1.2.2.2.2.1 _ qL_80) ?_
    refine l_land C dL_law_698 ?_
    refine l_lor C dL_law_699 ?_
    refine l_aload_n C dL_law_700 rfl 5 rfl ?_
    refine l_iload C dL_law_701 1 rfl ?_
    refine l_iconst (v := 3) C dL_law_703 rfl ?_
    refine l_iadd C dL_law_704 ?_
    refine l_iald C hi3 dL_law_705 ?_
    refine l_callMi (As := [.long (((xs (i + 1).toNatClampNeg).toInt64 <<< (Int32.toInt64 32 &&& 63)) ||| ((xs (i + 2).toNatClampNeg).toInt64 &&& 4294967295)), .int (xs (i + 3).toNatClampNeg)]) (st := []) C dL_law_706 (M_X9_feed G l 7000 _ _ _ _ e9) (cwV 2 C.1.1.2.2.2.2.1 (gdL (W := WM) wmWL gWL qL_142 qL_143 qL_144 qL_78 qL_145) rfl rfl rfl (by decide +kernel) ⟨Nat.le_of_ble_eq_true rfl, Nat.le_of_ble_eq_true rfl⟩) (xc_51 G _) (by decide) rfl rfl rfl (Nat.le_of_ble_eq_true rfl) (by omega) (by omega) ?_
    refine l_istore (lv' := [(6, .int V), (5, .int 0), (4, .int i), (3, .ref (xad G 77)), (2, .ref (xad G 51)), (1, .ref (xad G 0)), (0, .ref b)]) C dL_law_709 (by decide) rfl ?_
    refine l_aload_n C dL_law_711 rfl 4 rfl ?_
    refine l_callMi (As := []) (st := []) C dL_law_712 (M_X9_thrown G l 7000 _ _ rfl) (cwV 0 C.1.1.2.2.2.2.1 (gdL (W := WM) wmWL gWL qL_94 qL_95 qL_96 qL_78 qL_97) rfl rfl rfl (by decide +kernel) ⟨Nat.le_of_ble_eq_true rfl, Nat.le_of_ble_eq_true rfl⟩) (xc_51 G _) (by decide) rfl rfl rfl (Nat.le_of_ble_eq_true rfl) (by omega) (by omega) ?_
    refine l_iload C dL_law_715 1 rfl ?_
    refine l_icmp_eqT (tgt := 722) C dL_law_717 (by decide) ez ?_
    refine l_iload C dL_law_722 1 rfl ?_
    refine l_if_neF (tgt := 739) C dL_law_724 (by decide) rfl ?_
    refine l_aload_n C dL_law_727 rfl 3 rfl ?_
    refine l_iconst (v := 0) C dL_law_728 rfl ?_
    refine l_lald C dL_law_729 ?_
    refine l_iload C dL_law_730 0 rfl ?_
    refine l_i2l C dL_law_732 ?_
    refine l_lcmp C dL_law_733 ?_
    refine l_if_eqT (tgt := 739) C dL_law_734 (by decide) (by rw [k77]; exact lg_cmp_same _) ?_
    refine l_goto (tgt := 1174) C dL_law_739 (by decide) ?_
    exact l_sub [2, 3, 4, 5, 6] rfl (kk a1 h2 w1 rc2 rm2)
  · obtain ⟨t, c0, hv, eT, hm, rc1, rm1, F⟩ := P
    obtain ⟨V, h2, e9, ez, rc2, rm2⟩ := F hv rc1 rm1
    rcases List.mem_cons.mp hm with hm | hm
    · cases hm
      refine l_callS (As := [.ref (xad G 0), .long (((xs (i + 1).toNatClampNeg).toInt64 <<< (Int32.toInt64 32 &&& 63)) ||| ((xs (i + 2).toNatClampNeg).toInt64 &&& 4294967295)), .int (xs (i + 3).toNatClampNeg), .ref (xad G 77)]) (st := []) C dL_law_672 (T_L_feed_2 G l hlt 7000 _ _ h eT) (vx_cwSW 4 C.1.1.2.2.2.2.1 (gdLS (W := WL) (fun _ h => h) gWL qL_140 qL_141 qL_89 qL_44) rfl rfl rfl (by decide +kernel) ⟨Nat.le_of_ble_eq_true rfl, Nat.le_of_ble_eq_true rfl⟩) rfl rfl (Nat.le_of_ble_eq_true rfl) hk hn ?_
      refine l_istore (lv' := [(5, .int 1), (4, .int i), (3, .ref (xad G 77)), (2, .ref (xad G 51)), (1, .ref (xad G 0)), (0, .ref b)]) C dL_law_675 (by decide) rfl ?_
      refine l_aload_n C dL_law_677 rfl 3 rfl ?_
      refine l_aload_n C dL_law_678 rfl 5 rfl ?_
      refine l_iload C dL_law_679 1 rfl ?_
      refine l_iconst (v := 1) C dL_law_681 rfl ?_
      refine l_iadd C dL_law_682 ?_
      refine l_iald C hi1 dL_law_683 ?_
      refine l_i2l C dL_law_684 ?_
      refine l_bipush (v := 32) C dL_law_685 rfl ?_
      refine l_lshl C dL_law_687 ?_
      refine l_aload_n C dL_law_688 rfl 5 rfl ?_
      refine l_iload C dL_law_689 1 rfl ?_
      refine l_iconst (v := 2) C dL_law_691 rfl ?_
      refine l_iadd C dL_law_692 ?_
      refine l_iald C hi2 dL_law_693 ?_
      refine l_i2l C dL_law_694 ?_
      refine l_ldc2 (v := 4294967295) C dL_law_695 (C.1.1.2.2.2.2.1 _ qL_80) ?_
      refine l_land C dL_law_698 ?_
      refine l_lor C dL_law_699 ?_
      refine l_aload_n C dL_law_700 rfl 5 rfl ?_
      refine l_iload C dL_law_701 1 rfl ?_
      refine l_iconst (v := 3) C dL_law_703 rfl ?_
      refine l_iadd C dL_law_704 ?_
      refine l_iald C hi3 dL_law_705 ?_
      refine l_callMi (As := [.long (((xs (i + 1).toNatClampNeg).toInt64 <<< (Int32.toInt64 32 &&& 63)) ||| ((xs (i + 2).toNatClampNeg).toInt64 &&& 4294967295)), .int (xs (i + 3).toNatClampNeg)]) (st := []) C dL_law_706 (M_X9_feed G l 7000 _ _ _ _ e9) (cwV 2 C.1.1.2.2.2.2.1 (gdL (W := WM) wmWL gWL qL_142 qL_143 qL_144 qL_78 qL_145) rfl rfl rfl (by decide +kernel) ⟨Nat.le_of_ble_eq_true rfl, Nat.le_of_ble_eq_true rfl⟩) (xc_51 G _) (by decide) rfl rfl rfl (Nat.le_of_ble_eq_true rfl) (by omega) (by omega) ?_
      refine l_istore (lv' := [(6, .int V), (5, .int 1), (4, .int i), (3, .ref (xad G 77)), (2, .ref (xad G 51)), (1, .ref (xad G 0)), (0, .ref b)]) C dL_law_709 (by decide) rfl ?_
      refine l_aload_n C dL_law_711 rfl 4 rfl ?_
      refine l_callMi (As := []) (st := []) C dL_law_712 (M_X9_thrown G l 7000 _ _ rfl) (cwV 0 C.1.1.2.2.2.2.1 (gdL (W := WM) wmWL gWL qL_94 qL_95 qL_96 qL_78 qL_97) rfl rfl rfl (by decide +kernel) ⟨Nat.le_of_ble_eq_true rfl, Nat.le_of_ble_eq_true rfl⟩) (xc_51 G _) (by decide) rfl rfl rfl (Nat.le_of_ble_eq_true rfl) (by omega) (by omega) ?_
      refine l_iload C dL_law_715 1 rfl ?_
      refine l_icmp_eqT (tgt := 722) C dL_law_717 (by decide) ez ?_
      refine l_iload C dL_law_722 1 rfl ?_
      refine l_if_neT (tgt := 739) C dL_law_724 (by decide) (by decide) ?_
      refine l_goto (tgt := 1174) C dL_law_739 (by decide) ?_
      exact l_sub [2, 3, 4, 5, 6] rfl (kk a h2 w rc2 rm2)
    have hm := List.mem_singleton.mp hm
    cases hm
    refine l_callS (As := [.ref (xad G 0), .long (((xs (i + 1).toNatClampNeg).toInt64 <<< (Int32.toInt64 32 &&& 63)) ||| ((xs (i + 2).toNatClampNeg).toInt64 &&& 4294967295)), .int (xs (i + 3).toNatClampNeg), .ref (xad G 77)]) (st := []) C dL_law_672 (T_L_feed_3 G l hlt 7000 _ _ h eT) (vx_cwSW 4 C.1.1.2.2.2.2.1 (gdLS (W := WL) (fun _ h => h) gWL qL_140 qL_141 qL_89 qL_44) rfl rfl rfl (by decide +kernel) ⟨Nat.le_of_ble_eq_true rfl, Nat.le_of_ble_eq_true rfl⟩) rfl rfl (Nat.le_of_ble_eq_true rfl) hk hn ?_
    refine l_istore (lv' := [(5, .int 2), (4, .int i), (3, .ref (xad G 77)), (2, .ref (xad G 51)), (1, .ref (xad G 0)), (0, .ref b)]) C dL_law_675 (by decide) rfl ?_
    refine l_aload_n C dL_law_677 rfl 3 rfl ?_
    refine l_aload_n C dL_law_678 rfl 5 rfl ?_
    refine l_iload C dL_law_679 1 rfl ?_
    refine l_iconst (v := 1) C dL_law_681 rfl ?_
    refine l_iadd C dL_law_682 ?_
    refine l_iald C hi1 dL_law_683 ?_
    refine l_i2l C dL_law_684 ?_
    refine l_bipush (v := 32) C dL_law_685 rfl ?_
    refine l_lshl C dL_law_687 ?_
    refine l_aload_n C dL_law_688 rfl 5 rfl ?_
    refine l_iload C dL_law_689 1 rfl ?_
    refine l_iconst (v := 2) C dL_law_691 rfl ?_
    refine l_iadd C dL_law_692 ?_
    refine l_iald C hi2 dL_law_693 ?_
    refine l_i2l C dL_law_694 ?_
    refine l_ldc2 (v := 4294967295) C dL_law_695 (C.1.1.2.2.2.2.1 _ qL_80) ?_
    refine l_land C dL_law_698 ?_
    refine l_lor C dL_law_699 ?_
    refine l_aload_n C dL_law_700 rfl 5 rfl ?_
    refine l_iload C dL_law_701 1 rfl ?_
    refine l_iconst (v := 3) C dL_law_703 rfl ?_
    refine l_iadd C dL_law_704 ?_
    refine l_iald C hi3 dL_law_705 ?_
    refine l_callMi (As := [.long (((xs (i + 1).toNatClampNeg).toInt64 <<< (Int32.toInt64 32 &&& 63)) ||| ((xs (i + 2).toNatClampNeg).toInt64 &&& 4294967295)), .int (xs (i + 3).toNatClampNeg)]) (st := []) C dL_law_706 (M_X9_feed G l 7000 _ _ _ _ e9) (cwV 2 C.1.1.2.2.2.2.1 (gdL (W := WM) wmWL gWL qL_142 qL_143 qL_144 qL_78 qL_145) rfl rfl rfl (by decide +kernel) ⟨Nat.le_of_ble_eq_true rfl, Nat.le_of_ble_eq_true rfl⟩) (xc_51 G _) (by decide) rfl rfl rfl (Nat.le_of_ble_eq_true rfl) (by omega) (by omega) ?_
    refine l_istore (lv' := [(6, .int V), (5, .int 2), (4, .int i), (3, .ref (xad G 77)), (2, .ref (xad G 51)), (1, .ref (xad G 0)), (0, .ref b)]) C dL_law_709 (by decide) rfl ?_
    refine l_aload_n C dL_law_711 rfl 4 rfl ?_
    refine l_callMi (As := []) (st := []) C dL_law_712 (M_X9_thrown G l 7000 _ _ rfl) (cwV 0 C.1.1.2.2.2.2.1 (gdL (W := WM) wmWL gWL qL_94 qL_95 qL_96 qL_78 qL_97) rfl rfl rfl (by decide +kernel) ⟨Nat.le_of_ble_eq_true rfl, Nat.le_of_ble_eq_true rfl⟩) (xc_51 G _) (by decide) rfl rfl rfl (Nat.le_of_ble_eq_true rfl) (by omega) (by omega) ?_
    refine l_iload C dL_law_715 1 rfl ?_
    refine l_icmp_eqT (tgt := 722) C dL_law_717 (by decide) ez ?_
    refine l_iload C dL_law_722 1 rfl ?_
    refine l_if_neT (tgt := 739) C dL_law_724 (by decide) (by decide) ?_
    refine l_goto (tgt := 1174) C dL_law_739 (by decide) ?_
    exact l_sub [2, 3, 4, 5, 6] rfl (kk a h2 w rc2 rm2)
set_option maxHeartbeats 4000000 in
set_option maxRecDepth 100000 in
theorem cs_read {G : xG} {p : Program} {l : Launch} {e : Env} {s : State} {m : MethodId} {b L : Nat} {xs : Nat → Int32} {below : List Frame} {meth : Method} {c : Code} {h : xHp} {k n : Nat} {a : Ab} {i : Int32} (C : lC G p s m meth c b L xs) (hlt : l.stackTraces = false) (hi1 : vp_in (i + 1) L) (hi2 : vp_in (i + 2) L) (hi3 : vp_in (i + 3) L) (w : RW a) (rc : RC a h) (rm : RM a h) (hk : k + 1 ≤ 601024) (hn : n + 6 ≤ 7293034) (kk : ∀ (a1 : Ab) (h1 : xHp), RW a1 → RC a1 h1 → RM a1 h1 → xL G p l e s m b below meth c 1174 (lvL G b i) [] h1 (k + 1) (n + 6)) : xL G p l e s m b below meth c 742 (lvL G b i) [] h k n := by
  obtain ⟨V, hv, h2, a1, e8, e9, w1, rc2, rm2⟩ := (q_read 7000 (Nat.le_refl _) w rc rm).p0
  refine l_aload_n C dL_law_742 rfl 3 rfl ?_
  refine l_callZi (As := []) (st := []) C dL_law_743 (M_X8_read G l 7000  _ _ e8) (cwV 0 C.1.1.2.2.2.2.1 (gdL (W := WC) (fun w h => wtWL _ (wcWT _ h)) gWL qL_146 qL_147 qL_148 qL_6 qL_149) rfl rfl rfl (by decide +kernel) ⟨Nat.le_of_ble_eq_true rfl, Nat.le_of_ble_eq_true rfl⟩) (xc_0 G _) (by decide) rfl rfl rfl (Nat.le_of_ble_eq_true rfl) (by omega) (by omega) ?_
  refine l_aload_n C dL_law_746 rfl 2 rfl ?_
  refine l_callMi (As := []) (st := [.int V]) C dL_law_747 (M_X9_read G l 7000  _ _ e9) (cwV 0 C.1.1.2.2.2.2.1 (gdL (W := WM) wmWL gWL qL_150 qL_151 qL_152 qL_78 qL_153) rfl rfl rfl (by decide +kernel) ⟨Nat.le_of_ble_eq_true rfl, Nat.le_of_ble_eq_true rfl⟩) (xc_51 G _) (by decide) rfl rfl rfl (Nat.le_of_ble_eq_true rfl) (by omega) (by omega) ?_
  refine l_icmp_eqT (tgt := 1174) C dL_law_750 (by decide) rfl ?_
  refine l_wide (k1 := k + 1) (n1 := n + 6) (by omega) (by omega) ?_
  exact l_sub [0, 1, 2, 3, 4] rfl (kk a1 h2 w1 rc2 rm2)
set_option maxHeartbeats 4000000 in
set_option maxRecDepth 100000 in
theorem cs_fault {G : xG} {p : Program} {l : Launch} {e : Env} {s : State} {m : MethodId} {b L : Nat} {xs : Nat → Int32} {below : List Frame} {meth : Method} {c : Code} {h : xHp} {k n : Nat} {a : Ab} {i : Int32} (C : lC G p s m meth c b L xs) (hlt : l.stackTraces = false) (hi1 : vp_in (i + 1) L) (hi2 : vp_in (i + 2) L) (hi3 : vp_in (i + 3) L) (w : RW a) (rc : RC a h) (rm : RM a h) (hk : k + 1 ≤ 601024) (hn : n + 6 ≤ 7293034) (kk : ∀ (a1 : Ab) (h1 : xHp), RW a1 → RC a1 h1 → RM a1 h1 → xL G p l e s m b below meth c 1174 (lvL G b i) [] h1 (k + 1) (n + 6)) : xL G p l e s m b below meth c 755 (lvL G b i) [] h k n := by
  obtain ⟨V, hv, h2, a1, e8, e9, w1, rc2, rm2⟩ := (q_fault 7000 w rc rm).p0
  refine l_aload_n C dL_law_755 rfl 3 rfl ?_
  refine l_callZi (As := []) (st := []) C dL_law_756 (M_X8_fault G l 7000  _ _ e8) (cwV 0 C.1.1.2.2.2.2.1 (gdL (W := WC) (fun w h => wtWL _ (wcWT _ h)) gWL qL_154 qL_155 qL_156 qL_6 qL_157) rfl rfl rfl (by decide +kernel) ⟨Nat.le_of_ble_eq_true rfl, Nat.le_of_ble_eq_true rfl⟩) (xc_0 G _) (by decide) rfl rfl rfl (Nat.le_of_ble_eq_true rfl) (by omega) (by omega) ?_
  refine l_aload_n C dL_law_759 rfl 2 rfl ?_
  refine l_callMi (As := []) (st := [.int V]) C dL_law_760 (M_X9_fault G l 7000  _ _ e9) (cwV 0 C.1.1.2.2.2.2.1 (gdL (W := WM) wmWL gWL qL_158 qL_159 qL_160 qL_78 qL_161) rfl rfl rfl (by decide +kernel) ⟨Nat.le_of_ble_eq_true rfl, Nat.le_of_ble_eq_true rfl⟩) (xc_51 G _) (by decide) rfl rfl rfl (Nat.le_of_ble_eq_true rfl) (by omega) (by omega) ?_
  refine l_icmp_eqT (tgt := 1174) C dL_law_763 (by decide) rfl ?_
  refine l_wide (k1 := k + 1) (n1 := n + 6) (by omega) (by omega) ?_
  exact l_sub [0, 1, 2, 3, 4] rfl (kk a1 h2 w1 rc2 rm2)
set_option maxHeartbeats 4000000 in
set_option maxRecDepth 100000 in
theorem cs_atom {G : xG} {p : Program} {l : Launch} {e : Env} {s : State} {m : MethodId} {b L : Nat} {xs : Nat → Int32} {below : List Frame} {meth : Method} {c : Code} {h : xHp} {k n : Nat} {a : Ab} {i : Int32} (C : lC G p s m meth c b L xs) (hlt : l.stackTraces = false) (hi1 : vp_in (i + 1) L) (hi2 : vp_in (i + 2) L) (hi3 : vp_in (i + 3) L) (w : RW a) (rc : RC a h) (rm : RM a h) (hk : k + 1 ≤ 601024) (hn : n + 6 ≤ 7293034) (kk : ∀ (a1 : Ab) (h1 : xHp), RW a1 → RC a1 h1 → RM a1 h1 → xL G p l e s m b below meth c 1174 (lvL G b i) [] h1 (k + 1) (n + 6)) : xL G p l e s m b below meth c 768 (lvL G b i) [] h k n := by
  refine l_aload_n C dL_law_768 rfl 3 rfl ?_
  refine l_aload_n C dL_law_769 rfl 4 rfl ?_
  refine l_iload C dL_law_770 0 rfl ?_
  refine l_iconst (v := 1) C dL_law_772 rfl ?_
  refine l_iadd C dL_law_773 ?_
  refine l_iald C hi1 dL_law_774 ?_
  refine l_aload_n C dL_law_775 rfl 4 rfl ?_
  refine l_iload C dL_law_776 0 rfl ?_
  refine l_iconst (v := 2) C dL_law_778 rfl ?_
  refine l_iadd C dL_law_779 ?_
  refine l_iald C hi2 dL_law_780 ?_
  refine l_aload_n C dL_law_781 rfl 1 rfl ?_
  rcases q_atom 7000 ((xs (i + 1).toNatClampNeg)) ((xs (i + 2).toNatClampNeg)) w rc rm with P | P
  · obtain ⟨V, hv, a1, e8, w1, rc1, rm1, F⟩ := P
    refine l_callS (As := [.ref (xad G 0), .int (xs (i + 1).toNatClampNeg), .int (xs (i + 2).toNatClampNeg), .ref (xad G 77)]) (st := []) C dL_law_782 (G_L_atom G l 7000 _ _ h _ (LwI_of e8)) (vx_cwSW 4 C.1.1.2.2.2.2.1 (gdLS (W := WL) (fun _ h => h) gWL qL_162 qL_163 qL_89 qL_49) rfl rfl rfl (by decide +kernel) ⟨Nat.le_of_ble_eq_true rfl, Nat.le_of_ble_eq_true rfl⟩) rfl rfl (Nat.le_of_ble_eq_true rfl) hk hn ?_
    obtain ⟨h2, e9, ez, rc2, rm2⟩ := F (sJ hv 77 0 V.toInt64) rc1.out rm1.out
    have k77 : h2.2.1 77 0 = V.toInt64 := (congrFun (kf_X9_atom 7000 _ _ _ _ e9) 0).trans (out77 hv V.toInt64)
    refine l_istore (lv' := [(5, .int 0), (4, .int i), (3, .ref (xad G 77)), (2, .ref (xad G 51)), (1, .ref (xad G 0)), (0, .ref b)]) C dL_law_785 (by decide) rfl ?_
    refine l_aload_n C dL_law_787 rfl 3 rfl ?_
    refine l_aload_n C dL_law_788 rfl 5 rfl ?_
    refine l_iload C dL_law_789 1 rfl ?_
    refine l_iconst (v := 1) C dL_law_791 rfl ?_
    refine l_iadd C dL_law_792 ?_
    refine l_iald C hi1 dL_law_793 ?_
    refine l_aload_n C dL_law_794 rfl 5 rfl ?_
    refine l_iload C dL_law_795 1 rfl ?_
    refine l_iconst (v := 2) C dL_law_797 rfl ?_
    refine l_iadd C dL_law_798 ?_
    refine l_iald C hi2 dL_law_799 ?_
    refine l_callMi (As := [.int (xs (i + 1).toNatClampNeg), .int (xs (i + 2).toNatClampNeg)]) (st := []) C dL_law_800 (M_X9_atom G l 7000 _ _ _ _ e9) (cwV 2 C.1.1.2.2.2.2.1 (gdL (W := WM) wmWL gWL qL_164 qL_165 qL_166 qL_78 qL_167) rfl rfl rfl (by decide +kernel) ⟨Nat.le_of_ble_eq_true rfl, Nat.le_of_ble_eq_true rfl⟩) (xc_51 G _) (by decide) rfl rfl rfl (Nat.le_of_ble_eq_true rfl) (by omega) (by omega) ?_
    refine l_istore (lv' := [(6, .int V), (5, .int 0), (4, .int i), (3, .ref (xad G 77)), (2, .ref (xad G 51)), (1, .ref (xad G 0)), (0, .ref b)]) C dL_law_803 (by decide) rfl ?_
    refine l_aload_n C dL_law_805 rfl 4 rfl ?_
    refine l_callMi (As := []) (st := []) C dL_law_806 (M_X9_thrown G l 7000 _ _ rfl) (cwV 0 C.1.1.2.2.2.2.1 (gdL (W := WM) wmWL gWL qL_94 qL_95 qL_96 qL_78 qL_97) rfl rfl rfl (by decide +kernel) ⟨Nat.le_of_ble_eq_true rfl, Nat.le_of_ble_eq_true rfl⟩) (xc_51 G _) (by decide) rfl rfl rfl (Nat.le_of_ble_eq_true rfl) (by omega) (by omega) ?_
    refine l_iload C dL_law_809 1 rfl ?_
    refine l_icmp_eqT (tgt := 816) C dL_law_811 (by decide) ez ?_
    refine l_iload C dL_law_816 1 rfl ?_
    refine l_if_neF (tgt := 833) C dL_law_818 (by decide) rfl ?_
    refine l_aload_n C dL_law_821 rfl 3 rfl ?_
    refine l_iconst (v := 0) C dL_law_822 rfl ?_
    refine l_lald C dL_law_823 ?_
    refine l_iload C dL_law_824 0 rfl ?_
    refine l_i2l C dL_law_826 ?_
    refine l_lcmp C dL_law_827 ?_
    refine l_if_eqT (tgt := 833) C dL_law_828 (by decide) (by rw [k77]; exact lg_cmp_same _) ?_
    refine l_goto (tgt := 1174) C dL_law_833 (by decide) ?_
    exact l_sub [2, 3, 4, 5, 6] rfl (kk a1 h2 w1 rc2 rm2)
  · obtain ⟨t, c0, hv, eT, hm, rc1, rm1, F⟩ := P
    obtain ⟨V, h2, e9, ez, rc2, rm2⟩ := F hv rc1 rm1
    rcases List.mem_cons.mp hm with hm | hm
    · cases hm
      refine l_callS (As := [.ref (xad G 0), .int (xs (i + 1).toNatClampNeg), .int (xs (i + 2).toNatClampNeg), .ref (xad G 77)]) (st := []) C dL_law_782 (T_L_atom_1 G l hlt 7000 _ _ h eT) (vx_cwSW 4 C.1.1.2.2.2.2.1 (gdLS (W := WL) (fun _ h => h) gWL qL_162 qL_163 qL_89 qL_49) rfl rfl rfl (by decide +kernel) ⟨Nat.le_of_ble_eq_true rfl, Nat.le_of_ble_eq_true rfl⟩) rfl rfl (Nat.le_of_ble_eq_true rfl) hk hn ?_
      refine l_istore (lv' := [(5, .int 1), (4, .int i), (3, .ref (xad G 77)), (2, .ref (xad G 51)), (1, .ref (xad G 0)), (0, .ref b)]) C dL_law_785 (by decide) rfl ?_
      refine l_aload_n C dL_law_787 rfl 3 rfl ?_
      refine l_aload_n C dL_law_788 rfl 5 rfl ?_
      refine l_iload C dL_law_789 1 rfl ?_
      refine l_iconst (v := 1) C dL_law_791 rfl ?_
      refine l_iadd C dL_law_792 ?_
      refine l_iald C hi1 dL_law_793 ?_
      refine l_aload_n C dL_law_794 rfl 5 rfl ?_
      refine l_iload C dL_law_795 1 rfl ?_
      refine l_iconst (v := 2) C dL_law_797 rfl ?_
      refine l_iadd C dL_law_798 ?_
      refine l_iald C hi2 dL_law_799 ?_
      refine l_callMi (As := [.int (xs (i + 1).toNatClampNeg), .int (xs (i + 2).toNatClampNeg)]) (st := []) C dL_law_800 (M_X9_atom G l 7000 _ _ _ _ e9) (cwV 2 C.1.1.2.2.2.2.1 (gdL (W := WM) wmWL gWL qL_164 qL_165 qL_166 qL_78 qL_167) rfl rfl rfl (by decide +kernel) ⟨Nat.le_of_ble_eq_true rfl, Nat.le_of_ble_eq_true rfl⟩) (xc_51 G _) (by decide) rfl rfl rfl (Nat.le_of_ble_eq_true rfl) (by omega) (by omega) ?_
      refine l_istore (lv' := [(6, .int V), (5, .int 1), (4, .int i), (3, .ref (xad G 77)), (2, .ref (xad G 51)), (1, .ref (xad G 0)), (0, .ref b)]) C dL_law_803 (by decide) rfl ?_
      refine l_aload_n C dL_law_805 rfl 4 rfl ?_
      refine l_callMi (As := []) (st := []) C dL_law_806 (M_X9_thrown G l 7000 _ _ rfl) (cwV 0 C.1.1.2.2.2.2.1 (gdL (W := WM) wmWL gWL qL_94 qL_95 qL_96 qL_78 qL_97) rfl rfl rfl (by decide +kernel) ⟨Nat.le_of_ble_eq_true rfl, Nat.le_of_ble_eq_true rfl⟩) (xc_51 G _) (by decide) rfl rfl rfl (Nat.le_of_ble_eq_true rfl) (by omega) (by omega) ?_
      refine l_iload C dL_law_809 1 rfl ?_
      refine l_icmp_eqT (tgt := 816) C dL_law_811 (by decide) ez ?_
      refine l_iload C dL_law_816 1 rfl ?_
      refine l_if_neT (tgt := 833) C dL_law_818 (by decide) (by decide) ?_
      refine l_goto (tgt := 1174) C dL_law_833 (by decide) ?_
      exact l_sub [2, 3, 4, 5, 6] rfl (kk a h2 w rc2 rm2)
    have hm := List.mem_singleton.mp hm
    cases hm
    refine l_callS (As := [.ref (xad G 0), .int (xs (i + 1).toNatClampNeg), .int (xs (i + 2).toNatClampNeg), .ref (xad G 77)]) (st := []) C dL_law_782 (T_L_atom_2 G l hlt 7000 _ _ h eT) (vx_cwSW 4 C.1.1.2.2.2.2.1 (gdLS (W := WL) (fun _ h => h) gWL qL_162 qL_163 qL_89 qL_49) rfl rfl rfl (by decide +kernel) ⟨Nat.le_of_ble_eq_true rfl, Nat.le_of_ble_eq_true rfl⟩) rfl rfl (Nat.le_of_ble_eq_true rfl) hk hn ?_
    refine l_istore (lv' := [(5, .int 2), (4, .int i), (3, .ref (xad G 77)), (2, .ref (xad G 51)), (1, .ref (xad G 0)), (0, .ref b)]) C dL_law_785 (by decide) rfl ?_
    refine l_aload_n C dL_law_787 rfl 3 rfl ?_
    refine l_aload_n C dL_law_788 rfl 5 rfl ?_
    refine l_iload C dL_law_789 1 rfl ?_
    refine l_iconst (v := 1) C dL_law_791 rfl ?_
    refine l_iadd C dL_law_792 ?_
    refine l_iald C hi1 dL_law_793 ?_
    refine l_aload_n C dL_law_794 rfl 5 rfl ?_
    refine l_iload C dL_law_795 1 rfl ?_
    refine l_iconst (v := 2) C dL_law_797 rfl ?_
    refine l_iadd C dL_law_798 ?_
    refine l_iald C hi2 dL_law_799 ?_
    refine l_callMi (As := [.int (xs (i + 1).toNatClampNeg), .int (xs (i + 2).toNatClampNeg)]) (st := []) C dL_law_800 (M_X9_atom G l 7000 _ _ _ _ e9) (cwV 2 C.1.1.2.2.2.2.1 (gdL (W := WM) wmWL gWL qL_164 qL_165 qL_166 qL_78 qL_167) rfl rfl rfl (by decide +kernel) ⟨Nat.le_of_ble_eq_true rfl, Nat.le_of_ble_eq_true rfl⟩) (xc_51 G _) (by decide) rfl rfl rfl (Nat.le_of_ble_eq_true rfl) (by omega) (by omega) ?_
    refine l_istore (lv' := [(6, .int V), (5, .int 2), (4, .int i), (3, .ref (xad G 77)), (2, .ref (xad G 51)), (1, .ref (xad G 0)), (0, .ref b)]) C dL_law_803 (by decide) rfl ?_
    refine l_aload_n C dL_law_805 rfl 4 rfl ?_
    refine l_callMi (As := []) (st := []) C dL_law_806 (M_X9_thrown G l 7000 _ _ rfl) (cwV 0 C.1.1.2.2.2.2.1 (gdL (W := WM) wmWL gWL qL_94 qL_95 qL_96 qL_78 qL_97) rfl rfl rfl (by decide +kernel) ⟨Nat.le_of_ble_eq_true rfl, Nat.le_of_ble_eq_true rfl⟩) (xc_51 G _) (by decide) rfl rfl rfl (Nat.le_of_ble_eq_true rfl) (by omega) (by omega) ?_
    refine l_iload C dL_law_809 1 rfl ?_
    refine l_icmp_eqT (tgt := 816) C dL_law_811 (by decide) ez ?_
    refine l_iload C dL_law_816 1 rfl ?_
    refine l_if_neT (tgt := 833) C dL_law_818 (by decide) (by decide) ?_
    refine l_goto (tgt := 1174) C dL_law_833 (by decide) ?_
    exact l_sub [2, 3, 4, 5, 6] rfl (kk a h2 w rc2 rm2)
set_option maxHeartbeats 4000000 in
set_option maxRecDepth 100000 in
theorem cs_ways {G : xG} {p : Program} {l : Launch} {e : Env} {s : State} {m : MethodId} {b L : Nat} {xs : Nat → Int32} {below : List Frame} {meth : Method} {c : Code} {h : xHp} {k n : Nat} {a : Ab} {i : Int32} (C : lC G p s m meth c b L xs) (hlt : l.stackTraces = false) (hi1 : vp_in (i + 1) L) (hi2 : vp_in (i + 2) L) (hi3 : vp_in (i + 3) L) (w : RW a) (rc : RC a h) (rm : RM a h) (hk : k + 1 ≤ 601024) (hn : n + 6 ≤ 7293034) (kk : ∀ (a1 : Ab) (h1 : xHp), RW a1 → RC a1 h1 → RM a1 h1 → xL G p l e s m b below meth c 1174 (lvL G b i) [] h1 (k + 1) (n + 6)) : xL G p l e s m b below meth c 836 (lvL G b i) [] h k n := by
  obtain ⟨V, hv, h2, a1, e8, e9, w1, rc2, rm2⟩ := (q_ways 7000 (Nat.le_refl _) w rc rm).p0
  refine l_aload_n C dL_law_836 rfl 3 rfl ?_
  refine l_callZi (As := []) (st := []) C dL_law_837 (M_X8_ways G l 7000  _ _ e8) (cwV 0 C.1.1.2.2.2.2.1 (gdL (W := WC) (fun w h => wtWL _ (wcWT _ h)) gWL qL_168 qL_169 qL_170 qL_6 qL_171) rfl rfl rfl (by decide +kernel) ⟨Nat.le_of_ble_eq_true rfl, Nat.le_of_ble_eq_true rfl⟩) (xc_0 G _) (by decide) rfl rfl rfl (Nat.le_of_ble_eq_true rfl) (by omega) (by omega) ?_
  refine l_aload_n C dL_law_840 rfl 2 rfl ?_
  refine l_callMi (As := []) (st := [.int V]) C dL_law_841 (M_X9_ways G l 7000  _ _ e9) (cwV 0 C.1.1.2.2.2.2.1 (gdL (W := WM) wmWL gWL qL_172 qL_173 qL_174 qL_78 qL_175) rfl rfl rfl (by decide +kernel) ⟨Nat.le_of_ble_eq_true rfl, Nat.le_of_ble_eq_true rfl⟩) (xc_51 G _) (by decide) rfl rfl rfl (Nat.le_of_ble_eq_true rfl) (by omega) (by omega) ?_
  refine l_icmp_eqT (tgt := 1174) C dL_law_844 (by decide) rfl ?_
  refine l_wide (k1 := k + 1) (n1 := n + 6) (by omega) (by omega) ?_
  exact l_sub [0, 1, 2, 3, 4] rfl (kk a1 h2 w1 rc2 rm2)
set_option maxHeartbeats 4000000 in
set_option maxRecDepth 100000 in
theorem cs_way {G : xG} {p : Program} {l : Launch} {e : Env} {s : State} {m : MethodId} {b L : Nat} {xs : Nat → Int32} {below : List Frame} {meth : Method} {c : Code} {h : xHp} {k n : Nat} {a : Ab} {i : Int32} (C : lC G p s m meth c b L xs) (hlt : l.stackTraces = false) (hi1 : vp_in (i + 1) L) (hi2 : vp_in (i + 2) L) (hi3 : vp_in (i + 3) L) (w : RW a) (rc : RC a h) (rm : RM a h) (hk : k + 1 ≤ 601024) (hn : n + 6 ≤ 7293034) (kk : ∀ (a1 : Ab) (h1 : xHp), RW a1 → RC a1 h1 → RM a1 h1 → xL G p l e s m b below meth c 1174 (lvL G b i) [] h1 (k + 1) (n + 6)) : xL G p l e s m b below meth c 849 (lvL G b i) [] h k n := by
  obtain ⟨V, hv, h2, a1, e8, e9, w1, rc2, rm2⟩ := (q_way 7000 (Nat.le_refl _) (xs (i + 1).toNatClampNeg) w rc rm).p0
  refine l_aload_n C dL_law_849 rfl 3 rfl ?_
  refine l_aload_n C dL_law_850 rfl 4 rfl ?_
  refine l_iload C dL_law_851 0 rfl ?_
  refine l_iconst (v := 1) C dL_law_853 rfl ?_
  refine l_iadd C dL_law_854 ?_
  refine l_iald C hi1 dL_law_855 ?_
  refine l_callZi (As := [.int (xs (i + 1).toNatClampNeg)]) (st := []) C dL_law_856 (M_X8_way G l 7000 _ _ _ e8) (cwV 1 C.1.1.2.2.2.2.1 (gdL (W := WC) (fun w h => wtWL _ (wcWT _ h)) gWL qL_176 qL_177 qL_178 qL_6 qL_179) rfl rfl rfl (by decide +kernel) ⟨Nat.le_of_ble_eq_true rfl, Nat.le_of_ble_eq_true rfl⟩) (xc_0 G _) (by decide) rfl rfl rfl (Nat.le_of_ble_eq_true rfl) (by omega) (by omega) ?_
  refine l_aload_n C dL_law_859 rfl 2 rfl ?_
  refine l_aload_n C dL_law_860 rfl 4 rfl ?_
  refine l_iload C dL_law_861 0 rfl ?_
  refine l_iconst (v := 1) C dL_law_863 rfl ?_
  refine l_iadd C dL_law_864 ?_
  refine l_iald C hi1 dL_law_865 ?_
  refine l_callMi (As := [.int (xs (i + 1).toNatClampNeg)]) (st := [.int V]) C dL_law_866 (M_X9_way G l 7000 _ _ _ e9) (cwV 1 C.1.1.2.2.2.2.1 (gdL (W := WM) wmWL gWL qL_180 qL_181 qL_182 qL_78 qL_183) rfl rfl rfl (by decide +kernel) ⟨Nat.le_of_ble_eq_true rfl, Nat.le_of_ble_eq_true rfl⟩) (xc_51 G _) (by decide) rfl rfl rfl (Nat.le_of_ble_eq_true rfl) (by omega) (by omega) ?_
  refine l_icmp_eqT (tgt := 1174) C dL_law_869 (by decide) rfl ?_
  refine l_wide (k1 := k + 1) (n1 := n + 6) (by omega) (by omega) ?_
  exact l_sub [0, 1, 2, 3, 4] rfl (kk a1 h2 w1 rc2 rm2)
set_option maxHeartbeats 4000000 in
set_option maxRecDepth 100000 in
theorem cs_valueIn {G : xG} {p : Program} {l : Launch} {e : Env} {s : State} {m : MethodId} {b L : Nat} {xs : Nat → Int32} {below : List Frame} {meth : Method} {c : Code} {h : xHp} {k n : Nat} {a : Ab} {i : Int32} (C : lC G p s m meth c b L xs) (hlt : l.stackTraces = false) (hi1 : vp_in (i + 1) L) (hi2 : vp_in (i + 2) L) (hi3 : vp_in (i + 3) L) (w : RW a) (rc : RC a h) (rm : RM a h) (hk : k + 1 ≤ 601024) (hn : n + 6 ≤ 7293034) (kk : ∀ (a1 : Ab) (h1 : xHp), RW a1 → RC a1 h1 → RM a1 h1 → xL G p l e s m b below meth c 1174 (lvL G b i) [] h1 (k + 1) (n + 6)) : xL G p l e s m b below meth c 874 (lvL G b i) [] h k n := by
  refine l_aload_n C dL_law_874 rfl 3 rfl ?_
  refine l_aload_n C dL_law_875 rfl 4 rfl ?_
  refine l_iload C dL_law_876 0 rfl ?_
  refine l_iconst (v := 1) C dL_law_878 rfl ?_
  refine l_iadd C dL_law_879 ?_
  refine l_iald C hi1 dL_law_880 ?_
  refine l_aload_n C dL_law_881 rfl 4 rfl ?_
  refine l_iload C dL_law_882 0 rfl ?_
  refine l_iconst (v := 2) C dL_law_884 rfl ?_
  refine l_iadd C dL_law_885 ?_
  refine l_iald C hi2 dL_law_886 ?_
  refine l_aload_n C dL_law_887 rfl 1 rfl ?_
  rcases q_valueIn 7000 (Nat.le_refl _) ((xs (i + 1).toNatClampNeg)) ((xs (i + 2).toNatClampNeg)) w rc rm with P | P
  · obtain ⟨V, hv, a1, e8, w1, rc1, rm1, F⟩ := P
    refine l_callS (As := [.ref (xad G 0), .int (xs (i + 1).toNatClampNeg), .int (xs (i + 2).toNatClampNeg), .ref (xad G 77)]) (st := []) C dL_law_888 (G_L_valueIn G l 7000 _ _ h _ (LwJ_of e8)) (vx_cwSW 4 C.1.1.2.2.2.2.1 (gdLS (W := WL) (fun _ h => h) gWL qL_184 qL_185 qL_89 qL_58) rfl rfl rfl (by decide +kernel) ⟨Nat.le_of_ble_eq_true rfl, Nat.le_of_ble_eq_true rfl⟩) rfl rfl (Nat.le_of_ble_eq_true rfl) hk hn ?_
    obtain ⟨h2, e9, ez, rc2, rm2⟩ := F (sJ hv 77 0 V) rc1.out rm1.out
    have k77 : h2.2.1 77 0 = V := (congrFun (kf_X9_valueIn 7000 _ _ _ _ e9) 0).trans (out77 hv V)
    refine l_istore (lv' := [(5, .int 0), (4, .int i), (3, .ref (xad G 77)), (2, .ref (xad G 51)), (1, .ref (xad G 0)), (0, .ref b)]) C dL_law_891 (by decide) rfl ?_
    refine l_aload_n C dL_law_893 rfl 3 rfl ?_
    refine l_aload_n C dL_law_894 rfl 5 rfl ?_
    refine l_iload C dL_law_895 1 rfl ?_
    refine l_iconst (v := 1) C dL_law_897 rfl ?_
    refine l_iadd C dL_law_898 ?_
    refine l_iald C hi1 dL_law_899 ?_
    refine l_aload_n C dL_law_900 rfl 5 rfl ?_
    refine l_iload C dL_law_901 1 rfl ?_
    refine l_iconst (v := 2) C dL_law_903 rfl ?_
    refine l_iadd C dL_law_904 ?_
    refine l_iald C hi2 dL_law_905 ?_
    refine l_callMl (As := [.int (xs (i + 1).toNatClampNeg), .int (xs (i + 2).toNatClampNeg)]) (st := []) C dL_law_906 (M_X9_valueIn G l 7000 _ _ _ _ e9) (cwV 2 C.1.1.2.2.2.2.1 (gdL (W := WM) wmWL gWL qL_186 qL_187 qL_188 qL_78 qL_189) rfl rfl rfl (by decide +kernel) ⟨Nat.le_of_ble_eq_true rfl, Nat.le_of_ble_eq_true rfl⟩) (xc_51 G _) (by decide) rfl rfl rfl (Nat.le_of_ble_eq_true rfl) (by omega) (by omega) ?_
    refine l_lstore (lv' := [(6, .long V), (5, .int 0), (4, .int i), (3, .ref (xad G 77)), (2, .ref (xad G 51)), (1, .ref (xad G 0)), (0, .ref b)]) C dL_law_909 (by decide) rfl ?_
    refine l_aload_n C dL_law_911 rfl 4 rfl ?_
    refine l_callMi (As := []) (st := []) C dL_law_912 (M_X9_thrown G l 7000 _ _ rfl) (cwV 0 C.1.1.2.2.2.2.1 (gdL (W := WM) wmWL gWL qL_94 qL_95 qL_96 qL_78 qL_97) rfl rfl rfl (by decide +kernel) ⟨Nat.le_of_ble_eq_true rfl, Nat.le_of_ble_eq_true rfl⟩) (xc_51 G _) (by decide) rfl rfl rfl (Nat.le_of_ble_eq_true rfl) (by omega) (by omega) ?_
    refine l_iload C dL_law_915 1 rfl ?_
    refine l_icmp_eqT (tgt := 922) C dL_law_917 (by decide) ez ?_
    refine l_iload C dL_law_922 1 rfl ?_
    refine l_if_neF (tgt := 938) C dL_law_924 (by decide) rfl ?_
    refine l_aload_n C dL_law_927 rfl 3 rfl ?_
    refine l_iconst (v := 0) C dL_law_928 rfl ?_
    refine l_lald C dL_law_929 ?_
    refine l_lload C dL_law_930 0 rfl ?_
    refine l_lcmp C dL_law_932 ?_
    refine l_if_eqT (tgt := 938) C dL_law_933 (by decide) (by rw [k77]; exact lg_cmp_same _) ?_
    refine l_goto (tgt := 1174) C dL_law_938 (by decide) ?_
    exact l_sub [2, 3, 4, 5, 6] rfl (kk a1 h2 w1 rc2 rm2)
  · obtain ⟨t, c0, hv, eT, hm, rc1, rm1, F⟩ := P
    obtain ⟨V, h2, e9, ez, rc2, rm2⟩ := F hv rc1 rm1
    have hm := List.mem_singleton.mp hm
    cases hm
    refine l_callS (As := [.ref (xad G 0), .int (xs (i + 1).toNatClampNeg), .int (xs (i + 2).toNatClampNeg), .ref (xad G 77)]) (st := []) C dL_law_888 (T_L_valueIn_1 G l hlt 7000 _ _ h eT) (vx_cwSW 4 C.1.1.2.2.2.2.1 (gdLS (W := WL) (fun _ h => h) gWL qL_184 qL_185 qL_89 qL_58) rfl rfl rfl (by decide +kernel) ⟨Nat.le_of_ble_eq_true rfl, Nat.le_of_ble_eq_true rfl⟩) rfl rfl (Nat.le_of_ble_eq_true rfl) hk hn ?_
    refine l_istore (lv' := [(5, .int 1), (4, .int i), (3, .ref (xad G 77)), (2, .ref (xad G 51)), (1, .ref (xad G 0)), (0, .ref b)]) C dL_law_891 (by decide) rfl ?_
    refine l_aload_n C dL_law_893 rfl 3 rfl ?_
    refine l_aload_n C dL_law_894 rfl 5 rfl ?_
    refine l_iload C dL_law_895 1 rfl ?_
    refine l_iconst (v := 1) C dL_law_897 rfl ?_
    refine l_iadd C dL_law_898 ?_
    refine l_iald C hi1 dL_law_899 ?_
    refine l_aload_n C dL_law_900 rfl 5 rfl ?_
    refine l_iload C dL_law_901 1 rfl ?_
    refine l_iconst (v := 2) C dL_law_903 rfl ?_
    refine l_iadd C dL_law_904 ?_
    refine l_iald C hi2 dL_law_905 ?_
    refine l_callMl (As := [.int (xs (i + 1).toNatClampNeg), .int (xs (i + 2).toNatClampNeg)]) (st := []) C dL_law_906 (M_X9_valueIn G l 7000 _ _ _ _ e9) (cwV 2 C.1.1.2.2.2.2.1 (gdL (W := WM) wmWL gWL qL_186 qL_187 qL_188 qL_78 qL_189) rfl rfl rfl (by decide +kernel) ⟨Nat.le_of_ble_eq_true rfl, Nat.le_of_ble_eq_true rfl⟩) (xc_51 G _) (by decide) rfl rfl rfl (Nat.le_of_ble_eq_true rfl) (by omega) (by omega) ?_
    refine l_lstore (lv' := [(6, .long V), (5, .int 1), (4, .int i), (3, .ref (xad G 77)), (2, .ref (xad G 51)), (1, .ref (xad G 0)), (0, .ref b)]) C dL_law_909 (by decide) rfl ?_
    refine l_aload_n C dL_law_911 rfl 4 rfl ?_
    refine l_callMi (As := []) (st := []) C dL_law_912 (M_X9_thrown G l 7000 _ _ rfl) (cwV 0 C.1.1.2.2.2.2.1 (gdL (W := WM) wmWL gWL qL_94 qL_95 qL_96 qL_78 qL_97) rfl rfl rfl (by decide +kernel) ⟨Nat.le_of_ble_eq_true rfl, Nat.le_of_ble_eq_true rfl⟩) (xc_51 G _) (by decide) rfl rfl rfl (Nat.le_of_ble_eq_true rfl) (by omega) (by omega) ?_
    refine l_iload C dL_law_915 1 rfl ?_
    refine l_icmp_eqT (tgt := 922) C dL_law_917 (by decide) ez ?_
    refine l_iload C dL_law_922 1 rfl ?_
    refine l_if_neT (tgt := 938) C dL_law_924 (by decide) (by decide) ?_
    refine l_goto (tgt := 1174) C dL_law_938 (by decide) ?_
    exact l_sub [2, 3, 4, 5, 6] rfl (kk a h2 w rc2 rm2)
set_option maxHeartbeats 4000000 in
set_option maxRecDepth 100000 in
theorem cs_must {G : xG} {p : Program} {l : Launch} {e : Env} {s : State} {m : MethodId} {b L : Nat} {xs : Nat → Int32} {below : List Frame} {meth : Method} {c : Code} {h : xHp} {k n : Nat} {a : Ab} {i : Int32} (C : lC G p s m meth c b L xs) (hlt : l.stackTraces = false) (hi1 : vp_in (i + 1) L) (hi2 : vp_in (i + 2) L) (hi3 : vp_in (i + 3) L) (w : RW a) (rc : RC a h) (rm : RM a h) (hk : k + 1 ≤ 601024) (hn : n + 6 ≤ 7293034) (kk : ∀ (a1 : Ab) (h1 : xHp), RW a1 → RC a1 h1 → RM a1 h1 → xL G p l e s m b below meth c 1174 (lvL G b i) [] h1 (k + 1) (n + 6)) : xL G p l e s m b below meth c 941 (lvL G b i) [] h k n := by
  refine l_aload_n C dL_law_941 rfl 3 rfl ?_
  refine l_aload_n C dL_law_942 rfl 4 rfl ?_
  refine l_iload C dL_law_943 0 rfl ?_
  refine l_iconst (v := 1) C dL_law_945 rfl ?_
  refine l_iadd C dL_law_946 ?_
  refine l_iald C hi1 dL_law_947 ?_
  refine l_aload_n C dL_law_948 rfl 1 rfl ?_
  rcases q_must 7000 (Nat.le_refl _) ((xs (i + 1).toNatClampNeg)) w rc rm with P | P
  · obtain ⟨V, hv, a1, e8, w1, rc1, rm1, F⟩ := P
    refine l_callS (As := [.ref (xad G 0), .int (xs (i + 1).toNatClampNeg), .ref (xad G 77)]) (st := []) C dL_law_949 (G_L_must G l 7000 _ h _ (LwI_of e8)) (vx_cwSW 3 C.1.1.2.2.2.2.1 (gdLS (W := WL) (fun _ h => h) gWL qL_190 qL_191 qL_89 qL_63) rfl rfl rfl (by decide +kernel) ⟨Nat.le_of_ble_eq_true rfl, Nat.le_of_ble_eq_true rfl⟩) rfl rfl (Nat.le_of_ble_eq_true rfl) hk hn ?_
    obtain ⟨h2, e9, ez, rc2, rm2⟩ := F (sJ hv 77 0 V.toInt64) rc1.out rm1.out
    have k77 : h2.2.1 77 0 = V.toInt64 := (congrFun (kf_X9_must 7000 _ _ _ e9) 0).trans (out77 hv V.toInt64)
    refine l_istore (lv' := [(5, .int 0), (4, .int i), (3, .ref (xad G 77)), (2, .ref (xad G 51)), (1, .ref (xad G 0)), (0, .ref b)]) C dL_law_952 (by decide) rfl ?_
    refine l_aload_n C dL_law_954 rfl 3 rfl ?_
    refine l_aload_n C dL_law_955 rfl 5 rfl ?_
    refine l_iload C dL_law_956 1 rfl ?_
    refine l_iconst (v := 1) C dL_law_958 rfl ?_
    refine l_iadd C dL_law_959 ?_
    refine l_iald C hi1 dL_law_960 ?_
    refine l_callMi (As := [.int (xs (i + 1).toNatClampNeg)]) (st := []) C dL_law_961 (M_X9_must G l 7000 _ _ _ e9) (cwV 1 C.1.1.2.2.2.2.1 (gdL (W := WM) wmWL gWL qL_192 qL_193 qL_194 qL_78 qL_195) rfl rfl rfl (by decide +kernel) ⟨Nat.le_of_ble_eq_true rfl, Nat.le_of_ble_eq_true rfl⟩) (xc_51 G _) (by decide) rfl rfl rfl (Nat.le_of_ble_eq_true rfl) (by omega) (by omega) ?_
    refine l_istore (lv' := [(6, .int V), (5, .int 0), (4, .int i), (3, .ref (xad G 77)), (2, .ref (xad G 51)), (1, .ref (xad G 0)), (0, .ref b)]) C dL_law_964 (by decide) rfl ?_
    refine l_aload_n C dL_law_966 rfl 4 rfl ?_
    refine l_callMi (As := []) (st := []) C dL_law_967 (M_X9_thrown G l 7000 _ _ rfl) (cwV 0 C.1.1.2.2.2.2.1 (gdL (W := WM) wmWL gWL qL_94 qL_95 qL_96 qL_78 qL_97) rfl rfl rfl (by decide +kernel) ⟨Nat.le_of_ble_eq_true rfl, Nat.le_of_ble_eq_true rfl⟩) (xc_51 G _) (by decide) rfl rfl rfl (Nat.le_of_ble_eq_true rfl) (by omega) (by omega) ?_
    refine l_iload C dL_law_970 1 rfl ?_
    refine l_icmp_eqT (tgt := 977) C dL_law_972 (by decide) ez ?_
    refine l_iload C dL_law_977 1 rfl ?_
    refine l_if_neF (tgt := 994) C dL_law_979 (by decide) rfl ?_
    refine l_aload_n C dL_law_982 rfl 3 rfl ?_
    refine l_iconst (v := 0) C dL_law_983 rfl ?_
    refine l_lald C dL_law_984 ?_
    refine l_iload C dL_law_985 0 rfl ?_
    refine l_i2l C dL_law_987 ?_
    refine l_lcmp C dL_law_988 ?_
    refine l_if_eqT (tgt := 994) C dL_law_989 (by decide) (by rw [k77]; exact lg_cmp_same _) ?_
    refine l_goto (tgt := 1174) C dL_law_994 (by decide) ?_
    exact l_sub [2, 3, 4, 5, 6] rfl (kk a1 h2 w1 rc2 rm2)
  · obtain ⟨t, c0, hv, eT, hm, rc1, rm1, F⟩ := P
    obtain ⟨V, h2, e9, ez, rc2, rm2⟩ := F hv rc1 rm1
    have hm := List.mem_singleton.mp hm
    cases hm
    refine l_callS (As := [.ref (xad G 0), .int (xs (i + 1).toNatClampNeg), .ref (xad G 77)]) (st := []) C dL_law_949 (T_L_must_1 G l hlt 7000 _ h eT) (vx_cwSW 3 C.1.1.2.2.2.2.1 (gdLS (W := WL) (fun _ h => h) gWL qL_190 qL_191 qL_89 qL_63) rfl rfl rfl (by decide +kernel) ⟨Nat.le_of_ble_eq_true rfl, Nat.le_of_ble_eq_true rfl⟩) rfl rfl (Nat.le_of_ble_eq_true rfl) hk hn ?_
    refine l_istore (lv' := [(5, .int 1), (4, .int i), (3, .ref (xad G 77)), (2, .ref (xad G 51)), (1, .ref (xad G 0)), (0, .ref b)]) C dL_law_952 (by decide) rfl ?_
    refine l_aload_n C dL_law_954 rfl 3 rfl ?_
    refine l_aload_n C dL_law_955 rfl 5 rfl ?_
    refine l_iload C dL_law_956 1 rfl ?_
    refine l_iconst (v := 1) C dL_law_958 rfl ?_
    refine l_iadd C dL_law_959 ?_
    refine l_iald C hi1 dL_law_960 ?_
    refine l_callMi (As := [.int (xs (i + 1).toNatClampNeg)]) (st := []) C dL_law_961 (M_X9_must G l 7000 _ _ _ e9) (cwV 1 C.1.1.2.2.2.2.1 (gdL (W := WM) wmWL gWL qL_192 qL_193 qL_194 qL_78 qL_195) rfl rfl rfl (by decide +kernel) ⟨Nat.le_of_ble_eq_true rfl, Nat.le_of_ble_eq_true rfl⟩) (xc_51 G _) (by decide) rfl rfl rfl (Nat.le_of_ble_eq_true rfl) (by omega) (by omega) ?_
    refine l_istore (lv' := [(6, .int V), (5, .int 1), (4, .int i), (3, .ref (xad G 77)), (2, .ref (xad G 51)), (1, .ref (xad G 0)), (0, .ref b)]) C dL_law_964 (by decide) rfl ?_
    refine l_aload_n C dL_law_966 rfl 4 rfl ?_
    refine l_callMi (As := []) (st := []) C dL_law_967 (M_X9_thrown G l 7000 _ _ rfl) (cwV 0 C.1.1.2.2.2.2.1 (gdL (W := WM) wmWL gWL qL_94 qL_95 qL_96 qL_78 qL_97) rfl rfl rfl (by decide +kernel) ⟨Nat.le_of_ble_eq_true rfl, Nat.le_of_ble_eq_true rfl⟩) (xc_51 G _) (by decide) rfl rfl rfl (Nat.le_of_ble_eq_true rfl) (by omega) (by omega) ?_
    refine l_iload C dL_law_970 1 rfl ?_
    refine l_icmp_eqT (tgt := 977) C dL_law_972 (by decide) ez ?_
    refine l_iload C dL_law_977 1 rfl ?_
    refine l_if_neT (tgt := 994) C dL_law_979 (by decide) (by decide) ?_
    refine l_goto (tgt := 1174) C dL_law_994 (by decide) ?_
    exact l_sub [2, 3, 4, 5, 6] rfl (kk a h2 w rc2 rm2)
set_option maxHeartbeats 4000000 in
set_option maxRecDepth 100000 in
theorem cs_prove {G : xG} {p : Program} {l : Launch} {e : Env} {s : State} {m : MethodId} {b L : Nat} {xs : Nat → Int32} {below : List Frame} {meth : Method} {c : Code} {h : xHp} {k n : Nat} {a : Ab} {i : Int32} (C : lC G p s m meth c b L xs) (hlt : l.stackTraces = false) (hi1 : vp_in (i + 1) L) (hi2 : vp_in (i + 2) L) (hi3 : vp_in (i + 3) L) (w : RW a) (rc : RC a h) (rm : RM a h) (hk : k + 1 ≤ 601024) (hn : n + 6 ≤ 7293034) (kk : ∀ (a1 : Ab) (h1 : xHp), RW a1 → RC a1 h1 → RM a1 h1 → xL G p l e s m b below meth c 1174 (lvL G b i) [] h1 (k + 1) (n + 6)) : xL G p l e s m b below meth c 997 (lvL G b i) [] h k n := by
  obtain ⟨V, hv, h2, a1, e8, e9, w1, rc2, rm2⟩ := (q_prove 7000 (Nat.le_refl _) w rc rm)
  refine l_aload_n C dL_law_997 rfl 3 rfl ?_
  refine l_callZi (As := []) (st := []) C dL_law_998 (M_X8_prove G l 7000  _ _ e8) (cwV 0 C.1.1.2.2.2.2.1 (gdL (W := WC) (fun w h => wtWL _ (wcWT _ h)) gWL qL_196 qL_197 qL_198 qL_6 qL_199) rfl rfl rfl (by decide +kernel) ⟨Nat.le_of_ble_eq_true rfl, Nat.le_of_ble_eq_true rfl⟩) (xc_0 G _) (by decide) rfl rfl rfl (Nat.le_of_ble_eq_true rfl) (by omega) (by omega) ?_
  refine l_aload_n C dL_law_1001 rfl 2 rfl ?_
  refine l_callMi (As := []) (st := [.int V]) C dL_law_1002 (M_X9_prove G l 7000  _ _ e9) (cwV 0 C.1.1.2.2.2.2.1 (gdL (W := WM) wmWL gWL qL_200 qL_201 qL_202 qL_78 qL_203) rfl rfl rfl (by decide +kernel) ⟨Nat.le_of_ble_eq_true rfl, Nat.le_of_ble_eq_true rfl⟩) (xc_51 G _) (by decide) rfl rfl rfl (Nat.le_of_ble_eq_true rfl) (by omega) (by omega) ?_
  refine l_icmp_eqT (tgt := 1174) C dL_law_1005 (by decide) rfl ?_
  refine l_wide (k1 := k + 1) (n1 := n + 6) (by omega) (by omega) ?_
  exact l_sub [0, 1, 2, 3, 4] rfl (kk a1 h2 w1 rc2 rm2)
set_option maxHeartbeats 4000000 in
set_option maxRecDepth 100000 in
theorem cs_written {G : xG} {p : Program} {l : Launch} {e : Env} {s : State} {m : MethodId} {b L : Nat} {xs : Nat → Int32} {below : List Frame} {meth : Method} {c : Code} {h : xHp} {k n : Nat} {a : Ab} {i : Int32} (C : lC G p s m meth c b L xs) (hlt : l.stackTraces = false) (hi1 : vp_in (i + 1) L) (hi2 : vp_in (i + 2) L) (hi3 : vp_in (i + 3) L) (w : RW a) (rc : RC a h) (rm : RM a h) (hk : k + 1 ≤ 601024) (hn : n + 6 ≤ 7293034) (kk : ∀ (a1 : Ab) (h1 : xHp), RW a1 → RC a1 h1 → RM a1 h1 → xL G p l e s m b below meth c 1174 (lvL G b i) [] h1 (k + 1) (n + 6)) : xL G p l e s m b below meth c 1010 (lvL G b i) [] h k n := by
  refine l_aload_n C dL_law_1010 rfl 3 rfl ?_
  refine l_aload_n C dL_law_1011 rfl 4 rfl ?_
  refine l_iload C dL_law_1012 0 rfl ?_
  refine l_iconst (v := 1) C dL_law_1014 rfl ?_
  refine l_iadd C dL_law_1015 ?_
  refine l_iald C hi1 dL_law_1016 ?_
  refine l_aload_n C dL_law_1017 rfl 1 rfl ?_
  rcases q_written 7000 ((xs (i + 1).toNatClampNeg)) w rc rm with P | P
  · obtain ⟨V, hv, a1, e8, w1, rc1, rm1, F⟩ := P
    refine l_callS (As := [.ref (xad G 0), .int (xs (i + 1).toNatClampNeg), .ref (xad G 77)]) (st := []) C dL_law_1018 (G_L_written G l 7000 _ h _ (LwI_of e8)) (vx_cwSW 3 C.1.1.2.2.2.2.1 (gdLS (W := WL) (fun _ h => h) gWL qL_204 qL_205 qL_89 qL_64) rfl rfl rfl (by decide +kernel) ⟨Nat.le_of_ble_eq_true rfl, Nat.le_of_ble_eq_true rfl⟩) rfl rfl (Nat.le_of_ble_eq_true rfl) hk hn ?_
    obtain ⟨h2, e9, ez, rc2, rm2⟩ := F (sJ hv 77 0 V.toInt64) rc1.out rm1.out
    have k77 : h2.2.1 77 0 = V.toInt64 := (congrFun (kf_X9_written 7000 _ _ _ e9) 0).trans (out77 hv V.toInt64)
    refine l_istore (lv' := [(5, .int 0), (4, .int i), (3, .ref (xad G 77)), (2, .ref (xad G 51)), (1, .ref (xad G 0)), (0, .ref b)]) C dL_law_1021 (by decide) rfl ?_
    refine l_aload_n C dL_law_1023 rfl 3 rfl ?_
    refine l_aload_n C dL_law_1024 rfl 5 rfl ?_
    refine l_iload C dL_law_1025 1 rfl ?_
    refine l_iconst (v := 1) C dL_law_1027 rfl ?_
    refine l_iadd C dL_law_1028 ?_
    refine l_iald C hi1 dL_law_1029 ?_
    refine l_callMi (As := [.int (xs (i + 1).toNatClampNeg)]) (st := []) C dL_law_1030 (M_X9_written G l 7000 _ _ _ e9) (cwV 1 C.1.1.2.2.2.2.1 (gdL (W := WM) wmWL gWL qL_206 qL_207 qL_208 qL_78 qL_209) rfl rfl rfl (by decide +kernel) ⟨Nat.le_of_ble_eq_true rfl, Nat.le_of_ble_eq_true rfl⟩) (xc_51 G _) (by decide) rfl rfl rfl (Nat.le_of_ble_eq_true rfl) (by omega) (by omega) ?_
    refine l_istore (lv' := [(6, .int V), (5, .int 0), (4, .int i), (3, .ref (xad G 77)), (2, .ref (xad G 51)), (1, .ref (xad G 0)), (0, .ref b)]) C dL_law_1033 (by decide) rfl ?_
    refine l_aload_n C dL_law_1035 rfl 4 rfl ?_
    refine l_callMi (As := []) (st := []) C dL_law_1036 (M_X9_thrown G l 7000 _ _ rfl) (cwV 0 C.1.1.2.2.2.2.1 (gdL (W := WM) wmWL gWL qL_94 qL_95 qL_96 qL_78 qL_97) rfl rfl rfl (by decide +kernel) ⟨Nat.le_of_ble_eq_true rfl, Nat.le_of_ble_eq_true rfl⟩) (xc_51 G _) (by decide) rfl rfl rfl (Nat.le_of_ble_eq_true rfl) (by omega) (by omega) ?_
    refine l_iload C dL_law_1039 1 rfl ?_
    refine l_icmp_eqT (tgt := 1046) C dL_law_1041 (by decide) ez ?_
    refine l_iload C dL_law_1046 1 rfl ?_
    refine l_if_neF (tgt := 1063) C dL_law_1048 (by decide) rfl ?_
    refine l_aload_n C dL_law_1051 rfl 3 rfl ?_
    refine l_iconst (v := 0) C dL_law_1052 rfl ?_
    refine l_lald C dL_law_1053 ?_
    refine l_iload C dL_law_1054 0 rfl ?_
    refine l_i2l C dL_law_1056 ?_
    refine l_lcmp C dL_law_1057 ?_
    refine l_if_eqT (tgt := 1063) C dL_law_1058 (by decide) (by rw [k77]; exact lg_cmp_same _) ?_
    refine l_goto (tgt := 1174) C dL_law_1063 (by decide) ?_
    exact l_sub [2, 3, 4, 5, 6] rfl (kk a1 h2 w1 rc2 rm2)
  · obtain ⟨t, c0, hv, eT, hm, rc1, rm1, F⟩ := P
    obtain ⟨V, h2, e9, ez, rc2, rm2⟩ := F hv rc1 rm1
    have hm := List.mem_singleton.mp hm
    cases hm
    refine l_callS (As := [.ref (xad G 0), .int (xs (i + 1).toNatClampNeg), .ref (xad G 77)]) (st := []) C dL_law_1018 (T_L_written_1 G l hlt 7000 _ h eT) (vx_cwSW 3 C.1.1.2.2.2.2.1 (gdLS (W := WL) (fun _ h => h) gWL qL_204 qL_205 qL_89 qL_64) rfl rfl rfl (by decide +kernel) ⟨Nat.le_of_ble_eq_true rfl, Nat.le_of_ble_eq_true rfl⟩) rfl rfl (Nat.le_of_ble_eq_true rfl) hk hn ?_
    refine l_istore (lv' := [(5, .int 1), (4, .int i), (3, .ref (xad G 77)), (2, .ref (xad G 51)), (1, .ref (xad G 0)), (0, .ref b)]) C dL_law_1021 (by decide) rfl ?_
    refine l_aload_n C dL_law_1023 rfl 3 rfl ?_
    refine l_aload_n C dL_law_1024 rfl 5 rfl ?_
    refine l_iload C dL_law_1025 1 rfl ?_
    refine l_iconst (v := 1) C dL_law_1027 rfl ?_
    refine l_iadd C dL_law_1028 ?_
    refine l_iald C hi1 dL_law_1029 ?_
    refine l_callMi (As := [.int (xs (i + 1).toNatClampNeg)]) (st := []) C dL_law_1030 (M_X9_written G l 7000 _ _ _ e9) (cwV 1 C.1.1.2.2.2.2.1 (gdL (W := WM) wmWL gWL qL_206 qL_207 qL_208 qL_78 qL_209) rfl rfl rfl (by decide +kernel) ⟨Nat.le_of_ble_eq_true rfl, Nat.le_of_ble_eq_true rfl⟩) (xc_51 G _) (by decide) rfl rfl rfl (Nat.le_of_ble_eq_true rfl) (by omega) (by omega) ?_
    refine l_istore (lv' := [(6, .int V), (5, .int 1), (4, .int i), (3, .ref (xad G 77)), (2, .ref (xad G 51)), (1, .ref (xad G 0)), (0, .ref b)]) C dL_law_1033 (by decide) rfl ?_
    refine l_aload_n C dL_law_1035 rfl 4 rfl ?_
    refine l_callMi (As := []) (st := []) C dL_law_1036 (M_X9_thrown G l 7000 _ _ rfl) (cwV 0 C.1.1.2.2.2.2.1 (gdL (W := WM) wmWL gWL qL_94 qL_95 qL_96 qL_78 qL_97) rfl rfl rfl (by decide +kernel) ⟨Nat.le_of_ble_eq_true rfl, Nat.le_of_ble_eq_true rfl⟩) (xc_51 G _) (by decide) rfl rfl rfl (Nat.le_of_ble_eq_true rfl) (by omega) (by omega) ?_
    refine l_iload C dL_law_1039 1 rfl ?_
    refine l_icmp_eqT (tgt := 1046) C dL_law_1041 (by decide) ez ?_
    refine l_iload C dL_law_1046 1 rfl ?_
    refine l_if_neT (tgt := 1063) C dL_law_1048 (by decide) (by decide) ?_
    refine l_goto (tgt := 1174) C dL_law_1063 (by decide) ?_
    exact l_sub [2, 3, 4, 5, 6] rfl (kk a h2 w rc2 rm2)
set_option maxHeartbeats 4000000 in
set_option maxRecDepth 100000 in
theorem cs_check {G : xG} {p : Program} {l : Launch} {e : Env} {s : State} {m : MethodId} {b L : Nat} {xs : Nat → Int32} {below : List Frame} {meth : Method} {c : Code} {h : xHp} {k n : Nat} {a : Ab} {i : Int32} (C : lC G p s m meth c b L xs) (hlt : l.stackTraces = false) (hi1 : vp_in (i + 1) L) (hi2 : vp_in (i + 2) L) (hi3 : vp_in (i + 3) L) (w : RW a) (rc : RC a h) (rm : RM a h) (hk : k + 1 ≤ 601024) (hn : n + 6 ≤ 7293034) (kk : ∀ (a1 : Ab) (h1 : xHp), RW a1 → RC a1 h1 → RM a1 h1 → xL G p l e s m b below meth c 1174 (lvL G b i) [] h1 (k + 1) (n + 6)) : xL G p l e s m b below meth c 1066 (lvL G b i) [] h k n := by
  refine l_aload_n C dL_law_1066 rfl 3 rfl ?_
  refine l_aload_n C dL_law_1067 rfl 4 rfl ?_
  refine l_iload C dL_law_1068 0 rfl ?_
  refine l_iconst (v := 1) C dL_law_1070 rfl ?_
  refine l_iadd C dL_law_1071 ?_
  refine l_iald C hi1 dL_law_1072 ?_
  refine l_if_eq (tgt := 1080) C dL_law_1073 (by decide) (fun hz => ?_) (fun hz => ?_)
  · obtain ⟨V, hv, h2, a1, e8, e9, w1, rc2, rm2⟩ := (q_check 7000 (Nat.le_refl _) false w rc rm).p0
    refine l_iconst (v := 0) C dL_law_1080 rfl ?_
    refine l_callZi (As := [.int 0]) (st := []) C dL_law_1081 (M_X8_check G l 7000 _ _ _ e8) (cwV 1 C.1.1.2.2.2.2.1 (gdL (W := WC) (fun w h => wtWL _ (wcWT _ h)) gWL qL_210 qL_211 qL_212 qL_6 qL_213) rfl rfl rfl (by decide +kernel) ⟨Nat.le_of_ble_eq_true rfl, Nat.le_of_ble_eq_true rfl⟩) (xc_0 G _) (by decide) rfl rfl rfl (Nat.le_of_ble_eq_true rfl) (by omega) (by omega) ?_
    refine l_aload_n C dL_law_1084 rfl 2 rfl ?_
    refine l_aload_n C dL_law_1085 rfl 4 rfl ?_
    refine l_iload C dL_law_1086 0 rfl ?_
    refine l_iconst (v := 1) C dL_law_1088 rfl ?_
    refine l_iadd C dL_law_1089 ?_
    refine l_iald C hi1 dL_law_1090 ?_
    refine l_if_eqT (tgt := 1098) C dL_law_1091 (by decide) hz ?_
    refine l_iconst (v := 0) C dL_law_1098 rfl ?_
    refine l_callMi (As := [.int 0]) (st := [.int V]) C dL_law_1099 (M_X9_check G l 7000 _ _ _ e9) (cwV 1 C.1.1.2.2.2.2.1 (gdL (W := WM) wmWL gWL qL_214 qL_215 qL_216 qL_78 qL_217) rfl rfl rfl (by decide +kernel) ⟨Nat.le_of_ble_eq_true rfl, Nat.le_of_ble_eq_true rfl⟩) (xc_51 G _) (by decide) rfl rfl rfl (Nat.le_of_ble_eq_true rfl) (by omega) (by omega) ?_
    refine l_icmp_eqT (tgt := 1174) C dL_law_1102 (by decide) rfl ?_
    refine l_wide (k1 := k + 1) (n1 := n + 6) (by omega) (by omega) ?_
    exact l_sub [0, 1, 2, 3, 4] rfl (kk a1 h2 w1 rc2 rm2)
  · obtain ⟨V, hv, h2, a1, e8, e9, w1, rc2, rm2⟩ := (q_check 7000 (Nat.le_refl _) true w rc rm).p0
    refine l_iconst (v := 1) C dL_law_1076 rfl ?_
    refine l_goto (tgt := 1081) C dL_law_1077 (by decide) ?_
    refine l_callZi (As := [.int 1]) (st := []) C dL_law_1081 (M_X8_check G l 7000 _ _ _ e8) (cwV 1 C.1.1.2.2.2.2.1 (gdL (W := WC) (fun w h => wtWL _ (wcWT _ h)) gWL qL_210 qL_211 qL_212 qL_6 qL_213) rfl rfl rfl (by decide +kernel) ⟨Nat.le_of_ble_eq_true rfl, Nat.le_of_ble_eq_true rfl⟩) (xc_0 G _) (by decide) rfl rfl rfl (Nat.le_of_ble_eq_true rfl) (by omega) (by omega) ?_
    refine l_aload_n C dL_law_1084 rfl 2 rfl ?_
    refine l_aload_n C dL_law_1085 rfl 4 rfl ?_
    refine l_iload C dL_law_1086 0 rfl ?_
    refine l_iconst (v := 1) C dL_law_1088 rfl ?_
    refine l_iadd C dL_law_1089 ?_
    refine l_iald C hi1 dL_law_1090 ?_
    refine l_if_eqF (tgt := 1098) C dL_law_1091 (by decide) hz ?_
    refine l_iconst (v := 1) C dL_law_1094 rfl ?_
    refine l_goto (tgt := 1099) C dL_law_1095 (by decide) ?_
    refine l_callMi (As := [.int 1]) (st := [.int V]) C dL_law_1099 (M_X9_check G l 7000 _ _ _ e9) (cwV 1 C.1.1.2.2.2.2.1 (gdL (W := WM) wmWL gWL qL_214 qL_215 qL_216 qL_78 qL_217) rfl rfl rfl (by decide +kernel) ⟨Nat.le_of_ble_eq_true rfl, Nat.le_of_ble_eq_true rfl⟩) (xc_51 G _) (by decide) rfl rfl rfl (Nat.le_of_ble_eq_true rfl) (by omega) (by omega) ?_
    refine l_icmp_eqT (tgt := 1174) C dL_law_1102 (by decide) rfl ?_
    refine l_wide (k1 := k + 1) (n1 := n + 6) (by omega) (by omega) ?_
    exact l_sub [0, 1, 2, 3, 4] rfl (kk a1 h2 w1 rc2 rm2)
set_option maxHeartbeats 4000000 in
set_option maxRecDepth 100000 in
theorem cs_told {G : xG} {p : Program} {l : Launch} {e : Env} {s : State} {m : MethodId} {b L : Nat} {xs : Nat → Int32} {below : List Frame} {meth : Method} {c : Code} {h : xHp} {k n : Nat} {a : Ab} {i : Int32} (C : lC G p s m meth c b L xs) (hlt : l.stackTraces = false) (hi1 : vp_in (i + 1) L) (hi2 : vp_in (i + 2) L) (hi3 : vp_in (i + 3) L) (w : RW a) (rc : RC a h) (rm : RM a h) (hk : k + 1 ≤ 601024) (hn : n + 6 ≤ 7293034) (kk : ∀ (a1 : Ab) (h1 : xHp), RW a1 → RC a1 h1 → RM a1 h1 → xL G p l e s m b below meth c 1174 (lvL G b i) [] h1 (k + 1) (n + 6)) : xL G p l e s m b below meth c 1107 (lvL G b i) [] h k n := by
  refine l_aload_n C dL_law_1107 rfl 3 rfl ?_
  refine l_aload_n C dL_law_1108 rfl 4 rfl ?_
  refine l_iload C dL_law_1109 0 rfl ?_
  refine l_iconst (v := 1) C dL_law_1111 rfl ?_
  refine l_iadd C dL_law_1112 ?_
  refine l_iald C hi1 dL_law_1113 ?_
  refine l_aload_n C dL_law_1114 rfl 1 rfl ?_
  rcases q_told 7000 ((xs (i + 1).toNatClampNeg)) w rc rm with P | P
  · obtain ⟨V, hv, a1, e8, w1, rc1, rm1, F⟩ := P
    refine l_callS (As := [.ref (xad G 0), .int (xs (i + 1).toNatClampNeg), .ref (xad G 77)]) (st := []) C dL_law_1115 (G_L_told G l 7000 _ h _ (LwI_of e8)) (vx_cwSW 3 C.1.1.2.2.2.2.1 (gdLS (W := WL) (fun _ h => h) gWL qL_218 qL_219 qL_89 qL_69) rfl rfl rfl (by decide +kernel) ⟨Nat.le_of_ble_eq_true rfl, Nat.le_of_ble_eq_true rfl⟩) rfl rfl (Nat.le_of_ble_eq_true rfl) hk hn ?_
    obtain ⟨h2, e9, ez, rc2, rm2⟩ := F (sJ hv 77 0 V.toInt64) rc1.out rm1.out
    have k77 : h2.2.1 77 0 = V.toInt64 := (congrFun (kf_X9_told 7000 _ _ _ e9) 0).trans (out77 hv V.toInt64)
    refine l_istore (lv' := [(5, .int 0), (4, .int i), (3, .ref (xad G 77)), (2, .ref (xad G 51)), (1, .ref (xad G 0)), (0, .ref b)]) C dL_law_1118 (by decide) rfl ?_
    refine l_aload_n C dL_law_1120 rfl 3 rfl ?_
    refine l_aload_n C dL_law_1121 rfl 5 rfl ?_
    refine l_iload C dL_law_1122 1 rfl ?_
    refine l_iconst (v := 1) C dL_law_1124 rfl ?_
    refine l_iadd C dL_law_1125 ?_
    refine l_iald C hi1 dL_law_1126 ?_
    refine l_callMi (As := [.int (xs (i + 1).toNatClampNeg)]) (st := []) C dL_law_1127 (M_X9_told G l 7000 _ _ _ e9) (cwV 1 C.1.1.2.2.2.2.1 (gdL (W := WM) wmWL gWL qL_220 qL_221 qL_222 qL_78 qL_223) rfl rfl rfl (by decide +kernel) ⟨Nat.le_of_ble_eq_true rfl, Nat.le_of_ble_eq_true rfl⟩) (xc_51 G _) (by decide) rfl rfl rfl (Nat.le_of_ble_eq_true rfl) (by omega) (by omega) ?_
    refine l_istore (lv' := [(6, .int V), (5, .int 0), (4, .int i), (3, .ref (xad G 77)), (2, .ref (xad G 51)), (1, .ref (xad G 0)), (0, .ref b)]) C dL_law_1130 (by decide) rfl ?_
    refine l_aload_n C dL_law_1132 rfl 4 rfl ?_
    refine l_callMi (As := []) (st := []) C dL_law_1133 (M_X9_thrown G l 7000 _ _ rfl) (cwV 0 C.1.1.2.2.2.2.1 (gdL (W := WM) wmWL gWL qL_94 qL_95 qL_96 qL_78 qL_97) rfl rfl rfl (by decide +kernel) ⟨Nat.le_of_ble_eq_true rfl, Nat.le_of_ble_eq_true rfl⟩) (xc_51 G _) (by decide) rfl rfl rfl (Nat.le_of_ble_eq_true rfl) (by omega) (by omega) ?_
    refine l_iload C dL_law_1136 1 rfl ?_
    refine l_icmp_eqT (tgt := 1143) C dL_law_1138 (by decide) ez ?_
    refine l_iload C dL_law_1143 1 rfl ?_
    refine l_if_neF (tgt := 1160) C dL_law_1145 (by decide) rfl ?_
    refine l_aload_n C dL_law_1148 rfl 3 rfl ?_
    refine l_iconst (v := 0) C dL_law_1149 rfl ?_
    refine l_lald C dL_law_1150 ?_
    refine l_iload C dL_law_1151 0 rfl ?_
    refine l_i2l C dL_law_1153 ?_
    refine l_lcmp C dL_law_1154 ?_
    refine l_if_eqT (tgt := 1160) C dL_law_1155 (by decide) (by rw [k77]; exact lg_cmp_same _) ?_
    refine l_goto (tgt := 1174) C dL_law_1160 (by decide) ?_
    exact l_sub [2, 3, 4, 5, 6] rfl (kk a1 h2 w1 rc2 rm2)
  · obtain ⟨t, c0, hv, eT, hm, rc1, rm1, F⟩ := P
    obtain ⟨V, h2, e9, ez, rc2, rm2⟩ := F hv rc1 rm1
    have hm := List.mem_singleton.mp hm
    cases hm
    refine l_callS (As := [.ref (xad G 0), .int (xs (i + 1).toNatClampNeg), .ref (xad G 77)]) (st := []) C dL_law_1115 (T_L_told_2 G l hlt 7000 _ h eT) (vx_cwSW 3 C.1.1.2.2.2.2.1 (gdLS (W := WL) (fun _ h => h) gWL qL_218 qL_219 qL_89 qL_69) rfl rfl rfl (by decide +kernel) ⟨Nat.le_of_ble_eq_true rfl, Nat.le_of_ble_eq_true rfl⟩) rfl rfl (Nat.le_of_ble_eq_true rfl) hk hn ?_
    refine l_istore (lv' := [(5, .int 1), (4, .int i), (3, .ref (xad G 77)), (2, .ref (xad G 51)), (1, .ref (xad G 0)), (0, .ref b)]) C dL_law_1118 (by decide) rfl ?_
    refine l_aload_n C dL_law_1120 rfl 3 rfl ?_
    refine l_aload_n C dL_law_1121 rfl 5 rfl ?_
    refine l_iload C dL_law_1122 1 rfl ?_
    refine l_iconst (v := 1) C dL_law_1124 rfl ?_
    refine l_iadd C dL_law_1125 ?_
    refine l_iald C hi1 dL_law_1126 ?_
    refine l_callMi (As := [.int (xs (i + 1).toNatClampNeg)]) (st := []) C dL_law_1127 (M_X9_told G l 7000 _ _ _ e9) (cwV 1 C.1.1.2.2.2.2.1 (gdL (W := WM) wmWL gWL qL_220 qL_221 qL_222 qL_78 qL_223) rfl rfl rfl (by decide +kernel) ⟨Nat.le_of_ble_eq_true rfl, Nat.le_of_ble_eq_true rfl⟩) (xc_51 G _) (by decide) rfl rfl rfl (Nat.le_of_ble_eq_true rfl) (by omega) (by omega) ?_
    refine l_istore (lv' := [(6, .int V), (5, .int 1), (4, .int i), (3, .ref (xad G 77)), (2, .ref (xad G 51)), (1, .ref (xad G 0)), (0, .ref b)]) C dL_law_1130 (by decide) rfl ?_
    refine l_aload_n C dL_law_1132 rfl 4 rfl ?_
    refine l_callMi (As := []) (st := []) C dL_law_1133 (M_X9_thrown G l 7000 _ _ rfl) (cwV 0 C.1.1.2.2.2.2.1 (gdL (W := WM) wmWL gWL qL_94 qL_95 qL_96 qL_78 qL_97) rfl rfl rfl (by decide +kernel) ⟨Nat.le_of_ble_eq_true rfl, Nat.le_of_ble_eq_true rfl⟩) (xc_51 G _) (by decide) rfl rfl rfl (Nat.le_of_ble_eq_true rfl) (by omega) (by omega) ?_
    refine l_iload C dL_law_1136 1 rfl ?_
    refine l_icmp_eqT (tgt := 1143) C dL_law_1138 (by decide) ez ?_
    refine l_iload C dL_law_1143 1 rfl ?_
    refine l_if_neT (tgt := 1160) C dL_law_1145 (by decide) (by decide) ?_
    refine l_goto (tgt := 1174) C dL_law_1160 (by decide) ?_
    exact l_sub [2, 3, 4, 5, 6] rfl (kk a h2 w rc2 rm2)
set_option maxHeartbeats 4000000 in
set_option maxRecDepth 100000 in
theorem cs_clear {G : xG} {p : Program} {l : Launch} {e : Env} {s : State} {m : MethodId} {b L : Nat} {xs : Nat → Int32} {below : List Frame} {meth : Method} {c : Code} {h : xHp} {k n : Nat} {a : Ab} {i : Int32} (C : lC G p s m meth c b L xs) (hlt : l.stackTraces = false) (hi1 : vp_in (i + 1) L) (hi2 : vp_in (i + 2) L) (hi3 : vp_in (i + 3) L) (w : RW a) (rc : RC a h) (rm : RM a h) (hk : k + 1 ≤ 601024) (hn : n + 6 ≤ 7293034) (kk : ∀ (a1 : Ab) (h1 : xHp), RW a1 → RC a1 h1 → RM a1 h1 → xL G p l e s m b below meth c 1174 (lvL G b i) [] h1 (k + 1) (n + 6)) : xL G p l e s m b below meth c 1163 (lvL G b i) [] h k n := by
  obtain ⟨V, hv, h2, a1, e8, e9, w1, rc2, rm2⟩ := (q_clear 7000 w rc rm).p0
  refine l_aload_n C dL_law_1163 rfl 3 rfl ?_
  refine l_callZv (As := []) (st := []) C dL_law_1164 (M_X8_clear G l 7000  _ _ e8) (cwV 0 C.1.1.2.2.2.2.1 (gdL (W := WC) (fun w h => wtWL _ (wcWT _ h)) gWL qL_224 qL_225 qL_226 qL_6 qL_227) rfl rfl rfl (by decide +kernel) ⟨Nat.le_of_ble_eq_true rfl, Nat.le_of_ble_eq_true rfl⟩) (xc_0 G _) (by decide) rfl rfl rfl (Nat.le_of_ble_eq_true rfl) (by omega) (by omega) ?_
  refine l_aload_n C dL_law_1167 rfl 2 rfl ?_
  refine l_callMv (As := []) (st := []) C dL_law_1168 (M_X9_clear G l 7000  _ _ e9) (cwV 0 C.1.1.2.2.2.2.1 (gdL (W := WM) wmWL gWL qL_228 qL_229 qL_230 qL_78 qL_231) rfl rfl rfl (by decide +kernel) ⟨Nat.le_of_ble_eq_true rfl, Nat.le_of_ble_eq_true rfl⟩) (xc_51 G _) (by decide) rfl rfl rfl (Nat.le_of_ble_eq_true rfl) (by omega) (by omega) ?_
  refine l_wide (k1 := k + 1) (n1 := n + 6) (by omega) (by omega) ?_
  refine l_goto (tgt := 1174) C dL_law_1171 (by decide) ?_
  exact l_sub [0, 1, 2, 3, 4] rfl (kk a1 h2 w1 rc2 rm2)
