/-! throws: words, rows, contracts of a method that throws -/
def xexc : Nat → String
  | 1 => "java/lang/IndexOutOfBoundsException"
  | 2 => "java/lang/IllegalArgumentException"
  | _ => "java/lang/UnsupportedOperationException"
def WXa_1 : List Cond := (vx_atS RX8 134 "java/lang/IndexOutOfBoundsException" ["java/lang/RuntimeException", "java/lang/Exception"]).filter goodWord
def WXa_2 : List Cond := (vx_atS RX8 90 "java/lang/IllegalArgumentException" ["java/lang/RuntimeException", "java/lang/Exception"]).filter goodWord
def WXa_3 : List Cond := (vx_atS RX8 101 "java/lang/UnsupportedOperationException" ["java/lang/RuntimeException", "java/lang/Exception"]).filter goodWord
def WX0 : List Cond := [Cond.classLink RX8 130 "java/lang/IndexOutOfBoundsException", Cond.initialized "java/lang/IndexOutOfBoundsException", Cond.classLink RX8 86 "java/lang/IllegalArgumentException", Cond.initialized "java/lang/IllegalArgumentException", Cond.classLink RX8 97 "java/lang/UnsupportedOperationException", Cond.initialized "java/lang/UnsupportedOperationException"]
def WT : List Cond := WX0 ++ (WXa_1 ++ (WXa_2 ++ (WXa_3 ++ WC)))
theorem gWX0 : WX0.all goodWord = true := by decide +kernel
theorem gWT : ∀ w ∈ WT, (w.onTables && w.keeps) = true ∨ ∃ ty, w = .arrayClass ty := by
  intro w h
  unfold WT at h
  simp only [List.mem_append] at h
  rcases h with h | h | h | h | h
  · exact good_of_word (List.all_eq_true.mp gWX0 w h)
  · exact good_of_word (List.mem_filter.mp h).2
  · exact good_of_word (List.mem_filter.mp h).2
  · exact good_of_word (List.mem_filter.mp h).2
  · exact gWC w h
theorem wcWT : ∀ w ∈ WC, w ∈ WT := fun w h => List.mem_append_right _ (List.mem_append_right _ (List.mem_append_right _ (List.mem_append_right _ h)))
theorem gdV2 {W B : List Cond} {code : Cond} (hs : ∀ w ∈ W, w ∈ B) (hg : ∀ w ∈ B, (w.onTables && w.keeps) = true ∨ ∃ ty, w = .arrayClass ty) {a : Cond} {own C : String} {idx : Nat} {y : MethodName} (h1 : Cond.methodLink own idx y ∈ B) (h2 : Cond.instanceMethod y ∈ B) (h3 : Cond.selects C y y ∈ B) (h4 : Cond.initialized C ∈ B) (h5 : code ∈ B) : GoodIn (a :: B) (wsV own idx C y (code :: W)) := by
  intro w hw
  refine gdV (W := B) (a := a) (code := code) hg h1 h2 h3 h4 h5 w ?_
  unfold wsV at hw ⊢
  rcases List.mem_append.mp hw with hw | hw
  · exact List.mem_append_left _ hw
  · rcases List.mem_cons.mp hw with rfl | hw
    · exact List.mem_append_right _ List.mem_cons_self
    · exact List.mem_append_right _ (List.mem_cons_of_mem _ (hs w hw))
def orX {α : Type} (a b : Option α) : Option α := match a with
  | some r => some r
  | none => b
def xXC (G : xG) (r : Nat × xHp) : String → State → State → Prop := vx_X (fun u : xHp => u = r.2) (fun E u t => E = xexc r.1 ∧ va_P (xD G) vwCl (xwd G u) t.heap) (xA G)
abbrev yNi : Array Value → State → Outcome → State → Prop := va_Qi (S := Unit) (fun _ _ => False) (fun _ _ => True) (fun _ => False)
abbrev yNl : Array Value → State → Outcome → State → Prop := va_Ql (S := Unit) (fun _ _ => False) (fun _ _ => True) (fun _ => False)
abbrev yNv : Array Value → State → Outcome → State → Prop := va_Qv (S := Unit) (fun _ => False) (fun _ _ => True) (fun _ => False)
theorem x_hat {G : xG} {args : Array Value} {s : State} {Ts : List Cond} {L : List Cond} {E : String} (hts : ∀ w ∈ Ts, w.before args s = true) (hz : xZ G s) (hc : va_Nw (.castable E E) s) (h1 : ∀ w ∈ L.filter goodWord, w ∈ Ts) (h2 : ∀ w ∈ L.filter (fun w => !goodWord w), w ∈ [Cond.castable E E, .declares ⟨"java/lang/RuntimeException", "<init>", "(Ljava/lang/String;)V"⟩, .declares ⟨"java/lang/Exception", "<init>", "(Ljava/lang/String;)V"⟩, .declares ⟨"java/lang/Throwable", "<init>", "(Ljava/lang/String;)V"⟩]) : ∀ w ∈ L, w.before args s = true :=
  vx_hat (B := [Cond.castable E E, .declares ⟨"java/lang/RuntimeException", "<init>", "(Ljava/lang/String;)V"⟩, .declares ⟨"java/lang/Exception", "<init>", "(Ljava/lang/String;)V"⟩, .declares ⟨"java/lang/Throwable", "<init>", "(Ljava/lang/String;)V"⟩]) (fun w hw => hts w (h1 w hw)) h2 (vx_c (va_Nw.use rfl hc) (vx_c (va_Nw.use rfl hz.2.2.2.2.2.2.2.2.1) (vx_c (va_Nw.use rfl hz.2.2.2.2.2.2.2.2.2.1) (vx_c (va_Nw.use rfl hz.2.2.2.2.2.2.2.2.2.2) vx_n))))
section XY
variable {G : xG} {p : Program} {l : Launch} {e : Env} {R : Room} {s : State} {m : MethodId} {args : Array Value} {below : List Frame} {meth : Method} {c : Code} {nL : Nat} {cc : ByteArray} {own : String} {pc : Nat} {lv : List (Nat × Value)} {st st0 : List Value} {h : xHp} {Qc : Array Value → State → Outcome → State → Prop} {a0 : Cond}
variable {y : MethodName} {bytes : ByteArray} {maxL n idx : Nat} {ret : Option FieldType} {ws : List Cond} {rm : Room} {As : List Value}
theorem y_end {H : Heap} {locs : List Loc} {t : State} {cls : String} {k : Nat} (he : cls = xexc k) (hP : va_P (xD G) vwCl (xwd G h) H) (hS : va_S (xA G) s.heap H locs) (hz : H.size ≤ t.heap.size) (hk : ∀ q : Nat, q < H.size → t.heap[q]? = H[q]?) : xXC G (k, h) cls s t :=
  ⟨h, rfl, ⟨he, hP.kept (fun k q hq => hk q.1 (hP k q hq).lt)⟩, Nat.le_trans hS.1 hz, fun q h1 h2 => (hk q (Nat.lt_of_lt_of_le h1 hS.1)).trans (hS.2.1 q h1 h2)⟩
theorem y_throw_1 (C : xCz G p s m args meth c cc nL (a0 :: WT) RX8) (hlt : l.stackTraces = false) (hex : ∀ x ∈ c.exceptionTable.toList, False) {is sa : Nat} {text : String} (hstr : vk_R RX8 is text sa s) (d0 : decode cc pc = .ok (.new 130, 3)) (d3 : decode cc (pc + 3) = .ok (.dup, 1)) (d4 : decode cc (pc + 4) = .ok (.ldc is, 2)) (d6 : decode cc (pc + 6) = .ok (.invokespecial 134, 3)) (d9 : decode cc (pc + 9) = .ok (.athrow, 1)) (hf : 5 < R.frames) (hlo : (st.map fun v => v.category).sum + 82 ≤ R.locals) (hrc : 1 ≤ R.cells) (hrs : 6 ≤ R.slots) : xJ G p l e R s m args below meth c nL (fun res => vx_MQ below Qc (xXC G res) args s 1 6 (xA G)) pc lv st h (some (1, h)) := fun res er H locs ls hP hS h1 => by
  cases er
  have hz := C.2
  obtain ⟨⟨hx, hb, hml, hown, hts, hK, hG, hbs, hlk⟩, -⟩ := id C
  have ht : ∀ w ∈ WT, w.before args s = true := fun w h => hts w (List.mem_cons_of_mem _ h)
  exact vx_throwS (names := ["java/lang/RuntimeException", "java/lang/Exception"]) hx hb hlt hown (by decide +kernel) (by decide +kernel) (ht _ (List.mem_append_left _ (List.mem_of_getElem? (i := 0) rfl))) (ht _ (List.mem_append_left _ (List.mem_of_getElem? (i := 1) rfl))) hstr (x_hat (E := "java/lang/IndexOutOfBoundsException") ht hz hz.2.2.2.2.2.1 (fun w hw => List.mem_append_right _ (List.mem_append_left _ hw)) (by decide +kernel)) (by decide +kernel) hz.2.2.1 hz.2.2.2.1 hS (h1.1.trans hml.symm) d0 d3 d4 d6 d9 (fun x hx => (hex x hx).elim) hf hlo (by omega) (by omega) hlk (fun t ha hz1 hk => y_end rfl hP hS hz1 hk) hS.2.2 (by decide) (by decide)
theorem y_throwW_1 (C : xCz G p s m args meth c cc nL (a0 :: WT) RX8) (hlt : l.stackTraces = false) (hex : ∀ x ∈ c.exceptionTable.toList, False) {is sa : Nat} {text : String} (hstr : vk_R RX8 is text sa s) (d0 : decode cc pc = .ok (.new 130, 3)) (d3 : decode cc (pc + 3) = .ok (.dup, 1)) (d4 : decode cc (pc + 4) = .ok (.ldc_w is, 3)) (d6 : decode cc (pc + 7) = .ok (.invokespecial 134, 3)) (d9 : decode cc (pc + 10) = .ok (.athrow, 1)) (hf : 5 < R.frames) (hlo : (st.map fun v => v.category).sum + 82 ≤ R.locals) (hrc : 1 ≤ R.cells) (hrs : 6 ≤ R.slots) : xJ G p l e R s m args below meth c nL (fun res => vx_MQ below Qc (xXC G res) args s 1 6 (xA G)) pc lv st h (some (1, h)) := fun res er H locs ls hP hS h1 => by
  cases er
  have hz := C.2
  obtain ⟨⟨hx, hb, hml, hown, hts, hK, hG, hbs, hlk⟩, -⟩ := id C
  have ht : ∀ w ∈ WT, w.before args s = true := fun w h => hts w (List.mem_cons_of_mem _ h)
  exact vx_throwSW (names := ["java/lang/RuntimeException", "java/lang/Exception"]) hx hb hlt hown (by decide +kernel) (by decide +kernel) (ht _ (List.mem_append_left _ (List.mem_of_getElem? (i := 0) rfl))) (ht _ (List.mem_append_left _ (List.mem_of_getElem? (i := 1) rfl))) hstr (x_hat (E := "java/lang/IndexOutOfBoundsException") ht hz hz.2.2.2.2.2.1 (fun w hw => List.mem_append_right _ (List.mem_append_left _ hw)) (by decide +kernel)) (by decide +kernel) hz.2.2.1 hz.2.2.2.1 hS (h1.1.trans hml.symm) d0 d3 d4 d6 d9 (fun x hx => (hex x hx).elim) hf hlo (by omega) (by omega) hlk (fun t ha hz1 hk => y_end rfl hP hS hz1 hk) hS.2.2 (by decide) (by decide)
theorem y_throw_2 (C : xCz G p s m args meth c cc nL (a0 :: WT) RX8) (hlt : l.stackTraces = false) (hex : ∀ x ∈ c.exceptionTable.toList, False) {is sa : Nat} {text : String} (hstr : vk_R RX8 is text sa s) (d0 : decode cc pc = .ok (.new 86, 3)) (d3 : decode cc (pc + 3) = .ok (.dup, 1)) (d4 : decode cc (pc + 4) = .ok (.ldc is, 2)) (d6 : decode cc (pc + 6) = .ok (.invokespecial 90, 3)) (d9 : decode cc (pc + 9) = .ok (.athrow, 1)) (hf : 5 < R.frames) (hlo : (st.map fun v => v.category).sum + 82 ≤ R.locals) (hrc : 1 ≤ R.cells) (hrs : 6 ≤ R.slots) : xJ G p l e R s m args below meth c nL (fun res => vx_MQ below Qc (xXC G res) args s 1 6 (xA G)) pc lv st h (some (2, h)) := fun res er H locs ls hP hS h1 => by
  cases er
  have hz := C.2
  obtain ⟨⟨hx, hb, hml, hown, hts, hK, hG, hbs, hlk⟩, -⟩ := id C
  have ht : ∀ w ∈ WT, w.before args s = true := fun w h => hts w (List.mem_cons_of_mem _ h)
  exact vx_throwS (names := ["java/lang/RuntimeException", "java/lang/Exception"]) hx hb hlt hown (by decide +kernel) (by decide +kernel) (ht _ (List.mem_append_left _ (List.mem_of_getElem? (i := 2) rfl))) (ht _ (List.mem_append_left _ (List.mem_of_getElem? (i := 3) rfl))) hstr (x_hat (E := "java/lang/IllegalArgumentException") ht hz hz.2.2.2.2.2.2.1 (fun w hw => List.mem_append_right _ (List.mem_append_right _ (List.mem_append_left _ hw))) (by decide +kernel)) (by decide +kernel) hz.2.2.1 hz.2.2.2.1 hS (h1.1.trans hml.symm) d0 d3 d4 d6 d9 (fun x hx => (hex x hx).elim) hf hlo (by omega) (by omega) hlk (fun t ha hz1 hk => y_end rfl hP hS hz1 hk) hS.2.2 (by decide) (by decide)
theorem y_throwW_2 (C : xCz G p s m args meth c cc nL (a0 :: WT) RX8) (hlt : l.stackTraces = false) (hex : ∀ x ∈ c.exceptionTable.toList, False) {is sa : Nat} {text : String} (hstr : vk_R RX8 is text sa s) (d0 : decode cc pc = .ok (.new 86, 3)) (d3 : decode cc (pc + 3) = .ok (.dup, 1)) (d4 : decode cc (pc + 4) = .ok (.ldc_w is, 3)) (d6 : decode cc (pc + 7) = .ok (.invokespecial 90, 3)) (d9 : decode cc (pc + 10) = .ok (.athrow, 1)) (hf : 5 < R.frames) (hlo : (st.map fun v => v.category).sum + 82 ≤ R.locals) (hrc : 1 ≤ R.cells) (hrs : 6 ≤ R.slots) : xJ G p l e R s m args below meth c nL (fun res => vx_MQ below Qc (xXC G res) args s 1 6 (xA G)) pc lv st h (some (2, h)) := fun res er H locs ls hP hS h1 => by
  cases er
  have hz := C.2
  obtain ⟨⟨hx, hb, hml, hown, hts, hK, hG, hbs, hlk⟩, -⟩ := id C
  have ht : ∀ w ∈ WT, w.before args s = true := fun w h => hts w (List.mem_cons_of_mem _ h)
  exact vx_throwSW (names := ["java/lang/RuntimeException", "java/lang/Exception"]) hx hb hlt hown (by decide +kernel) (by decide +kernel) (ht _ (List.mem_append_left _ (List.mem_of_getElem? (i := 2) rfl))) (ht _ (List.mem_append_left _ (List.mem_of_getElem? (i := 3) rfl))) hstr (x_hat (E := "java/lang/IllegalArgumentException") ht hz hz.2.2.2.2.2.2.1 (fun w hw => List.mem_append_right _ (List.mem_append_right _ (List.mem_append_left _ hw))) (by decide +kernel)) (by decide +kernel) hz.2.2.1 hz.2.2.2.1 hS (h1.1.trans hml.symm) d0 d3 d4 d6 d9 (fun x hx => (hex x hx).elim) hf hlo (by omega) (by omega) hlk (fun t ha hz1 hk => y_end rfl hP hS hz1 hk) hS.2.2 (by decide) (by decide)
theorem y_throw_3 (C : xCz G p s m args meth c cc nL (a0 :: WT) RX8) (hlt : l.stackTraces = false) (hex : ∀ x ∈ c.exceptionTable.toList, False) {is sa : Nat} {text : String} (hstr : vk_R RX8 is text sa s) (d0 : decode cc pc = .ok (.new 97, 3)) (d3 : decode cc (pc + 3) = .ok (.dup, 1)) (d4 : decode cc (pc + 4) = .ok (.ldc is, 2)) (d6 : decode cc (pc + 6) = .ok (.invokespecial 101, 3)) (d9 : decode cc (pc + 9) = .ok (.athrow, 1)) (hf : 5 < R.frames) (hlo : (st.map fun v => v.category).sum + 82 ≤ R.locals) (hrc : 1 ≤ R.cells) (hrs : 6 ≤ R.slots) : xJ G p l e R s m args below meth c nL (fun res => vx_MQ below Qc (xXC G res) args s 1 6 (xA G)) pc lv st h (some (3, h)) := fun res er H locs ls hP hS h1 => by
  cases er
  have hz := C.2
  obtain ⟨⟨hx, hb, hml, hown, hts, hK, hG, hbs, hlk⟩, -⟩ := id C
  have ht : ∀ w ∈ WT, w.before args s = true := fun w h => hts w (List.mem_cons_of_mem _ h)
  exact vx_throwS (names := ["java/lang/RuntimeException", "java/lang/Exception"]) hx hb hlt hown (by decide +kernel) (by decide +kernel) (ht _ (List.mem_append_left _ (List.mem_of_getElem? (i := 4) rfl))) (ht _ (List.mem_append_left _ (List.mem_of_getElem? (i := 5) rfl))) hstr (x_hat (E := "java/lang/UnsupportedOperationException") ht hz hz.2.2.2.2.2.2.2.1 (fun w hw => List.mem_append_right _ (List.mem_append_right _ (List.mem_append_right _ (List.mem_append_left _ hw)))) (by decide +kernel)) (by decide +kernel) hz.2.2.1 hz.2.2.2.1 hS (h1.1.trans hml.symm) d0 d3 d4 d6 d9 (fun x hx => (hex x hx).elim) hf hlo (by omega) (by omega) hlk (fun t ha hz1 hk => y_end rfl hP hS hz1 hk) hS.2.2 (by decide) (by decide)
theorem y_throwW_3 (C : xCz G p s m args meth c cc nL (a0 :: WT) RX8) (hlt : l.stackTraces = false) (hex : ∀ x ∈ c.exceptionTable.toList, False) {is sa : Nat} {text : String} (hstr : vk_R RX8 is text sa s) (d0 : decode cc pc = .ok (.new 97, 3)) (d3 : decode cc (pc + 3) = .ok (.dup, 1)) (d4 : decode cc (pc + 4) = .ok (.ldc_w is, 3)) (d6 : decode cc (pc + 7) = .ok (.invokespecial 101, 3)) (d9 : decode cc (pc + 10) = .ok (.athrow, 1)) (hf : 5 < R.frames) (hlo : (st.map fun v => v.category).sum + 82 ≤ R.locals) (hrc : 1 ≤ R.cells) (hrs : 6 ≤ R.slots) : xJ G p l e R s m args below meth c nL (fun res => vx_MQ below Qc (xXC G res) args s 1 6 (xA G)) pc lv st h (some (3, h)) := fun res er H locs ls hP hS h1 => by
  cases er
  have hz := C.2
  obtain ⟨⟨hx, hb, hml, hown, hts, hK, hG, hbs, hlk⟩, -⟩ := id C
  have ht : ∀ w ∈ WT, w.before args s = true := fun w h => hts w (List.mem_cons_of_mem _ h)
  exact vx_throwSW (names := ["java/lang/RuntimeException", "java/lang/Exception"]) hx hb hlt hown (by decide +kernel) (by decide +kernel) (ht _ (List.mem_append_left _ (List.mem_of_getElem? (i := 4) rfl))) (ht _ (List.mem_append_left _ (List.mem_of_getElem? (i := 5) rfl))) hstr (x_hat (E := "java/lang/UnsupportedOperationException") ht hz hz.2.2.2.2.2.2.2.1 (fun w hw => List.mem_append_right _ (List.mem_append_right _ (List.mem_append_right _ (List.mem_append_left _ hw)))) (by decide +kernel)) (by decide +kernel) hz.2.2.1 hz.2.2.2.1 hS (h1.1.trans hml.symm) d0 d3 d4 d6 d9 (fun x hx => (hex x hx).elim) hf hlo (by omega) (by omega) hlk (fun t ha hz1 hk => y_end rfl hP hS hz1 hk) hS.2.2 (by decide) (by decide)
theorem y_callVv (C : xCz G p s m args meth c cc nL (a0 :: WT) own) (hex : ∀ x ∈ c.exceptionTable.toList, False) {i ci N : Nat} {Cn : String} {T : u_T} {fs : List Value} {fT o : Option (Nat × xHp)} (hd : decode cc pc = .ok (.invokevirtual idx, 3)) (hM : ∀ r, fT = some r → vx_Met l y ws rm (xPz G (.ref (xad G i) :: As) h) yNv (xXC G r) 1 6 (xA G)) (cw : CallW R s args own Cn idx y bytes maxL ret ws rm 1 6 n) (hc : xcell G i (h.1 i) (h.2.1 i) h.2.2 = .inr (ci, fs)) (hi : i < xNC) (hcl : vwCl[ci]? = some (Cn, T, N)) (hn : As.length = n) (hstk : st0 = As.reverse ++ .ref (xad G i) :: st) (hroom : (st.map fun v => v.category).sum ≤ 8) (hrc : 1 ≤ R.cells) (hrs : 6 ≤ R.slots) (kk : xJ G p l e R s m args below meth c nL (fun res => vx_MQ below Qc (xXC G res) args s 1 6 (xA G)) pc lv st0 h o) : xJ G p l e R s m args below meth c nL (fun res => vx_MQ below Qc (xXC G res) args s 1 6 (xA G)) pc lv st0 h (orX fT o) := by
  cases hfT : fT with
  | none => exact kk
  | some r =>
    intro res hr H locs ls hP hS h1
    have er : r = res := Option.some.inj hr
    subst er
    obtain ⟨⟨hx, hb, hml, hown, hts, hK, hG, hbs, hlk⟩, hz⟩ := C
    subst hstk
    refine vx_callv (A1 := fun _ => False) (AX := xA G) (vx_runV (As := As) (rest := st) ⟨hx, hb, hml, hown, hts⟩ (hM r hfT) cw ⟨xPz_blind, va_recv hK hP hcl ((xwd_get hi).trans (by rw [hc])), fun U hU hW => ⟨rfl, by rw [hU]; exact hP, va_K.moved hW.alike hK, hG, by rw [hU]; exact Nat.le_trans hbs hS.1, hz.go hW (by rw [hU]; exact hS.2.1)⟩⟩ rfl hn h1.1 rfl (lv_room hroom) hd ⟨by omega, by omega⟩) hS (fun q _ h => h.elim) (fun q h => h) (fun q _ h => h) (fun E ce q9 u t H1 locs1 ht hvm hp hB hz1 hk hS1 hce hcv hcl1 => ?_) (fun u t H1 locs1 _ _ hw _ _ _ _ => hw.elim)
    exact vx_out (fun x hx => (hex x hx).elim) hlk hce hcv hcl1 (fun t2 ht2 _ => ⟨u, hp, ⟨hB.1, by rw [ht2, ← ht]; exact hB.2⟩, hS1.F ht2⟩) hS1.2.2 (by decide) (by decide)
theorem y_met {as : List Value} {fo : Option (Nat × xHp)} {ws' : List Cond} {lv0 : List (Nat × Value)} (hy : plainName y.cls = true) (ho : y.cls = own) (hw : ws = Cond.code y cc maxL ret :: ws') (hlen : (lg_sl as).length ≤ maxL) (hlv : lv_args 0 as = lv0)
    (body : ∀ p e s m below meth c, xCz G p s m as.toArray meth c cc maxL ws own → (∀ x ∈ c.exceptionTable.toList, False) → xJ G p l e rm s m as.toArray below meth c maxL (fun res => vx_MQ below Qc (xXC G res) as.toArray s 1 6 (xA G)) 0 lv0 [] h fo) : ∀ r, fo = some r → vx_Met l y ws rm (xPz G as h) Qc (xXC G r) 1 6 (xA G) := by
  intro r hr
  refine vx_ofW (cc := cc) (maxL := maxL) (ret := ret) hy hw ?_
  intro p e s m args below meth c s₁ B hml hex hv
  obtain ⟨rfl, hP, hK, hG, hb, hz⟩ := hv
  have hts := atoms_spec (ws := ws) B.pre
  have hown : s.vm.findClass own = some m.cls := by rw [← ho]; exact findClass_of_methodNamed B.named
  have hl := lv_entry as (n := maxL) hlen
  rw [hlv] at hl
  rw [lg_entry_eq]
  exact body p e s m below meth c ⟨⟨B.exec, B.bytes, hml, hown, hts, hK, hG, hb, B.notSynchronized⟩, hz⟩ hex r hr s.heap [] _ hP va_S.rf hl
end XY
abbrev vX8_add : List Cond := .code yX8_add cX8_add 4 (some .int) :: WT
abbrev vX8_atom : List Cond := .code yX8_atom cX8_atom 3 (some .int) :: WT
abbrev vX8_bound : List Cond := .code yX8_bound cX8_bound 5 (some .long) :: WT
abbrev vX8_constraint : List Cond := .code yX8_constraint cX8_constraint 3 (some .int) :: WT
abbrev vX8_core : List Cond := .code yX8_core cX8_core 2 (some .int) :: WT
abbrev vX8_feed : List Cond := .code yX8_feed cX8_feed 5 (some .int) :: WT
abbrev vX8_must : List Cond := .code yX8_must cX8_must 3 (some .int) :: WT
abbrev vX8_pop : List Cond := .code yX8_pop cX8_pop 2 (some .int) :: WT
abbrev vX8_push : List Cond := .code yX8_push cX8_push 1 (some .int) :: WT
abbrev vX8_requireAtom : List Cond := .code yX8_requireAtom cX8_requireAtom 2 none :: WT
abbrev vX8_requireVariable : List Cond := .code yX8_requireVariable cX8_requireVariable 2 none :: WT
abbrev vX8_told : List Cond := .code yX8_told cX8_told 2 (some .int) :: WT
abbrev vX8_value : List Cond := .code yX8_value cX8_value 2 (some .long) :: WT
abbrev vX8_valueIn : List Cond := .code yX8_valueIn cX8_valueIn 6 (some .long) :: WT
abbrev vX8_why : List Cond := .code yX8_why cX8_why 6 (some .int) :: WT
abbrev vX8_written : List Cond := .code yX8_written cX8_written 2 (some .int) :: WT
