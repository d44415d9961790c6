/-! READ: rows, marks and atoms in cells, of either side -/
theorem inL_c {c k : Nat} : inL [(c, 0, 0)] c k = true := inL_iff.mpr ⟨(c, 0, 0), List.mem_singleton.mpr rfl, rfl, Nat.zero_le k, Or.inl rfl⟩
def StkG (c : Nat) (f : Nat → Nat) : List Nat → xHp → Prop
  | [], _ => True
  | w :: W, h => gI h c W.length = nI (f w) ∧ StkG c f W h
theorem StkG.ag {c : Nat} {f : Nat → Nat} {h h' : xHp} (a : Ag [(c, 0, 0)] h h') : ∀ {W : List Nat}, StkG c f W h → StkG c f W h' := by
  intro W
  induction W with
  | nil => intro _; trivial
  | cons w W ih => intro s; exact ⟨(a c W.length inL_c).trans s.1, ih s.2⟩
theorem StkG.up {c j : Nat} {f : Nat → Nat} {h : xHp} {v : Int32} : ∀ {W : List Nat}, W.length ≤ j → StkG c f W h → StkG c f W (sI h c j v) := by
  intro W
  induction W with
  | nil => intro _ _; trivial
  | cons w W ih =>
    intro hj s
    have hj' : W.length + 1 ≤ j := hj
    exact ⟨by rw [gI_sI, if_pos rfl, if_neg (by omega)]; exact s.1, ih (by omega) s.2⟩
theorem StkG.push {c w : Nat} {f : Nat → Nat} {h : xHp} {W : List Nat} (s : StkG c f W h) : StkG c f (w :: W) (sI h c W.length (nI (f w))) := ⟨by rw [gI_sI, if_pos rfl, if_pos rfl], s.up (Nat.le_refl _)⟩
def SeqG (c : Nat) (f : Nat → Nat) (cs : List Nat) (h : xHp) : Prop := ∀ i, i < cs.length → gI h c i = nI (f (cs.getD i 0))
theorem SeqG.ag {c : Nat} {f : Nat → Nat} {cs : List Nat} {h h' : xHp} (a : Ag [(c, 0, 0)] h h') (s : SeqG c f cs h) : SeqG c f cs h' := fun i hi => (a c i inL_c).trans (s i hi)
theorem SeqG.snoc {c d : Nat} {f : Nat → Nat} {cs : List Nat} {h : xHp} (s : SeqG c f cs h) : SeqG c f (cs ++ [d]) (sI h c cs.length (nI (f d))) := by
  intro i hi
  rw [List.length_append] at hi
  have hi' : i < cs.length + 1 := hi
  rw [gI_sI, if_pos rfl]
  by_cases q : i = cs.length
  · rw [if_pos q, q, getD_app_r (Nat.le_refl _), Nat.sub_self]; rfl
  · rw [if_neg q, getD_app_l (by omega)]; exact s i (by omega)
def AtmG (a b c : Nat) (an : Nat) (A : Ed) (h : xHp) : Prop := ∀ k, k < an → gI h a k = nI (A k).1 ∧ gI h b k = nI (A k).2.1 ∧ (gI h c k).toInt = (A k).2.2
theorem AtmG.ag {a b c an : Nat} {A : Ed} {h h' : xHp} (g : Ag [(a, 0, 0), (b, 0, 0), (c, 0, 0)] h h') (s : AtmG a b c an A h) : AtmG a b c an A h' := by
  intro k hk
  rw [g a k (inL_iff.mpr ⟨(a, 0, 0), by simp, rfl, Nat.zero_le k, Or.inl rfl⟩), g b k (inL_iff.mpr ⟨(b, 0, 0), by simp, rfl, Nat.zero_le k, Or.inl rfl⟩), g c k (inL_iff.mpr ⟨(c, 0, 0), by simp, rfl, Nat.zero_le k, Or.inl rfl⟩)]
  exact s k hk
/-! the class -/
def mk (w : Nat) : Nat := if w = 1 then 40 else if w = 2 then 126 else if w = 3 then 38 else if w = 4 then 124 else 258
theorem mk_lt (w : Nat) : mk w < 259 := by
  unfold mk
  by_cases h1 : w = 1
  · rw [if_pos h1]; decide
  · rw [if_neg h1]
    by_cases h2 : w = 2
    · rw [if_pos h2]; decide
    · rw [if_neg h2]
      by_cases h3 : w = 3
      · rw [if_pos h3]; decide
      · rw [if_neg h3]
        by_cases h4 : w = 4
        · rw [if_pos h4]; decide
        · rw [if_neg h4]; decide
theorem mk_inj {w v : Nat} (hw : 1 ≤ w ∧ w ≤ 5) (hv : 1 ≤ v ∧ v ≤ 5) : (nI (mk w) = nI (mk v)) ↔ w = v := by
  have := mk_lt w
  have := mk_lt v
  rw [nI_eq (by omega) (by omega)]
  constructor
  · intro h
    have c1 : w = 1 ∨ w = 2 ∨ w = 3 ∨ w = 4 ∨ w = 5 := by omega
    have c2 : v = 1 ∨ v = 2 ∨ v = 3 ∨ v = 4 ∨ v = 5 := by omega
    rcases c1 with rfl | rfl | rfl | rfl | rfl <;> rcases c2 with rfl | rfl | rfl | rfl | rfl <;> first | rfl | exact absurd h (by decide)
  · intro h; rw [h]
def CD (C : Cp) (h : xHp) : Prop := gI h 37 3 = nI C.2.1 ∧ AtmG 38 39 40 C.2.1 C.2.2 h ∧ gI h 37 6 = nI C.1.length ∧ SeqG 42 id C.1 h
def DCD : Lc := [(37,3,4),(37,6,7),(38,0,0),(39,0,0),(40,0,0),(42,0,0)]
theorem Ag.sub {D M : Lc} {h h' : xHp} (a : Ag D h h') (s : sbL M D = true) : Ag M h h' := fun c k q => a c k (sbL_ok s q)
theorem CD.ag {C : Cp} {h h' : xHp} (a : Ag DCD h h') (r : CD C h) : CD C h' := ⟨(a 37 3 rfl).trans r.1, r.2.1.ag (a.sub rfl), (a 37 6 rfl).trans r.2.2.1, r.2.2.2.ag (a.sub rfl)⟩
def CM (W : List Nat) (h : xHp) : Prop := gI h 44 3 = nI W.length ∧ StkG 45 mk W h ∧ gI h 44 4 = nI (opW W) ∧ gI h 44 5 = nI (brW W)
def DCM : Lc := [(44,3,6),(45,0,0)]
theorem CM.ag {W : List Nat} {h h' : xHp} (a : Ag DCM h h') (r : CM W h) : CM W h' := ⟨(a 44 3 rfl).trans r.1, r.2.1.ag (a.sub rfl), (a 44 4 rfl).trans r.2.2.1, (a 44 5 rfl).trans r.2.2.2⟩
theorem c_emit (N : Nat) {c an : Nat} {cs : List Nat} {A : Ed} {h : xHp} (hl : cs.length < 240) (d : CD (cs, an, A) h) : ∃ h', F_X1_emit_37 N (nI c) h = some ((), h') ∧ FL [(37,6,7),(42,0,0)] h h' ∧ CD (cs ++ [c], an, A) h' := by
  obtain ⟨d1, d2, d3, d4⟩ := d
  dsimp only at d1 d2 d3 d4
  unfold F_X1_emit_37
  have f1 : FL [(42,0,0)] h (sI h 42 cs.length (nI c)) := FL.i h rfl
  rw [d3, if_neg (by rw [show (240 : Int32) = nI 240 from rfl]; exact nI_ge hl (by decide)), grd_t (xin_nI hl (by decide)), nI_cl (by omega), bnd_eq, (f1.1 37 6 rfl).1, d3, nI_1, bnd_eq]
  have f2 : FL [(37,6,7)] (sI h 42 cs.length (nI c)) (sI (sI h 42 cs.length (nI c)) 37 6 (nI (cs.length + 1))) := FL.i _ rfl
  have f12 : FL [(37,6,7),(42,0,0)] h (sI (sI h 42 cs.length (nI c)) 37 6 (nI (cs.length + 1))) := FL.cat f1 f2 rfl rfl
  exact ⟨_, rfl, f12, (f12.1 37 3 rfl).1.trans d1, d2.ag (f12.ag rfl), by rw [gI_sI, if_pos rfl, if_pos rfl, List.length_append]; rfl, SeqG.ag (f2.ag rfl) (d4.snoc (d := c))⟩
theorem c_drop (N : Nat) {w0 : Nat} {W : List Nat} {h : xHp} (hw : wfW W) (hl : W.length ≤ 64) (h0 : 1 ≤ w0 ∧ w0 ≤ 5) (h3 : gI h 44 3 = nI W.length) (st : StkG 45 mk W h) : F_X3_dropMark N (nI (mk w0)) h = if tp W = w0 then some (1, sI h 44 3 (nI (W.length - 1))) else some (0, h) := by
  unfold F_X3_dropMark F_X3_dropMark_22
  rw [h3]
  cases W with
  | nil =>
    rw [if_pos (by decide), if_neg (show ¬ tp ([] : List Nat) = w0 by show ¬ (0 : Nat) = w0; omega)]
  | cons w W =>
    have hl' : W.length + 1 ≤ 64 := hl
    have e1 : nI (w :: W).length - 1 = nI W.length := by rw [show (1 : Int32) = nI 1 from rfl, pk_sub (by show 1 ≤ W.length + 1; omega)]; rfl
    rw [if_neg (nI_nle (by show 0 < W.length + 1; omega) (by show W.length + 1 < _; omega)), e1, grd_t (xin_nI (show W.length < 64 by omega) (by decide)), nI_cl (by omega), st.1, bnd_eq]
    simp only [mk_inj (wfW_w hw) h0]
    rfl
def pop1 (w0 : Nat) (W cs : List Nat) : List Nat × List Nat := if tp W = w0 then (W.tail, cs ++ [w0 + 10]) else (W, cs)
def popE (w0 : Nat) : List Nat → List Nat → List Nat × List Nat
  | [], cs => ([], cs)
  | w :: W, cs => if w = w0 then popE w0 W (cs ++ [w0 + 10]) else (w :: W, cs)
theorem popE_wf {w0 : Nat} : ∀ (W cs : List Nat), wfW W → wfW (popE w0 W cs).1 ∧ tp (popE w0 W cs).1 = tp (popE w0 W cs).1 ∧ (popE w0 W cs).1.length + (popE w0 W cs).2.length = W.length + cs.length ∧ (popE w0 W cs).1.length ≤ W.length := by
  intro W
  induction W with
  | nil => intro cs h; exact ⟨h, rfl, rfl, Nat.le_refl _⟩
  | cons w W ih =>
    intro cs h
    unfold popE
    by_cases q : w = w0
    · rw [if_pos q]
      obtain ⟨a1, a2, a3, a4⟩ := ih (cs ++ [w0 + 10]) h.2
      refine ⟨a1, a2, ?_, ?_⟩
      · rw [a3, List.length_append]; show W.length + (cs.length + 1) = W.length + 1 + cs.length; omega
      · show _ ≤ W.length + 1; omega
    · rw [if_neg q]; exact ⟨h, rfl, rfl, Nat.le_refl _⟩
theorem popTo_stop {m : Nat} {W cs : List Nat} (h : tp W ≤ 1 ∨ m < tp W) : popTo m W cs = (W, cs) := by
  cases W with
  | nil => rfl
  | cons w W =>
    have h' : w ≤ 1 ∨ m < w := h
    unfold popTo
    rw [if_neg (by omega)]
theorem popTo3 : ∀ {W cs : List Nat}, wfW W → popTo 3 W cs = pop1 3 (popE 2 W cs).1 (popE 2 W cs).2 := by
  intro W
  induction W with
  | nil => intro cs _; rfl
  | cons w W ih =>
    intro cs h
    have hw := wfW_w h
    unfold popTo popE
    by_cases q2 : w = 2
    · subst q2
      rw [if_pos (by decide), if_pos rfl]
      exact ih h.2
    · rw [if_neg q2]
      unfold pop1
      show _ = if w = 3 then (W, cs ++ [3 + 10]) else (w :: W, cs)
      by_cases q3 : w = 3
      · subst q3
        have hh : tp W ≠ 2 ∧ tp W ≠ 3 := by obtain ⟨a, _⟩ := h; omega
        have ht : tp W ≤ 1 ∨ 3 < tp W := by omega
        rw [if_pos (by decide), if_pos rfl, popTo_stop ht]
      · rw [if_neg (by omega), if_neg q3]
theorem popTo4 {W cs : List Nat} (h : wfW W) (h2 : tp W ≠ 2) (h3 : tp W ≠ 3) : popTo 4 W cs = pop1 4 W cs := by
  cases W with
  | nil => rfl
  | cons w W =>
    have h2' : w ≠ 2 := h2
    have h3' : w ≠ 3 := h3
    have hw := wfW_w h
    unfold popTo pop1
    show _ = if w = 4 then (W, cs ++ [4 + 10]) else (w :: W, cs)
    by_cases q4 : w = 4
    · subst q4
      have hh : tp W = 0 ∨ tp W = 1 ∨ tp W = 5 := by obtain ⟨a, _⟩ := h; omega
      rw [if_pos (by decide), if_pos rfl, popTo_stop (by omega)]
    · rw [if_neg (by omega), if_neg q4]
theorem popTo5' : ∀ {W cs : List Nat}, wfW W → (tp W ≤ 1 ∨ tp W = 5) → popTo 5 W cs = popE 5 W cs := by
  intro W
  induction W with
  | nil => intro cs _ _; rfl
  | cons w W ih =>
    intro cs h ht
    have ht' : w ≤ 1 ∨ w = 5 := ht
    unfold popTo popE
    by_cases q5 : w = 5
    · subst q5
      rw [if_pos (by decide), if_pos rfl]
      have hh : tp W = 0 ∨ tp W = 1 ∨ tp W = 5 := by obtain ⟨a, _⟩ := h; omega
      exact ih h.2 (by omega)
    · rw [if_neg (by omega), if_neg q5]
theorem popTo5 {W cs : List Nat} (h : wfW W) (h2 : tp W ≠ 2) (h3 : tp W ≠ 3) : popTo 5 W cs = popE 5 (pop1 4 W cs).1 (pop1 4 W cs).2 := by
  unfold pop1
  by_cases q4 : tp W = 4
  · rw [if_pos q4]
    cases W with
    | nil => exact absurd q4 (show ¬ (0 : Nat) = 4 by decide)
    | cons w W =>
      have q4' : w = 4 := q4
      subst q4'
      have hh : tp W = 0 ∨ tp W = 1 ∨ tp W = 5 := by obtain ⟨a, _⟩ := h; omega
      show popTo 5 (4 :: W) cs = popE 5 W (cs ++ [4 + 10])
      rw [← popTo5' h.2 (by omega)]
      show (if 1 < 4 ∧ 4 ≤ 5 then popTo 5 W (cs ++ [4 + 10]) else (4 :: W, cs)) = _
      rw [if_pos (by decide)]
  · rw [if_neg q4]
    have : tp W ≤ 5 := by
      cases W with
      | nil => exact Nat.zero_le 5
      | cons w W => exact (wfW_w h).2
    exact popTo5' h (by omega)
def LMk : Lc := [(44,3,5),(37,6,7),(42,0,0)]
/-- one mark done: its code goes out -/
theorem c_pop (N : Nat) {w0 an : Nat} {W cs : List Nat} {A : Ed} {h : xHp} (h0 : 2 ≤ w0 ∧ w0 ≤ 5) (hl : (w0 :: W).length ≤ 64) (hc : cs.length < 240) (m : CM (w0 :: W) h) (d : CD (cs, an, A) h) : ∃ h', F_X1_emit_37 N (nI (w0 + 10)) (if w0 = 3 ∨ w0 = 4 then sI h 44 3 (nI W.length) else sI (sI h 44 3 (nI W.length)) 44 4 (nI (opW W))) = some ((), h') ∧ FL LMk h h' ∧ CM W h' ∧ CD (cs ++ [w0 + 10], an, A) h' := by
  have f1 : FL [(44,3,5)] h (if w0 = 3 ∨ w0 = 4 then sI h 44 3 (nI W.length) else sI (sI h 44 3 (nI W.length)) 44 4 (nI (opW W))) := by
    by_cases q : w0 = 3 ∨ w0 = 4
    · rw [if_pos q]; exact FL.i h rfl
    · rw [if_neg q]; exact (FL.i h rfl).trans (FL.i _ rfl)
  have a1 : gI (if w0 = 3 ∨ w0 = 4 then sI h 44 3 (nI W.length) else sI (sI h 44 3 (nI W.length)) 44 4 (nI (opW W))) 44 3 = nI W.length := by
    by_cases q : w0 = 3 ∨ w0 = 4
    · rw [if_pos q]; simp +decide only [gI_sI, if_false, if_true]
    · rw [if_neg q]; simp +decide only [gI_sI, if_false, if_true]
  have a2 : gI (if w0 = 3 ∨ w0 = 4 then sI h 44 3 (nI W.length) else sI (sI h 44 3 (nI W.length)) 44 4 (nI (opW W))) 44 4 = nI (opW W) := by
    by_cases q : w0 = 3 ∨ w0 = 4
    · rw [if_pos q]; simp +decide only [gI_sI, if_false, if_true]
      rw [m.2.2.1]; show nI (opW W + (if w0 = 3 ∨ w0 = 4 then 0 else 1)) = _; rw [if_pos q]; rfl
    · rw [if_neg q]; simp +decide only [gI_sI, if_false, if_true]
  have br : brW (w0 :: W) = brW W := by show brW W + (if w0 = 1 then 1 else 0) = _; rw [if_neg (by omega)]; rfl
  generalize (if w0 = 3 ∨ w0 = 4 then sI h 44 3 (nI W.length) else sI (sI h 44 3 (nI W.length)) 44 4 (nI (opW W))) = h1 at f1 a1 a2 ⊢
  obtain ⟨h2, e2, f2, d2⟩ := c_emit N (c := w0 + 10) hc (d.ag (f1.ag rfl))
  have f12 : FL LMk h h2 := FL.cat f1 f2 rfl rfl
  exact ⟨h2, e2, f12, ⟨(f2.1 44 3 rfl).1.trans a1, m.2.1.2.ag (f12.ag rfl), (f2.1 44 4 rfl).1.trans a2, ((f12.1 44 5 rfl).1.trans m.2.2.2).trans (by rw [br])⟩, d2⟩
theorem c_pop1 (N : Nat) {w0 an : Nat} {W cs : List Nat} {A : Ed} {h : xHp} (hw : wfW W) (h0 : w0 = 3 ∨ w0 = 4) (hl : W.length ≤ 64) (hc : cs.length < 240) (m : CM W h) (d : CD (cs, an, A) h) : ∃ h', (bnd2 (F_X3_dropMark N (nI (mk w0)) h) fun r1 h2 => if r1 = 0 then some ((), h2) else bnd2 (F_X1_emit_37 N (nI (w0 + 10)) h2) fun r3 h4 => some ((), h4)) = some ((), h') ∧ FL LMk h h' ∧ CM (pop1 w0 W cs).1 h' ∧ CD ((pop1 w0 W cs).2, an, A) h' := by
  rw [c_drop N hw hl (by omega) m.1 m.2.1]
  unfold pop1
  by_cases q : tp W = w0
  · rw [if_pos q, if_pos q, bnd2_p, if_neg (by decide)]
    cases W with
    | nil => exact absurd q (show ¬ (0 : Nat) = w0 by omega)
    | cons w W =>
      have q' : w = w0 := q
      subst q'
      obtain ⟨h', e', f', m', d'⟩ := c_pop N (by omega) hl hc m d
      rw [if_pos h0] at e'
      rw [show (w :: W).length - 1 = W.length from rfl, e', bnd2_p]
      exact ⟨h', rfl, f', m', d'⟩
  · rw [if_neg q, if_neg q, bnd2_p, if_pos rfl]
    exact ⟨h, rfl, Fr.rf, m, d⟩
theorem c_either (N : Nat) {an : Nat} {W cs : List Nat} {A : Ed} {h : xHp} (hw : wfW W) (hl : W.length ≤ 64) (hc : cs.length < 240) (m : CM W h) (d : CD (cs, an, A) h) : ∃ h', F_X3_endEither N h = some ((), h') ∧ FL LMk h h' ∧ CM (pop1 4 W cs).1 h' ∧ CD ((pop1 4 W cs).2, an, A) h' := by
  unfold F_X3_endEither
  exact c_pop1 N hw (Or.inr rfl) hl hc m d
theorem c_nots (N : Nat) {an : Nat} {A : Ed} : ∀ (W cs : List Nat) (z i : Nat) (h : xHp), wfW W → W.length < z → i + W.length ≤ 63 → cs.length + W.length ≤ 239 → CM W h → CD (cs, an, A) h → ∃ h', xit (F_X3_endUnit_2_b N) (fun _ _ => none) z (nI i) h = F_X3_endUnit_42 N h' ∧ FL LMk h h' ∧ CM (popE 2 W cs).1 h' ∧ CD ((popE 2 W cs).2, an, A) h' := by
  intro W
  induction W with
  | nil =>
    intro cs z i h hw h1 h2 h3 m d
    obtain ⟨z, rfl⟩ : ∃ z', z = z' + 1 := ⟨z - 1, by omega⟩
    show ∃ h', F_X3_endUnit_2_b N (xit (F_X3_endUnit_2_b N) (fun _ _ => none) z) (nI i) h = _ ∧ _
    unfold F_X3_endUnit_2_b
    rw [show (64 : Int32) = nI 64 from rfl, if_neg (nI_ge (by have : ([] : List Nat).length = 0 := rfl; omega) (by decide)), show (126 : Int32) = nI (mk 2) from rfl, c_drop N hw (by decide) (by decide) m.1 m.2.1, if_neg (show ¬ tp ([] : List Nat) = 2 by decide), bnd2_p, if_pos rfl]
    exact ⟨h, rfl, Fr.rf, m, d⟩
  | cons w W ih =>
    intro cs z i h hw h1 h2 h3 m d
    obtain ⟨z, rfl⟩ : ∃ z', z = z' + 1 := ⟨z - 1, by omega⟩
    have l1 : W.length + 1 < z + 1 := h1
    have l2 : i + (W.length + 1) ≤ 63 := h2
    have l3 : cs.length + (W.length + 1) ≤ 239 := h3
    show ∃ h', F_X3_endUnit_2_b N (xit (F_X3_endUnit_2_b N) (fun _ _ => none) z) (nI i) h = _ ∧ _
    unfold popE
    by_cases q : w = 2
    · subst q
      obtain ⟨h', e', f', m', d'⟩ := c_pop N (by decide) (show W.length + 1 ≤ 64 by omega) (by omega) m d
      rw [if_neg (by decide)] at e'
      have op : gI (sI h 44 3 (nI W.length)) 44 4 - 1 = nI (opW W) := by
        rw [show gI (sI h 44 3 (nI W.length)) 44 4 = nI (opW (2 :: W)) by simp +decide only [gI_sI, if_false, if_true]; exact m.2.2.1]
        show nI (opW W + 1) - nI 1 = _
        rw [pk_sub (by omega)]; rfl
      obtain ⟨h2', e2, f2, m2, d2⟩ := ih (cs ++ [2 + 10]) z (i + 1) h' hw.2 (by omega) (by omega) (by rw [List.length_append]; show cs.length + 1 + _ ≤ _; omega) m' d'
      rw [if_pos rfl]
      refine ⟨h2', ?_, f'.trans f2, m2, d2⟩
      rw [← e2]
      generalize xit (F_X3_endUnit_2_b N) (fun _ _ => none) z = K
      unfold F_X3_endUnit_2_b
      rw [show (64 : Int32) = nI 64 from rfl, if_neg (nI_ge (show i < 64 by omega) (by decide)), show (126 : Int32) = nI (mk 2) from rfl, c_drop N hw (show W.length + 1 ≤ 64 by omega) (by decide) m.1 m.2.1, if_pos (show tp (2 :: W) = 2 from rfl), bnd2_p, if_neg (by decide), show (2 :: W).length - 1 = W.length from rfl, op, bnd_eq, show (12 : Int32) = nI (2 + 10) from rfl, e', bnd2_p, nI_1]
    · rw [if_neg q]
      refine ⟨h, ?_, Fr.rf, m, d⟩
      generalize xit (F_X3_endUnit_2_b N) (fun _ _ => none) z = K
      unfold F_X3_endUnit_2_b
      rw [show (64 : Int32) = nI 64 from rfl, if_neg (nI_ge (show i < 64 by omega) (by decide)), show (126 : Int32) = nI (mk 2) from rfl, c_drop N hw (show W.length + 1 ≤ 64 by omega) (by decide) m.1 m.2.1, if_neg (show ¬ tp (w :: W) = 2 from q), bnd2_p, if_pos rfl]
def LEn : Lc := [(44,3,7),(37,6,7),(42,0,0)]
theorem c_endUnit (N : Nat) (hN : 300 ≤ N) {an : Nat} {W cs : List Nat} {A : Ed} {h : xHp} (hw : wfW W) (hl : W.length ≤ 63) (hc : cs.length + W.length ≤ 239) (m : CM W h) (d : CD (cs, an, A) h) : ∃ h', F_X3_endUnit N h = some ((), h') ∧ FL LEn h h' ∧ CM (popTo 3 W cs).1 h' ∧ CD ((popTo 3 W cs).2, an, A) h' ∧ gI h' 44 6 = 6 := by
  obtain ⟨h1, e1, f1, m1, d1⟩ := c_nots N W cs N 0 h hw (by omega) (by omega) hc m d
  obtain ⟨a1, _, a3, a4⟩ := popE_wf (w0 := 2) W cs hw
  unfold F_X3_endUnit F_X3_endUnit_2
  rw [show (0 : Int32) = nI 0 from rfl, e1, popTo3 hw]
  generalize (popE 2 W cs).1 = V at m1 a1 a3 a4 ⊢
  generalize (popE 2 W cs).2 = ds at d1 a3 ⊢
  obtain ⟨h2, e2, f2, m2, d2⟩ := c_pop1 N (w0 := 3) a1 (Or.inl rfl) (by omega) (by omega) m1 d1
  have e3 : F_X3_endUnit_42 N h1 = some ((), sI h2 44 6 6) := by
    unfold F_X3_endUnit_42 F_X3_endUnit_60
    rw [show (38 : Int32) = nI (mk 3) from rfl, show (13 : Int32) = nI (3 + 10) from rfl]
    rw [c_drop N a1 (by omega) (by decide) m1.1 m1.2.1] at e2 ⊢
    by_cases q : tp V = 3
    · rw [if_pos q, bnd2_p, if_neg (by decide)] at e2 ⊢
      revert e2
      generalize F_X1_emit_37 N (nI (3 + 10)) (sI h1 44 3 (nI (V.length - 1))) = o
      intro e2
      match o, e2 with
      | some (_, h4), e2 =>
        rw [bnd2_p] at e2 ⊢
        have := (Prod.mk.inj (Option.some.inj e2)).2
        rw [this]; rfl
    · rw [if_neg q, bnd2_p, if_pos rfl] at e2 ⊢
      have := (Prod.mk.inj (Option.some.inj e2)).2
      rw [this]; rfl
  rw [e3]
  have f3 : FL [(44,6,7)] h2 (sI h2 44 6 6) := FL.i h2 rfl
  exact ⟨_, rfl, FL.cat (f1.trans f2) f3 rfl rfl, m2.ag (f3.ag rfl), d2.ag (f3.ag rfl), by rw [gI_sI, if_pos rfl, if_pos rfl]⟩
theorem c_arrows (N : Nat) {an : Nat} {A : Ed} : ∀ (W cs : List Nat) (z i : Nat) (h : xHp), wfW W → W.length < z → i + W.length ≤ 63 → cs.length + W.length ≤ 239 → CM W h → CD (cs, an, A) h → ∃ h', xit (F_X3_endFormula_6_b N) (fun _ _ => none) z (nI i) h = some ((), h') ∧ FL LMk h h' ∧ CM (popE 5 W cs).1 h' ∧ CD ((popE 5 W cs).2, an, A) h' := by
  intro W
  induction W with
  | nil =>
    intro cs z i h hw h1 h2 h3 m d
    obtain ⟨z, rfl⟩ : ∃ z', z = z' + 1 := ⟨z - 1, by omega⟩
    show ∃ h', F_X3_endFormula_6_b N (xit (F_X3_endFormula_6_b N) (fun _ _ => none) z) (nI i) h = _ ∧ _
    unfold F_X3_endFormula_6_b
    rw [show (64 : Int32) = nI 64 from rfl, if_neg (nI_ge (by have : ([] : List Nat).length = 0 := rfl; omega) (by decide)), show (258 : Int32) = nI (mk 5) from rfl, c_drop N hw (by decide) (by decide) m.1 m.2.1, if_neg (show ¬ tp ([] : List Nat) = 5 by decide), bnd2_p, if_pos rfl]
    exact ⟨h, rfl, Fr.rf, m, d⟩
  | cons w W ih =>
    intro cs z i h hw h1 h2 h3 m d
    obtain ⟨z, rfl⟩ : ∃ z', z = z' + 1 := ⟨z - 1, by omega⟩
    have l1 : W.length + 1 < z + 1 := h1
    have l2 : i + (W.length + 1) ≤ 63 := h2
    have l3 : cs.length + (W.length + 1) ≤ 239 := h3
    show ∃ h', F_X3_endFormula_6_b N (xit (F_X3_endFormula_6_b N) (fun _ _ => none) z) (nI i) h = _ ∧ _
    unfold popE
    by_cases q : w = 5
    · subst q
      obtain ⟨h', e', f', m', d'⟩ := c_pop N (by decide) (show W.length + 1 ≤ 64 by omega) (by omega) m d
      rw [if_neg (by decide)] at e'
      have op : gI (sI h 44 3 (nI W.length)) 44 4 - 1 = nI (opW W) := by
        rw [show gI (sI h 44 3 (nI W.length)) 44 4 = nI (opW (5 :: W)) by simp +decide only [gI_sI, if_false, if_true]; exact m.2.2.1]
        show nI (opW W + 1) - nI 1 = _
        rw [pk_sub (by omega)]; rfl
      obtain ⟨h2', e2, f2, m2, d2⟩ := ih (cs ++ [5 + 10]) z (i + 1) h' hw.2 (by omega) (by omega) (by rw [List.length_append]; show cs.length + 1 + _ ≤ _; omega) m' d'
      rw [if_pos rfl]
      refine ⟨h2', ?_, f'.trans f2, m2, d2⟩
      rw [← e2]
      generalize xit (F_X3_endFormula_6_b N) (fun _ _ => none) z = K
      unfold F_X3_endFormula_6_b
      rw [show (64 : Int32) = nI 64 from rfl, if_neg (nI_ge (show i < 64 by omega) (by decide)), show (258 : Int32) = nI (mk 5) from rfl, c_drop N hw (show W.length + 1 ≤ 64 by omega) (by decide) m.1 m.2.1, if_pos (show tp (5 :: W) = 5 from rfl), bnd2_p, if_neg (by decide), show (5 :: W).length - 1 = W.length from rfl, op, bnd_eq, show (15 : Int32) = nI (5 + 10) from rfl, e', bnd2_p, nI_1]
    · rw [if_neg q]
      refine ⟨h, ?_, Fr.rf, m, d⟩
      generalize xit (F_X3_endFormula_6_b N) (fun _ _ => none) z = K
      unfold F_X3_endFormula_6_b
      rw [show (64 : Int32) = nI 64 from rfl, if_neg (nI_ge (show i < 64 by omega) (by decide)), show (258 : Int32) = nI (mk 5) from rfl, c_drop N hw (show W.length + 1 ≤ 64 by omega) (by decide) m.1 m.2.1, if_neg (show ¬ tp (w :: W) = 5 from q), bnd2_p, if_pos rfl]
theorem pop1_len {w0 : Nat} {W cs : List Nat} (h0 : 0 < w0) : (pop1 w0 W cs).1.length + (pop1 w0 W cs).2.length = W.length + cs.length ∧ (pop1 w0 W cs).1.length ≤ W.length := by
  unfold pop1
  by_cases q : tp W = w0
  · rw [if_pos q]
    cases W with
    | nil => exact absurd q (show ¬ (0 : Nat) = w0 by omega)
    | cons w W => exact ⟨by rw [List.length_append]; show W.length + (cs.length + 1) = W.length + 1 + cs.length; omega, Nat.le_succ _⟩
  · rw [if_neg q]; exact ⟨rfl, Nat.le_refl _⟩
theorem pop1_wf {w0 : Nat} {W cs : List Nat} (h : wfW W) : wfW (pop1 w0 W cs).1 := by
  unfold pop1
  by_cases q : tp W = w0
  · rw [if_pos q]
    cases W with
    | nil => exact h
    | cons w W => exact h.2
  · rw [if_neg q]; exact h
theorem c_endFormula (N : Nat) (hN : 300 ≤ N) {an : Nat} {W cs : List Nat} {A : Ed} {h : xHp} (hw : wfW W) (h2 : tp W ≠ 2) (h3 : tp W ≠ 3) (hl : W.length ≤ 63) (hc : cs.length + W.length ≤ 239) (m : CM W h) (d : CD (cs, an, A) h) : ∃ h', F_X3_endFormula N h = some ((), h') ∧ FL LMk h h' ∧ CM (popTo 5 W cs).1 h' ∧ CD ((popTo 5 W cs).2, an, A) h' := by
  obtain ⟨h1, e1, f1, m1, d1⟩ := c_either N hw (by omega) (by omega) m d
  have ln := pop1_len (w0 := 4) (W := W) (cs := cs) (by decide)
  have wf1 := pop1_wf (w0 := 4) (cs := cs) hw
  rw [popTo5 hw h2 h3]
  obtain ⟨h', e', f', m', d'⟩ := c_arrows N (pop1 4 W cs).1 (pop1 4 W cs).2 N 0 h1 wf1 (by omega) (by omega) (by omega) m1 d1
  refine ⟨h', ?_, f1.trans f', m', d'⟩
  unfold F_X3_endFormula F_X3_endFormula_6
  rw [e1, bnd2_p]
  exact e'
