/-! CALLS: the simple ones -/
theorem q_told (N : Nat) {a : Ab} {h : xHp} (p : Int32) (w : RW a) (rc : RC a h) (rm : RM a h) : P1 (F_X8_told N p h) (F_X9_told N p) a ∨ P2 (F_X8_told_T N p h) (F_X9_told N p) [(2, 1)] a := by
  obtain ⟨⟨n, E⟩, ⟨L, lp⟩, ⟨m, cr⟩, ⟨tn, tb⟩, ⟨wn, wb⟩, b, ⟨cs, an, A⟩, f⟩ := a
  have c' : RCx n E L lp m cr tn tb wn wb b an A cs f h := rc
  obtain ⟨c1, c2, c3, c4, c5, c6, c7, c8, c9⟩ := c'
  have is7 : ∀ hx, F_X9_isIn N p.toInt64 0 6 hx = some (if 0 ≤ p ∧ p ≤ 6 then 1 else 0, hx) := fun hx => by
    rw [p_isIn, show (6 : Int64) = (6 : Int32).toInt64 by decide]; simp only [i64_0le, i64_le]
  by_cases q : 0 ≤ p ∧ p ≤ 6
  · left
    obtain ⟨j, hj, rfl⟩ : ∃ j, j < 7 ∧ p = nI j := nI_lt_p (by decide) (Int32.not_lt.mpr q.1) (Int32.lt_of_le_of_lt q.2 (by decide))
    have e9 : ∀ hx, F_X9_told N (nI j) hx = if nI j = 0 then some ((gI (sI hx 51 0 0) 51 1), sI hx 51 0 0) else if nI j = 1 then some ((gI (sI hx 51 0 0) 51 6), sI hx 51 0 0) else if nI j = 2 then some ((gI (sI hx 51 0 0) 51 8), sI hx 51 0 0) else if nI j = 3 then some ((gI (sI hx 51 0 0) 51 24), sI hx 51 0 0) else if nI j = 4 then some ((gI (sI hx 51 0 0) 51 15), sI hx 51 0 0) else if nI j = 5 then some ((gI (sI hx 51 0 0) 51 43), sI hx 51 0 0) else if (gI (sI hx 51 0 0) 51 23) = 0 then some (0, sI hx 51 0 0) else some (1, sI hx 51 0 0) := fun hx => by
      unfold F_X9_told
      rw [is7, if_pos q, bnd2_p, p_may, bnd2_p]
      simp +decide only [if_false, if_true]
    have fin : ∀ V : Int32, F_X8_told N (nI j) h = some (V, h) → (∀ hx, RMx n E L lp m cr tn tb wn wb b an A cs f hx → F_X9_told N (nI j) hx = some (V, sI hx 51 0 0)) → P1 (F_X8_told N (nI j) h) (F_X9_told N (nI j)) ((n, E), (L, lp), (m, cr), (tn, tb), (wn, wb), b, (cs, an, A), f) := fun V e1 e2 => ⟨V, h, _, e1, w, rc, rm, fun hx rcx rmx => ⟨sI hx 51 0 0, e2 hx rmx, told_by rcx rmx⟩⟩
    have ag : ∀ hx, Ag DRM hx (sI hx 51 0 0) := fun hx => (FL.i hx rfl : FL [(51,0,1)] hx (sI hx 51 0 0)).ag rfl
    have c7' : j = 0 ∨ j = 1 ∨ j = 2 ∨ j = 3 ∨ j = 4 ∨ j = 5 ∨ j = 6 := by omega
    unfold F_X8_told at fin ⊢
    rcases c7' with rfl | rfl | rfl | rfl | rfl | rfl | rfl
    · exact fin (nI n) (by simp +decide only [if_false, if_true]; rw [c1.1]) (fun hx r => by rw [e9, if_pos (by decide), ag hx 51 1 rfl, r.1.2.1])
    · exact fin (nI L) (by simp +decide only [if_false, if_true]; rw [c2.1]) (fun hx r => by rw [e9, if_neg (by decide), if_pos (by decide), ag hx 51 6 rfl, r.2.1.1])
    · exact fin (nI m) (by simp +decide only [if_false, if_true]; rw [c3.1]) (fun hx r => by rw [e9, if_neg (by decide), if_neg (by decide), if_pos (by decide), ag hx 51 8 rfl, r.2.2.1.1])
    · exact fin (nI an) (by simp +decide only [if_false, if_true]; rw [c6.1]) (fun hx r => by rw [e9, if_neg (by decide), if_neg (by decide), if_neg (by decide), if_pos (by decide), ag hx 51 24 rfl, r.2.2.2.2.2.1.1])
    · exact fin (nI tn) (by simp +decide only [if_false, if_true]; rw [c4.1]) (fun hx r => by rw [e9, if_neg (by decide), if_neg (by decide), if_neg (by decide), if_neg (by decide), if_pos (by decide), ag hx 51 15 rfl, r.2.2.2.1.1])
    · exact fin (nI wn) (by simp +decide only [if_false, if_true]; rw [c5.1]) (fun hx r => by rw [e9, if_neg (by decide), if_neg (by decide), if_neg (by decide), if_neg (by decide), if_neg (by decide), if_pos (by decide), ag hx 51 43 rfl, r.2.2.2.2.1.1])
    · exact fin (b32 b) (by simp +decide only [if_false, if_true]; rw [c8]; cases b <;> rfl) (fun hx r => by rw [e9, if_neg (by decide), if_neg (by decide), if_neg (by decide), if_neg (by decide), if_neg (by decide), if_neg (by decide), ag hx 51 23 rfl, r.2.2.2.2.2.2.1]; cases b <;> rfl)
  · right
    refine ⟨2, 1, h, ?_, List.mem_singleton.mpr rfl, rc, rm, fun hx rcx rmx => ⟨0, sI hx 51 0 1, ?_, told_by rcx rmx⟩⟩
    · have ne : ∀ j : Nat, j < 7 → ¬ p = nI j := fun j hj z => q (by rw [z]; exact ⟨nI_pos' (by omega), nI_le (show j ≤ 6 by omega) (by decide)⟩)
      unfold F_X8_told_T
      rw [if_neg (show ¬ p = 0 from ne 0 (by decide)), if_neg (show ¬ p = 1 from ne 1 (by decide)), if_neg (show ¬ p = 2 from ne 2 (by decide)), if_neg (show ¬ p = 3 from ne 3 (by decide)), if_neg (show ¬ p = 4 from ne 4 (by decide)), if_neg (show ¬ p = 5 from ne 5 (by decide)), if_neg (show ¬ p = 6 from ne 6 (by decide))]
    · unfold F_X9_told
      rw [is7, if_neg q, bnd2_p, p_may, bnd2_p]
      simp +decide only [if_true]
theorem q_fault (N : Nat) {a : Ab} {h : xHp} (w : RW a) (rc : RC a h) (rm : RM a h) : P1 (F_X8_fault N h) (F_X9_fault N) a := by
  obtain ⟨⟨n, E⟩, ⟨L, lp⟩, ⟨m, cr⟩, ⟨tn, tb⟩, ⟨wn, wb⟩, b, ⟨cs, an, A⟩, f⟩ := a
  have c9 : gI h 0 10 = nI f := rc.2.2.2.2.2.2.2.2
  unfold F_X8_fault
  rw [c9]
  refine ⟨_, h, _, rfl, w, rc, rm, fun hx rcx rmx => ⟨sI hx 51 0 0, ?_, told_by rcx rmx⟩⟩
  have m8 : gI hx 51 21 = nI f := rmx.2.2.2.2.2.2.2
  unfold F_X9_fault
  rw [bnd_eq, ((FL.i hx rfl : FL [(51,0,1)] hx (sI hx 51 0 0)).1 51 21 rfl).1, m8]
theorem q_written (N : Nat) {a : Ab} {h : xHp} (p : Int32) (w : RW a) (rc : RC a h) (rm : RM a h) : P1 (F_X8_written N p h) (F_X9_written N p) a ∨ P2 (F_X8_written_T N p h) (F_X9_written N p) [(1, 1)] a := by
  obtain ⟨⟨n, E⟩, ⟨L, lp⟩, ⟨m, cr⟩, ⟨tn, tb⟩, ⟨wn, wb⟩, b, ⟨cs, an, A⟩, f⟩ := a
  have w7 : Twf 6000 wn wb := w.2.2.2.2.2.2.1
  have c5 : Cwri wn wb h := rc.2.2.2.2.1
  have w71 := w7.1
  rcases pk_ix p (n := wn) (by omega) with q | q | ⟨j, hj, rfl⟩
  · right
    refine ⟨1, 1, h, ?_, List.mem_singleton.mpr rfl, rc, rm, fun hx rcx rmx => ⟨0, sI hx 51 0 1, ?_, told_by rcx rmx⟩⟩
    · unfold F_X8_written_T F_X8_written_T_15; rw [if_pos q]
    · have m3 : Mwri wn wb hx := rmx.2.2.2.2.1
      unfold F_X9_written
      rw [m3.1, p_ixN N (Or.inl q) (by omega), bnd2_p, p_may, bnd2_p]
      simp +decide only [if_true]
  · right
    refine ⟨1, 1, h, ?_, List.mem_singleton.mpr rfl, rc, rm, fun hx rcx rmx => ⟨0, sI hx 51 0 1, ?_, told_by rcx rmx⟩⟩
    · unfold F_X8_written_T F_X8_written_T_15
      rw [c5.1, if_neg (show ¬ p < nI wn from Int32.not_lt.mpr q)]
      exact ite_same rfl rfl
    · have m3 : Mwri wn wb hx := rmx.2.2.2.2.1
      unfold F_X9_written
      rw [m3.1, p_ixN N (Or.inr q) (by omega), bnd2_p, p_may, bnd2_p]
      simp +decide only [if_true]
  · left
    have at8 : F_X6_at_28 N (nI j) h = some (nI (wb j), h) := by
      unfold F_X6_at_28
      rw [if_neg (nI_pos (by omega)), c5.1, if_neg (nI_ge hj (by omega)), if_neg (by rw [show (6000 : Int32) = nI 6000 from rfl]; exact nI_ge (by omega) (by decide)), grd_t (xin_nI (by omega) (by decide)), nI_cl (by omega), c5.2 j hj]
    unfold F_X8_written
    rw [if_neg (nI_pos (by omega)), c5.1, if_pos (nI_lt hj (by omega)), at8, bnd2_p]
    refine ⟨_, h, _, rfl, w, rc, rm, fun hx rcx rmx => ⟨sI hx 51 0 0, ?_, told_by rcx rmx⟩⟩
    have m3 : Mwri wn wb hx := rmx.2.2.2.2.1
    unfold F_X9_written
    rw [m3.1, p_ixY N hj (by omega), bnd2_p, p_may, bnd2_p]
    simp +decide only [if_false, if_true]
    rw [grd_t (xin_nI (show j < 6001 by omega) (by decide)), nI_cl (by omega), ((FL.i hx rfl : FL [(51,0,1)] hx (sI hx 51 0 0)).1 73 j rfl).1, m3.2 j hj]
theorem an10 {a : Ab} (w : RW a) : a.2.2.2.2.2.2.1.2.1 ≤ 10 := by
  obtain ⟨⟨n, E⟩, ⟨L, lp⟩, ⟨m, cr⟩, ⟨tn, tb⟩, ⟨wn, wb⟩, b, ⟨cs, an, A⟩, f⟩ := a
  have w' : RWx n E L lp m tn tb wn wb b an A cs f := w
  obtain ⟨w1, w2, w3, w4, w5, w6, w7, w8, w9, w10⟩ := w'
  show an ≤ 10
  cases b with
  | false => rw [(w9 rfl).1]; decide
  | true => exact (w8 rfl).1.1
/-- an atom's number, or not -/
theorem q_atomN (N : Nat) {n : Nat} {E : Ed} {L : Nat} {lp : Nat → Nat} {m : Nat} {cr : Nat → Int32} {tn : Nat} {tb : Nat → Nat} {wn : Nat} {wb : Nat → Nat} {b : Bool} {an : Nat} {A : Ed} {cs : List Nat} {f : Nat} {h : xHp} {p : Int32} (q : p < 0 ∨ nI an ≤ p) (c6 : Cfor an A cs h) : F_X8_requireAtom_T N p h = some (1, h) := by
  unfold F_X8_requireAtom_T F_X8_requireAtom_T_15
  rw [c6.1]
  rcases q with q | q
  · rw [if_pos q]
  · rw [if_neg (show ¬ p < nI an from Int32.not_lt.mpr q)]; exact ite_same rfl rfl
theorem q_atomY (N : Nat) {an j : Nat} {A : Ed} {cs : List Nat} {h : xHp} (hj : j < an) (ha : an ≤ 10) (c6 : Cfor an A cs h) : F_X8_requireAtom N (nI j) h = some ((), h) ∧ F_X8_requireAtom_T N (nI j) h = none := by
  unfold F_X8_requireAtom F_X8_requireAtom_T
  rw [if_neg (nI_pos (by omega)), if_neg (nI_pos (by omega)), c6.1, if_pos (nI_lt hj (by omega)), if_pos (nI_lt hj (by omega))]
  exact ⟨rfl, rfl⟩
theorem q_atom (N : Nat) {a : Ab} {h : xHp} (p u : Int32) (w : RW a) (rc : RC a h) (rm : RM a h) : P1 (F_X8_atom N p u h) (F_X9_atom N p u) a ∨ P2 (F_X8_atom_T N p u h) (F_X9_atom N p u) [(1, 1), (2, 2)] a := by
  have ha := an10 w
  obtain ⟨⟨n, E⟩, ⟨L, lp⟩, ⟨m, cr⟩, ⟨tn, tb⟩, ⟨wn, wb⟩, b, ⟨cs, an, A⟩, f⟩ := a
  dsimp only at ha
  have c6 : Cfor an A cs h := rc.2.2.2.2.2.1
  have is2 : ∀ hx, F_X9_isIn N u.toInt64 0 2 hx = some (if 0 ≤ u ∧ u ≤ 2 then 1 else 0, hx) := fun hx => by
    rw [p_isIn, show (2 : Int64) = (2 : Int32).toInt64 by decide]; simp only [i64_0le, i64_le]
  have no : p < 0 ∨ nI an ≤ p → P2 (F_X8_atom_T N p u h) (F_X9_atom N p u) [(1, 1), (2, 2)] ((n, E), (L, lp), (m, cr), (tn, tb), (wn, wb), b, (cs, an, A), f) := fun q => by
    refine ⟨1, 1, h, ?_, List.mem_cons_self, rc, rm, fun hx rcx rmx => ⟨0, sI hx 51 0 1, ?_, told_by rcx rmx⟩⟩
    · unfold F_X8_atom_T
      rw [q_atomN (n := n) (E := E) (L := L) (lp := lp) (m := m) (cr := cr) (tn := tn) (tb := tb) (wn := wn) (wb := wb) (b := b) (f := f) N q c6]
      rfl
    · have m6 : Mfor an A cs hx := rmx.2.2.2.2.2.1
      unfold F_X9_atom
      rw [m6.1, p_ixN N q (by omega), bnd2_p, is2, bnd2_p, p_may, bnd2_p]
      simp +decide only [if_true, true_or]
  rcases pk_ix p (n := an) (by omega) with q | q | ⟨j, hj, rfl⟩
  · exact Or.inr (no (Or.inl q))
  · exact Or.inr (no (Or.inr q))
  · obtain ⟨r1, r2⟩ := q_atomY N hj ha c6
    have i10 : xin (nI j) 10 = true := xin_nI (by omega) (by decide)
    by_cases q : 0 ≤ u ∧ u ≤ 2
    · left
      obtain ⟨i, hi, rfl⟩ : ∃ i, i < 3 ∧ u = nI i := nI_lt_p (by decide) (Int32.not_lt.mpr q.1) (Int32.lt_of_le_of_lt q.2 (by decide))
      have e9 : ∀ hx, RMx n E L lp m cr tn tb wn wb b an A cs f hx → F_X9_atom N (nI j) (nI i) hx = if nI i = 0 then some (gI (sI hx 51 0 0) 62 j, sI hx 51 0 0) else if nI i = 1 then some (gI (sI hx 51 0 0) 63 j, sI hx 51 0 0) else some (gI (sI hx 51 0 0) 64 j, sI hx 51 0 0) := fun hx r => by
        have m6 : Mfor an A cs hx := r.2.2.2.2.2.1
        unfold F_X9_atom
        rw [m6.1, p_ixY N hj (by omega), bnd2_p, is2, if_pos q, bnd2_p, p_may, bnd2_p]
        simp +decide only [if_false, if_true]
        rw [grd_t i10, grd_t i10, grd_t i10, nI_cl (by omega)]
      have fin : ∀ V : Int32, F_X8_atom N (nI j) (nI i) h = some (V, h) → (∀ hx, RMx n E L lp m cr tn tb wn wb b an A cs f hx → F_X9_atom N (nI j) (nI i) hx = some (V, sI hx 51 0 0)) → P1 (F_X8_atom N (nI j) (nI i) h) (F_X9_atom N (nI j) (nI i)) ((n, E), (L, lp), (m, cr), (tn, tb), (wn, wb), b, (cs, an, A), f) := fun V e1 e2 => ⟨V, h, _, e1, w, rc, rm, fun hx rcx rmx => ⟨sI hx 51 0 0, e2 hx rmx, told_by rcx rmx⟩⟩
      have ag : ∀ hx, Ag DRM hx (sI hx 51 0 0) := fun hx => (FL.i hx rfl : FL [(51,0,1)] hx (sI hx 51 0 0)).ag rfl
      obtain ⟨k1, k2, k3⟩ := c6.2.1 j hj
      have e8 : F_X8_atom N (nI j) (nI i) h = if nI i = 0 then some (gI h 31 j, h) else if nI i = 1 then some (gI h 32 j, h) else if nI i = 2 then some (gI h 33 j, h) else none := by
        unfold F_X8_atom
        rw [r1, bnd2_p, grd_t i10, grd_t i10, grd_t i10, nI_cl (by omega)]
      have c3 : i = 0 ∨ i = 1 ∨ i = 2 := by omega
      rcases c3 with rfl | rfl | rfl
      · exact fin (nI (A j).1) (by rw [e8, if_pos (by decide), k1]) (fun hx r => by rw [e9 hx r, if_pos (by decide), ag hx 62 j rfl, (r.2.2.2.2.2.1.2.1 j hj).1])
      · exact fin (nI (A j).2.1) (by rw [e8, if_neg (by decide), if_pos (by decide), k2]) (fun hx r => by rw [e9 hx r, if_neg (by decide), if_pos (by decide), ag hx 63 j rfl, (r.2.2.2.2.2.1.2.1 j hj).2.1])
      · refine fin (gI h 33 j) (by rw [e8, if_neg (by decide), if_neg (by decide), if_pos (by decide)]) (fun hx r => ?_)
        rw [e9 hx r, if_neg (by decide), if_neg (by decide), ag hx 64 j rfl, show gI hx 64 j = gI h 33 j from Int32.toInt_inj.mp (by rw [(r.2.2.2.2.2.1.2.1 j hj).2.2, k3])]
    · right
      refine ⟨2, 2, h, ?_, List.mem_cons_of_mem _ (List.mem_singleton.mpr rfl), rc, rm, fun hx rcx rmx => ⟨0, sI hx 51 0 2, ?_, told_by rcx rmx⟩⟩
      · have ne : ∀ i : Nat, i < 3 → ¬ u = nI i := fun i hi z => q (by rw [z]; exact ⟨nI_pos' (by omega), nI_le (show i ≤ 2 by omega) (by decide)⟩)
        unfold F_X8_atom_T
        rw [r2, r1, bnd2_p, if_neg (show ¬ u = 0 from ne 0 (by decide)), if_neg (show ¬ u = 1 from ne 1 (by decide)), if_neg (show ¬ u = 2 from ne 2 (by decide))]
        rfl
      · have m6 : Mfor an A cs hx := rmx.2.2.2.2.2.1
        unfold F_X9_atom
        rw [m6.1, p_ixY N hj (by omega), bnd2_p, is2, if_neg q, bnd2_p, p_may, bnd2_p]
        simp +decide only [if_false, if_true, true_or, or_true]
theorem q_must (N : Nat) (hN : 7000 ≤ N) {a : Ab} {h : xHp} (p : Int32) (w : RW a) (rc : RC a h) (rm : RM a h) : P1 (F_X8_must N p h) (F_X9_must N p) a ∨ P2 (F_X8_must_T N p h) (F_X9_must N p) [(1, 1)] a := by
  have ha := an10 w
  obtain ⟨⟨n, E⟩, ⟨L, lp⟩, ⟨m, cr⟩, ⟨tn, tb⟩, ⟨wn, wb⟩, b, ⟨cs, an, A⟩, f⟩ := a
  dsimp only at ha
  have w' : RWx n E L lp m tn tb wn wb b an A cs f := w
  have c' : RCx n E L lp m cr tn tb wn wb b an A cs f h := rc
  obtain ⟨w1, w2, w3, w4, w5, w6, w7, w8, w9, w10⟩ := w'
  obtain ⟨c1, c2, c3, c4, c5, c6, c7, c8, c9⟩ := c'
  have no : p < 0 ∨ nI an ≤ p → P2 (F_X8_must_T N p h) (F_X9_must N p) [(1, 1)] ((n, E), (L, lp), (m, cr), (tn, tb), (wn, wb), b, (cs, an, A), f) := fun q => by
    refine ⟨1, 1, h, ?_, List.mem_cons_self, rc, rm, fun hx rcx rmx => ⟨0, sI hx 51 0 1, ?_, told_by rcx rmx⟩⟩
    · unfold F_X8_must_T
      rw [q_atomN (n := n) (E := E) (L := L) (lp := lp) (m := m) (cr := cr) (tn := tn) (tb := tb) (wn := wn) (wb := wb) (b := b) (f := f) N q c6]
      rfl
    · have m6 : Mfor an A cs hx := rmx.2.2.2.2.2.1
      unfold F_X9_must
      rw [m6.1, p_ixN N q (by omega), bnd2_p, p_may, bnd2_p]
      simp +decide only [if_true, true_or]
  rcases pk_ix p (n := an) (by omega) with q | q | ⟨j, hj, rfl⟩
  · exact Or.inr (no (Or.inl q))
  · exact Or.inr (no (Or.inr q))
  · left
    cases b with
    | false => have := (w9 rfl).1; omega
    | true =>
      obtain ⟨fc, aw⟩ := w8 rfl
      have pf : PF n E an A cs := ⟨w1, w2, aw, fc, w3⟩
      obtain ⟨h1, e1, f1, g1, g2, g3⟩ := c_must N (by omega) pf ⟨c1, c6, c7⟩ hj
      refine ⟨_, h1, ((n, E), (L, lp), (m, cr), (tn, tb), (wn, wb), true, (cs, an, A), f), e1, w, ⟨g1, c2.ag (f1.ag rfl), c3.ag (f1.ag rfl), c4.ag (f1.ag rfl), c5.ag (f1.ag rfl), g2, g3, (f1.1 0 9 rfl).1.trans c8, (f1.1 0 10 rfl).1.trans c9⟩, rm.ag (f1.ag rfl), fun hx rcx rmx => ?_⟩
      have m' : RMx n E L lp m cr tn tb wn wb true an A cs f hx := rmx
      obtain ⟨m1, m2, m3, m4, m5, m6, m7, m8⟩ := m'
      obtain ⟨h2, e2, f2, t2⟩ := m_must N (by omega) pf ⟨m1, m6⟩ m7 hj
      exact ⟨h2, e2, t2, rcx.ag (f2.ag rfl), rmx.ag (f2.ag rfl)⟩
theorem q_ways (N : Nat) (hN : 7000 ≤ N) {a : Ab} {h : xHp} (w : RW a) (rc : RC a h) (rm : RM a h) : P1 (F_X8_ways N h) (F_X9_ways N) a := by
  obtain ⟨⟨n, E⟩, ⟨L, lp⟩, ⟨m, cr⟩, ⟨tn, tb⟩, ⟨wn, wb⟩, b, ⟨cs, an, A⟩, f⟩ := a
  have w' : RWx n E L lp m tn tb wn wb b an A cs f := w
  have c' : RCx n E L lp m cr tn tb wn wb b an A cs f h := rc
  obtain ⟨w1, w2, w3, w4, w5, w6, w7, w8, w9, w10⟩ := w'
  obtain ⟨c1, c2, c3, c4, c5, c6, c7, c8, c9⟩ := c'
  cases b with
  | false =>
    unfold F_X8_ways
    rw [c8, if_pos (show b32 false = 0 from rfl)]
    refine ⟨_, h, _, rfl, w, rc, rm, fun hx rcx rmx => ⟨sI hx 51 0 0, m_ways0 N (by omega) rmx.2.2.2.2.2.2.1, told_by rcx rmx⟩⟩
  | true =>
    obtain ⟨fc, aw⟩ := w8 rfl
    have pf : PF n E an A cs := ⟨w1, w2, aw, fc, w3⟩
    obtain ⟨h1, e1, f1, g1, g2, g3⟩ := c_ways N (by omega) pf ⟨c1, c6, c7⟩ c8
    refine ⟨_, h1, ((n, E), (L, lp), (m, cr), (tn, tb), (wn, wb), true, (cs, an, A), f), e1, w, ⟨g1, c2.ag (f1.ag rfl), c3.ag (f1.ag rfl), c4.ag (f1.ag rfl), c5.ag (f1.ag rfl), g2, g3, (f1.1 0 9 rfl).1.trans c8, (f1.1 0 10 rfl).1.trans c9⟩, rm.ag (f1.ag rfl), fun hx rcx rmx => ?_⟩
    have m' : RMx n E L lp m cr tn tb wn wb true an A cs f hx := rmx
    obtain ⟨m1, m2, m3, m4, m5, m6, m7, m8⟩ := m'
    obtain ⟨h2, e2, f2, t2⟩ := m_ways N (by omega) pf ⟨m1, m6⟩ m7
    exact ⟨h2, e2, t2, rcx.ag (f2.ag rfl), rmx.ag (f2.ag rfl)⟩
theorem q_way (N : Nat) (hN : 7000 ≤ N) {a : Ab} {h : xHp} (p : Int32) (w : RW a) (rc : RC a h) (rm : RM a h) : P1 (F_X8_way N p h) (F_X9_way N p) a := by
  obtain ⟨⟨n, E⟩, ⟨L, lp⟩, ⟨m, cr⟩, ⟨tn, tb⟩, ⟨wn, wb⟩, b, ⟨cs, an, A⟩, f⟩ := a
  have w' : RWx n E L lp m tn tb wn wb b an A cs f := w
  have c' : RCx n E L lp m cr tn tb wn wb b an A cs f h := rc
  obtain ⟨w1, w2, w3, w4, w5, w6, w7, w8, w9, w10⟩ := w'
  obtain ⟨c1, c2, c3, c4, c5, c6, c7, c8, c9⟩ := c'
  cases b with
  | false =>
    unfold F_X8_way
    rw [c8, if_pos (show b32 false = 0 from rfl)]
    refine ⟨_, h, _, rfl, w, rc, rm, fun hx rcx rmx => ⟨sI hx 51 0 0, m_way0 N (by omega) rmx.2.2.2.2.2.2.1, told_by rcx rmx⟩⟩
  | true =>
    obtain ⟨fc, aw⟩ := w8 rfl
    have pf : PF n E an A cs := ⟨w1, w2, aw, fc, w3⟩
    obtain ⟨s, s1, s2, s3⟩ := way_s p
    obtain ⟨h1, e1, f1, g1, g2, g3⟩ := c_way N (by omega) pf ⟨c1, c6, c7⟩ c8 s1 s2
    refine ⟨_, h1, ((n, E), (L, lp), (m, cr), (tn, tb), (wn, wb), true, (cs, an, A), f), e1, w, ⟨g1, c2.ag (f1.ag rfl), c3.ag (f1.ag rfl), c4.ag (f1.ag rfl), c5.ag (f1.ag rfl), g2, g3, (f1.1 0 9 rfl).1.trans c8, (f1.1 0 10 rfl).1.trans c9⟩, rm.ag (f1.ag rfl), fun hx rcx rmx => ?_⟩
    have m' : RMx n E L lp m cr tn tb wn wb true an A cs f hx := rmx
    obtain ⟨m1, m2, m3, m4, m5, m6, m7, m8⟩ := m'
    obtain ⟨h2, e2, f2, t2⟩ := m_way N (by omega) pf ⟨m1, m6⟩ m7 s1 s3
    exact ⟨h2, e2, t2, rcx.ag (f2.ag rfl), rmx.ag (f2.ag rfl)⟩
theorem q_prove (N : Nat) (hN : 7000 ≤ N) {a : Ab} {h : xHp} (w : RW a) (rc : RC a h) (rm : RM a h) : P0 (F_X8_prove N h) (F_X9_prove N) a := by
  obtain ⟨⟨n, E⟩, ⟨L, lp⟩, ⟨m, cr⟩, ⟨tn, tb⟩, ⟨wn, wb⟩, b, ⟨cs, an, A⟩, f⟩ := a
  have w' : RWx n E L lp m tn tb wn wb b an A cs f := w
  have c' : RCx n E L lp m cr tn tb wn wb b an A cs f h := rc
  have m' : RMx n E L lp m cr tn tb wn wb b an A cs f h := rm
  obtain ⟨w1, w2, w3, w4, w5, w6, w7, w8, w9, w10⟩ := w'
  obtain ⟨c1, c2, c3, c4, c5, c6, c7, c8, c9⟩ := c'
  obtain ⟨m1, m2, m3, m4, m5, m6, m7, m8⟩ := m'
  obtain ⟨V, h1, h2, wn', wb', e1, f1, ⟨g1, g2, g3⟩, e2, f2, t2, tw, cw, mw⟩ := x_prove N hN (b := b) (fun z => ⟨w1, w2, (w8 z).2, (w8 z).1, w3⟩) ⟨c1, c6, c7⟩ ⟨m1, m6⟩ c8 m7
  refine ⟨V, h1, h2, ((n, E), (L, lp), (m, cr), (tn, tb), (wn', wb'), b, (cs, an, A), f), e1, e2, ⟨w1, w2, w3, w4, w5, w6, tw, w8, w9, w10⟩, ?_, ?_⟩
  · exact ⟨g1.ag (f2.ag rfl), (c2.ag (f1.ag rfl)).ag (f2.ag rfl), (c3.ag (f1.ag rfl)).ag (f2.ag rfl), (c4.ag (f1.ag rfl)).ag (f2.ag rfl), cw.ag (f2.ag rfl), g2.ag (f2.ag rfl), g3.ag (f2.ag rfl), (f2.1 0 9 rfl).1.trans ((f1.1 0 9 rfl).1.trans c8), (f2.1 0 10 rfl).1.trans ((f1.1 0 10 rfl).1.trans c9)⟩
  · exact ⟨(m1.ag (f1.ag rfl)).ag (f2.ag rfl), (m2.ag (f1.ag rfl)).ag (f2.ag rfl), (m3.ag (f1.ag rfl)).ag (f2.ag rfl), (m4.ag (f1.ag rfl)).ag (f2.ag rfl), mw, (m6.ag (f1.ag rfl)).ag (f2.ag rfl), (f2.1 51 23 rfl).1.trans ((f1.1 51 23 rfl).1.trans m7), (f2.1 51 21 rfl).1.trans ((f1.1 51 21 rfl).1.trans m8)⟩
theorem ckF_1 {V : Int32} : ckF V ≤ 5 := by
  unfold ckF
  by_cases q : V = -1
  · rw [if_pos q]; decide
  · rw [if_neg q]; decide
theorem q_check (N : Nat) (hN : 7000 ≤ N) {a : Ab} {h : xHp} (o : Bool) (w : RW a) (rc : RC a h) (rm : RM a h) : P1 (F_X8_check N (b32 o) h) (F_X9_check N (b32 o)) a := by
  obtain ⟨⟨n, E⟩, ⟨L, lp⟩, ⟨m, cr⟩, ⟨tn, tb⟩, ⟨wn, wb⟩, b, ⟨cs, an, A⟩, f⟩ := a
  have w' : RWx n E L lp m tn tb wn wb b an A cs f := w
  have c' : RCx n E L lp m cr tn tb wn wb b an A cs f h := rc
  obtain ⟨w1, w2, w3, w4, w5, w6, w7, w8, w9, w10⟩ := w'
  obtain ⟨c1, c2, c3, c4, c5, c6, c7, c8, c9⟩ := c'
  cases b with
  | false =>
    unfold F_X8_check
    rw [c8, if_pos (show b32 false = 0 from rfl)]
    refine ⟨_, h, _, rfl, w, rc, rm, fun hx rcx rmx => ⟨sI hx 51 0 0, ?_, told_by rcx rmx⟩⟩
    have m7 : gI hx 51 23 = b32 false := rmx.2.2.2.2.2.2.1
    unfold F_X9_check
    rw [bnd_eq, ((FL.i hx rfl : FL [(51,0,1)] hx (sI hx 51 0 0)).1 51 23 rfl).1, m7, if_pos (show b32 false = 0 from rfl)]
  | true =>
    obtain ⟨fc, aw⟩ := w8 rfl
    have pf : PF n E an A cs := ⟨w1, w2, aw, fc, w3⟩
    obtain ⟨h1, e1, f1, g26, g10⟩ := c_check N hN pf ⟨c1, c6, c7⟩ c8 w6 c4 w7 c5 o
    have tle : (if o = true then 0 else tn) ≤ tn := by
      by_cases z : o = true
      · rw [if_pos z]; omega
      · rw [if_neg z]; exact Nat.le_refl _
    refine ⟨_, h1, ((n, E), (L, lp), (m, cr), (if o = true then 0 else tn, tb), (wn, wb), true, (cs, an, A), ckF (if o = true then ckV tn (ckR tn tb n E an A cs) else ckV wn (ckR wn wb n E an A cs))), e1, ⟨w1, w2, w3, w4, w5, ⟨Nat.le_trans tle w6.1, fun k hk => w6.2 k (Nat.lt_of_lt_of_le hk tle)⟩, w7, w8, w9, ckF_1⟩, ⟨c1.ag (f1.ag rfl), c2.ag (f1.ag rfl), c3.ag (f1.ag rfl), ⟨g26, fun k hk => by rw [(f1 27 k rfl).1]; exact c4.2 k (Nat.lt_of_lt_of_le hk tle)⟩, c5.ag (f1.ag rfl), c6.ag (f1.ag rfl), c7.ag (f1.ag rfl), (f1 0 9 rfl).1.trans c8, g10⟩, rm.ag (f1.ag rfl), fun hx rcx rmx => ?_⟩
    have m' : RMx n E L lp m cr tn tb wn wb true an A cs f hx := rmx
    obtain ⟨m1, m2, m3, m4, m5, m6, m7, m8⟩ := m'
    cases o with
    | false =>
      obtain ⟨h2, e2, f2, t2, g15, g21⟩ := m_check N hN (tn := tn) (o := false) w7 pf ⟨m1, m6⟩ m7 m4.1 (fun _ => m5) (fun z => absurd z (by decide))
      refine ⟨h2, e2, t2, rcx.ag (f2.ag rfl), ⟨m1.ag (f2.ag rfl), m2.ag (f2.ag rfl), m3.ag (f2.ag rfl), ⟨g15, fun k hk => (f2.1 61 k rfl).1.trans (m4.2 k (Nat.lt_of_lt_of_le hk tle))⟩, m5.ag (f2.ag rfl), m6.ag (f2.ag rfl), (f2.1 51 23 rfl).1.trans m7, g21⟩⟩
    | true =>
      obtain ⟨h2, e2, f2, t2, g15, g21⟩ := m_check N hN (tn := tn) (o := true) (w6.mono (by decide)) pf ⟨m1, m6⟩ m7 m4.1 (fun z => absurd z (by decide)) (fun _ => ⟨w6, m4⟩)
      refine ⟨h2, e2, t2, rcx.ag (f2.ag rfl), ⟨m1.ag (f2.ag rfl), m2.ag (f2.ag rfl), m3.ag (f2.ag rfl), ⟨g15, fun k hk => (f2.1 61 k rfl).1.trans (m4.2 k (Nat.lt_of_lt_of_le hk tle))⟩, m5.ag (f2.ag rfl), m6.ag (f2.ag rfl), (f2.1 51 23 rfl).1.trans m7, g21⟩⟩
theorem q_read (N : Nat) (hN : 7000 ≤ N) {a : Ab} {h : xHp} (w : RW a) (rc : RC a h) (rm : RM a h) : P1 (F_X8_read N h) (F_X9_read N) a := by
  obtain ⟨⟨n, E⟩, ⟨L, lp⟩, ⟨m, cr⟩, ⟨tn, tb⟩, ⟨wn, wb⟩, b, ⟨cs, an, A⟩, f⟩ := a
  have w' : RWx n E L lp m tn tb wn wb b an A cs f := w
  have c' : RCx n E L lp m cr tn tb wn wb b an A cs f h := rc
  obtain ⟨w1, w2, w3, w4, w5, w6, w7, w8, w9, w10⟩ := w'
  obtain ⟨c1, c2, c3, c4, c5, c6, c7, c8, c9⟩ := c'
  obtain ⟨rg, rp, h1, e1, f1, g26, g10, y1, n1⟩ := c_read N hN w6 c4 c6 c8 rfl
  have t0 : Twf 400 0 tb := ⟨by omega, fun k hk => absurd hk (Nat.not_lt_zero k)⟩
  by_cases q : (rdR tn tb).1 = 0
  · obtain ⟨y2, y3, y4⟩ := y1 q
    obtain ⟨fc, aw⟩ := rg.2 q
    refine ⟨_, h1, ((n, E), (L, lp), (m, cr), (0, tb), (wn, wb), true, (rdR tn tb).2.2.2.2.2, (rdR tn tb).1), e1, ⟨w1, w2, w3, w4, w5, t0, w7, fun _ => ⟨fc, aw⟩, fun z => absurd z (show ¬ (true = false) by decide), rg.1⟩, ⟨c1.ag (f1.ag rfl), c2.ag (f1.ag rfl), c3.ag (f1.ag rfl), ⟨g26, fun k hk => absurd hk (Nat.not_lt_zero k)⟩, c5.ag (f1.ag rfl), y4, Or.inl y3, y2, g10⟩, rm.ag (f1.ag rfl), fun hx rcx rmx => ?_⟩
    have m' : RMx n E L lp m cr tn tb wn wb b an A cs f hx := rmx
    obtain ⟨m1, m2, m3, m4, m5, m6, m7, m8⟩ := m'
    obtain ⟨h2, e2, f2, t2, g15, g21, z1, z2⟩ := m_read N hN w6 m4 m6 m7 rg
    obtain ⟨z3, z4⟩ := z1 q
    exact ⟨h2, e2, t2, rcx.ag (f2.ag rfl), m1.ag (f2.ag rfl), m2.ag (f2.ag rfl), m3.ag (f2.ag rfl), ⟨g15, fun k hk => absurd hk (Nat.not_lt_zero k)⟩, m5.ag (f2.ag rfl), z4, z3, g21⟩
  · obtain ⟨y2, y3, y4⟩ := n1 q
    have tab : Ctab n E an A cs h1 := by
      refine c7.ag (fun c k hk => ?_)
      have hk' := inL_iff.mp hk
      obtain ⟨e, he, k1, k2, k3⟩ := hk'
      have : e = (47,1,3) ∨ e = (48,0,0) := by
        have := he
        unfold DCtab at this
        simpa using this
      rcases this with rfl | rfl
      · have c47 : c = 47 := k1.symm
        subst c47
        have k12 : k = 1 ∨ k = 2 := by
          have a1 : 1 ≤ k := k2
          have a2 : (3 : Nat) = 0 ∨ k < 3 := k3
          omega
        rcases k12 with rfl | rfl
        · exact (f1.1 47 1 rfl).1
        · exact y3
      · have c48 : c = 48 := k1.symm
        subst c48
        exact (f1.1 48 k rfl).1
    refine ⟨_, h1, ((n, E), (L, lp), (m, cr), (0, tb), (wn, wb), b, (cs, an, A), (rdR tn tb).1), e1, ⟨w1, w2, w3, w4, w5, t0, w7, w8, w9, rg.1⟩, ⟨c1.ag (f1.ag rfl), c2.ag (f1.ag rfl), c3.ag (f1.ag rfl), ⟨g26, fun k hk => absurd hk (Nat.not_lt_zero k)⟩, c5.ag (f1.ag rfl), y4, tab, y2, g10⟩, rm.ag (f1.ag rfl), fun hx rcx rmx => ?_⟩
    have m' : RMx n E L lp m cr tn tb wn wb b an A cs f hx := rmx
    obtain ⟨m1, m2, m3, m4, m5, m6, m7, m8⟩ := m'
    obtain ⟨h2, e2, f2, t2, g15, g21, z1, z2⟩ := m_read N hN w6 m4 m6 m7 rg
    obtain ⟨z3, z4⟩ := z2 q
    exact ⟨h2, e2, t2, rcx.ag (f2.ag rfl), m1.ag (f2.ag rfl), m2.ag (f2.ag rfl), m3.ag (f2.ag rfl), ⟨g15, fun k hk => absurd hk (Nat.not_lt_zero k)⟩, m5.ag (f2.ag rfl), z4, z3, g21⟩
theorem q_clear (N : Nat) {a : Ab} {h : xHp} (w : RW a) (rc : RC a h) (rm : RM a h) : P1 (F_X8_clear N h) (F_X9_clear N) a := by
  obtain ⟨⟨n, E⟩, ⟨L, lp⟩, ⟨m, cr⟩, ⟨tn, tb⟩, ⟨wn, wb⟩, b, ⟨cs, an, A⟩, f⟩ := a
  have w' : RWx n E L lp m tn tb wn wb b an A cs f := w
  have c' : RCx n E L lp m cr tn tb wn wb b an A cs f h := rc
  obtain ⟨w1, w2, w3, w4, w5, w6, w7, w8, w9, w10⟩ := w'
  obtain ⟨c1, c2, c3, c4, c5, c6, c7, c8, c9⟩ := c'
  have nil : ∀ {P : Nat → Prop} (k : Nat), k < 0 → P k := fun k hk => absurd hk (Nat.not_lt_zero k)
  obtain ⟨h1, e1, f1, r1⟩ := c_cutTo N (n := 0) c1 (by omega) (by omega)
  unfold F_X8_clear F_X1_makeEmpty_30
  rw [show (0 : Int32) = nI 0 from rfl, e1, bnd2_p]
  simp only [bnd_eq, bnd2_p]
  have f2 : FL [(0,2,3),(0,4,5),(26,1,2),(28,1,2),(30,3,4),(30,6,7),(0,9,11),(47,2,3)] h1 (sI (sI (sI (sI (sI (sI (sI (sI (sI h1 0 2 (nI 0)) 0 4 (nI 0)) 26 1 (nI 0)) 28 1 (nI 0)) 30 3 (nI 0)) 30 6 (nI 0)) 0 9 (nI 0)) 0 10 (nI 0)) 47 2 (nI 0)) := ((((FL.i _ rfl).trans (FL.i _ rfl)).trans ((FL.i _ rfl).trans (FL.i _ rfl))).trans (((FL.i _ rfl).trans (FL.i _ rfl)).trans ((FL.i _ rfl).trans (FL.i _ rfl)))).trans (FL.i _ rfl)
  have f12 : FL [(1,3,4),(0,2,3),(0,4,5),(26,1,2),(28,1,2),(30,3,4),(30,6,7),(0,9,11),(47,2,3)] h (sI (sI (sI (sI (sI (sI (sI (sI (sI h1 0 2 (nI 0)) 0 4 (nI 0)) 26 1 (nI 0)) 28 1 (nI 0)) 30 3 (nI 0)) 30 6 (nI 0)) 0 9 (nI 0)) 0 10 (nI 0)) 47 2 (nI 0)) := FL.cat f1 f2 rfl rfl
  refine ⟨(), _, ((0, E), (0, lp), (0, cr), (0, tb), (0, wb), false, ([], 0, A), 0), rfl, ⟨⟨by show 0 ≤ 70; omega, nil⟩, by show 0 ≤ 60; omega, w3.mono (by show 0 ≤ n; omega), ⟨by show 0 ≤ 20; omega, nil, fun j k _ hk => absurd hk (Nat.not_lt_zero k)⟩, by show 0 ≤ 16; omega, ⟨by show 0 ≤ 400; omega, nil⟩, ⟨by show 0 ≤ 6000; omega, nil⟩, fun z => absurd z (show ¬ (false = true) by decide), fun _ => ⟨rfl, rfl⟩, by show 0 ≤ 5; omega⟩, ⟨r1.ag (f2.ag rfl), ⟨?_, nil⟩, ⟨?_, nil⟩, ⟨?_, nil⟩, ⟨?_, nil⟩, ⟨?_, nil, ?_, nil⟩, Or.inl ?_, ?_, ?_⟩, rm.ag (f12.ag rfl), fun hx rcx rmx => ?_⟩
  · simp +decide only [gI_sI, if_false, if_true]
  · simp +decide only [gI_sI, if_false, if_true]
  · simp +decide only [gI_sI, if_false, if_true]
  · simp +decide only [gI_sI, if_false, if_true]
  · simp +decide only [gI_sI, if_false, if_true]
  · simp +decide only [gI_sI, if_false, if_true]
  · simp +decide only [gI_sI, if_false, if_true]
  · simp +decide only [gI_sI, if_false, if_true]
  · simp +decide only [gI_sI, if_false, if_true]
  · have f3 : FL [(51,0,2),(51,6,7),(51,8,9),(51,15,16),(51,21,22),(51,23,25),(51,28,29),(51,43,44)] hx (sI (sI (sI (sI (sI (sI (sI (sI (sI (sI hx 51 0 0) 51 1 0) 51 6 0) 51 8 0) 51 15 0) 51 21 0) 51 23 0) 51 24 0) 51 28 0) 51 43 0) := ((((FL.i _ rfl).trans (FL.i _ rfl)).trans ((FL.i _ rfl).trans (FL.i _ rfl))).trans (((FL.i _ rfl).trans (FL.i _ rfl)).trans ((FL.i _ rfl).trans (FL.i _ rfl)))).trans ((FL.i _ rfl).trans (FL.i _ rfl))
    refine ⟨_, by unfold F_X9_clear; simp only [bnd_eq], ?_, rcx.ag (f3.ag rfl), ⟨⟨by show 0 ≤ 60; omega, ?_, nil⟩, ⟨?_, nil⟩, ⟨?_, nil⟩, ⟨?_, nil⟩, ⟨?_, nil⟩, ⟨?_, nil, ?_, nil⟩, ?_, ?_⟩⟩
    · simp +decide only [gI_sI, if_false, if_true]
    · simp +decide only [gI_sI, if_false, if_true]
    · simp +decide only [gI_sI, if_false, if_true]
    · simp +decide only [gI_sI, if_false, if_true]
    · simp +decide only [gI_sI, if_false, if_true]
    · simp +decide only [gI_sI, if_false, if_true]
    · simp +decide only [gI_sI, if_false, if_true]
    · simp +decide only [gI_sI, if_false, if_true]
    · simp +decide only [gI_sI, if_false, if_true]
    · simp +decide only [gI_sI, if_false, if_true]
