/-! CALLS: add and constraint -/
theorem a47 (N : Nat) {x1 x2 x3 s1 s2 s3 : Int32} {h : xHp} (hs : s1 = 0 ∨ s2 = 0 ∨ s3 = 0) : F_X9_add_47 N x1 x2 x3 s3 s2 s1 h = some (0, sI h 51 0 (if s1 = 0 then 1 else if s2 = 0 then 2 else 3)) := by
  unfold F_X9_add_47
  rw [p_may, bnd2_p, if_pos hs, if_pos rfl]
  by_cases z1 : s1 = 0
  · rw [if_pos z1, if_pos z1]
  · rw [if_neg z1, if_neg z1]
    by_cases z2 : s2 = 0
    · rw [if_pos z2, if_pos z2]
    · rw [if_neg z2, if_neg z2, if_pos (by rcases hs with z | z | z
                                           · exact absurd z z1
                                           · exact absurd z z2
                                           · exact z)]
theorem q_add (N : Nat) (hN : 7000 ≤ N) {a : Ab} {h : xHp} (p q c : Int32) (w : RW a) (rc : RC a h) (rm : RM a h) : P1 (F_X8_add N p q c h) (F_X9_add N p q c) a ∨ P2 (F_X8_add_T N p q c h) (F_X9_add N p q c) [(1, 1), (2, 2), (3, 3)] a := by
  obtain ⟨⟨n, E⟩, ⟨L, lp⟩, ⟨m, cr⟩, ⟨tn, tb⟩, ⟨wn, wb⟩, b, ⟨cs, an, A⟩, f⟩ := a
  have w' : RWx n E L lp m tn tb wn wb b an A cs f := w
  have c' : RCx n E L lp m cr tn tb wn wb b an A cs f h := rc
  obtain ⟨w1, w2, w3, w4, w5, w6, w7, w8, w9, w10⟩ := w'
  obtain ⟨c1, c2, c3, c4, c5, c6, c7, c8, c9⟩ := c'
  have e22 : ∀ (s : Int32) (hx : xHp), F_X9_add_22 N p q c s hx = F_X9_add_47 N p q c (if (60 : Int32) ≤ gI hx 51 1 then 0 else 1) (if -1000000 ≤ c ∧ c ≤ 1000000 then 1 else 0) s hx := fun s hx => by
    unfold F_X9_add_22
    rw [m_isC, bnd2_p]
    by_cases z : (60 : Int32) ≤ gI hx 51 1
    · rw [if_pos z, if_pos z]
    · rw [if_neg z, if_neg z]
  have no : (p < 0 ∨ 16 ≤ p) ∨ (q < 0 ∨ 16 ≤ q) → P2 (F_X8_add_T N p q c h) (F_X9_add N p q c) [(1, 1), (2, 2), (3, 3)] ((n, E), (L, lp), (m, cr), (tn, tb), (wn, wb), b, (cs, an, A), f) := fun z => by
    refine ⟨1, 1, h, ?_, List.mem_cons_self, rc, rm, fun hx rcx rmx => ⟨0, sI hx 51 0 1, ?_, told_by rcx rmx⟩⟩
    · unfold F_X8_add_T
      exact varT N (α := Nat) _ z
    · have e21 : F_X9_add_21 N p q c hx = some (0, sI hx 51 0 1) := by
        unfold F_X9_add_21
        rw [e22, a47 N (Or.inl rfl), if_pos rfl]
      unfold F_X9_add
      rcases var16 p with ⟨x, hx', rfl⟩ | hp'
      · rw [p_isVar N hx', bnd2_p, if_neg (by decide)]
        rcases z with z | z
        · exfalso
          rcases z with z | z
          · exact nI_pos (by omega) z
          · rw [show (16 : Int32) = nI 16 from rfl] at z; exact nI_ge hx' (by decide) z
        · rw [p_isVarN N z, bnd2_p, if_pos rfl, e21]
      · rw [p_isVarN N hp', bnd2_p, if_pos rfl, e21]
  rcases var16 p with ⟨x, hx, rfl⟩ | hp
  · rcases var16 q with ⟨y, hy, rfl⟩ | hq
    · have e9 : ∀ hq, F_X9_add N (nI x) (nI y) c hq = F_X9_add_47 N (nI x) (nI y) c (if (60 : Int32) ≤ gI hq 51 1 then 0 else 1) (if -1000000 ≤ c ∧ c ≤ 1000000 then 1 else 0) 1 hq := fun hq => by
        unfold F_X9_add
        rw [p_isVar N hx, bnd2_p, if_neg (show ¬ (1 : Int32) = 0 by decide), p_isVar N hy, bnd2_p, if_neg (show ¬ (1 : Int32) = 0 by decide), e22]
      have eT : F_X8_add_T N (nI x) (nI y) c h = if c < (-1000000) then some (2, h) else if c ≤ 1000000 then if (gI h 1 3) < 60 then bnd2 (F_X2_refuses N (nI x) (nI y) c h) fun r5 h6 => if r5 = 0 then bnd2 (F_X2_append N (nI x) (nI y) c h6) fun r7 h8 => bnd (sI h8 47 2 0) fun h9 => none else bnd2 (F_X8_keepCore N h6) fun r10 h11 => none else some (3, h) else some (2, h) := by
        unfold F_X8_add_T F_X8_add_T_22
        rw [(p_reqV N hx h).2, (p_reqV N hx h).1, bnd2_p, (p_reqV N hy h).2, (p_reqV N hy h).1, bnd2_p]
        rfl
      by_cases r : -1000000 ≤ c ∧ c ≤ 1000000
      · by_cases r6 : n < 60
        · left
          rcases c_add N (by omega) w1 w3 c1 r6 hx hy r.1 r.2 with ⟨J, l, h1, d1, d2, d3, d4, d5, d6⟩ | ⟨d1, h1, d2, d3, d4, d5⟩
          · refine ⟨_, h1, ((n, E), (L, lp), (J + 1, fun k => if k = 0 then -1 else nI (l.getD (k - 1) 0)), (tn, tb), (wn, wb), b, (cs, an, A), f), d4, ⟨w1, w2, w3, w4, by show J + 1 ≤ 16; omega, w6, w7, w8, w9, w10⟩, ⟨c1.ag (d5.ag rfl), c2.ag (d5.ag rfl), d6, c4.ag (d5.ag rfl), c5.ag (d5.ag rfl), c6.ag (d5.ag rfl), c7.ag (d5.ag rfl), (d5.1 0 9 rfl).1.trans c8, (d5.1 0 10 rfl).1.trans c9⟩, rm.ag (d5.ag rfl), fun hq rcx rmx => ?_⟩
            have m' : RMx n E L lp m cr tn tb wn wb b an A cs f hq := rmx
            obtain ⟨m1, m2, m3, m4, m5, m6, m7, m8⟩ := m'
            rcases m_add N (by omega) w1 w3 m1 r6 hx hy r.1 r.2 with ⟨J', l', h2, y1, y2, y3, y4, y5, y6, y7⟩ | ⟨y1, _⟩
            · have eJ : J = J' := Short.uni d2 y2
              subst eJ
              have el := RowOf.uni d3 y3
              subst el
              exact ⟨h2, y4, y6, rcx.ag (y5.ag rfl), m1.ag (y5.ag rfl), m2.ag (y5.ag rfl), y7, m4.ag (y5.ag rfl), m5.ag (y5.ag rfl), m6.ag (y5.ag rfl), (y5.1 51 23 rfl).1.trans m7, (y5.1 51 21 rfl).1.trans m8⟩
            · obtain ⟨⟨s, wk, le⟩, _⟩ := d2
              exact absurd le (y1 J s wk)
          · have ci := lt_c r.1 r.2
            have nw : RWx (n + 1) (upE E n (x, y, c.toInt)) L lp m tn tb wn wb b an A cs f := ⟨w1.more (by omega) hx hy (by omega) (by omega), by omega, w3.more d1, ⟨w4.1, fun k hk => Nat.le_succ_of_le (w4.2.1 k hk), w4.2.2⟩, w5, w6, w7, w8, w9, w10⟩
            refine ⟨_, h1, ((n + 1, upE E n (x, y, c.toInt)), (L, lp), (m, cr), (tn, tb), (wn, wb), b, (cs, an, A), f), d2, nw, ⟨d4, c2.ag (d3.ag rfl), c3.ag (d3.ag rfl), c4.ag (d3.ag rfl), c5.ag (d3.ag rfl), c6.ag (d3.ag rfl), Or.inl d5, (d3.1 0 9 rfl).1.trans c8, (d3.1 0 10 rfl).1.trans c9⟩, rm.ag (d3.ag rfl), fun hq rcx rmx => ?_⟩
            have m' : RMx n E L lp m cr tn tb wn wb b an A cs f hq := rmx
            obtain ⟨m1, m2, m3, m4, m5, m6, m7, m8⟩ := m'
            rcases m_add N (by omega) w1 w3 m1 r6 hx hy r.1 r.2 with ⟨J', l', h2, y1, y2, y3, y4, y5, y6, y7⟩ | ⟨y1, h2, y2, y3, y4, y5⟩
            · obtain ⟨⟨s, wk, le⟩, _⟩ := y2
              exact absurd le (d1 J' s wk)
            · exact ⟨h2, y2, y4, rcx.ag (y3.ag rfl), y5, m2.ag (y3.ag rfl), m3.ag (y3.ag rfl), m4.ag (y3.ag rfl), m5.ag (y3.ag rfl), m6.ag (y3.ag rfl), (y3.1 51 23 rfl).1.trans m7, (y3.1 51 21 rfl).1.trans m8⟩
        · right
          have en : n = 60 := by omega
          refine ⟨3, 3, h, ?_, List.mem_cons_of_mem _ (List.mem_cons_of_mem _ (List.mem_singleton.mpr rfl)), rc, rm, fun hq rcx rmx => ⟨0, sI hq 51 0 3, ?_, told_by rcx rmx⟩⟩
          · rw [eT, if_neg (Int32.not_lt.mpr r.1), if_pos r.2, c1.1, if_neg (by rw [en]; decide)]
          · have m1 : Mcon n E hq := rmx.1
            rw [e9, m1.2.1, if_pos (show (60 : Int32) ≤ nI n by rw [en]; decide), if_pos r, a47 N (Or.inr (Or.inr rfl)), if_neg (by decide), if_neg (by decide)]
      · right
        refine ⟨2, 2, h, ?_, List.mem_cons_of_mem _ List.mem_cons_self, rc, rm, fun hq rcx rmx => ⟨0, sI hq 51 0 2, ?_, told_by rcx rmx⟩⟩
        · rw [eT]
          by_cases z : c < -1000000
          · rw [if_pos z]
          · rw [if_neg z, if_neg (fun y => r ⟨Int32.not_lt.mp z, y⟩)]
        · rw [e9, if_neg r, a47 N (Or.inr (Or.inl rfl)), if_neg (by decide), if_pos rfl]
    · exact Or.inr (no (Or.inr hq))
  · exact Or.inr (no (Or.inl hp))
/-- levels at or before a constraint -/
def cL (lp : Nat → Nat) (j : Nat) : Nat → Nat
  | 0 => 0
  | k + 1 => cL lp j k + (if j < lp k then 0 else 1)
theorem cL_le {lp : Nat → Nat} {j : Nat} : ∀ k, cL lp j k ≤ k := by
  intro k
  induction k with
  | zero => exact Nat.le_refl 0
  | succ k ih =>
    show cL lp j k + (if j < lp k then 0 else 1) ≤ k + 1
    by_cases q : j < lp k
    · rw [if_pos q]; omega
    · rw [if_neg q]; omega
theorem c_levels (N : Nat) {L n j : Nat} {lp : Nat → Nat} {h : xHp} (lw : Lwf L lp n) (hn : n ≤ 60) (hj : j < 70) (c : Clev L lp h) : ∀ (z i : Nat), i ≤ L → L < z + i → xit (F_X8_levelsBefore_4_b N) (fun _ _ _ _ => none) z (nI j) (nI (cL lp j i)) (nI i) h = some (nI (cL lp j L), h) := by
  have l20 := lw.1
  intro z
  induction z with
  | zero => intro i h1 h2; omega
  | succ z ih =>
    intro i h1 h2
    show F_X8_levelsBefore_4_b N (xit (F_X8_levelsBefore_4_b N) (fun _ _ _ _ => none) z) (nI j) (nI (cL lp j i)) (nI i) h = _
    generalize xit (F_X8_levelsBefore_4_b N) (fun _ _ _ _ => none) z = K at ih ⊢
    unfold F_X8_levelsBefore_4_b F_X8_levelsBefore_25
    rw [c.1]
    by_cases q : i = L
    · subst q
      rw [if_pos (nI_le (Nat.le_refl _) (by omega))]
    · have hi : i < L := by omega
      have ln := lw.2.1 i hi
      rw [if_neg (nI_ge hi (by omega)), grd_t (xin_nI (show i < 20 by omega) (by decide)), nI_cl (by omega), c.2 i hi]
      simp only [nI_ltI (show j < 2 ^ 31 by omega) (show lp i < 2 ^ 31 by omega)]
      have e := ih (i + 1) (by omega) (by omega)
      rw [show cL lp j (i + 1) = cL lp j i + (if j < lp i then 0 else 1) from rfl] at e
      by_cases q2 : j < lp i
      · rw [if_pos q2] at e ⊢; rw [nI_1]; exact e
      · rw [if_neg q2] at e ⊢; rw [nI_1, nI_1]; exact e
def cEnd (N : Nat) (x1 x2 x3 : Int32) (h : xHp) : Option (Int32 × xHp) := if x2 = 0 then grd (xin x1 70) (some ((gI h 52 x1.toNatClampNeg), h)) else if x2 = 1 then grd (xin x1 70) (some ((gI h 53 x1.toNatClampNeg), h)) else if x2 = 2 then grd (xin x1 70) (some ((gI h 54 x1.toNatClampNeg), h)) else if x2 = 3 then bnd2 (F_X9_isIdle N x1 h) fun r1 h2 => if r1 = 0 then some (0, h2) else some (1, h2) else some (x3, h)
theorem m_levels (N : Nat) {L n j : Nat} {lp : Nat → Nat} {h : xHp} {u : Int32} (lw : Lwf L lp n) (hn : n ≤ 60) (hj : j < 70) (c : Mlev L lp h) : ∀ (z i : Nat), i ≤ L → L < z + i → xit (F_X9_constraint_37_b N) (fun _ _ _ _ _ => none) z (nI j) u (nI (cL lp j i)) (nI i) h = cEnd N (nI j) u (nI (cL lp j L)) h := by
  have l20 := lw.1
  intro z
  induction z with
  | zero => intro i h1 h2; omega
  | succ z ih =>
    intro i h1 h2
    show F_X9_constraint_37_b N (xit (F_X9_constraint_37_b N) (fun _ _ _ _ _ => none) z) (nI j) u (nI (cL lp j i)) (nI i) h = _
    generalize xit (F_X9_constraint_37_b N) (fun _ _ _ _ _ => none) z = K at ih ⊢
    unfold F_X9_constraint_37_b F_X9_constraint_63
    rw [c.1]
    by_cases q : i = L
    · subst q
      rw [if_pos (nI_le (Nat.le_refl _) (by omega))]
      rfl
    · have hi : i < L := by omega
      have ln := lw.2.1 i hi
      rw [if_neg (nI_ge hi (by omega)), grd_t (xin_nI (show i < 20 by omega) (by decide)), nI_cl (by omega), c.2 i hi]
      simp only [nI_ltI (show j < 2 ^ 31 by omega) (show lp i < 2 ^ 31 by omega)]
      have e := ih (i + 1) (by omega) (by omega)
      rw [show cL lp j (i + 1) = cL lp j i + (if j < lp i then 0 else 1) from rfl] at e
      by_cases q2 : j < lp i
      · rw [if_pos q2] at e ⊢; rw [nI_1, show nI (cL lp j i) + 0 = nI (cL lp j i + 0) from Int32.add_zero _]; exact e
      · rw [if_neg q2] at e ⊢; rw [nI_1, nI_1]; exact e
theorem q_idle (N : Nat) (hN : 7000 ≤ N) {n j : Nat} {E : Ed} {h : xHp} (w1 : Ewf n E) (w2 : n ≤ 60) (w3 : Epot n E) (c1 : Ccon n E h) (hj : j < n) : ∃ B h1, (bnd2 (F_X2_leastSum N (gI h 2 j) (gI h 3 j) (nI j) h) fun r2 h3 => if 0 < (lg_cmp r2 ((gI h3 4 j).toInt64)) then some ((0 : Int32), h3) else some (1, h3)) = some (b32 B, h1) ∧ FL LN h h1 ∧ ∀ hq, Mcon n E hq → ∃ h2, F_X9_isIdle N (nI j) hq = some (b32 B, h2) ∧ FL [(55,0,0),(58,0,0)] hq h2 := by
  obtain ⟨x1, x2, x3⟩ := c1.2 j hj
  obtain ⟨v1, v2, v3, v4⟩ := w1.2 j hj
  obtain ⟨L1, h1, R, e1, f1, mc, ls1⟩ := c_least N (by omega) (sk := nI j) w1 w3 c1 v1 v2
  have g4 : gI h1 4 j = gI h 4 j := (f1.1 4 j rfl).1
  refine ⟨decide (L1.toInt ≤ (E j).2.2), h1, ?_, f1, fun hq m1 => ?_⟩
  · rw [x1, x2, e1, bnd2_p, g4]
    simp only [lg_cmp_gt]
    by_cases z : L1.toInt ≤ (E j).2.2
    · rw [if_neg (by rw [Int64.lt_iff_toInt_lt, i32_64, x3]; omega), decide_eq_true z]; rfl
    · rw [if_pos (by rw [Int64.lt_iff_toInt_lt, i32_64, x3]; omega), decide_eq_false z]; rfl
  · obtain ⟨h3, e3, fr3, g3⟩ := p_alone N (by omega) (show n ≤ 70 by omega) m1.2.1
    have f3 := P55_L fr3
    have m3 := m1.ag (f3.ag rfl)
    have f4 : FL [(55,0,0)] h3 (sI h3 55 j 0) := FL.i h3 rfl
    have m4 := m3.ag (f4.ag rfl)
    have g5 : ∀ i, i < 70 → gI (sI h3 55 j 0) 55 i = if i < n ∧ i ≠ j then 1 else 0 := fun i hi => by
      rw [gI_sI, if_pos rfl]
      by_cases q : i = j
      · rw [if_pos q, if_neg (fun z => z.2 q)]
      · rw [if_neg q, g3 i hi]
        by_cases q2 : i < n
        · rw [if_pos q2, if_pos ⟨q2, q⟩]
        · rw [if_neg q2, if_neg (fun z => q2 z.1)]
    have ho : ∀ e, okM (sI h3 55 j 0) e ↔ okC n (nI j) e := fun e => by
      unfold okM okC
      constructor
      · rintro ⟨a, b⟩
        rw [g5 e a] at b
        by_cases q : e < n ∧ e ≠ j
        · exact ⟨q.1, fun z => q.2 ((nI_eq (by omega) (by omega)).mp z)⟩
        · rw [if_neg q] at b; exact absurd rfl b
      · rintro ⟨a, b⟩
        refine ⟨by omega, ?_⟩
        rw [g5 e (by omega), if_pos ⟨a, fun z => b (by rw [z])⟩]
        decide
    have hE : ∀ e, e < n → edM (sI h3 55 j 0) e = E e := fun e he => by
      obtain ⟨a1, a2, a3⟩ := m4.2.2 e he
      obtain ⟨b1, b2, b3, b4⟩ := w1.2 e he
      unfold edM
      rw [a1, a2, a3, nI_cl (by omega), nI_cl (by omega)]
    have k1 : wfM (sI h3 55 j 0) := fun e he => by
      have he' : e < n := ((ho e).mp he).1
      obtain ⟨a1, a2, a3⟩ := m4.2.2 e he'
      obtain ⟨b1, b2, b3, b4⟩ := w1.2 e he'
      exact ⟨⟨_, b1, a1⟩, ⟨_, b2, a2⟩, by omega, by omega⟩
    obtain ⟨v, hv⟩ := w3
    have hv' : Pot E (okC n (nI j)) v := fun e he => hv e he.1
    obtain ⟨L2, h5, e5, f5, ls2⟩ := m_boundOf N (by omega) k1 ho (fun e he => hE e ((ho e).mp he).1) v1 v2 hv'
    obtain ⟨y1, y2, y3⟩ := m4.2.2 j hj
    have y3' : (gI h5 54 j).toInt = (E j).2.2 := by rw [(f5.1 54 j rfl).1]; exact y3
    have i70 : xin (nI j) 70 = true := xin_nI (by omega) (by decide)
    refine ⟨h5, ?_, FL.cat f3 (FL.cat f4 f5 rfl rfl : FL [(55,0,0),(58,0,0)] _ _) rfl rfl⟩
    unfold F_X9_isIdle
    rw [e3, bnd2_p, grd_t i70, nI_cl (by omega), nar0, bnd_eq, grd_t i70, grd_t i70, y1, y2, e5, bnd2_p, grd_t i70]
    simp only [lg_cmp_gt]
    have key : L1.toInt ≤ (E j).2.2 ↔ L2.toInt ≤ (E j).2.2 := by
      rcases Lst.two ls1 ls2 xMAX_b xFAR_b with ⟨a1, a2, _⟩ | ⟨a1, _⟩
      · rw [a1, a2, xMAX_toInt, xFAR_toInt]; omega
      · rw [a1]
    by_cases z : L1.toInt ≤ (E j).2.2
    · have z' := key.mp z
      rw [if_neg (by rw [Int64.lt_iff_toInt_lt, i32_64, y3']; omega), decide_eq_true z]; rfl
    · have z' : ¬ L2.toInt ≤ (E j).2.2 := fun y => z (key.mpr y)
      rw [if_pos (by rw [Int64.lt_iff_toInt_lt, i32_64, y3']; omega), decide_eq_false z]; rfl
theorem q_constraint (N : Nat) (hN : 7000 ≤ N) {a : Ab} {h : xHp} (p u : Int32) (w : RW a) (rc : RC a h) (rm : RM a h) : P1 (F_X8_constraint N p u h) (F_X9_constraint N p u) a ∨ P2 (F_X8_constraint_T N p u h) (F_X9_constraint N p u) [(1, 1), (2, 2)] a := by
  obtain ⟨⟨n, E⟩, ⟨L, lp⟩, ⟨m, cr⟩, ⟨tn, tb⟩, ⟨wn, wb⟩, b, ⟨cs, an, A⟩, f⟩ := a
  have w' : RWx n E L lp m tn tb wn wb b an A cs f := w
  have c' : RCx n E L lp m cr tn tb wn wb b an A cs f h := rc
  obtain ⟨w1, w2, w3, w4, w5, w6, w7, w8, w9, w10⟩ := w'
  obtain ⟨c1, c2, c3, c4, c5, c6, c7, c8, c9⟩ := c'
  have l20 := w4.1
  have is4 : ∀ hx, F_X9_isIn N u.toInt64 0 4 hx = some (if 0 ≤ u ∧ u ≤ 4 then 1 else 0, hx) := fun hx => by
    rw [p_isIn, show (4 : Int64) = (4 : Int32).toInt64 by decide]; simp only [i64_0le, i64_le]
  have no : p < 0 ∨ nI n ≤ p → P2 (F_X8_constraint_T N p u h) (F_X9_constraint N p u) [(1, 1), (2, 2)] ((n, E), (L, lp), (m, cr), (tn, tb), (wn, wb), b, (cs, an, A), f) := fun q => by
    refine ⟨1, 1, h, ?_, List.mem_cons_self, rc, rm, fun hx rcx rmx => ⟨0, sI hx 51 0 1, ?_, told_by rcx rmx⟩⟩
    · unfold F_X8_constraint_T F_X8_constraint_T_15
      rw [c1.1]
      rcases q with q | q
      · rw [if_pos q]
      · rw [if_neg (show ¬ p < nI n from Int32.not_lt.mpr q)]; exact ite_same rfl rfl
    · have m1 : Mcon n E hx := rmx.1
      unfold F_X9_constraint
      rw [m1.2.1, p_ixN N q (by omega), bnd2_p, is4, bnd2_p, p_may, bnd2_p]
      simp +decide only [if_true, true_or]
  rcases pk_ix p (n := n) (by omega) with q | q | ⟨j, hj, rfl⟩
  · exact Or.inr (no (Or.inl q))
  · exact Or.inr (no (Or.inr q))
  · have i70 : xin (nI j) 70 = true := xin_nI (by omega) (by decide)
    have jc : (nI j).toNatClampNeg = j := nI_cl (by omega)
    by_cases q : 0 ≤ u ∧ u ≤ 4
    · left
      obtain ⟨i, hi, rfl⟩ : ∃ i, i < 5 ∧ u = nI i := nI_lt_p (by decide) (Int32.not_lt.mpr q.1) (Int32.lt_of_le_of_lt q.2 (by decide))
      have e9 : ∀ hx, RMx n E L lp m cr tn tb wn wb b an A cs f hx → F_X9_constraint N (nI j) (nI i) hx = cEnd N (nI j) (nI i) (nI (cL lp j L)) (sI hx 51 0 0) := fun hx r => by
        unfold F_X9_constraint F_X9_constraint_37
        rw [r.1.2.1, p_ixY N hj (by omega), bnd2_p, is4, if_pos q, bnd2_p, p_may, bnd2_p]
        simp +decide only [if_false, if_true]
        have f2 : FL [(51,0,1)] hx (sI hx 51 0 0) := FL.i hx rfl
        exact m_levels N w4 w2 (by omega) (r.2.1.ag (f2.ag rfl)) N 0 (by omega) (by omega)
      have e8 : F_X8_constraint N (nI j) (nI i) h = if nI i = 0 then some (gI h 2 j, h) else if nI i = 1 then some (gI h 3 j, h) else if nI i = 2 then some (gI h 4 j, h) else if nI i = 3 then (bnd2 (F_X2_leastSum N (gI h 2 j) (gI h 3 j) (nI j) h) fun r2 h3 => if 0 < (lg_cmp r2 ((gI h3 4 j).toInt64)) then some (0, h3) else some (1, h3)) else if nI i = 4 then bnd2 (F_X8_levelsBefore N (nI j) h) fun r4 h5 => some (r4, h5) else none := by
        unfold F_X8_constraint
        rw [if_neg (nI_pos (by omega)), c1.1, if_pos (nI_lt hj (by omega)), jc]
        simp only [grd_t i70]
      have fin : ∀ V : Int32, F_X8_constraint N (nI j) (nI i) h = some (V, h) → (∀ hx, RMx n E L lp m cr tn tb wn wb b an A cs f hx → F_X9_constraint N (nI j) (nI i) hx = some (V, sI hx 51 0 0)) → P1 (F_X8_constraint N (nI j) (nI i) h) (F_X9_constraint N (nI j) (nI i)) ((n, E), (L, lp), (m, cr), (tn, tb), (wn, wb), b, (cs, an, A), f) := fun V e1 e2 => ⟨V, h, _, e1, w, rc, rm, fun hx rcx rmx => ⟨sI hx 51 0 0, e2 hx rmx, told_by rcx rmx⟩⟩
      have ag : ∀ hx, Ag DMcon hx (sI hx 51 0 0) := fun hx => (FL.i hx rfl : FL [(51,0,1)] hx (sI hx 51 0 0)).ag rfl
      obtain ⟨k1, k2, k3⟩ := c1.2 j hj
      have c5' : i = 0 ∨ i = 1 ∨ i = 2 ∨ i = 3 ∨ i = 4 := by omega
      unfold cEnd at e9
      rcases c5' with rfl | rfl | rfl | rfl | rfl
      · refine fin (nI (E j).1) (by rw [e8, if_pos (by decide), k1]) (fun hx r => ?_)
        have m1 := r.1.ag (ag hx)
        rw [e9 hx r, if_pos (by decide), grd_t i70, jc, (m1.2.2 j hj).1]
      · refine fin (nI (E j).2.1) (by rw [e8, if_neg (by decide), if_pos (by decide), k2]) (fun hx r => ?_)
        have m1 := r.1.ag (ag hx)
        rw [e9 hx r, if_neg (by decide), if_pos (by decide), grd_t i70, jc, (m1.2.2 j hj).2.1]
      · refine fin (gI h 4 j) (by rw [e8, if_neg (by decide), if_neg (by decide), if_pos (by decide)]) (fun hx r => ?_)
        have m1 := r.1.ag (ag hx)
        rw [e9 hx r, if_neg (by decide), if_neg (by decide), if_pos (by decide), grd_t i70, jc, show gI (sI hx 51 0 0) 54 j = gI h 4 j from Int32.toInt_inj.mp (by rw [(m1.2.2 j hj).2.2, k3])]
      · obtain ⟨B, h1, e1, f1, go⟩ := q_idle N hN w1 w2 w3 c1 hj
        rw [e8, if_neg (by decide), if_neg (by decide), if_neg (by decide), if_pos (by decide), e1]
        refine ⟨_, h1, ((n, E), (L, lp), (m, cr), (tn, tb), (wn, wb), b, (cs, an, A), f), rfl, w, rc.ag (f1.ag rfl), rm.ag (f1.ag rfl), fun hx rcx rmx => ?_⟩
        have f2 : FL [(51,0,1)] hx (sI hx 51 0 0) := FL.i hx rfl
        have m1 : Mcon n E hx := rmx.1
        obtain ⟨h2, e2, f3⟩ := go (sI hx 51 0 0) (m1.ag (ag hx))
        have f23 : FL [(51,0,1),(55,0,0),(58,0,0)] hx h2 := FL.cat f2 f3 rfl rfl
        refine ⟨h2, ?_, by rw [(f3.1 51 0 rfl).1, gI_sI, if_pos rfl, if_pos rfl], rcx.ag (f23.ag rfl), rmx.ag (f23.ag rfl)⟩
        rw [e9 hx rmx, if_neg (by decide), if_neg (by decide), if_neg (by decide), if_pos (by decide), e2, bnd2_p]
        cases B <;> rfl
      · have lv : F_X8_levelsBefore N (nI j) h = some (nI (cL lp j L), h) := by
          unfold F_X8_levelsBefore F_X8_levelsBefore_4
          exact c_levels N w4 w2 (by omega) c2 N 0 (by omega) (by omega)
        refine fin (nI (cL lp j L)) (by rw [e8, if_neg (by decide), if_neg (by decide), if_neg (by decide), if_neg (by decide), if_pos (by decide), lv, bnd2_p]) (fun hx r => ?_)
        rw [e9 hx r, if_neg (by decide), if_neg (by decide), if_neg (by decide), if_neg (by decide)]
    · right
      refine ⟨2, 2, h, ?_, List.mem_cons_of_mem _ (List.mem_singleton.mpr rfl), rc, rm, fun hx rcx rmx => ⟨0, sI hx 51 0 2, ?_, told_by rcx rmx⟩⟩
      · have ne : ∀ i : Nat, i < 5 → ¬ u = nI i := fun i hi z => q (by rw [z]; exact ⟨nI_pos' (by omega), nI_le (show i ≤ 4 by omega) (by decide)⟩)
        unfold F_X8_constraint_T
        rw [if_neg (nI_pos (by omega)), c1.1, if_pos (nI_lt hj (by omega)), if_neg (show ¬ u = 0 from ne 0 (by decide)), if_neg (show ¬ u = 1 from ne 1 (by decide)), if_neg (show ¬ u = 2 from ne 2 (by decide)), if_neg (show ¬ u = 3 from ne 3 (by decide)), if_neg (show ¬ u = 4 from ne 4 (by decide))]
      · have m1 : Mcon n E hx := rmx.1
        unfold F_X9_constraint
        rw [m1.2.1, p_ixY N hj (by omega), bnd2_p, is4, if_neg q, bnd2_p, p_may, bnd2_p]
        simp +decide only [if_false, if_true, true_or, or_true]
