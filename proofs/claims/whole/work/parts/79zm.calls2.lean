/-! CALLS: valueIn, value, bound, why -/
theorem x_valueInQ (N : Nat) (hN : 2000 ≤ N) {n an x : Nat} {b : Bool} {E A : Ed} {cs : List Nat} {h : xHp} {pr : Int32} (hx : x < 16) (p : b = true → PF n E an A cs) (r : CF n E an A cs h) (h8 : gI h 0 9 = b32 b) : ∃ V h1, F_X8_valueIn N pr (nI x) h = some (V, h1) ∧ FL (LFi ++ LVI) h h1 ∧ CF n E an A cs h1 ∧ ∀ hq, MF n E an A cs hq → gI hq 51 23 = b32 b → ∃ h2, F_X9_valueIn N pr (nI x) hq = some (V, h2) ∧ FL LMW hq h2 ∧ gI h2 51 0 = 0 := by
  have f0 : ∀ h1 : xHp, FL [(51,0,1)] h1 (sI h1 51 0 0) := fun h1 => FL.i h1 rfl
  have no9 : ∀ (h1 : xHp) (m' : Nat), m' < 2 ^ 30 → (pr < 0 ∨ nI m' ≤ pr) → F_X9_rows N (sI h1 51 0 0) = some (nI m', sI h1 51 0 0) → F_X9_valueIn N pr (nI x) h1 = some (-9223372036854775808, sI h1 51 0 0) := by
    intro h1 m' hm' hp hr
    unfold F_X9_valueIn F_X9_valueIn_56
    rw [p_isVar N hx, bnd2_p, p_may, bnd2_p]
    simp +decide only [if_false]
    rw [hr, bnd2_p, p_ixN N hp hm', bnd2_p, if_pos rfl]
  have th0 : ∀ h1 : xHp, gI (sI h1 51 0 0) 51 0 = 0 := fun h1 => by rw [gI_sI, if_pos rfl, if_pos rfl]
  cases b with
  | false =>
    have e8 : F_X8_valueIn N pr (nI x) h = some (-9223372036854775808, h) := by
      unfold F_X8_valueIn F_X8_valueIn_27
      rw [(p_reqV N hx h).1, bnd2_p, h8, if_pos (by decide)]
    refine ⟨_, h, e8, Fr.rf, r, fun hq mq q9 => ⟨sI hq 51 0 0, no9 hq 0 (by decide) ?_ (m_rows0 N (by rw [((f0 hq).1 51 23 rfl).1, q9]; rfl)), FL.sub (f0 hq) rfl, th0 hq⟩⟩
    by_cases q : pr < 0
    · exact Or.inl q
    · exact Or.inr (Int32.not_lt.mp q)
  | true =>
    have pp := p rfl
    have han := pp.2.2.2.1.1
    have p10 := pow10 han
    have e8 : F_X8_valueIn N pr (nI x) h = if pr < 0 then some (-9223372036854775808, h) else if pr < nI (2 ^ an) then bnd2 (F_X5_fill N h) fun r5 h6 => grd (xin pr 1024) (if (gI h6 48 pr.toNatClampNeg) = 0 then some ((-9223372036854775808), h6) else bnd2 (F_X1_giveRow_30 N pr h6) fun r7 h8 => F_X8_valueIn_73 N (nI x) (gI h6 1 3) 0 h8) else some (-9223372036854775808, h) := by
      unfold F_X8_valueIn F_X8_valueIn_27 F_X1_rows_30
      rw [(p_reqV N hx h).1, bnd2_p, h8, if_neg (by decide), bnd2_p, r.2.1.1, rows_2 an (by omega)]
    have rw9 : ∀ h1, MF n E an A cs h1 → gI h1 51 23 = 1 → F_X9_rows N (sI h1 51 0 0) = some (nI (2 ^ an), sI h1 51 0 0) := fun h1 m1 q1 => m_rows N han (m1.ag (f0 h1) rfl rfl) (by rw [((f0 h1).1 51 23 rfl).1]; exact q1)
    by_cases q1 : pr < 0
    · rw [e8, if_pos q1]
      exact ⟨_, h, rfl, Fr.rf, r, fun hq mq q9 => ⟨_, no9 hq (2 ^ an) (by omega) (Or.inl q1) (rw9 hq mq q9), FL.sub (f0 hq) rfl, th0 hq⟩⟩
    · rw [e8, if_neg q1]
      by_cases q2 : pr < nI (2 ^ an)
      · rw [if_pos q2]
        obtain ⟨ρ, hρ, rfl⟩ := nI_lt_p (by omega) q1 q2
        obtain ⟨h1, e1, f1, c1, w1⟩ := c_fillW N hN pp r
        rw [e1, bnd2_p, grd_t (xin_nI (show ρ < 1024 by omega) (by decide)), nI_cl (by omega), c1.1.1]
        have tw := w1.2 ρ (by omega)
        have yes9 : ∀ h2, MF n E an A cs h2 → gI h2 51 23 = 1 → F_X9_valueIn N (nI ρ) (nI x) h2 = bnd2 (F_X9_isWay N (nI ρ) (sI h2 51 0 0)) fun r9 h10 => if r9 = 0 then some (-9223372036854775808, h10) else some (((gJ h10 60 x) - (gJ h10 60 0)), h10) := by
          intro h2 m2 q2
          unfold F_X9_valueIn F_X9_valueIn_56
          rw [p_isVar N hx, bnd2_p, p_may, bnd2_p]
          simp +decide only [if_false]
          rw [rw9 h2 m2 q2, bnd2_p, p_ixY N hρ (by omega), bnd2_p, if_neg (by decide), nI_cl (by omega)]
          simp only [grd_t (xin_nI hx (by decide))]
          rfl
        have iw := fun h2 (m2 : MF n E an A cs h2) => m_isWay N (by omega) (ρ := ρ) (h := sI h2 51 0 0) pp.1 pp.2.2.1 pp.2.2.2.1 (by omega) (m2.ag (f0 h2) rfl rfl).1 (m2.ag (f0 h2) rfl rfl).2
        by_cases qW : WayB n E an A cs ρ = true
        · rw [if_pos ⟨hρ, qW⟩] at tw
          rw [tw, if_neg (by decide)]
          have hwy := (WayB_iff.mp qW).2
          obtain ⟨h2, e2, f2, g2⟩ := c_give_row N (ρ := ρ) han (by omega) N 0 h1 (by omega) (by omega) c1.2.1 (fun k hk => by omega)
          have ex0 : ∀ k, k < n + 0 → E k = exE E n A (gr an ρ) k := fun k hk => (exE_lt hk).symm
          obtain ⟨h3, V, w, e3, f3, rc3, v3, eV, g3⟩ := c_vi_go N (by omega) hx pp hwy N 0 h2 (by omega) (by omega) ((c1.1.ag (f2.ag rfl)).congr ex0) (c1.2.1.ag (f2.ag rfl)) g2
          have f23 : FL LVI h1 h3 := FL.cat f2 f3 rfl rfl
          have f13 : FL (LFi ++ LVI) h h3 := FL.cat f1 f23 rfl rfl
          refine ⟨V, h3, ?_, f13, ⟨rc3, c1.2.1.ag (f23.ag rfl), c1.2.2.ag (f23.ag rfl)⟩, fun hq m3 q3 => ?_⟩
          · unfold F_X1_giveRow_30 F_X1_giveRow_30_2 F_X8_valueIn_73
            rw [show (0 : Int32) = nI 0 from rfl, e2, bnd2_p]
            exact e3
          · obtain ⟨h4, q, e4, i4⟩ := iw hq m3
            refine ⟨h4, ?_, FL.cat (f0 hq) i4.1 rfl rfl, by rw [(i4.1.1 51 0 rfl).1]; exact th0 hq⟩
            rw [yes9 hq m3 q3, e4, bnd2_p]
            rcases i4.2 with ⟨rfl, _, w', v', g'⟩ | ⟨_, bad⟩
            · rw [if_neg (by decide), eV]
              have hv : ∀ u, u < 16 → (gJ h4 60 u).toInt = (gJ h3 7 u).toInt := fun u hu => by rw [v' u hu, v3 u hu]; exact (g' u hu).uni (g3 u hu)
              rw [val_eq (hv x hx) (hv 0 (by decide))]
            · exact absurd hwy bad
        · rw [if_neg (fun q => qW q.2)] at tw
          rw [tw, if_pos rfl]
          refine ⟨_, h1, rfl, FL.sub f1 rfl, c1, fun hq m1 q1' => ?_⟩
          obtain ⟨h4, q, e4, i4⟩ := iw hq m1
          refine ⟨h4, ?_, FL.cat (f0 hq) i4.1 rfl rfl, by rw [(i4.1.1 51 0 rfl).1]; exact th0 hq⟩
          rw [yes9 hq m1 q1', e4, bnd2_p]
          rcases i4.2 with ⟨_, good, _⟩ | ⟨rfl, _⟩
          · exact absurd (WayB_iff.mpr ⟨hρ, good⟩) qW
          · rw [if_pos rfl]
      · rw [if_neg q2]
        exact ⟨_, h, rfl, Fr.rf, r, fun hq mq q9 => ⟨_, no9 hq (2 ^ an) (by omega) (Or.inr (Int32.not_lt.mp q2)) (rw9 hq mq q9), FL.sub (f0 hq) rfl, th0 hq⟩⟩
theorem q_valueIn (N : Nat) (hN : 7000 ≤ N) {a : Ab} {h : xHp} (p v : Int32) (w : RW a) (rc : RC a h) (rm : RM a h) : P1 (F_X8_valueIn N p v h) (F_X9_valueIn N p v) a ∨ P2 (F_X8_valueIn_T N p v h) (F_X9_valueIn N p v) [(1, 1)] a := by
  obtain ⟨⟨n, E⟩, ⟨L, lp⟩, ⟨m, cr⟩, ⟨tn, tb⟩, ⟨wn, wb⟩, b, ⟨cs, an, A⟩, f⟩ := a
  have w' : RWx n E L lp m tn tb wn wb b an A cs f := w
  have c' : RCx n E L lp m cr tn tb wn wb b an A cs f h := rc
  obtain ⟨w1, w2, w3, w4, w5, w6, w7, w8, w9, w10⟩ := w'
  obtain ⟨c1, c2, c3, c4, c5, c6, c7, c8, c9⟩ := c'
  rcases var16 v with ⟨x, hx, rfl⟩ | q
  · left
    obtain ⟨V, h1, e1, f1, ⟨g1, g2, g3⟩, go⟩ := x_valueInQ N (by omega) (b := b) (pr := p) hx (fun z => ⟨w1, w2, (w8 z).2, (w8 z).1, w3⟩) ⟨c1, c6, c7⟩ c8
    refine ⟨V, h1, ((n, E), (L, lp), (m, cr), (tn, tb), (wn, wb), b, (cs, an, A), f), e1, w, ⟨g1, c2.ag (f1.ag rfl), c3.ag (f1.ag rfl), c4.ag (f1.ag rfl), c5.ag (f1.ag rfl), g2, g3, (f1.1 0 9 rfl).1.trans c8, (f1.1 0 10 rfl).1.trans c9⟩, rm.ag (f1.ag rfl), fun hq rcx rmx => ?_⟩
    have m' : RMx n E L lp m cr tn tb wn wb b an A cs f hq := rmx
    obtain ⟨h2, e2, f2, t2⟩ := go hq ⟨m'.1, m'.2.2.2.2.2.1⟩ m'.2.2.2.2.2.2.1
    exact ⟨h2, e2, t2, rcx.ag (f2.ag rfl), rmx.ag (f2.ag rfl)⟩
  · right
    refine ⟨1, 1, h, ?_, List.mem_singleton.mpr rfl, rc, rm, fun hx rcx rmx => ⟨0, sI hx 51 0 1, ?_, told_by rcx rmx⟩⟩
    · unfold F_X8_valueIn_T
      rw [p_reqVT N q]; rfl
    · unfold F_X9_valueIn
      rw [p_isVarN N q, bnd2_p, p_may, bnd2_p]
      simp +decide only [if_true, true_or]
/-! VALUE, BOUND, WHY, CONSTRAINT -/
theorem lg0 {a b : Int64} : lg_cmp a b = 0 ↔ a = b := by
  constructor
  · intro z
    have h1 : lg_cmp a b ≤ 0 := by rw [z]; decide
    have h2 : 0 ≤ lg_cmp a b := by rw [z]; decide
    rw [lg_cmp_le] at h1
    rw [lg_cmp_ge] at h2
    exact Int64.le_antisymm h1 h2
  · intro z
    have h1 : lg_cmp a b ≤ 0 := by rw [lg_cmp_le, z]; exact Int64.le_refl _
    have h2 : 0 ≤ lg_cmp a b := by rw [lg_cmp_ge, z]; exact Int64.le_refl _
    exact Int32.le_antisymm h1 h2
theorem IsG.congr {E E' : Ed} {ok ok' : Nat → Prop} {u : Nat} {g : Int} (ho : ∀ e, ok e ↔ ok' e) (he : ∀ e, ok e → E e = E' e) (h : IsG E ok u g) : IsG E' ok' u g := by
  obtain ⟨⟨t, j, q⟩, m⟩ := h
  exact ⟨⟨t, j, (Wk.congr ho he).mp q⟩, fun t j s q => m t j s ((Wk.congr ho he).mpr q)⟩
theorem q_value (N : Nat) (hN : 7000 ≤ N) {a : Ab} {h : xHp} (p : Int32) (w : RW a) (rc : RC a h) (rm : RM a h) : P1 (F_X8_value N p h) (F_X9_value N p) a ∨ P2 (F_X8_value_T N p h) (F_X9_value N p) [(1, 1)] a := by
  obtain ⟨⟨n, E⟩, ⟨L, lp⟩, ⟨m, cr⟩, ⟨tn, tb⟩, ⟨wn, wb⟩, b, ⟨cs, an, A⟩, f⟩ := a
  have w' : RWx n E L lp m tn tb wn wb b an A cs f := w
  have c' : RCx n E L lp m cr tn tb wn wb b an A cs f h := rc
  obtain ⟨w1, w2, w3, w4, w5, w6, w7, w8, w9, w10⟩ := w'
  obtain ⟨c1, c2, c3, c4, c5, c6, c7, c8, c9⟩ := c'
  rcases var16 p with ⟨x, hx, rfl⟩ | q
  · left
    obtain ⟨h1, v1, f1, g1, i1, e1⟩ := c_valueOf N (by omega) hx w1 w3 c1
    unfold F_X8_value
    rw [(p_reqV N hx h).1, bnd2_p, e1, bnd2_p]
    refine ⟨_, h1, ((n, E), (L, lp), (m, cr), (tn, tb), (wn, wb), b, (cs, an, A), f), rfl, w, rc.ag (f1.ag rfl), rm.ag (f1.ag rfl), fun hq rcx rmx => ?_⟩
    have m1 : Mcon n E hq := rmx.1
    have f2 : FL [(51,0,1)] hq (sI hq 51 0 0) := FL.i hq rfl
    obtain ⟨h3, e3, fr3, g3⟩ := p_alone N (by omega) (show n ≤ 70 by omega) (m1.ag (f2.ag rfl)).2.1
    have f3 := P55_L fr3
    have m3 := (m1.ag (f2.ag rfl)).ag (f3.ag rfl)
    obtain ⟨k1, k2, k3⟩ := m3.wf (h' := h3) w1 g3
    obtain ⟨h4, u, e4, f4, r4⟩ := m_findValues N (by omega) k1
    have f24 : FL [(51,0,1),(55,0,0),(60,0,0)] hq h4 := FL.cat f2 (FL.cat f3 f4 rfl rfl : FL [(55,0,0),(60,0,0)] _ _) rfl rfl
    have t4 : gI h4 51 0 = 0 := by rw [(f4.1 51 0 rfl).1, (f3.1 51 0 rfl).1, gI_sI, if_pos rfl, if_pos rfl]
    rcases r4 with ⟨rfl, v4, y1, y2, y3⟩ | ⟨_, bad⟩
    · refine ⟨h4, ?_, t4, rcx.ag (f24.ag rfl), rmx.ag (f24.ag rfl)⟩
      unfold F_X9_value
      rw [p_isVar N hx, bnd2_p, p_may, bnd2_p]
      simp +decide only [if_false, if_true]
      rw [e3, bnd2_p, e4, bnd2_p, grd_t (xin_nI hx (by decide)), nI_cl (by omega)]
      have hv : ∀ z, z < 16 → (gJ h4 60 z).toInt = (gJ h1 7 z).toInt := fun z hz => by
        rw [y1 z hz, g1 z hz]
        exact IsG.uni ((y3 z hz).congr k2 k3) (i1 z hz)
      rw [show grd (xin 0 16) (some (gJ h4 60 x - gJ h4 60 (0 : Int32).toNatClampNeg, h4)) = some (gJ h4 60 x - gJ h4 60 0, h4) from rfl, val_eq (hv x hx) (hv 0 (by decide))]
    · obtain ⟨v, hv⟩ := w3
      exact absurd (fun e he => by rw [k3 e he]; exact hv e ((k2 e).mp he)) (bad v)
  · right
    refine ⟨1, 1, h, ?_, List.mem_singleton.mpr rfl, rc, rm, fun hx rcx rmx => ⟨0, sI hx 51 0 1, ?_, told_by rcx rmx⟩⟩
    · unfold F_X8_value_T
      rw [p_reqVT N q]; rfl
    · unfold F_X9_value
      rw [p_isVarN N q, bnd2_p, p_may, bnd2_p]
      simp +decide only [if_true, true_or]
/-- what bound and why find, on either side -/
theorem q_least (N : Nat) (hN : 7000 ≤ N) {n x y : Nat} {E : Ed} {h hq : xHp} (w1 : Ewf n E) (w2 : n ≤ 60) (w3 : Epot n E) (c1 : Ccon n E h) (m1 : Mcon n E hq) (hx : x < 16) (hy : y < 16) : ∃ L1 L2 h1 h3 h4 R, F_X2_leastSum N (nI x) (nI y) (-1) h = some (L1, h1) ∧ FL LN h h1 ∧ McA h h1 n (-1) y R ∧ F_X9_constraintsAlone N hq = some ((), h3) ∧ FL [(55,0,0)] hq h3 ∧ F_X9_boundOf N (nI x) (nI y) h3 = some (L2, h4) ∧ FL [(58,0,0)] h3 h4 ∧ wfM h4 ∧ (∀ e, okM h4 e ↔ okn n e) ∧ (∀ e, okM h4 e → edM h4 e = E e) ∧ ((L1 = xMAX ∧ L2 = xFAR) ∨ (L1 = L2 ∧ L1 ≠ xMAX ∧ L2 ≠ xFAR ∧ -1000000000 ≤ L1.toInt ∧ L1.toInt ≤ 1000000000 ∧ ∃ j, Wk E (okn n) y j x L1.toInt)) := by
  obtain ⟨L1, h1, R, e1, f1, mc, ls1⟩ := c_least N (by omega) (sk := -1) w1 w3 c1 hx hy
  obtain ⟨h3, e3, fr3, g3⟩ := p_alone N (by omega) (show n ≤ 70 by omega) m1.2.1
  have f3 := P55_L fr3
  have m3 := m1.ag (f3.ag rfl)
  obtain ⟨k1, k2, k3⟩ := m3.wf (h' := h3) w1 g3
  obtain ⟨v, hv⟩ := w3
  obtain ⟨L2, h4, e4, f4, ls2⟩ := m_boundOf N (by omega) k1 k2 k3 hx hy hv
  have g4 : ∀ i, i < 70 → gI h4 55 i = if i < n then 1 else 0 := fun i hi => (f4.1 55 i rfl).1.trans (g3 i hi)
  obtain ⟨j1, j2, j3⟩ := (m3.ag (f4.ag rfl)).wf (h' := h4) w1 g4
  refine ⟨L1, L2, h1, h3, h4, R, e1, f1, mc, e3, f3, e4, f4, j1, j2, j3, ?_⟩
  have eP : (fun s => ∃ j, Wk E (okC n (-1)) y j x s) = (fun s => ∃ j, Wk E (okn n) y j x s) := funext fun s => propext (okC_n (by omega) s)
  rw [eP] at ls1
  rcases Lst.two ls1 ls2 xMAX_b xFAR_b with ⟨a1, a2, _⟩ | ⟨a1, a2, a3, mm, a4, a5, a6, a7, a8⟩
  · exact Or.inl ⟨a1, a2⟩
  · unfold BB at a5 a6
    refine Or.inr ⟨a1, a2, a3, by omega, by omega, ?_⟩
    rw [a4]; exact a7
theorem varT (N : Nat) {p q : Int32} {h : xHp} {α : Type} (o : xHp → Option (Nat × xHp)) (hp : (p < 0 ∨ 16 ≤ p) ∨ (q < 0 ∨ 16 ≤ q)) : orX (F_X8_requireVariable_T N p h) (bnd2 (F_X8_requireVariable N p h) fun r1 h2 => orX (F_X8_requireVariable_T N q h2) (bnd2 (F_X8_requireVariable N q h2) fun r3 h4 => o h4)) = some (1, h) := by
  rcases var16 p with ⟨x, hx, rfl⟩ | hp'
  · rw [(p_reqV N hx h).2, (p_reqV N hx h).1, bnd2_p]
    rcases hp with z | z
    · exfalso
      rcases z with z | z
      · exact nI_pos (by omega) z
      · rw [show (16 : Int32) = nI 16 from rfl] at z; exact nI_ge hx (by decide) z
    · rw [p_reqVT N z]; rfl
  · rw [p_reqVT N hp']; rfl
theorem q_bound (N : Nat) (hN : 7000 ≤ N) {a : Ab} {h : xHp} (p q : Int32) (w : RW a) (rc : RC a h) (rm : RM a h) : P1 (F_X8_bound N p q h) (F_X9_bound N p q) a ∨ P2 (F_X8_bound_T N p q h) (F_X9_bound N p q) [(1, 1)] a := by
  obtain ⟨⟨n, E⟩, ⟨L, lp⟩, ⟨m, cr⟩, ⟨tn, tb⟩, ⟨wn, wb⟩, b, ⟨cs, an, A⟩, f⟩ := a
  have w' : RWx n E L lp m tn tb wn wb b an A cs f := w
  have c' : RCx n E L lp m cr tn tb wn wb b an A cs f h := rc
  obtain ⟨w1, w2, w3, w4, w5, w6, w7, w8, w9, w10⟩ := w'
  obtain ⟨c1, c2, c3, c4, c5, c6, c7, c8, c9⟩ := c'
  have no : (p < 0 ∨ 16 ≤ p) ∨ (q < 0 ∨ 16 ≤ q) → P2 (F_X8_bound_T N p q h) (F_X9_bound N p q) [(1, 1)] ((n, E), (L, lp), (m, cr), (tn, tb), (wn, wb), b, (cs, an, A), f) := fun z => by
    refine ⟨1, 1, h, ?_, List.mem_singleton.mpr rfl, rc, rm, fun hx rcx rmx => ⟨0, sI hx 51 0 1, ?_, told_by rcx rmx⟩⟩
    · unfold F_X8_bound_T
      exact varT N (α := Nat) _ z
    · have e22 : F_X9_bound_22 N p q 0 hx = some (0, sI hx 51 0 1) := by
        unfold F_X9_bound_22
        rw [p_may, bnd2_p]
        simp +decide only [if_true, true_or]
      unfold F_X9_bound F_X9_bound_21
      rcases var16 p with ⟨x, hx', rfl⟩ | hp'
      · rw [p_isVar N hx', bnd2_p, if_neg (by decide)]
        rcases z with z | z
        · exfalso
          rcases z with z | z
          · exact nI_pos (by omega) z
          · rw [show (16 : Int32) = nI 16 from rfl] at z; exact nI_ge hx' (by decide) z
        · rw [p_isVarN N z, bnd2_p, if_pos rfl, e22]
      · rw [p_isVarN N hp', bnd2_p, if_pos rfl, e22]
  rcases var16 p with ⟨x, hx, rfl⟩ | hp
  · rcases var16 q with ⟨y, hy, rfl⟩ | hq
    · left
      obtain ⟨L1, h1, R, e1, f1, mc, ls1⟩ := c_least N (by omega) (sk := -1) w1 w3 c1 hx hy
      unfold F_X8_bound
      rw [(p_reqV N hx h).1, bnd2_p, (p_reqV N hy h).1, bnd2_p, e1, bnd2_p]
      refine ⟨if L1 = xMAX then -9223372036854775808 else L1, h1, ((n, E), (L, lp), (m, cr), (tn, tb), (wn, wb), b, (cs, an, A), f), ?_, w, rc.ag (f1.ag rfl), rm.ag (f1.ag rfl), fun hq rcx rmx => ?_⟩
      · simp only [lg0]
        show (if L1 = xMAX then _ else _) = _
        by_cases z : L1 = xMAX
        · rw [if_pos z, if_pos z]
        · rw [if_neg z, if_neg z]
      · have m1 : Mcon n E hq := rmx.1
        have f2 : FL [(51,0,1)] hq (sI hq 51 0 0) := FL.i hq rfl
        obtain ⟨L1', L2, h1', h3, h4, R', e1', _, _, e3, f3, e4, f4, _, _, _, two⟩ := q_least N hN w1 w2 w3 c1 (m1.ag (f2.ag rfl)) hx hy
        rw [e1] at e1'
        have eL : L1 = L1' := (Prod.mk.inj (Option.some.inj e1')).1
        subst eL
        have f24 : FL [(51,0,1),(55,0,0),(58,0,0)] hq h4 := FL.cat f2 (FL.cat f3 f4 rfl rfl : FL [(55,0,0),(58,0,0)] _ _) rfl rfl
        refine ⟨h4, ?_, by rw [(f4.1 51 0 rfl).1, (f3.1 51 0 rfl).1, gI_sI, if_pos rfl, if_pos rfl], rcx.ag (f24.ag rfl), rmx.ag (f24.ag rfl)⟩
        unfold F_X9_bound F_X9_bound_22
        rw [p_isVar N hx, bnd2_p, if_neg (show ¬ (1 : Int32) = 0 by decide), p_isVar N hy, bnd2_p, if_neg (show ¬ (1 : Int32) = 0 by decide), p_may, bnd2_p]
        simp +decide only [if_false, if_true]
        rw [e3, bnd2_p, e4, bnd2_p]
        simp only [lg0]
        show (if L2 = xFAR then _ else _) = _
        rcases two with ⟨a1, a2⟩ | ⟨a1, a2, a3, _⟩
        · rw [if_pos a2, if_pos a1]
        · rw [if_neg a3, if_neg a2, a1]
    · exact Or.inr (no (Or.inr hq))
  · exact Or.inr (no (Or.inl hp))
theorem PT_L {h h' : xHp} (f : Fr PT h h') : FL [(5,0,0),(1,5,6)] h h' := FL.of f (fun c k hp => by
  unfold PT at hp
  simp only [Bool.or_eq_true, Bool.and_eq_true, beq_iff_eq] at hp
  rw [inL_iff]
  rcases hp with rfl | ⟨rfl, rfl⟩
  · exact ⟨(5, 0, 0), by decide, rfl, Nat.zero_le k, Or.inl rfl⟩
  · exact ⟨(1, 5, 6), by decide, rfl, by decide, Or.inr (by decide)⟩)
theorem q_why (N : Nat) (hN : 7000 ≤ N) {a : Ab} {h : xHp} (p q k : Int32) (w : RW a) (rc : RC a h) (rm : RM a h) : P1 (F_X8_why N p q k h) (F_X9_why N p q k) a ∨ P2 (F_X8_why_T N p q k h) (F_X9_why N p q k) [(1, 1), (2, 2)] a := by
  obtain ⟨⟨n, E⟩, ⟨L, lp⟩, ⟨m, cr⟩, ⟨tn, tb⟩, ⟨wn, wb⟩, b, ⟨cs, an, A⟩, f⟩ := a
  have w' : RWx n E L lp m tn tb wn wb b an A cs f := w
  have c' : RCx n E L lp m cr tn tb wn wb b an A cs f h := rc
  obtain ⟨w1, w2, w3, w4, w5, w6, w7, w8, w9, w10⟩ := w'
  obtain ⟨c1, c2, c3, c4, c5, c6, c7, c8, c9⟩ := c'
  have e22 : ∀ (s : Int32) (hx : xHp), F_X9_why_22 N p q k s hx = F_X9_why_31 N p q k (if k < 0 then 0 else 1) s hx := fun s hx => by
    unfold F_X9_why_22
    by_cases z : k < 0
    · rw [if_pos z, if_pos z]
    · rw [if_neg z, if_neg z]
  have no : (p < 0 ∨ 16 ≤ p) ∨ (q < 0 ∨ 16 ≤ q) → P2 (F_X8_why_T N p q k h) (F_X9_why N p q k) [(1, 1), (2, 2)] ((n, E), (L, lp), (m, cr), (tn, tb), (wn, wb), b, (cs, an, A), f) := fun z => by
    refine ⟨1, 1, h, ?_, List.mem_cons_self, rc, rm, fun hx rcx rmx => ⟨0, sI hx 51 0 1, ?_, told_by rcx rmx⟩⟩
    · unfold F_X8_why_T
      exact varT N (α := Nat) _ z
    · have e21 : F_X9_why_21 N p q k hx = some (0, sI hx 51 0 1) := by
        unfold F_X9_why_21
        rw [e22]
        unfold F_X9_why_31
        rw [p_may, bnd2_p]
        simp +decide only [if_true, true_or]
      unfold F_X9_why
      rcases var16 p with ⟨x, hx', rfl⟩ | hp'
      · rw [p_isVar N hx', bnd2_p, if_neg (by decide)]
        rcases z with z | z
        · exfalso
          rcases z with z | z
          · exact nI_pos (by omega) z
          · rw [show (16 : Int32) = nI 16 from rfl] at z; exact nI_ge hx' (by decide) z
        · rw [p_isVarN N z, bnd2_p, if_pos rfl, e21]
      · rw [p_isVarN N hp', bnd2_p, if_pos rfl, e21]
  rcases var16 p with ⟨x, hx, rfl⟩ | hp
  · rcases var16 q with ⟨y, hy, rfl⟩ | hq
    · have e9 : ∀ hq, F_X9_why N (nI x) (nI y) k hq = F_X9_why_31 N (nI x) (nI y) k (if k < 0 then 0 else 1) 1 hq := fun hq => by
        unfold F_X9_why
        rw [p_isVar N hx, bnd2_p, if_neg (show ¬ (1 : Int32) = 0 by decide), p_isVar N hy, bnd2_p, if_neg (show ¬ (1 : Int32) = 0 by decide), e22]
      by_cases kn : k < 0
      · right
        refine ⟨2, 2, h, ?_, List.mem_cons_of_mem _ (List.mem_singleton.mpr rfl), rc, rm, fun hq rcx rmx => ⟨0, sI hq 51 0 2, ?_, told_by rcx rmx⟩⟩
        · unfold F_X8_why_T
          rw [(p_reqV N hx h).2, (p_reqV N hx h).1, bnd2_p, (p_reqV N hy h).2, (p_reqV N hy h).1, bnd2_p, if_neg (Int32.not_le.mpr kn)]
          rfl
        · rw [e9, if_pos kn]
          unfold F_X9_why_31
          rw [p_may, bnd2_p]
          simp +decide only [if_true, if_false, true_or, or_true]
      · left
        have k0 : 0 ≤ k := Int32.not_lt.mp kn
        obtain ⟨L1, h1, R, e1, f1, mc, ls1⟩ := c_least N (by omega) (sk := -1) w1 w3 c1 hx hy
        unfold F_X8_why F_X8_why_69
        rw [(p_reqV N hx h).1, bnd2_p, (p_reqV N hy h).1, bnd2_p, if_pos k0, e1, bnd2_p]
        simp only [lg0]
        show P1 (if L1 = xMAX then _ else _) _ _
        -- the reference's side, up to its bound
        have m9 : ∀ hq, Mcon n E hq → ∃ L2 h4, FL [(51,0,1),(55,0,0),(58,0,0)] hq h4 ∧ gI h4 51 0 = 0 ∧ wfM h4 ∧ (∀ e, okM h4 e ↔ okn n e) ∧ (∀ e, okM h4 e → edM h4 e = E e) ∧ ((L1 = xMAX ∧ L2 = xFAR) ∨ (L1 = L2 ∧ L1 ≠ xMAX ∧ L2 ≠ xFAR ∧ -1000000000 ≤ L1.toInt ∧ L1.toInt ≤ 1000000000 ∧ ∃ j, Wk E (okn n) y j x L1.toInt)) ∧ F_X9_why N (nI x) (nI y) k hq = if L2 = xFAR then some (-1, h4) else bnd2 (F_X9_findRow N (nI x) (nI y) L2 h4) fun r7 h8 => if (gI h8 51 12) ≤ k then some ((-1), h8) else grd (xin k 20) (some ((gI h8 59 k.toNatClampNeg), h8)) := by
          intro hq m1
          have f2 : FL [(51,0,1)] hq (sI hq 51 0 0) := FL.i hq rfl
          obtain ⟨L1', L2, h1', h3, h4, R', e1', _, _, e3, f3, e4, f4, j1, j2, j3, two⟩ := q_least N hN w1 w2 w3 c1 (m1.ag (f2.ag rfl)) hx hy
          rw [e1] at e1'
          have eL : L1 = L1' := (Prod.mk.inj (Option.some.inj e1')).1
          subst eL
          refine ⟨L2, h4, FL.cat f2 (FL.cat f3 f4 rfl rfl : FL [(55,0,0),(58,0,0)] _ _) rfl rfl, by rw [(f4.1 51 0 rfl).1, (f3.1 51 0 rfl).1, gI_sI, if_pos rfl, if_pos rfl], j1, j2, j3, two, ?_⟩
          rw [e9, if_neg kn]
          unfold F_X9_why_31
          rw [p_may, bnd2_p]
          simp +decide only [if_false, if_true]
          rw [e3, bnd2_p, e4, bnd2_p]
          simp only [lg0]
          rfl
        by_cases z : L1 = xMAX
        · rw [if_pos z]
          refine ⟨_, h1, ((n, E), (L, lp), (m, cr), (tn, tb), (wn, wb), b, (cs, an, A), f), rfl, w, rc.ag (f1.ag rfl), rm.ag (f1.ag rfl), fun hq rcx rmx => ?_⟩
          obtain ⟨L2, h4, f24, t4, j1, j2, j3, two, e⟩ := m9 hq rmx.1
          refine ⟨h4, ?_, t4, rcx.ag (f24.ag rfl), rmx.ag (f24.ag rfl)⟩
          rw [e]
          rcases two with ⟨a1, a2⟩ | ⟨a1, a2, _⟩
          · rw [if_pos a2]
          · exact absurd z a2
        · rw [if_neg z]
          have ho : ∀ e, okC n (-1) e ↔ okn n e := fun e => okC_iff (by omega)
          have he : ∀ e, okC n (-1) e → edC h e = E e := fun e q => c1.ed w1 q.1
          -- a walk as short as that
          obtain ⟨_, _, _, _, _, _, e1', _, _, _, _, _, _, _, _, _, two⟩ := q_least N hN w1 w2 w3 c1 rm.1 hx hy
          rw [e1] at e1'
          have eL := (Prod.mk.inj (Option.some.inj e1')).1
          rw [← eL] at two
          rcases two with ⟨a1, a2⟩ | ⟨a1, a2, a3, b1, b2, jw, wk⟩
          · exact absurd a1 z
          · rcases p_traceRow N (by omega) (c1.wf w1) hx (rfl : L1.toInt = L1.toInt) b1 b2 mc with ⟨J, l, h8, d1, d2, d3, d4, d5, d6, d7⟩ | ⟨d1, _⟩
            · have f8 := PT_L d5
              have f18 : FL LN h h8 := FL.cat f1 f8 rfl rfl
              rw [d4, bnd2_p, if_neg (show ¬ (1 : Int32) = 0 by decide), d6]
              have sh := d2.congr ho he
              have ro := d3.congr ho he
              -- the place asked for
              have pl : ∃ V : Int32, (if k < nI J then grd (xin k 16) (some (gI h8 5 k.toNatClampNeg, h8)) else some (-1, h8)) = some (V, h8) ∧ ∀ h9 : xHp, gI h9 51 12 = nI J → (∀ i, i < J → gI h9 59 i = nI (l.getD i 0)) → (if (gI h9 51 12) ≤ k then some ((-1), h9) else grd (xin k 20) (some ((gI h9 59 k.toNatClampNeg), h9))) = some (V, h9) := by
                rcases pk_ix k (n := J) (by omega) with q1 | q1 | ⟨i, hi, rfl⟩
                · exact absurd q1 kn
                · exact ⟨-1, by rw [if_neg (Int32.not_lt.mpr q1)], fun h9 a1 a2 => by rw [a1, if_pos q1]⟩
                · exact ⟨nI (l.getD i 0), by rw [if_pos (nI_lt hi (by omega)), grd_t (xin_nI (show i < 16 by omega) (by decide)), nI_cl (by omega), d7 i hi], fun h9 a1 a2 => by rw [a1, if_neg (nI_ge hi (by omega)), grd_t (xin_nI (show i < 20 by omega) (by decide)), nI_cl (by omega), a2 i hi]⟩
              obtain ⟨V, v1, v2⟩ := pl
              rw [v1]
              refine ⟨V, h8, ((n, E), (L, lp), (m, cr), (tn, tb), (wn, wb), b, (cs, an, A), f), rfl, w, rc.ag (f18.ag rfl), rm.ag (f18.ag rfl), fun hq rcx rmx => ?_⟩
              obtain ⟨L2, h4, f24, t4, j1, j2, j3, two, e⟩ := m9 hq rmx.1
              rcases two with ⟨a1', _⟩ | ⟨a1', _, a3', _⟩
              · exact absurd a1' z
              · obtain ⟨v, hv⟩ := w3
                rcases m_findRow N (by omega) j1 j2 j3 hy hx (show L2.toInt = L1.toInt by rw [a1']) b2 hv with ⟨J', l', h9, y1, y2, y3, y4, y5, y6, y7⟩ | ⟨y1, _⟩
                · have eJ : J = J' := Short.uni sh y2
                  subst eJ
                  have el := RowOf.uni ro y3
                  subst el
                  have f29 : FL [(51,0,1),(55,0,0),(58,0,0),(59,0,0),(51,12,13)] hq h9 := FL.cat f24 y5 rfl rfl
                  refine ⟨h9, ?_, by rw [(y5.1 51 0 rfl).1]; exact t4, rcx.ag (f29.ag rfl), rmx.ag (f29.ag rfl)⟩
                  rw [e, if_neg a3', y4, bnd2_p]
                  exact v2 h9 y6 y7
                · exact absurd (Int.le_refl _) (y1 jw L1.toInt wk)
            · exact absurd (Int.le_refl _) (d1 jw L1.toInt ((Wk.congr ho he).mpr wk))
    · exact Or.inr (no (Or.inr hq))
  · exact Or.inr (no (Or.inl hp))
