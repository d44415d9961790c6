/-! VALUEIN, and the ends of MUST -/
theorem p_ixY (N : Nat) {m j : Nat} {h : xHp} (hj : j < m) (hm : m < 2 ^ 30) : F_X9_isIn N (nI j).toInt64 0 (nI m - 1).toInt64 h = some (1, h) := by
  rw [p_isIn, if_pos ⟨i64_0le.mpr (nI_pos' (by omega)), i64_le.mpr (by rw [show (1 : Int32) = nI 1 from rfl, pk_sub (by omega)]; exact nI_le (by omega) (by omega))⟩]
theorem p_ixN (N : Nat) {m : Nat} {p : Int32} {h : xHp} (hp : p < 0 ∨ nI m ≤ p) (hm : m < 2 ^ 30) : F_X9_isIn N p.toInt64 0 (nI m - 1).toInt64 h = some (0, h) := by
  rw [p_isIn, if_neg (fun q => ?_)]
  rw [i64_0le, i64_le] at q
  rcases hp with hp | hp
  · exact absurd hp (Int32.not_lt.mpr q.1)
  · have := Int32.le_trans hp q.2
    rw [Int32.le_iff_toInt_le] at this
    rw [nI_toInt (by omega)] at this
    have e : (nI m - 1).toInt = (m : Int) - 1 := by
      have := pk_sub_toInt (a := m) (b := 1) (by omega) (by omega)
      exact this
    omega
theorem m_must (N : Nat) (hN : 2000 ≤ N) {n an a : Nat} {E A : Ed} {cs : List Nat} {h : xHp} (p : PF n E an A cs) (r : MF n E an A cs h) (hh : gI h 51 23 = 1) (ha : a < an) : ∃ h', F_X9_must N (nI a) h = some (mustA (WayB n E an A cs) an a, h') ∧ FL LMW h h' ∧ gI h' 51 0 = 0 := by
  have han := p.2.2.2.1.1
  have p10 := pow10 han
  have f0 : FL [(51,0,1)] h (sI h 51 0 0) := FL.i h rfl
  obtain ⟨h', e', f'⟩ := m_must_go N hN p ha N 0 (sI h 51 0 0) false false (Nat.zero_le _) (by omega) (r.ag f0 rfl rfl) (by rw [(f0.1 51 23 rfl).1]; exact hh) (by simp [cW]) (by simp [cW])
  refine ⟨h', ?_, FL.cat f0 f' rfl rfl, ?_⟩
  · unfold F_X9_must F_X9_must_31
    rw [r.2.1, p_ixY N ha (by omega), bnd2_p, p_may, bnd2_p]
    simp +decide only [if_false]
    exact e'
  · rw [(f'.1 51 0 rfl).1, gI_sI, if_pos rfl, if_pos rfl]
theorem c_give_row (N : Nat) {an ρ : Nat} {A : Ed} {cs : List Nat} (han : an ≤ 10) (hρ : ρ < 2 ^ 31) : ∀ (z d : Nat) (h : xHp), d ≤ an → an - d < z → Cfor an A cs h → (∀ k, k < d → gI h 34 k = nI (gr an ρ k)) → ∃ h', xit (F_X1_giveRow_30_2_b N) (fun _ _ _ => none) z (nI ρ) (nI d) h = some ((), h') ∧ FL [(34,0,0)] h h' ∧ ∀ k, k < an → gI h' 34 k = nI (gr an ρ k) := by
  intro z
  induction z with
  | zero => intro d h _ h2; omega
  | succ z ih =>
    intro d h h1 h2 rf hg
    show ∃ h', F_X1_giveRow_30_2_b N (xit (F_X1_giveRow_30_2_b N) (fun _ _ _ => none) z) (nI ρ) (nI d) h = _ ∧ _
    generalize xit (F_X1_giveRow_30_2_b N) (fun _ _ _ => none) z = K at ih ⊢
    unfold F_X1_giveRow_30_2_b F_X1_giveRow_30_36
    rw [rf.1]
    by_cases hd : d = an
    · subst hd
      rw [if_pos (Int32.le_refl _)]
      exact ⟨h, rfl, Fr.rf, hg⟩
    · have hd' : d < an := by omega
      have f0 : FL [(34,0,0)] h (sI h 34 d (nI (gr an ρ d))) := FL.i h rfl
      obtain ⟨h', e', f', g'⟩ := ih (d + 1) (sI h 34 d (nI (gr an ρ d))) (by omega) (by omega) (rf.ag (f0.ag rfl)) (fun k hk => by
        rw [gI_sI, if_pos rfl]
        by_cases q : k = d
        · rw [if_pos q, q]
        · rw [if_neg q]; exact hg k (by omega))
      refine ⟨h', ?_, f0.trans f', g'⟩
      rw [← e', if_neg (nI_ge hd' (by omega)), bit_at han hd' hρ, nI_1, grd_t (xin_nI (show d < 10 by omega) (by decide)), nI_cl (by omega), grd_t (xin_nI (show d < 10 by omega) (by decide)), bnd_eq, bnd_eq]
      unfold gr
      by_cases q : ρ / 2 ^ (an - 1 - d) % 2 = 1
      · rw [if_pos (by rw [q]; rfl), if_pos q]
        rfl
      · rw [if_neg (by rw [show ρ / 2 ^ (an - 1 - d) % 2 = 0 by omega]; decide), if_neg q]
        rfl
def LVI : Lc := LApp ++ [(34,0,0),(7,0,0)]
theorem c_vi_go (N : Nat) (hN : 300 ≤ N) {n an x ρ : Nat} {E A : Ed} {cs : List Nat} (hx : x < 16) (p : PF n E an A cs) (hwy : Way n E an A cs ρ) : ∀ (z d : Nat) (h : xHp), d ≤ an → an - d < z → Ccon (n + d) (exE E n A (gr an ρ)) h → Cfor an A cs h → (∀ k, k < an → gI h 34 k = nI (gr an ρ k)) → ∃ h' V w, xit (F_X8_valueIn_73_b N) (fun _ _ _ _ => none) z (nI x) (nI n) (nI d) h = some (V, h') ∧ FL LVI h h' ∧ Ccon n E h' ∧ V7 h' w ∧ V = gJ h' 7 x - gJ h' 7 0 ∧ ∀ u, u < 16 → IsG (exE E n A (gr an ρ)) (okn (n + an)) u (w u) := by
  obtain ⟨p1, p2, p3, p4, p5⟩ := p
  have han := p4.1
  intro z
  induction z with
  | zero => intro d h _ h2; omega
  | succ z ih =>
    intro d h h1 h2 rc rf hg
    show ∃ h' V w, F_X8_valueIn_73_b N (xit (F_X8_valueIn_73_b N) (fun _ _ _ _ => none) z) (nI x) (nI n) (nI d) h = _ ∧ _
    generalize xit (F_X8_valueIn_73_b N) (fun _ _ _ _ => none) z = K at ih ⊢
    unfold F_X8_valueIn_73_b
    rw [rf.1]
    by_cases hd : d = an
    · subst hd
      rw [if_pos (Int32.le_refl _)]
      obtain ⟨h3, w, f3, v3, g3, e3⟩ := c_valueOf N hN hx (p1.ex p3 (Nat.le_refl d) (by omega)) hwy.2 rc
      obtain ⟨h4, e4, f4, c4⟩ := c_cutTo N (n := n) (rc.ag (f3.ag rfl)) (by omega) (by omega)
      rw [e3, bnd2_p, e4, bnd2_p]
      refine ⟨h4, _, w, rfl, FL.cat f3 f4 rfl rfl, c4.congr (fun k hk => exE_lt hk), fun u hu => ?_, ?_, g3⟩
      · rw [(f4.1 7 u rfl).2]; exact v3 u hu
      · rw [(f4.1 7 x rfl).2, (f4.1 7 0 rfl).2]
    · have hd' : d < an := by omega
      obtain ⟨c1, c2, c, c3, c4⟩ := c_dif N rf p3 han hd' (hg d hd') (by have := gr_02 an ρ d; omega)
      obtain ⟨h3, e3, f3, rc3⟩ := c_append (x := (dif A (gr an ρ) d).1) (y := (dif A (gr an ρ) d).2.1) (c := c) N (show n + d < 70 by omega) rc
      rw [c3] at rc3
      obtain ⟨h', V, w, e', f', r'⟩ := ih (d + 1) h3 (by omega) (by omega) (rc3.congr (fun k hk => exE_up (fun _ _ => rfl) hk)) (rf.ag (f3.ag rfl)) (fun k hk => by rw [(f3.1 34 k rfl).1]; exact hg k hk)
      refine ⟨h', V, w, ?_, FL.cat f3 f' rfl rfl, r'⟩
      rw [← e', if_neg (nI_ge hd' (by omega)), c1, bnd2_p, c2, bnd2_p, c4, bnd2_p, e3, bnd2_p, nI_1]
/-- the answer of a way's value: two longs of one number -/
theorem val_eq {a b c d : Int64} (h1 : a.toInt = c.toInt) (h2 : b.toInt = d.toInt) : a - b = c - d := by rw [Int64.toInt_inj.mp h1, Int64.toInt_inj.mp h2]
theorem nI_lt_p {m : Nat} {p : Int32} (hm : m < 2 ^ 31) (h1 : ¬ p < 0) (h2 : p < nI m) : ∃ j, j < m ∧ p = nI j := by
  rcases pk_ix p hm with h | h | h
  · exact absurd h h1
  · exact absurd h2 (Int32.not_lt.mpr h)
  · exact h
/-- class and reference, one after the other: valueIn, a variable being given -/
theorem x_valueIn (N : Nat) (hN : 2000 ≤ N) {n an x : Nat} {b : Bool} {E A : Ed} {cs : List Nat} {h : xHp} {pr : Int32} (hx : x < 16) (p : b = true → PF n E an A cs) (r : CF n E an A cs h) (m : MF n E an A cs h) (h8 : gI h 0 9 = b32 b) (h9 : gI h 51 23 = b32 b) : ∃ V h1 h2, F_X8_valueIn N pr (nI x) h = some (V, h1) ∧ FL (LFi ++ LVI) h h1 ∧ CF n E an A cs h1 ∧ F_X9_valueIn N pr (nI x) h1 = some (V, h2) ∧ FL LMW h1 h2 ∧ gI h2 51 0 = 0 := by
  have f0 : ∀ h1 : xHp, FL [(51,0,1)] h1 (sI h1 51 0 0) := fun h1 => FL.i h1 rfl
  have no9 : ∀ (h1 : xHp) (m' : Nat), m' < 2 ^ 30 → (pr < 0 ∨ nI m' ≤ pr) → F_X9_rows N (sI h1 51 0 0) = some (nI m', sI h1 51 0 0) → F_X9_valueIn N pr (nI x) h1 = some (-9223372036854775808, sI h1 51 0 0) := by
    intro h1 m' hm' hp hr
    unfold F_X9_valueIn F_X9_valueIn_56
    rw [p_isVar N hx, bnd2_p, p_may, bnd2_p]
    simp +decide only [if_false]
    rw [hr, bnd2_p, p_ixN N hp hm', bnd2_p, if_pos rfl]
  have th0 : ∀ h1 : xHp, gI (sI h1 51 0 0) 51 0 = 0 := fun h1 => by rw [gI_sI, if_pos rfl, if_pos rfl]
  cases b with
  | false =>
    have e8 : F_X8_valueIn N pr (nI x) h = some (-9223372036854775808, h) := by
      unfold F_X8_valueIn F_X8_valueIn_27
      rw [(p_reqV N hx h).1, bnd2_p, h8, if_pos (by decide)]
    refine ⟨_, h, sI h 51 0 0, e8, Fr.rf, r, no9 h 0 (by decide) ?_ (m_rows0 N (by rw [((f0 h).1 51 23 rfl).1, h9]; rfl)), FL.sub (f0 h) rfl, th0 h⟩
    by_cases q : pr < 0
    · exact Or.inl q
    · exact Or.inr (Int32.not_lt.mp q)
  | true =>
    have pp := p rfl
    have han := pp.2.2.2.1.1
    have p10 := pow10 han
    have e8 : F_X8_valueIn N pr (nI x) h = if pr < 0 then some (-9223372036854775808, h) else if pr < nI (2 ^ an) then bnd2 (F_X5_fill N h) fun r5 h6 => grd (xin pr 1024) (if (gI h6 48 pr.toNatClampNeg) = 0 then some ((-9223372036854775808), h6) else bnd2 (F_X1_giveRow_30 N pr h6) fun r7 h8 => F_X8_valueIn_73 N (nI x) (gI h6 1 3) 0 h8) else some (-9223372036854775808, h) := by
      unfold F_X8_valueIn F_X8_valueIn_27 F_X1_rows_30
      rw [(p_reqV N hx h).1, bnd2_p, h8, if_neg (by decide), bnd2_p, r.2.1.1, rows_2 an (by omega)]
    have rw9 : ∀ h1, MF n E an A cs h1 → gI h1 51 23 = 1 → F_X9_rows N (sI h1 51 0 0) = some (nI (2 ^ an), sI h1 51 0 0) := fun h1 m1 q1 => m_rows N han (m1.ag (f0 h1) rfl rfl) (by rw [((f0 h1).1 51 23 rfl).1]; exact q1)
    by_cases q1 : pr < 0
    · rw [e8, if_pos q1]
      exact ⟨_, h, _, rfl, Fr.rf, r, no9 h (2 ^ an) (by omega) (Or.inl q1) (rw9 h m h9), FL.sub (f0 h) rfl, th0 h⟩
    · rw [e8, if_neg q1]
      by_cases q2 : pr < nI (2 ^ an)
      · rw [if_pos q2]
        obtain ⟨ρ, hρ, rfl⟩ := nI_lt_p (by omega) q1 q2
        obtain ⟨h1, e1, f1, c1, w1⟩ := c_fillW N hN pp r
        rw [e1, bnd2_p, grd_t (xin_nI (show ρ < 1024 by omega) (by decide)), nI_cl (by omega), c1.1.1]
        have tw := w1.2 ρ (by omega)
        have yes9 : ∀ h2, MF n E an A cs h2 → gI h2 51 23 = 1 → F_X9_valueIn N (nI ρ) (nI x) h2 = bnd2 (F_X9_isWay N (nI ρ) (sI h2 51 0 0)) fun r9 h10 => if r9 = 0 then some (-9223372036854775808, h10) else some (((gJ h10 60 x) - (gJ h10 60 0)), h10) := by
          intro h2 m2 q2
          unfold F_X9_valueIn F_X9_valueIn_56
          rw [p_isVar N hx, bnd2_p, p_may, bnd2_p]
          simp +decide only [if_false]
          rw [rw9 h2 m2 q2, bnd2_p, p_ixY N hρ (by omega), bnd2_p, if_neg (by decide), nI_cl (by omega)]
          simp only [grd_t (xin_nI hx (by decide))]
          rfl
        have iw := fun h2 (m2 : MF n E an A cs h2) => m_isWay N (by omega) (ρ := ρ) (h := sI h2 51 0 0) pp.1 pp.2.2.1 pp.2.2.2.1 (by omega) (m2.ag (f0 h2) rfl rfl).1 (m2.ag (f0 h2) rfl rfl).2
        by_cases qW : WayB n E an A cs ρ = true
        · rw [if_pos ⟨hρ, qW⟩] at tw
          rw [tw, if_neg (by decide)]
          have hwy := (WayB_iff.mp qW).2
          obtain ⟨h2, e2, f2, g2⟩ := c_give_row N (ρ := ρ) han (by omega) N 0 h1 (by omega) (by omega) c1.2.1 (fun k hk => by omega)
          have ex0 : ∀ k, k < n + 0 → E k = exE E n A (gr an ρ) k := fun k hk => (exE_lt hk).symm
          obtain ⟨h3, V, w, e3, f3, rc3, v3, eV, g3⟩ := c_vi_go N (by omega) hx pp hwy N 0 h2 (by omega) (by omega) ((c1.1.ag (f2.ag rfl)).congr ex0) (c1.2.1.ag (f2.ag rfl)) g2
          have f23 : FL LVI h1 h3 := FL.cat f2 f3 rfl rfl
          have f13 : FL (LFi ++ LVI) h h3 := FL.cat f1 f23 rfl rfl
          have m3 : MF n E an A cs h3 := m.ag f13 rfl rfl
          have q3 : gI h3 51 23 = 1 := by rw [(f13.1 51 23 rfl).1]; exact h9
          obtain ⟨h4, q, e4, i4⟩ := iw h3 m3
          refine ⟨V, h3, h4, ?_, f13, ⟨rc3, c1.2.1.ag (f23.ag rfl), c1.2.2.ag (f23.ag rfl)⟩, ?_, FL.cat (f0 h3) i4.1 rfl rfl, by rw [(i4.1.1 51 0 rfl).1]; exact th0 h3⟩
          · unfold F_X1_giveRow_30 F_X1_giveRow_30_2 F_X8_valueIn_73
            rw [show (0 : Int32) = nI 0 from rfl, e2, bnd2_p]
            exact e3
          · rw [yes9 h3 m3 q3, e4, bnd2_p]
            rcases i4.2 with ⟨rfl, _, w', v', g'⟩ | ⟨_, bad⟩
            · rw [if_neg (by decide), eV]
              have hv : ∀ u, u < 16 → (gJ h4 60 u).toInt = (gJ h3 7 u).toInt := fun u hu => by rw [v' u hu, v3 u hu]; exact (g' u hu).uni (g3 u hu)
              rw [val_eq (hv x hx) (hv 0 (by decide))]
            · exact absurd hwy bad
        · rw [if_neg (fun q => qW q.2)] at tw
          rw [tw, if_pos rfl]
          have m1 : MF n E an A cs h1 := m.ag f1 rfl rfl
          have q1' : gI h1 51 23 = 1 := by rw [(f1.1 51 23 rfl).1]; exact h9
          obtain ⟨h4, q, e4, i4⟩ := iw h1 m1
          refine ⟨_, h1, h4, rfl, FL.sub f1 rfl, c1, ?_, FL.cat (f0 h1) i4.1 rfl rfl, by rw [(i4.1.1 51 0 rfl).1]; exact th0 h1⟩
          rw [yes9 h1 m1 q1', e4, bnd2_p]
          rcases i4.2 with ⟨_, good, _⟩ | ⟨rfl, _⟩
          · exact absurd (WayB_iff.mpr ⟨hρ, good⟩) qW
          · rw [if_pos rfl]
      · rw [if_neg q2]
        exact ⟨_, h, _, rfl, Fr.rf, r, no9 h (2 ^ an) (by omega) (Or.inr (Int32.not_lt.mp q2)) (rw9 h m h9), FL.sub (f0 h) rfl, th0 h⟩
