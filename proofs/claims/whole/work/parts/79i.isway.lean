/-! ISWAY of the reference -/
def okX (n d : Nat) : Nat → Prop := fun e => e < n ∨ (60 ≤ e ∧ e < 60 + d)
def mxE (E A : Ed) (g : Nat → Nat) : Ed := fun e => if e < 60 then E e else dif A g (e - 60)
def phi (n e : Nat) : Nat := if e < n then e else 60 + (e - n)
theorem phi_ok {n d e : Nat} {E A : Ed} {g : Nat → Nat} (hn : n ≤ 60) (he : okn (n + d) e) : okX n d (phi n e) ∧ mxE E A g (phi n e) = exE E n A g e := by
  have he' : e < n + d := he
  unfold phi okX mxE exE
  by_cases q : e < n
  · simp only [if_pos q]
    exact ⟨Or.inl q, by rw [if_pos (by omega)]⟩
  · simp only [if_neg q]
    exact ⟨Or.inr ⟨by omega, by omega⟩, by rw [if_neg (by omega), Nat.add_sub_cancel_left]⟩
theorem psi_ok {n d e : Nat} {E A : Ed} {g : Nat → Nat} (hn : n ≤ 60) (he : okX n d e) : ∃ e', okn (n + d) e' ∧ phi n e' = e ∧ exE E n A g e' = mxE E A g e := by
  unfold okX at he
  by_cases q : e < n
  · have o : okn (n + d) e := by show e < n + d; omega
    have p : phi n e = e := by unfold phi; rw [if_pos q]
    exact ⟨e, o, p, by rw [← (phi_ok (E := E) (A := A) (g := g) hn o).2, p]⟩
  · have o : okn (n + d) (n + (e - 60)) := by show n + (e - 60) < n + d; omega
    have p : phi n (n + (e - 60)) = e := by unfold phi; rw [if_neg (by omega)]; omega
    exact ⟨_, o, p, by rw [← (phi_ok (E := E) (A := A) (g := g) hn o).2, p]⟩
theorem Wk.rel {E E' : Ed} {ok ok' : Nat → Prop} {t : Nat} (hφ : ∀ e, ok e → ∃ e', ok' e' ∧ E' e' = E e) : ∀ {j u : Nat} {s : Int}, Wk E ok t j u s → Wk E' ok' t j u s := by
  intro j
  induction j with
  | zero => intro u s h; exact h
  | succ j ih =>
    rintro u s ⟨e, h1, h2, s', h3, h4⟩
    obtain ⟨e', o, q⟩ := hφ e h1
    exact ⟨e', o, by rw [q]; exact h2, s', by rw [q]; exact ih h3, by rw [q]; exact h4⟩
theorem Pot.rel {E E' : Ed} {ok ok' : Nat → Prop} {v : Nat → Int} (hφ : ∀ e, ok e → ∃ e', ok' e' ∧ E' e' = E e) (h : Pot E' ok' v) : Pot E ok v := fun e he => by
  obtain ⟨e', o, q⟩ := hφ e he
  rw [← q]
  exact h e' o
theorem x_to {n d : Nat} {E A : Ed} {g : Nat → Nat} (hn : n ≤ 60) : ∀ e, okn (n + d) e → ∃ e', okX n d e' ∧ mxE E A g e' = exE E n A g e := fun e he => ⟨_, phi_ok hn he⟩
theorem x_fro {n d : Nat} {E A : Ed} {g : Nat → Nat} (hn : n ≤ 60) : ∀ e, okX n d e → ∃ e', okn (n + d) e' ∧ exE E n A g e' = mxE E A g e := fun e he => by
  obtain ⟨e', a, _, b⟩ := psi_ok (E := E) (A := A) (g := g) hn he
  exact ⟨e', a, b⟩
/-- d differences are put behind the constraints -/
def Mdif (n d : Nat) (E A : Ed) (g : Nat → Nat) (h : xHp) : Prop := (∀ i, i < 70 → gI h 55 i = if i < n ∨ (60 ≤ i ∧ i < 60 + d) then 1 else 0) ∧ ∀ k, k < d → gI h 52 (60 + k) = nI (dif A g k).1 ∧ gI h 53 (60 + k) = nI (dif A g k).2.1 ∧ (gI h 54 (60 + k)).toInt = (dif A g k).2.2
theorem Mdif.wf {n d an : Nat} {E A : Ed} {g : Nat → Nat} {h : xHp} (hw : Ewf n E) (hA : Awf an A) (hd : d ≤ an) (han : an ≤ 10) (r : Mcon n E h) (m : Mdif n d E A g h) : wfM h ∧ (∀ e, okM h e ↔ okX n d e) ∧ ∀ e, okM h e → edM h e = mxE E A g e := by
  have hn := r.1
  have hok : ∀ e, okM h e ↔ okX n d e := by
    intro e
    unfold okM okX
    constructor
    · rintro ⟨a, b⟩
      rw [m.1 e a] at b
      by_cases q : e < n ∨ (60 ≤ e ∧ e < 60 + d)
      · exact q
      · rw [if_neg q] at b
        exact absurd rfl b
    · intro q
      refine ⟨by omega, ?_⟩
      rw [m.1 e (by omega), if_pos q]
      decide
  have key : ∀ e, okX n d e → gI h 52 e = nI (mxE E A g e).1 ∧ gI h 53 e = nI (mxE E A g e).2.1 ∧ (gI h 54 e).toInt = (mxE E A g e).2.2 ∧ (mxE E A g e).1 < 16 ∧ (mxE E A g e).2.1 < 16 ∧ -1000001 ≤ (mxE E A g e).2.2 ∧ (mxE E A g e).2.2 ≤ 1000001 := by
    intro e he
    unfold okX at he
    by_cases q : e < n
    · have e1 : mxE E A g e = E e := by unfold mxE; rw [if_pos (by omega)]
      rw [e1]
      obtain ⟨a1, a2, a3⟩ := r.2.2 e q
      exact ⟨a1, a2, a3, hw.2 e q⟩
    · obtain ⟨k, rfl⟩ : ∃ k, e = 60 + k := ⟨e - 60, by omega⟩
      have e1 : mxE E A g (60 + k) = dif A g k := by unfold mxE; rw [if_neg (by omega), Nat.add_sub_cancel_left]
      rw [e1]
      obtain ⟨a1, a2, a3⟩ := m.2 k (by omega)
      exact ⟨a1, a2, a3, dif_wf hA (by omega)⟩
  refine ⟨fun e he => ?_, hok, fun e he => ?_⟩
  · obtain ⟨a1, a2, a3, a4, a5, a6, a7⟩ := key e ((hok e).mp he)
    exact ⟨⟨_, a4, a1⟩, ⟨_, a5, a2⟩, by omega, by omega⟩
  · obtain ⟨a1, a2, a3, a4, a5, a6, a7⟩ := key e ((hok e).mp he)
    unfold edM
    rw [a1, a2, a3, nI_cl (by omega), nI_cl (by omega)]
def LPut : Lc := [(52,60,0),(53,60,0),(54,60,0),(55,0,0)]
theorem inPut {c k : Nat} (hc : c = 52 ∨ c = 53 ∨ c = 54) : inL LPut c (60 + k) = true := by
  rw [inL_iff]
  rcases hc with rfl | rfl | rfl
  · exact ⟨(52, 60, 0), by decide, rfl, by show 60 ≤ 60 + k; omega, Or.inl rfl⟩
  · exact ⟨(53, 60, 0), by decide, rfl, by show 60 ≤ 60 + k; omega, Or.inl rfl⟩
  · exact ⟨(54, 60, 0), by decide, rfl, by show 60 ≤ 60 + k; omega, Or.inl rfl⟩
theorem m_put (N : Nat) {n d an : Nat} {E A : Ed} {g : Nat → Nat} {cs : List Nat} {h : xHp} (hA : Awf an A) (hd : d < an) (han : an ≤ 10) (rf : Mfor an A cs h) (hg : gI h 71 d = nI (tm (g d))) (hg2 : g d ≤ 2) : ∃ x y c h', F_X9_putDifference N (nI d) h = some ((), h') ∧ x = nI (dif A g d).1 ∧ y = nI (dif A g d).2.1 ∧ c.toInt = (dif A g d).2.2 ∧ h' = sI (sI (sI (sI h 52 (60 + d) x) 53 (60 + d) y) 54 (60 + d) c) 55 (60 + d) 1 := by
  obtain ⟨r1, r2, r3⟩ := rf.2.1 d hd
  obtain ⟨a1, a2, a3, a4⟩ := hA d hd
  have e60 : (60 : Int32) + nI d = nI (60 + d) := by rw [show (60 : Int32) = nI 60 from rfl, nI_add]
  have et : (nI (tm (g d)) = 1) ↔ g d = 2 := by
    rcases le2 hg2 with q | q | q <;> rw [q] <;> decide
  have i1 : xin (nI d) 10 = true := xin_nI (by omega) (by decide)
  have i2 : xin (nI (60 + d)) 70 = true := xin_nI (by omega) (by decide)
  unfold F_X9_putDifference F_X9_putDifference_15 F_X9_putDifference_43 F_X9_putDifference_71 F_X9_putDifference_102
  simp only [grd_t i1, nI_cl (show d < 2 ^ 31 by omega), hg, et, e60, grd_t i2, nI_cl (show 60 + d < 2 ^ 31 by omega), bnd_eq, nar1]
  unfold dif
  by_cases q : g d = 2
  · simp +decide only [if_pos q, gI_sI, if_false, r1, r2]
    exact ⟨_, _, _, _, rfl, rfl, rfl, r3, rfl⟩
  · simp +decide only [if_neg q, gI_sI, if_false, r1, r2, if_true]
    exact ⟨_, _, _, _, rfl, rfl, rfl, by rw [neg_toInt (by omega) (by omega), r3], rfl⟩
theorem m_put2 (N : Nat) {n d an : Nat} {E A : Ed} {g : Nat → Nat} {cs : List Nat} {h : xHp} (hA : Awf an A) (hd : d < an) (han : an ≤ 10) (rf : Mfor an A cs h) (hg : gI h 71 d = nI (tm (g d))) (hg2 : g d ≤ 2) (m : Mdif n d E A g h) : ∃ h', F_X9_putDifference N (nI d) h = some ((), h') ∧ FL LPut h h' ∧ Mdif n (d + 1) E A g h' := by
  obtain ⟨x, y, c, h', e1, hx, hy, hc, rfl⟩ := m_put N (n := n) (E := E) hA hd han rf hg hg2
  refine ⟨_, e1, (FL.i h (inPut (by omega))).trans ((FL.i _ (inPut (by omega))).trans ((FL.i _ (inPut (by omega))).trans (FL.i _ rfl))), fun i hi => ?_, fun k hk => ?_⟩
  · simp +decide only [gI_sI, if_false, if_true]
    by_cases q : i = 60 + d
    · rw [if_pos q, if_pos (by omega)]
    · rw [if_neg q, m.1 i hi]
      by_cases q2 : i < n ∨ (60 ≤ i ∧ i < 60 + d)
      · rw [if_pos q2, if_pos (by omega)]
      · rw [if_neg q2, if_neg (by omega)]
  · simp +decide only [gI_sI, if_false, if_true]
    by_cases q : k = d
    · subst q
      rw [if_pos rfl, if_pos rfl, if_pos rfl]
      exact ⟨hx, hy, hc⟩
    · rw [if_neg (by omega), if_neg (by omega), if_neg (by omega)]
      exact m.2 k (by omega)
theorem sh_j : ∀ j, j < 10 → ((nI j).toBitVec.smod 32).toNat = j := by decide
theorem bit_at {an k ρ : Nat} (han : an ≤ 10) (hk : k < an) (hρ : ρ < 2 ^ 31) : (nI ρ >>> (((nI an - 1) - nI k) &&& 31)) &&& 1 = nI (ρ / 2 ^ (an - 1 - k) % 2) := by
  rw [show (1 : Int32) = nI 1 from rfl, pk_sub (by omega), pk_sub (by omega), pk_andN (by omega) 5 (by decide), Nat.mod_eq_of_lt (by omega), pk_shrN hρ _ (an - 1 - k) (sh_j _ (by omega)), pk_andN (by have := Nat.div_le_self ρ (2 ^ (an - 1 - k)); omega) 1 (by decide)]
theorem tm_gr {an ρ k : Nat} : nI (ρ / 2 ^ (an - 1 - k) % 2) = nI (tm (gr an ρ k)) := by
  unfold gr
  by_cases q : ρ / 2 ^ (an - 1 - k) % 2 = 1
  · rw [if_pos q, q]; rfl
  · rw [if_neg q, show ρ / 2 ^ (an - 1 - k) % 2 = 0 by omega]; rfl
def LW : Lc := [(71,0,0),(72,0,0),(52,60,0),(53,60,0),(54,60,0),(55,0,0),(60,0,0)]
/-- what isWay tells and leaves -/
def IWres (n an : Nat) (E A : Ed) (cs : List Nat) (ρ : Nat) (h h' : xHp) (q : Int32) : Prop := FL LW h h' ∧ ((q = 1 ∧ Way n E an A cs ρ ∧ ∃ w, V60 h' w ∧ ∀ u, u < 16 → IsG (exE E n A (gr an ρ)) (okn (n + an)) u (w u)) ∨ (q = 0 ∧ ¬ Way n E an A cs ρ))
theorem m_way_put (N : Nat) (hN : 300 ≤ N) {n an ρ : Nat} {E A : Ed} {cs : List Nat} (hw : Ewf n E) (hA : Awf an A) (han : an ≤ 10) (hj : jd (gr an ρ) cs = 2) : ∀ (z d : Nat) (h : xHp), d ≤ an → an - d < z → Mcon n E h → Mfor an A cs h → (∀ k, k < an → gI h 71 k = nI (tm (gr an ρ k))) → Mdif n d E A (gr an ρ) h → ∃ h' q, xit (F_X9_isWay_50_b N) (fun _ _ => none) z (nI d) h = some (q, h') ∧ IWres n an E A cs ρ h h' q := by
  intro z
  induction z with
  | zero => intro d h _ h2; omega
  | succ z ih =>
    intro d h h1 h2 rc rf hg m
    by_cases hd : d = an
    · subst hd
      obtain ⟨w1, w2, w3⟩ := m.wf hw hA (Nat.le_refl d) han rc
      obtain ⟨h', q, e, f, g⟩ := m_findValues N hN w1
      have st : xit (F_X9_isWay_50_b N) (fun _ _ => none) (z + 1) (nI d) h = some (vp_nar .boolean q, h') := by
        show F_X9_isWay_50_b N _ (nI d) h = _
        unfold F_X9_isWay_50_b
        rw [rf.1, if_pos (Int32.le_refl _), e, bnd2_p]
      have to1 : ∀ e, okn (n + d) e → ∃ e', okM h e' ∧ edM h e' = exE E n A (gr d ρ) e := fun e he => by
        obtain ⟨a, b⟩ := phi_ok (E := E) (A := A) (g := gr d ρ) rc.1 he
        exact ⟨_, (w2 _).mpr a, by rw [w3 _ ((w2 _).mpr a), b]⟩
      have fr1 : ∀ e, okM h e → ∃ e', okn (n + d) e' ∧ exE E n A (gr d ρ) e' = edM h e := fun e he => by
        obtain ⟨e', a, _, b⟩ := psi_ok (E := E) (A := A) (g := gr d ρ) rc.1 ((w2 _).mp he)
        exact ⟨e', a, by rw [b, w3 _ he]⟩
      rcases g with ⟨rfl, w, g1, g2, g3⟩ | ⟨rfl, g1⟩
      · rw [nar1] at st
        refine ⟨h', 1, st, FL.sub f rfl, Or.inl ⟨rfl, ⟨hj, w, Pot.rel to1 g2⟩, w, g1, fun u hu => ?_⟩⟩
        obtain ⟨⟨t, j, b1⟩, b2⟩ := g3 u hu
        exact ⟨⟨t, j, Wk.rel fr1 b1⟩, fun t j s q => b2 t j s (Wk.rel to1 q)⟩
      · rw [nar0] at st
        refine ⟨h', 0, st, FL.sub f rfl, Or.inr ⟨rfl, fun q => ?_⟩⟩
        obtain ⟨_, v, hv⟩ := q
        exact g1 v (Pot.rel fr1 hv)
    · have hd' : d < an := by omega
      obtain ⟨h3, e3, f3, m3⟩ := m_put2 N hA hd' han rf (hg d hd') (by have := gr_02 an ρ d; omega) m
      obtain ⟨h', q, e', f', g'⟩ := ih (d + 1) h3 (by omega) (by omega) (rc.ag (f3.ag rfl)) (rf.ag (f3.ag rfl)) (fun k hk => by rw [(f3.1 71 k rfl).1]; exact hg k hk) m3
      refine ⟨h', q, ?_, FL.cat f3 f' rfl rfl, g'⟩
      show F_X9_isWay_50_b N (xit (F_X9_isWay_50_b N) (fun _ _ => none) z) (nI d) h = _
      rw [← e']
      generalize xit (F_X9_isWay_50_b N) (fun _ _ => none) z = K
      unfold F_X9_isWay_50_b
      rw [rf.1, if_neg (nI_ge hd' (by omega)), e3, bnd2_p, nI_1]
theorem m_way_go (N : Nat) (hN : 300 ≤ N) {n an ρ : Nat} {E A : Ed} {cs : List Nat} (hw : Ewf n E) (hA : Awf an A) (hf : Fcs an cs) (hρ : ρ < 2 ^ 31) : ∀ (z d : Nat) (h : xHp), d ≤ an → an - d < z → Mcon n E h → Mfor an A cs h → (∀ k, k < d → gI h 71 k = nI (tm (gr an ρ k))) → ∃ h' q, xit (F_X9_isWay_2_b N) (fun _ _ _ => none) z (nI ρ) (nI d) h = some (q, h') ∧ IWres n an E A cs ρ h h' q := by
  have han := hf.1
  intro z
  induction z with
  | zero => intro d h _ h2; omega
  | succ z ih =>
    intro d h h1 h2 rc rf hg
    by_cases hd : d = an
    · subst hd
      obtain ⟨h3, e3, f3⟩ := m_judge N hN hf rf hg (fun k _ => by have := gr_02 d ρ k; omega)
      have full := jd_full hf (g := gr d ρ) (fun k _ => gr_02 d ρ k)
      have st : xit (F_X9_isWay_2_b N) (fun _ _ _ => none) (z + 1) (nI ρ) (nI d) h = if nI (tm (jd (gr d ρ) cs)) = 1 then bnd2 (F_X9_constraintsAlone N h3) fun r3 h4 => F_X9_isWay_50 N 0 h4 else some (0, h3) := by
        show F_X9_isWay_2_b N _ (nI ρ) (nI d) h = _
        unfold F_X9_isWay_2_b
        rw [rf.1, if_pos (Int32.le_refl _), e3, bnd2_p]
      rw [st]
      rcases full with q | q
      · rw [q, if_neg (by decide)]
        exact ⟨h3, 0, rfl, FL.sub f3 rfl, Or.inr ⟨rfl, fun w => by have := w.1; omega⟩⟩
      · rw [q, if_pos (by decide)]
        have rc3 := rc.ag (f3.ag rfl)
        obtain ⟨h4, e4, fr4, g4⟩ := p_alone N hN (show n ≤ 70 by have := rc.1; omega) rc3.2.1
        have f4 := P55_L fr4
        have rf4 := (rf.ag (f3.ag rfl)).ag (f4.ag rfl)
        obtain ⟨h', q', e', f', g'⟩ := m_way_put N hN (n := n) (ρ := ρ) hw hA han q N 0 h4 (by omega) (by omega) (rc3.ag (f4.ag rfl)) rf4 (fun k hk => by rw [(f4.1 71 k rfl).1, (f3.1 71 k rfl).1]; exact hg k hk) ⟨fun i hi => by
          rw [g4 i hi]
          by_cases q : i < n
          · rw [if_pos q, if_pos (Or.inl q)]
          · rw [if_neg q, if_neg (by omega)], fun k hk => by omega⟩
        refine ⟨h', q', ?_, FL.cat f3 (FL.cat f4 f' rfl rfl : FL LW _ _) rfl rfl, g'⟩
        rw [e4, bnd2_p]
        exact e'
    · have hd' : d < an := by omega
      have f0 : FL [(71,0,0)] h (sI h 71 d (nI (tm (gr an ρ d)))) := FL.i h rfl
      obtain ⟨h', q, e', f', g'⟩ := ih (d + 1) (sI h 71 d (nI (tm (gr an ρ d)))) (by omega) (by omega) (rc.ag (f0.ag rfl)) (rf.ag (f0.ag rfl)) (fun k hk => by
        rw [gI_sI, if_pos rfl]
        by_cases q : k = d
        · rw [if_pos q, q]
        · rw [if_neg q]; exact hg k (by omega))
      refine ⟨h', q, ?_, FL.cat f0 f' rfl rfl, g'⟩
      show F_X9_isWay_2_b N (xit (F_X9_isWay_2_b N) (fun _ _ _ => none) z) (nI ρ) (nI d) h = _
      rw [← e']
      generalize xit (F_X9_isWay_2_b N) (fun _ _ _ => none) z = K
      unfold F_X9_isWay_2_b
      rw [rf.1, if_neg (nI_ge hd' (by omega)), grd_t (xin_nI (show d < 10 by omega) (by decide)), nI_cl (by omega), bit_at han hd' hρ, tm_gr, bnd_eq, nI_1]
theorem m_isWay (N : Nat) (hN : 300 ≤ N) {n an ρ : Nat} {E A : Ed} {cs : List Nat} {h : xHp} (hw : Ewf n E) (hA : Awf an A) (hf : Fcs an cs) (hρ : ρ < 2 ^ 31) (rc : Mcon n E h) (rf : Mfor an A cs h) : ∃ h' q, F_X9_isWay N (nI ρ) h = some (q, h') ∧ IWres n an E A cs ρ h h' q := by
  have han := hf.1
  exact m_way_go N hN hw hA hf hρ N 0 h (by omega) (by omega) rc rf (fun k hk => by omega)
