/-! BOUND, WHY, IDLE -/
theorem c_least (N : Nat) (hN : 300 ≤ N) {h : xHp} {n x y : Nat} {E : Ed} {sk : Int32} (hw : Ewf n E) (hp : Epot n E) (r : Ccon n E h) (hx : x < 16) (hy : y < 16) : ∃ L h' R, F_X2_leastSum N (nI x) (nI y) sk h = some (L, h') ∧ FL LN h h' ∧ McA h h' n sk y R ∧ Lst xMAX L (fun s => ∃ j, Wk E (okC n sk) y j x s) (BB 15) := by
  obtain ⟨v, hv⟩ := hp
  have he : ∀ e, okC n sk e → edC h e = E e := fun e q => r.ed hw q.1
  have hv' : Pot (edC h) (okC n sk) v := fun e q => by rw [he e q]; exact hv e q.1
  obtain ⟨h', R, e1, hA⟩ := p_measure N hN (sk := sk) hy (r.wf hw) hv'
  refine ⟨gJ h' (8 + R) x, h', R, ?_, PN_LN (PM_PN hA.1), hA, ?_⟩
  · unfold F_X2_leastSum
    have hR := hA.2.1
    rw [e1, bnd2_p, hA.2.2.1, grd_t (xin_nI (by omega) (by decide)), grd_t (xin_nI hx (by decide)), nI_cl (by omega), nI_cl (by omega)]
  · have hR := hA.2.1
    have B : BB R ≤ BB 15 := by unfold BB; omega
    have hl := (hA.2.2.2.1 R x (Nat.le_refl R) hx).mono B
    rcases hl with ⟨a1, a2⟩ | ⟨m, a1, a2, a3, ⟨j, a4, a5⟩, a6⟩
    · refine Or.inl ⟨a1, fun s => ?_⟩
      rintro ⟨j, hj⟩
      obtain ⟨j', s', b1, b2, b3⟩ := hA.2.2.2.2 j x s hx ((Wk.congr (fun e => Iff.rfl) (fun e q => (he e q).symm)).mp hj)
      exact a2 s' ⟨j', b1, b3⟩
    · refine Or.inr ⟨m, a1, a2, a3, ⟨j, (Wk.congr (fun e => Iff.rfl) he).mp a5⟩, fun s => ?_⟩
      rintro ⟨j, hj⟩
      obtain ⟨j', s', b1, b2, b3⟩ := hA.2.2.2.2 j x s hx ((Wk.congr (fun e => Iff.rfl) (fun e q => (he e q).symm)).mp hj)
      have := a6 s' ⟨j', b1, b3⟩
      omega
theorem m_bound_go (N : Nat) {h : xHp} {x : Nat} {P : Nat → Int → Prop} (hx : x < 16) (hl : ∀ i, i ≤ 16 → Lst xFAR (gJ h 58 (16 * i + x)) (P i) (BB i)) : ∀ (z k : Nat) (b : Int64), k ≤ 17 → 17 - k < z → Lst xFAR b (fun s => ∃ j, j < k ∧ P j s) (BB 16) → ∃ L, xit (F_X9_boundOf_12_b N) (fun _ _ _ _ => none) z (nI x) b (nI k) h = some (L, h) ∧ Lst xFAR L (fun s => ∃ j, j < 17 ∧ P j s) (BB 16) := by
  intro z
  induction z with
  | zero => intro k b _ h2; omega
  | succ z ih =>
    intro k b h1 h2 hb
    by_cases hk : k = 17
    · subst hk
      refine ⟨b, ?_, hb⟩
      show F_X9_boundOf_12_b N _ (nI x) b (nI 17) h = _
      unfold F_X9_boundOf_12_b
      rw [if_pos (by decide)]
    · have hk16 : k ≤ 16 := by omega
      have hi := hl k hk16
      have B : BB k ≤ BB 16 := by unfold BB; omega
      have B16 : BB 16 = 16000016 := by decide
      have hm : ∀ s, (∃ j, j < k + 1 ∧ P j s) ↔ ((∃ j, j < k ∧ P j s) ∨ P k s) := fun s => ⟨fun ⟨j, a, b⟩ => by
        by_cases q : j = k
        · subst q; exact Or.inr b
        · exact Or.inl ⟨j, by omega, b⟩, fun q => q.elim (fun ⟨j, a, b⟩ => ⟨j, by omega, b⟩) (fun b => ⟨k, by omega, b⟩)⟩
      show ∃ L, F_X9_boundOf_12_b N (xit (F_X9_boundOf_12_b N) (fun _ _ _ _ => none) z) (nI x) b (nI k) h = some (L, h) ∧ _
      generalize xit (F_X9_boundOf_12_b N) (fun _ _ _ _ => none) z = K at ih ⊢
      unfold F_X9_boundOf_12_b F_X9_boundOf_52
      rw [if_neg (by rw [show (16 : Int32) = nI 16 from rfl]; exact nI_nlt (by omega) (by omega)), ix16 hk16 hx, nI_cl (by omega), nI_1]
      simp only [grd_t (xin_nI (show 16 * k + x < 272 by omega) (by decide)), lg_cmp_ge]
      by_cases q : b ≤ gJ h 58 (16 * k + x)
      · rw [if_pos q]
        refine ih (k + 1) b (by omega) (by omega) ?_
        rw [Int64.le_iff_toInt_le] at q
        rcases hb with ⟨b1, b2⟩ | ⟨m, b1, b2, b3, b4, b5⟩
        · refine Or.inl ⟨b1, fun s hs => ?_⟩
          rcases (hm s).mp hs with a | a
          · exact b2 s a
          · rcases hi with ⟨c1, c2⟩ | ⟨m, c1, c2, c3, c4, c5⟩
            · exact c2 s a
            · rw [b1, xFAR_toInt, c1] at q
              omega
        · refine Or.inr ⟨m, b1, b2, b3, ?_, fun s hs => ?_⟩
          · obtain ⟨j, a1, a2⟩ := b4
            exact ⟨j, by omega, a2⟩
          · rcases (hm s).mp hs with a | a
            · exact b5 s a
            · rcases hi with ⟨c1, c2⟩ | ⟨m', c1, c2, c3, c4, c5⟩
              · exact absurd a (c2 s)
              · rw [b1, c1] at q
                have := c5 s a
                omega
      · rw [if_neg q]
        refine ih (k + 1) _ (by omega) (by omega) ?_
        rw [Int64.le_iff_toInt_le] at q
        rcases hi with ⟨c1, c2⟩ | ⟨m', c1, c2, c3, c4, c5⟩
        · exfalso
          rw [c1, xFAR_toInt] at q
          rcases hb with ⟨b1, b2⟩ | ⟨m, b1, b2, b3, b4, b5⟩
          · rw [b1, xFAR_toInt] at q
            omega
          · rw [b1] at q
            omega
        · refine Or.inr ⟨m', c1, by omega, by omega, ⟨k, by omega, c4⟩, fun s hs => ?_⟩
          rcases (hm s).mp hs with a | a
          · rcases hb with ⟨b1, b2⟩ | ⟨m, b1, b2, b3, b4, b5⟩
            · exact absurd a (b2 s)
            · rw [b1, c1] at q
              have := b5 s a
              omega
          · exact c5 s a
theorem wfM_lt {h : xHp} {ok : Nat → Prop} {E : Ed} (hw : wfM h) (ho : ∀ e, okM h e ↔ ok e) (he : ∀ e, okM h e → edM h e = E e) {e : Nat} (q : ok e) : (E e).1 < 16 ∧ (E e).2.1 < 16 := by
  have q' := (ho e).mpr q
  rw [← he e q']
  obtain ⟨⟨a, ha, ea⟩, ⟨b, hb, eb⟩, _⟩ := hw e q'
  exact ⟨by show (gI h 52 e).toNatClampNeg < 16; rw [ea, nI_cl (by omega)]; exact ha, by show (gI h 53 e).toNatClampNeg < 16; rw [eb, nI_cl (by omega)]; exact hb⟩
theorem m_boundOf (N : Nat) (hN : 300 ≤ N) {h : xHp} {ok : Nat → Prop} {E : Ed} {x y : Nat} (hw : wfM h) (ho : ∀ e, okM h e ↔ ok e) (he : ∀ e, okM h e → edM h e = E e) (hx : x < 16) (hy : y < 16) {v : Nat → Int} (hv : Pot E ok v) : ∃ L h', F_X9_boundOf N (nI x) (nI y) h = some (L, h') ∧ FL [(58,0,0)] h h' ∧ Lst xFAR L (fun s => ∃ j, Wk E ok y j x s) (BB 16) := by
  obtain ⟨h1, e1, f1, g1⟩ := p_findLeast N hN hy hw
  obtain ⟨L, e2, g2⟩ := m_bound_go N (P := fun i => Wk (edM h) (okM h) y i x) hx (fun i hi => g1 i x hi hx) N 0 xFAR (by omega) (by omega) (Or.inl ⟨rfl, fun s ⟨j, a, _⟩ => by omega⟩)
  refine ⟨L, h1, ?_, FL.of f1 (fun c k hp => ?_), ?_⟩
  · unfold F_X9_boundOf F_X9_boundOf_12
    rw [e1, bnd2_p]
    exact e2
  · unfold P58 at hp
    rw [beq_iff_eq] at hp
    rw [inL_iff]
    exact ⟨(58, 0, 0), by decide, hp.symm, Nat.zero_le k, Or.inl rfl⟩
  · have hc : ∀ {j s}, Wk E ok y j x s → ∃ j' s', j' < 17 ∧ s' ≤ s ∧ Wk (edM h) (okM h) y j' x s' := fun q => by
      obtain ⟨j', s', a1, a2, a3⟩ := Wk.cut16 hv (fun e q => wfM_lt hw ho he q) hx q
      exact ⟨j', s', by omega, a2, (Wk.congr ho he).mpr a3⟩
    rcases g2 with ⟨a1, a2⟩ | ⟨m, a1, a2, a3, ⟨j, a4, a5⟩, a6⟩
    · refine Or.inl ⟨a1, fun s ⟨j, q⟩ => ?_⟩
      obtain ⟨j', s', b1, b2, b3⟩ := hc q
      exact a2 s' ⟨j', b1, b3⟩
    · refine Or.inr ⟨m, a1, a2, a3, ⟨j, (Wk.congr ho he).mp a5⟩, fun s ⟨j, q⟩ => ?_⟩
      obtain ⟨j', s', b1, b2, b3⟩ := hc q
      have := a6 s' ⟨j', b1, b3⟩
      omega
/-- the two tables tell the same -/
theorem Lst.two {F1 F2 L1 L2 : Int64} {P : Int → Prop} {B1 B2 : Int} (h1 : Lst F1 L1 P B1) (h2 : Lst F2 L2 P B2) (n1 : B1 < F1.toInt) (n2 : B2 < F2.toInt) : (L1 = F1 ∧ L2 = F2 ∧ ∀ s, ¬ P s) ∨ (L1 = L2 ∧ L1 ≠ F1 ∧ L2 ≠ F2 ∧ ∃ m, L1.toInt = m ∧ -B1 ≤ m ∧ m ≤ B1 ∧ P m ∧ ∀ s, P s → m ≤ s) := by
  rcases h1 with ⟨a1, a2⟩ | ⟨m, a1, a2, a3, a4, a5⟩
  · rcases h2 with ⟨b1, b2⟩ | ⟨m', b1, b2, b3, b4, b5⟩
    · exact Or.inl ⟨a1, b1, a2⟩
    · exact absurd b4 (a2 m')
  · rcases h2 with ⟨b1, b2⟩ | ⟨m', b1, b2, b3, b4, b5⟩
    · exact absurd a4 (b2 m)
    · have q1 := a5 m' b4
      have q2 := b5 m a4
      refine Or.inr ⟨Int64.toInt_inj.mp (by omega), fun q => ?_, fun q => ?_, m, a1, a2, a3, a4, a5⟩
      · rw [q] at a1; omega
      · rw [q] at b1; omega
theorem xMAX_b : BB 15 < xMAX.toInt := by decide
theorem xFAR_b : BB 16 < xFAR.toInt := by decide
theorem okC_n {n : Nat} {E : Ed} {y x : Nat} (hn : n ≤ 70) (s : Int) : (∃ j, Wk E (okC n (-1)) y j x s) ↔ ∃ j, Wk E (okn n) y j x s := ⟨fun ⟨j, q⟩ => ⟨j, (Wk.congr (fun e => okC_iff hn) (fun e _ => rfl)).mp q⟩, fun ⟨j, q⟩ => ⟨j, (Wk.congr (fun e => okC_iff hn) (fun e _ => rfl)).mpr q⟩⟩
