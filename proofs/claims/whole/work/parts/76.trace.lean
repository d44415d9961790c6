/-! THE CLASS's traceRow -/
theorem okC_lt {n : Nat} {sk : Int32} {e : Nat} (h : okC n sk e) : e < n := h.1
theorem p_trace_go (N : Nat) (hN : 300 ≤ N) {h0 : xHp} {n t R : Nat} (hw : wfC n h0) : ∀ (rem z : Nat) (u i : Nat) (M : Int) (lim : Int64) (h : xHp), rem < z → rem + i ≤ 15 → rem ≤ R + 1 → u < 16 → lim.toInt = M → -(1000000000 + (i : Int) * 1000001) ≤ M → M ≤ 1000000000 + (i : Int) * 1000001 → Mc h0 h n (-1) t R → gI h 1 5 = nI i → Short (edC h0) (okC n (-1)) t rem u M → ∃ l h', RowOf (edC h0) (okC n (-1)) t rem u M l ∧ xit (F_X2_traceRow_60_b N) (fun _ _ _ _ => none) z (nI u) lim (nI rem - 1) h = some (1, h') ∧ Fr PT h h' ∧ gI h' 1 5 = nI (i + rem) ∧ (∀ k, k < i → gI h' 5 k = gI h 5 k) ∧ ∀ k, k < rem → gI h' 5 (i + k) = nI (l.getD k 0) := by
  intro rem
  induction rem with
  | zero =>
    intro z u i M lim h hz _ _ hu hM _ _ hm hi hs
    obtain ⟨z, rfl⟩ : ∃ q, z = q + 1 := ⟨z - 1, by omega⟩
    refine ⟨[], h, rfl, ?_, Fr.rf, hi, fun _ _ => rfl, fun k hk => by omega⟩
    show F_X2_traceRow_60_b N _ (nI u) lim (nI 0 - 1) h = _
    unfold F_X2_traceRow_60_b
    rw [if_pos (by decide)]
  | succ rem ih =>
    intro z u i M lim h hz hi15 hrR hu hM hM1 hM2 hm hi hs
    obtain ⟨z, rfl⟩ : ∃ q, z = q + 1 := ⟨z - 1, by omega⟩
    have hn := hw.1
    obtain ⟨r, er, hr⟩ := p_first N (left := rem) hw hm (by omega) hu hM (by omega) (by omega) N 0 (Nat.zero_le n) (by omega) (fun e he => by omega)
    have gl : ∀ e, GoodL (edC h0) (okC n (-1)) t rem u M e ↔ Good (edC h0) (okC n (-1)) t rem u M e := by
      intro e
      constructor
      · rintro ⟨a1, a2, s', ⟨j, a3, a4⟩, a5⟩
        by_cases hj : j = rem
        · subst hj
          exact ⟨a1, a2, s', a4, a5⟩
        · exact absurd a5 (hs.2 (j + 1) (by omega) _ ⟨e, a1, a2, s', a4, rfl⟩)
      · rintro ⟨a1, a2, s', a3, a5⟩
        exact ⟨a1, a2, s', ⟨rem, Nat.le_refl _, a3⟩, a5⟩
    rcases hr with ⟨e, hen, rfl, hge, hmin⟩ | ⟨-, hno⟩
    · have hg := (gl e).mp hge
      obtain ⟨⟨x, hx, ex⟩, ⟨y, hy, ey⟩, c1, c2⟩ := hw.2.2 e hen
      have edy : (edC h0 e).2.1 = y := by show (gI h0 3 e).toNatClampNeg = y; rw [ey, nI_cl (by omega)]
      have edc : (edC h0 e).2.2 = (gI h0 4 e).toInt := rfl
      have hs' := hs.step hg
      rw [edy] at hs'
      have fr : Fr PT h (sI (sI h 5 i (nI e)) 1 5 (nI (i + 1))) := (Fr.sI h rfl).trans (Fr.sI _ rfl)
      have hsub : (lim - (gI h0 4 e).toInt64).toInt = M - (edC h0 e).2.2 := by
        rw [Int64.toInt_sub, hM, i32_64, edc]
        exact Int.bmod_eq_of_le (by omega) (by omega)
      obtain ⟨l, h', rl, el, f', g1, g2, g3⟩ := ih z y (i + 1) (M - (edC h0 e).2.2) (lim - (gI h0 4 e).toInt64) (sI (sI h 5 i (nI e)) 1 5 (nI (i + 1))) (by omega) (by omega) (by omega) hy hsub (by rw [edc]; omega) (by rw [edc]; omega) (hm.fr fr) (by rw [gI_sI, if_pos rfl, if_pos rfl]) hs'
      refine ⟨e :: l, h', ⟨e, l, rfl, hg, fun e' he' q => hmin e' he' ((gl e').mpr q), by rw [edy]; exact rl⟩, ?_, fr.trans f', by rw [g1]; congr 1; omega, fun k hk => ?_, fun k hk => ?_⟩
      · show F_X2_traceRow_60_b N (xit (F_X2_traceRow_60_b N) (fun _ _ _ _ => none) z) (nI u) lim (nI (rem + 1) - 1) h = _
        generalize xit (F_X2_traceRow_60_b N) (fun _ _ _ _ => none) z = K at el ⊢
        unfold F_X2_traceRow_60_b F_X2_firstOnward F_X2_firstOnward_3
        rw [nI_pred, if_neg (nI_pos (by omega)), show (0 : Int32) = nI 0 from rfl, er, bnd2_some]
        have hne : ¬ nI e = -1 := (show okC n (-1) e from hg.1).2
        have m3 := (hm.1 3 e (by decide)).trans ey
        have m4 := hm.1 4 e (by decide)
        simp only [if_neg hne, hi, grd_t (xin_nI (show i < 16 by omega) (by decide)), grd_t (xin_nI (show e < 70 by omega) (by decide)), bnd_eq, nI_cl (show i < 2 ^ 31 by omega), nI_cl (show e < 2 ^ 31 by omega), gI_sI, show (3 : Nat) ≠ 1 by decide, show (3 : Nat) ≠ 5 by decide, show (4 : Nat) ≠ 1 by decide, show (4 : Nat) ≠ 5 by decide, show (1 : Nat) ≠ 5 by decide, if_true, if_false, m3, m4, nI_1]
        rw [show nI rem + (-1 : Int32) = nI rem - 1 from (Int32.sub_eq_add_neg _ _).symm]
        exact el
      · rw [g2 k (by omega), gI_sI, if_neg (by decide), gI_sI, if_pos rfl, if_neg (by omega)]
      · cases k with
        | zero =>
          rw [g2 (i + 0) (by omega), gI_sI, if_neg (by decide), gI_sI, if_pos rfl, if_pos (by omega)]
          rfl
        | succ k =>
          rw [show i + (k + 1) = i + 1 + k by omega, g3 k (by omega)]
          rfl
    · obtain ⟨s, ⟨e, a1, a2, s', a3, rfl⟩, a5⟩ := hs.1
      exact absurd ((gl e).mpr ⟨a1, a2, s', a3, a5⟩) (hno e)
theorem p_trace_find (N : Nat) {h0 : xHp} {n t R x : Nat} {M : Int} {lim : Int64} (hx : x < 16) (hM : lim.toInt = M) (hM2 : M ≤ 2000000000) {h : xHp} (hm : Mc h0 h n (-1) t R) : ∀ (z k : Nat), k ≤ R + 1 → R + 1 - k < z → (∀ j, j < k → ∀ s, Wk (edC h0) (okC n (-1)) t j x s → ¬ s ≤ M) → (∃ J, J ≤ R ∧ Short (edC h0) (okC n (-1)) t J x M ∧ xit (F_X2_traceRow_8_b N) (fun _ _ _ _ => none) z (nI x) lim (nI k) h = F_X2_traceRow_60 N (nI x) lim (nI J - 1) h) ∨ ((∀ j, j ≤ R → ∀ s, Wk (edC h0) (okC n (-1)) t j x s → ¬ s ≤ M) ∧ xit (F_X2_traceRow_8_b N) (fun _ _ _ _ => none) z (nI x) lim (nI k) h = some (0, h)) := by
  obtain ⟨hg, hc, hR, hro, hrows⟩ := hm
  intro z
  induction z with
  | zero => intro k _ h2; omega
  | succ z ih =>
    intro k h1 h2 hno
    generalize hK : xit (F_X2_traceRow_8_b N) (fun _ _ _ _ => none) z = K at ih
    show (∃ J, _ ∧ _ ∧ F_X2_traceRow_8_b N (xit (F_X2_traceRow_8_b N) (fun _ _ _ _ => none) z) (nI x) lim (nI k) h = _) ∨ (_ ∧ F_X2_traceRow_8_b N (xit (F_X2_traceRow_8_b N) (fun _ _ _ _ => none) z) (nI x) lim (nI k) h = _)
    rw [hK]
    unfold F_X2_traceRow_8_b F_X2_traceRow_37
    rw [hro]
    by_cases hk : k = R + 1
    · subst hk
      refine Or.inr ⟨fun j hj => hno j (by omega), ?_⟩
      rw [if_pos (nI_lt (by omega) (by omega)), if_neg (nI_ge (by omega) (by omega))]
    · have hkR : k ≤ R := by omega
      rw [if_neg (nI_nlt hkR (by omega)), grd_t (xin_nI (show k < 16 by omega) (by decide)), grd_t (xin_nI hx (by decide)), nI_cl (show k < 2 ^ 31 by omega), nI_cl (show x < 2 ^ 31 by omega)]
      have hL := (hrows k x hkR hx).le (M := M) (by rw [xMAX_toInt]; omega) hM
      by_cases q : gJ h (8 + k) x ≤ lim
      · rw [if_pos ((lg_cmp_le _ _).mpr q), if_pos (nI_le hkR (by omega))]
        obtain ⟨s, ⟨j, a1, a2⟩, a3⟩ := hL.mp q
        have hjk : j = k := by
          by_cases q2 : j = k
          · exact q2
          · exact absurd a3 (hno j (by omega) s a2)
        subst hjk
        exact Or.inl ⟨j, hkR, ⟨⟨s, a2, a3⟩, hno⟩, rfl⟩
      · rw [if_neg (fun q2 => q ((lg_cmp_le _ _).mp q2)), nI_1]
        refine ih (k + 1) (by omega) (by omega) (fun j hj s hw hs => ?_)
        by_cases q2 : j = k
        · subst q2
          exact q (hL.mpr ⟨s, ⟨j, Nat.le_refl j, hw⟩, hs⟩)
        · exact hno j (by omega) s hw hs
/-- traceRow, behind a measure: the shortest row that is good enough, the first of these; or none is -/
theorem p_traceRow (N : Nat) (hN : 300 ≤ N) {h0 : xHp} {n t R x : Nat} {M : Int} {lim : Int64} (hw : wfC n h0) (hx : x < 16) (hM : lim.toInt = M) (hM1 : -1000000000 ≤ M) (hM2 : M ≤ 1000000000) {h : xHp} (hm : McA h0 h n (-1) t R) : (∃ J l h', J ≤ 15 ∧ Short (edC h0) (okC n (-1)) t J x M ∧ RowOf (edC h0) (okC n (-1)) t J x M l ∧ F_X2_traceRow N (nI x) lim h = some (1, h') ∧ Fr PT h h' ∧ gI h' 1 5 = nI J ∧ ∀ k, k < J → gI h' 5 k = nI (l.getD k 0)) ∨ ((∀ j s, Wk (edC h0) (okC n (-1)) t j x s → ¬ s ≤ M) ∧ ∃ h', F_X2_traceRow N (nI x) lim h = some (0, h') ∧ Fr PT h h') := by
  have f0 : Fr PT h (sI h 1 5 0) := Fr.sI h rfl
  have hm0 := (McA.mc hw hm).fr f0
  unfold F_X2_traceRow F_X2_traceRow_8
  rw [bnd_eq]
  rcases p_trace_find N hx hM (by omega) hm0 N 0 (Nat.zero_le _) (by have := hm.2.1; omega) (fun j hj => by omega) with ⟨J, hJ, hs, e⟩ | ⟨hno, e⟩
  · have hJ15 : J ≤ 15 := by have := hm.2.1; omega
    obtain ⟨l, h', rl, el, f', g1, _, g3⟩ := p_trace_go N hN hw J N x 0 M lim (sI h 1 5 0) (by omega) (by omega) (by omega) hx hM (by omega) (by omega) hm0 (by rw [gI_sI, if_pos rfl, if_pos rfl]; rfl) hs
    refine Or.inl ⟨J, l, h', hJ15, hs, rl, ?_, f0.trans f', by rw [g1, Nat.zero_add], fun k hk => by rw [← g3 k hk, Nat.zero_add]⟩
    rw [show (0 : Int32) = nI 0 from rfl] at e ⊢
    rw [e]
    unfold F_X2_traceRow_60
    exact el
  · refine Or.inr ⟨fun j s hwk hs => ?_, sI h 1 5 0, by rw [show (0 : Int32) = nI 0 from rfl] at e ⊢; exact e, f0⟩
    obtain ⟨j', s', a1, a2, a3⟩ := hm.2.2.2.2 j x s hx hwk
    exact hno j' a1 s' a3 (by omega)
