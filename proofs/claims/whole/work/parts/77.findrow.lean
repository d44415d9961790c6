/-! THE REFERENCE's findRow -/
def PQ : Nat → Nat → Bool := fun c k => c == 59 || (c == 51 && k == 12)
def Mm (h0 h : xHp) (t : Nat) : Prop := (∀ c k, c ∈ [52, 53, 54, 55] → gI h c k = gI h0 c k) ∧ ∀ i v, i ≤ 16 → v < 16 → Lst xFAR (gJ h 58 (16 * i + v)) (Wk (edM h0) (okM h0) t i v) (BB i)
theorem LvA.mm {h0 h : xHp} {t : Nat} (hm : LvA h0 h t) : Mm h0 h t := by
  refine ⟨fun c k hc => (hm.1.1 c k ?_).1, hm.2⟩
  simp only [List.mem_cons, List.not_mem_nil, or_false] at hc
  unfold P58
  simp only [beq_eq_false_iff_ne]
  omega
theorem Mm.fr {h0 h h' : xHp} {t : Nat} (hm : Mm h0 h t) (f : Fr PQ h h') : Mm h0 h' t := by
  refine ⟨fun c k hc => ((f.1 c k ?_).1).trans (hm.1 c k hc), fun i v hi hv => ?_⟩
  · simp only [List.mem_cons, List.not_mem_nil, or_false] at hc
    unfold PQ
    simp only [Bool.or_eq_false_iff, Bool.and_eq_false_iff, beq_eq_false_iff_ne]
    omega
  · rw [(f.1 58 _ (by unfold PQ; simp only [Bool.or_eq_false_iff, Bool.and_eq_false_iff, beq_eq_false_iff_ne]; omega)).2]
    exact hm.2 i v hi hv
theorem p_pick (N : Nat) {h0 h : xHp} {t J k u eg : Nat} {M S : Int} {lim sum : Int64} (hw : wfM h0) (hm : Mm h0 h t) (hJ : gI h 51 12 = nI J) (hJ2 : J ≤ 16) (hk : k < J) (hu : u < 16) (hM : lim.toInt = M) (hS : sum.toInt = S) (hb : -100000000 ≤ S ∧ S ≤ 100000000) (hg : Good (edM h0) (okM h0) t (J - k - 1) u (M - S) eg) (hmin : ∀ e', e' < eg → ¬ Good (edM h0) (okM h0) t (J - k - 1) u (M - S) e') (hMb : M < 1000000000000) : ∀ (z e : Nat), e ≤ eg → eg - e < z → ∀ k62, xit (F_X9_findRow_74_b N k62) (fun _ _ _ _ _ _ => none) z lim (nI u) sum (nI k) (nI e) h = k62 lim (gI h0 53 eg) (sum + (gI h0 54 eg).toInt64) (nI (k + 1)) (sI h 59 k (nI eg)) := by
  have heg : eg < 70 := hg.1.1
  intro z
  induction z with
  | zero => intro e _ h2; omega
  | succ z ih =>
    intro e h1 h2 k62
    have hK := ih (e + 1)
    have he : e < 70 := by omega
    have e55 := hm.1 55 e (by decide)
    have e52 := hm.1 52 e (by decide)
    have e53 := hm.1 53 e (by decide)
    have e54 := hm.1 54 e (by decide)
    have hne : ¬ Good (edM h0) (okM h0) t (J - k - 1) u (M - S) e → e < eg := fun q => by
      rcases Nat.lt_or_ge e eg with a | a
      · exact a
      · have : e = eg := by omega
        subst this
        exact absurd hg q
    show F_X9_findRow_74_b N k62 (xit (F_X9_findRow_74_b N k62) (fun _ _ _ _ _ _ => none) z) lim (nI u) sum (nI k) (nI e) h = _
    generalize hKK : xit (F_X9_findRow_74_b N k62) (fun _ _ _ _ _ _ => none) z = K
    have nxt : ¬ Good (edM h0) (okM h0) t (J - k - 1) u (M - S) e → K lim (nI u) sum (nI k) (nI (e + 1)) h = k62 lim (gI h0 53 eg) (sum + (gI h0 54 eg).toInt64) (nI (k + 1)) (sI h 59 k (nI eg)) := fun q => by
      have := hne q
      rw [← hKK]
      exact hK (by omega) (by omega) k62
    unfold F_X9_findRow_74_b F_X9_findRow_170
    rw [grd_t (xin_nI he (by decide)), nI_cl (show e < 2 ^ 31 by omega), e55, nI_1]
    by_cases hok : gI h0 55 e = 0
    · rw [if_pos hok]
      exact nxt (fun q => q.1.2 hok)
    · rw [if_neg hok]
      have ho : okM h0 e := ⟨he, hok⟩
      obtain ⟨⟨x, hx, ex⟩, ⟨y, hy, ey⟩, c1, c2⟩ := hw e ho
      have edx : (edM h0 e).1 = x := by show (gI h0 52 e).toNatClampNeg = x; rw [ex, nI_cl (by omega)]
      have edy : (edM h0 e).2.1 = y := by show (gI h0 53 e).toNatClampNeg = y; rw [ey, nI_cl (by omega)]
      have edc : (edM h0 e).2.2 = (gI h0 54 e).toInt := rfl
      have hL := hm.2 (J - k - 1) y (by omega) hy
      have hB : 0 ≤ BB (J - k - 1) ∧ BB (J - k - 1) ≤ 16000016 := by unfold BB; omega
      rw [e52, ex, e53, ey, e54, hJ]
      have idx : (16 : Int32) * (nI J - nI k - 1) + nI y = nI (16 * (J - k - 1) + y) := by
        rw [pk_sub (by omega : k ≤ J), show (1 : Int32) = nI 1 from rfl, pk_sub (by omega : 1 ≤ J - k), show (16 : Int32) = nI 16 from rfl, pk_mul, nI_add]
      rw [idx]
      simp only [grd_t (xin_nI he (by decide)), grd_t (xin_nI (show 16 * (J - k - 1) + y < 272 by omega) (by decide)), nI_cl (show 16 * (J - k - 1) + y < 2 ^ 31 by omega), lg_cmp_ge, lg_cmp_le, nI_eq (show x < 2 ^ 31 by omega) (show u < 2 ^ 31 by omega)]
      by_cases hxu : x = u
      · rw [if_pos hxu]
        by_cases hf : xFAR ≤ gJ h 58 (16 * (J - k - 1) + y)
        · rw [if_pos (show (1152921504606846976 : Int64) ≤ _ from hf)]
          refine nxt (fun ⟨_, _, s', a, _⟩ => ?_)
          rw [edy] at a
          rcases hL with ⟨_, b2⟩ | ⟨m, b1, b2, b3, _, _⟩
          · exact b2 s' a
          · rw [Int64.le_iff_toInt_le, xFAR_toInt, b1] at hf
            omega
        · rw [if_neg (show ¬ (1152921504606846976 : Int64) ≤ _ from hf)]
          rcases hL with ⟨b1, _⟩ | ⟨m, b1, b2, b3, b4, b5⟩
          · exact absurd (by rw [b1]; exact Int64.le_refl _) hf
          · have hs1 : (sum + (gI h0 54 e).toInt64).toInt = S + (gI h0 54 e).toInt := i64_add hS (i32_64 _) (by omega) (by omega)
            have hs2 : (sum + (gI h0 54 e).toInt64 + gJ h 58 (16 * (J - k - 1) + y)).toInt = S + (gI h0 54 e).toInt + m := i64_add hs1 b1 (by omega) (by omega)
            by_cases hle : sum + (gI h0 54 e).toInt64 + gJ h 58 (16 * (J - k - 1) + y) ≤ lim
            · rw [if_pos hle]
              rw [Int64.le_iff_toInt_le, hs2, hM] at hle
              have hge : Good (edM h0) (okM h0) t (J - k - 1) u (M - S) e := ⟨ho, by rw [edx]; exact hxu, m, by rw [edy]; exact b4, by rw [edc]; omega⟩
              have : e = eg := by
                rcases Nat.lt_or_ge e eg with a | a
                · exact absurd hge (hmin e a)
                · omega
              subst this
              rw [grd_t (xin_nI (show k < 20 by omega) (by decide)), bnd_eq, nI_cl (show k < 2 ^ 31 by omega), gI_sI, if_neg (by decide), gI_sI, if_neg (by decide), e53, e54, ey, nI_1]
            · rw [if_neg hle]
              rw [Int64.le_iff_toInt_le, hs2, hM] at hle
              refine nxt (fun ⟨_, _, s', a, b⟩ => ?_)
              rw [edy] at a
              have := b5 s' a
              rw [edc] at b
              omega
      · rw [if_neg hxu]
        exact nxt (fun ⟨_, a, _⟩ => hxu (by rw [edx] at a; exact a))
theorem p_rowgo (N : Nat) (hN : 300 ≤ N) {h0 : xHp} {t J : Nat} {M : Int} {lim : Int64} (hw : wfM h0) (hJ2 : J ≤ 16) (hM : lim.toInt = M) (hMb : M < 1000000000000) : ∀ (rem z k u : Nat) (S : Int) (sum : Int64) (h : xHp), rem < z → rem + k = J → u < 16 → sum.toInt = S → -((k : Int) * 1000001) ≤ S → S ≤ (k : Int) * 1000001 → Mm h0 h t → gI h 51 12 = nI J → (∃ s, Wk (edM h0) (okM h0) t rem u s ∧ s ≤ M - S) → ∃ l h', RowOf (edM h0) (okM h0) t rem u (M - S) l ∧ xit (F_X9_findRow_62_b N) (fun _ _ _ _ _ => none) z lim (nI u) sum (nI k) h = some (1, h') ∧ Fr PQ h h' ∧ gI h' 51 12 = nI J ∧ (∀ i, i < k → gI h' 59 i = gI h 59 i) ∧ ∀ i, i < rem → gI h' 59 (k + i) = nI (l.getD i 0) := by
  intro rem
  induction rem with
  | zero =>
    intro z k u S sum h hz hk hu hS _ _ hm hJ _
    obtain ⟨z, rfl⟩ : ∃ q, z = q + 1 := ⟨z - 1, by omega⟩
    refine ⟨[], h, rfl, ?_, Fr.rf, hJ, fun _ _ => rfl, fun i hi => by omega⟩
    show F_X9_findRow_62_b N _ lim (nI u) sum (nI k) h = _
    unfold F_X9_findRow_62_b
    rw [hJ, if_pos (nI_le (by omega) (by omega))]
  | succ rem ih =>
    intro z k u S sum h hz hk hu hS hS1 hS2 hm hJ hex
    obtain ⟨z, rfl⟩ : ∃ q, z = q + 1 := ⟨z - 1, by omega⟩
    obtain ⟨s0, ⟨e0, a1, a2, s', a3, rfl⟩, a5⟩ := hex
    have hJk : J - k - 1 = rem := by omega
    obtain ⟨eg, hg, hmin⟩ := pk_least (fun e => Good (edM h0) (okM h0) t rem u (M - S) e) ⟨e0, a1, a2, s', a3, a5⟩
    obtain ⟨⟨x, hx, ex⟩, ⟨y, hy, ey⟩, c1, c2⟩ := hw eg hg.1
    have heg : eg < 70 := hg.1.1
    have edy : (edM h0 eg).2.1 = y := by show (gI h0 53 eg).toNatClampNeg = y; rw [ey, nI_cl (by omega)]
    have edc : (edM h0 eg).2.2 = (gI h0 54 eg).toInt := rfl
    have hS' : (sum + (gI h0 54 eg).toInt64).toInt = S + (gI h0 54 eg).toInt := i64_add hS (i32_64 _) (by omega) (by omega)
    have pk := p_pick N (eg := eg) (k := k) hw hm hJ hJ2 (by omega) hu hM hS ⟨by omega, by omega⟩ (by rw [hJk]; exact hg) (by rw [hJk]; exact hmin) hMb N 0 (Nat.zero_le _) (by omega)
    have fr : Fr PQ h (sI h 59 k (nI eg)) := Fr.sI h rfl
    obtain ⟨g1, g2, s1, g3, g4⟩ := id hg
    obtain ⟨l, h', rl, el, f', q1, q2, q3⟩ := ih z (k + 1) y (S + (gI h0 54 eg).toInt) (sum + (gI h0 54 eg).toInt64) (sI h 59 k (nI eg)) (by omega) (by omega) hy hS' (by omega) (by omega) (hm.fr fr) (by rw [gI_sI, if_neg (by decide)]; exact hJ) ⟨s1, by rw [edy] at g3; exact g3, by rw [edc] at g4; omega⟩
    refine ⟨eg :: l, h', ⟨eg, l, rfl, hg, hmin, ?_⟩, ?_, fr.trans f', q1, fun i hi => ?_, fun i hi => ?_⟩
    · rw [edy, edc, show M - S - (gI h0 54 eg).toInt = M - (S + (gI h0 54 eg).toInt) by omega]
      exact rl
    · show F_X9_findRow_62_b N (xit (F_X9_findRow_62_b N) (fun _ _ _ _ _ => none) z) lim (nI u) sum (nI k) h = _
      generalize xit (F_X9_findRow_62_b N) (fun _ _ _ _ _ => none) z = K at el ⊢
      unfold F_X9_findRow_62_b F_X9_findRow_74
      rw [hJ, if_neg (nI_ge (by omega) (by omega)), show (0 : Int32) = nI 0 from rfl, pk K, ey]
      exact el
    · rw [q2 i (by omega), gI_sI, if_pos rfl, if_neg (by omega)]
    · cases i with
      | zero =>
        rw [q2 (k + 0) (by omega), gI_sI, if_pos rfl, if_pos (by omega)]
        rfl
      | succ i =>
        rw [show k + (i + 1) = k + 1 + i by omega, q3 i (by omega)]
        rfl
theorem p_rowfind (N : Nat) {h0 : xHp} {t x : Nat} {M : Int} {lim : Int64} (hx : x < 16) (hM : lim.toInt = M) (hM2 : M ≤ 2000000000) {h : xHp} (hm : Mm h0 h t) : ∀ (z k : Nat), k ≤ 17 → 17 - k < z → (∀ j, j < k → ∀ s, Wk (edM h0) (okM h0) t j x s → ¬ s ≤ M) → (∃ J, J ≤ 16 ∧ Short (edM h0) (okM h0) t J x M ∧ xit (F_X9_findRow_8_b N) (fun _ _ _ _ => none) z (nI x) lim (nI k) h = F_X9_findRow_62 N lim (nI x) 0 0 (sI h 51 12 (nI J))) ∨ ((∀ j, j ≤ 16 → ∀ s, Wk (edM h0) (okM h0) t j x s → ¬ s ≤ M) ∧ xit (F_X9_findRow_8_b N) (fun _ _ _ _ => none) z (nI x) lim (nI k) h = some (0, h)) := by
  intro z
  induction z with
  | zero => intro k _ h2; omega
  | succ z ih =>
    intro k h1 h2 hno
    generalize hK : xit (F_X9_findRow_8_b N) (fun _ _ _ _ => none) z = K at ih
    show (∃ J, _ ∧ _ ∧ F_X9_findRow_8_b N (xit (F_X9_findRow_8_b N) (fun _ _ _ _ => none) z) (nI x) lim (nI k) h = _) ∨ (_ ∧ F_X9_findRow_8_b N (xit (F_X9_findRow_8_b N) (fun _ _ _ _ => none) z) (nI x) lim (nI k) h = _)
    rw [hK]
    unfold F_X9_findRow_8_b F_X9_findRow_38
    by_cases hk : k = 17
    · subst hk
      refine Or.inr ⟨fun j hj => hno j (by omega), ?_⟩
      rw [if_pos (by decide), if_neg (by decide)]
    · have hk16 : k ≤ 16 := by omega
      rw [if_neg (by rw [show (16 : Int32) = nI 16 from rfl]; exact nI_nlt (by omega) (by omega)), ix16 hk16 hx, grd_t (xin_nI (show 16 * k + x < 272 by omega) (by decide)), nI_cl (show 16 * k + x < 2 ^ 31 by omega)]
      have hL := (hm.2 k x hk16 hx).le (M := M) (by rw [xFAR_toInt]; omega) hM
      by_cases q : gJ h 58 (16 * k + x) ≤ lim
      · rw [if_pos ((lg_cmp_le _ _).mpr q), if_pos (by rw [show (16 : Int32) = nI 16 from rfl]; exact nI_le hk16 (by decide)), bnd_eq]
        obtain ⟨s, a2, a3⟩ := hL.mp q
        exact Or.inl ⟨k, hk16, ⟨⟨s, a2, a3⟩, hno⟩, rfl⟩
      · rw [if_neg (fun q2 => q ((lg_cmp_le _ _).mp q2)), nI_1]
        refine ih (k + 1) (by omega) (by omega) (fun j hj s hw hs => ?_)
        by_cases q2 : j = k
        · subst q2
          exact q (hL.mpr ⟨s, hw, hs⟩)
        · exact hno j (by omega) s hw hs
def PR : Nat → Nat → Bool := fun c k => c == 58 || c == 59 || (c == 51 && k == 12)
theorem P58_PR {h h' : xHp} (f : Fr P58 h h') : Fr PR h h' := f.mono (fun c k hp => by
  unfold PR at hp
  unfold P58
  simp only [Bool.or_eq_false_iff] at hp
  exact hp.1.1)
theorem PQ_PR {h h' : xHp} (f : Fr PQ h h') : Fr PR h h' := f.mono (fun c k hp => by
  unfold PR at hp
  unfold PQ
  simp only [Bool.or_eq_false_iff] at hp ⊢
  exact ⟨hp.1.2, hp.2⟩)
theorem p_findRow (N : Nat) (hN : 300 ≤ N) {h0 : xHp} {t x : Nat} {M : Int} {lim : Int64} (hw : wfM h0) (ht : t < 16) (hx : x < 16) (hM : lim.toInt = M) (hM2 : M ≤ 1000000000) {pot : Nat → Int} (hv : Pot (edM h0) (okM h0) pot) : (∃ J l h', J ≤ 16 ∧ Short (edM h0) (okM h0) t J x M ∧ RowOf (edM h0) (okM h0) t J x M l ∧ F_X9_findRow N (nI x) (nI t) lim h0 = some (1, h') ∧ Fr PR h0 h' ∧ gI h' 51 12 = nI J ∧ ∀ k, k < J → gI h' 59 k = nI (l.getD k 0)) ∨ ((∀ j s, Wk (edM h0) (okM h0) t j x s → ¬ s ≤ M) ∧ ∃ h', F_X9_findRow N (nI x) (nI t) lim h0 = some (0, h') ∧ Fr PR h0 h') := by
  obtain ⟨h1, e1, hA⟩ := p_findLeast N hN ht hw
  unfold F_X9_findRow F_X9_findRow_8
  rw [e1, bnd2_some]
  rcases p_rowfind N hx hM (by omega) (LvA.mm hA) N 0 (by omega) (by omega) (fun j hj => by omega) with ⟨J, hJ, hs, e⟩ | ⟨hno, e⟩
  · have f1 : Fr PQ h1 (sI h1 51 12 (nI J)) := Fr.sI h1 rfl
    obtain ⟨l, h', rl, el, f', g1, _, g3⟩ := p_rowgo N hN hw hJ hM (by omega) J N 0 x 0 0 (sI h1 51 12 (nI J)) (by omega) (by omega) hx (by decide) (by omega) (by omega) ((LvA.mm hA).fr f1) (by rw [gI_sI, if_pos rfl, if_pos rfl]) (by rw [Int.sub_zero]; exact hs.1)
    rw [Int.sub_zero] at rl
    refine Or.inl ⟨J, l, h', hJ, hs, rl, ?_, (P58_PR hA.1).trans (PQ_PR (f1.trans f')), g1, fun k hk => by rw [← g3 k hk, Nat.zero_add]⟩
    show xit (F_X9_findRow_8_b N) _ N (nI x) lim 0 h1 = _
    rw [show (0 : Int32) = nI 0 from rfl, e]
    unfold F_X9_findRow_62
    rw [show (0 : Int32) = nI 0 from rfl]
    exact el
  · refine Or.inr ⟨fun j s hwk hs => ?_, h1, ?_, P58_PR hA.1⟩
    · obtain ⟨j', s', a1, a2, a3⟩ := Wk.cut16 hv (fun e he => by
        obtain ⟨⟨a, ha, ea⟩, ⟨b, hb, eb⟩, _⟩ := hw e he
        exact ⟨by show (gI h0 52 e).toNatClampNeg < 16; rw [ea, nI_cl (by omega)]; exact ha, by show (gI h0 53 e).toNatClampNeg < 16; rw [eb, nI_cl (by omega)]; exact hb⟩) hx hwk
      exact hno j' (by omega) s' a3 (by omega)
    · show xit (F_X9_findRow_8_b N) _ N (nI x) lim 0 h1 = _
      rw [show (0 : Int32) = nI 0 from rfl]
      exact e
