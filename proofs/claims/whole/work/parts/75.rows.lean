/-! ROWS: the first of the shortest ones that are good enough -/
/-- e may come next: there is a row of j differences on from where it leads -/
def Good (ed : Ed) (ok : Nat → Prop) (t j u : Nat) (M : Int) (e : Nat) : Prop := ok e ∧ (ed e).1 = u ∧ ∃ s', Wk ed ok t j (ed e).2.1 s' ∧ (ed e).2.2 + s' ≤ M
def RowOf (ed : Ed) (ok : Nat → Prop) (t : Nat) : Nat → Nat → Int → List Nat → Prop
  | 0, _, _, l => l = []
  | j + 1, u, M, l => ∃ e l', l = e :: l' ∧ Good ed ok t j u M e ∧ (∀ e', e' < e → ¬ Good ed ok t j u M e') ∧ RowOf ed ok t j (ed e).2.1 (M - (ed e).2.2) l'
theorem RowOf.len {ed : Ed} {ok : Nat → Prop} {t : Nat} : ∀ {j u : Nat} {M : Int} {l : List Nat}, RowOf ed ok t j u M l → l.length = j := by
  intro j
  induction j with
  | zero => intro u M l h; rw [show l = [] from h]; rfl
  | succ j ih =>
    rintro u M l ⟨e, l', rfl, _, _, h⟩
    simp [ih h]
theorem RowOf.uni {ed : Ed} {ok : Nat → Prop} {t : Nat} : ∀ {j u : Nat} {M : Int} {l l2 : List Nat}, RowOf ed ok t j u M l → RowOf ed ok t j u M l2 → l = l2 := by
  intro j
  induction j with
  | zero => intro u M l l2 h h2; rw [show l = [] from h, show l2 = [] from h2]
  | succ j ih =>
    rintro u M l l2 ⟨e, l', rfl, g1, m1, r1⟩ ⟨e2, l2', rfl, g2, m2, r2⟩
    have : e = e2 := by
      rcases Nat.lt_trichotomy e e2 with q | q | q
      · exact absurd g1 (m2 e q)
      · exact q
      · exact absurd g2 (m1 e2 q)
    subst this
    rw [ih r1 r2]
theorem RowOf.ok {ed : Ed} {ok : Nat → Prop} {t : Nat} : ∀ {j u : Nat} {M : Int} {l : List Nat}, RowOf ed ok t j u M l → ∀ e ∈ l, ok e := by
  intro j
  induction j with
  | zero => intro u M l h e he; rw [show l = [] from h] at he; cases he
  | succ j ih =>
    rintro u M l ⟨e, l', rfl, g1, m1, r1⟩ e' he
    rcases List.mem_cons.mp he with rfl | he
    · exact g1.1
    · exact ih r1 e' he
/-- j is the least length of a row from u with a sum of at most M -/
def Short (ed : Ed) (ok : Nat → Prop) (t j u : Nat) (M : Int) : Prop := (∃ s, Wk ed ok t j u s ∧ s ≤ M) ∧ ∀ i, i < j → ∀ s, Wk ed ok t i u s → ¬ s ≤ M
theorem Short.uni {ed : Ed} {ok : Nat → Prop} {t i j u : Nat} {M : Int} (h1 : Short ed ok t i u M) (h2 : Short ed ok t j u M) : i = j := by
  rcases Nat.lt_trichotomy i j with q | q | q
  · obtain ⟨s, a, b⟩ := h1.1
    exact absurd b (h2.2 i q s a)
  · exact q
  · obtain ⟨s, a, b⟩ := h2.1
    exact absurd b (h1.2 j q s a)
/-- a step on a shortest row leaves a shortest row -/
theorem Short.step {ed : Ed} {ok : Nat → Prop} {t j u e : Nat} {M : Int} (h : Short ed ok t (j + 1) u M) (g : Good ed ok t j u M e) : Short ed ok t j (ed e).2.1 (M - (ed e).2.2) := by
  obtain ⟨g1, g2, s', g3, g4⟩ := g
  refine ⟨⟨s', g3, by omega⟩, fun i hi s hw hs => ?_⟩
  exact h.2 (i + 1) (by omega) _ ⟨e, g1, g2, s, hw, rfl⟩ (by omega)
/-- what a trace reads of the class -/
def Mc (h0 h : xHp) (n : Nat) (sk : Int32) (t R : Nat) : Prop := (∀ c k, c ∈ [2, 3, 4] → gI h c k = gI h0 c k) ∧ gI h 1 3 = nI n ∧ R ≤ 15 ∧ gI h 1 7 = nI R ∧ ∀ q v, q ≤ R → v < 16 → Lst xMAX (gJ h (8 + q) v) (WkL (edC h0) (okC n sk) t q v) (BB q)
theorem McA.mc {h0 h : xHp} {n t R : Nat} {sk : Int32} (hw : wfC n h0) (hm : McA h0 h n sk t R) : Mc h0 h n sk t R := by
  obtain ⟨hF, h1, h2, h3, -⟩ := hm
  refine ⟨fun c k hc => (hF.1 c k ?_).1, ((hF.1 1 3 (by decide)).1).trans hw.2.1, h1, h2, h3⟩
  unfold PM
  simp only [List.mem_cons, List.not_mem_nil, or_false] at hc
  simp only [Bool.or_eq_false_iff, Bool.and_eq_false_iff, decide_eq_false_iff_not, beq_eq_false_iff_ne]
  omega
/-- the row's cells -/
def PT : Nat → Nat → Bool := fun c k => c == 5 || (c == 1 && k == 5)
theorem Mc.fr {h0 h h' : xHp} {n t R : Nat} {sk : Int32} (hm : Mc h0 h n sk t R) (f : Fr PT h h') : Mc h0 h' n sk t R := by
  obtain ⟨h1, h2, h3, h4, h5⟩ := hm
  refine ⟨fun c k hc => ((f.1 c k ?_).1).trans (h1 c k hc), ((f.1 1 3 (by decide)).1).trans h2, h3, ((f.1 1 7 (by decide)).1).trans h4, fun q v hq hv => ?_⟩
  · unfold PT
    simp only [List.mem_cons, List.not_mem_nil, or_false] at hc
    simp only [Bool.or_eq_false_iff, Bool.and_eq_false_iff, beq_eq_false_iff_ne]
    omega
  · rw [(f.1 (8 + q) v (by unfold PT; simp only [Bool.or_eq_false_iff, Bool.and_eq_false_iff, beq_eq_false_iff_ne]; omega)).2]
    exact h5 q v hq hv
/-- what a table's number says of a limit -/
theorem Lst.le {F L lim : Int64} {P : Int → Prop} {B M : Int} (h : Lst F L P B) (hF : M < F.toInt) (hM : lim.toInt = M) : L ≤ lim ↔ ∃ s, P s ∧ s ≤ M := by
  rw [Int64.le_iff_toInt_le, hM]
  rcases h with ⟨h1, h2⟩ | ⟨m, h1, h2, h3, h4, h5⟩
  · rw [h1]
    exact ⟨fun q => by omega, fun ⟨s, a, _⟩ => absurd a (h2 s)⟩
  · rw [h1]
    exact ⟨fun q => ⟨m, h4, q⟩, fun ⟨s, a, b⟩ => by have := h5 s a; omega⟩
def GoodL (ed : Ed) (ok : Nat → Prop) (t j u : Nat) (M : Int) (e : Nat) : Prop := ok e ∧ (ed e).1 = u ∧ ∃ s', WkL ed ok t j (ed e).2.1 s' ∧ (ed e).2.2 + s' ≤ M
theorem p_first (N : Nat) {h0 h : xHp} {n t R u left : Nat} {M : Int} {lim : Int64} (hw : wfC n h0) (hm : Mc h0 h n (-1) t R) (hl : left ≤ R) (hu : u < 16) (hM : lim.toInt = M) (hM1 : -2000000000 ≤ M) (hM2 : M ≤ 2000000000) : ∀ (z i : Nat), i ≤ n → n - i < z → (∀ e, e < i → ¬ GoodL (edC h0) (okC n (-1)) t left u M e) → ∃ r, xit (F_X2_firstOnward_3_b N) (fun _ _ _ _ _ => none) z (nI u) (nI left) lim (nI i) h = some (r, h) ∧ ((∃ e, e < n ∧ r = nI e ∧ GoodL (edC h0) (okC n (-1)) t left u M e ∧ ∀ e', e' < e → ¬ GoodL (edC h0) (okC n (-1)) t left u M e') ∨ (r = -1 ∧ ∀ e, ¬ GoodL (edC h0) (okC n (-1)) t left u M e)) := by
  obtain ⟨hg, hc, hR, hro, hrows⟩ := hm
  have hn := hw.1
  intro z
  induction z with
  | zero => intro i _ h2; omega
  | succ z ih =>
    intro i h1 h2 hno
    by_cases hi : i = n
    · subst hi
      refine ⟨-1, ?_, Or.inr ⟨rfl, fun e ge => hno e ge.1.1 ge⟩⟩
      show F_X2_firstOnward_3_b N _ (nI u) (nI left) lim (nI i) h = _
      unfold F_X2_firstOnward_3_b
      rw [hc, if_pos (Int32.le_refl _)]
    · have hin : i < n := by omega
      obtain ⟨⟨x, hx, ex⟩, ⟨y, hy, ey⟩, c1, c2⟩ := hw.2.2 i hin
      have e2 := (hg 2 i (by decide)).trans ex
      have e3 := (hg 3 i (by decide)).trans ey
      have e4 := hg 4 i (by decide)
      have edx : (edC h0 i).1 = x := by show (gI h0 2 i).toNatClampNeg = x; rw [ex, nI_cl (by omega)]
      have edy : (edC h0 i).2.1 = y := by show (gI h0 3 i).toNatClampNeg = y; rw [ey, nI_cl (by omega)]
      have edc : (edC h0 i).2.2 = (gI h0 4 i).toInt := rfl
      have ho : okC n (-1) i := ⟨hin, fun q => by
        have := congrArg Int32.toInt q
        rw [nI_toInt (by omega)] at this
        have h9 : ((-1 : Int32)).toInt = -1 := by decide
        rw [h9] at this
        omega⟩
      have hL := hrows left y hl hy
      have hB : BB left ≤ 16000016 := by unfold BB; omega
      generalize hK : xit (F_X2_firstOnward_3_b N) (fun _ _ _ _ _ => none) z = K at ih
      have start : F_X2_firstOnward_3_b N K (nI u) (nI left) lim (nI i) h = (if x = u then (if gJ h (8 + left) y = xMAX then K (nI u) (nI left) lim (nI (i + 1)) h else if lim < (gI h0 4 i).toInt64 + gJ h (8 + left) y then K (nI u) (nI left) lim (nI (i + 1)) h else some (nI i, h)) else K (nI u) (nI left) lim (nI (i + 1)) h) := by
        unfold F_X2_firstOnward_3_b F_X2_firstOnward_67
        rw [hc, if_neg (nI_ge hin (by omega))]
        simp only [nI_cl (show i < 2 ^ 31 by omega), e4, e2, e3, nI_cl (show left < 2 ^ 31 by omega), nI_cl (show y < 2 ^ 31 by omega), grd_t (xin_nI (show left < 16 by omega) (by decide)), grd_t (xin_nI (show i < 70 by omega) (by decide)), grd_t (xin_nI hy (by decide)), lg_cmp_gt, lg_cmp_eq, nI_1, nI_eq (show x < 2 ^ 31 by omega) (show u < 2 ^ 31 by omega)]
        rfl
      have next : ¬ GoodL (edC h0) (okC n (-1)) t left u M i → ∃ r, K (nI u) (nI left) lim (nI (i + 1)) h = some (r, h) ∧ ((∃ e, e < n ∧ r = nI e ∧ GoodL (edC h0) (okC n (-1)) t left u M e ∧ ∀ e', e' < e → ¬ GoodL (edC h0) (okC n (-1)) t left u M e') ∨ (r = -1 ∧ ∀ e, ¬ GoodL (edC h0) (okC n (-1)) t left u M e)) := fun hng => ih (i + 1) (by omega) (by omega) (fun e he => by
        by_cases q : e = i
        · subst q; exact hng
        · exact hno e (by omega))
      show ∃ r, F_X2_firstOnward_3_b N (xit (F_X2_firstOnward_3_b N) (fun _ _ _ _ _ => none) z) (nI u) (nI left) lim (nI i) h = _ ∧ _
      rw [hK, start]
      by_cases hxu : x = u
      · rw [if_pos hxu]
        by_cases hf : gJ h (8 + left) y = xMAX
        · rw [if_pos hf]
          refine next (fun ⟨_, _, s', a, _⟩ => ?_)
          rw [edy] at a
          rcases hL with ⟨_, b2⟩ | ⟨m, b1, b2, b3, _, _⟩
          · exact b2 s' a
          · rw [hf, xMAX_toInt] at b1
            omega
        · rw [if_neg hf]
          rcases hL with ⟨b1, _⟩ | ⟨m, b1, b2, b3, b4, b5⟩
          · exact absurd b1 hf
          · have hs : ((gI h0 4 i).toInt64 + gJ h (8 + left) y).toInt = (gI h0 4 i).toInt + m := i64_add (i32_64 _) b1 (by omega) (by omega)
            by_cases hlt : lim < (gI h0 4 i).toInt64 + gJ h (8 + left) y
            · rw [if_pos hlt]
              rw [Int64.lt_iff_toInt_lt, hs, hM] at hlt
              refine next (fun ⟨_, _, s', a, b⟩ => ?_)
              rw [edy] at a
              have := b5 s' a
              rw [edc] at b
              omega
            · rw [if_neg hlt]
              rw [Int64.lt_iff_toInt_lt, hs, hM] at hlt
              exact ⟨nI i, rfl, Or.inl ⟨i, hin, rfl, ⟨ho, by rw [edx]; exact hxu, m, by rw [edy]; exact b4, by rw [edc]; omega⟩, hno⟩⟩
      · rw [if_neg hxu]
        exact next (fun ⟨_, a, _⟩ => hxu (by rw [edx] at a; exact a))
