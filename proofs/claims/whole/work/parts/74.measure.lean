/-! THE CLASS's measure: least[k][v] is the least sum of the rows of at most k differences from v -/
def edC (h : xHp) : Ed := fun e => ((gI h 2 e).toNatClampNeg, (gI h 3 e).toNatClampNeg, (gI h 4 e).toInt)
def okC (n : Nat) (sk : Int32) : Nat → Prop := fun e => e < n ∧ ¬ nI e = sk
def wfC (n : Nat) (h : xHp) : Prop := n ≤ 70 ∧ gI h 1 3 = nI n ∧ ∀ e, e < n → (∃ x, x < 16 ∧ gI h 2 e = nI x) ∧ (∃ y, y < 16 ∧ gI h 3 e = nI y) ∧ -1000001 ≤ (gI h 4 e).toInt ∧ (gI h 4 e).toInt ≤ 1000001
def xMAX : Int64 := 9223372036854775807
theorem xMAX_toInt : xMAX.toInt = 9223372036854775807 := by decide
def WkL (ed : Ed) (ok : Nat → Prop) (t k v : Nat) (s : Int) : Prop := ∃ j, j ≤ k ∧ Wk ed ok t j v s
/-- the rows of least, and rounds -/
def PM : Nat → Nat → Bool := fun c k => (decide (8 ≤ c) && decide (c < 24)) || (c == 1 && k == 7)
/-- while level k is filled: edges below i are done -/
def PL (ed : Ed) (ok : Nat → Prop) (t k i v : Nat) (s : Int) : Prop := WkL ed ok t (k - 1) v s ∨ ∃ e, e < i ∧ ok e ∧ (ed e).1 = v ∧ ∃ s', WkL ed ok t (k - 1) (ed e).2.1 s' ∧ s = (ed e).2.2 + s'
theorem PL_eq {ed : Ed} {ok : Nat → Prop} {t k e : Nat} (he : ok e) (s : Int) : (PL ed ok t k e (ed e).1 s ∨ ∃ s', WkL ed ok t (k - 1) (ed e).2.1 s' ∧ s = (ed e).2.2 + s') ↔ PL ed ok t k (e + 1) (ed e).1 s := by
  constructor
  · rintro ((h | ⟨e', h1, h2, h3, h4⟩) | h)
    · exact Or.inl h
    · exact Or.inr ⟨e', by omega, h2, h3, h4⟩
    · exact Or.inr ⟨e, by omega, he, rfl, h⟩
  · rintro (h | ⟨e', h1, h2, h3, h4⟩)
    · exact Or.inl (Or.inl h)
    · by_cases h : e' = e
      · subst h
        exact Or.inr h4
      · exact Or.inl (Or.inr ⟨e', by omega, h2, h3, h4⟩)
theorem PL_ne {ed : Ed} {ok : Nat → Prop} {t k e v : Nat} (he : ok e → (ed e).1 ≠ v) (s : Int) : PL ed ok t k e v s ↔ PL ed ok t k (e + 1) v s := by
  constructor
  · rintro (h | ⟨e', h1, h2, h3, h4⟩)
    · exact Or.inl h
    · exact Or.inr ⟨e', by omega, h2, h3, h4⟩
  · rintro (h | ⟨e', h1, h2, h3, h4⟩)
    · exact Or.inl h
    · by_cases h : e' = e
      · subst h
        exact absurd h3 (he h2)
      · exact Or.inr ⟨e', by omega, h2, h3, h4⟩
theorem PL_all {ed : Ed} {n : Nat} {sk : Int32} {t k v : Nat} (s : Int) : PL ed (okC n sk) t (k + 1) n v s ↔ WkL ed (okC n sk) t (k + 1) v s := by
  constructor
  · rintro (⟨j, h1, h2⟩ | ⟨e, h1, h2, h3, s', ⟨j, h4, h5⟩, h6⟩)
    · exact ⟨j, by omega, h2⟩
    · exact ⟨j + 1, by omega, e, h2, h3, s', h5, h6⟩
  · rintro ⟨j, h1, h2⟩
    cases j with
    | zero => exact Or.inl ⟨0, by omega, h2⟩
    | succ j =>
      obtain ⟨e, a1, a2, s', a3, a4⟩ := h2
      exact Or.inr ⟨e, a1.1, a1, a2, s', ⟨j, by omega, a3⟩, a4⟩
/-- level k is being filled; b tells whether a sum has come down -/
def McD (h0 h : xHp) (n : Nat) (sk : Int32) (t k i : Nat) (b : Int32) : Prop :=
  Fr PM h0 h ∧ (∀ q v, q < k → v < 16 → Lst xMAX (gJ h (8 + q) v) (WkL (edC h0) (okC n sk) t q v) (BB q)) ∧ (∀ v, v < 16 → Lst xMAX (gJ h (8 + k) v) (PL (edC h0) (okC n sk) t k i v) (BB k)) ∧ (b = 0 ∨ b = 1) ∧
  (b = 0 → ∀ v, v < 16 → gJ h (8 + k) v = gJ h (8 + (k - 1)) v)
theorem p_meas_step (N : Nat) {h0 h : xHp} {n t k i : Nat} {sk b : Int32} (hw : wfC n h0) (hk : 1 ≤ k) (hk2 : k ≤ 15) (hi : i < n) (hI : McD h0 h n sk t k i b) : ∃ h' b', McD h0 h' n sk t k (i + 1) b' ∧ ∀ k31 k70, F_X2_measure_70_b N k31 k70 sk b (nI k) (nI i) h = k70 sk b' (nI k) (nI (i + 1)) h' := by
  obtain ⟨hF, hlo, hat, hb, hst⟩ := hI
  obtain ⟨hn, hcnt, hwf⟩ := hw
  obtain ⟨⟨x, hx, ex⟩, ⟨y, hy, ey⟩, c1, c2⟩ := hwf i hi
  have g : ∀ c k, (c < 8 ∨ 24 ≤ c) → ¬ (c = 1 ∧ k = 7) → gI h c k = gI h0 c k := fun c k hc hd => (hF.1 c k (by
    unfold PM
    simp only [Bool.or_eq_false_iff, Bool.and_eq_false_iff, decide_eq_false_iff_not, beq_eq_false_iff_ne]
    exact ⟨by omega, by omega⟩)).1
  have e2 := (g 2 i (by decide) (by omega)).trans ex
  have e3 := (g 3 i (by decide) (by omega)).trans ey
  have e4 := g 4 i (by decide) (by omega)
  have ec := (g 1 3 (by decide) (by omega)).trans hcnt
  have edx : (edC h0 i).1 = x := by show (gI h0 2 i).toNatClampNeg = x; rw [ex, nI_cl (by omega)]
  have edy : (edC h0 i).2.1 = y := by show (gI h0 3 i).toNatClampNeg = y; rw [ey, nI_cl (by omega)]
  have edc : (edC h0 i).2.2 = (gI h0 4 i).toInt := rfl
  have hyl := hlo (k - 1) y (by omega) hy
  have BBj : BB k = BB (k - 1) + 1000001 := by unfold BB; rw [show (k : Int) = ((k - 1 : Nat) : Int) + 1 by omega, Int.add_mul]; omega
  have BBp : 0 ≤ BB (k - 1) ∧ BB (k - 1) ≤ 16000016 := by unfold BB; omega
  have kp : nI k - 1 = nI (k - 1) := by rw [show (1 : Int32) = nI 1 from rfl, pk_sub hk]
  have start : ∀ k31 k70, F_X2_measure_70_b N k31 k70 sk b (nI k) (nI i) h = (if nI i = sk then k70 sk b (nI k) (nI (i + 1)) h else if gJ h (8 + (k - 1)) y = xMAX then k70 sk b (nI k) (nI (i + 1)) h else if gJ h (8 + k) x ≤ (gI h0 4 i).toInt64 + gJ h (8 + (k - 1)) y then k70 sk b (nI k) (nI (i + 1)) h else k70 sk 1 (nI k) (nI (i + 1)) (sJ h (8 + k) x ((gI h0 4 i).toInt64 + gJ h (8 + (k - 1)) y))) := by
    intro k31 k70
    unfold F_X2_measure_70_b F_X2_measure_171
    rw [ec, if_neg (nI_ge hi (by omega)), kp]
    simp only [nI_cl (show i < 2 ^ 31 by omega), e4, e2, e3, nI_cl (show k < 2 ^ 31 by omega), nI_cl (show k - 1 < 2 ^ 31 by omega), nI_cl (show x < 2 ^ 31 by omega), nI_cl (show y < 2 ^ 31 by omega), grd_t (xin_nI (show k - 1 < 16 by omega) (by decide)), grd_t (xin_nI (show i < 70 by omega) (by decide)), grd_t (xin_nI hy (by decide)), grd_t (xin_nI hx (by decide)), grd_t (xin_nI (show k < 16 by omega) (by decide)), lg_cmp_ge, lg_cmp_eq, bnd_eq, nI_1]
    rfl
  by_cases hs : nI i = sk
  · exact ⟨h, b, ⟨hF, hlo, fun v hv => (hat v hv).congr (PL_ne (fun q => absurd hs q.2)), hb, hst⟩, fun k31 k70 => by rw [start, if_pos hs]⟩
  have ho : okC n sk i := ⟨hi, hs⟩
  have hpl : ∀ v, v < 16 → ∀ L, (v = x → Lst xMAX L (fun s => PL (edC h0) (okC n sk) t k i x s ∨ ∃ s', WkL (edC h0) (okC n sk) t (k - 1) (edC h0 i).2.1 s' ∧ s = (edC h0 i).2.2 + s') (BB k)) → (v ≠ x → L = gJ h (8 + k) v) → Lst xMAX L (PL (edC h0) (okC n sk) t k (i + 1) v) (BB k) := by
    intro v hv L h1 h2
    by_cases hvx : v = x
    · subst hvx
      refine (h1 rfl).congr (fun s => ?_)
      have := PL_eq (ed := edC h0) (t := t) (k := k) ho s
      rw [edx] at this
      exact this
    · rw [h2 hvx]
      exact (hat v hv).congr (PL_ne (fun _ => by rw [edx]; exact fun q => hvx q.symm))
  by_cases hf : gJ h (8 + (k - 1)) y = xMAX
  · have hno : ∀ s, ¬ WkL (edC h0) (okC n sk) t (k - 1) (edC h0 i).2.1 s := by
      rw [edy]
      rcases hyl with ⟨h1, h2⟩ | ⟨m, h1, h2, h3, h4, h5⟩
      · exact h2
      · rw [hf, xMAX_toInt] at h1
        omega
    exact ⟨h, b, ⟨hF, hlo, fun v hv => hpl v hv _ (fun q => by rw [q]; exact (hat x hx).skip hno) (fun _ => rfl), hb, hst⟩, fun k31 k70 => by rw [start, if_neg hs, if_pos hf]⟩
  obtain ⟨m, hm, hm1, hm2, hQ⟩ : ∃ m, (gJ h (8 + (k - 1)) y).toInt = m ∧ -BB (k - 1) ≤ m ∧ m ≤ BB (k - 1) ∧ (WkL (edC h0) (okC n sk) t (k - 1) (edC h0 i).2.1 m ∧ ∀ s, WkL (edC h0) (okC n sk) t (k - 1) (edC h0 i).2.1 s → m ≤ s) := by
    rw [edy]
    rcases hyl with ⟨h1, h2⟩ | ⟨m, h1, h2, h3, h4, h5⟩
    · exact absurd h1 hf
    · exact ⟨m, h1, h2, h3, h4, h5⟩
  have hLc : ((gI h0 4 i).toInt64 + gJ h (8 + (k - 1)) y).toInt = m + (edC h0 i).2.2 := by
    rw [i64_add (i32_64 _) hm (by omega) (by omega), edc]
    omega
  by_cases q : gJ h (8 + k) x ≤ (gI h0 4 i).toInt64 + gJ h (8 + (k - 1)) y
  · exact ⟨h, b, ⟨hF, hlo, fun v hv => hpl v hv _ (fun e => by rw [e]; exact (hat x hx).keep (by rw [xMAX_toInt]; omega) hm hQ hLc (by rw [edc]; omega) q) (fun _ => rfl), hb, hst⟩, fun k31 k70 => by rw [start, if_neg hs, if_neg hf, if_pos q]⟩
  · generalize hnw : (gI h0 4 i).toInt64 + gJ h (8 + (k - 1)) y = nw at start q hLc
    have rd : ∀ c v, gJ (sJ h (8 + k) x nw) c v = if c = 8 + k then (if v = x then nw else gJ h (8 + k) v) else gJ h c v := fun c v => gJ_sJ _ _ _ _ _ _
    refine ⟨sJ h (8 + k) x nw, 1, ⟨hF.trans (Fr.sJ h ?_), fun z v hz hv => ?_, fun v hv => ?_, Or.inr rfl, fun q => absurd q (by decide)⟩, fun k31 k70 => by rw [start, if_neg hs, if_neg hf, if_neg q]⟩
    · unfold PM
      simp only [Bool.or_eq_true, Bool.and_eq_true, decide_eq_true_eq]
      exact Or.inl ⟨by omega, by omega⟩
    · rw [rd, if_neg (by omega)]
      exact hlo z v hz hv
    · rw [rd, if_pos rfl]
      refine hpl v hv _ (fun e => ?_) (fun e => by rw [if_neg e])
      rw [if_pos e]
      exact (hat x hx).take hm hQ hLc ⟨by rw [edc]; omega, by rw [edc]; omega⟩ (Int64.le_of_lt (Int64.not_le.mp q))
theorem p_meas_in (N : Nat) {h0 : xHp} {n t k : Nat} {sk : Int32} (hw : wfC n h0) (hk : 1 ≤ k) (hk2 : k ≤ 15) : ∀ (z i : Nat) (h : xHp) (b : Int32), i ≤ n → n - i < z → McD h0 h n sk t k i b → ∃ h' b', McD h0 h' n sk t k n b' ∧ ∀ k31, xit (F_X2_measure_70_b N k31) (fun _ _ _ _ _ => none) z sk b (nI k) (nI i) h = k31 sk b' (nI (k + 1)) (sI h' 1 7 (nI k)) := by
  intro z
  induction z with
  | zero => intro i h b _ h2; omega
  | succ z ih =>
    intro i h b h1 h2 hI
    by_cases hi : i = n
    · subst hi
      refine ⟨h, b, hI, fun k31 => ?_⟩
      show F_X2_measure_70_b N k31 _ sk b (nI k) (nI i) h = _
      have ec : gI h 1 3 = nI i := ((hI.1.1 1 3 (by decide)).1).trans hw.2.1
      unfold F_X2_measure_70_b
      rw [ec, if_pos (Int32.le_refl _), bnd_eq, nI_1]
    · obtain ⟨h1', b1, I1, e1⟩ := p_meas_step N hw hk hk2 (by omega : i < n) hI
      obtain ⟨h2', b2, I2, e2⟩ := ih (i + 1) h1' b1 (by omega) (by omega) I1
      exact ⟨h2', b2, I2, fun k31 => (e1 k31 _).trans (e2 k31)⟩
/-- the levels below k are there; b tells whether the last of them was better than the one before -/
def McO (h0 h : xHp) (n : Nat) (sk : Int32) (t k : Nat) (b : Int32) : Prop :=
  Fr PM h0 h ∧ gI h 1 7 = nI (k - 1) ∧ (∀ q v, q < k → v < 16 → Lst xMAX (gJ h (8 + q) v) (WkL (edC h0) (okC n sk) t q v) (BB q)) ∧ (b = 0 ∨ b = 1) ∧ (b = 0 → 2 ≤ k ∧ ∀ v, v < 16 → gJ h (8 + (k - 1)) v = gJ h (8 + (k - 2)) v)
/-- what measure leaves: R rounds, the last of them tells all -/
def McA (h0 h : xHp) (n : Nat) (sk : Int32) (t R : Nat) : Prop :=
  Fr PM h0 h ∧ R ≤ 15 ∧ gI h 1 7 = nI R ∧ (∀ q v, q ≤ R → v < 16 → Lst xMAX (gJ h (8 + q) v) (WkL (edC h0) (okC n sk) t q v) (BB q)) ∧ ∀ j v s, v < 16 → Wk (edC h0) (okC n sk) t j v s → ∃ j' s', j' ≤ R ∧ s' ≤ s ∧ Wk (edC h0) (okC n sk) t j' v s'
theorem wfC_lt {n : Nat} {h : xHp} {sk : Int32} (hw : wfC n h) {e : Nat} (he : okC n sk e) : (edC h e).1 < 16 ∧ (edC h e).2.1 < 16 := by
  obtain ⟨⟨x, hx, ex⟩, ⟨y, hy, ey⟩, -⟩ := hw.2.2 e he.1
  refine ⟨?_, ?_⟩
  · show (gI h 2 e).toNatClampNeg < 16
    rw [ex, nI_cl (by omega)]; exact hx
  · show (gI h 3 e).toNatClampNeg < 16
    rw [ey, nI_cl (by omega)]; exact hy
/-- a level that is like the one before: no row is below it, however long -/
theorem mc_stable {h0 h : xHp} {n t r : Nat} {sk : Int32} (hr : r ≤ 15) (hw : wfC n h0) (hlo : ∀ q v, q < r + 2 → v < 16 → Lst xMAX (gJ h (8 + q) v) (WkL (edC h0) (okC n sk) t q v) (BB q)) (heq : ∀ v, v < 16 → gJ h (8 + (r + 1)) v = gJ h (8 + r) v) : ∀ (j v : Nat) (s : Int), v < 16 → Wk (edC h0) (okC n sk) t j v s → ∃ j' s', j' ≤ r ∧ s' ≤ s ∧ Wk (edC h0) (okC n sk) t j' v s' := by
  intro j
  induction j with
  | zero => intro v s hv hw; exact ⟨0, s, by omega, by omega, hw⟩
  | succ j ih =>
    rintro v s hv ⟨e, h1, h2, s', h3, h4⟩
    obtain ⟨j1, s1, a1, a2, a3⟩ := ih _ s' (wfC_lt hw h1).2 h3
    have hW : WkL (edC h0) (okC n sk) t (r + 1) v ((edC h0 e).2.2 + s1) := ⟨j1 + 1, by omega, e, h1, h2, s1, a3, rfl⟩
    rcases hlo (r + 1) v (by omega) hv with ⟨_, b2⟩ | ⟨m, b1, b2, b3, b4, b5⟩
    · exact absurd hW (b2 _)
    · have hle := b5 _ hW
      rcases hlo r v (by omega) hv with ⟨c1, _⟩ | ⟨m', c1, c2, c3, ⟨j2, c4, c5⟩, _⟩
      · rw [heq v hv, c1, xMAX_toInt] at b1
        unfold BB at b3
        omega
      · rw [heq v hv, c1] at b1
        exact ⟨j2, m', c4, by omega, c5⟩

theorem gJ_cJ (h : xHp) (a b sp dp n c k : Nat) : gJ (cJ h a b sp dp n) c k = if c = b then va_cpy (fun i => gJ h a i) (fun i => gJ h b i) sp dp n k else gJ h c k := by
  unfold gJ cJ
  by_cases hc : c = b
  · subst hc
    simp only [va_up, if_true]
  · simp only [va_up, if_neg hc]
theorem Fr.cJ {P : Nat → Nat → Bool} (h : xHp) {a b sp dp n : Nat} (hp : ∀ k, P b k = true) : Fr P h (cJ h a b sp dp n) := by
  refine ⟨fun c' k' hn => ⟨rfl, ?_⟩, rfl⟩
  rw [gJ_cJ]
  by_cases hc : c' = b
  · subst hc
    rw [hp] at hn
    cases hn
  · rw [if_neg hc]
theorem PM_row {k v : Nat} (hk : k ≤ 15) : PM (8 + k) v = true := by
  unfold PM
  simp only [Bool.or_eq_true, Bool.and_eq_true, decide_eq_true_eq]
  exact Or.inl ⟨by omega, by omega⟩
theorem p_meas_out (N : Nat) (hN : 300 ≤ N) {h0 : xHp} {n t : Nat} {sk : Int32} (hw : wfC n h0) {pot : Nat → Int} (hv : Pot (edC h0) (okC n sk) pot) : ∀ (z k : Nat) (h : xHp) (b : Int32), 1 ≤ k → k ≤ 16 → 16 - k < z → McO h0 h n sk t k b → ∃ h' R, McA h0 h' n sk t R ∧ xit (F_X2_measure_31_b N) (fun _ _ _ _ => none) z sk b (nI k) h = some ((), h') := by
  intro z
  induction z with
  | zero => intro k h b _ _ h2; omega
  | succ z ih =>
    intro k h b h1 h2 h3 hI
    obtain ⟨hF, hro, hlo, hb, hst⟩ := hI
    by_cases hk : k = 16
    · subst hk
      refine ⟨h, 15, ⟨hF, by omega, hro, fun q v hq hv => hlo q v (by omega) hv, fun j v s hv1 hw1 => Wk.cut16 hv (fun e he => wfC_lt hw he) hv1 hw1⟩, ?_⟩
      show F_X2_measure_31_b N _ sk b (nI 16) h = _
      unfold F_X2_measure_31_b
      rw [if_pos (by decide)]
    · by_cases hb0 : b = 0
      · obtain ⟨hk2, heq⟩ := hst hb0
        obtain ⟨r, rfl⟩ : ∃ r, k = r + 2 := ⟨k - 2, by omega⟩
        refine ⟨h, r + 1, ⟨hF, by omega, hro, fun q v hq hv => hlo q v (by omega) hv, fun j v s hv1 hw1 => ?_⟩, ?_⟩
        · obtain ⟨j', s', a1, a2, a3⟩ := mc_stable (by omega) hw hlo heq j v s hv1 hw1
          exact ⟨j', s', by omega, a2, a3⟩
        · show F_X2_measure_31_b N _ sk b (nI (r + 2)) h = _
          unfold F_X2_measure_31_b
          rw [if_neg (by rw [show (16 : Int32) = nI 16 from rfl]; exact nI_ge (by omega) (by decide)), if_pos hb0]
      · have hlt : k < 16 := by omega
        have rd : ∀ c v, gJ (cJ h (8 + (k - 1)) (8 + k) 0 0 16) c v = if c = 8 + k then va_cpy (fun i => gJ h (8 + (k - 1)) i) (fun i => gJ h (8 + k) i) 0 0 16 v else gJ h c v := fun c v => gJ_cJ _ _ _ _ _ _ _ _
        have rdk : ∀ v, v < 16 → gJ (cJ h (8 + (k - 1)) (8 + k) 0 0 16) (8 + k) v = gJ h (8 + (k - 1)) v := fun v hv => by
          rw [rd, if_pos rfl, pk_cpy_in (by omega) (by omega)]
          simp
        have BBm : BB (k - 1) ≤ BB k := by unfold BB; omega
        have hD : McD h0 (cJ h (8 + (k - 1)) (8 + k) 0 0 16) n sk t k 0 0 := by
          refine ⟨hF.trans (Fr.cJ h (fun v => PM_row (by omega))), fun q v hq hv => ?_, fun v hv => ?_, Or.inl rfl, fun _ v hv => ?_⟩
          · rw [rd, if_neg (by omega)]
            exact hlo q v hq hv
          · rw [rdk v hv]
            exact ((hlo (k - 1) v (by omega) hv).mono BBm).congr (fun s => ⟨Or.inl, fun q => q.elim id fun ⟨e, a, _⟩ => by omega⟩)
          · rw [rdk v hv, rd, if_neg (by omega)]
        obtain ⟨h1', b1, I1, e1⟩ := p_meas_in N hw h1 (by omega) N 0 _ 0 (Nat.zero_le n) (by have := hw.1; omega) hD
        have hO : McO h0 (sI h1' 1 7 (nI k)) n sk t (k + 1) b1 := by
          refine ⟨I1.1.trans (Fr.sI h1' rfl), ?_, fun q v hq hv => ?_, I1.2.2.2.1, fun hb1 => ⟨by omega, fun v hv => I1.2.2.2.2 hb1 v hv⟩⟩
          · rw [gI_sI, if_pos rfl, if_pos rfl]
            rfl
          · rw [gJ_sI]
            by_cases hqk : q = k
            · subst hqk
              obtain ⟨r, rfl⟩ : ∃ r, q = r + 1 := ⟨q - 1, by omega⟩
              exact (I1.2.2.1 v hv).congr PL_all
            · exact I1.2.1 q v (by omega) hv
        obtain ⟨h2', R, I2, e2⟩ := ih (k + 1) _ b1 (by omega) (by omega) (by omega) hO
        refine ⟨h2', R, I2, ?_⟩
        show F_X2_measure_31_b N (xit (F_X2_measure_31_b N) (fun _ _ _ _ => none) z) sk b (nI k) h = _
        have kp : nI k - 1 = nI (k - 1) := by rw [show (1 : Int32) = nI 1 from rfl, pk_sub h1]
        have e1' := e1 (xit (F_X2_measure_31_b N) (fun _ _ _ _ => none) z)
        rw [show nI 0 = (0 : Int32) from rfl] at e1'
        generalize xit (F_X2_measure_31_b N) (fun _ _ _ _ => none) z = K at e1' e2 ⊢
        unfold F_X2_measure_31_b F_X2_measure_70
        rw [if_neg (by rw [show (16 : Int32) = nI 16 from rfl]; exact nI_ge hlt (by decide)), if_neg hb0, kp, grd_t (xin_nI (show k - 1 < 16 by omega) (by decide)), grd_t (xin_nI hlt (by decide)), bnd_eq, nI_cl (show k - 1 < 2 ^ 31 by omega), nI_cl (show k < 2 ^ 31 by omega), show (0 : Int32).toNatClampNeg = 0 from by decide, show (16 : Int32).toNatClampNeg = 16 from by decide]
        exact e1'.trans e2
theorem p_fill8 (N : Nat) (x : Int64) : ∀ (z i : Nat) (h : xHp), i ≤ 16 → 16 - i < z → ∃ h', xit (F_J7_fill_d0a16_8_6_b N) (fun _ _ _ _ => none) z x (nI i) 16 h = some ((), h') ∧ Fr (fun c _ => c == 8) h h' ∧ (∀ v, i ≤ v → v < 16 → gJ h' 8 v = x) ∧ ∀ v, v < i → gJ h' 8 v = gJ h 8 v := by
  intro z
  induction z with
  | zero => intro i h _ h2; omega
  | succ z ih =>
    intro i h h1 h2
    by_cases hi : i = 16
    · subst hi
      refine ⟨h, ?_, Fr.rf, fun v a b => by omega, fun v _ => rfl⟩
      show F_J7_fill_d0a16_8_6_b N _ x (nI 16) 16 h = _
      unfold F_J7_fill_d0a16_8_6_b
      rw [if_pos (by decide)]
    · obtain ⟨h', e', f', g1, g2⟩ := ih (i + 1) (sJ h 8 i x) (by omega) (by omega)
      refine ⟨h', ?_, (Fr.sJ h rfl).trans f', fun v a b => ?_, fun v hv => ?_⟩
      · show F_J7_fill_d0a16_8_6_b N (xit (F_J7_fill_d0a16_8_6_b N) (fun _ _ _ _ => none) z) x (nI i) 16 h = _
        unfold F_J7_fill_d0a16_8_6_b
        rw [if_neg (by rw [show (16 : Int32) = nI 16 from rfl]; exact nI_ge (by omega) (by decide)), grd_t (xin_nI (by omega) (by decide)), nI_cl (by omega), bnd_eq, nI_1]
        exact e'
      · by_cases hvi : v = i
        · subst hvi
          rw [g2 v (by omega), gJ_sJ, if_pos rfl, if_pos rfl]
        · exact g1 v (by omega) b
      · rw [g2 v (by omega), gJ_sJ, if_pos rfl, if_neg (by omega)]
theorem p_measure (N : Nat) (hN : 300 ≤ N) {h0 : xHp} {n t : Nat} {sk : Int32} (ht : t < 16) (hw : wfC n h0) {pot : Nat → Int} (hv : Pot (edC h0) (okC n sk) pot) : ∃ h' R, F_X2_measure N (nI t) sk h0 = some ((), h') ∧ McA h0 h' n sk t R := by
  obtain ⟨h1, e1, f1, g1, -⟩ := p_fill8 N xMAX N 0 h0 (by omega) (by omega)
  have hO : McO h0 (sI (sJ h1 8 t 0) 1 7 0) n sk t 1 1 := by
    refine ⟨((f1.mono ?_).trans (Fr.sJ h1 rfl)).trans (Fr.sI _ rfl), ?_, fun q v hq hv => ?_, Or.inr rfl, fun q => absurd q (by decide)⟩
    · intro c k hp
      unfold PM at hp
      simp only [Bool.or_eq_false_iff, Bool.and_eq_false_iff, decide_eq_false_iff_not, beq_eq_false_iff_ne] at hp
      simp only [beq_eq_false_iff_ne]
      omega
    · rw [gI_sI, if_pos rfl, if_pos rfl]
      rfl
    · obtain rfl : q = 0 := by omega
      rw [gJ_sI, gJ_sJ, if_pos rfl]
      by_cases hvt : v = t
      · rw [if_pos hvt]
        exact Or.inr ⟨0, by decide, by decide, by decide, ⟨0, by omega, hvt, rfl⟩, fun s ⟨j, a, b⟩ => by
          obtain rfl : j = 0 := by omega
          rw [b.2]; decide⟩
      · rw [if_neg hvt, g1 v (by omega) hv]
        exact Or.inl ⟨rfl, fun s ⟨j, a, b⟩ => by
          obtain rfl : j = 0 := by omega
          exact hvt b.1⟩
  obtain ⟨h2, R, I2, e2⟩ := p_meas_out N hN hw hv N 1 _ 1 (by omega) (by omega) (by omega) hO
  refine ⟨h2, R, ?_, I2⟩
  unfold F_X2_measure F_J7_fill_d0a16_8 F_J7_fill_d0a16_8_6 F_X2_measure_31
  rw [show (0 : Int32) = nI 0 from rfl, grd_t (xin_nI (by decide) (by decide)), show (9223372036854775807 : Int64) = xMAX from rfl, e1, bnd2_some, grd_t (xin_nI (by decide) (by decide)), grd_t (xin_nI ht (by decide)), bnd_eq, bnd_eq, nI_cl (by omega)]
  exact e2
