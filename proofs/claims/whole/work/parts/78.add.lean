/-! ADD: its pieces -/
theorem nar1 : vp_nar .boolean 1 = 1 := by decide +kernel
theorem nar0 : vp_nar .boolean 0 = 0 := by decide +kernel
theorem nr1 (h : xHp) : some (vp_nar .boolean (1, h).1, (1, h).2) = some ((1 : Int32), h) := by rw [nar1]
theorem nr0 (h : xHp) : some (vp_nar .boolean (0, h).1, (0, h).2) = some ((0 : Int32), h) := by rw [nar0]
theorem Good.congr {ed ed' : Ed} {ok ok' : Nat → Prop} {t : Nat} (ho : ∀ e, ok e ↔ ok' e) (he : ∀ e, ok e → ed e = ed' e) {j u : Nat} {M : Int} {e : Nat} : Good ed ok t j u M e ↔ Good ed' ok' t j u M e := by
  constructor
  · rintro ⟨a, b, s', c, d⟩
    rw [he e a] at b c d
    exact ⟨(ho e).mp a, b, s', (Wk.congr ho he).mp c, d⟩
  · rintro ⟨a, b, s', c, d⟩
    have a' := (ho e).mpr a
    rw [← he e a'] at b c d
    exact ⟨a', b, s', (Wk.congr ho he).mpr c, d⟩
theorem RowOf.congr {ed ed' : Ed} {ok ok' : Nat → Prop} {t : Nat} (ho : ∀ e, ok e ↔ ok' e) (he : ∀ e, ok e → ed e = ed' e) : ∀ {j u : Nat} {M : Int} {l : List Nat}, RowOf ed ok t j u M l → RowOf ed' ok' t j u M l := by
  intro j
  induction j with
  | zero => intro u M l h; exact h
  | succ j ih =>
    rintro u M l ⟨e, l', rfl, g1, m1, r1⟩
    refine ⟨e, l', rfl, (Good.congr ho he).mp g1, fun e' h' q => m1 e' h' ((Good.congr ho he).mpr q), ?_⟩
    rw [← he e g1.1]
    exact ih r1
theorem Short.congr {ed ed' : Ed} {ok ok' : Nat → Prop} {t : Nat} (ho : ∀ e, ok e ↔ ok' e) (he : ∀ e, ok e → ed e = ed' e) {j u : Nat} {M : Int} (h : Short ed ok t j u M) : Short ed' ok' t j u M := by
  obtain ⟨⟨s, a, b⟩, m⟩ := h
  exact ⟨⟨s, (Wk.congr ho he).mp a, b⟩, fun i hi s hw => m i hi s ((Wk.congr ho he).mpr hw)⟩
/-- an int is a variable's number, or it isn't -/
theorem var16 (p : Int32) : (∃ x, x < 16 ∧ p = nI x) ∨ (p < 0 ∨ 16 ≤ p) := by
  rcases pk_ix p (n := 16) (by decide) with h | h | h
  · exact Or.inr (Or.inl h)
  · exact Or.inr (Or.inr h)
  · exact Or.inl h
theorem p_reqV (N : Nat) {x : Nat} (hx : x < 16) (h : xHp) : F_X8_requireVariable N (nI x) h = some ((), h) ∧ F_X8_requireVariable_T N (nI x) h = none := by
  unfold F_X8_requireVariable F_X8_requireVariable_T
  have h1 : ¬ nI x < 0 := nI_pos (by omega)
  have h2 : nI x < 16 := by rw [show (16 : Int32) = nI 16 from rfl]; exact nI_lt hx (by decide)
  rw [if_neg h1, if_pos h2, if_neg h1, if_pos h2]
  exact ⟨rfl, rfl⟩
theorem p_reqVT (N : Nat) {p : Int32} (hp : p < 0 ∨ 16 ≤ p) (h : xHp) : F_X8_requireVariable_T N p h = some (1, h) := by
  unfold F_X8_requireVariable_T F_X8_requireVariable_T_10
  rcases hp with hp | hp
  · rw [if_pos hp]
  · by_cases q : p < 0
    · rw [if_pos q]
    · rw [if_neg q, if_neg (Int32.not_lt.mpr hp)]
theorem p_isVar (N : Nat) {x : Nat} (hx : x < 16) (h : xHp) : F_X9_isVariable N (nI x) h = some (1, h) := by
  unfold F_X9_isVariable
  rw [p_isIn, bnd2_some, if_pos ⟨i64_0le.mpr (nI_pos' (by omega)), by rw [show (15 : Int64) = (15 : Int32).toInt64 by decide]; exact i64_le.mpr (by rw [show (15 : Int32) = nI 15 from rfl]; exact nI_le (by omega) (by decide))⟩]
  exact nr1 _
theorem p_isVarN (N : Nat) {p : Int32} (hp : p < 0 ∨ 16 ≤ p) (h : xHp) : F_X9_isVariable N p h = some (0, h) := by
  unfold F_X9_isVariable
  rw [p_isIn, bnd2_some, if_neg (fun q => by
    rw [i64_0le, show (15 : Int64) = (15 : Int32).toInt64 by decide, i64_le] at q
    rcases hp with hp | hp
    · exact absurd hp (Int32.not_lt.mpr q.1)
    · have := Int32.le_trans hp q.2
      exact absurd this (by decide))]
  exact nr0 _
/-- the constraints alone are there -/
def P55 : Nat → Nat → Bool := fun c _ => c == 55
theorem p_alone_go (N : Nat) {n : Nat} (hn : n ≤ 70) : ∀ (z k : Nat) (h : xHp), k ≤ 70 → 70 - k < z → gI h 51 1 = nI n → (∀ i, i < k → gI h 55 i = if i < n then 1 else 0) → ∃ h', xit (F_X9_constraintsAlone_2_b N) (fun _ _ => none) z (nI k) h = some ((), h') ∧ Fr P55 h h' ∧ ∀ i, i < 70 → gI h' 55 i = if i < n then 1 else 0 := by
  intro z
  induction z with
  | zero => intro k h _ h2; omega
  | succ z ih =>
    intro k h h1 h2 hc hI
    by_cases hk : k = 70
    · subst hk
      refine ⟨h, ?_, Fr.rf, hI⟩
      show F_X9_constraintsAlone_2_b N _ (nI 70) h = _
      unfold F_X9_constraintsAlone_2_b
      rw [if_pos (by decide)]
    · have hk7 : k < 70 := by omega
      obtain ⟨h', e', f', g'⟩ := ih (k + 1) (sI h 55 k (if k < n then 1 else 0)) (by omega) (by omega) (by rw [gI_sI, if_neg (by decide)]; exact hc) (fun i hi => by
        rw [gI_sI, if_pos rfl]
        by_cases q : i = k
        · subst q; rw [if_pos rfl]
        · rw [if_neg q]; exact hI i (by omega))
      refine ⟨h', ?_, (Fr.sI h rfl).trans f', g'⟩
      show F_X9_constraintsAlone_2_b N (xit (F_X9_constraintsAlone_2_b N) (fun _ _ => none) z) (nI k) h = _
      rw [← e']
      unfold F_X9_constraintsAlone_2_b F_X9_constraintsAlone_26
      rw [if_neg (i70 hk7), hc]
      simp only [grd_t (xin_nI hk7 (by decide)), nI_cl (show k < 2 ^ 31 by omega), bnd_eq, nI_1]
      by_cases q : n ≤ k
      · rw [if_pos (nI_le q (by omega)), if_neg (by omega)]
        rfl
      · rw [if_neg (nI_ge (by omega) (by omega)), if_pos (by omega)]
        rfl
theorem p_alone (N : Nat) (hN : 300 ≤ N) {n : Nat} (hn : n ≤ 70) {h : xHp} (hc : gI h 51 1 = nI n) : ∃ h', F_X9_constraintsAlone N h = some ((), h') ∧ Fr P55 h h' ∧ ∀ i, i < 70 → gI h' 55 i = if i < n then 1 else 0 := by
  unfold F_X9_constraintsAlone F_X9_constraintsAlone_2
  exact p_alone_go N hn N 0 h (by omega) (by omega) hc (fun i hi => by omega)
/-- the class and the reference look at the same differences -/
theorem Rcon.wfC {n : Nat} {h : xHp} (r : Rcon n h) : wfC n h := by
  obtain ⟨r0, r1, r2, r3⟩ := r
  refine ⟨by omega, r1, fun e he => ?_⟩
  obtain ⟨a1, a2, a3, a4, a5, a6, a7⟩ := r3 e he
  rw [a1, a2, a3]
  exact ⟨a4, a5, by omega, by omega⟩
theorem Rcon.wfM {n : Nat} {h h' : xHp} (r : Rcon n h) (f : Fr P55 h h') (ha : ∀ i, i < 70 → gI h' 55 i = if i < n then 1 else 0) : wfM h' ∧ (∀ e, okM h' e ↔ e < n) ∧ ∀ e, edM h' e = edM h e := by
  obtain ⟨r0, r1, r2, r3⟩ := r
  have hok : ∀ e, okM h' e ↔ e < n := by
    intro e
    unfold okM
    constructor
    · rintro ⟨a, b⟩
      rw [ha e a] at b
      by_cases q : e < n
      · exact q
      · rw [if_neg q] at b
        exact absurd rfl b
    · intro q
      refine ⟨by omega, ?_⟩
      rw [ha e (by omega), if_pos q]
      decide
  have hed : ∀ e, edM h' e = edM h e := by
    intro e
    unfold edM
    rw [(f.1 52 e rfl).1, (f.1 53 e rfl).1, (f.1 54 e rfl).1]
  refine ⟨fun e he => ?_, hok, hed⟩
  obtain ⟨a1, a2, a3, a4, a5, a6, a7⟩ := r3 e ((hok e).mp he)
  rw [(f.1 52 e rfl).1, (f.1 53 e rfl).1, (f.1 54 e rfl).1]
  exact ⟨a4, a5, by omega, by omega⟩
theorem Rcon.edCM {n : Nat} {h : xHp} (r : Rcon n h) {e : Nat} (he : e < n) : edC h e = edM h e := by
  obtain ⟨a1, a2, a3, -⟩ := r.2.2.2 e he
  unfold edC edM
  rw [a1, a2, a3]
theorem nI_neg1 {e : Nat} (h : e < 2 ^ 31) : ¬ nI e = -1 := fun q => by
  have := congrArg Int32.toInt q
  rw [nI_toInt h] at this
  have h9 : ((-1 : Int32)).toInt = -1 := by decide
  rw [h9] at this
  omega
theorem okC_iff {n e : Nat} (hn : n ≤ 70) : okC n (-1) e ↔ e < n := ⟨fun q => q.1, fun q => ⟨q, nI_neg1 (by omega)⟩⟩
theorem Rpot.M {n : Nat} {h : xHp} (r : Rpot n h) : ∃ v, ∀ (ok : Nat → Prop), (∀ e, ok e → e < n) → Pot (edM h) ok v := by
  obtain ⟨v, hv⟩ := r
  exact ⟨v, fun ok ho e he => hv e (ho e he)⟩
/-- -1 - c as a long -/
theorem lim_toInt (c : Int32) (h1 : -1000001 ≤ c.toInt) (h2 : c.toInt ≤ 1000001) : ((-1 : Int64) - c.toInt64).toInt = -1 - c.toInt := by
  rw [Int64.toInt_sub, i32_64, show ((-1 : Int64)).toInt = -1 by decide]
  exact Int.bmod_eq_of_le (by omega) (by omega)
/-- all that measure and traceRow write -/
def PN : Nat → Nat → Bool := fun c k => (decide (8 ≤ c) && decide (c < 24)) || c == 5 || (c == 1 && (k == 7 || k == 5))
theorem PM_PN {h h' : xHp} (f : Fr PM h h') : Fr PN h h' := f.mono (fun c k hp => by
  unfold PN at hp
  unfold PM
  simp only [Bool.or_eq_false_iff, Bool.and_eq_false_iff, decide_eq_false_iff_not, beq_eq_false_iff_ne] at hp ⊢
  omega)
theorem PT_PN {h h' : xHp} (f : Fr PT h h') : Fr PN h h' := f.mono (fun c k hp => by
  unfold PN at hp
  unfold PT
  simp only [Bool.or_eq_false_iff, Bool.and_eq_false_iff, decide_eq_false_iff_not, beq_eq_false_iff_ne] at hp ⊢
  omega)
/-- the class's refuses -/
theorem p_refuses (N : Nat) (hN : 300 ≤ N) {h : xHp} {n x y : Nat} {c : Int32} (hw : wfC n h) (hx : x < 16) (hy : y < 16) (hc1 : -1000001 ≤ c.toInt) (hc2 : c.toInt ≤ 1000001) {pot : Nat → Int} (hv : Pot (edC h) (okC n (-1)) pot) : (∃ J l h', J ≤ 15 ∧ Short (edC h) (okC n (-1)) x J y (-1 - c.toInt) ∧ RowOf (edC h) (okC n (-1)) x J y (-1 - c.toInt) l ∧ F_X2_refuses N (nI x) (nI y) c h = some (1, h') ∧ Fr PN h h' ∧ gI h' 1 5 = nI J ∧ ∀ k, k < J → gI h' 5 k = nI (l.getD k 0)) ∨ ((∀ j s, Wk (edC h) (okC n (-1)) x j y s → ¬ s ≤ -1 - c.toInt) ∧ ∃ h', F_X2_refuses N (nI x) (nI y) c h = some (0, h') ∧ Fr PN h h') := by
  obtain ⟨h1, R, e1, hA⟩ := p_measure N hN hx hw hv
  unfold F_X2_refuses
  rw [e1, bnd2_some]
  rcases p_traceRow N hN (lim := (-1) - c.toInt64) (M := -1 - c.toInt) hw hy (lim_toInt c hc1 hc2) (by omega) (by omega) hA with ⟨J, l, h', a1, a2, a3, a4, a5, a6, a7⟩ | ⟨a1, h', a2, a3⟩
  · refine Or.inl ⟨J, l, h', a1, a2, a3, ?_, (PM_PN hA.1).trans (PT_PN a5), a6, a7⟩
    rw [a4, bnd2_some]
    exact nr1 _
  · refine Or.inr ⟨a1, h', ?_, (PM_PN hA.1).trans (PT_PN a3)⟩
    rw [a2, bnd2_some]
    exact nr0 _
