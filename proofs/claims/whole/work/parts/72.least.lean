/-! THE REFERENCE's findLeast: least[16 * j + v] is the least sum of the rows of just j differences from v -/
/-- of the rows of j differences from v those whose first one is below e -/
def PE (ed : Ed) (ok : Nat → Prop) (t j e v : Nat) (s : Int) : Prop := ∃ e', e' < e ∧ ok e' ∧ (ed e').1 = v ∧ ∃ s', Wk ed ok t (j - 1) (ed e').2.1 s' ∧ s = (ed e').2.2 + s'
theorem PE_eq {ed : Ed} {ok : Nat → Prop} {t j e : Nat} (he : ok e) (s : Int) : (PE ed ok t j e (ed e).1 s ∨ ∃ s', Wk ed ok t (j - 1) (ed e).2.1 s' ∧ s = (ed e).2.2 + s') ↔ PE ed ok t j (e + 1) (ed e).1 s := by
  constructor
  · rintro (⟨e', h1, h2, h3, h4⟩ | h)
    · exact ⟨e', by omega, h2, h3, h4⟩
    · exact ⟨e, by omega, he, rfl, h⟩
  · rintro ⟨e', h1, h2, h3, h4⟩
    by_cases h : e' = e
    · subst h
      exact Or.inr h4
    · exact Or.inl ⟨e', by omega, h2, h3, h4⟩
theorem PE_ne {ed : Ed} {ok : Nat → Prop} {t j e v : Nat} (he : ok e → (ed e).1 ≠ v) (s : Int) : PE ed ok t j e v s ↔ PE ed ok t j (e + 1) v s := by
  constructor
  · rintro ⟨e', h1, h2, h3, h4⟩
    exact ⟨e', by omega, h2, h3, h4⟩
  · rintro ⟨e', h1, h2, h3, h4⟩
    by_cases h : e' = e
    · subst h
      exact absurd h3 (he h2)
    · exact ⟨e', by omega, h2, h3, h4⟩
def LvD (h0 h : xHp) (t j e : Nat) : Prop := Fr P58 h0 h ∧ (∀ i v, i < j → v < 16 → Lst xFAR (gJ h 58 (16 * i + v)) (Wk (edM h0) (okM h0) t i v) (BB i)) ∧ (∀ v, v < 16 → Lst xFAR (gJ h 58 (16 * j + v)) (PE (edM h0) (okM h0) t j e v) (BB j)) ∧ ∀ i v, j < i → i ≤ 16 → v < 16 → gJ h 58 (16 * i + v) = xFAR
theorem p_least_step (N : Nat) {h0 h : xHp} {t j e : Nat} (hw : wfM h0) (hj : 1 ≤ j) (hj2 : j ≤ 16) (he : e < 70) (hI : LvD h0 h t j e) : ∃ h', LvD h0 h' t j (e + 1) ∧ ∀ k35 k43, F_X9_findLeast_43_b N k35 k43 (nI j) (nI e) h = k43 (nI j) (nI (e + 1)) h' := by
  obtain ⟨hF, hlo, hat, hhi⟩ := hI
  have g : ∀ c k, c ≠ 58 → gI h c k = gI h0 c k := fun c k hc => (hF.1 c k (by simp [P58, hc])).1
  have e55 := g 55 e (by decide)
  have e52 := g 52 e (by decide)
  have e53 := g 53 e (by decide)
  have e54 := g 54 e (by decide)
  by_cases hok : gI h0 55 e = 0
  · refine ⟨h, ⟨hF, hlo, fun v hv => (hat v hv).congr (PE_ne (fun q => absurd hok q.2)), hhi⟩, fun k35 k43 => ?_⟩
    unfold F_X9_findLeast_43_b F_X9_findLeast_156
    rw [if_neg (i70 he), grd_t (xin_nI he (by decide)), nI_cl (by omega), if_pos (e55.trans hok), nI_1]
  · have ho : okM h0 e := ⟨he, hok⟩
    obtain ⟨⟨x, hx, ex⟩, ⟨y, hy, ey⟩, c1, c2⟩ := hw e ho
    have edx : (edM h0 e).1 = x := by show (gI h0 52 e).toNatClampNeg = x; rw [ex, nI_cl (by omega)]
    have edy : (edM h0 e).2.1 = y := by show (gI h0 53 e).toNatClampNeg = y; rw [ey, nI_cl (by omega)]
    have edc : (edM h0 e).2.2 = (gI h0 54 e).toInt := rfl
    have hyl := hlo (j - 1) y (by omega) hy
    have BBj : BB j = BB (j - 1) + 1000001 := by unfold BB; rw [show (j : Int) = ((j - 1 : Nat) : Int) + 1 by omega, Int.add_mul]; omega
    have BBp : 0 ≤ BB (j - 1) ∧ BB (j - 1) ≤ 16000016 := by unfold BB; omega
    have start : ∀ k35 k43, F_X9_findLeast_43_b N k35 k43 (nI j) (nI e) h = (if xFAR ≤ gJ h 58 (16 * (j - 1) + y) then k43 (nI j) (nI (e + 1)) h else k43 (nI j) (nI (e + 1)) (sJ h 58 (16 * j + x) (if gJ h 58 (16 * j + x) ≤ gJ h 58 (16 * (j - 1) + y) + (gI h0 54 e).toInt64 then gJ h 58 (16 * j + x) else gJ h 58 (16 * (j - 1) + y) + (gI h0 54 e).toInt64))) := by
      intro k35 k43
      unfold F_X9_findLeast_43_b F_X9_findLeast_155 F_X9_findLeast_156
      have i1 : xin (nI (16 * (j - 1) + y)) 272 = true := xin_nI (by omega) (by decide)
      have i2 : xin (nI (16 * j + x)) 272 = true := xin_nI (by omega) (by decide)
      rw [if_neg (i70 he), nI_cl (by omega : e < 2 ^ 31), e55, if_neg hok, e53, ey, e52, ex, e54, ix16p hj hy, ix16 hj2 hx]
      simp only [grd_t (xin_nI he (by decide)), grd_t i1, grd_t i2, nI_cl (show 16 * (j - 1) + y < 2 ^ 31 by omega), nI_cl (show 16 * j + x < 2 ^ 31 by omega), lg_cmp_ge, nI_1, bnd_eq]
      show (if xFAR ≤ _ then _ else _) = _
      by_cases q1 : xFAR ≤ gJ h 58 (16 * (j - 1) + y)
      · rw [if_pos q1, if_pos q1]
      · rw [if_neg q1, if_neg q1]
        by_cases q2 : gJ h 58 (16 * j + x) ≤ gJ h 58 (16 * (j - 1) + y) + (gI h0 54 e).toInt64
        · rw [if_pos q2, if_pos q2]
        · rw [if_neg q2, if_neg q2]
    by_cases hf : xFAR ≤ gJ h 58 (16 * (j - 1) + y)
    · have hno : ∀ s, ¬ Wk (edM h0) (okM h0) t (j - 1) (edM h0 e).2.1 s := by
        rw [edy]
        rcases hyl with ⟨h1, h2⟩ | ⟨m, h1, h2, h3, h4, h5⟩
        · exact h2
        · rw [Int64.le_iff_toInt_le, xFAR_toInt, h1] at hf
          omega
      refine ⟨h, ⟨hF, hlo, fun v hv => ?_, hhi⟩, fun k35 k43 => by rw [start, if_pos hf]⟩
      by_cases hvx : v = x
      · subst hvx
        have a := (hat v hv).skip (c := (edM h0 e).2.2) hno
        refine a.congr (fun s => ?_)
        have := PE_eq (ed := edM h0) (t := t) (j := j) ho s
        rw [edx] at this
        exact this
      · exact (hat v hv).congr (PE_ne (fun _ => by rw [edx]; exact fun q => hvx q.symm))
    · obtain ⟨m, hm, hm1, hm2, hQ⟩ : ∃ m, (gJ h 58 (16 * (j - 1) + y)).toInt = m ∧ -BB (j - 1) ≤ m ∧ m ≤ BB (j - 1) ∧ (Wk (edM h0) (okM h0) t (j - 1) (edM h0 e).2.1 m ∧ ∀ s, Wk (edM h0) (okM h0) t (j - 1) (edM h0 e).2.1 s → m ≤ s) := by
        rw [edy]
        rcases hyl with ⟨h1, h2⟩ | ⟨m, h1, h2, h3, h4, h5⟩
        · exact absurd (by rw [h1]; exact Int64.le_refl _) hf
        · exact ⟨m, h1, h2, h3, h4, h5⟩
      have hLc : (gJ h 58 (16 * (j - 1) + y) + (gI h0 54 e).toInt64).toInt = m + (edM h0 e).2.2 := i64_add hm (i32_64 _) (by rw [edc] at *; omega) (by omega)
      generalize hnew : (if gJ h 58 (16 * j + x) ≤ gJ h 58 (16 * (j - 1) + y) + (gI h0 54 e).toInt64 then gJ h 58 (16 * j + x) else gJ h 58 (16 * (j - 1) + y) + (gI h0 54 e).toInt64) = nw at start
      have hL : Lst xFAR nw (PE (edM h0) (okM h0) t j (e + 1) x) (BB j) := by
        have key : Lst xFAR nw (fun s => PE (edM h0) (okM h0) t j e x s ∨ ∃ s', Wk (edM h0) (okM h0) t (j - 1) (edM h0 e).2.1 s' ∧ s = (edM h0 e).2.2 + s') (BB j) := by
          rw [← hnew]
          by_cases q : gJ h 58 (16 * j + x) ≤ gJ h 58 (16 * (j - 1) + y) + (gI h0 54 e).toInt64
          · rw [if_pos q]
            exact (hat x hx).keep (by rw [xFAR_toInt]; omega) hm hQ hLc (by rw [edc]; omega) q
          · rw [if_neg q]
            exact (hat x hx).take hm hQ hLc ⟨by rw [edc]; omega, by rw [edc]; omega⟩ (Int64.le_of_lt (Int64.not_le.mp q))
        refine key.congr (fun s => ?_)
        have := PE_eq (ed := edM h0) (t := t) (j := j) ho s
        rw [edx] at this
        exact this
      have rd : ∀ k, gJ (sJ h 58 (16 * j + x) nw) 58 k = if k = 16 * j + x then nw else gJ h 58 k := fun k => by rw [gJ_sJ, if_pos rfl]
      refine ⟨sJ h 58 (16 * j + x) nw, ⟨hF.trans (Fr.sJ h rfl), fun i v hi hv => ?_, fun v hv => ?_, fun i v hi hi2 hv => ?_⟩, fun k35 k43 => by rw [start, if_neg hf]⟩
      · rw [rd, if_neg (by omega)]
        exact hlo i v hi hv
      · rw [rd]
        by_cases hvx : v = x
        · subst hvx
          rw [if_pos rfl]
          exact hL
        · rw [if_neg (by omega)]
          exact (hat v hv).congr (PE_ne (fun _ => by rw [edx]; exact fun q => hvx q.symm))
      · rw [rd, if_neg (by omega)]
        exact hhi i v hi hi2 hv
theorem PE_all {h0 : xHp} {t j v : Nat} (s : Int) : PE (edM h0) (okM h0) t (j + 1) 70 v s ↔ Wk (edM h0) (okM h0) t (j + 1) v s := by
  constructor
  · rintro ⟨e, h1, h2, h3, h4⟩
    exact ⟨e, h2, h3, h4⟩
  · rintro ⟨e, h2, h3, h4⟩
    exact ⟨e, h2.1, h2, h3, h4⟩
theorem p_least_in (N : Nat) {h0 : xHp} {t j : Nat} (hw : wfM h0) (hj : 1 ≤ j) (hj2 : j ≤ 16) : ∀ (n e : Nat) (h : xHp), e ≤ 70 → 70 - e < n → LvD h0 h t j e → ∃ h', LvD h0 h' t j 70 ∧ ∀ k35, xit (F_X9_findLeast_43_b N k35) (fun _ _ _ => none) n (nI j) (nI e) h = k35 (nI (j + 1)) h' := by
  intro n
  induction n with
  | zero => intro e h _ h2; omega
  | succ n ih =>
    intro e h h1 h2 hI
    by_cases he : e = 70
    · subst he
      refine ⟨h, hI, fun k35 => ?_⟩
      show F_X9_findLeast_43_b N k35 _ (nI j) (nI 70) h = _
      unfold F_X9_findLeast_43_b
      rw [if_pos (by decide), nI_1]
    · obtain ⟨h1', I1, e1⟩ := p_least_step N hw hj hj2 (by omega : e < 70) hI
      obtain ⟨h2', I2, e2⟩ := ih (e + 1) h1' (by omega) (by omega) I1
      exact ⟨h2', I2, fun k35 => (e1 k35 _).trans (e2 k35)⟩
/-- all levels -/
def LvA (h0 h : xHp) (t : Nat) : Prop := Fr P58 h0 h ∧ ∀ i v, i ≤ 16 → v < 16 → Lst xFAR (gJ h 58 (16 * i + v)) (Wk (edM h0) (okM h0) t i v) (BB i)
def LvO (h0 h : xHp) (t j : Nat) : Prop := Fr P58 h0 h ∧ (∀ i v, i < j → v < 16 → Lst xFAR (gJ h 58 (16 * i + v)) (Wk (edM h0) (okM h0) t i v) (BB i)) ∧ ∀ i v, j ≤ i → i ≤ 16 → v < 16 → gJ h 58 (16 * i + v) = xFAR
theorem p_least_out (N : Nat) (hN : 300 ≤ N) {h0 : xHp} {t : Nat} (hw : wfM h0) : ∀ (n j : Nat) (h : xHp), 1 ≤ j → j ≤ 17 → 17 - j < n → LvO h0 h t j → ∃ h', LvA h0 h' t ∧ xit (F_X9_findLeast_35_b N) (fun _ _ => none) n (nI j) h = some ((), h') := by
  intro n
  induction n with
  | zero => intro j h _ _ h2; omega
  | succ n ih =>
    intro j h h1 h2 h3 hI
    by_cases hj : j = 17
    · subst hj
      refine ⟨h, ⟨hI.1, fun i v hi hv => hI.2.1 i v (by omega) hv⟩, ?_⟩
      show F_X9_findLeast_35_b N _ (nI 17) h = _
      unfold F_X9_findLeast_35_b
      rw [if_pos (by decide)]
    · have hD : LvD h0 h t j 0 := ⟨hI.1, hI.2.1, fun v hv => Or.inl ⟨hI.2.2 j v (Nat.le_refl j) (by omega) hv, fun s ⟨e', q, _⟩ => by omega⟩, fun i v hi hi2 hv => hI.2.2 i v (by omega) hi2 hv⟩
      obtain ⟨h1', I1, e1⟩ := p_least_in N hw h1 (by omega) N 0 h (by omega) (by omega) hD
      have hO : LvO h0 h1' t (j + 1) := by
        refine ⟨I1.1, fun i v hi hv => ?_, fun i v hi hi2 hv => I1.2.2.2 i v (by omega) hi2 hv⟩
        by_cases hij : i = j
        · subst hij
          obtain ⟨q, rfl⟩ : ∃ q, i = q + 1 := ⟨i - 1, by omega⟩
          exact (I1.2.2.1 v hv).congr PE_all
        · exact I1.2.1 i v (by omega) hv
      obtain ⟨h2', I2, e2⟩ := ih (j + 1) h1' (by omega) (by omega) (by omega) hO
      refine ⟨h2', I2, ?_⟩
      show F_X9_findLeast_35_b N (xit (F_X9_findLeast_35_b N) (fun _ _ => none) n) (nI j) h = _
      unfold F_X9_findLeast_35_b F_X9_findLeast_43
      rw [if_neg (by rw [show (16 : Int32) = nI 16 from rfl]; exact nI_nlt (by omega) (by omega))]
      rw [show (0 : Int32) = nI 0 from rfl]
      exact (e1 _).trans e2
def LvI (h0 h : xHp) (t k : Nat) : Prop := Fr P58 h0 h ∧ ∀ i, i < k → gJ h 58 i = if i = t then 0 else xFAR
theorem p_least_init (N : Nat) (hN : 300 ≤ N) {h0 : xHp} {t : Nat} (ht : t < 16) (hw : wfM h0) : ∀ (n k : Nat) (h : xHp), k ≤ 272 → 272 - k < n → LvI h0 h t k → ∃ h', LvA h0 h' t ∧ xit (F_X9_findLeast_2_b N) (fun _ _ _ => none) n (nI t) (nI k) h = some ((), h') := by
  intro n
  induction n with
  | zero => intro k h _ h2; omega
  | succ n ih =>
    intro k h h1 h2 hI
    by_cases hk : k = 272
    · subst hk
      have hO : LvO h0 h t 1 := by
        refine ⟨hI.1, fun i v hi hv => ?_, fun i v hi hi2 hv => ?_⟩
        · obtain rfl : i = 0 := by omega
          have e := hI.2 (16 * 0 + v) (by omega)
          rw [e]
          by_cases hv2 : 16 * 0 + v = t
          · rw [if_pos hv2]
            exact Or.inr ⟨0, by decide, by decide, by decide, ⟨by omega, rfl⟩, fun s q => by rw [q.2]; decide⟩
          · rw [if_neg hv2]
            exact Or.inl ⟨rfl, fun s q => hv2 (by have := q.1; omega)⟩
        · rw [hI.2 _ (by omega), if_neg (by omega)]
      obtain ⟨h', I', e'⟩ := p_least_out N hN hw N 1 h (by omega) (by omega) (by omega) hO
      refine ⟨h', I', ?_⟩
      show F_X9_findLeast_2_b N _ (nI t) (nI 272) h = _
      unfold F_X9_findLeast_2_b F_X9_findLeast_35
      rw [if_pos (by decide)]
      exact e'
    · have hlt : k < 272 := by omega
      obtain ⟨h', I', e'⟩ := ih (k + 1) (sJ h 58 k (if k = t then 0 else xFAR)) (by omega) (by omega) ⟨hI.1.trans (Fr.sJ h rfl), fun i hi => by
        rw [gJ_sJ, if_pos rfl]
        by_cases hik : i = k
        · subst hik; rw [if_pos rfl]
        · rw [if_neg hik]; exact hI.2 i (by omega)⟩
      refine ⟨h', I', ?_⟩
      rw [← e']
      show F_X9_findLeast_2_b N (xit (F_X9_findLeast_2_b N) (fun _ _ _ => none) n) (nI t) (nI k) h = _
      unfold F_X9_findLeast_2_b F_X9_findLeast_26
      rw [if_neg (by rw [show (272 : Int32) = nI 272 from rfl]; exact nI_ge hlt (by decide))]
      simp only [grd_t (xin_nI hlt (by decide)), nI_cl (show k < 2 ^ 31 by omega), bnd_eq, nI_1, nI_eq (show k < 2 ^ 31 by omega) (show t < 2 ^ 31 by omega)]
      by_cases hkt : k = t
      · rw [if_pos hkt, if_pos hkt]
      · rw [if_neg hkt, if_neg hkt]
        rfl
theorem p_findLeast (N : Nat) (hN : 300 ≤ N) {h0 : xHp} {t : Nat} (ht : t < 16) (hw : wfM h0) : ∃ h', F_X9_findLeast N (nI t) h0 = some ((), h') ∧ LvA h0 h' t := by
  obtain ⟨h', I', e'⟩ := p_least_init N hN ht hw N 0 h0 (by omega) (by omega) ⟨Fr.rf, fun i hi => by omega⟩
  exact ⟨h', by unfold F_X9_findLeast F_X9_findLeast_2; exact e', I'⟩
