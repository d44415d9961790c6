/-! PROOFS WRITTEN: the reference's writer -/
theorem phi_mono {n e e' : Nat} (hn : n ≤ 60) : phi n e' < phi n e ↔ e' < e := by
  unfold phi
  by_cases q : e < n <;> by_cases q' : e' < n
  · rw [if_pos q, if_pos q']
  · rw [if_pos q, if_neg q']; omega
  · rw [if_neg q, if_pos q']; omega
  · rw [if_neg q, if_neg q']; omega
section REL
variable {E E' : Ed} {ok ok' : Nat → Prop} {φ : Nat → Nat} {t : Nat}
theorem Good.rel (h1 : ∀ e, ok e → ok' (φ e) ∧ E' (φ e) = E e) (h2 : ∀ e', ok' e' → ∃ e, ok e ∧ φ e = e') {j u : Nat} {M : Int} {e : Nat} (he : ok e) : Good E ok t j u M e ↔ Good E' ok' t j u M (φ e) := by
  have fw : ∀ e, ok e → ∃ e', ok' e' ∧ E' e' = E e := fun e q => ⟨φ e, h1 e q⟩
  have bw : ∀ e', ok' e' → ∃ e, ok e ∧ E e = E' e' := fun e' q => by
    obtain ⟨e, a, b⟩ := h2 e' q
    exact ⟨e, a, by rw [← b, (h1 e a).2]⟩
  unfold Good
  rw [(h1 e he).2]
  constructor
  · rintro ⟨a, b, s', c, d⟩
    exact ⟨(h1 e he).1, b, s', Wk.rel fw c, d⟩
  · rintro ⟨a, b, s', c, d⟩
    exact ⟨he, b, s', Wk.rel bw c, d⟩
theorem RowOf.rel (h1 : ∀ e, ok e → ok' (φ e) ∧ E' (φ e) = E e) (h2 : ∀ e', ok' e' → ∃ e, ok e ∧ φ e = e') (h3 : ∀ e e', φ e' < φ e → e' < e) : ∀ {j u : Nat} {M : Int} {l : List Nat}, RowOf E ok t j u M l → RowOf E' ok' t j u M (l.map φ) := by
  intro j
  induction j with
  | zero => intro u M l h; rw [show l = [] from h]; rfl
  | succ j ih =>
    rintro u M l ⟨e, l', rfl, g1, m1, r1⟩
    refine ⟨φ e, l'.map φ, rfl, (Good.rel h1 h2 g1.1).mp g1, fun e' he' q => ?_, ?_⟩
    · obtain ⟨e0, a, b⟩ := h2 e' q.1
      subst b
      exact m1 e0 (h3 e e0 he') ((Good.rel h1 h2 a).mpr q)
    · rw [(h1 e g1.1).2]
      exact ih r1
theorem Short.rel (h1 : ∀ e, ok e → ok' (φ e) ∧ E' (φ e) = E e) (h2 : ∀ e', ok' e' → ∃ e, ok e ∧ φ e = e') {j u : Nat} {M : Int} (h : Short E ok t j u M) : Short E' ok' t j u M := by
  have fw : ∀ e, ok e → ∃ e', ok' e' ∧ E' e' = E e := fun e q => ⟨φ e, h1 e q⟩
  have bw : ∀ e', ok' e' → ∃ e, ok e ∧ E e = E' e' := fun e' q => by
    obtain ⟨e, a, b⟩ := h2 e' q
    exact ⟨e, a, by rw [← b, (h1 e a).2]⟩
  obtain ⟨⟨s, a, b⟩, m⟩ := h
  exact ⟨⟨s, Wk.rel fw a, b⟩, fun i hi s hw => m i hi s (Wk.rel bw hw)⟩
end REL
def MX (pre : List Nat) (h : xHp) : Prop := (pre.length ≤ 6000 ∧ gI h 51 43 = nI pre.length ∧ ∀ k, k < pre.length → gI h 73 k = nI (pre.getD k 0)) ∨ (6000 < pre.length ∧ gI h 51 43 = nI 6001)
def LMx : Lc := [(51,43,44),(73,0,0)]
theorem MX.ag {pre : List Nat} {h h' : xHp} (a : Ag LMx h h') (t : MX pre h) : MX pre h' := by
  rcases t with ⟨t1, t2, t3⟩ | ⟨t1, t2⟩
  · exact Or.inl ⟨t1, (a 51 43 rfl).trans t2, fun k hk => by rw [a 73 k rfl]; exact t3 k hk⟩
  · exact Or.inr ⟨t1, (a 51 43 rfl).trans t2⟩
theorem m_write (N : Nat) {pre : List Nat} {h : xHp} {b : Nat} (t : MX pre h) : ∃ h', F_X9_write N (nI b) h = some ((), h') ∧ FL LMx h h' ∧ MX (pre ++ [b]) h' := by
  unfold F_X9_write
  rcases t with ⟨t1, t2, t3⟩ | ⟨t1, t2⟩
  · rw [t2, if_neg (by rw [show (6000 : Int32) = nI 6000 from rfl]; exact nI_nlt (by omega) (by omega)), grd_t (xin_nI (show pre.length < 6001 by omega) (by decide)), nI_cl (by omega), bnd_eq, gI_sI, if_neg (by decide), t2, nI_1, bnd_eq]
    refine ⟨_, rfl, (FL.i h rfl).trans (FL.i _ rfl), ?_⟩
    by_cases q : pre.length = 6000
    · refine Or.inr ⟨by rw [List.length_append]; simp; omega, ?_⟩
      rw [gI_sI, if_pos rfl, if_pos rfl, q]
    · refine Or.inl ⟨by rw [List.length_append]; simp; omega, ?_, fun k hk => ?_⟩
      · rw [gI_sI, if_pos rfl, if_pos rfl, List.length_append]; rfl
      · rw [List.length_append] at hk
        have hk' : k < pre.length + 1 := hk
        simp +decide only [gI_sI, if_false, if_true]
        by_cases qk : k = pre.length
        · subst qk
          rw [if_pos rfl, getD_app_r (Nat.le_refl _), Nat.sub_self]
          rfl
        · rw [if_neg qk, getD_app_l (by omega)]
          exact t3 k (by omega)
  · rw [t2, if_pos (by decide)]
    exact ⟨h, rfl, Fr.rf, Or.inr ⟨by rw [List.length_append]; simp; omega, t2⟩⟩
theorem m_item (N : Nat) {pre : List Nat} {h : xHp} {n k : Nat} (t : MX pre h) (hn6 : n ≤ 60) (hk : k < 100) : ∃ h', F_X9_writeItem N (nI (phi n k)) h = some ((), h') ∧ FL LMx h h' ∧ MX (pre ++ itm n k) h' := by
  unfold F_X9_writeItem F_X9_writeItem_41 itm phi
  by_cases q : k < n
  · have d1 : (48 : Int32) + (nI k - nI k / 10 * 10) = nI (48 + k % 10) := by rw [show (10 : Int32) = nI 10 from rfl, pk_rem (by omega) (by decide) (by decide), show (48 : Int32) = nI 48 from rfl, nI_add]
    have d2 : (48 : Int32) + nI k / 10 = nI (48 + k / 10) := by rw [show (10 : Int32) = nI 10 from rfl, pk_div (by omega) (by decide) (by decide), show (48 : Int32) = nI 48 from rfl, nI_add]
    simp only [if_pos q]
    rw [if_pos (by rw [show (60 : Int32) = nI 60 from rfl]; exact nI_lt (by omega) (by decide))]
    obtain ⟨h1, e1, f1, t1⟩ := m_write N (b := 91) t
    rw [show (91 : Int32) = nI 91 from rfl, e1, bnd2_p, d1, d2]
    by_cases q2 : k < 10
    · rw [if_pos (by rw [show (9 : Int32) = nI 9 from rfl]; exact nI_le (by omega) (by decide)), if_pos q2]
      obtain ⟨h2, e2, f2, t2⟩ := m_write N (b := 48 + k % 10) t1
      obtain ⟨h3, e3, f3, t3⟩ := m_write N (b := 93) t2
      rw [e2, bnd2_p, show (93 : Int32) = nI 93 from rfl, e3, bnd2_p]
      rw [app1, app1] at t3
      exact ⟨h3, rfl, f1.trans (f2.trans f3), t3⟩
    · rw [if_neg (by rw [show (9 : Int32) = nI 9 from rfl]; exact nI_ge (by omega) (by omega)), if_neg q2]
      obtain ⟨h4, e4, f4, t4⟩ := m_write N (b := 48 + k / 10) t1
      obtain ⟨h2, e2, f2, t2⟩ := m_write N (b := 48 + k % 10) t4
      obtain ⟨h3, e3, f3, t3⟩ := m_write N (b := 93) t2
      rw [e4, bnd2_p, e2, bnd2_p, show (93 : Int32) = nI 93 from rfl, e3, bnd2_p]
      rw [app1, app1, app1] at t3
      exact ⟨h3, rfl, f1.trans (f4.trans (f2.trans f3)), t3⟩
  · simp only [if_neg q]
    rw [if_neg (by rw [show (60 : Int32) = nI 60 from rfl]; exact nI_nlt (by omega) (by omega))]
    obtain ⟨h1, e1, f1, t1⟩ := m_write N (b := 48 + (k - n)) t
    have d3 : (48 : Int32) + nI (60 + (k - n)) - 60 = nI (48 + (k - n)) := by rw [show (48 : Int32) = nI 48 from rfl, nI_add, show (60 : Int32) = nI 60 from rfl, pk_sub (by omega)]; congr 1; omega
    rw [d3, e1, bnd2_p]
    exact ⟨h1, rfl, f1, t1⟩
theorem m_round_go (N : Nat) {n : Nat} (hn6 : n ≤ 60) : ∀ (l : List Nat) (z i : Nat) (pre : List Nat) (h : xHp), l.length < z → i + l.length ≤ 16 → gI h 51 12 = nI (i + l.length) → (∀ k, k < l.length → gI h 59 (i + k) = nI ((l.map (phi n)).getD k 0)) → (∀ e, e ∈ l → e < 100) → MX pre h → ∃ h', xit (F_X9_writeLeaf_43_b N) (fun _ _ => none) z (nI i) h = some (1, h') ∧ FL LMx h h' ∧ MX (pre ++ (its n l ++ [59])) h' := by
  intro l
  induction l with
  | nil =>
    intro z i pre h h1 h2 h3 h4 h5 t
    cases z with
    | zero => exact absurd h1 (Nat.not_lt_zero _)
    | succ z =>
      rw [List.length_nil, Nat.add_zero] at h3
      obtain ⟨h', e', f', t'⟩ := m_write N (b := 59) t
      refine ⟨h', ?_, f', t'⟩
      show F_X9_writeLeaf_43_b N _ (nI i) h = _
      unfold F_X9_writeLeaf_43_b
      rw [h3, if_pos (Int32.le_refl _), show (59 : Int32) = nI 59 from rfl, e', bnd2_p]
  | cons k l ih =>
    intro z i pre h h1 h2 h3 h4 h5 t
    cases z with
    | zero => exact absurd h1 (Nat.not_lt_zero _)
    | succ z =>
      rw [List.length_cons] at h1 h2 h3
      have hk0 := h4 0 (by simp)
      have hk : gI h 59 i = nI (phi n k) := hk0
      obtain ⟨h3', e3, f3, t3⟩ := m_item N (n := n) (k := k) t hn6 (h5 k (by simp))
      obtain ⟨h', e', f', t'⟩ := ih z (i + 1) (pre ++ itm n k) h3' (by omega) (by omega) (by rw [(f3.1 51 12 rfl).1, h3]; congr 1; omega) (fun j hj => by
        rw [(f3.1 59 _ rfl).1, show i + 1 + j = i + (j + 1) by omega, h4 (j + 1) (by rw [List.length_cons]; omega)]
        rfl) (fun e he => h5 e (by simp [he])) t3
      refine ⟨h', ?_, f3.trans f', ?_⟩
      · show F_X9_writeLeaf_43_b N (xit (F_X9_writeLeaf_43_b N) (fun _ _ => none) z) (nI i) h = _
        rw [← e']
        generalize xit (F_X9_writeLeaf_43_b N) (fun _ _ => none) z = K
        unfold F_X9_writeLeaf_43_b
        rw [h3, if_neg (nI_ge (by omega) (by omega)), grd_t (xin_nI (show i < 20 by omega) (by decide)), nI_cl (by omega), hk, e3, bnd2_p, nI_1]
      · have : pre ++ (its n (k :: l) ++ [59]) = pre ++ itm n k ++ (its n l ++ [59]) := by
          show pre ++ ((itm n k ++ its n l) ++ [59]) = _
          simp
        rw [this]
        exact t'
theorem nat_least (P : Nat → Prop) : ∀ (k n : Nat), P n → n ≤ k → ∃ m, P m ∧ ∀ i, i < m → ¬ P i := by
  intro k
  induction k with
  | zero =>
    intro n hn hk
    exact ⟨n, hn, fun i hi => by omega⟩
  | succ k ih =>
    intro n hn hk
    by_cases h : ∃ i, i < n ∧ P i
    · obtain ⟨i, h1, h2⟩ := h
      exact ih i h2 (by omega)
    · exact ⟨n, hn, fun i hi q => h ⟨i, hi, q⟩⟩
theorem row_of {E : Ed} {ok : Nat → Prop} {t : Nat} : ∀ {j u : Nat} {M : Int}, (∃ s, Wk E ok t j u s ∧ s ≤ M) → ∃ l, RowOf E ok t j u M l := by
  intro j
  induction j with
  | zero => intro u M _; exact ⟨[], rfl⟩
  | succ j ih =>
    rintro u M ⟨s, ⟨e, h1, h2, s', h3, h4⟩, hs⟩
    have g0 : Good E ok t j u M e := ⟨h1, h2, s', h3, by omega⟩
    obtain ⟨m, g1, g2⟩ := nat_least (fun e => Good E ok t j u M e) e e g0 (Nat.le_refl e)
    obtain ⟨a, b, s1, c, d⟩ := id g1
    obtain ⟨l, hl⟩ := ih (u := (E m).2.1) (M := M - (E m).2.2) ⟨s1, c, by omega⟩
    exact ⟨m :: l, m, l, rfl, g1, g2, hl⟩
theorem row_ex {E : Ed} {ok : Nat → Prop} {t u : Nat} {M : Int} (h : ∃ j s, Wk E ok t j u s ∧ s ≤ M) : ∃ J l, Short E ok t J u M ∧ RowOf E ok t J u M l := by
  obtain ⟨j, s, a, b⟩ := h
  obtain ⟨J, h1, h2⟩ := nat_least (fun j => ∃ s, Wk E ok t j u s ∧ s ≤ M) j j ⟨s, a, b⟩ (Nat.le_refl j)
  obtain ⟨l, hl⟩ := row_of h1
  exact ⟨J, l, ⟨h1, fun i hi s hw hs => h2 i hi ⟨s, hw, hs⟩⟩, hl⟩
def LRf : Lc := [(52,60,0),(53,60,0),(54,60,0),(55,0,0),(58,0,0),(59,0,0),(51,12,13)]
/-- what isRefused tells -/
def RFres (n d : Nat) (E A : Ed) (g : Nat → Nat) (h h' : xHp) (q : Int32) : Prop := FL LRf h h' ∧ ((q = 0 ∧ ∀ j s, Wk (exE E n A g) (okn (n + (d - 1))) (dif A g (d - 1)).1 j (dif A g (d - 1)).2.1 s → ¬ s ≤ -1 - (dif A g (d - 1)).2.2) ∨ (q = 1 ∧ ∃ J l, J ≤ 16 ∧ Short (exE E n A g) (okn (n + (d - 1))) (dif A g (d - 1)).1 J (dif A g (d - 1)).2.1 (-1 - (dif A g (d - 1)).2.2) ∧ RowOf (exE E n A g) (okn (n + (d - 1))) (dif A g (d - 1)).1 J (dif A g (d - 1)).2.1 (-1 - (dif A g (d - 1)).2.2) l ∧ gI h' 51 12 = nI J ∧ ∀ k, k < J → gI h' 59 k = nI ((l.map (phi n)).getD k 0)))
theorem m_ref_go (N : Nat) (hN : 300 ≤ N) {n an d : Nat} {E A : Ed} {cs : List Nat} {g : Nat → Nat} (hw : Ewf n E) (hA : Awf an A) (han : an ≤ 10) (hd : 0 < d) (hda : d ≤ an) (hg2 : ∀ k, g k ≤ 2) (po : Epot (n + (d - 1)) (exE E n A g)) : ∀ (z k : Nat) (h : xHp), k ≤ d → d - k < z → Mcon n E h → Mfor an A cs h → (∀ k, k < 10 → gI h 71 k = nI (tm (g k))) → Mdif n k E A g h → ∃ h' q, xit (F_X9_isRefused_12_b N) (fun _ _ _ => none) z (nI d) (nI k) h = some (q, h') ∧ RFres n d E A g h h' q := by
  intro z
  induction z with
  | zero => intro k h _ h2; omega
  | succ z ih =>
    intro k h h1 h2 rc rf hg m
    show ∃ h' q, F_X9_isRefused_12_b N (xit (F_X9_isRefused_12_b N) (fun _ _ _ => none) z) (nI d) (nI k) h = _ ∧ _
    generalize xit (F_X9_isRefused_12_b N) (fun _ _ _ => none) z = K at ih ⊢
    unfold F_X9_isRefused_12_b
    have hn6 := rc.1
    by_cases hk : k = d
    · subst hk
      have e60 : (60 : Int32) + nI k - 1 = nI (60 + (k - 1)) := by rw [show (60 : Int32) = nI 60 from rfl, nI_add, show (1 : Int32) = nI 1 from rfl, pk_sub (by omega)]; congr 1; omega
      have i70' : xin (nI (60 + (k - 1))) 70 = true := xin_nI (by omega) (by decide)
      obtain ⟨m1, m2, m3⟩ := m.2 (k - 1) (by omega)
      obtain ⟨w1, w2, w3, w4⟩ := dif_wf (g := g) hA (show k - 1 < an by omega)
      have f0 : FL [(55,0,0)] h (sI h 55 (60 + (k - 1)) 0) := FL.i h rfl
      have md : Mdif n (k - 1) E A g (sI h 55 (60 + (k - 1)) 0) := by
        refine ⟨fun i hi => ?_, fun j hj => ?_⟩
        · rw [gI_sI, if_pos rfl]
          by_cases q : i = 60 + (k - 1)
          · rw [if_pos q, if_neg (by omega)]
          · rw [if_neg q, m.1 i hi]
            by_cases q2 : i < n ∨ (60 ≤ i ∧ i < 60 + k)
            · rw [if_pos q2, if_pos (by omega)]
            · rw [if_neg q2, if_neg (by omega)]
        · simp +decide only [gI_sI, if_false]
          exact m.2 j (by omega)
      obtain ⟨x1, x2, x3⟩ := md.wf hw hA (show k - 1 ≤ an by omega) han (rc.ag (f0.ag rfl))
      obtain ⟨v, hv⟩ := po
      have hv' : Pot (mxE E A g) (okX n (k - 1)) v := Pot.rel (x_fro hn6) hv
      have fr := m_findRow N hN (lim := (-1) - (gI h 54 (60 + (k - 1))).toInt64) (M := -1 - (dif A g (k - 1)).2.2) x1 x2 x3 w1 w2 (by rw [lim_toInt _ (by omega) (by omega), m3]) (by omega) hv'
      have st : (if nI k ≤ nI k then grd (xin ((60 + nI k) - 1) 70) (bnd (sI h 55 ((60 + nI k) - 1).toNatClampNeg (vp_nar .boolean 0)) fun h1 => grd (xin ((60 + nI k) - 1) 70) (grd (xin ((60 + nI k) - 1) 70) (grd (xin ((60 + nI k) - 1) 70) (bnd2 (F_X9_findRow N (gI h1 53 ((60 + nI k) - 1).toNatClampNeg) (gI h1 52 ((60 + nI k) - 1).toNatClampNeg) ((-1) - ((gI h1 54 ((60 + nI k) - 1).toNatClampNeg).toInt64)) h1) fun r2 h3 => some (vp_nar .boolean r2, h3))))) else bnd2 (F_X9_putDifference N (nI k) h) fun r4 h5 => K (nI k) (nI k + 1) h5) = bnd2 (F_X9_findRow N (nI (dif A g (k - 1)).2.1) (nI (dif A g (k - 1)).1) ((-1) - ((gI h 54 (60 + (k - 1))).toInt64)) (sI h 55 (60 + (k - 1)) 0)) fun r2 h3 => some (vp_nar .boolean r2, h3) := by
        rw [if_pos (Int32.le_refl _), e60, grd_t i70', nI_cl (by omega), bnd_eq, nar0, grd_t i70', grd_t i70', grd_t i70']
        simp +decide only [gI_sI, if_false, m1, m2]
      rw [st]
      rcases fr with ⟨J, l, h', a1, a2, a3, a4, a5, a6, a7⟩ | ⟨a1, h', a2, a3⟩
      · refine ⟨h', 1, by rw [a4, bnd2_p, nar1], FL.cat f0 a5 rfl rfl, Or.inr ⟨rfl, ?_⟩⟩
        have hx : ∃ j s, Wk (exE E n A g) (okn (n + (k - 1))) (dif A g (k - 1)).1 j (dif A g (k - 1)).2.1 s ∧ s ≤ -1 - (dif A g (k - 1)).2.2 := by
          obtain ⟨⟨s, b1, b2⟩, _⟩ := a2
          exact ⟨J, s, Wk.rel (x_fro hn6) b1, b2⟩
        obtain ⟨J', l', s', r'⟩ := row_ex hx
        have h1' : ∀ e, okn (n + (k - 1)) e → okX n (k - 1) (phi n e) ∧ mxE E A g (phi n e) = exE E n A g e := fun e he => phi_ok hn6 he
        have h2' : ∀ e', okX n (k - 1) e' → ∃ e, okn (n + (k - 1)) e ∧ phi n e = e' := fun e' he => by
          obtain ⟨e, b1, b2, _⟩ := psi_ok (E := E) (A := A) (g := g) hn6 he
          exact ⟨e, b1, b2⟩
        have sJ := (Short.rel h1' h2' s').uni a2
        subst sJ
        have ll := (RowOf.rel h1' h2' (fun e e' q => (phi_mono hn6).mp q) r').uni a3
        subst ll
        exact ⟨J', l', a1, s', r', a6, a7⟩
      · exact ⟨h', 0, by rw [a2, bnd2_p, nar0], FL.cat f0 a3 rfl rfl, Or.inl ⟨rfl, fun j s q => a1 j s (Wk.rel (x_to hn6) q)⟩⟩
    · have hk' : k < d := by omega
      obtain ⟨h3, e3, f3, m3⟩ := m_put2 N hA (show k < an by omega) han rf (hg k (by omega)) (hg2 k) m
      obtain ⟨h', q, e', f', r'⟩ := ih (k + 1) h3 (by omega) (by omega) (rc.ag (f3.ag rfl)) (rf.ag (f3.ag rfl)) (fun j hj => by rw [(f3.1 71 j rfl).1]; exact hg j hj) m3
      refine ⟨h', q, ?_, FL.cat f3 f' rfl rfl, r'⟩
      rw [← e', if_neg (nI_ge hk' (by omega)), e3, bnd2_p, nI_1]
theorem m_refused (N : Nat) (hN : 300 ≤ N) {n an d : Nat} {E A : Ed} {cs : List Nat} {g : Nat → Nat} {h : xHp} (hw : Ewf n E) (hA : Awf an A) (han : an ≤ 10) (hd : 0 < d) (hda : d ≤ an) (hg2 : ∀ k, g k ≤ 2) (po : Epot (n + (d - 1)) (exE E n A g)) (rc : Mcon n E h) (rf : Mfor an A cs h) (hg : ∀ k, k < 10 → gI h 71 k = nI (tm (g k))) : ∃ h' q, F_X9_isRefused N (nI d) h = some (q, h') ∧ RFres n d E A g h h' q := by
  have hn6 := rc.1
  obtain ⟨h1, e1, fr1, g1⟩ := p_alone N hN (show n ≤ 70 by omega) rc.2.1
  have f1 := P55_L fr1
  obtain ⟨h', q, e', f', r'⟩ := m_ref_go N hN hw hA han hd hda hg2 po N 0 h1 (by omega) (by omega) (rc.ag (f1.ag rfl)) (rf.ag (f1.ag rfl)) (fun k hk => by rw [(f1.1 71 k rfl).1]; exact hg k hk) ⟨fun i hi => by
    rw [g1 i hi]
    by_cases q : i < n
    · rw [if_pos q, if_pos (Or.inl q)]
    · rw [if_neg q, if_neg (by omega)], fun k hk => by omega⟩
  refine ⟨h', q, ?_, FL.cat f1 f' rfl rfl, r'⟩
  unfold F_X9_isRefused F_X9_isRefused_12
  rw [if_neg (nI_ne0 hd (by omega)), e1, bnd2_p]
  exact e'
def LLf : Lc := LRf ++ [(72,0,0),(51,43,44),(73,0,0)]
/-- a leaf is written, or there is none -/
theorem m_leaf (N : Nat) (hN : 300 ≤ N) {n an d : Nat} {E A : Ed} {cs : List Nat} {g : Nat → Nat} {h : xHp} {pre : List Nat} (pf : PF n E an A cs) (hda : d ≤ an) (hg2 : ∀ k, g k ≤ 2) (po : Epot (n + (d - 1)) (exE E n A g)) (rc : Mcon n E h) (rf : Mfor an A cs h) (hg : ∀ k, k < 10 → gI h 71 k = nI (tm (g k))) (t : MX pre h) : ∃ h', FL LLf h h' ∧ ((∃ o, leafO n E A cs d g = some o ∧ F_X9_writeLeaf N (nI d) h = some (1, h') ∧ MX (pre ++ o) h' ∧ 0 < o.length) ∨ (leafO n E A cs d g = none ∧ jd g cs ≠ 0 ∧ (0 < d → ∀ j s, Wk (exE E n A g) (okn (n + (d - 1))) (dif A g (d - 1)).1 j (dif A g (d - 1)).2.1 s → ¬ s ≤ -1 - (dif A g (d - 1)).2.2) ∧ F_X9_writeLeaf N (nI d) h = some (0, h') ∧ MX pre h')) := by
  obtain ⟨hw, hn6, hA, hf, _⟩ := pf
  have han := hf.1
  obtain ⟨hj, ej, fj⟩ := m_judge N hN hf rf (fun k hk => hg k (by omega)) (fun k _ => hg2 k)
  have j2 : jd g cs ≤ 2 := (jd_mono hf (fun k _ => hg2 k) (fun k _ => hg2 k) (fun k _ => Or.inr rfl)).2
  have tj := t.ag (fj.ag rfl)
  unfold F_X9_writeLeaf
  rw [ej, bnd2_p]
  by_cases q0 : jd g cs = 0
  · obtain ⟨h3, e3, f3, t3⟩ := m_write N (b := 46) tj
    refine ⟨h3, FL.cat fj f3 rfl rfl, Or.inl ⟨[46], by unfold leafO; rw [if_pos q0], ?_, t3, by decide⟩⟩
    rw [if_pos (by rw [q0]; rfl), show (46 : Int32) = nI 46 from rfl, e3, bnd2_p]
  · have tn : ¬ nI (tm (jd g cs)) = 0 := by
      rcases le2 j2 with q | q | q
      · exact absurd q q0
      · rw [q]; decide
      · rw [q]; decide
    rw [if_neg tn]
    by_cases qd : d = 0
    · subst qd
      refine ⟨hj, FL.sub fj rfl, Or.inr ⟨by unfold leafO; rw [if_neg q0, if_pos rfl], q0, fun h => by omega, ?_, tj⟩⟩
      unfold F_X9_isRefused
      rw [if_pos (by decide), bnd2_p, if_pos rfl]
    · obtain ⟨h3, q, e3, f3, r3⟩ := m_refused N hN hw hA han (show 0 < d by omega) hda hg2 po (rc.ag (fj.ag rfl)) (rf.ag (fj.ag rfl)) (fun k hk => by rw [(fj.1 71 k rfl).1]; exact hg k hk)
      rw [e3, bnd2_p]
      rcases r3 with ⟨rfl, r3⟩ | ⟨rfl, J, l, b1, b2, b3, b4, b5⟩
      · refine ⟨h3, FL.cat fj f3 rfl rfl, Or.inr ⟨?_, q0, fun _ => r3, by rw [if_pos rfl], tj.ag (f3.ag rfl)⟩⟩
        unfold leafO
        rw [if_neg q0, if_neg qd, rowO_none r3]
        rfl
      · have hlen := b3.len
        have t3 := tj.ag (f3.ag rfl)
        obtain ⟨a1, e1, f1, t1⟩ := m_write N (b := 33) t3
        have ep : itm n (n + (d - 1)) = [48 + (d - 1)] := by unfold itm; rw [if_neg (by omega), Nat.add_sub_cancel_left]
        have pp : phi n (n + (d - 1)) = 60 + (d - 1) := by unfold phi; rw [if_neg (by omega), Nat.add_sub_cancel_left]
        obtain ⟨a2, e2, f2, t2⟩ := m_item N (n := n) (k := n + (d - 1)) t1 hn6 (by omega)
        rw [ep] at t2
        rw [pp] at e2
        have f12 : FL LMx h3 a2 := f1.trans f2
        obtain ⟨a3, e4, f4, t4⟩ := m_round_go N hn6 l N 0 (pre ++ [33] ++ [48 + (d - 1)]) a2 (by omega) (by omega) (by rw [(f12.1 51 12 rfl).1, b4, Nat.zero_add, hlen]) (fun k hk => by rw [(f12.1 59 _ rfl).1, Nat.zero_add]; exact b5 k (by omega)) (fun e he => by have : e < n + (d - 1) := b3.ok e he; omega) t2
        refine ⟨a3, FL.cat fj (FL.cat f3 (f12.trans f4) rfl rfl : FL LLf _ _) rfl rfl, Or.inl ⟨[33, 48 + (d - 1)] ++ (its n l ++ [59]), ?_, ?_, ?_, by simp⟩⟩
        · unfold leafO
          rw [if_neg q0, if_neg qd, rowO_some b2 b3]
          rfl
        · have e60 : (60 : Int32) + nI d - 1 = nI (60 + (d - 1)) := by rw [show (60 : Int32) = nI 60 from rfl, nI_add, show (1 : Int32) = nI 1 from rfl, pk_sub (by omega)]; congr 1; omega
          unfold F_X9_writeLeaf_43
          rw [if_neg (by decide), show (33 : Int32) = nI 33 from rfl, e1, bnd2_p, e60, e2, bnd2_p]
          exact e4
        · have e : pre ++ ([33, 48 + (d - 1)] ++ (its n l ++ [59])) = pre ++ [33] ++ [48 + (d - 1)] ++ (its n l ++ [59]) := by simp
          rw [e]
          exact t4
