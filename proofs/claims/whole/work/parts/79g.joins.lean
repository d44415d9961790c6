/-! ROWS OF TRUTHS: the differences that they give -/
def gr (an ρ : Nat) : Nat → Nat := fun k => if ρ / 2 ^ (an - 1 - k) % 2 = 1 then 2 else 0
def dif (A : Ed) (g : Nat → Nat) (k : Nat) : Nat × Nat × Int := if g k = 2 then A k else ((A k).2.1, (A k).1, -(A k).2.2 - 1)
def exE (E : Ed) (n : Nat) (A : Ed) (g : Nat → Nat) : Ed := fun e => if e < n then E e else dif A g (e - n)
def Awf (an : Nat) (A : Ed) : Prop := ∀ k, k < an → (A k).1 < 16 ∧ (A k).2.1 < 16 ∧ -1000001 ≤ (A k).2.2 ∧ (A k).2.2 ≤ 1000000
theorem dif_wf {an k : Nat} {A : Ed} {g : Nat → Nat} (hA : Awf an A) (hk : k < an) : (dif A g k).1 < 16 ∧ (dif A g k).2.1 < 16 ∧ -1000001 ≤ (dif A g k).2.2 ∧ (dif A g k).2.2 ≤ 1000001 := by
  obtain ⟨a1, a2, a3, a4⟩ := hA k hk
  unfold dif
  by_cases q : g k = 2
  · rw [if_pos q]; exact ⟨a1, a2, by omega, by omega⟩
  · rw [if_neg q]; exact ⟨a2, a1, by show _ ≤ -(A k).2.2 - 1; omega, by show -(A k).2.2 - 1 ≤ _; omega⟩
theorem dif_congr {A : Ed} {g g' : Nat → Nat} {k : Nat} (h : g k = g' k) : dif A g k = dif A g' k := by unfold dif; rw [h]
theorem exE_lt {E A : Ed} {n e : Nat} {g : Nat → Nat} (h : e < n) : exE E n A g e = E e := if_pos h
theorem exE_ge {E A : Ed} {n k : Nat} {g : Nat → Nat} : exE E n A g (n + k) = dif A g k := by unfold exE; rw [if_neg (by omega), Nat.add_sub_cancel_left]
theorem exE_congr {E A : Ed} {n d : Nat} {g g' : Nat → Nat} (h : ∀ k, k < d → g k = g' k) {e : Nat} (he : e < n + d) : exE E n A g e = exE E n A g' e := by
  unfold exE
  by_cases q : e < n
  · rw [if_pos q, if_pos q]
  · rw [if_neg q, if_neg q]
    exact dif_congr (h _ (by omega))
theorem exE_up {E A : Ed} {n d : Nat} {g g' : Nat → Nat} (h : ∀ k, k < d → g k = g' k) {e : Nat} (he : e < n + d + 1) : upE (exE E n A g) (n + d) (dif A g' d) e = exE E n A g' e := by
  by_cases q : e = n + d
  · subst q
    rw [upE_eq, exE_ge]
  · rw [upE_ne q]
    exact exE_congr h (by omega)
theorem Ccon.congr {n : Nat} {E E' : Ed} {h : xHp} (r : Ccon n E h) (he : ∀ k, k < n → E k = E' k) : Ccon n E' h := ⟨r.1, fun k hk => by rw [← he k hk]; exact r.2 k hk⟩
theorem Epot.congr {n : Nat} {E E' : Ed} (r : Epot n E) (he : ∀ k, k < n → E k = E' k) : Epot n E' := by
  obtain ⟨v, hv⟩ := r
  exact ⟨v, fun e h => by rw [← he e h]; exact hv e h⟩
theorem Ewf.ex {n an d : Nat} {E A : Ed} {g : Nat → Nat} (hw : Ewf n E) (hA : Awf an A) (hd : d ≤ an) (hn : n + d ≤ 70) : Ewf (n + d) (exE E n A g) := by
  refine ⟨hn, fun k hk => ?_⟩
  by_cases q : k < n
  · rw [exE_lt q]; exact hw.2 k q
  · rw [show k = n + (k - n) by omega, exE_ge]
    exact dif_wf hA (by omega)
theorem neg_toInt {c : Int32} (h1 : -1000001 ≤ c.toInt) (h2 : c.toInt ≤ 1000001) : (-c - 1).toInt = -c.toInt - 1 := by
  have e1 : (-c).toInt = -c.toInt := by
    rw [Int32.toInt_neg]
    exact Int.bmod_eq_of_le (by omega) (by omega)
  rw [Int32.toInt_sub, e1, show ((1 : Int32)).toInt = 1 by decide]
  exact Int.bmod_eq_of_le (by omega) (by omega)
theorem c_dif (N : Nat) {h : xHp} {an d : Nat} {A : Ed} {cs : List Nat} {g : Nat → Nat} (rf : Cfor an A cs h) (hA : Awf an A) (han : an ≤ 10) (hd : d < an) (hg : gI h 34 d = nI (g d)) (hgd : g d ≤ 2) : F_X1_fromOf_30 N (nI d) h = some (nI (dif A g d).1, h) ∧ F_X1_toOf_30 N (nI d) h = some (nI (dif A g d).2.1, h) ∧ ∃ c : Int32, c.toInt = (dif A g d).2.2 ∧ F_X1_mostOf_30 N (nI d) h = some (c, h) := by
  obtain ⟨r1, r2, r3⟩ := rf.2.1 d hd
  obtain ⟨a1, a2, a3, a4⟩ := hA d hd
  have e2 : (nI (g d) = 2) ↔ g d = 2 := by rw [show (2 : Int32) = nI 2 from rfl, nI_eq (by omega) (by omega)]
  unfold F_X1_fromOf_30 F_X1_toOf_30 F_X1_mostOf_30 dif
  simp only [grd_t (xin_nI (show d < 10 by omega) (by decide)), nI_cl (show d < 2 ^ 31 by omega), hg, e2, r1, r2]
  by_cases q : g d = 2
  · simp only [if_pos q]
    exact ⟨trivial, trivial, _, r3, rfl⟩
  · simp only [if_neg q]
    refine ⟨trivial, trivial, _, ?_, rfl⟩
    rw [neg_toInt (by omega) (by omega), r3]
theorem c_joins (N : Nat) (hN : 300 ≤ N) {h : xHp} {m an d : Nat} {Ex A : Ed} {cs : List Nat} {g : Nat → Nat} (hw : Ewf m Ex) (hp : Epot m Ex) (rc : Ccon m Ex h) (hm : m < 70) (rf : Cfor an A cs h) (hA : Awf an A) (han : an ≤ 10) (hd : d < an) (hg : gI h 34 d = nI (g d)) (hgd : g d ≤ 2) : (∃ J l h', J ≤ 15 ∧ Short Ex (okn m) (dif A g d).1 J (dif A g d).2.1 (-1 - (dif A g d).2.2) ∧ RowOf Ex (okn m) (dif A g d).1 J (dif A g d).2.1 (-1 - (dif A g d).2.2) l ∧ F_X1_joins_30_1 N (nI d) h = some (0, h') ∧ FL LN h h' ∧ gI h' 1 5 = nI J ∧ ∀ k, k < J → gI h' 5 k = nI (l.getD k 0)) ∨ ((∀ j s, Wk Ex (okn m) (dif A g d).1 j (dif A g d).2.1 s → ¬ s ≤ -1 - (dif A g d).2.2) ∧ ∃ h', F_X1_joins_30_1 N (nI d) h = some (1, h') ∧ FL (LN ++ LApp) h h' ∧ Ccon (m + 1) (upE Ex m (dif A g d)) h') := by
  obtain ⟨w1, w2, w3, w4⟩ := dif_wf (g := g) hA hd
  obtain ⟨c1, c2, c, c3, c4⟩ := c_dif N rf hA han hd hg hgd
  unfold F_X1_joins_30_1
  rw [c1, bnd2_p, c2, bnd2_p, c4, bnd2_p]
  rcases c_refuses N hN (c := c) hw hp rc w1 w2 (by omega) (by omega) with ⟨J, l, h', a1, a2, a3, a4, a5, a6, a7⟩ | ⟨a1, h', a2, a3⟩
  · rw [c3] at a2 a3
    refine Or.inl ⟨J, l, h', a1, a2, a3, ?_, a5, a6, a7⟩
    rw [a4, bnd2_p, if_neg (by decide)]
  · rw [c3] at a1
    obtain ⟨d1, d2, d, d3, d4⟩ := c_dif N (rf.ag (a3.ag rfl)) hA han hd ((a3.ag (D := [(34,0,0)]) rfl 34 d rfl).trans hg) hgd
    obtain ⟨h2, e2, f2, g2⟩ := c_append (x := (dif A g _).1) (y := (dif A g _).2.1) (c := d) N hm (rc.ag (a3.ag rfl))
    rw [d3] at g2
    refine Or.inr ⟨a1, h2, ?_, FL.cat a3 f2 rfl rfl, g2⟩
    rw [a2, bnd2_p, if_pos rfl, d1, bnd2_p, d2, bnd2_p, d4, bnd2_p, e2, bnd2_p]
/-- a round below 0: no potential -/
theorem Epot.none {n x y J : Nat} {E : Ed} {c : Int} (hs : Short E (okn n) x J y (-1 - c)) : ¬ Epot (n + 1) (upE E n (x, y, c)) := by
  rintro ⟨v, hv⟩
  obtain ⟨⟨s, hw, hle⟩, _⟩ := hs
  have h1 := hv n (by show n < n + 1; omega)
  rw [upE_eq] at h1
  have hv' : Pot E (okn n) v := fun e he => by
    have he' : e < n := he
    have := hv e (by show e < n + 1; omega)
    rw [upE_ne (by omega)] at this
    exact this
  have h2 := Wk.pot hv' hw
  have h1' : v x ≤ v y + c := h1
  omega
theorem c_cutTo (N : Nat) {h : xHp} {n m : Nat} {E : Ed} (rc : Ccon m E h) (hn : n ≤ m) (hm : m ≤ 70) : ∃ h', F_X2_cutTo N (nI n) h = some ((), h') ∧ FL [(1,3,4)] h h' ∧ Ccon n E h' := by
  unfold F_X2_cutTo
  rw [if_neg (nI_pos (by omega)), rc.1]
  by_cases q : n = m
  · subst q
    rw [if_pos (Int32.le_refl _)]
    exact ⟨h, rfl, Fr.rf, rc⟩
  · rw [if_neg (nI_ge (by omega) (by omega)), bnd_eq]
    refine ⟨_, rfl, FL.i h rfl, ?_, fun k hk => ?_⟩
    · rw [gI_sI, if_pos rfl, if_pos rfl]
    · simp +decide only [gI_sI, if_false]
      exact rc.2 k (by omega)
