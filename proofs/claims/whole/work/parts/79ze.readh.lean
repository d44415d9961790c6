/-! READ: the reference's tokens -/
theorem m_byte (N : Nat) {tn p : Nat} {tb : Nat → Nat} {h : xHp} (hT : Twf 400 tn tb) (c : Mtap tn tb h) (hp : p < 2 ^ 31) : F_X9_byteAt N (nI p) h = some (nI (btx tn tb p), h) := by
  have hn := hT.1
  unfold F_X9_byteAt btx
  rw [c.1]
  by_cases q : p < tn
  · rw [if_neg (nI_ge q (by omega)), grd_t (xin_nI (by omega) (by decide)), nI_cl hp, c.2 p q, if_pos q]
  · rw [if_pos (nI_le (by omega) hp), if_neg q]; rfl
def sg (k : Nat) : Nat := if k = 256 then 160 else if k = 257 then 162 else if k = 258 then 245 else k
def tkc (k : Nat) : Nat := if k = 261 then 0 else if k = 259 then 1 else if k = 260 then 2 else 3
def tkv (T : Nat × Nat × Nat) : Nat := if T.1 = 259 ∨ T.1 = 260 then T.2.1 else sg T.1
def LNx : Lc := [(51,16,23)]
/-- no fault yet, or this one at the token -/
theorem m_fail0 (N : Nat) {c : Int32} {h : xHp} (h0 : gI h 51 21 = 0) : F_X9_fail N c h = some ((), sI (sI h 51 21 c) 51 22 (gI h 51 18)) := by
  unfold F_X9_fail F_X9_fail_26
  rw [if_pos h0, bnd_eq, bnd_eq]
  simp +decide only [gI_sI, if_false, if_true]
theorem m_skip (N : Nat) {tn : Nat} {tb : Nat → Nat} (hT : Twf 400 tn tb) {h : xHp} (c : Mtap tn tb h) : ∀ (z f p : Nat), tn < z + p → tn < f + p → p ≤ tn → ∃ K, xit (F_X9_next_20_b N) (fun _ _ => none) z (nI p) h = F_X9_next_20_b N K (nI (skp (btx tn tb) f p)) h ∧ btx tn tb (skp (btx tn tb) f p) ≠ 32 := by
  have hn := hT.1
  intro z
  induction z with
  | zero => intro f p h1 h2 h3; omega
  | succ z ih =>
    intro f p h1 h2 h3
    obtain ⟨f, rfl⟩ : ∃ f', f = f' + 1 := ⟨f - 1, by omega⟩
    show ∃ K, F_X9_next_20_b N (xit (F_X9_next_20_b N) (fun _ _ => none) z) (nI p) h = _ ∧ _
    unfold skp
    by_cases q : btx tn tb p = 32
    · have hlt := btx_lt (tn := tn) (tb := tb) (p := p) (by omega)
      obtain ⟨K, e, n⟩ := ih f (p + 1) (by omega) (by omega) (by omega)
      rw [if_pos q]
      refine ⟨K, ?_, n⟩
      rw [← e]
      generalize xit (F_X9_next_20_b N) (fun _ _ => none) z = K'
      unfold F_X9_next_20_b
      rw [m_byte N hT c (by omega), bnd2_p, if_pos (by rw [q]; rfl), nI_1]
    · rw [if_neg q]
      exact ⟨_, rfl, q⟩
theorem m_digits (N : Nat) {tn s : Nat} {tb : Nat → Nat} (hT : Twf 400 tn tb) : ∀ (z f q v : Nat) (h : xHp), tn < z + q → tn < f + q → s ≤ q → q ≤ tn → Mtap tn tb h → gI h 51 18 = nI s → gI h 51 17 = nI v → gI h 51 21 = 0 → v < 10000000 → (q - s < 7 → v < 10 ^ (q - s)) → ∃ h', xit (F_X9_next_156_b N) (fun _ _ => none) z (nI q) h = some ((), h') ∧ FL [(51,17,18),(51,19,20),(51,21,23)] h h' ∧ gI h' 51 17 = nI (dgs (btx tn tb) s f q v).2 ∧ gI h' 51 19 = nI (dgs (btx tn tb) s f q v).1 ∧ ((7 < (dgs (btx tn tb) s f q v).1 - s ∨ 1000000 < (dgs (btx tn tb) s f q v).2) → gI h' 51 21 = 1 ∧ gI h' 51 22 = nI s) ∧ (¬ (7 < (dgs (btx tn tb) s f q v).1 - s ∨ 1000000 < (dgs (btx tn tb) s f q v).2) → gI h' 51 21 = 0) := by
  have hn := hT.1
  intro z
  induction z with
  | zero => intro f q v h h1 h2 h3 h4; omega
  | succ z ih =>
    intro f q v h h1 h2 h3 h4 c hs hv h0 hb hj
    obtain ⟨f, rfl⟩ : ∃ f', f = f' + 1 := ⟨f - 1, by omega⟩
    show ∃ h', F_X9_next_156_b N (xit (F_X9_next_156_b N) (fun _ _ => none) z) (nI q) h = _ ∧ _
    generalize xit (F_X9_next_156_b N) (fun _ _ => none) z = K at ih ⊢
    have hT6 : Twf 6000 tn tb := hT.mono (by decide)
    have bb := btx_b (p := q) hT6
    unfold F_X9_next_156_b F_X9_next_203 F_X9_next_237 dgs
    rw [m_byte N hT c (by omega), bnd2_p, m_isFig N bb, bnd2_p]
    by_cases q1 : 48 ≤ btx tn tb q ∧ btx tn tb q ≤ 57
    · have hlt := btx_lt (tn := tn) (tb := tb) (p := q) (by omega)
      have ebt : tb q = btx tn tb q := by unfold btx; rw [if_pos hlt]
      rw [if_pos q1, if_neg (by decide), if_pos q1, hs, pk_sub h3, hv, show (7 : Int32) = nI 7 from rfl]
      by_cases q7 : q - s < 7
      · have ev : (10 : Int32) * nI v + nI (tb q) - 48 = nI (10 * v + (btx tn tb q - 48)) := by rw [ebt, show (10 : Int32) = nI 10 from rfl, pk_mul, nI_add, show (48 : Int32) = nI 48 from rfl, pk_sub (by omega), show 10 * v + btx tn tb q - 48 = 10 * v + (btx tn tb q - 48) by omega]
        have hv' := hj q7
        have e : q + 1 - s = (q - s) + 1 := by omega
        have pw : 10 * v + (btx tn tb q - 48) < 10 ^ (q + 1 - s) := by rw [e, Nat.pow_succ]; omega
        have p7 : 10 ^ (q + 1 - s) ≤ 10 ^ 7 := Nat.pow_le_pow_right (by decide) (by omega)
        rw [if_neg (nI_ge q7 (by decide)), if_pos q7, grd_t (xin_nI (by omega) (by decide)), nI_cl (by omega), c.2 q hlt, ev, bnd_eq, nI_1]
        have f1 : FL [(51,17,18),(51,19,20),(51,21,23)] h (sI h 51 17 (nI (10 * v + (btx tn tb q - 48)))) := FL.i h rfl
        obtain ⟨h', e', f', g'⟩ := ih f (q + 1) (10 * v + (btx tn tb q - 48)) _ (by omega) (by omega) (by omega) (by omega) (c.ag (f1.ag rfl)) (by rw [(FL.i h rfl : FL [(51,17,18)] h _).1 51 18 rfl |>.1]; exact hs) (by rw [gI_sI, if_pos rfl, if_pos rfl]) (by rw [(FL.i h rfl : FL [(51,17,18)] h _).1 51 21 rfl |>.1]; exact h0) (Nat.lt_of_lt_of_le pw p7) (fun _ => pw)
        exact ⟨h', e', f1.trans f', g'⟩
      · rw [if_pos (nI_le (by omega) (by omega)), if_neg q7, bnd_eq, nI_1]
        have f1 : FL [(51,17,18),(51,19,20),(51,21,23)] h (sI h 51 17 (nI v)) := FL.i h rfl
        obtain ⟨h', e', f', g'⟩ := ih f (q + 1) v _ (by omega) (by omega) (by omega) (by omega) (c.ag (f1.ag rfl)) (by rw [(FL.i h rfl : FL [(51,17,18)] h _).1 51 18 rfl |>.1]; exact hs) (by rw [gI_sI, if_pos rfl, if_pos rfl]) (by rw [(FL.i h rfl : FL [(51,17,18)] h _).1 51 21 rfl |>.1]; exact h0) hb (fun z => by omega)
        exact ⟨h', e', f1.trans f', g'⟩
    · have f1 : FL [(51,17,18),(51,19,20),(51,21,23)] h (sI h 51 19 (nI q)) := FL.i h rfl
      have a17 : gI (sI h 51 19 (nI q)) 51 17 = nI v := by simp +decide only [gI_sI, if_false, if_true]; exact hv
      have a18 : gI (sI h 51 19 (nI q)) 51 18 = nI s := by simp +decide only [gI_sI, if_false, if_true]; exact hs
      have a19 : gI (sI h 51 19 (nI q)) 51 19 = nI q := by simp +decide only [gI_sI, if_false, if_true]
      have a21 : gI (sI h 51 19 (nI q)) 51 21 = 0 := by simp +decide only [gI_sI, if_false, if_true]; exact h0
      rw [if_neg q1, if_pos rfl, if_neg q1, bnd_eq, a17, a18, pk_sub h3, m_fail0 N a21, bnd2_p, a18, show (1000000 : Int32) = nI 1000000 from rfl, show (7 : Int32) = nI 7 from rfl]
      have bad : (7 < q - s ∨ 1000000 < v) → ∃ h', some ((), sI (sI (sI h 51 19 (nI q)) 51 21 1) 51 22 (nI s)) = some ((), h') ∧ FL [(51,17,18),(51,19,20),(51,21,23)] h h' ∧ gI h' 51 17 = nI ((q, v) : Nat × Nat).2 ∧ gI h' 51 19 = nI ((q, v) : Nat × Nat).1 ∧ ((7 < ((q, v) : Nat × Nat).1 - s ∨ 1000000 < ((q, v) : Nat × Nat).2) → gI h' 51 21 = 1 ∧ gI h' 51 22 = nI s) ∧ (¬ (7 < ((q, v) : Nat × Nat).1 - s ∨ 1000000 < ((q, v) : Nat × Nat).2) → gI h' 51 21 = 0) := fun qb => ⟨_, rfl, f1.trans ((FL.i _ rfl).trans (FL.i _ rfl)), by simp +decide only [gI_sI, if_false, if_true]; exact hv, by simp +decide only [gI_sI, if_false, if_true], fun _ => by simp +decide only [gI_sI, if_false, if_true], fun z => absurd qb z⟩
      by_cases q3 : 1000000 < v
      · rw [if_pos (nI_lt q3 (by omega))]
        exact bad (Or.inr q3)
      · rw [if_neg (nI_nlt (by omega) (by decide))]
        by_cases q2 : 7 < q - s
        · rw [if_neg (nI_ge q2 (by omega))]
          exact bad (Or.inl q2)
        · rw [if_pos (nI_le (by omega) (by decide))]
          exact ⟨_, rfl, f1, a17, a19, fun z => absurd z (by show ¬ (7 < q - s ∨ 1000000 < v); omega), fun _ => a21⟩
/-- the current token -/
def TK (tn : Nat) (tb : Nat → Nat) (t p : Nat) (h : xHp) : Prop := gI h 51 18 = nI (skp (btx tn tb) (tn + 1) p) ∧ gI h 51 19 = nI (tok (btx tn tb) tn (skp (btx tn tb) (tn + 1) p)).2.2 ∧ gI h 51 20 = nI (if (tok (btx tn tb) tn (skp (btx tn tb) (tn + 1) p)).1 = 261 then t else t + 1) ∧ (tok (btx tn tb) tn (skp (btx tn tb) (tn + 1) p)).1 ≠ 262 ∧ gI h 51 16 = nI (tkc (tok (btx tn tb) tn (skp (btx tn tb) (tn + 1) p)).1) ∧ ((tok (btx tn tb) tn (skp (btx tn tb) (tn + 1) p)).1 ≠ 261 → gI h 51 17 = nI (tkv (tok (btx tn tb) tn (skp (btx tn tb) (tn + 1) p)))) ∧ gI h 51 21 = 0
def BadTok (tn : Nat) (tb : Nat → Nat) (p : Nat) (h : xHp) : Prop := (tok (btx tn tb) tn (skp (btx tn tb) (tn + 1) p)).1 = 262 ∧ gI h 51 21 = 1 ∧ gI h 51 22 = nI (skp (btx tn tb) (tn + 1) p)
theorem m_next5 (N : Nat) {t : Nat} {h : xHp} (ht : 100 < t) (h2 : t < 2 ^ 31) (h20 : gI h 51 20 = nI t) (h0 : gI h 51 21 = 0) : F_X9_next N h = some ((), sI (sI h 51 21 5) 51 22 (gI h 51 18)) := by
  unfold F_X9_next
  rw [h20, show (100 : Int32) = nI 100 from rfl, if_neg (nI_ge ht (by omega)), m_fail0 N h0, bnd2_p]
theorem m_next (N : Nat) (hN : 7000 ≤ N) {tn t p : Nat} {tb : Nat → Nat} {h : xHp} (hT : Twf 400 tn tb) (c : Mtap tn tb h) (hp : p ≤ tn) (hpl : gI h 51 19 = nI p) (h20 : gI h 51 20 = nI t) (ht : t ≤ 100) (h0 : gI h 51 21 = 0) : ∃ h', F_X9_next N h = some ((), h') ∧ FL LNx h h' ∧ (TK tn tb t p h' ∨ BadTok tn tb p h') := by
  have hn := hT.1
  have hT6 : Twf 6000 tn tb := hT.mono (by decide)
  obtain ⟨K, e1, n32⟩ := m_skip N hT c N (tn + 1) p (by omega) (by omega) hp
  have sb := (skp_b (bt := btx tn tb) (tn := tn) btx_n0 (tn + 1) p).2 hp
  unfold F_X9_next F_X9_next_20 TK BadTok
  rw [h20, hpl, show (100 : Int32) = nI 100 from rfl, if_pos (nI_le ht (by decide)), e1]
  generalize skp (btx tn tb) (tn + 1) p = s at sb n32 ⊢
  have bb := btx_b (p := s) hT6
  unfold F_X9_next_20_b
  rw [m_byte N hT c (by omega), bnd2_p, if_neg (by rw [show (32 : Int32) = nI 32 from rfl, eqc bb (by decide)]; exact n32), nI_1]
  simp only [bnd_eq]
  have f0 : FL LNx h (sI (sI (sI (sI h 51 18 (nI s)) 51 19 (nI (s + 1))) 51 16 0) 51 17 0) := ((FL.i h rfl).trans (FL.i _ rfl)).trans ((FL.i _ rfl).trans (FL.i _ rfl))
  have v15 : gI (sI (sI (sI (sI h 51 18 (nI s)) 51 19 (nI (s + 1))) 51 16 0) 51 17 0) 51 15 = nI tn := by simp +decide only [gI_sI, if_false]; exact c.1
  have v18 : gI (sI (sI (sI (sI h 51 18 (nI s)) 51 19 (nI (s + 1))) 51 16 0) 51 17 0) 51 18 = nI s := by simp +decide only [gI_sI, if_false, if_true]
  have v19 : gI (sI (sI (sI (sI h 51 18 (nI s)) 51 19 (nI (s + 1))) 51 16 0) 51 17 0) 51 19 = nI (s + 1) := by simp +decide only [gI_sI, if_false, if_true]
  have v16 : gI (sI (sI (sI (sI h 51 18 (nI s)) 51 19 (nI (s + 1))) 51 16 0) 51 17 0) 51 16 = 0 := by simp +decide only [gI_sI, if_false, if_true]
  have v17 : gI (sI (sI (sI (sI h 51 18 (nI s)) 51 19 (nI (s + 1))) 51 16 0) 51 17 0) 51 17 = 0 := by simp +decide only [gI_sI, if_false, if_true]
  have v20 : gI (sI (sI (sI (sI h 51 18 (nI s)) 51 19 (nI (s + 1))) 51 16 0) 51 17 0) 51 20 = nI t := by simp +decide only [gI_sI, if_false]; exact h20
  have v21 : gI (sI (sI (sI (sI h 51 18 (nI s)) 51 19 (nI (s + 1))) 51 16 0) 51 17 0) 51 21 = 0 := by simp +decide only [gI_sI, if_false]; exact h0
  generalize sI (sI (sI (sI h 51 18 (nI s)) 51 19 (nI (s + 1))) 51 16 0) 51 17 0 = h6 at f0 v15 v16 v17 v18 v19 v20 v21 ⊢
  have c6 := c.ag (f0.ag rfl)
  rw [v15, v20, nI_1]
  by_cases q0 : tn ≤ s
  · have es : s = tn := by omega
    rw [if_neg (nI_nlt q0 (by omega))]
    have f8 : FL LNx h6 (sI (sI h6 51 18 (nI tn)) 51 19 (gI (sI h6 51 18 (nI tn)) 51 15)) := (FL.i _ rfl).trans (FL.i _ rfl)
    have tk : tok (btx tn tb) tn s = (261, 0, s) := by unfold tok; rw [if_pos q0]
    have v15' : gI (sI h6 51 18 (nI tn)) 51 15 = nI tn := by simp +decide only [gI_sI, if_false]; exact v15
    refine ⟨_, rfl, f0.trans f8, Or.inl ?_⟩
    rw [tk, v15']
    refine ⟨?_, ?_, ?_, (show (261 : Nat) ≠ 262 by decide), ?_, fun z => absurd rfl z, ?_⟩
    · rw [es]; simp +decide only [gI_sI, if_false, if_true]
    · rw [es]; simp +decide only [gI_sI, if_false, if_true]
    · simp +decide only [gI_sI, if_false, if_true]; exact v20
    · simp +decide only [gI_sI, if_false, if_true]; exact v16
    · simp +decide only [gI_sI, if_false, if_true]; exact v21
  · have hs : s < tn := by omega
    have ebt : tb s = btx tn tb s := by unfold btx; rw [if_pos hs]
    have f7 : FL LNx h6 (sI h6 51 20 (nI (t + 1))) := FL.i h6 rfl
    have c7 := c6.ag (f7.ag rfl)
    have w18 : gI (sI h6 51 20 (nI (t + 1))) 51 18 = nI s := by simp +decide only [gI_sI, if_false, if_true]; exact v18
    have w19 : gI (sI h6 51 20 (nI (t + 1))) 51 19 = nI (s + 1) := by simp +decide only [gI_sI, if_false, if_true]; exact v19
    have w17 : gI (sI h6 51 20 (nI (t + 1))) 51 17 = 0 := by simp +decide only [gI_sI, if_false, if_true]; exact v17
    have w20 : gI (sI h6 51 20 (nI (t + 1))) 51 20 = nI (t + 1) := by simp +decide only [gI_sI, if_false, if_true]
    have w21 : gI (sI h6 51 20 (nI (t + 1))) 51 21 = 0 := by simp +decide only [gI_sI, if_false, if_true]; exact v21
    have f07 := f0.trans f7
    rw [if_pos (nI_lt hs (by omega)), grd_t (xin_nI (show s < 400 by omega) (by decide)), nI_cl (show s < 2 ^ 31 by omega), c7.2 s hs, ebt]
    generalize sI h6 51 20 (nI (t + 1)) = h7 at c7 w17 w18 w19 w20 w21 f07 ⊢
    have e97 : (nI (btx tn tb s) < 97) ↔ btx tn tb s < 97 := by rw [show (97 : Int32) = nI 97 from rfl, nI_ltI (by omega) (by omega)]
    have e111 : (nI (btx tn tb s) ≤ 111) ↔ btx tn tb s ≤ 111 := by rw [show (111 : Int32) = nI 111 from rfl, nI_leI (by omega) (by omega)]
    have e122 : (nI (btx tn tb s) = 122) ↔ btx tn tb s = 122 := by rw [show (122 : Int32) = nI 122 from rfl, eqc bb (by decide)]
    have isv : (if nI (btx tn tb s) < 97 then F_X9_next_112 N (nI s) (nI (btx tn tb s)) h7 else if nI (btx tn tb s) ≤ 111 then F_X9_next_118 N (nI (btx tn tb s)) h7 else F_X9_next_112 N (nI s) (nI (btx tn tb s)) h7) = if (97 ≤ btx tn tb s ∧ btx tn tb s ≤ 111) ∨ btx tn tb s = 122 then F_X9_next_118 N (nI (btx tn tb s)) h7 else bnd2 (F_X9_isFigure N (nI (btx tn tb s)) h7) fun r1 h2 => if r1 = 0 then bnd2 (F_X9_signToken N (nI (btx tn tb s)) h2) fun r3 h4 => some ((), h4) else bnd (sI h2 51 16 2) fun h5 => F_X9_next_156 N (nI s) h5 := by
      unfold F_X9_next_112
      simp only [e97, e111, e122]
      by_cases z1 : btx tn tb s < 97
      · rw [if_pos z1, if_neg (by omega), if_neg (by omega)]
      · rw [if_neg z1]
        by_cases z2 : btx tn tb s ≤ 111
        · rw [if_pos z2, if_pos (by omega)]
        · rw [if_neg z2]
          by_cases z3 : btx tn tb s = 122
          · rw [if_pos z3, if_pos (Or.inr z3)]
          · rw [if_neg z3, if_neg (by omega)]
    rw [isv]
    have LN1 : ∀ (hx : xHp) (j : Nat) (u : Int32), 15 < j → j < 23 → FL LNx hx (sI hx 51 j u) := fun hx j u a b => FL.i hx (inL_iff.mpr ⟨(51, 16, 23), List.mem_singleton.mpr rfl, rfl, (show 16 ≤ j by omega), Or.inr b⟩)
    -- a sign, or none
    have sign : ¬ ((97 ≤ btx tn tb s ∧ btx tn tb s ≤ 111) ∨ btx tn tb s = 122) → ¬ (48 ≤ btx tn tb s ∧ btx tn tb s ≤ 57) → ∃ h', F_X9_signToken N (nI (btx tn tb s)) h7 = some ((), h') ∧ FL LNx h7 h' ∧ gI h' 51 18 = nI s ∧ gI h' 51 20 = nI (t + 1) ∧ (((tok (btx tn tb) tn s).1 ≠ 262 ∧ gI h' 51 21 = 0 ∧ gI h' 51 19 = nI (tok (btx tn tb) tn s).2.2 ∧ gI h' 51 16 = 3 ∧ gI h' 51 17 = nI (sg (tok (btx tn tb) tn s).1) ∧ tkc (tok (btx tn tb) tn s).1 = 3 ∧ ¬ ((tok (btx tn tb) tn s).1 = 259 ∨ (tok (btx tn tb) tn s).1 = 260) ∧ (tok (btx tn tb) tn s).1 ≠ 261) ∨ ((tok (btx tn tb) tn s).1 = 262 ∧ gI h' 51 21 = 1 ∧ gI h' 51 22 = nI s)) := by
      intro nv nf
      unfold F_X9_signToken F_X9_signToken_33 F_X9_signToken_60 F_X9_signToken_89 tok
      have f8 : FL LNx h7 (sI (sI h7 51 16 3) 51 17 (nI (btx tn tb s))) := (LN1 _ _ _ (by decide) (by decide)).trans (LN1 _ _ _ (by decide) (by decide))
      have c8 := c7.ag (f8.ag rfl)
      have x18 : gI (sI (sI h7 51 16 3) 51 17 (nI (btx tn tb s))) 51 18 = nI s := by simp +decide only [gI_sI, if_false, if_true]; exact w18
      have x19 : gI (sI (sI h7 51 16 3) 51 17 (nI (btx tn tb s))) 51 19 = nI (s + 1) := by simp +decide only [gI_sI, if_false, if_true]; exact w19
      have x20 : gI (sI (sI h7 51 16 3) 51 17 (nI (btx tn tb s))) 51 20 = nI (t + 1) := by simp +decide only [gI_sI, if_false, if_true]; exact w20
      have x21 : gI (sI (sI h7 51 16 3) 51 17 (nI (btx tn tb s))) 51 21 = 0 := by simp +decide only [gI_sI, if_false, if_true]; exact w21
      have x16 : gI (sI (sI h7 51 16 3) 51 17 (nI (btx tn tb s))) 51 16 = 3 := by simp +decide only [gI_sI, if_false, if_true]
      have x17 : gI (sI (sI h7 51 16 3) 51 17 (nI (btx tn tb s))) 51 17 = nI (btx tn tb s) := by simp +decide only [gI_sI, if_false, if_true]
      have b2 := btx_b (p := s + 1) hT6
      rw [bnd_eq, bnd_eq, x18, nI_1, m_byte N hT c8 (by omega), bnd2_p, m_fail0 N x21, bnd2_p, x18, if_neg q0, if_neg nf, show (45 : Int32) = nI 45 from rfl, show (60 : Int32) = nI 60 from rfl, show (62 : Int32) = nI 62 from rfl, show (61 : Int32) = nI 61 from rfl, show (35 : Int32) = nI 35 from rfl, show (38 : Int32) = nI 38 from rfl, show (124 : Int32) = nI 124 from rfl, show (126 : Int32) = nI 126 from rfl, show (40 : Int32) = nI 40 from rfl, show (41 : Int32) = nI 41 from rfl]
      simp only [eqc bb (show 45 < 256 by decide), eqc bb (show 60 < 256 by decide), eqc bb (show 62 < 256 by decide), eqc bb (show 61 < 256 by decide), eqc bb (show 35 < 256 by decide), eqc bb (show 38 < 256 by decide), eqc bb (show 124 < 256 by decide), eqc bb (show 126 < 256 by decide), eqc bb (show 40 < 256 by decide), eqc bb (show 41 < 256 by decide), eqc b2 (show 61 < 256 by decide), eqc b2 (show 62 < 256 by decide), x19, bnd_eq]
      have e19 : ∀ u : Int32, gI (sI (sI (sI h7 51 16 3) 51 17 (nI (btx tn tb s))) 51 17 u) 51 19 + 1 = nI (s + 2) := fun u => by
        rw [show gI (sI (sI (sI h7 51 16 3) 51 17 (nI (btx tn tb s))) 51 17 u) 51 19 = nI (s + 1) by simp +decide only [gI_sI, if_false, if_true]; exact w19, nI_1]
      simp only [e19]
      have one : ∀ k : Nat, k < 256 → sg k = btx tn tb s → tkc k = 3 → ∃ h', some ((), sI (sI h7 51 16 3) 51 17 (nI (btx tn tb s))) = some ((), h') ∧ FL LNx h7 h' ∧ gI h' 51 18 = nI s ∧ gI h' 51 20 = nI (t + 1) ∧ ((k ≠ 262 ∧ gI h' 51 21 = 0 ∧ gI h' 51 19 = nI (s + 1) ∧ gI h' 51 16 = 3 ∧ gI h' 51 17 = nI (sg k) ∧ tkc k = 3 ∧ ¬ (k = 259 ∨ k = 260) ∧ k ≠ 261) ∨ (k = 262 ∧ gI h' 51 21 = 1 ∧ gI h' 51 22 = nI s)) := fun k hk e1 e2 => ⟨_, rfl, f8, x18, x20, Or.inl ⟨by omega, x21, x19, x16, by rw [e1]; exact x17, e2, by omega, by omega⟩⟩
      have two : ∀ k : Nat, k = 256 ∨ k = 257 ∨ k = 258 → tkc k = 3 → ∃ h', some ((), sI (sI (sI (sI h7 51 16 3) 51 17 (nI (btx tn tb s))) 51 17 (nI (sg k))) 51 19 (nI (s + 2))) = some ((), h') ∧ FL LNx h7 h' ∧ gI h' 51 18 = nI s ∧ gI h' 51 20 = nI (t + 1) ∧ ((k ≠ 262 ∧ gI h' 51 21 = 0 ∧ gI h' 51 19 = nI (s + 2) ∧ gI h' 51 16 = 3 ∧ gI h' 51 17 = nI (sg k) ∧ tkc k = 3 ∧ ¬ (k = 259 ∨ k = 260) ∧ k ≠ 261) ∨ (k = 262 ∧ gI h' 51 21 = 1 ∧ gI h' 51 22 = nI s)) := fun k hk e2 => ⟨_, rfl, f8.trans ((LN1 _ _ _ (by decide) (by decide)).trans (LN1 _ _ _ (by decide) (by decide))), by simp +decide only [gI_sI, if_false, if_true]; exact w18, by simp +decide only [gI_sI, if_false, if_true]; exact w20, Or.inl ⟨by omega, by simp +decide only [gI_sI, if_false, if_true]; exact w21, by simp +decide only [gI_sI, if_false, if_true], by simp +decide only [gI_sI, if_false, if_true], by simp +decide only [gI_sI, if_false, if_true], e2, by omega, by omega⟩⟩
      have badk : ∃ h', some ((), sI (sI (sI (sI h7 51 16 3) 51 17 (nI (btx tn tb s))) 51 21 1) 51 22 (nI s)) = some ((), h') ∧ FL LNx h7 h' ∧ gI h' 51 18 = nI s ∧ gI h' 51 20 = nI (t + 1) ∧ ((262 ≠ 262 ∧ gI h' 51 21 = 0 ∧ gI h' 51 19 = nI (s + 1) ∧ gI h' 51 16 = 3 ∧ gI h' 51 17 = nI (sg 262) ∧ tkc 262 = 3 ∧ ¬ (262 = 259 ∨ 262 = 260) ∧ 262 ≠ 261) ∨ (True ∧ gI h' 51 21 = 1 ∧ gI h' 51 22 = nI s)) := ⟨_, rfl, f8.trans ((LN1 _ _ _ (by decide) (by decide)).trans (LN1 _ _ _ (by decide) (by decide))), by simp +decide only [gI_sI, if_false, if_true]; exact w18, by simp +decide only [gI_sI, if_false, if_true]; exact w20, Or.inr ⟨trivial, by simp +decide only [gI_sI, if_false, if_true], by simp +decide only [gI_sI, if_false, if_true]⟩⟩
      by_cases q60 : btx tn tb s = 60
      · simp +decide only [q60, if_false, if_true]
        simp only [q60] at one two
        by_cases q : btx tn tb (s + 1) = 61
        · simp only [if_pos q]; exact two 256 (by decide) (by decide)
        · simp only [if_neg q]; exact one 60 (by decide) (by decide) (by decide)
      · rw [if_neg q60, if_neg q60]
        by_cases q62 : btx tn tb s = 62
        · simp +decide only [q62, if_false, if_true]
          simp only [q62] at one two
          by_cases q : btx tn tb (s + 1) = 61
          · simp only [if_pos q]; exact two 257 (by decide) (by decide)
          · simp only [if_neg q]; exact one 62 (by decide) (by decide) (by decide)
        · rw [if_neg q62, if_neg q62]
          by_cases q45 : btx tn tb s = 45
          · simp +decide only [q45, if_false, if_true]
            simp only [q45] at one two
            by_cases q : btx tn tb (s + 1) = 62
            · simp only [if_pos q]; exact two 258 (by decide) (by decide)
            · simp only [if_neg q]; exact one 45 (by decide) (by decide) (by decide)
          · rw [if_neg q45, if_neg q45]
            by_cases q7 : btx tn tb s = 35 ∨ btx tn tb s = 61 ∨ btx tn tb s = 38 ∨ btx tn tb s = 124 ∨ btx tn tb s = 126 ∨ btx tn tb s = 40 ∨ btx tn tb s = 41
            · rw [if_pos q7]
              have o7 := one (btx tn tb s) bb
              rcases q7 with q | q | q | q | q | q | q <;> (rw [q] at o7 ⊢; have o := o7 (by decide) (by decide); simp +decide only [if_false, if_true] at o ⊢; exact o)
            · have n35 : ¬ btx tn tb s = 35 := fun z => q7 (Or.inl z)
              have n61 : ¬ btx tn tb s = 61 := fun z => q7 (Or.inr (Or.inl z))
              have n38 : ¬ btx tn tb s = 38 := fun z => q7 (Or.inr (Or.inr (Or.inl z)))
              have n124 : ¬ btx tn tb s = 124 := fun z => q7 (Or.inr (Or.inr (Or.inr (Or.inl z))))
              have n126 : ¬ btx tn tb s = 126 := fun z => q7 (Or.inr (Or.inr (Or.inr (Or.inr (Or.inl z)))))
              have n40 : ¬ btx tn tb s = 40 := fun z => q7 (Or.inr (Or.inr (Or.inr (Or.inr (Or.inr (Or.inl z))))))
              have n41 : ¬ btx tn tb s = 41 := fun z => q7 (Or.inr (Or.inr (Or.inr (Or.inr (Or.inr (Or.inr z))))))
              rw [if_neg q7, if_neg (show ¬ btx tn tb s = 122 from fun z => nv (Or.inr z)), if_neg (show ¬ (97 ≤ btx tn tb s ∧ btx tn tb s ≤ 111) from fun z => nv (Or.inl z))]
              simp only [if_neg q45, if_neg q60, if_neg q62, if_neg n61, if_neg n35, if_neg n38, if_neg n124, if_neg n126, if_neg n40, if_neg n41]
              exact badk
    by_cases qv : (97 ≤ btx tn tb s ∧ btx tn tb s ≤ 111) ∨ btx tn tb s = 122
    · rw [if_pos qv]
      have tk : tok (btx tn tb) tn s = (259, if btx tn tb s = 122 then 0 else btx tn tb s - 96, s + 1) := by
        unfold tok
        rw [if_neg q0, if_neg (by omega), if_neg (by omega), if_neg (by omega), if_neg (by omega), if_neg (by omega)]
        by_cases z : btx tn tb s = 122
        · rw [if_pos z, if_pos z]
        · rw [if_neg z, if_neg z, if_pos (by omega)]
      rw [tk]
      unfold F_X9_next_118 F_X9_next_138
      have go : ∀ v : Nat, (if btx tn tb s = 122 then 0 else btx tn tb s - 96) = v → ∃ h', some ((), sI (sI h7 51 16 1) 51 17 (nI v)) = some ((), h') ∧ FL LNx h h' ∧ ((gI h' 51 18 = nI s ∧ gI h' 51 19 = nI (s + 1) ∧ gI h' 51 20 = nI (t + 1) ∧ 259 ≠ 262 ∧ gI h' 51 16 = nI (tkc 259) ∧ (259 ≠ 261 → gI h' 51 17 = nI v) ∧ gI h' 51 21 = 0) ∨ (259 = 262 ∧ gI h' 51 21 = 1 ∧ gI h' 51 22 = nI s)) := fun v _ => ⟨_, rfl, f07.trans ((LN1 _ _ _ (by decide) (by decide)).trans (LN1 _ _ _ (by decide) (by decide))), Or.inl ⟨by simp +decide only [gI_sI, if_false, if_true]; exact w18, by simp +decide only [gI_sI, if_false, if_true]; exact w19, by simp +decide only [gI_sI, if_false, if_true]; exact w20, by decide, by simp +decide only [gI_sI, if_false, if_true], fun _ => by simp +decide only [gI_sI, if_false, if_true], by simp +decide only [gI_sI, if_false, if_true]; exact w21⟩⟩
      simp only [bnd_eq, e122]
      by_cases z : btx tn tb s = 122
      · rw [if_pos z, if_pos z]; exact go 0 (if_pos z)
      · rw [if_neg z, if_neg z, show nI (btx tn tb s) - 96 = nI (btx tn tb s - 96) by rw [show (96 : Int32) = nI 96 from rfl, pk_sub (by omega)]]
        exact go _ (if_neg z)
    · rw [if_neg qv, m_isFig N bb, bnd2_p]
      by_cases qf : 48 ≤ btx tn tb s ∧ btx tn tb s ≤ 57
      · rw [if_pos qf, if_neg (by decide), bnd_eq]
        unfold F_X9_next_156
        have f8 : FL LNx h7 (sI h7 51 16 2) := LN1 _ _ _ (by decide) (by decide)
        obtain ⟨h', e', f', g1, g2, g3, g4⟩ := m_digits N (s := s) hT N (tn + 1) s 0 (sI h7 51 16 2) (by omega) (by omega) (Nat.le_refl s) sb (c7.ag (f8.ag rfl)) (by simp +decide only [gI_sI, if_false, if_true]; exact w18) (by simp +decide only [gI_sI, if_false, if_true]; exact w17) (by simp +decide only [gI_sI, if_false, if_true]; exact w21) (by decide) (fun _ => by rw [Nat.sub_self]; decide)
        rw [e']
        have y18 : gI h' 51 18 = nI s := by rw [(f'.1 51 18 rfl).1]; simp +decide only [gI_sI, if_false, if_true]; exact w18
        have y20 : gI h' 51 20 = nI (t + 1) := by rw [(f'.1 51 20 rfl).1]; simp +decide only [gI_sI, if_false, if_true]; exact w20
        have y16 : gI h' 51 16 = 2 := by rw [(f'.1 51 16 rfl).1]; simp +decide only [gI_sI, if_false, if_true]
        refine ⟨h', rfl, FL.cat (f07.trans f8) f' rfl rfl, ?_⟩
        by_cases z : 7 < (dgs (btx tn tb) s (tn + 1) s 0).1 - s ∨ 1000000 < (dgs (btx tn tb) s (tn + 1) s 0).2
        · right
          have tk : (tok (btx tn tb) tn s).1 = 262 := by unfold tok; rw [if_neg q0, if_pos qf, if_pos z]
          exact ⟨tk, g3 z⟩
        · left
          have tk : tok (btx tn tb) tn s = (260, (dgs (btx tn tb) s (tn + 1) s 0).2, (dgs (btx tn tb) s (tn + 1) s 0).1) := by unfold tok; rw [if_neg q0, if_pos qf, if_neg z]
          rw [tk]
          exact ⟨y18, g2, y20, (show (260 : Nat) ≠ 262 by decide), y16, fun _ => g1, g4 z⟩
      · rw [if_neg qf, if_pos rfl]
        obtain ⟨h', e', f', g1, g2, g3⟩ := sign qv qf
        rw [e', bnd2_p]
        refine ⟨h', rfl, f07.trans f', ?_⟩
        rcases g3 with ⟨a1, a2, a3, a4, a5, a6, a7, a8⟩ | a
        · left
          refine ⟨g1, a3, ?_, a1, ?_, fun _ => ?_, a2⟩
          · rw [if_neg a8]; exact g2
          · rw [a6]; exact a4
          · rw [a5]; unfold tkv; rw [if_neg a7]
        · exact Or.inr a
