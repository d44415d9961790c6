/-! THE TABLE OF WAYS: the class's search -/
def cW (W : Nat → Bool) (lo : Nat) : Nat → Nat
  | 0 => 0
  | k + 1 => cW W lo k + (if W (lo + k) = true then 1 else 0)
theorem cW_add {W : Nat → Bool} {lo a : Nat} : ∀ (b : Nat), cW W lo (a + b) = cW W lo a + cW W (lo + a) b := by
  intro b
  induction b with
  | zero => rfl
  | succ b ih =>
    show cW W lo (a + b) + (if W (lo + (a + b)) = true then 1 else 0) = cW W lo a + (cW W (lo + a) b + (if W (lo + a + b) = true then 1 else 0))
    rw [ih, show lo + (a + b) = lo + a + b by omega]
    omega
theorem cW_le {W : Nat → Bool} {lo : Nat} : ∀ (k : Nat), cW W lo k ≤ k := by
  intro k
  induction k with
  | zero => exact Nat.le_refl 0
  | succ k ih =>
    show cW W lo k + _ ≤ k + 1
    by_cases q : W (lo + k) = true
    · rw [if_pos q]; omega
    · rw [if_neg q]; omega
theorem cW_zero {W : Nat → Bool} {lo : Nat} : ∀ (k : Nat), (∀ i, i < k → ¬ W (lo + i) = true) → cW W lo k = 0 := by
  intro k
  induction k with
  | zero => intro _; rfl
  | succ k ih =>
    intro h
    show cW W lo k + _ = 0
    rw [ih (fun i hi => h i (by omega)), if_neg (h k (by omega))]
def Way (n : Nat) (E : Ed) (an : Nat) (A : Ed) (cs : List Nat) (ρ : Nat) : Prop := jd (gr an ρ) cs = 2 ∧ Epot (n + an) (exE E n A (gr an ρ))
def Pre (d p : Nat) (g : Nat → Nat) : Prop := (∀ k, k < d → g k = if p / 2 ^ (d - 1 - k) % 2 = 1 then 2 else 0) ∧ (∀ k, d ≤ k → g k = 1) ∧ p < 2 ^ d
theorem Pre.le {d p : Nat} {g : Nat → Nat} (h : Pre d p g) (k : Nat) : g k ≤ 2 := by
  by_cases q : k < d
  · rw [h.1 k q]; split <;> omega
  · rw [h.2.1 k (by omega)]; omega
theorem Pre.gr {an d p ρ : Nat} {g : Nat → Nat} (h : Pre d p g) (hd : d ≤ an) (h1 : p * 2 ^ (an - d) ≤ ρ) (h2 : ρ < p * 2 ^ (an - d) + 2 ^ (an - d)) {k : Nat} (hk : k < d) : gr an ρ k = g k := by
  have hq : ρ / 2 ^ (an - d) = p := by
    have h0 : 0 < 2 ^ (an - d) := Nat.pow_pos (by decide)
    rw [Nat.mul_comm] at h1 h2
    have h3 : ρ < 2 ^ (an - d) * (p + 1) := by rw [Nat.mul_add]; omega
    exact Nat.div_eq_of_lt_le (by rw [Nat.mul_comm]; exact h1) (by rw [Nat.mul_comm]; exact h3)
  rw [h.1 k hk, ← hq, Nat.div_div_eq_div_mul, ← Nat.pow_add, show an - d + (d - 1 - k) = an - 1 - k by omega]
  rfl
theorem gr_02 (an ρ k : Nat) : gr an ρ k = 0 ∨ gr an ρ k = 2 := by unfold gr; split <;> omega
theorem pow_s {an d : Nat} (h : d < an) : 2 ^ (an - d) = 2 * 2 ^ (an - (d + 1)) := by
  rw [show an - d = (an - (d + 1)) + 1 by omega, Nat.pow_succ]
  omega
/-- one more truth -/
theorem Pre.more {d p t : Nat} {g : Nat → Nat} (h : Pre d p g) (ht : t = 0 ∨ t = 1) : Pre (d + 1) (2 * p + t) (upN g d (2 * t)) := by
  refine ⟨fun k hk => ?_, fun k hk => ?_, ?_⟩
  · unfold upN
    by_cases q : k = d
    · subst q
      rw [if_pos rfl, show k + 1 - 1 - k = 0 by omega, Nat.pow_zero, Nat.div_one]
      rcases ht with rfl | rfl
      · rw [if_neg (by omega)]
      · rw [if_pos (by omega)]
    · rw [if_neg q, h.1 k (by omega), show d + 1 - 1 - k = (d - 1 - k) + 1 by omega, Nat.pow_succ, Nat.mul_comm (2 ^ (d - 1 - k)) 2, ← Nat.div_div_eq_div_mul, show (2 * p + t) / 2 = p by omega]
  · unfold upN
    rw [if_neg (by omega)]
    exact h.2.1 k (by omega)
  · have := h.2.2
    rw [Nat.pow_succ]
    omega
theorem no_false {n an d p ρ : Nat} {E A : Ed} {cs : List Nat} {g : Nat → Nat} (hf : Fcs an cs) (hd : d ≤ an) (hp : Pre d p g) (hj : jd g cs = 0) (h1 : p * 2 ^ (an - d) ≤ ρ) (h2 : ρ < p * 2 ^ (an - d) + 2 ^ (an - d)) : ¬ Way n E an A cs ρ := by
  rintro ⟨w1, _⟩
  have := (jd_mono hf (g := g) (g' := gr an ρ) (fun k _ => hp.le k) (fun k _ => by have := gr_02 an ρ k; omega) (fun k hk => by
    by_cases q : k < d
    · exact Or.inr (hp.gr hd h1 h2 q).symm
    · exact Or.inl (hp.2.1 k (by omega)))).1
  unfold ref3 at this
  omega
theorem no_pot {n an d p ρ : Nat} {E A : Ed} {cs : List Nat} {g : Nat → Nat} (hd : d ≤ an) (hp : Pre d p g) (hj : ¬ Epot (n + d) (exE E n A g)) (h1 : p * 2 ^ (an - d) ≤ ρ) (h2 : ρ < p * 2 ^ (an - d) + 2 ^ (an - d)) : ¬ Way n E an A cs ρ := by
  rintro ⟨_, w2⟩
  exact hj ((w2.mono (show n + d ≤ n + an by omega)).congr (fun k hk => exE_congr (fun j hj => hp.gr hd h1 h2 hj) hk))
def LSr : Lc := LN ++ (LApp ++ [(34,0,0),(36,0,0),(48,0,0),(47,1,2)])
/-- what a search leaves: of the rows from lo on, len of them -/
def SR (W : Nat → Bool) (m : Nat) (Ex : Ed) (g : Nat → Nat) (lo len cnt : Nat) (h h' : xHp) : Prop := FL LSr h h' ∧ Ccon m Ex h' ∧ (∀ k, k < 10 → gI h' 34 k = nI (g k)) ∧ gI h' 47 1 = nI (cnt + cW W lo len) ∧ ∀ ρ, gI h' 48 ρ = if lo ≤ ρ ∧ ρ < lo + len ∧ W ρ = true then 1 else gI h 48 ρ
theorem c_try (N : Nat) (hN : 300 ≤ N) {n an : Nat} {E A : Ed} {cs : List Nat} {W : Nat → Bool} (hw : Ewf n E) (hn : n ≤ 60) (hA : Awf an A) (hf : Fcs an cs) (hW : ∀ ρ, W ρ = true → Way n E an A cs ρ) {d p t cnt : Nat} {g : Nat → Nat} {h : xHp} {rA : Int32 → Int32 → xHp → Option (Unit × xHp)} (hd : d < an) (ht : t = 0 ∨ t = 1) (hp : Pre d p g) (rc : Ccon (n + d) (exE E n A g) h) (po : Epot (n + d) (exE E n A g)) (rf : Cfor an A cs h) (hg : ∀ k, k < 10 → k ≠ d → gI h 34 k = nI (g k)) (hc : gI h 47 1 = nI cnt)
    (ih : ∀ h1, Ccon (n + (d + 1)) (exE E n A (upN g d (2 * t))) h1 → Epot (n + (d + 1)) (exE E n A (upN g d (2 * t))) → Cfor an A cs h1 → (∀ k, k < 10 → gI h1 34 k = nI (upN g d (2 * t) k)) → gI h1 47 1 = nI cnt → ∃ h', rA (nI (d + 1)) (nI (2 * p + t)) h1 = some ((), h') ∧ SR W (n + (d + 1)) (exE E n A (upN g d (2 * t))) (upN g d (2 * t)) ((2 * p + t) * 2 ^ (an - (d + 1))) (2 ^ (an - (d + 1))) cnt h1 h') : ∃ h', F_X5_tryTruth N rA (nI d) (nI (2 * t)) (nI (2 * p + t)) h = some ((), h') ∧ SR W (n + d) (exE E n A g) (upN g d (2 * t)) ((2 * p + t) * 2 ^ (an - (d + 1))) (2 ^ (an - (d + 1))) cnt h h' := by
  have han := hf.1
  have hpm := hp.more ht
  have eqg : ∀ k, k < d → g k = upN g d (2 * t) k := fun k hk => by unfold upN; rw [if_neg (by omega)]
  have f0 : FL [(34,0,0)] h (sI h 34 d (nI (2 * t))) := FL.i h rfl
  have g0 : ∀ k, k < 10 → gI (sI h 34 d (nI (2 * t))) 34 k = nI (upN g d (2 * t) k) := fun k hk => by
    rw [gI_sI, if_pos rfl]
    unfold upN
    by_cases q : k = d
    · rw [if_pos q, if_pos q]
    · rw [if_neg q, if_neg q]; exact hg k hk q
  have start : F_X5_tryTruth N rA (nI d) (nI (2 * t)) (nI (2 * p + t)) h = bnd2 (F_X1_joins_30_1 N (nI d) (sI h 34 d (nI (2 * t)))) fun r2 h3 => if r2 = 0 then F_X5_tryTruth_42 N rA (nI (n + d)) h3 else bnd2 (rA (nI (d + 1)) (nI (2 * p + t)) h3) fun r4 h5 => F_X5_tryTruth_42 N rA (nI (n + d)) h5 := by
    unfold F_X5_tryTruth
    rw [grd_t (xin_nI (show d < 10 by omega) (by decide)), nI_cl (by omega), bnd_eq, rc.1, nI_1]
  rw [start]
  rcases c_joins N hN (d := d) (hw.ex hA (by omega) (by omega)) po (rc.ag (f0.ag rfl)) (by omega) (rf.ag (f0.ag rfl)) hA han hd (g0 d (by omega)) (hpm.le d) with ⟨J, l, h1, a1, a2, a3, a4, a5, a6, a7⟩ | ⟨a1, h1, a2, a3, a4⟩
  · have rc1 := (rc.ag (f0.ag rfl)).ag (a5.ag rfl)
    obtain ⟨h2, e2, f2, rc2⟩ := c_cutTo N rc1 (Nat.le_refl _) (by omega)
    have F : FL LSr h h2 := FL.cat f0 (FL.cat a5 f2 rfl rfl : FL (LN ++ [(1,3,4)]) _ _) rfl rfl
    have nW : ∀ ρ, (2 * p + t) * 2 ^ (an - (d + 1)) ≤ ρ → ρ < (2 * p + t) * 2 ^ (an - (d + 1)) + 2 ^ (an - (d + 1)) → ¬ W ρ = true := fun ρ q1 q2 qW => by
      refine no_pot (by omega) hpm ?_ q1 q2 (hW ρ qW)
      intro hpo
      exact Epot.none a2 (hpo.congr (fun k hk => (exE_up eqg (by omega)).symm))
    have fs : FL (LN ++ [(1,3,4)]) (sI h 34 d (nI (2 * t))) h2 := FL.cat a5 f2 rfl rfl
    refine ⟨h2, ?_, F, rc2, fun k hk => ?_, ?_, fun ρ => ?_⟩
    · rw [a4, bnd2_p, if_pos rfl]
      unfold F_X5_tryTruth_42
      rw [e2, bnd2_p]
    · rw [(fs.1 34 k rfl).1]
      exact g0 k hk
    · rw [cW_zero _ (fun i hi => nW _ (by omega) (by omega)), Nat.add_zero, (fs.1 47 1 rfl).1, gI_sI, if_neg (by decide), hc]
    · rw [if_neg (fun q => nW ρ q.1 q.2.1 q.2.2), (fs.1 48 ρ rfl).1, gI_sI, if_neg (by decide)]
  · have po1 : Epot (n + d + 1) (exE E n A (upN g d (2 * t))) := (po.more a1).congr (fun k hk => exE_up eqg hk)
    have rc1 : Ccon (n + d + 1) (exE E n A (upN g d (2 * t))) h1 := a4.congr (fun k hk => exE_up eqg hk)
    obtain ⟨h2, e2, s1, s2, s3, s4, s5⟩ := ih h1 rc1 po1 ((rf.ag (f0.ag rfl)).ag (a3.ag rfl)) (fun k hk => by rw [(a3.1 34 k rfl).1]; exact g0 k hk) (by rw [(a3.1 47 1 rfl).1, gI_sI, if_neg (by decide), hc])
    obtain ⟨h3, e3, f3, rc3⟩ := c_cutTo N (n := n + d) s2 (by omega) (by omega)
    refine ⟨h3, ?_, FL.cat f0 (FL.cat a3 (FL.cat s1 f3 rfl rfl : FL LSr _ _) rfl rfl : FL LSr _ _) rfl rfl, rc3.congr (fun k hk => (exE_congr eqg hk).symm), fun k hk => ?_, ?_, fun ρ => ?_⟩
    · rw [a2, bnd2_p, if_neg (by decide), e2, bnd2_p]
      unfold F_X5_tryTruth_42
      rw [e3, bnd2_p]
    · rw [(f3.1 34 k rfl).1]; exact s3 k hk
    · rw [(f3.1 47 1 rfl).1]; exact s4
    · rw [(f3.1 48 ρ rfl).1, s5 ρ, (a3.1 48 ρ rfl).1, (f0.1 48 ρ rfl).1]
theorem c_search (N : Nat) (hN : 300 ≤ N) {n an : Nat} {E A : Ed} {cs : List Nat} {W : Nat → Bool} (hw : Ewf n E) (hn : n ≤ 60) (hA : Awf an A) (hf : Fcs an cs) (hW : ∀ ρ, W ρ = true → Way n E an A cs ρ) (hW2 : ∀ ρ, ρ < 2 ^ an → Way n E an A cs ρ → W ρ = true) : ∀ (z d p cnt : Nat) (g : Nat → Nat) (h : xHp), d ≤ an → an - d < z → Pre d p g → Ccon (n + d) (exE E n A g) h → Epot (n + d) (exE E n A g) → Cfor an A cs h → (∀ k, k < 10 → gI h 34 k = nI (g k)) → gI h 47 1 = nI cnt → ∃ h', xit (F_X5_search_r N) (fun _ _ _ => none) z (nI d) (nI p) h = some ((), h') ∧ SR W (n + d) (exE E n A g) g (p * 2 ^ (an - d)) (2 ^ (an - d)) cnt h h' := by
  have han := hf.1
  intro z
  induction z with
  | zero => intro d p cnt g h _ h2; omega
  | succ z ih =>
    intro d p cnt g h h1 h2 hp rc po rf hg hc
    obtain ⟨hj, ej, fj⟩ := c_judge N hN hf rf (fun k hk => hg k (by omega)) (fun k _ => hp.le k)
    show ∃ h', F_X5_search_r N (xit (F_X5_search_r N) (fun _ _ _ => none) z) (nI d) (nI p) h = _ ∧ _
    generalize xit (F_X5_search_r N) (fun _ _ _ => none) z = K at ih ⊢
    have rcj := rc.ag (fj.ag rfl)
    have rfj := rf.ag (fj.ag rfl)
    have gj : ∀ k, k < 10 → gI hj 34 k = nI (g k) := fun k hk => by rw [(fj.1 34 k rfl).1]; exact hg k hk
    have cj : gI hj 47 1 = nI cnt := by rw [(fj.1 47 1 rfl).1]; exact hc
    have j2 : jd g cs ≤ 2 := (jd_mono hf (fun k _ => hp.le k) (fun k _ => hp.le k) (fun k _ => Or.inr rfl)).2
    unfold F_X5_search_r
    rw [ej, bnd2_p]
    by_cases q0 : jd g cs = 0
    · have nW : ∀ ρ, p * 2 ^ (an - d) ≤ ρ → ρ < p * 2 ^ (an - d) + 2 ^ (an - d) → ¬ W ρ = true := fun ρ q1 q2 qW => no_false hf h1 hp q0 q1 q2 (hW ρ qW)
      rw [if_pos (by rw [q0]; rfl)]
      refine ⟨hj, rfl, FL.sub fj rfl, rcj, gj, ?_, fun ρ => ?_⟩
      · rw [cW_zero _ (fun i hi => nW _ (by omega) (by omega)), Nat.add_zero]; exact cj
      · rw [if_neg (fun q => nW ρ q.1 q.2.1 q.2.2), (fj.1 48 ρ rfl).1]
    · rw [if_neg (nI_ne0 (by omega) (by omega)), rfj.1, if_pos (nI_le h1 (by omega))]
      by_cases qd : d = an
      · subst qd
        have p10 : p < 1024 := by
          have := hp.2.2
          have h10 : 2 ^ d ≤ 2 ^ 10 := Nat.pow_le_pow_right (by decide) han
          omega
        have full : jd g cs = 2 := by
          have := jd_full hf (g := g) (fun k hk => by rw [hp.1 k hk]; split <;> omega)
          omega
        have eg : ∀ k, k < d → g k = gr d p k := fun k hk => hp.1 k hk
        have wy : W p = true := hW2 p hp.2.2 ⟨by rw [← jd_congr hf (fun k _ => hp.le k) eg]; exact full, po.congr (fun k hk => exE_congr eg hk)⟩
        have e1 : p * 2 ^ (d - d) = p := by rw [Nat.sub_self, Nat.pow_zero, Nat.mul_one]
        have e2 : 2 ^ (d - d) = 1 := by rw [Nat.sub_self, Nat.pow_zero]
        rw [if_pos (Int32.le_refl _), if_neg (nI_pos (by omega)), if_neg (by rw [show (1024 : Int32) = nI 1024 from rfl]; exact nI_ge p10 (by decide)), grd_t (xin_nI p10 (by decide)), nI_cl (by omega), nar1, bnd_eq, gI_sI, if_neg (by decide), cj, nI_1, bnd_eq, e1, e2]
        have ff : FL [(48,0,0),(47,1,2)] hj (sI (sI hj 48 p 1) 47 1 (nI (cnt + 1))) := (FL.i hj rfl).trans (FL.i _ rfl)
        refine ⟨_, rfl, FL.cat fj ff rfl rfl, rcj.ag (ff.ag rfl), fun k hk => ?_, ?_, fun ρ => ?_⟩
        · rw [(ff.1 34 k rfl).1]; exact gj k hk
        · rw [gI_sI, if_pos rfl, if_pos rfl]
          show _ = nI (cnt + (cW W p 0 + if W (p + 0) = true then 1 else 0))
          rw [show p + 0 = p from rfl, if_pos wy]
          rfl
        · simp +decide only [gI_sI, if_false, if_true, (fj.1 48 ρ rfl).1]
          by_cases q : ρ = p
          · subst q
            rw [if_pos rfl, if_pos ⟨by omega, by omega, wy⟩]
          · rw [if_neg q, if_neg (fun q' => by omega)]
      · have hd : d < an := by omega
        have rA1 := fun cnt' hx => c_try N hN hw hn hA hf hW (p := p) (t := 0) (cnt := cnt') (g := g) (h := hx) (rA := K) hd (Or.inl rfl) hp
        have rA2 := fun cnt' hx => c_try N hN hw hn hA hf hW (p := p) (t := 1) (cnt := cnt') (g := g) (h := hx) (rA := K) hd (Or.inr rfl) hp
        obtain ⟨h3, e3, s1, s2, s3, s4, s5⟩ := rA1 cnt hj rcj po rfj (fun k hk _ => gj k hk) cj (fun hy b1 b2 b3 b4 b5 => ih (d + 1) _ cnt _ hy (by omega) (by omega) (hp.more (Or.inl rfl)) b1 b2 b3 b4 b5)
        obtain ⟨h4, e4, t1, t2, t3, t4, t5⟩ := rA2 (cnt + cW W ((2 * p + 0) * 2 ^ (an - (d + 1))) (2 ^ (an - (d + 1)))) h3 s2 po (rfj.ag (s1.ag rfl)) (fun k hk q => by rw [s3 k hk]; unfold upN; rw [if_neg q]) s4 (fun hy b1 b2 b3 b4 b5 => ih (d + 1) _ _ _ hy (by omega) (by omega) (hp.more (Or.inr rfl)) b1 b2 b3 b4 b5)
        have d1 : (2 : Int32) * nI p = nI (2 * p + 0) := by rw [show (2 : Int32) = nI 2 from rfl, pk_mul]; rfl
        have d2 : nI (2 * p + 0) + 1 = nI (2 * p + 1) := nI_1 _
        rw [if_neg (nI_ge hd (by omega)), d1, d2]
        rw [show (0 : Int32) = nI (2 * 0) from rfl, e3, bnd2_p, show (2 : Int32) = nI (2 * 1) from rfl, e4, bnd2_p, grd_t (xin_nI (show d < 10 by omega) (by decide)), nI_cl (by omega), bnd_eq]
        have f5 : FL [(34,0,0)] h4 (sI h4 34 d 1) := FL.i h4 rfl
        have q1 : p * 2 ^ (an - d) = (2 * p + 0) * 2 ^ (an - (d + 1)) := by rw [pow_s hd, ← Nat.mul_assoc, Nat.mul_comm p 2]; rfl
        have q2 : p * 2 ^ (an - d) + 2 ^ (an - (d + 1)) = (2 * p + 1) * 2 ^ (an - (d + 1)) := by rw [q1, Nat.add_mul, Nat.add_mul, Nat.zero_mul, Nat.one_mul]; rfl
        refine ⟨_, rfl, FL.cat fj (FL.cat s1 (FL.cat t1 f5 rfl rfl : FL LSr _ _) rfl rfl : FL LSr _ _) rfl rfl, t2.ag (f5.ag rfl), fun k hk => ?_, ?_, fun ρ => ?_⟩
        · rw [gI_sI, if_pos rfl]
          by_cases q : k = d
          · rw [if_pos q, q, hp.2.1 d (Nat.le_refl d)]; rfl
          · rw [if_neg q, t3 k hk]; unfold upN; rw [if_neg q]
        · have hcw : cW W (p * 2 ^ (an - d)) (2 ^ (an - d)) = cW W ((2 * p + 0) * 2 ^ (an - (d + 1))) (2 ^ (an - (d + 1))) + cW W ((2 * p + 1) * 2 ^ (an - (d + 1))) (2 ^ (an - (d + 1))) := by
            rw [← q2, ← q1]
            generalize p * 2 ^ (an - d) = lo
            rw [pow_s hd, show 2 * 2 ^ (an - (d + 1)) = 2 ^ (an - (d + 1)) + 2 ^ (an - (d + 1)) by omega, cW_add]
          rw [(f5.1 47 1 rfl).1, t4, hcw, Nat.add_assoc]
        · rw [(f5.1 48 ρ rfl).1, t5 ρ, s5 ρ, (fj.1 48 ρ rfl).1, ← q2, ← q1, pow_s hd]
          by_cases qW : W ρ = true
          · simp only [qW, and_true]
            by_cases r1 : p * (2 * 2 ^ (an - (d + 1))) + 2 ^ (an - (d + 1)) ≤ ρ ∧ ρ < p * (2 * 2 ^ (an - (d + 1))) + 2 ^ (an - (d + 1)) + 2 ^ (an - (d + 1))
            · rw [if_pos r1, if_pos ⟨by omega, by omega⟩]
            · rw [if_neg r1]
              by_cases r2 : p * (2 * 2 ^ (an - (d + 1))) ≤ ρ ∧ ρ < p * (2 * 2 ^ (an - (d + 1))) + 2 ^ (an - (d + 1))
              · rw [if_pos r2, if_pos ⟨by omega, by omega⟩]
              · rw [if_neg r2, if_neg (fun q => by omega)]
          · rw [if_neg (fun q => qW q.2.2), if_neg (fun q => qW q.2.2), if_neg (fun q => qW q.2.2)]
theorem c_give_go (N : Nat) : ∀ (z i : Nat) (h : xHp), i ≤ 10 → 10 - i < z → (∀ k, k < i → gI h 34 k = 1) → ∃ h', xit (F_J7_fill_53178_34_5_b N) (fun _ _ _ _ => none) z 1 (nI i) 10 h = some ((), h') ∧ FL [(34,0,0)] h h' ∧ ∀ k, k < 10 → gI h' 34 k = 1 := by
  intro z
  induction z with
  | zero => intro i h _ h2; omega
  | succ z ih =>
    intro i h h1 h2 hz
    by_cases hi : i = 10
    · subst hi
      exact ⟨h, by show F_J7_fill_53178_34_5_b N _ 1 (nI 10) 10 h = _; unfold F_J7_fill_53178_34_5_b; rw [if_pos (by decide)], Fr.rf, hz⟩
    · obtain ⟨h', e', f', g'⟩ := ih (i + 1) (sI h 34 i 1) (by omega) (by omega) (fun u hu => by
        rw [gI_sI, if_pos rfl]
        by_cases q : u = i
        · rw [if_pos q]
        · rw [if_neg q]; exact hz u (by omega))
      refine ⟨h', ?_, (FL.i h rfl).trans f', g'⟩
      show F_J7_fill_53178_34_5_b N (xit (F_J7_fill_53178_34_5_b N) (fun _ _ _ _ => none) z) 1 (nI i) 10 h = _
      rw [← e']
      generalize xit (F_J7_fill_53178_34_5_b N) (fun _ _ _ _ => none) z = K
      unfold F_J7_fill_53178_34_5_b
      rw [if_neg (by rw [show (10 : Int32) = nI 10 from rfl]; exact nI_ge (by omega) (by decide)), grd_t (xin_nI (by omega) (by decide)), nI_cl (by omega), bnd_eq, nI_1]
theorem c_giveN (N : Nat) (hN : 300 ≤ N) (h : xHp) : ∃ h', F_X1_giveNothing_30 N h = some ((), h') ∧ FL [(34,0,0)] h h' ∧ ∀ k, k < 10 → gI h' 34 k = 1 := by
  obtain ⟨h', e', f', g'⟩ := c_give_go N N 0 h (by omega) (by omega) (fun k hk => by omega)
  refine ⟨h', ?_, f', g'⟩
  unfold F_X1_giveNothing_30 F_J7_fill_53178_34 F_J7_fill_53178_34_5
  rw [show (0 : Int32) = nI 0 from rfl, e', bnd2_p]
/-- what the class's table holds -/
def CtabW (an : Nat) (W : Nat → Bool) (h : xHp) : Prop := gI h 47 1 = nI (cW W 0 (2 ^ an)) ∧ ∀ ρ, ρ < 1024 → gI h 48 ρ = if ρ < 2 ^ an ∧ W ρ = true then 1 else 0
theorem Pre.start : Pre 0 0 (fun _ => 1) := ⟨fun k hk => by omega, fun k _ => rfl, by decide⟩
def LFi : Lc := LSr ++ [(47,0,0)]
theorem c_fill_go (N : Nat) (hN : 300 ≤ N) {n an : Nat} {E A : Ed} {cs : List Nat} {W : Nat → Bool} (hw : Ewf n E) (hn : n ≤ 60) (hA : Awf an A) (hf : Fcs an cs) (hW : ∀ ρ, W ρ = true → Way n E an A cs ρ) (hW2 : ∀ ρ, ρ < 2 ^ an → Way n E an A cs ρ → W ρ = true) (po : Epot n E) : ∀ (z i : Nat) (h : xHp), i ≤ 1024 → 1024 - i < z → Ccon n E h → Cfor an A cs h → (∀ k, k < i → gI h 48 k = 0) → ∃ h', xit (F_X5_fill_10_b N) (fun _ _ => none) z (nI i) h = some ((), h') ∧ FL LFi h h' ∧ Ccon n E h' ∧ CtabW an W h' ∧ gI h' 47 2 = 1 := by
  have han := hf.1
  intro z
  induction z with
  | zero => intro i h _ h2; omega
  | succ z ih =>
    intro i h h1 h2 rc rf hz
    by_cases hi : i = 1024
    · subst hi
      have f1 : FL [(47,1,2)] h (sI h 47 1 0) := FL.i h rfl
      obtain ⟨h3, e3, f3, g3⟩ := c_giveN N hN (sI h 47 1 0)
      have f13 : FL [(47,1,2),(34,0,0)] h h3 := FL.cat f1 f3 rfl rfl
      have ex0 : ∀ k, k < n + 0 → E k = exE E n A (fun _ => 1) k := fun k hk => (exE_lt hk).symm
      obtain ⟨h4, e4, s1, s2, s3, s4, s5⟩ := c_search N hN hw hn hA hf hW hW2 12 0 0 0 (fun _ => 1) h3 (by omega) (by omega) Pre.start ((rc.ag (f13.ag rfl)).congr ex0) (po.congr ex0) (rf.ag (f13.ag rfl)) g3 (by rw [(f3.1 47 1 rfl).1, gI_sI, if_pos rfl, if_pos rfl]; rfl)
      have f5 : FL [(47,2,3)] h4 (sI h4 47 2 1) := FL.i h4 rfl
      refine ⟨sI h4 47 2 1, ?_, FL.cat f13 (FL.cat s1 f5 rfl rfl : FL LFi _ _) rfl rfl, (s2.congr (fun k hk => (ex0 k hk).symm)).ag (f5.ag rfl), ⟨?_, fun ρ hρ => ?_⟩, by rw [gI_sI, if_pos rfl, if_pos rfl]⟩
      · show F_X5_fill_10_b N _ (nI 1024) h = _
        unfold F_X5_fill_10_b F_X5_search
        rw [if_pos (by decide), bnd_eq, e3, bnd2_p, show (0 : Int32) = nI 0 from rfl, e4, bnd2_p, bnd_eq]
      · rw [(f5.1 47 1 rfl).1, s4, Nat.zero_mul, Nat.sub_zero, Nat.zero_add]
      · rw [(f5.1 48 ρ rfl).1, s5 ρ, (f13.1 48 ρ rfl).1, hz ρ hρ, Nat.zero_mul, Nat.sub_zero, Nat.zero_add]
        by_cases q : ρ < 2 ^ an ∧ W ρ = true
        · rw [if_pos ⟨by omega, q⟩, if_pos q]
        · rw [if_neg (fun q' => q q'.2), if_neg q]
    · have f0 : FL [(48,0,0)] h (sI h 48 i 0) := FL.i h rfl
      obtain ⟨h', e', f', g'⟩ := ih (i + 1) (sI h 48 i 0) (by omega) (by omega) (rc.ag (f0.ag rfl)) (rf.ag (f0.ag rfl)) (fun u hu => by
        rw [gI_sI, if_pos rfl]
        by_cases q : u = i
        · rw [if_pos q]
        · rw [if_neg q]; exact hz u (by omega))
      refine ⟨h', ?_, FL.cat f0 f' rfl rfl, g'⟩
      show F_X5_fill_10_b N (xit (F_X5_fill_10_b N) (fun _ _ => none) z) (nI i) h = _
      rw [← e']
      generalize xit (F_X5_fill_10_b N) (fun _ _ => none) z = K
      unfold F_X5_fill_10_b
      rw [if_neg (by rw [show (1024 : Int32) = nI 1024 from rfl]; exact nI_ge (by omega) (by decide)), grd_t (xin_nI (by omega) (by decide)), nI_cl (by omega), nar0, bnd_eq, nI_1]
/-- the table is right, or not known -/
def Ctab (n : Nat) (E : Ed) (an : Nat) (A : Ed) (cs : List Nat) (h : xHp) : Prop := gI h 47 2 = 0 ∨ (gI h 47 2 = 1 ∧ ∃ W : Nat → Bool, (∀ ρ, W ρ = true ↔ ρ < 2 ^ an ∧ Way n E an A cs ρ) ∧ CtabW an W h)
def DCtab : Lc := [(47,1,3),(48,0,0)]
theorem Ctab.ag {n an : Nat} {E A : Ed} {cs : List Nat} {h h' : xHp} (a : Ag DCtab h h') (r : Ctab n E an A cs h) : Ctab n E an A cs h' := by
  rcases r with r | ⟨r, W, r1, r2, r3⟩
  · exact Or.inl ((a 47 2 rfl).trans r)
  · exact Or.inr ⟨(a 47 2 rfl).trans r, W, r1, (a 47 1 rfl).trans r2, fun ρ hρ => (a 48 ρ rfl).trans (r3 ρ hρ)⟩
/-- the class's fill: afterwards the table is right -/
theorem c_fill (N : Nat) (hN : 2000 ≤ N) {n an : Nat} {E A : Ed} {cs : List Nat} {h : xHp} (hw : Ewf n E) (hn : n ≤ 60) (hA : Awf an A) (hf : Fcs an cs) (po : Epot n E) (rc : Ccon n E h) (rf : Cfor an A cs h) (rt : Ctab n E an A cs h) : ∃ h' W, F_X5_fill N h = some ((), h') ∧ FL LFi h h' ∧ Ccon n E h' ∧ (∀ ρ, W ρ = true ↔ ρ < 2 ^ an ∧ Way n E an A cs ρ) ∧ CtabW an W h' ∧ gI h' 47 2 = 1 := by
  unfold F_X5_fill
  rcases rt with r | ⟨r, W, r1, r2⟩
  · rw [if_pos r]
    let W : Nat → Bool := fun ρ => @decide (ρ < 2 ^ an ∧ Way n E an A cs ρ) (Classical.propDecidable _)
    have hWi : ∀ ρ, W ρ = true ↔ ρ < 2 ^ an ∧ Way n E an A cs ρ := fun ρ => @decide_eq_true_iff _ (Classical.propDecidable _)
    obtain ⟨h', e', f', a1, a2, a3⟩ := c_fill_go N (by omega) hw hn hA hf (W := W) (fun ρ q => ((hWi ρ).mp q).2) (fun ρ q1 q2 => (hWi ρ).mpr ⟨q1, q2⟩) po N 0 h (by omega) (by omega) rc rf (fun k hk => by omega)
    exact ⟨h', W, e', f', a1, hWi, a2, a3⟩
  · rw [if_neg (by rw [r]; decide)]
    exact ⟨h, W, rfl, Fr.rf, rc, r1, r2, r⟩
