/-! READ: the class's scanner -/
theorem c_at26 (N : Nat) {tn p : Nat} {tb : Nat → Nat} {h : xHp} (hT : Twf 400 tn tb) (c : Ctap tn tb h) (hp : p < 2 ^ 31) : F_X6_at_26 N (nI p) h = some (atv tn tb p, h) := by
  have hn := hT.1
  unfold F_X6_at_26 F_X6_at_26_34 atv
  rw [if_neg (nI_pos hp), c.1]
  by_cases q : p < tn
  · rw [if_neg (nI_ge q (by omega)), if_neg (by rw [show (400 : Int32) = nI 400 from rfl]; exact nI_ge (by omega) (by decide)), grd_t (xin_nI (by omega) (by decide)), nI_cl hp, c.2 p q, if_pos q]
  · rw [if_pos (nI_le (by omega) hp), if_neg q]
def LSc : Lc := [(46,1,5)]
theorem c_skip (N : Nat) {tn : Nat} {tb : Nat → Nat} (hT : Twf 400 tn tb) : ∀ (z f p : Nat) (h : xHp), tn < z + p → tn < f + p → p ≤ tn → Ctap tn tb h → gI h 46 1 = nI p → ∃ h', xit (F_X4_next_0_b N) (fun _ => none) z h = F_X4_next_43 N h' ∧ FL [(46,1,2)] h h' ∧ gI h' 46 1 = nI (skp (btx tn tb) f p) := by
  have hn := hT.1
  intro z
  induction z with
  | zero => intro f p h h1 h2 h3; omega
  | succ z ih =>
    intro f p h h1 h2 h3 c hp
    obtain ⟨f, rfl⟩ : ∃ f', f = f' + 1 := ⟨f - 1, by omega⟩
    show ∃ h', F_X4_next_0_b N (xit (F_X4_next_0_b N) (fun _ => none) z) h = _ ∧ _
    generalize xit (F_X4_next_0_b N) (fun _ => none) z = K at ih ⊢
    have e32 : (atv tn tb p = 32) ↔ btx tn tb p = 32 := by rw [show (32 : Int32) = nI 32 from rfl, atv_eq hT (by decide) (by decide)]
    unfold F_X4_next_0_b skp
    rw [hp, c.1, c_at26 N hT c (by omega), bnd2_p]
    simp only [e32]
    by_cases q : tn ≤ p
    · have nb : ¬ btx tn tb p = 32 := fun z => by have := btx_lt (tn := tn) (tb := tb) (p := p) (by omega); omega
      rw [if_pos (nI_le q (by omega)), if_neg nb]
      exact ⟨h, rfl, Fr.rf, hp⟩
    · rw [if_neg (nI_ge (by omega) (by omega))]
      by_cases q2 : btx tn tb p = 32
      · rw [if_pos q2, if_pos q2, hp, nI_1, bnd_eq]
        have f1 : FL [(46,1,2)] h (sI h 46 1 (nI (p + 1))) := FL.i h rfl
        obtain ⟨h', e', f', g'⟩ := ih f (p + 1) (sI h 46 1 (nI (p + 1))) (by omega) (by omega) (by omega) (c.ag (f1.ag rfl)) (by rw [gI_sI, if_pos rfl, if_pos rfl])
        exact ⟨h', e', f1.trans f', g'⟩
      · rw [if_neg q2, if_neg q2]
        exact ⟨h, rfl, Fr.rf, hp⟩
theorem c_digits (N : Nat) {tn s : Nat} {tb : Nat → Nat} (hT : Twf 400 tn tb) : ∀ (z f q v : Nat) (h : xHp), tn < z + q → tn < f + q → s ≤ q → q ≤ tn → Ctap tn tb h → gI h 46 1 = nI q → gI h 46 2 = nI s → gI h 46 4 = nI v → ∃ h', xit (F_X4_scanNumber_5_b N) (fun _ => none) z h = F_X4_scanNumber_90 N h' ∧ FL [(46,1,2),(46,4,5)] h h' ∧ gI h' 46 1 = nI (dgs (btx tn tb) s f q v).1 ∧ gI h' 46 4 = nI (dgs (btx tn tb) s f q v).2 := by
  have hn := hT.1
  intro z
  induction z with
  | zero => intro f q v h h1 h2 h3 h4; omega
  | succ z ih =>
    intro f q v h h1 h2 h3 h4 c hq hs hv
    obtain ⟨f, rfl⟩ : ∃ f', f = f' + 1 := ⟨f - 1, by omega⟩
    show ∃ h', F_X4_scanNumber_5_b N (xit (F_X4_scanNumber_5_b N) (fun _ => none) z) h = _ ∧ _
    generalize xit (F_X4_scanNumber_5_b N) (fun _ => none) z = K at ih ⊢
    have hT6 : Twf 6000 tn tb := hT.mono (by decide)
    unfold F_X4_scanNumber_5_b F_X4_scanNumber_77 dgs
    rw [hq, c.1, c_at26 N hT c (by omega), bnd2_p, atv_fig N hT6, bnd2_p]
    by_cases q1 : 48 ≤ btx tn tb q ∧ btx tn tb q ≤ 57
    · have hlt := btx_lt (tn := tn) (tb := tb) (p := q) (by omega)
      have sb : nI q - nI s = nI (q - s) := pk_sub h3
      rw [if_neg (nI_ge hlt (by omega)), if_pos q1, if_neg (nI_neg1 (by omega)), if_pos q1, hq, hs, sb, c_at26 N hT c (by omega), bnd2_p, atv_fig N hT6, bnd2_p, if_pos q1, hv]
      by_cases q7 : q - s < 7
      · have ev : nI v * 10 + nI (btx tn tb q - 48) = nI (10 * v + (btx tn tb q - 48)) := by rw [show (10 : Int32) = nI 10 from rfl, pk_mul, nI_add, Nat.mul_comm]
        rw [if_neg (by rw [show (7 : Int32) = nI 7 from rfl]; exact nI_ge q7 (by decide)), if_pos q7, ev, bnd_eq]
        have f1 : FL [(46,1,2),(46,4,5)] h (sI h 46 4 (nI (10 * v + (btx tn tb q - 48)))) := FL.i h rfl
        rw [show gI (sI h 46 4 (nI (10 * v + (btx tn tb q - 48)))) 46 1 = nI q by simp +decide only [gI_sI, if_false, if_true]; exact hq, nI_1, bnd_eq]
        have f2 : FL [(46,1,2),(46,4,5)] h (sI (sI h 46 4 (nI (10 * v + (btx tn tb q - 48)))) 46 1 (nI (q + 1))) := f1.trans (FL.i _ rfl)
        obtain ⟨h', e', f', g1, g2⟩ := ih f (q + 1) (10 * v + (btx tn tb q - 48)) _ (by omega) (by omega) (by omega) (by omega) (c.ag (f2.ag rfl)) (by simp +decide only [gI_sI, if_false, if_true]) (by rw [(f2.1 46 2 rfl).1]; exact hs) (by simp +decide only [gI_sI, if_false, if_true])
        exact ⟨h', e', f2.trans f', g1, g2⟩
      · rw [if_pos (by rw [show (7 : Int32) = nI 7 from rfl]; exact nI_le (by omega) (by omega)), if_neg q7, nI_1, bnd_eq]
        have f2 : FL [(46,1,2),(46,4,5)] h (sI h 46 1 (nI (q + 1))) := FL.i h rfl
        obtain ⟨h', e', f', g1, g2⟩ := ih f (q + 1) v _ (by omega) (by omega) (by omega) (by omega) (c.ag (f2.ag rfl)) (by simp +decide only [gI_sI, if_false, if_true]) (by rw [(f2.1 46 2 rfl).1]; exact hs) (by simp +decide only [gI_sI, if_false, if_true]; exact hv)
        exact ⟨h', e', f2.trans f', g1, g2⟩
    · rw [if_neg q1, if_pos rfl, if_neg q1]
      have : (if nI tn ≤ nI q then F_X4_scanNumber_90 N h else F_X4_scanNumber_90 N h) = F_X4_scanNumber_90 N h := by
        by_cases z : nI tn ≤ nI q
        · rw [if_pos z]
        · rw [if_neg z]
      rw [this]
      exact ⟨h, rfl, Fr.rf, hq, hv⟩
theorem c_follows (N : Nat) {tn p b : Nat} {tb : Nat → Nat} {h : xHp} (hT : Twf 400 tn tb) (c : Ctap tn tb h) (hp : p < 2 ^ 30) (hpl : gI h 46 1 = nI p) (h0 : 0 < b) (hb : b < 256) : F_X4_follows N (nI b) h = if btx tn tb p = b then some (1, sI h 46 1 (nI (p + 1))) else some (0, h) := by
  unfold F_X4_follows
  rw [hpl, c_at26 N hT c (by omega), bnd2_p, hpl, nI_1, bnd_eq]
  simp only [atv_eq hT h0 hb]
/-- what the scanner holds after its next -/
def SCx (s : Nat) (T : Nat × Nat × Nat) (h : xHp) : Prop := gI h 46 2 = nI s ∧ gI h 46 3 = nI T.1 ∧ gI h 46 1 = nI T.2.2 ∧ (T.1 = 259 ∨ T.1 = 260 → gI h 46 4 = nI T.2.1)
theorem c_kind (N : Nat) (hN : 7000 ≤ N) {tn s : Nat} {tb : Nat → Nat} {h : xHp} (hT : Twf 400 tn tb) (c : Ctap tn tb h) (hs : s ≤ tn) (hpl : gI h 46 1 = nI s) (hst : gI h 46 2 = nI s) : ∃ h', F_X4_kindHere N (atv tn tb s) h = some (nI (tok (btx tn tb) tn s).1, h') ∧ FL [(46,1,2),(46,4,5)] h h' ∧ gI h' 46 1 = nI (tok (btx tn tb) tn s).2.2 ∧ ((tok (btx tn tb) tn s).1 = 259 ∨ (tok (btx tn tb) tn s).1 = 260 → gI h' 46 4 = nI (tok (btx tn tb) tn s).2.1) := by
  have hn := hT.1
  have hT6 : Twf 6000 tn tb := hT.mono (by decide)
  have db := dgs_b (bt := btx tn tb) (tn := tn) (s := s) btx_n0 (tn + 1) s 0 (Nat.le_refl s) (by decide) (fun _ => by rw [Nat.sub_self]; decide)
  unfold F_X4_kindHere F_X4_kindHere_178 tok
  by_cases q0 : tn ≤ s
  · rw [if_pos q0, if_pos (show atv tn tb s = -1 by unfold atv; rw [if_neg (by omega)])]
    exact ⟨h, rfl, Fr.rf, hpl, fun z => absurd z (show ¬ ((261 : Nat) = 259 ∨ (261 : Nat) = 260) by decide)⟩
  · have ea : atv tn tb s = nI (btx tn tb s) := by unfold atv btx; rw [if_pos (by omega), if_pos (by omega)]
    have bb := btx_b (p := s) hT6
    have f1 : FL [(46,1,2),(46,4,5)] h (sI h 46 1 (nI (s + 1))) := FL.i h rfl
    have c1 : Ctap tn tb (sI h 46 1 (nI (s + 1))) := c.ag (f1.ag rfl)
    have p1 : gI (sI h 46 1 (nI (s + 1))) 46 1 = nI (s + 1) := by rw [gI_sI, if_pos rfl, if_pos rfl]
    rw [if_neg q0, if_neg (by rw [ea]; exact nI_neg1 (by omega)), atv_fig N hT6, bnd2_p]
    by_cases q1 : 48 ≤ btx tn tb s ∧ btx tn tb s ≤ 57
    · rw [if_pos q1, if_neg (nI_neg1 (by omega)), if_pos q1]
      unfold F_X4_scanNumber F_X4_scanNumber_5
      rw [bnd_eq]
      have f2 : FL [(46,1,2),(46,4,5)] h (sI h 46 4 0) := FL.i h rfl
      obtain ⟨h', e', f', g1, g2⟩ := c_digits N hT N (tn + 1) s 0 (sI h 46 4 0) (by omega) (by omega) (Nat.le_refl s) hs (c.ag (f2.ag rfl)) (by simp +decide only [gI_sI, if_false, if_true]; exact hpl) (by simp +decide only [gI_sI, if_false, if_true]; exact hst) (by simp +decide only [gI_sI, if_false, if_true])
      have s' : gI h' 46 2 = nI s := by rw [(f'.1 46 2 rfl).1, (f2.1 46 2 rfl).1]; exact hst
      rw [e']
      unfold F_X4_scanNumber_90 F_X4_scanNumber_113
      obtain ⟨d1, d2, d3⟩ := db
      have d2' := d2 hs
      rw [g1, g2, s', pk_sub d1, show (7 : Int32) = nI 7 from rfl, show (1000000 : Int32) = nI 1000000 from rfl]
      generalize dgs (btx tn tb) s (tn + 1) s 0 = D at d1 d2' d3 g1 g2 ⊢
      by_cases q2 : 7 < D.1 - s
      · rw [if_pos (nI_lt q2 (by omega)), bnd2_p, if_pos (Or.inl q2)]
        exact ⟨h', rfl, f2.trans f', g1, fun z => absurd z (show ¬ ((262 : Nat) = 259 ∨ (262 : Nat) = 260) by decide)⟩
      · rw [if_neg (nI_nlt (by omega) (by omega))]
        by_cases q3 : 1000000 < D.2
        · rw [if_neg (nI_ge q3 (by omega)), bnd2_p, if_pos (Or.inr q3)]
          exact ⟨h', rfl, f2.trans f', g1, fun z => absurd z (show ¬ ((262 : Nat) = 259 ∨ (262 : Nat) = 260) by decide)⟩
        · rw [if_pos (nI_le (by omega) (by decide)), bnd2_p, if_neg (by omega)]
          exact ⟨h', rfl, f2.trans f', g1, fun _ => g2⟩
    · rw [if_neg q1, if_pos rfl, if_neg q1, hpl, nI_1, bnd_eq, ea, show (35 : Int32) = nI 35 from rfl, show (38 : Int32) = nI 38 from rfl, show (40 : Int32) = nI 40 from rfl, show (41 : Int32) = nI 41 from rfl, show (45 : Int32) = nI 45 from rfl, show (60 : Int32) = nI 60 from rfl, show (61 : Int32) = nI 61 from rfl, show (62 : Int32) = nI 62 from rfl, show (124 : Int32) = nI 124 from rfl, show (126 : Int32) = nI 126 from rfl]
      simp only [eqc bb (show 35 < 256 by decide), eqc bb (show 38 < 256 by decide), eqc bb (show 40 < 256 by decide), eqc bb (show 41 < 256 by decide), eqc bb (show 45 < 256 by decide), eqc bb (show 60 < 256 by decide), eqc bb (show 61 < 256 by decide), eqc bb (show 62 < 256 by decide), eqc bb (show 124 < 256 by decide), eqc bb (show 126 < 256 by decide)]
      rw [c_follows N hT c1 (by omega) p1 (show 0 < 62 by decide) (by decide), c_follows N hT c1 (by omega) p1 (show 0 < 61 by decide) (by decide)]
      have f2 : FL [(46,1,2),(46,4,5)] h (sI (sI h 46 1 (nI (s + 1))) 46 1 (nI (s + 1 + 1))) := f1.trans (FL.i _ rfl)
      have p2 : gI (sI (sI h 46 1 (nI (s + 1))) 46 1 (nI (s + 1 + 1))) 46 1 = nI (s + 2) := by rw [gI_sI, if_pos rfl, if_pos rfl]
      have done1 : ∀ k : Nat, ∃ h', some (nI k, sI h 46 1 (nI (s + 1))) = some (nI k, h') ∧ FL [(46,1,2),(46,4,5)] h h' ∧ gI h' 46 1 = nI (s + 1) ∧ (False → gI h' 46 4 = nI 0) := fun k => ⟨_, rfl, f1, p1, fun z => z.elim⟩
      have done2 : ∀ k : Nat, ∃ h', some (nI k, sI (sI h 46 1 (nI (s + 1))) 46 1 (nI (s + 1 + 1))) = some (nI k, h') ∧ FL [(46,1,2),(46,4,5)] h h' ∧ gI h' 46 1 = nI (s + 2) ∧ (False → gI h' 46 4 = nI 0) := fun k => ⟨_, rfl, f2, p2, fun z => z.elim⟩
      generalize btx tn tb s = b at bb q1 ⊢
      by_cases q60 : b = 60
      · subst q60
        by_cases q : btx tn tb (s + 1) = 61
        · simp +decide only [q, if_false, if_true, bnd2_p]; exact done2 256
        · simp +decide only [q, if_false, if_true, bnd2_p]; exact done1 60
      · rw [if_neg q60]
        by_cases q62 : b = 62
        · subst q62
          by_cases q : btx tn tb (s + 1) = 61
          · simp +decide only [q, if_false, if_true, bnd2_p]; exact done2 257
          · simp +decide only [q, if_false, if_true, bnd2_p]; exact done1 62
        · rw [if_neg q62]
          by_cases q45 : b = 45
          · subst q45
            by_cases q : btx tn tb (s + 1) = 62
            · simp +decide only [q, if_false, if_true, bnd2_p]; exact done2 258
            · simp +decide only [q, if_false, if_true, bnd2_p]; exact done1 45
          · rw [if_neg q45]
            by_cases q7 : b = 35 ∨ b = 61 ∨ b = 38 ∨ b = 124 ∨ b = 126 ∨ b = 40 ∨ b = 41
            · rw [if_pos q7]
              rcases q7 with rfl | rfl | rfl | rfl | rfl | rfl | rfl <;> simp +decide only [if_false, if_true] <;> exact done1 _
            · have n35 : ¬ b = 35 := fun z => q7 (Or.inl z)
              have n61 : ¬ b = 61 := fun z => q7 (Or.inr (Or.inl z))
              have n38 : ¬ b = 38 := fun z => q7 (Or.inr (Or.inr (Or.inl z)))
              have n124 : ¬ b = 124 := fun z => q7 (Or.inr (Or.inr (Or.inr (Or.inl z))))
              have n126 : ¬ b = 126 := fun z => q7 (Or.inr (Or.inr (Or.inr (Or.inr (Or.inl z)))))
              have n40 : ¬ b = 40 := fun z => q7 (Or.inr (Or.inr (Or.inr (Or.inr (Or.inr (Or.inl z))))))
              have n41 : ¬ b = 41 := fun z => q7 (Or.inr (Or.inr (Or.inr (Or.inr (Or.inr (Or.inr z))))))
              rw [if_neg q7, if_neg n35, if_neg n38, if_neg n40, if_neg n41, if_neg q45, if_neg q60, if_neg n61, if_neg q62, if_neg n124, if_neg n126]
              unfold F_X4_scanVariable F_X4_scanVariable_43
              have e1 : (nI b = 122) ↔ b = 122 := eqc bb (show 122 < 256 by decide)
              have e2 : (nI b < 97) ↔ b < 97 := by rw [show (97 : Int32) = nI 97 from rfl, nI_ltI (by omega) (by omega)]
              have e3 : ((111 : Int32) < nI b) ↔ 111 < b := by rw [show (111 : Int32) = nI 111 from rfl, nI_ltI (by omega) (by omega)]
              simp only [e1, e2, e3, bnd_eq]
              have f3 : ∀ v : Int32, FL [(46,1,2),(46,4,5)] h (sI (sI h 46 1 (nI (s + 1))) 46 4 v) := fun v => f1.trans (FL.i _ rfl)
              have p3 : ∀ v : Int32, gI (sI (sI h 46 1 (nI (s + 1))) 46 4 v) 46 1 = nI (s + 1) := fun v => by simp +decide only [gI_sI, if_false, if_true]
              have v3 : ∀ v : Int32, gI (sI (sI h 46 1 (nI (s + 1))) 46 4 v) 46 4 = v := fun v => by simp +decide only [gI_sI, if_false, if_true]
              by_cases q122 : b = 122
              · rw [if_pos q122, if_pos q122, bnd2_p]
                exact ⟨_, rfl, f3 _, p3 _, fun _ => v3 _⟩
              · rw [if_neg q122, if_neg q122]
                by_cases q97 : b < 97
                · rw [if_pos q97, bnd2_p, if_neg (by omega)]
                  exact ⟨_, rfl, f3 _, p3 _, fun z => absurd z (show ¬ ((262 : Nat) = 259 ∨ (262 : Nat) = 260) by decide)⟩
                · rw [if_neg q97]
                  by_cases q111 : 111 < b
                  · rw [if_pos q111, bnd2_p, if_neg (by omega)]
                    exact ⟨_, rfl, f3 _, p3 _, fun z => absurd z (show ¬ ((262 : Nat) = 259 ∨ (262 : Nat) = 260) by decide)⟩
                  · have ev : nI b - 97 + 1 = nI (b - 96) := by rw [show (97 : Int32) = nI 97 from rfl, pk_sub (by omega), nI_1, show b - 97 + 1 = b - 96 by omega]
                    rw [if_neg q111, bnd2_p, if_pos (by omega), ev]
                    exact ⟨_, rfl, f3 _, p3 _, fun _ => v3 _⟩
theorem c_next (N : Nat) (hN : 7000 ≤ N) {tn p : Nat} {tb : Nat → Nat} {h : xHp} (hT : Twf 400 tn tb) (c : Ctap tn tb h) (hp : p ≤ tn) (hpl : gI h 46 1 = nI p) : ∃ h', F_X4_next N h = some ((), h') ∧ FL LSc h h' ∧ SCx (skp (btx tn tb) (tn + 1) p) (tok (btx tn tb) tn (skp (btx tn tb) (tn + 1) p)) h' := by
  have hn := hT.1
  obtain ⟨h1, e1, f1, p1⟩ := c_skip N hT N (tn + 1) p h (by omega) (by omega) hp c hpl
  have sb := (skp_b (bt := btx tn tb) (tn := tn) btx_n0 (tn + 1) p).2 hp
  unfold F_X4_next F_X4_next_0
  rw [e1]
  generalize skp (btx tn tb) (tn + 1) p = s at p1 sb ⊢
  unfold F_X4_next_43
  rw [p1, bnd_eq]
  have f2 : FL [(46,2,3)] h1 (sI h1 46 2 (nI s)) := FL.i h1 rfl
  have f12 : FL LSc h (sI h1 46 2 (nI s)) := FL.cat f1 f2 rfl rfl
  have p2 : gI (sI h1 46 2 (nI s)) 46 1 = nI s := by rw [(f2.1 46 1 rfl).1]; exact p1
  have c2 := c.ag (f12.ag rfl)
  rw [p2, c_at26 N hT c2 (by omega), bnd2_p]
  obtain ⟨h3, e3, f3, g1, g2⟩ := c_kind N hN hT c2 sb p2 (by rw [gI_sI, if_pos rfl, if_pos rfl])
  rw [e3, bnd2_p, bnd_eq]
  have f4 : FL [(46,3,4)] h3 (sI h3 46 3 (nI (tok (btx tn tb) tn s).1)) := FL.i h3 rfl
  refine ⟨_, rfl, FL.cat f12 (FL.cat f3 f4 rfl rfl : FL LSc _ _) rfl rfl, ?_, ?_, ?_, fun z => ?_⟩
  · rw [(f4.1 46 2 rfl).1, (f3.1 46 2 rfl).1, gI_sI, if_pos rfl, if_pos rfl]
  · rw [gI_sI, if_pos rfl, if_pos rfl]
  · rw [(f4.1 46 1 rfl).1]; exact g1
  · rw [(f4.1 46 4 rfl).1]; exact g2 z
