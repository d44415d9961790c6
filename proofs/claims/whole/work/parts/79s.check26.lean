/-! CHECK: the class's checker over the text in cell 26 -/
def Ctx26 (tn : Nat) (tb : Nat → Nat) (h : xHp) : Prop := h.2.2 = 26 ∧ gI h 26 1 = nI tn ∧ ∀ k, k < tn → gI h 27 k &&& 255 = nI (tb k)
theorem Ctx26.fr {tn : Nat} {tb : Nat → Nat} {h h' : xHp} {L : Lc} (f : FL L h h') (d : djL [(26,1,2),(27,0,0)] L = true) (c : Ctx26 tn tb h) : Ctx26 tn tb h' := by
  have a := f.ag d
  exact ⟨f.2.trans c.1, (a 26 1 rfl).trans c.2.1, fun k hk => by rw [a 27 k rfl]; exact c.2.2 k hk⟩
theorem k26_at (N : Nat) {tn p : Nat} {tb : Nat → Nat} {h : xHp} (hT : Twf 400 tn tb) (c : Ctx26 tn tb h) (hp : p < 2 ^ 31) : F_X6_at_26 N (nI p) h = some (atv tn tb p, h) := by
  have hn := hT.1
  unfold F_X6_at_26 F_X6_at_26_34 atv
  rw [if_neg (nI_pos hp), c.2.1]
  by_cases q : p < tn
  · rw [if_neg (nI_ge q (by omega)), if_neg (by rw [show (400 : Int32) = nI 400 from rfl]; exact nI_ge (by omega) (by decide)), grd_t (xin_nI (by omega) (by decide)), nI_cl hp, c.2.2 p q, if_pos q]
  · rw [if_pos (nI_le (by omega) hp), if_neg q]
theorem k26_pass (N : Nat) {tn p c : Nat} {tb : Nat → Nat} {h : xHp} (hT : Twf 400 tn tb) (x : Ctx26 tn tb h) (hp : p < 2 ^ 30) (hpl : gI h 50 3 = nI p) (h0 : 0 < c) (hc : c < 256) : F_X0_pass_t26 N (nI c) h = if btx tn tb p = c then some (1, sI h 50 3 (nI (p + 1))) else some (0, h) := by
  unfold F_X0_pass_t26
  rw [grd_t (decide_eq_true x.1), hpl, k26_at N hT x (by omega), bnd2_p]
  simp only [atv_eq hT h0 hc, hpl, nI_1, bnd_eq]
theorem k26_lead (N : Nat) {x y : Nat} {m : Int32} {bg : Bool} {b e : Nat} {s : Int} {h : xHp} (hx : x < 16) (he : bg = true → e < 16) (r : RS bg b e s h) (hs : -20000000000 ≤ s ∧ s ≤ 20000000000) (hm : -1000001 ≤ m.toInt ∧ m.toInt ≤ 1000001) : (bg = true ∧ x ≠ e ∧ F_X0_leadOn_t26 N (nI x) (nI y) m h = some (0, h)) ∨ (¬ (bg = true ∧ x ≠ e) ∧ ∃ h', F_X0_leadOn_t26 N (nI x) (nI y) m h = some (1, h') ∧ FL [(50,4,8)] h h' ∧ RS true (if bg = true then b else x) y (s + m.toInt) h') := by
  obtain ⟨r1, r2, r3⟩ := r
  have sm : ∀ hx : xHp, (gJ hx 50 7).toInt = s → (gJ hx 50 7 + m.toInt64).toInt = s + m.toInt := fun hx q => i64_add q (i32_64 _) (by omega) (by omega)
  unfold F_X0_leadOn_t26 F_X0_leadOn_t26_17 F_X0_leadOn_t26_34
  cases bg with
  | false =>
    refine Or.inr ⟨fun q => absurd q.1 (by decide), ?_⟩
    rw [r1, if_pos (by decide), if_pos (by decide)]
    simp only [bnd_eq]
    refine ⟨_, rfl, ((FL.i h rfl).trans (FL.i _ rfl)).trans ((FL.i _ rfl).trans (FL.j _ rfl)), ?_, fun _ => ⟨?_, ?_⟩, ?_⟩
    · simp +decide only [gI_sJ, gI_sI, if_false, if_true, b32]
    · simp +decide only [gI_sJ, gI_sI, if_false, if_true]
    · simp +decide only [gI_sJ, gI_sI, if_false, if_true]
    · rw [gJ_sJ, if_pos rfl, if_pos rfl]
      exact sm _ r3
  | true =>
    obtain ⟨r4, r5⟩ := r2 rfl
    rw [r1, if_neg (by decide), r5]
    by_cases q : x = e
    · subst q
      refine Or.inr ⟨fun q => q.2 rfl, ?_⟩
      rw [if_pos rfl, if_neg (by decide)]
      simp only [bnd_eq]
      refine ⟨_, rfl, (FL.i h rfl).trans (FL.j _ rfl), ?_, fun _ => ⟨?_, ?_⟩, ?_⟩
      · simp +decide only [gI_sJ, gI_sI, if_false, if_true, b32]; exact r1
      · simp +decide only [gI_sJ, gI_sI, if_false, if_true]; exact r4
      · simp +decide only [gI_sJ, gI_sI, if_false, if_true]
      · rw [gJ_sJ, if_pos rfl, if_pos rfl]
        exact sm _ r3
    · refine Or.inl ⟨rfl, q, ?_⟩
      have he' := he rfl
      rw [if_neg (by rw [nI_eq (by omega) (by omega)]; exact q)]
theorem k26_given (N : Nat) {tn p n an : Nat} {tb : Nat → Nat} {E A : Ed} {cs : List Nat} {g : Nat → Nat} {bg : Bool} {b e : Nat} {s : Int} {h : xHp} (hA : Awf an A) (han : an ≤ 10) (rf : Cfor an A cs h) (hg : ∀ k, k < 10 → gI h 34 k = nI (g k)) (hg2 : ∀ k, g k ≤ 2) (hp : p < 2 ^ 30) (hpl : gI h 50 3 = nI p) (hfig : 48 ≤ btx tn tb p ∧ btx tn tb p ≤ 57) (he : bg = true → e < 16) (r : RS bg b e s h) (hs : -20000000000 ≤ s ∧ s ≤ 20000000000) : ∃ h' q, F_X0_passGiven_t26 N (nI (btx tn tb p - 48)) h = some (q, h') ∧ FL LCk h h' ∧ IO1 (itAt (btx tn tb) n E an A g p) p bg b e s h' q := by
  have k10 : btx tn tb p - 48 < 10 := by omega
  unfold F_X0_passGiven_t26 F_X0_passGiven_t26_28
  rw [if_neg (nI_pos (by omega)), rf.1]
  have hI : itAt (btx tn tb) n E an A g p = if btx tn tb p - 48 < an ∧ g (btx tn tb p - 48) ≠ 1 then (true, p + 1, dif A g (btx tn tb p - 48)) else (false, p, (0, 0, 0)) := by unfold itAt; rw [if_pos hfig]
  generalize btx tn tb p - 48 = k at k10 hI ⊢
  have no : ¬ (k < an ∧ g k ≠ 1) → IO1 (itAt (btx tn tb) n E an A g p) p bg b e s h 0 := fun q => by
    rw [hI, if_neg q]
    exact Or.inl ⟨rfl, Or.inl ⟨rfl, hpl⟩⟩
  by_cases q1 : k < an
  · rw [if_neg (nI_ge q1 (by omega)), grd_t (xin_nI k10 (by decide)), nI_cl (by omega), hg k k10]
    by_cases q2 : g k = 1
    · rw [if_pos (by rw [q2]; rfl)]
      exact ⟨h, 0, rfl, Fr.rf, no (fun q => q.2 q2)⟩
    · rw [if_neg (by rw [show (1 : Int32) = nI 1 from rfl, nI_eq (by have := hg2 k; omega) (by decide)]; exact q2)]
      obtain ⟨c1, c2, c, c3, c4⟩ := c_dif N rf hA han q1 (hg k k10) (hg2 k)
      obtain ⟨w1, w2, w3, w4⟩ := dif_wf (g := g) hA q1
      rw [c1, bnd2_p, c2, bnd2_p, c4, bnd2_p]
      rw [if_pos ⟨q1, q2⟩] at hI
      rcases k26_lead N (y := (dif A g k).2.1) (m := c) w1 he r hs (by omega) with ⟨l1, l2, l3⟩ | ⟨l1, h', l2, l3, l4⟩
      · rw [l3, bnd2_p, if_pos rfl]
        refine ⟨h, 0, rfl, Fr.rf, ?_⟩
        rw [hI]
        exact Or.inl ⟨rfl, Or.inr ⟨rfl, ⟨l1, l2⟩, hpl⟩⟩
      · have hp' : gI h' 50 3 = nI p := by rw [(l3.1 50 3 rfl).1]; exact hpl
        rw [l2, bnd2_p, if_neg (by decide), hp', nI_1, bnd_eq]
        have f3 : FL [(50,3,4)] h' (sI h' 50 3 (nI (p + 1))) := FL.i h' rfl
        refine ⟨_, 1, rfl, FL.cat l3 f3 rfl rfl, ?_⟩
        rw [hI]
        rw [c3] at l4
        exact Or.inr ⟨rfl, rfl, l1, by rw [gI_sI, if_pos rfl, if_pos rfl], l4.fr f3 rfl⟩
  · rw [if_pos (nI_le (by omega) (by omega))]
    exact ⟨h, 0, rfl, Fr.rf, no (fun q => q1 q.1)⟩
theorem k26_end (N : Nat) {tn p p2 n k : Nat} {tb : Nat → Nat} {E : Ed} {bg : Bool} {b e : Nat} {s : Int} {h : xHp} (hT : Twf 400 tn tb) (hw : Ewf n E) (x : Ctx26 tn tb h) (rc : Ccon n E h) (hp : p < 2 ^ 30) (hp2 : p2 < 2 ^ 30) (hpl : gI h 50 3 = nI p2) (hk : k < 100) (he : bg = true → e < 16) (r : RS bg b e s h) (hs : -20000000000 ≤ s ∧ s ≤ 20000000000) : ∃ h' q, F_X0_passConstraint_t26_85 N (nI p) (nI k) h = some (q, h') ∧ FL LCk h h' ∧ IO1 (if btx tn tb p2 = 93 then (if k < n then (true, p2 + 1, E k) else (false, p, (0, 0, 0))) else (false, p2, (0, 0, 0))) p bg b e s h' q := by
  unfold F_X0_passConstraint_t26_85 F_X0_passConstraint_t26_141
  rw [show (93 : Int32) = nI 93 from rfl, k26_pass N hT x hp2 hpl (by decide) (by decide)]
  by_cases q1 : btx tn tb p2 = 93
  · have f1 : FL [(50,3,4)] h (sI h 50 3 (nI (p2 + 1))) := FL.i h rfl
    have rc1 := rc.ag (f1.ag rfl)
    have hn := hw.1
    rw [if_pos q1, if_pos q1, bnd2_p, if_neg (by decide), rc1.1]
    by_cases q2 : k < n
    · obtain ⟨a1, a2, a3⟩ := rc1.2 k q2
      obtain ⟨w1, w2, w3, w4⟩ := hw.2 k q2
      rw [if_neg (nI_ge q2 (by omega)), if_pos q2, grd_t (xin_nI (show k < 70 by omega) (by decide)), grd_t (xin_nI (show k < 70 by omega) (by decide)), grd_t (xin_nI (show k < 70 by omega) (by decide)), nI_cl (by omega), a1, a2]
      rcases k26_lead N (y := (E k).2.1) (m := gI (sI h 50 3 (nI (p2 + 1))) 4 k) w1 he (r.fr f1 rfl) hs (by omega) with ⟨l1, l2, l3⟩ | ⟨l1, h', l2, l3, l4⟩
      · rw [l3, bnd2_p, if_pos rfl, bnd_eq]
        have f2 : FL [(50,3,4)] (sI h 50 3 (nI (p2 + 1))) (sI (sI h 50 3 (nI (p2 + 1))) 50 3 (nI p)) := FL.i _ rfl
        exact ⟨_, 0, rfl, FL.cat f1 f2 rfl rfl, Or.inl ⟨rfl, Or.inr ⟨rfl, ⟨l1, l2⟩, by rw [gI_sI, if_pos rfl, if_pos rfl]⟩⟩⟩
      · rw [l2, bnd2_p, if_neg (by decide)]
        rw [a3] at l4
        exact ⟨h', 1, rfl, FL.cat f1 l3 rfl rfl, Or.inr ⟨rfl, rfl, l1, by rw [(l3.1 50 3 rfl).1, gI_sI, if_pos rfl, if_pos rfl], l4⟩⟩
    · rw [if_pos (nI_le (by omega) (by omega)), if_neg q2, bnd_eq]
      have f2 : FL [(50,3,4)] (sI h 50 3 (nI (p2 + 1))) (sI (sI h 50 3 (nI (p2 + 1))) 50 3 (nI p)) := FL.i _ rfl
      exact ⟨_, 0, rfl, FL.cat f1 f2 rfl rfl, Or.inl ⟨rfl, Or.inl ⟨rfl, by rw [gI_sI, if_pos rfl, if_pos rfl]⟩⟩⟩
  · rw [if_neg q1, if_neg q1, bnd2_p, if_pos rfl]
    exact ⟨h, 0, rfl, Fr.rf, Or.inl ⟨rfl, Or.inl ⟨rfl, hpl⟩⟩⟩
theorem k26_con (N : Nat) {tn p n an : Nat} {tb : Nat → Nat} {E A : Ed} {g : Nat → Nat} {bg : Bool} {b e : Nat} {s : Int} {h : xHp} (hT : Twf 400 tn tb) (hw : Ewf n E) (x : Ctx26 tn tb h) (rc : Ccon n E h) (hp : p < 2 ^ 29) (hpl : gI h 50 3 = nI p) (hfig : ¬ (48 ≤ btx tn tb p ∧ btx tn tb p ≤ 57)) (he : bg = true → e < 16) (r : RS bg b e s h) (hs : -20000000000 ≤ s ∧ s ≤ 20000000000) : ∃ h' q, F_X0_passConstraint_t26 N h = some (q, h') ∧ FL LCk h h' ∧ IO1 (itAt (btx tn tb) n E an A g p) p bg b e s h' q := by
  unfold F_X0_passConstraint_t26 itAt
  rw [if_neg hfig, show (91 : Int32) = nI 91 from rfl, k26_pass N hT x (by omega) hpl (by decide) (by decide)]
  by_cases q1 : btx tn tb p = 91
  · have f1 : FL [(50,3,4)] h (sI h 50 3 (nI (p + 1))) := FL.i h rfl
    have x1 := x.fr f1 rfl
    have p1 : gI (sI h 50 3 (nI (p + 1))) 50 3 = nI (p + 1) := by rw [gI_sI, if_pos rfl, if_pos rfl]
    rw [if_pos q1, if_pos q1, bnd2_p, if_neg (by decide), grd_t (decide_eq_true x1.1), p1, k26_at N hT x1 (by omega), bnd2_p, atv_fig N hT, bnd2_p]
    by_cases q2 : 48 ≤ btx tn tb (p + 1) ∧ btx tn tb (p + 1) ≤ 57
    · rw [if_pos q2, if_pos q2, if_neg (nI_neg1 (by omega)), p1, nI_1, bnd_eq]
      have f2 : FL [(50,3,4)] (sI h 50 3 (nI (p + 1))) (sI (sI h 50 3 (nI (p + 1))) 50 3 (nI (p + 1 + 1))) := FL.i _ rfl
      have x2 := x1.fr f2 rfl
      have p2 : gI (sI (sI h 50 3 (nI (p + 1))) 50 3 (nI (p + 1 + 1))) 50 3 = nI (p + 2) := by rw [gI_sI, if_pos rfl, if_pos rfl]
      have f12 : FL [(50,3,4)] h (sI (sI h 50 3 (nI (p + 1))) 50 3 (nI (p + 1 + 1))) := f1.trans f2
      rw [grd_t (decide_eq_true x2.1), p2, k26_at N hT x2 (by omega), bnd2_p, atv_fig N hT, bnd2_p, hpl]
      by_cases q3 : 48 ≤ btx tn tb (p + 2) ∧ btx tn tb (p + 2) ≤ 57
      · rw [if_pos q3, if_pos q3, if_neg (nI_neg1 (by omega)), p2, nI_1, bnd_eq]
        have f3 : FL [(50,3,4)] (sI (sI h 50 3 (nI (p + 1))) 50 3 (nI (p + 1 + 1))) (sI (sI (sI h 50 3 (nI (p + 1))) 50 3 (nI (p + 1 + 1))) 50 3 (nI (p + 2 + 1))) := FL.i _ rfl
        have f13 := f12.trans f3
        have ek : (10 : Int32) * nI (btx tn tb (p + 1) - 48) + nI (btx tn tb (p + 2) - 48) = nI (10 * (btx tn tb (p + 1) - 48) + (btx tn tb (p + 2) - 48)) := by rw [show (10 : Int32) = nI 10 from rfl, pk_mul, nI_add]
        rw [ek]
        obtain ⟨h', q, e', f', i'⟩ := k26_end N (p := p) (p2 := p + 3) (k := 10 * (btx tn tb (p + 1) - 48) + (btx tn tb (p + 2) - 48)) (E := E) (n := n) hT hw (x.fr f13 rfl) (rc.ag (FL.ag f13 rfl)) (by omega) (by omega) (by rw [gI_sI, if_pos rfl, if_pos rfl]) (by omega) he (r.fr f13 rfl) hs
        exact ⟨h', q, e', FL.cat f13 f' rfl rfl, i'⟩
      · rw [if_neg q3, if_neg q3, if_pos rfl]
        obtain ⟨h', q, e', f', i'⟩ := k26_end N (p := p) (p2 := p + 2) (k := btx tn tb (p + 1) - 48) (E := E) (n := n) hT hw x2 (rc.ag (FL.ag f12 rfl)) (by omega) (by omega) p2 (by omega) he (r.fr f12 rfl) hs
        exact ⟨h', q, e', FL.cat f12 f' rfl rfl, i'⟩
    · rw [if_neg q2, if_neg q2, if_pos rfl]
      exact ⟨_, 0, rfl, FL.sub f1 rfl, Or.inl ⟨rfl, Or.inl ⟨rfl, p1⟩⟩⟩
  · rw [if_neg q1, if_neg q1, bnd2_p, if_pos rfl]
    exact ⟨h, 0, rfl, Fr.rf, Or.inl ⟨rfl, Or.inl ⟨rfl, hpl⟩⟩⟩
theorem k26_round_go (N : Nat) {tn n an : Nat} {tb : Nat → Nat} {E A : Ed} {cs : List Nat} {g : Nat → Nat} (hT : Twf 400 tn tb) (hw : Ewf n E) (hA : Awf an A) (han : an ≤ 10) (hg2 : ∀ k, g k ≤ 2) : ∀ (z f i p : Nat) (bg : Bool) (b e : Nat) (s : Int) (h : xHp), tn < z + i → tn < f + p → i < p → p ≤ tn → Ctx26 tn tb h → Ccon n E h → Cfor an A cs h → (∀ k, k < 10 → gI h 34 k = nI (g k)) → gI h 50 3 = nI p → (bg = true → e < 16 ∧ b < 16) → RS bg b e s h → (-((i : Int) * 1000001) ≤ s ∧ s ≤ (i : Int) * 1000001) → ∃ h', xit (F_X0_passRound_t26_22_b N) (fun _ _ => none) z (nI i) h = some (b32 (ckI (btx tn tb) n E an A g f p bg b e s).2, h') ∧ FL LCk h h' ∧ gI h' 50 3 = nI (ckI (btx tn tb) n E an A g f p bg b e s).1 := by
  have hR := hT.1
  intro z
  induction z with
  | zero => intro f i p bg b e s h h1 h2 h3 h4; omega
  | succ z ih =>
    intro f i p bg b e s h h1 h2 h3 h4 x rc rf hg hpl hbe r hs
    obtain ⟨f, rfl⟩ : ∃ f', f = f' + 1 := ⟨f - 1, by omega⟩
    show ∃ h', F_X0_passRound_t26_22_b N (xit (F_X0_passRound_t26_22_b N) (fun _ _ => none) z) (nI i) h = _ ∧ _
    generalize xit (F_X0_passRound_t26_22_b N) (fun _ _ => none) z = K at ih ⊢
    have e59 : (atv tn tb p = 59) ↔ btx tn tb p = 59 := by rw [show (59 : Int32) = nI 59 from rfl, atv_eq hT (by decide) (by decide)]
    unfold F_X0_passRound_t26_22_b F_X0_passRound_t26_83 F_X0_passRound_t26_85 ckI
    rw [if_neg (by rw [show (6000 : Int32) = nI 6000 from rfl]; exact nI_ge (by omega) (by decide)), grd_t (decide_eq_true x.1), hpl, k26_at N hT x (by omega), bnd2_p]
    simp only [e59]
    by_cases q59 : btx tn tb p = 59
    · rw [if_pos q59, if_pos q59]
      unfold F_X0_passRound_t26_91 F_X0_passRound_t26_131
      obtain ⟨r1, r2, r3⟩ := r
      rw [r1]
      cases bg with
      | false =>
        rw [if_pos (by decide), if_neg (fun q => absurd q.1 (by decide))]
        exact ⟨h, rfl, Fr.rf, hpl⟩
      | true =>
        obtain ⟨r4, r5⟩ := r2 rfl
        obtain ⟨b1, b2⟩ := hbe rfl
        have eeq : (nI e = nI b) ↔ e = b := nI_eq (by omega) (by omega)
        have es : ((0 : Int32) ≤ lg_cmp (gJ h 50 7) 0) ↔ ¬ s < 0 := by
          rw [lg_cmp_ge, Int64.le_iff_toInt_le, r3, show ((0 : Int64)).toInt = 0 by decide]
          omega
        rw [if_neg (by decide), r4, r5, show (59 : Int32) = nI 59 from rfl, k26_pass N hT x (by omega) hpl (by decide) (by decide), if_pos q59, bnd2_p, if_neg (show ¬ (1 : Int32) = 0 by decide)]
        simp only [eeq, es]
        by_cases q1 : e = b
        · rw [if_pos q1]
          by_cases q2 : s < 0
          · rw [if_neg (fun q => q q2), if_pos ⟨trivial, q1, q2⟩]
            exact ⟨_, rfl, FL.i h rfl, by rw [gI_sI, if_pos rfl, if_pos rfl]⟩
          · rw [if_pos q2, if_neg (fun q => q2 q.2.2)]
            exact ⟨h, rfl, Fr.rf, hpl⟩
        · rw [if_neg q1, if_neg (fun q => q1 q.2.1)]
          exact ⟨h, rfl, Fr.rf, hpl⟩
    · rw [if_neg q59, if_neg q59, grd_t (decide_eq_true x.1), hpl, k26_at N hT x (by omega), bnd2_p, atv_fig N hT, bnd2_p]
      have go : ∀ (h' : xHp) (q : Int32), FL LCk h h' → IO1 (itAt (btx tn tb) n E an A g p) p bg b e s h' q → ∃ h'', (if q = 0 then some (0, h') else K (nI i + 1) h') = some (b32 (if (itAt (btx tn tb) n E an A g p).1 = false then ((itAt (btx tn tb) n E an A g p).2.1, false) else if bg = true ∧ (itAt (btx tn tb) n E an A g p).2.2.1 ≠ e then (p, false) else ckI (btx tn tb) n E an A g f (itAt (btx tn tb) n E an A g p).2.1 true (if bg = true then b else (itAt (btx tn tb) n E an A g p).2.2.1) (itAt (btx tn tb) n E an A g p).2.2.2.1 (s + (itAt (btx tn tb) n E an A g p).2.2.2.2)).2, h'') ∧ FL LCk h h'' ∧ gI h'' 50 3 = nI (if (itAt (btx tn tb) n E an A g p).1 = false then ((itAt (btx tn tb) n E an A g p).2.1, false) else if bg = true ∧ (itAt (btx tn tb) n E an A g p).2.2.1 ≠ e then (p, false) else ckI (btx tn tb) n E an A g f (itAt (btx tn tb) n E an A g p).2.1 true (if bg = true then b else (itAt (btx tn tb) n E an A g p).2.2.1) (itAt (btx tn tb) n E an A g p).2.2.2.1 (s + (itAt (btx tn tb) n E an A g p).2.2.2.2)).1 := by
        intro h' q fr io
        rcases io with ⟨rfl, ⟨a1, a2⟩ | ⟨a1, a2, a3⟩⟩ | ⟨rfl, a1, a2, a3, a4⟩
        · rw [if_pos rfl, if_pos a1]; exact ⟨h', rfl, fr, a2⟩
        · rw [if_pos rfl, if_neg (by rw [a1]; decide), if_pos a2]; exact ⟨h', rfl, fr, a3⟩
        · obtain ⟨p1, p2, p3⟩ := itAt_p (tn := tn) (n := n) (an := an) (p := p) (tb := tb) (E := E) (A := A) (g := g)
          obtain ⟨w1, w2, w3, w4⟩ := itAt_wf (bt := btx tn tb) (p := p) (g := g) hw hA a1
          have p3' := p3 a1
          have p2' := p2 h4
          rw [if_neg (by decide), if_neg (by rw [a1]; decide), if_neg a2, nI_1]
          obtain ⟨h'', e'', f'', g''⟩ := ih f (i + 1) (itAt (btx tn tb) n E an A g p).2.1 true (if bg = true then b else (itAt (btx tn tb) n E an A g p).2.2.1) (itAt (btx tn tb) n E an A g p).2.2.2.1 (s + (itAt (btx tn tb) n E an A g p).2.2.2.2) h' (by omega) (by omega) (by omega) p2' (x.fr fr rfl) (rc.ag (fr.ag rfl)) (rf.ag (fr.ag rfl)) (fun k hk => by rw [(fr.1 34 k rfl).1]; exact hg k hk) a3 (fun _ => ⟨w2, by
            by_cases qb : bg = true
            · rw [if_pos qb]; exact (hbe qb).2
            · rw [if_neg qb]; exact w1⟩) a4 (by
            have : ((i + 1 : Nat) : Int) * 1000001 = (i : Int) * 1000001 + 1000001 := by rw [Int.natCast_add, Int.add_mul]; omega
            omega)
          exact ⟨h'', e'', fr.trans f'', g''⟩
      by_cases qf : 48 ≤ btx tn tb p ∧ btx tn tb p ≤ 57
      · rw [if_pos qf, if_neg (nI_neg1 (by omega))]
        obtain ⟨h', q, e', f', io⟩ := k26_given N (tn := tn) (p := p) (n := n) (E := E) (bg := bg) (b := b) (e := e) (s := s) hA han rf hg hg2 (by omega) hpl qf (fun q => (hbe q).1) r (by omega)
        rw [e', bnd2_p]
        exact go h' q f' io
      · rw [if_neg qf, if_pos rfl]
        obtain ⟨h', q, e', f', io⟩ := k26_con N (an := an) (A := A) (g := g) (bg := bg) (b := b) (e := e) (s := s) hT hw x rc (by omega) hpl qf (fun q => (hbe q).1) r (by omega)
        rw [e', bnd2_p]
        exact go h' q f' io
theorem k26_round (N : Nat) (hN : 7000 ≤ N) {tn n an p : Nat} {tb : Nat → Nat} {E A : Ed} {cs : List Nat} {g : Nat → Nat} {h : xHp} (hT : Twf 400 tn tb) (hw : Ewf n E) (hA : Awf an A) (han : an ≤ 10) (hg2 : ∀ k, g k ≤ 2) (x : Ctx26 tn tb h) (rc : Ccon n E h) (rf : Cfor an A cs h) (hg : ∀ k, k < 10 → gI h 34 k = nI (g k)) (hpl : gI h 50 3 = nI p) (hp : p < tn) : ∃ h', F_X0_passRound_t26 N h = some (b32 (ckI (btx tn tb) n E an A g (tn + 1) (p + 1) false 0 0 0).2, h') ∧ FL LCk h h' ∧ gI h' 50 3 = nI (ckI (btx tn tb) n E an A g (tn + 1) (p + 1) false 0 0 0).1 := by
  have hR := hT.1
  have f1 : FL LCk h (sJ (sI (sI h 50 3 (nI (p + 1))) 50 4 0) 50 7 0) := (FL.i h rfl).trans ((FL.i _ rfl).trans (FL.j _ rfl))
  obtain ⟨h', e', f', g'⟩ := k26_round_go N (cs := cs) hT hw hA han hg2 N (tn + 1) 0 (p + 1) false 0 0 0 (sJ (sI (sI h 50 3 (nI (p + 1))) 50 4 0) 50 7 0) (by omega) (by omega) (by omega) (by omega) (x.fr f1 rfl) (rc.ag (f1.ag rfl)) (rf.ag (f1.ag rfl)) (fun k hk => by rw [(f1.1 34 k rfl).1]; exact hg k hk) (by simp +decide only [gI_sJ, gI_sI, if_false, if_true]) (fun q => absurd q (by decide)) ⟨by simp +decide only [gI_sJ, gI_sI, if_false, if_true, b32], (fun q => absurd q (by decide)), by rw [gJ_sJ, if_pos rfl, if_pos rfl]; decide⟩ (by omega)
  refine ⟨h', ?_, f1.trans f', g'⟩
  unfold F_X0_passRound_t26 F_X0_passRound_t26_22
  rw [hpl, nI_1, bnd_eq, bnd_eq, bnd_eq]
  exact e'
theorem k26_tree (N : Nat) (hN : 7000 ≤ N) {tn n an : Nat} {tb : Nat → Nat} {E A : Ed} {cs : List Nat} (hT : Twf 400 tn tb) (pf : PF n E an A cs) : ∀ (z f d p : Nat) (g : Nat → Nat) (h : xHp), f + d = an → f < z → opn an g = f → (∀ k, g k ≤ 2) → p ≤ tn → Ctx26 tn tb h → Ccon n E h → Cfor an A cs h → (∀ k, k < 10 → gI h 34 k = nI (g k)) → gI h 50 3 = nI p → ∃ h', xit (F_X0_passTree_t26_r N) (fun _ _ => none) z (nI d) h = some (b32 (ckT (btx tn tb) tn n E an A cs f p g).2, h') ∧ FL LCt h h' ∧ gI h' 50 3 = nI (ckT (btx tn tb) tn n E an A cs f p g).1 ∧ ((ckT (btx tn tb) tn n E an A cs f p g).2 = true → ∀ k, k < 10 → gI h' 34 k = nI (g k)) := by
  obtain ⟨hw, hn6, hA, hf, _⟩ := pf
  have han := hf.1
  have hR := hT.1
  intro z
  induction z with
  | zero => intro f d p g h _ h2; omega
  | succ z ih =>
    intro f d p g h h1 h2 ho hg2 hp x rc rf hg hpl
    show ∃ h', F_X0_passTree_t26_r N (xit (F_X0_passTree_t26_r N) (fun _ _ => none) z) (nI d) h = _ ∧ _
    generalize xit (F_X0_passTree_t26_r N) (fun _ _ => none) z = K at ih ⊢
    have e46 : (atv tn tb p = 46) ↔ btx tn tb p = 46 := by rw [show (46 : Int32) = nI 46 from rfl, atv_eq hT (by decide) (by decide)]
    have e33 : (atv tn tb p = 33) ↔ btx tn tb p = 33 := by rw [show (33 : Int32) = nI 33 from rfl, atv_eq hT (by decide) (by decide)]
    have leaf : ∀ r, lfT (btx tn tb) tn n E an A cs p g = some r → ckT (btx tn tb) tn n E an A cs f p g = r := fun r hr => by
      cases f <;> (unfold ckT; rw [hr]; rfl)
    unfold F_X0_passTree_t26_r F_X0_passTree_t26_41 F_X0_passTree_t26_76
    rw [grd_t (decide_eq_true x.1), hpl, k26_at N hT x (by omega), bnd2_p]
    simp only [e46, e33]
    by_cases q46 : btx tn tb p = 46
    · have hlt := btx_lt (tn := tn) (tb := tb) (p := p) (by omega)
      obtain ⟨hj, ej, fj⟩ := c_judge N (by omega) hf rf (fun k hk => hg k (by omega)) (fun k _ => hg2 k)
      have j2 : jd g cs ≤ 2 := (jd_mono hf (fun k _ => hg2 k) (fun k _ => hg2 k) (fun k _ => Or.inr rfl)).2
      have gj : ∀ k, k < 10 → gI hj 34 k = nI (g k) := fun k hk => by rw [(fj.1 34 k rfl).1]; exact hg k hk
      have pj : gI hj 50 3 = nI p := by rw [(fj.1 50 3 rfl).1]; exact hpl
      rw [if_pos q46, ej, bnd2_p]
      by_cases q0 : jd g cs = 0
      · have lf := leaf (p + 1, true) (by unfold lfT; rw [if_pos q46, if_pos q0])
        rw [lf, if_pos (by rw [q0]; rfl), show (46 : Int32) = nI 46 from rfl, k26_pass N hT (x.fr fj rfl) (by omega) pj (by decide) (by decide), if_pos q46, bnd2_p, if_neg (by decide)]
        have f3 : FL [(50,3,4)] hj (sI hj 50 3 (nI (p + 1))) := FL.i hj rfl
        exact ⟨_, rfl, FL.cat fj f3 rfl rfl, by rw [gI_sI, if_pos rfl, if_pos rfl], fun _ k hk => by rw [(f3.1 34 k rfl).1]; exact gj k hk⟩
      · have lf := leaf (p, false) (by unfold lfT; rw [if_pos q46, if_neg q0])
        rw [lf, if_neg (nI_ne0 (by omega) (by omega))]
        exact ⟨hj, rfl, FL.sub fj rfl, pj, fun q => by cases q⟩
    · rw [if_neg q46]
      by_cases q33 : btx tn tb p = 33
      · have hlt := btx_lt (tn := tn) (tb := tb) (p := p) (by omega)
        have lf := leaf (ckI (btx tn tb) n E an A g (tn + 1) (p + 1) false 0 0 0) (by unfold lfT; rw [if_neg q46, if_pos q33])
        obtain ⟨h', e', f', g'⟩ := k26_round N hN (cs := cs) hT hw hA han hg2 x rc rf hg hpl hlt
        rw [lf, if_pos q33, e', bnd2_p]
        refine ⟨h', ?_, FL.sub f' rfl, g', fun _ k hk => by rw [(f'.1 34 k rfl).1]; exact hg k hk⟩
        cases (ckI (btx tn tb) n E an A g (tn + 1) (p + 1) false 0 0 0).2
        · exact nr0 h'
        · exact nr1 h'
      · rw [if_neg q33]
        by_cases qk : (48 ≤ btx tn tb p ∧ btx tn tb p ≤ 57) ∧ btx tn tb p - 48 < an ∧ g (btx tn tb p - 48) = 1
        · have hlt := btx_lt (tn := tn) (tb := tb) (p := p) (by omega)
          obtain ⟨q1, q2, q3⟩ := qk
          have fp : 0 < f := by
            by_cases q : f = 0
            · exact absurd q3 (opn_0 (by omega) q2)
            · omega
          obtain ⟨f, rfl⟩ : ∃ f', f = f' + 1 := ⟨f - 1, by omega⟩
          rw [if_neg (by rw [show (10 : Int32) = nI 10 from rfl]; exact nI_ge (by omega) (by decide)), atv_fig N hT, bnd2_p, if_pos q1]
          have brg : ckT (btx tn tb) tn n E an A cs (f + 1) p g = if btx tn tb (p + 1) = 40 then ckB (btx tn tb) (btx tn tb p - 48) (ckT (btx tn tb) tn n E an A cs f) p g else (p + 1, false) := by
            unfold ckT lfT
            rw [if_neg q46, if_neg q33, if_pos ⟨q1, q2, q3⟩]
            by_cases q : btx tn tb (p + 1) = 40
            · rw [if_pos q, if_pos q]; rfl
            · rw [if_neg q, if_neg q]; rfl
          rw [brg]
          have k10 : btx tn tb p - 48 < 10 := by omega
          generalize btx tn tb p - 48 = k at q2 q3 k10 ⊢
          unfold F_X0_passBranches_t26 F_X0_passBranches_t26_80 F_X0_passBranches_t26_111
          have i10 : xin (nI k) 10 = true := xin_nI k10 (by decide)
          have f1 : FL [(50,3,4)] h (sI h 50 3 (nI (p + 1))) := FL.i h rfl
          have x1 := x.fr f1 rfl
          have p1 : gI (sI h 50 3 (nI (p + 1))) 50 3 = nI (p + 1) := by rw [gI_sI, if_pos rfl, if_pos rfl]
          rw [if_neg (nI_pos (by omega)), rf.1, if_neg (nI_ge q2 (by omega)), grd_t i10, nI_cl (by omega), hg k k10, if_pos (by rw [q3]; rfl), hpl, nI_1, bnd_eq, show (40 : Int32) = nI 40 from rfl, k26_pass N hT x1 (by omega) p1 (by decide) (by decide)]
          by_cases q40 : btx tn tb (p + 1) = 40
          · have hlt1 := btx_lt (tn := tn) (tb := tb) (p := p + 1) (by omega)
            rw [if_pos q40, if_pos q40, bnd2_p, if_neg (by decide), grd_t i10, bnd_eq]
            have gu : ∀ {hx : xHp} {t : Nat}, (∀ j, j < 10 → j ≠ k → gI hx 34 j = nI (g j)) → ∀ j, j < 10 → gI (sI hx 34 k (nI t)) 34 j = nI (upN g k t j) := by
              intro hx t hh j hj
              rw [gI_sI, if_pos rfl]
              unfold upN
              by_cases q : j = k
              · rw [if_pos q, if_pos q]
              · rw [if_neg q, if_neg q]; exact hh j hj q
            have u2 : ∀ t j, t ≤ 2 → upN g k t j ≤ 2 := fun t j ht => by
              unfold upN
              by_cases q : j = k
              · rw [if_pos q]; exact ht
              · rw [if_neg q]; exact hg2 j
            have f2 : FL [(50,3,4)] (sI h 50 3 (nI (p + 1))) (sI (sI h 50 3 (nI (p + 1))) 50 3 (nI (p + 1 + 1))) := FL.i _ rfl
            have f3 : FL [(34,0,0)] (sI (sI h 50 3 (nI (p + 1))) 50 3 (nI (p + 1 + 1))) (sI (sI (sI h 50 3 (nI (p + 1))) 50 3 (nI (p + 1 + 1))) 34 k 0) := FL.i _ rfl
            have f13 : FL [(50,3,4),(34,0,0)] h (sI (sI (sI h 50 3 (nI (p + 1))) 50 3 (nI (p + 1 + 1))) 34 k 0) := FL.cat (f1.trans f2) f3 rfl rfl
            have op0 := opn_up (an := an) (k := k) (v := 0) (g := g) q2 q3 (by decide)
            have op2 := opn_up (an := an) (k := k) (v := 2) (g := g) q2 q3 (by decide)
            obtain ⟨h4, e4, f4, p4, g4⟩ := ih f (d + 1) (p + 2) (upN g k 0) (sI (sI (sI h 50 3 (nI (p + 1))) 50 3 (nI (p + 1 + 1))) 34 k 0) (by omega) (by omega) (by omega) (fun j => u2 0 j (by omega)) (by omega) (x.fr f13 rfl) (rc.ag (f13.ag rfl)) (rf.ag (f13.ag rfl)) (gu (t := 0) (fun j hj _ => by rw [((f1.trans f2).1 34 j rfl).1]; exact hg j hj)) (by rw [(f3.1 50 3 rfl).1, gI_sI, if_pos rfl, if_pos rfl])
            have f14 : FL LCt h h4 := FL.cat f13 f4 rfl rfl
            rw [nI_1, e4, bnd2_p]
            unfold ckB
            have le1 := ckT_le (tn := tn) (n := n) (an := an) (tb := tb) (E := E) (A := A) (g := upN g k 0) (cs := cs) f (p + 2)
            generalize ckT (btx tn tb) tn n E an A cs f (p + 2) (upN g k 0) = r1 at p4 g4 le1 ⊢
            obtain ⟨s1, o1⟩ := r1
            cases o1 with
            | false =>
              dsimp only
              rw [if_pos (show b32 false = 0 from rfl), if_pos rfl]
              exact ⟨h4, rfl, f14, p4, fun q => by cases q⟩
            | true =>
              have g4' := g4 rfl
              have le1' : s1 ≤ tn := le1 rfl
              have p4' : gI h4 50 3 = nI s1 := p4
              dsimp only
              rw [if_neg (show ¬ b32 true = 0 by decide), if_neg (show ¬ (true = false) by decide), show (44 : Int32) = nI 44 from rfl, k26_pass N hT ((x.fr f13 rfl).fr f4 rfl) (by omega) p4' (by decide) (by decide)]
              by_cases q44 : btx tn tb s1 = 44
              · have hlt2 := btx_lt (tn := tn) (tb := tb) (p := s1) (by omega)
                rw [if_pos q44, if_pos q44, bnd2_p, if_neg (by decide), grd_t i10, bnd_eq]
                have f5 : FL [(50,3,4)] h4 (sI h4 50 3 (nI (s1 + 1))) := FL.i _ rfl
                have f6 : FL [(34,0,0)] (sI h4 50 3 (nI (s1 + 1))) (sI (sI h4 50 3 (nI (s1 + 1))) 34 k 2) := FL.i _ rfl
                have f56 : FL [(50,3,4),(34,0,0)] h4 (sI (sI h4 50 3 (nI (s1 + 1))) 34 k 2) := FL.cat f5 f6 rfl rfl
                have f16 : FL LCt h (sI (sI h4 50 3 (nI (s1 + 1))) 34 k 2) := FL.cat f14 f56 rfl rfl
                obtain ⟨h7, e7, f7, p7, g7⟩ := ih f (d + 1) (s1 + 1) (upN g k 2) (sI (sI h4 50 3 (nI (s1 + 1))) 34 k 2) (by omega) (by omega) (by omega) (fun j => u2 2 j (by omega)) (by omega) (x.fr f16 rfl) (rc.ag (f16.ag rfl)) (rf.ag (f16.ag rfl)) (gu (t := 2) (fun j hj q => by rw [(f5.1 34 j rfl).1, g4' j hj]; unfold upN; rw [if_neg q])) (by rw [(f6.1 50 3 rfl).1, gI_sI, if_pos rfl, if_pos rfl])
                have f17 : FL LCt h h7 := f16.trans f7
                rw [e7, bnd2_p]
                have le2 := ckT_le (tn := tn) (n := n) (an := an) (tb := tb) (E := E) (A := A) (g := upN g k 2) (cs := cs) f (s1 + 1)
                generalize ckT (btx tn tb) tn n E an A cs f (s1 + 1) (upN g k 2) = r2 at p7 g7 le2 ⊢
                obtain ⟨s2, o2⟩ := r2
                cases o2 with
                | false =>
                  dsimp only
                  rw [if_pos (show b32 false = 0 from rfl), if_pos rfl, bnd2_p, if_pos rfl]
                  exact ⟨h7, rfl, f17, p7, fun q => by cases q⟩
                | true =>
                  have g7' := g7 rfl
                  have le2' : s2 ≤ tn := le2 rfl
                  have p7' : gI h7 50 3 = nI s2 := p7
                  dsimp only
                  rw [if_neg (show ¬ b32 true = 0 by decide), if_neg (show ¬ (true = false) by decide), show (41 : Int32) = nI 41 from rfl, k26_pass N hT (x.fr f17 rfl) (by omega) p7' (by decide) (by decide)]
                  by_cases q41 : btx tn tb s2 = 41
                  · rw [if_pos q41, if_pos q41, bnd2_p, if_neg (by decide), grd_t i10, bnd_eq, bnd2_p, if_neg (by decide)]
                    have f8 : FL [(50,3,4)] h7 (sI h7 50 3 (nI (s2 + 1))) := FL.i _ rfl
                    have f9 : FL [(34,0,0)] (sI h7 50 3 (nI (s2 + 1))) (sI (sI h7 50 3 (nI (s2 + 1))) 34 k 1) := FL.i _ rfl
                    have f89 : FL [(50,3,4),(34,0,0)] h7 (sI (sI h7 50 3 (nI (s2 + 1))) 34 k 1) := FL.cat f8 f9 rfl rfl
                    refine ⟨_, rfl, FL.cat f17 f89 rfl rfl, by rw [(f9.1 50 3 rfl).1, gI_sI, if_pos rfl, if_pos rfl], fun _ j hj => ?_⟩
                    rw [gI_sI, if_pos rfl]
                    by_cases q : j = k
                    · rw [if_pos q, q, q3]; rfl
                    · rw [if_neg q, (f8.1 34 j rfl).1, g7' j hj]; unfold upN; rw [if_neg q]
                  · rw [if_neg q41, if_neg q41, bnd2_p, if_pos rfl, bnd2_p, if_pos rfl]
                    exact ⟨h7, rfl, f17, p7', fun q => by cases q⟩
              · rw [if_neg q44, if_neg q44, bnd2_p, if_pos rfl, bnd2_p, if_pos rfl]
                exact ⟨h4, rfl, f14, p4', fun q => by cases q⟩
          · rw [if_neg q40, if_neg q40, bnd2_p, if_pos rfl, bnd2_p, if_pos rfl]
            exact ⟨_, rfl, FL.sub f1 rfl, p1, fun q => by cases q⟩
        · have lf := leaf (p, false) (by unfold lfT; rw [if_neg q46, if_neg q33, if_neg qk])
          rw [lf]
          by_cases q10 : (10 : Int32) ≤ nI d
          · rw [if_pos q10]
            exact ⟨h, rfl, Fr.rf, hpl, fun q => by cases q⟩
          · rw [if_neg q10, atv_fig N hT, bnd2_p]
            unfold F_X0_passBranches_t26 F_X0_passBranches_t26_28
            have fin : ∃ h', bnd2 (some ((0 : Int32), h)) (fun r11 h12 => if r11 = 0 then some ((0 : Int32), h12) else some (1, h12)) = some (b32 (p, false).2, h') ∧ FL LCt h h' ∧ gI h' 50 3 = nI (p, false).1 ∧ ((p, false).2 = true → ∀ k, k < 10 → gI h' 34 k = nI (g k)) := by
              rw [bnd2_p, if_pos rfl]
              exact ⟨h, rfl, Fr.rf, hpl, fun q => by cases q⟩
            by_cases q1 : 48 ≤ btx tn tb p ∧ btx tn tb p ≤ 57
            · rw [if_pos q1, if_neg (nI_pos (by omega)), rf.1]
              by_cases q2 : btx tn tb p - 48 < an
              · have q3 : g (btx tn tb p - 48) ≠ 1 := fun q => qk ⟨q1, q2, q⟩
                have := hg2 (btx tn tb p - 48)
                rw [if_neg (nI_ge q2 (by omega)), grd_t (xin_nI (show btx tn tb p - 48 < 10 by omega) (by decide)), nI_cl (by omega), hg _ (by omega), if_neg (by rw [show (1 : Int32) = nI 1 from rfl, nI_eq (by omega) (by decide)]; exact q3)]
                exact fin
              · rw [if_pos (nI_le (by omega) (by omega))]
                exact fin
            · rw [if_neg q1, if_pos (by decide)]
              exact fin
