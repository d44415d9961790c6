/-! WAYS, WAY, VALUEIN, MUST -/
noncomputable def WayB (n : Nat) (E : Ed) (an : Nat) (A : Ed) (cs : List Nat) : Nat → Bool := fun ρ => @decide (ρ < 2 ^ an ∧ Way n E an A cs ρ) (Classical.propDecidable _)
theorem WayB_iff {n an : Nat} {E A : Ed} {cs : List Nat} {ρ : Nat} : WayB n E an A cs ρ = true ↔ ρ < 2 ^ an ∧ Way n E an A cs ρ := @decide_eq_true_iff _ (Classical.propDecidable _)
def PF (n : Nat) (E : Ed) (an : Nat) (A : Ed) (cs : List Nat) : Prop := Ewf n E ∧ n ≤ 60 ∧ Awf an A ∧ Fcs an cs ∧ Epot n E
def CF (n : Nat) (E : Ed) (an : Nat) (A : Ed) (cs : List Nat) (h : xHp) : Prop := Ccon n E h ∧ Cfor an A cs h ∧ Ctab n E an A cs h
def MF (n : Nat) (E : Ed) (an : Nat) (A : Ed) (cs : List Nat) (h : xHp) : Prop := Mcon n E h ∧ Mfor an A cs h
theorem MF.ag {n an : Nat} {E A : Ed} {cs : List Nat} {h h' : xHp} {L : Lc} (f : FL L h h') (d1 : djL DMcon L = true) (d2 : djL DMfor L = true) (r : MF n E an A cs h) : MF n E an A cs h' := ⟨r.1.ag (f.ag d1), r.2.ag (f.ag d2)⟩
theorem c_fillW (N : Nat) (hN : 2000 ≤ N) {n an : Nat} {E A : Ed} {cs : List Nat} {h : xHp} (p : PF n E an A cs) (r : CF n E an A cs h) : ∃ h', F_X5_fill N h = some ((), h') ∧ FL LFi h h' ∧ CF n E an A cs h' ∧ CtabW an (WayB n E an A cs) h' := by
  obtain ⟨p1, p2, p3, p4, p5⟩ := p
  obtain ⟨h', W, e, f, c, w1, w2, w3⟩ := c_fill N hN p1 p2 p3 p4 p5 r.1 r.2.1 r.2.2
  have hWW : W = WayB n E an A cs := funext fun ρ => by
    have a := w1 ρ
    have b := WayB_iff (n := n) (E := E) (an := an) (A := A) (cs := cs) (ρ := ρ)
    cases hA : W ρ with
    | true => exact ((b.mpr (a.mp hA))).symm
    | false =>
      cases hB : WayB n E an A cs ρ with
      | false => rfl
      | true => rw [a.mpr (b.mp hB)] at hA; cases hA
  exact ⟨h', e, f, ⟨c, r.2.1.ag (f.ag rfl), Or.inr ⟨w3, W, w1, w2⟩⟩, hWW ▸ w2⟩
theorem rows_2 : ∀ an, an < 11 → (1 : Int32) <<< (nI an &&& 31) = nI (2 ^ an) := by decide
theorem pow10 {an : Nat} (h : an ≤ 10) : 2 ^ an ≤ 1024 := Nat.pow_le_pow_right (n := 2) (by decide) h
theorem c_ways (N : Nat) (hN : 2000 ≤ N) {n an : Nat} {E A : Ed} {cs : List Nat} {h : xHp} (p : PF n E an A cs) (r : CF n E an A cs h) (hh : gI h 0 9 = 1) : ∃ h', F_X8_ways N h = some (nI (cW (WayB n E an A cs) 0 (2 ^ an)), h') ∧ FL LFi h h' ∧ CF n E an A cs h' := by
  obtain ⟨h', e, f, c, w⟩ := c_fillW N hN p r
  refine ⟨h', ?_, f, c⟩
  unfold F_X8_ways
  rw [hh, if_neg (by decide), e, bnd2_p, w.1]
def LMW : Lc := (51,0,1) :: LW
theorem m_rows (N : Nat) {n an : Nat} {E A : Ed} {cs : List Nat} {h : xHp} (han : an ≤ 10) (r : MF n E an A cs h) (hh : gI h 51 23 = 1) : F_X9_rows N h = some (nI (2 ^ an), h) := by
  unfold F_X9_rows
  rw [hh, if_neg (by decide), r.2.1, rows_2 an (by omega)]
theorem iw_b {n an ρ : Nat} {E A : Ed} {cs : List Nat} {h h' : xHp} {q : Int32} (i : IWres n an E A cs ρ h h' q) (hρ : ρ < 2 ^ an) : (q = 0 ∧ ¬ WayB n E an A cs ρ = true) ∨ (q = 1 ∧ WayB n E an A cs ρ = true) := by
  rcases i.2 with ⟨a, b, _⟩ | ⟨a, b⟩
  · exact Or.inr ⟨a, WayB_iff.mpr ⟨hρ, b⟩⟩
  · exact Or.inl ⟨a, fun q => b (WayB_iff.mp q).2⟩
theorem m_ways_go (N : Nat) (hN : 2000 ≤ N) {n an : Nat} {E A : Ed} {cs : List Nat} (p : PF n E an A cs) : ∀ (z k : Nat) (h : xHp), k ≤ 2 ^ an → 2 ^ an - k < z → MF n E an A cs h → gI h 51 23 = 1 → ∃ h', xit (F_X9_ways_9_b N) (fun _ _ _ => none) z (nI (cW (WayB n E an A cs) 0 k)) (nI k) h = some (nI (cW (WayB n E an A cs) 0 (2 ^ an)), h') ∧ FL LW h h' := by
  obtain ⟨p1, p2, p3, p4, p5⟩ := p
  have han := p4.1
  have p10 := pow10 han
  intro z
  induction z with
  | zero => intro k h _ h2; omega
  | succ z ih =>
    intro k h h1 h2 r hh
    show ∃ h', F_X9_ways_9_b N (xit (F_X9_ways_9_b N) (fun _ _ _ => none) z) (nI (cW (WayB n E an A cs) 0 k)) (nI k) h = _ ∧ _
    generalize xit (F_X9_ways_9_b N) (fun _ _ _ => none) z = K at ih ⊢
    unfold F_X9_ways_9_b F_X9_ways_31
    rw [m_rows N han r hh, bnd2_p]
    by_cases hk : k = 2 ^ an
    · subst hk
      rw [if_pos (Int32.le_refl _), hh, if_neg (by decide)]
      exact ⟨h, rfl, Fr.rf⟩
    · rw [if_neg (nI_ge (by omega) (by omega))]
      obtain ⟨h3, q, e3, i3⟩ := m_isWay N (by omega) (ρ := k) p1 p3 p4 (by omega) r.1 r.2
      have f3 := i3.1
      rw [e3, bnd2_p, nI_1]
      obtain ⟨h', e', f'⟩ := ih (k + 1) h3 (by omega) (by omega) (r.ag f3 rfl rfl) (by rw [(f3.1 51 23 rfl).1]; exact hh)
      refine ⟨h', ?_, FL.cat f3 f' rfl rfl⟩
      rw [← e']
      rcases iw_b i3 (by omega) with ⟨rfl, b⟩ | ⟨rfl, b⟩
      · rw [if_pos rfl, show (0 : Int32) = nI 0 from rfl, nI_add]
        show K (nI _) _ _ = K (nI (cW _ 0 k + if WayB n E an A cs (0 + k) = true then 1 else 0)) _ _
        rw [Nat.zero_add, if_neg b]
      · rw [if_neg (by decide), nI_1]
        show K (nI _) _ _ = K (nI (cW _ 0 k + if WayB n E an A cs (0 + k) = true then 1 else 0)) _ _
        rw [Nat.zero_add, if_pos b]
theorem m_ways (N : Nat) (hN : 2000 ≤ N) {n an : Nat} {E A : Ed} {cs : List Nat} {h : xHp} (p : PF n E an A cs) (r : MF n E an A cs h) (hh : gI h 51 23 = 1) : ∃ h', F_X9_ways N h = some (nI (cW (WayB n E an A cs) 0 (2 ^ an)), h') ∧ FL LMW h h' ∧ gI h' 51 0 = 0 := by
  have p10 := pow10 p.2.2.2.1.1
  have f0 : FL [(51,0,1)] h (sI h 51 0 0) := FL.i h rfl
  obtain ⟨h', e', f'⟩ := m_ways_go N hN p N 0 (sI h 51 0 0) (Nat.zero_le _) (by omega) (r.ag f0 rfl rfl) (by rw [(f0.1 51 23 rfl).1]; exact hh)
  refine ⟨h', ?_, FL.cat f0 f' rfl rfl, ?_⟩
  · unfold F_X9_ways F_X9_ways_9
    rw [bnd_eq]
    exact e'
  · rw [(f'.1 51 0 rfl).1, gI_sI, if_pos rfl, if_pos rfl]
/-! way -/
def fW (W : Nat → Bool) : Nat → Nat → Int32
  | _, 0 => -1
  | k, m + 1 => if W k = true then nI k else fW W (k + 1) m
theorem c_way_go (N : Nat) {an : Nat} {W : Nat → Bool} {h : xHp} (han : an ≤ 10) (w : CtabW an W h) (hW : ∀ ρ, W ρ = true → ρ < 2 ^ an) : ∀ (z m k : Nat), m < z → (m = 0 → 2 ^ an ≤ k) → (0 < m → k + m = 2 ^ an) → k < 2 ^ 31 → xit (F_X8_way_30_b N) (fun _ _ _ => none) z (nI (2 ^ an)) (nI k) h = some (fW W k m, h) := by
  have p10 := pow10 han
  intro z
  induction z with
  | zero => intro m k h1; omega
  | succ z ih =>
    intro m k h1 h2 h3 h4
    show F_X8_way_30_b N (xit (F_X8_way_30_b N) (fun _ _ _ => none) z) (nI (2 ^ an)) (nI k) h = _
    generalize xit (F_X8_way_30_b N) (fun _ _ _ => none) z = K at ih ⊢
    unfold F_X8_way_30_b
    cases m with
    | zero =>
      rw [if_pos (nI_le (h2 rfl) h4)]
      rfl
    | succ m =>
      have hk := h3 (by omega)
      rw [if_neg (nI_ge (by omega) (by omega)), grd_t (xin_nI (by omega) (by decide)), nI_cl h4, nI_1]
      have wk := w.2 k (by omega)
      unfold fW
      by_cases q : W k = true
      · rw [if_pos ⟨by omega, q⟩] at wk
        rw [wk, if_neg (by decide), if_pos q]
      · rw [if_neg (fun q' => q q'.2)] at wk
        rw [wk, if_pos rfl, if_neg q]
        exact ih m (k + 1) (by omega) (by omega) (by omega) (by omega)
theorem m_way_loop (N : Nat) (hN : 2000 ≤ N) {n an : Nat} {E A : Ed} {cs : List Nat} (p : PF n E an A cs) : ∀ (z m k : Nat) (h : xHp), m < z → (m = 0 → 2 ^ an ≤ k) → (0 < m → k + m = 2 ^ an) → k < 2 ^ 31 → MF n E an A cs h → gI h 51 23 = 1 → ∃ h', xit (F_X9_way_15_b N) (fun _ _ => none) z (nI k) h = some (fW (WayB n E an A cs) k m, h') ∧ FL LW h h' := by
  obtain ⟨p1, p2, p3, p4, p5⟩ := p
  have han := p4.1
  have p10 := pow10 han
  intro z
  induction z with
  | zero => intro m k h h1; omega
  | succ z ih =>
    intro m k h h1 h2 h3 h4 r hh
    show ∃ h', F_X9_way_15_b N (xit (F_X9_way_15_b N) (fun _ _ => none) z) (nI k) h = _ ∧ _
    generalize xit (F_X9_way_15_b N) (fun _ _ => none) z = K at ih ⊢
    unfold F_X9_way_15_b
    rw [m_rows N han r hh, bnd2_p]
    cases m with
    | zero =>
      rw [if_pos (nI_le (h2 rfl) h4)]
      exact ⟨h, rfl, Fr.rf⟩
    | succ m =>
      have hk := h3 (by omega)
      rw [if_neg (nI_ge (by omega) (by omega))]
      obtain ⟨h3', q, e3, i3⟩ := m_isWay N (by omega) (ρ := k) p1 p3 p4 (by omega) r.1 r.2
      have f3 := i3.1
      rw [e3, bnd2_p, nI_1]
      unfold fW
      rcases iw_b i3 (by omega) with ⟨rfl, b⟩ | ⟨rfl, b⟩
      · rw [if_pos rfl, if_neg b]
        obtain ⟨h', e', f'⟩ := ih m (k + 1) h3' (by omega) (by omega) (by omega) (by omega) (r.ag f3 rfl rfl) (by rw [(f3.1 51 23 rfl).1]; exact hh)
        exact ⟨h', e', FL.cat f3 f' rfl rfl⟩
      · rw [if_neg (by decide), if_pos b]
        exact ⟨h3', rfl, f3⟩
theorem way_s (p : Int32) : ∃ s : Nat, s < 2 ^ 31 ∧ (if p < 0 then (0 : Int32) else p) = nI s ∧ (0 ≤ p → p = nI s) ∧ (¬ 0 ≤ p → s = 0) := by
  by_cases q : p < 0
  · exact ⟨0, by decide, by rw [if_pos q]; rfl, fun h => absurd q (Int32.not_lt.mpr h), fun _ => rfl⟩
  · obtain ⟨j, h1, h2⟩ := nI_of q
    exact ⟨j, h1, by rw [if_neg q]; exact h2, fun _ => h2, fun h => absurd (Int32.not_lt.mp q) h⟩
theorem c_way (N : Nat) (hN : 2000 ≤ N) {n an s : Nat} {E A : Ed} {cs : List Nat} {h : xHp} {pr : Int32} (p : PF n E an A cs) (r : CF n E an A cs h) (hh : gI h 0 9 = 1) (hs : s < 2 ^ 31) (hp : (if pr < 0 then (0 : Int32) else pr) = nI s) : ∃ h', F_X8_way N pr h = some (fW (WayB n E an A cs) s (2 ^ an - s), h') ∧ FL LFi h h' ∧ CF n E an A cs h' := by
  obtain ⟨h', e, f, c, w⟩ := c_fillW N hN p r
  have p10 := pow10 p.2.2.2.1.1
  refine ⟨h', ?_, f, c⟩
  unfold F_X8_way F_X1_rows_30 F_X8_way_30
  rw [hh, if_neg (by decide), e, bnd2_p, bnd2_p, c.2.1.1, rows_2 an (by have := p.2.2.2.1.1; omega), hp]
  exact c_way_go N p.2.2.2.1.1 w (fun ρ q => (WayB_iff.mp q).1) N (2 ^ an - s) s (by omega) (by omega) (by omega) hs
theorem m_way (N : Nat) (hN : 2000 ≤ N) {n an s : Nat} {E A : Ed} {cs : List Nat} {h : xHp} {pr : Int32} (p : PF n E an A cs) (r : MF n E an A cs h) (hh : gI h 51 23 = 1) (hs : s < 2 ^ 31) (hp : (0 ≤ pr → pr = nI s) ∧ (¬ 0 ≤ pr → s = 0)) : ∃ h', F_X9_way N pr h = some (fW (WayB n E an A cs) s (2 ^ an - s), h') ∧ FL LMW h h' ∧ gI h' 51 0 = 0 := by
  have p10 := pow10 p.2.2.2.1.1
  have f0 : FL [(51,0,1)] h (sI h 51 0 0) := FL.i h rfl
  obtain ⟨h', e', f'⟩ := m_way_loop N hN p N (2 ^ an - s) s (sI h 51 0 0) (by omega) (by omega) (by omega) hs (r.ag f0 rfl rfl) (by rw [(f0.1 51 23 rfl).1]; exact hh)
  refine ⟨h', ?_, FL.cat f0 f' rfl rfl, ?_⟩
  · unfold F_X9_way F_X9_way_14 F_X9_way_15
    rw [bnd_eq]
    by_cases q : 0 ≤ pr
    · rw [if_pos q, hp.1 q]; exact e'
    · rw [if_neg q]
      have s0 := hp.2 q
      subst s0
      exact e'
  · rw [(f'.1 51 0 rfl).1, gI_sI, if_pos rfl, if_pos rfl]
/-! no formula -/
theorem m_rows0 (N : Nat) {h : xHp} (hh : gI h 51 23 = 0) : F_X9_rows N h = some (0, h) := by
  unfold F_X9_rows
  rw [hh, if_pos rfl]
theorem m_ways0 (N : Nat) (hN : 2000 ≤ N) {h : xHp} (hh : gI h 51 23 = 0) : F_X9_ways N h = some (-1, sI h 51 0 0) := by
  unfold F_X9_ways F_X9_ways_9
  rw [bnd_eq]
  obtain ⟨z, rfl⟩ : ∃ z, N = z + 1 := ⟨N - 1, by omega⟩
  have hh' : gI (sI h 51 0 0) 51 23 = 0 := by rw [gI_sI, if_pos rfl, if_neg (by decide)]; exact hh
  show F_X9_ways_9_b (z + 1) (xit (F_X9_ways_9_b (z + 1)) (fun _ _ _ => none) z) 0 0 _ = _
  generalize xit (F_X9_ways_9_b (z + 1)) (fun _ _ _ => none) z = K
  unfold F_X9_ways_9_b
  rw [m_rows0 _ hh', bnd2_p, if_pos (Int32.le_refl _), if_pos hh']
theorem m_way0 (N : Nat) (hN : 2000 ≤ N) {h : xHp} {pr : Int32} (hh : gI h 51 23 = 0) : F_X9_way N pr h = some (-1, sI h 51 0 0) := by
  unfold F_X9_way F_X9_way_14 F_X9_way_15
  rw [bnd_eq]
  obtain ⟨z, rfl⟩ : ∃ z, N = z + 1 := ⟨N - 1, by omega⟩
  have hh' : gI (sI h 51 0 0) 51 23 = 0 := by rw [gI_sI, if_pos rfl, if_neg (by decide)]; exact hh
  have key : ∀ q : Int32, 0 ≤ q → xit (F_X9_way_15_b (z + 1)) (fun _ _ => none) (z + 1) q (sI h 51 0 0) = some (-1, sI h 51 0 0) := by
    intro q hq
    show F_X9_way_15_b (z + 1) (xit (F_X9_way_15_b (z + 1)) (fun _ _ => none) z) q _ = _
    generalize xit (F_X9_way_15_b (z + 1)) (fun _ _ => none) z = K
    unfold F_X9_way_15_b
    rw [m_rows0 _ hh', bnd2_p, if_pos hq]
  by_cases q : 0 ≤ pr
  · rw [if_pos q]; exact key _ q
  · rw [if_neg q]; exact key _ (Int32.le_refl _)
