/-! CHECK: the reference's rounds and leaves -/
theorem ft {P : Prop} (h : false = true) : P := by cases h
theorem tf {P : Prop} (h : true = false) : P := by cases h
theorem m_stop106 (N : Nat) {h : xHp} {w : Nat} (hb : w < 2 ^ 31) (hw : gI h 51 47 = nI w) (x1 x2 x3 : Int32) (x4 : Int64) : ∃ h', F_X9_round_106 N x1 x2 x3 x4 h = some ((), h') ∧ FL LIt h h' ∧ gI h' 51 47 = nI w := by
  unfold F_X9_round_106 F_X9_round_122 F_X9_round_130
  obtain ⟨h1, e1, f1, g1⟩ := m_wrong2 N (q := gI h 51 46) hb hw
  rw [e1, bnd2_p, bnd_eq, bnd_eq]
  have A : ∃ h', some ((), sI h1 51 46 (gI h1 51 46 + 1)) = some ((), h') ∧ FL LIt h h' ∧ gI h' 51 47 = nI w :=
    ⟨_, rfl, FL.cat f1 (FL.i h1 rfl : FL LIt h1 _) rfl rfl, by rw [((FL.i h1 rfl : FL [(51,46,47)] h1 _).1 51 47 rfl).1]; exact g1⟩
  have B : ∃ h', some ((), sI h 51 46 (gI h 51 46 + 1)) = some ((), h') ∧ FL LIt h h' ∧ gI h' 51 47 = nI w :=
    ⟨_, rfl, FL.i h rfl, by rw [((FL.i h rfl : FL [(51,46,47)] h _).1 51 47 rfl).1]; exact hw⟩
  by_cases q1 : x1 = 0
  · rw [if_pos q1]; exact A
  · rw [if_neg q1]
    by_cases q2 : x3 = x2
    · rw [if_pos q2]
      by_cases q3 : lg_cmp x4 0 < 0
      · rw [if_pos q3]; exact B
      · rw [if_neg q3]; exact A
    · rw [if_neg q2]; exact A
/-- how a piece of the text comes out: its end, or the wrong place -/
def OM (R : Nat × Bool) (h : xHp) : Prop := (R.2 = true → gI h 51 47 = -1 ∧ gI h 51 46 = nI R.1) ∧ (R.2 = false → gI h 51 47 = nI R.1)
theorem m_roundW (N : Nat) {z w : Nat} (hb : w < 2 ^ 31) {h : xHp} (hw : gI h 51 47 = nI w) (x1 x2 x3 : Int32) (x4 : Int64) : ∃ h', xit (F_X9_round_19_b N) (fun _ _ _ _ _ => none) (z + 1) x1 x2 x3 x4 h = some ((), h') ∧ FL LIt h h' ∧ gI h' 51 47 = nI w := by
  show ∃ h', F_X9_round_19_b N (xit (F_X9_round_19_b N) (fun _ _ _ _ _ => none) z) x1 x2 x3 x4 h = _ ∧ _
  unfold F_X9_round_19_b
  rw [if_neg (by rw [hw]; exact nI_neg1 hb)]
  exact m_stop106 N hb hw x1 x2 x3 x4
theorem m_rck_go (N : Nat) (hN : 300 ≤ N) {tn n an : Nat} {tb : Nat → Nat} {E A : Ed} {cs : List Nat} {g : Nat → Nat} (hT : Twf 6000 tn tb) (hw : Ewf n E) (hA : Awf an A) (han : an ≤ 10) (hg2 : ∀ k, g k ≤ 2) : ∀ (z f i p : Nat) (bg : Bool) (b e : Nat) (s : Int) (sl : Int64) (h : xHp), tn < z + i → tn < f + p → i < p → p ≤ tn → MTx tn tb h → Mcon n E h → Mfor an A cs h → Tru g h → gI h 51 46 = nI p → gI h 51 47 = -1 → (bg = true ↔ 0 < i) → (bg = true → e < 16 ∧ b < 16) → sl.toInt = s → (-((i : Int) * 1000001) ≤ s ∧ s ≤ (i : Int) * 1000001) → ∃ h', xit (F_X9_round_19_b N) (fun _ _ _ _ _ => none) (z + 1) (nI i) (nI b) (nI e) sl h = some ((), h') ∧ FL LIt h h' ∧ OM (ckI (btx tn tb) n E an A g f p bg b e s) h' := by
  have hR := hT.1
  intro z
  induction z with
  | zero => intro f i p bg b e s sl h h1 h2 h3 h4; omega
  | succ z ih =>
    intro f i p bg b e s sl h h1 h2 h3 h4 x rc rf tr hpl hwr hbi hbe hsl hs
    obtain ⟨f, rfl⟩ : ∃ f', f = f' + 1 := ⟨f - 1, by omega⟩
    have ww : ∀ (w : Nat), w < 2 ^ 31 → ∀ (hx : xHp), gI hx 51 47 = nI w → ∀ (x1 x2 x3 : Int32) (x4 : Int64), ∃ h', xit (F_X9_round_19_b N) (fun _ _ _ _ _ => none) (z + 1) x1 x2 x3 x4 hx = some ((), h') ∧ FL LIt hx h' ∧ gI h' 51 47 = nI w := fun w hb hx hw x1 x2 x3 x4 => m_roundW N hb hw x1 x2 x3 x4
    show ∃ h', F_X9_round_19_b N (xit (F_X9_round_19_b N) (fun _ _ _ _ _ => none) (z + 1)) (nI i) (nI b) (nI e) sl h = _ ∧ _
    generalize xit (F_X9_round_19_b N) (fun _ _ _ _ _ => none) (z + 1) = K at ih ww ⊢
    have bp := btx_b (p := p) hT
    have wrP : ∀ q : Int32, FL [(51,47,48)] h (sI h 51 47 q) := fun q => FL.i h rfl
    unfold F_X9_round_19_b ckI
    rw [if_pos hwr, m_here N hT x (by omega) hpl, bnd2_p, show (59 : Int32) = nI 59 from rfl]
    simp only [eqc bp (show 59 < 256 by decide)]
    by_cases q59 : btx tn tb p = 59
    · rw [if_pos q59, if_pos q59]
      unfold F_X9_round_106 F_X9_round_122 F_X9_round_130
      rw [m_wrong N hwr, bnd2_p, bnd_eq, bnd_eq, hpl]
      have bad : ∃ h', some ((), sI (sI h 51 47 (nI p)) 51 46 (gI (sI h 51 47 (nI p)) 51 46 + 1)) = some ((), h') ∧ FL LIt h h' ∧ OM (p, false) h' := ⟨_, rfl, (FL.i h rfl).trans (FL.i _ rfl), fun q => ft q, fun _ => by simp +decide only [gI_sI, if_false, if_true]⟩
      by_cases qi : 0 < i
      · obtain ⟨b1, b2⟩ := hbe (hbi.mpr qi)
        have es : (lg_cmp sl 0 < 0) ↔ s < 0 := by
          rw [← Int32.not_le, lg_cmp_ge, Int64.le_iff_toInt_le, hsl, show ((0 : Int64)).toInt = 0 by decide]
          omega
        rw [if_neg (nI_ne0 qi (by omega))]
        simp only [nI_eq (show e < 2 ^ 31 by omega) (show b < 2 ^ 31 by omega), es]
        by_cases q1 : e = b
        · rw [if_pos q1]
          by_cases q2 : s < 0
          · rw [if_pos q2, if_pos ⟨hbi.mpr qi, q1, q2⟩, nI_1]
            exact ⟨_, rfl, FL.i h rfl, fun _ => ⟨by rw [((FL.i h rfl : FL [(51,46,47)] h _).1 51 47 rfl).1]; exact hwr, by rw [gI_sI, if_pos rfl, if_pos rfl]⟩, fun q => tf q⟩
          · rw [if_neg q2, if_neg (fun q => q2 q.2.2)]
            exact bad
        · rw [if_neg q1, if_neg (fun q => q1 q.2.1)]
          exact bad
      · have i0 : i = 0 := by omega
        rw [if_pos (by rw [i0]; rfl), if_neg (fun q => qi (hbi.mp q.1))]
        exact bad
    · rw [if_neg q59, if_neg q59]
      obtain ⟨h', e', f', im⟩ := m_item9 N hN hT hw hA han hg2 x rc rf tr (by omega) hpl hwr
      obtain ⟨p1, p2, p3⟩ := itAt_p (tn := tn) (n := n) (an := an) (p := p) (tb := tb) (E := E) (A := A) (g := g)
      have p2' := p2 h4
      rw [e', bnd2_p]
      -- after a wrong place
      have stop : ∀ (hx : xHp) (w : Nat), w < 2 ^ 31 → FL LIt h hx → gI hx 51 47 = nI w → ∃ h'', F_X9_round_72 N K (nI i) (nI b) sl hx = some ((), h'') ∧ FL LIt h h'' ∧ OM (w, false) h'' := by
        intro hx w hb fr hv
        unfold F_X9_round_72 F_X9_round_84
        by_cases qi : nI i = 0
        · rw [if_pos qi]
          obtain ⟨h'', e'', f'', g''⟩ := ww w hb hx hv (nI i + 1) (gI hx 51 50) (gI hx 51 51) (sl + (gI hx 51 52).toInt64)
          exact ⟨h'', e'', fr.trans f'', fun q => ft q, fun _ => g''⟩
        · rw [if_neg qi]
          obtain ⟨h'', e'', f'', g''⟩ := ww w hb hx hv (nI i + 1) (nI b) (gI hx 51 51) (sl + (gI hx 51 52).toInt64)
          exact ⟨h'', e'', fr.trans f'', fun q => ft q, fun _ => g''⟩
      rcases im with ⟨a1, a2⟩ | ⟨a1, a2, a3, a4, a5, a6⟩
      · rw [if_neg (by rw [a2]; exact nI_neg1 (by omega)), if_pos a1]
        exact stop h' _ (by omega) f' a2
      · obtain ⟨w1, w2, w3, w4⟩ := itAt_wf (bt := btx tn tb) (p := p) (g := g) hw hA a1
        have p3' := p3 a1
        rw [if_pos a2, if_neg (show ¬ (itAt (btx tn tb) n E an A g p).1 = false by rw [a1]; decide)]
        have cast1 : ((i + 1 : Nat) : Int) * 1000001 = (i : Int) * 1000001 + 1000001 := by rw [Int.natCast_add, Int.add_mul]; omega
        have nx : ∀ b', b' < 16 → ∃ h'', K (nI i + 1) (nI b') (gI h' 51 51) (sl + (gI h' 51 52).toInt64) h' = some ((), h'') ∧ FL LIt h h'' ∧ OM (ckI (btx tn tb) n E an A g f (itAt (btx tn tb) n E an A g p).2.1 true b' (itAt (btx tn tb) n E an A g p).2.2.2.1 (s + (itAt (btx tn tb) n E an A g p).2.2.2.2)) h'' := by
          intro b' hb'
          rw [nI_1, a5]
          obtain ⟨h'', e'', f'', g''⟩ := ih f (i + 1) (itAt (btx tn tb) n E an A g p).2.1 true b' (itAt (btx tn tb) n E an A g p).2.2.2.1 (s + (itAt (btx tn tb) n E an A g p).2.2.2.2) (sl + (gI h' 51 52).toInt64) h' (by omega) (by omega) (by omega) p2' (x.fr f' rfl) (rc.ag (f'.ag rfl)) (rf.ag (f'.ag rfl)) (fun k hk => by rw [(f'.1 71 k rfl).1]; exact tr k hk) a3 a2 ⟨fun _ => by omega, fun _ => rfl⟩ (fun _ => ⟨w2, hb'⟩) (by rw [i64_add hsl (i32_64 _) (by omega) (by omega), a6]) (by omega)
          exact ⟨h'', e'', f'.trans f'', g''⟩
        by_cases qi : 0 < i
        · have bt' := hbi.mpr qi
          obtain ⟨b1, b2⟩ := hbe bt'
          rw [if_neg (nI_nle qi (by omega)), a4]
          simp only [nI_eq (show (itAt (btx tn tb) n E an A g p).2.2.1 < 2 ^ 31 by omega) (show e < 2 ^ 31 by omega)]
          by_cases qe : (itAt (btx tn tb) n E an A g p).2.2.1 = e
          · rw [if_pos qe, if_neg (fun q => q.2 qe), if_pos bt']
            unfold F_X9_round_72 F_X9_round_84
            rw [if_neg (nI_ne0 qi (by omega))]
            exact nx b b2
          · rw [if_neg qe, if_pos ⟨bt', qe⟩, hpl, m_wrong N a2, bnd2_p]
            exact stop _ p (by omega) (f'.trans (FL.i h' rfl)) (by rw [gI_sI, if_pos rfl, if_pos rfl])
        · have i0 : i = 0 := by omega
          have bf : ¬ bg = true := fun q => qi (hbi.mp q)
          rw [if_pos (show nI i ≤ 0 by rw [i0]; decide), if_neg (fun q => bf q.1), if_neg bf]
          unfold F_X9_round_72 F_X9_round_84
          rw [if_pos (by rw [i0]; rfl), a4]
          exact nx _ w1
theorem m_rck (N : Nat) (hN : 7000 ≤ N) {tn n an p : Nat} {tb : Nat → Nat} {E A : Ed} {cs : List Nat} {g : Nat → Nat} {h : xHp} (hT : Twf 6000 tn tb) (hw : Ewf n E) (hA : Awf an A) (han : an ≤ 10) (hg2 : ∀ k, g k ≤ 2) (x : MTx tn tb h) (rc : Mcon n E h) (rf : Mfor an A cs h) (tr : Tru g h) (hpl : gI h 51 46 = nI p) (hwr : gI h 51 47 = -1) (hp : p < tn) : ∃ h', F_X9_round N h = some ((), h') ∧ FL LIt h h' ∧ OM (ckI (btx tn tb) n E an A g (tn + 1) (p + 1) false 0 0 0) h' := by
  have hR := hT.1
  have f1 : FL [(51,46,47)] h (sI h 51 46 (nI (p + 1))) := FL.i h rfl
  obtain ⟨z, rfl⟩ : ∃ z, N = z + 1 := ⟨N - 1, by omega⟩
  obtain ⟨h', e', f', g'⟩ := m_rck_go (z + 1) (by omega) (cs := cs) hT hw hA han hg2 z (tn + 1) 0 (p + 1) false 0 0 0 0 (sI h 51 46 (nI (p + 1))) (by omega) (by omega) (by omega) (by omega) (x.fr f1 rfl) (rc.ag (f1.ag rfl)) (rf.ag (f1.ag rfl)) (fun k hk => by rw [(f1.1 71 k rfl).1]; exact tr k hk) (by rw [gI_sI, if_pos rfl, if_pos rfl]) (by rw [(f1.1 51 47 rfl).1]; exact hwr) ⟨fun q => absurd q (by decide), fun q => absurd q (by decide)⟩ (fun q => absurd q (by decide)) (by decide) (by omega)
  refine ⟨h', ?_, FL.cat f1 f' rfl rfl, g'⟩
  unfold F_X9_round F_X9_round_19
  rw [hpl, nI_1, bnd_eq]
  exact e'
/-- what a leaf or an opened branch leaves -/
def LLg : Lc := [(51,46,48),(51,50,53),(52,60,0),(53,60,0),(54,60,0),(55,0,0),(72,0,0),(71,0,0),(75,0,0),(76,0,0)]
