/-! CHECK: the reference's -/
def MTx (tn : Nat) (tb : Nat → Nat) (h : xHp) : Prop := gI h 51 45 = nI tn ∧ ∀ k, k < tn → gI h 74 k = nI (tb k)
theorem MTx.fr {tn : Nat} {tb : Nat → Nat} {h h' : xHp} {L : Lc} (f : FL L h h') (d : djL [(51,45,46),(74,0,0)] L = true) (c : MTx tn tb h) : MTx tn tb h' := by
  have a := f.ag d
  exact ⟨(a 51 45 rfl).trans c.1, fun k hk => by rw [a 74 k rfl]; exact c.2 k hk⟩
theorem m_here (N : Nat) {tn p : Nat} {tb : Nat → Nat} {h : xHp} (hT : Twf 6000 tn tb) (x : MTx tn tb h) (hp : p < 2 ^ 31) (hpl : gI h 51 46 = nI p) : F_X9_here N h = some (nI (btx tn tb p), h) := by
  have hR := hT.1
  unfold F_X9_here btx
  rw [hpl, x.1]
  by_cases q : p < tn
  · rw [if_neg (nI_ge q (by omega)), grd_t (xin_nI (by omega) (by decide)), nI_cl hp, x.2 p q, if_pos q]
  · rw [if_pos (nI_le (by omega) hp), if_neg q]
    rfl
theorem m_isFig (N : Nat) {b : Nat} {h : xHp} (hb : b < 256) : F_X9_isFigure N (nI b) h = some (if 48 ≤ b ∧ b ≤ 57 then 1 else 0, h) := by
  unfold F_X9_isFigure F_X9_isFigure_16
  have e1 : (nI b < 48) ↔ b < 48 := by rw [show (48 : Int32) = nI 48 from rfl, nI_ltI (by omega) (by omega)]
  have e2 : ((57 : Int32) < nI b) ↔ 57 < b := by rw [show (57 : Int32) = nI 57 from rfl, nI_ltI (by omega) (by omega)]
  simp only [e1, e2]
  by_cases q1 : b < 48
  · rw [if_pos q1, if_neg (by omega)]
  · rw [if_neg q1]
    by_cases q2 : 57 < b
    · rw [if_pos q2, if_neg (by omega)]
    · rw [if_neg q2, if_pos (by omega)]
def L47 : Lc := [(51,47,48)]
theorem m_wrong (N : Nat) {h : xHp} {q : Int32} (hw : gI h 51 47 = -1) : F_X9_wrong N q h = some ((), sI h 51 47 q) := by
  unfold F_X9_wrong F_X9_wrong_17
  rw [hw, if_pos rfl, bnd_eq]
theorem m_wrong2 (N : Nat) {h : xHp} {q : Int32} {w : Nat} (hb : w < 2 ^ 31) (hw : gI h 51 47 = nI w) : ∃ h', F_X9_wrong N q h = some ((), h') ∧ FL L47 h h' ∧ gI h' 51 47 = nI w := by
  unfold F_X9_wrong F_X9_wrong_17
  rw [hw, if_neg (nI_neg1 hb), bnd_eq]
  exact ⟨_, rfl, FL.i h rfl, by rw [gI_sI, if_pos rfl, if_pos rfl]⟩
theorem eqc {a c : Nat} (ha : a < 256) (hc : c < 256) : (nI a = nI c) ↔ a = c := nI_eq (by omega) (by omega)
def LIt : Lc := [(51,46,48),(51,50,53),(52,60,0),(53,60,0),(54,60,0),(55,0,0)]
/-- how the reference's item comes out -/
def IM (I : Bool × Nat × (Nat × Nat × Int)) (h' : xHp) : Prop := (I.1 = false ∧ gI h' 51 47 = nI I.2.1) ∨ (I.1 = true ∧ gI h' 51 47 = -1 ∧ gI h' 51 46 = nI I.2.1 ∧ gI h' 51 50 = nI I.2.2.1 ∧ gI h' 51 51 = nI I.2.2.2.1 ∧ (gI h' 51 52).toInt = I.2.2.2.2)
theorem m_take (N : Nat) {h : xHp} {k x y : Nat} (hk : k < 70) (hx : gI h 52 k = nI x) (hy : gI h 53 k = nI y) : ∃ h', F_X9_takeItem N (nI k) h = some ((), h') ∧ FL [(51,50,53)] h h' ∧ gI h' 51 50 = nI x ∧ gI h' 51 51 = nI y ∧ gI h' 51 52 = gI h 54 k := by
  unfold F_X9_takeItem
  simp +decide only [grd_t (xin_nI hk (by decide)), nI_cl (show k < 2 ^ 31 by omega), bnd_eq, gI_sI, if_false, hx, hy]
  exact ⟨_, rfl, (FL.i h rfl).trans ((FL.i _ rfl).trans (FL.i _ rfl)), by simp +decide only [gI_sI, if_false, if_true], by simp +decide only [gI_sI, if_false, if_true], by simp +decide only [gI_sI, if_false, if_true]⟩
theorem m_item149 (N : Nat) {tn p p2 n k : Nat} {tb : Nat → Nat} {E : Ed} {h : xHp} (hT : Twf 6000 tn tb) (hw : Ewf n E) (x : MTx tn tb h) (rc : Mcon n E h) (hp : p < 2 ^ 30) (hp2 : p2 < 2 ^ 30) (hpl : gI h 51 46 = nI p2) (hwr : gI h 51 47 = -1) (hk : k < 100) {fg : Int32} (hfg : ¬ fg = 0) : ∃ h', F_X9_item_149 N (nI p) (nI k) fg h = some ((), h') ∧ FL LIt h h' ∧ IM (if btx tn tb p2 = 93 then (if k < n then (true, p2 + 1, E k) else (false, p, (0, 0, 0))) else (false, p2, (0, 0, 0))) h' := by
  have b2 := btx_b (p := p2) hT
  have f47 : ∀ q : Int32, FL LIt h (sI h 51 47 q) := fun q => FL.i h rfl
  unfold F_X9_item_149 F_X9_item_163
  rw [if_neg hfg, m_here N hT x (by omega) hpl, bnd2_p, hpl, m_wrong N hwr, m_wrong N hwr, bnd2_p, bnd2_p, show (93 : Int32) = nI 93 from rfl]
  simp only [eqc b2 (show 93 < 256 by decide)]
  by_cases q1 : btx tn tb p2 = 93
  · rw [if_pos q1, if_pos q1, rc.2.1]
    have hn := rc.1
    by_cases q2 : k < n
    · obtain ⟨a1, a2, a3⟩ := rc.2.2 k q2
      obtain ⟨h', e', f', g1, g2, g3⟩ := m_take N (show k < 70 by omega) a1 a2
      have p' : gI h' 51 46 = nI p2 := by rw [(f'.1 51 46 rfl).1]; exact hpl
      rw [if_pos (nI_lt q2 (by omega)), if_pos q2, e', bnd2_p, p', nI_1, bnd_eq]
      have f3 : FL [(51,46,47)] h' (sI h' 51 46 (nI (p2 + 1))) := FL.i h' rfl
      refine ⟨_, rfl, FL.cat f' f3 rfl rfl, Or.inr ⟨rfl, ?_, ?_, ?_, ?_, ?_⟩⟩
      · rw [(f3.1 51 47 rfl).1, (f'.1 51 47 rfl).1]; exact hwr
      · rw [gI_sI, if_pos rfl, if_pos rfl]
      · rw [(f3.1 51 50 rfl).1]; exact g1
      · rw [(f3.1 51 51 rfl).1]; exact g2
      · rw [(f3.1 51 52 rfl).1, g3]; exact a3
    · rw [if_neg (nI_nlt (by omega) (by omega)), if_neg q2]
      exact ⟨_, rfl, f47 _, Or.inl ⟨rfl, by rw [gI_sI, if_pos rfl, if_pos rfl]⟩⟩
  · rw [if_neg q1, if_neg q1]
    exact ⟨_, rfl, f47 _, Or.inl ⟨rfl, by rw [gI_sI, if_pos rfl, if_pos rfl]⟩⟩
theorem m_item9 (N : Nat) (hN : 300 ≤ N) {tn p n an : Nat} {tb : Nat → Nat} {E A : Ed} {cs : List Nat} {g : Nat → Nat} {h : xHp} (hT : Twf 6000 tn tb) (hw : Ewf n E) (hA : Awf an A) (han : an ≤ 10) (hg2 : ∀ k, g k ≤ 2) (x : MTx tn tb h) (rc : Mcon n E h) (rf : Mfor an A cs h) (tr : Tru g h) (hp : p < 2 ^ 29) (hpl : gI h 51 46 = nI p) (hwr : gI h 51 47 = -1) : ∃ h', F_X9_item N h = some ((), h') ∧ FL LIt h h' ∧ IM (itAt (btx tn tb) n E an A g p) h' := by
  have b0 := btx_b (p := p) hT
  have b1 := btx_b (p := p + 1) hT
  have b2 := btx_b (p := p + 2) hT
  have b3 := btx_b (p := p + 3) hT
  have f47 : ∀ (hx : xHp) (q : Int32), FL LIt hx (sI hx 51 47 q) := fun hx q => FL.i hx rfl
  unfold F_X9_item itAt
  rw [m_here N hT x (by omega) hpl, bnd2_p, m_isFig N b0, bnd2_p, hpl]
  by_cases qf : 48 ≤ btx tn tb p ∧ btx tn tb p ≤ 57
  · have ek : nI (btx tn tb p) - 48 = nI (btx tn tb p - 48) := by rw [show (48 : Int32) = nI 48 from rfl, pk_sub qf.1]
    rw [if_pos qf, if_pos qf, if_neg (by decide), ek, rf.1]
    unfold F_X9_item_40
    rw [m_wrong N hwr, bnd2_p]
    have k10 : btx tn tb p - 48 < 10 := by omega
    generalize btx tn tb p - 48 = k at k10 ⊢
    by_cases q1 : k < an
    · have tk : (nI (tm (g k)) = 2) ↔ g k = 1 := by rcases le2 (hg2 k) with q | q | q <;> rw [q] <;> decide
      rw [if_neg (nI_ge q1 (by omega)), grd_t (xin_nI k10 (by decide)), nI_cl (by omega), tr k k10]
      simp only [tk]
      by_cases q2 : g k = 1
      · rw [if_pos q2, if_neg (fun q => q.2 q2)]
        exact ⟨_, rfl, f47 _ _, Or.inl ⟨rfl, by rw [gI_sI, if_pos rfl, if_pos rfl]⟩⟩
      · rw [if_neg q2, if_pos ⟨q1, q2⟩]
        obtain ⟨h1, e1, fr1, g1⟩ := p_alone N hN (show n ≤ 70 by have := rc.1; omega) rc.2.1
        have f1 := P55_L fr1
        obtain ⟨px, py, pc, h2, e2, hx, hy, hc, eh⟩ := m_put N (n := n) (E := E) hA q1 han (rf.ag (f1.ag rfl)) ((f1.ag (D := [(71,0,0)]) rfl 71 k rfl).trans (tr k k10)) (hg2 k)
        have f2 : FL LPut h1 h2 := by
          rw [eh]
          exact (FL.i h1 (inPut (by omega))).trans ((FL.i _ (inPut (by omega))).trans ((FL.i _ (inPut (by omega))).trans (FL.i _ rfl)))
        have v1 : gI h2 52 (60 + k) = nI (dif A g k).1 := by rw [eh]; simp +decide only [gI_sI, if_false, if_true]; exact hx
        have v2 : gI h2 53 (60 + k) = nI (dif A g k).2.1 := by rw [eh]; simp +decide only [gI_sI, if_false, if_true]; exact hy
        have v3 : (gI h2 54 (60 + k)).toInt = (dif A g k).2.2 := by rw [eh]; simp +decide only [gI_sI, if_false, if_true]; exact hc
        obtain ⟨h', e', f', g1', g2', g3'⟩ := m_take N (show 60 + k < 70 by omega) v1 v2
        have e60 : (60 : Int32) + nI k = nI (60 + k) := by rw [show (60 : Int32) = nI 60 from rfl, nI_add]
        have f12 : FL LPut h h2 := FL.cat f1 f2 rfl rfl
        have p' : gI h' 51 46 = nI p := by rw [(f'.1 51 46 rfl).1, (f12.1 51 46 rfl).1]; exact hpl
        rw [e1, bnd2_p, e2, bnd2_p, e60, e', bnd2_p, p', nI_1, bnd_eq]
        have f3 : FL [(51,46,47)] h' (sI h' 51 46 (nI (p + 1))) := FL.i h' rfl
        refine ⟨_, rfl, FL.cat f12 (FL.cat f' f3 rfl rfl : FL LIt _ _) rfl rfl, Or.inr ⟨rfl, ?_, ?_, ?_, ?_, ?_⟩⟩
        · rw [(f3.1 51 47 rfl).1, (f'.1 51 47 rfl).1, (f12.1 51 47 rfl).1]; exact hwr
        · rw [gI_sI, if_pos rfl, if_pos rfl]
        · rw [(f3.1 51 50 rfl).1]; exact g1'
        · rw [(f3.1 51 51 rfl).1]; exact g2'
        · rw [(f3.1 51 52 rfl).1, g3']; exact v3
    · rw [if_pos (nI_le (by omega) (by omega)), if_neg (fun q => q1 q.1)]
      exact ⟨_, rfl, f47 _ _, Or.inl ⟨rfl, by rw [gI_sI, if_pos rfl, if_pos rfl]⟩⟩
  · rw [if_neg qf, if_neg qf, if_pos rfl, m_wrong N hwr, bnd2_p, show (91 : Int32) = nI 91 from rfl]
    simp only [eqc b0 (show 91 < 256 by decide)]
    by_cases q91 : btx tn tb p = 91
    · rw [if_pos q91, if_pos q91, nI_1, bnd_eq]
      unfold F_X9_item_104
      obtain ⟨z, hz⟩ : ∃ z, N = z + 3 := ⟨N - 3, by omega⟩
      have xz : ∀ a b c hh, xit (F_X9_item_104_b N) (fun _ _ _ _ => none) N a b c hh = F_X9_item_104_b N (F_X9_item_104_b N (F_X9_item_104_b N (xit (F_X9_item_104_b N) (fun _ _ _ _ => none) z))) a b c hh := fun a b c hh => by
        conv => lhs; arg 3; rw [hz]
        rfl
      rw [xz]
      generalize xit (F_X9_item_104_b N) (fun _ _ _ _ => none) z = K
      have f1 : FL [(51,46,47)] h (sI h 51 46 (nI (p + 1))) := FL.i h rfl
      have x1 := x.fr f1 rfl
      have p1 : gI (sI h 51 46 (nI (p + 1))) 51 46 = nI (p + 1) := by rw [gI_sI, if_pos rfl, if_pos rfl]
      have w1 : gI (sI h 51 46 (nI (p + 1))) 51 47 = -1 := by rw [(f1.1 51 47 rfl).1]; exact hwr
      -- one turn of the figures
      have turn : ∀ (K' : Int32 → Int32 → Int32 → xHp → Option (Unit × xHp)) (hx : xHp) (pp v fi : Nat), pp < 2 ^ 30 → fi < 2 → MTx tn tb hx → gI hx 51 46 = nI pp → F_X9_item_104_b N K' (nI p) (nI v) (nI fi) hx = if 48 ≤ btx tn tb pp ∧ btx tn tb pp ≤ 57 then K' (nI p) (nI (10 * v + btx tn tb pp - 48)) (nI (fi + 1)) (sI hx 51 46 (nI (pp + 1))) else F_X9_item_149 N (nI p) (nI v) (nI fi) hx := by
        intro K' hx pp v fi h1 h2 h3 h4
        have bb := btx_b (p := pp) hT
        unfold F_X9_item_104_b
        rw [m_here N hT h3 (by omega) h4, bnd2_p, m_isFig N bb, bnd2_p]
        by_cases q : 48 ≤ btx tn tb pp ∧ btx tn tb pp ≤ 57
        · rw [if_pos q, if_neg (by decide), if_neg (by rw [show (2 : Int32) = nI 2 from rfl]; exact nI_ge h2 (by decide)), if_pos q, m_here N hT h3 (by omega) h4, bnd2_p, h4, nI_1, bnd_eq, nI_1]
          have e : (10 : Int32) * nI v + nI (btx tn tb pp) - 48 = nI (10 * v + btx tn tb pp - 48) := by rw [show (10 : Int32) = nI 10 from rfl, pk_mul, nI_add, show (48 : Int32) = nI 48 from rfl, pk_sub (by omega)]
          rw [e]
        · rw [if_neg q, if_pos rfl, if_neg q]
      have last : ∀ (K' : Int32 → Int32 → Int32 → xHp → Option (Unit × xHp)) (hx : xHp) (pp v : Nat), pp < 2 ^ 30 → MTx tn tb hx → gI hx 51 46 = nI pp → F_X9_item_104_b N K' (nI p) (nI v) (nI 2) hx = F_X9_item_149 N (nI p) (nI v) (nI 2) hx := by
        intro K' hx pp v h1 h3 h4
        have bb := btx_b (p := pp) hT
        unfold F_X9_item_104_b
        rw [m_here N hT h3 (by omega) h4, bnd2_p, m_isFig N bb, bnd2_p]
        by_cases q : 48 ≤ btx tn tb pp ∧ btx tn tb pp ≤ 57
        · rw [if_pos q, if_neg (by decide), if_pos (by decide)]
        · rw [if_neg q, if_pos rfl]
      have t1 := turn (F_X9_item_104_b N (F_X9_item_104_b N K)) (sI h 51 46 (nI (p + 1))) (p + 1) 0 0 (by omega) (by decide) x1 p1
      rw [show F_X9_item_104_b N (F_X9_item_104_b N (F_X9_item_104_b N K)) (nI p) 0 0 (sI h 51 46 (nI (p + 1))) = _ from t1]
      by_cases q2 : 48 ≤ btx tn tb (p + 1) ∧ btx tn tb (p + 1) ≤ 57
      · have f2 : FL [(51,46,47)] (sI h 51 46 (nI (p + 1))) (sI (sI h 51 46 (nI (p + 1))) 51 46 (nI (p + 1 + 1))) := FL.i _ rfl
        have x2 := x1.fr f2 rfl
        have p2 : gI (sI (sI h 51 46 (nI (p + 1))) 51 46 (nI (p + 1 + 1))) 51 46 = nI (p + 2) := by rw [gI_sI, if_pos rfl, if_pos rfl]
        have f12 := f1.trans f2
        have w2 : gI (sI (sI h 51 46 (nI (p + 1))) 51 46 (nI (p + 1 + 1))) 51 47 = -1 := by rw [(f12.1 51 47 rfl).1]; exact hwr
        rw [if_pos q2, if_pos q2, show 10 * 0 + btx tn tb (p + 1) - 48 = btx tn tb (p + 1) - 48 by omega, turn _ _ (p + 2) (btx tn tb (p + 1) - 48) 1 (by omega) (by decide) x2 p2]
        by_cases q3 : 48 ≤ btx tn tb (p + 2) ∧ btx tn tb (p + 2) ≤ 57
        · have f3 : FL [(51,46,47)] (sI (sI h 51 46 (nI (p + 1))) 51 46 (nI (p + 1 + 1))) (sI (sI (sI h 51 46 (nI (p + 1))) 51 46 (nI (p + 1 + 1))) 51 46 (nI (p + 2 + 1))) := FL.i _ rfl
          have f13 := f12.trans f3
          have p3 : gI (sI (sI (sI h 51 46 (nI (p + 1))) 51 46 (nI (p + 1 + 1))) 51 46 (nI (p + 2 + 1))) 51 46 = nI (p + 3) := by rw [gI_sI, if_pos rfl, if_pos rfl]
          rw [if_pos q3, if_pos q3, show 10 * (btx tn tb (p + 1) - 48) + btx tn tb (p + 2) - 48 = 10 * (btx tn tb (p + 1) - 48) + (btx tn tb (p + 2) - 48) by omega, last _ _ (p + 3) _ (by omega) (x.fr f13 rfl) p3]
          obtain ⟨h', e', f', i'⟩ := m_item149 N (p := p) (p2 := p + 3) (k := 10 * (btx tn tb (p + 1) - 48) + (btx tn tb (p + 2) - 48)) (E := E) (n := n) hT hw (x.fr f13 rfl) (rc.ag (FL.ag f13 rfl)) (by omega) (by omega) p3 (by rw [(f13.1 51 47 rfl).1]; exact hwr) (by omega) (fg := nI 2) (by decide)
          exact ⟨h', e', FL.cat f13 f' rfl rfl, i'⟩
        · rw [if_neg q3, if_neg q3]
          obtain ⟨h', e', f', i'⟩ := m_item149 N (p := p) (p2 := p + 2) (k := btx tn tb (p + 1) - 48) (E := E) (n := n) hT hw x2 (rc.ag (FL.ag f12 rfl)) (by omega) (by omega) p2 w2 (by omega) (fg := nI 1) (by decide)
          exact ⟨h', e', FL.cat f12 f' rfl rfl, i'⟩
      · rw [if_neg q2, if_neg q2]
        unfold F_X9_item_149 F_X9_item_163
        rw [if_pos (by decide), p1, m_wrong N w1, bnd2_p]
        exact ⟨_, rfl, FL.cat f1 (f47 _ _) rfl rfl, Or.inl ⟨rfl, by rw [gI_sI, if_pos rfl, if_pos rfl]⟩⟩
    · rw [if_neg q91, if_neg q91]
      exact ⟨_, rfl, f47 _ _, Or.inl ⟨rfl, by rw [gI_sI, if_pos rfl, if_pos rfl]⟩⟩
