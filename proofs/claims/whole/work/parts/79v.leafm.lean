/-! CHECK: the reference's leaf, its stack, its whole text -/
theorem ckI_b {tn n an : Nat} {tb : Nat → Nat} {E A : Ed} {g : Nat → Nat} : ∀ (f p : Nat) (bg : Bool) (b e : Nat) (s : Int), p ≤ tn → p ≤ (ckI (btx tn tb) n E an A g f p bg b e s).1 ∧ (ckI (btx tn tb) n E an A g f p bg b e s).1 ≤ tn := by
  intro f
  induction f with
  | zero => intro p bg b e s h; exact ⟨Nat.le_refl p, h⟩
  | succ f ih =>
    intro p bg b e s h
    obtain ⟨p1, p2, p3⟩ := itAt_p (tn := tn) (n := n) (an := an) (p := p) (tb := tb) (E := E) (A := A) (g := g)
    have p2' := p2 h
    unfold ckI
    by_cases h1 : btx tn tb p = 59
    · have := btx_lt (tn := tn) (tb := tb) (p := p) (by omega)
      rw [if_pos h1]
      by_cases h2 : bg = true ∧ e = b ∧ s < 0
      · rw [if_pos h2]; exact ⟨by show p ≤ p + 1; omega, this⟩
      · rw [if_neg h2]; exact ⟨Nat.le_refl p, h⟩
    · rw [if_neg h1]
      by_cases h2 : (itAt (btx tn tb) n E an A g p).1 = false
      · rw [if_pos h2]; exact ⟨p1, p2'⟩
      · rw [if_neg h2]
        by_cases h3 : bg = true ∧ (itAt (btx tn tb) n E an A g p).2.2.1 ≠ e
        · rw [if_pos h3]; exact ⟨Nat.le_refl p, h⟩
        · rw [if_neg h3]
          have := ih (itAt (btx tn tb) n E an A g p).2.1 true (if bg = true then b else (itAt (btx tn tb) n E an A g p).2.2.1) (itAt (btx tn tb) n E an A g p).2.2.2.1 (s + (itAt (btx tn tb) n E an A g p).2.2.2.2) p2'
          exact ⟨by omega, this.2⟩
def LLv : Lc := [(51,46,48),(51,50,53),(52,60,0),(53,60,0),(54,60,0),(55,0,0),(72,0,0)]
theorem m_leafT (N : Nat) (hN : 7000 ≤ N) {tn n an p d : Nat} {tb : Nat → Nat} {E A : Ed} {cs : List Nat} {g : Nat → Nat} {h : xHp} (hT : Twf 6000 tn tb) (pf : PF n E an A cs) (hg2 : ∀ k, g k ≤ 2) (x : MTx tn tb h) (rc : Mcon n E h) (rf : Mfor an A cs h) (tr : Tru g h) (hpl : gI h 51 46 = nI p) (hwr : gI h 51 47 = -1) (hp : p ≤ tn) (hd : d < 11) :
    (∃ R h', lfT (btx tn tb) tn n E an A cs p g = some R ∧ F_X9_leaf N (nI d) h = some (1, h') ∧ FL LLv h h' ∧ OM R h' ∧ R.1 ≤ tn ∧ (R.2 = true → p < R.1)) ∨
    (lfT (btx tn tb) tn n E an A cs p g = none ∧ btx tn tb p - 48 < an ∧ g (btx tn tb p - 48) = 1 ∧ p + 2 ≤ tn ∧ ∃ h', F_X9_leaf N (nI d) h = some (0, h') ∧ FL LLg h h' ∧ gI h' 51 46 = nI (p + 2) ∧ gI h' 51 47 = -1 ∧ Tru (upN g (btx tn tb p - 48) 0) h' ∧ gI h' 75 d = nI (btx tn tb p - 48) ∧ gI h' 76 d = 0 ∧ ∀ j, j < d → gI h' 75 j = gI h 75 j ∧ gI h' 76 j = gI h 76 j) := by
  obtain ⟨hw, hn6, hA, hf, _⟩ := pf
  have han := hf.1
  have hR := hT.1
  have bp := btx_b (p := p) hT
  have bp1 := btx_b (p := p + 1) hT
  unfold F_X9_leaf F_X9_leaf_26 F_X9_leaf_80 lfT
  rw [m_here N hT x (by omega) hpl, bnd2_p, show (46 : Int32) = nI 46 from rfl, show (33 : Int32) = nI 33 from rfl]
  simp only [eqc bp (show 46 < 256 by decide), eqc bp (show 33 < 256 by decide)]
  by_cases q46 : btx tn tb p = 46
  · have hlt := btx_lt (tn := tn) (tb := tb) (p := p) (by omega)
    obtain ⟨hj, ej, fj⟩ := m_judge N (by omega) hf rf (fun k hk => tr k (by omega)) (fun k _ => hg2 k)
    have j2 : jd g cs ≤ 2 := (jd_mono hf (fun k _ => hg2 k) (fun k _ => hg2 k) (fun k _ => Or.inr rfl)).2
    have tj : (nI (tm (jd g cs)) = 0) ↔ jd g cs = 0 := by rcases le2 j2 with q | q | q <;> rw [q] <;> decide
    have pj : gI hj 51 46 = nI p := by rw [(fj.1 51 46 rfl).1]; exact hpl
    have wj : gI hj 51 47 = -1 := by rw [(fj.1 51 47 rfl).1]; exact hwr
    left
    rw [if_pos q46, ej, bnd2_p, m_wrong N wj, bnd2_p, bnd_eq, bnd_eq]
    simp only [tj]
    by_cases q0 : jd g cs = 0
    · rw [if_pos q0, if_pos q46, if_pos q0, pj, nI_1]
      have f3 : FL [(51,46,47)] hj (sI hj 51 46 (nI (p + 1))) := FL.i hj rfl
      exact ⟨_, _, rfl, rfl, FL.cat fj f3 rfl rfl, ⟨fun _ => ⟨by rw [(f3.1 51 47 rfl).1]; exact wj, by rw [gI_sI, if_pos rfl, if_pos rfl]⟩, fun q => tf q⟩, hlt, fun _ => Nat.lt_succ_self p⟩
    · rw [if_neg q0, if_pos q46, if_neg q0, pj]
      have f3 : FL [(51,46,48)] hj (sI (sI hj 51 47 (nI p)) 51 46 (gI (sI hj 51 47 (nI p)) 51 46 + 1)) := (FL.i hj rfl).trans (FL.i _ rfl)
      exact ⟨_, _, rfl, rfl, FL.cat fj f3 rfl rfl, ⟨fun q => ft q, fun _ => by simp +decide only [gI_sI, if_false, if_true]⟩, hp, fun q => ft q⟩
  · rw [if_neg q46, if_neg q46]
    by_cases q33 : btx tn tb p = 33
    · have hlt := btx_lt (tn := tn) (tb := tb) (p := p) (by omega)
      obtain ⟨h', e', f', g'⟩ := m_rck N hN hT hw hA han hg2 x rc rf tr hpl hwr hlt
      obtain ⟨l1, l2⟩ := ckI_b (tn := tn) (n := n) (an := an) (tb := tb) (E := E) (A := A) (g := g) (tn + 1) (p + 1) false 0 0 0 hlt
      left
      rw [if_pos q33, if_pos q33, e', bnd2_p]
      exact ⟨_, _, rfl, rfl, FL.sub f' rfl, g', l2, fun _ => by omega⟩
    · have bad : ∃ h', some ((1 : Int32), sI h 51 47 (nI p)) = some (1, h') ∧ FL LLv h h' ∧ OM (p, false) h' := ⟨_, rfl, FL.i h rfl, fun q => ft q, fun _ => by rw [gI_sI, if_pos rfl, if_pos rfl]⟩
      have badL : ¬ ((48 ≤ btx tn tb p ∧ btx tn tb p ≤ 57) ∧ btx tn tb p - 48 < an ∧ g (btx tn tb p - 48) = 1) → (if (48 ≤ btx tn tb p ∧ btx tn tb p ≤ 57) ∧ btx tn tb p - 48 < an ∧ g (btx tn tb p - 48) = 1 then (if btx tn tb (p + 1) = 40 then none else some (p + 1, false)) else some (p, false)) = some (p, false) := fun q => if_neg q
      rw [if_neg q33, if_neg q33, m_isFig N bp, bnd2_p, m_wrong N hwr, bnd2_p, hpl]
      by_cases qf : 48 ≤ btx tn tb p ∧ btx tn tb p ≤ 57
      · have ek : nI (btx tn tb p) - 48 = nI (btx tn tb p - 48) := by rw [show (48 : Int32) = nI 48 from rfl, pk_sub qf.1]
        rw [if_pos qf, if_neg (show ¬ (1 : Int32) = 0 by decide), ek, rf.1]
        have hlt := btx_lt (tn := tn) (tb := tb) (p := p) (by omega)
        have k10 : btx tn tb p - 48 < 10 := by omega
        by_cases q1 : btx tn tb p - 48 < an
        · have tk : (nI (tm (g (btx tn tb p - 48))) = 2) ↔ g (btx tn tb p - 48) = 1 := by rcases le2 (hg2 (btx tn tb p - 48)) with q | q | q <;> rw [q] <;> decide
          rw [if_neg (nI_ge q1 (by omega)), grd_t (xin_nI k10 (by decide)), nI_cl (show btx tn tb p - 48 < 2 ^ 31 by omega), tr _ k10]
          simp only [tk]
          by_cases q2 : g (btx tn tb p - 48) = 1
          · have f1 : FL [(51,46,47)] h (sI h 51 46 (nI (p + 1))) := FL.i h rfl
            have p1 : gI (sI h 51 46 (nI (p + 1))) 51 46 = nI (p + 1) := by rw [gI_sI, if_pos rfl, if_pos rfl]
            have w1 : gI (sI h 51 46 (nI (p + 1))) 51 47 = -1 := by rw [(f1.1 51 47 rfl).1]; exact hwr
            rw [if_pos q2, if_pos ⟨qf, q1, q2⟩, nI_1, bnd_eq, m_here N hT (x.fr f1 rfl) (by omega) p1, bnd2_p, show (40 : Int32) = nI 40 from rfl]
            simp only [eqc bp1 (show 40 < 256 by decide)]
            by_cases q40 : btx tn tb (p + 1) = 40
            · have hlt1 := btx_lt (tn := tn) (tb := tb) (p := p + 1) (by omega)
              right
              generalize btx tn tb p - 48 = k at q1 q2 k10 ⊢
              simp only [if_pos q40, p1, nI_1, bnd_eq, grd_t (xin_nI hd (show 11 < 2 ^ 31 by decide)), grd_t (xin_nI k10 (show 10 < 2 ^ 31 by decide)), nI_cl (show d < 2 ^ 31 by omega), nI_cl (show k < 2 ^ 31 by omega), nar0]
              refine ⟨trivial, q1, q2, hlt1, _, rfl, (FL.i h rfl).trans ((FL.i _ rfl).trans ((FL.i _ rfl).trans ((FL.i _ rfl).trans (FL.i _ rfl)))), ?_, ?_, ?_, ?_, ?_, ?_⟩
              · simp +decide only [gI_sI, if_false, if_true]
              · simp +decide only [gI_sI, if_false, if_true]; exact hwr
              · intro j hj
                simp +decide only [gI_sI, if_false, if_true]
                unfold upN
                by_cases q : j = k
                · rw [if_pos q, if_pos q]; rfl
                · rw [if_neg q, if_neg q]; exact tr j hj
              · simp +decide only [gI_sI, if_false, if_true]
              · simp +decide only [gI_sI, if_false, if_true]
              · intro j hj
                have : ¬ j = d := by omega
                simp +decide only [gI_sI, if_false, if_true, if_neg this]
            · left
              rw [if_neg q40, if_neg q40, p1, m_wrong N w1, bnd2_p]
              exact ⟨_, _, rfl, rfl, (FL.i h rfl).trans (FL.i _ rfl), ⟨fun q => ft q, fun _ => by rw [gI_sI, if_pos rfl, if_pos rfl]⟩, hlt, fun q => ft q⟩
          · left
            rw [if_neg q2, badL (fun q => q2 q.2.2)]
            obtain ⟨h', e', f', g'⟩ := bad
            exact ⟨_, h', rfl, e', f', g', hp, fun q => ft q⟩
        · left
          rw [if_pos (nI_le (by omega) (by omega)), badL (fun q => q1 q.2.1)]
          obtain ⟨h', e', f', g'⟩ := bad
          exact ⟨_, h', rfl, e', f', g', hp, fun q => ft q⟩
      · left
        rw [if_neg qf, if_pos (show (0 : Int32) = 0 from rfl), badL (fun q => qf q.1)]
        obtain ⟨h', e', f', g'⟩ := bad
        exact ⟨_, h', rfl, e', f', g', hp, fun q => ft q⟩
/-- what holds between the trees -/
def MSt (tn : Nat) (tb : Nat → Nat) (n : Nat) (E : Ed) (an : Nat) (A : Ed) (cs : List Nat) (g : Nat → Nat) (p : Nat) (h : xHp) : Prop := MTx tn tb h ∧ Mcon n E h ∧ Mfor an A cs h ∧ Tru g h ∧ gI h 51 46 = nI p ∧ gI h 51 47 = -1
theorem m_end200 (N : Nat) {z w : Nat} {h : xHp} (hb : w < 2 ^ 31) (hw : gI h 51 47 = nI w) (x1 x2 : Int32) : xit (F_X9_goThrough_35_b N) (fun _ _ _ => none) (z + 1) x1 x2 h = some ((), h) := by
  show F_X9_goThrough_35_b N (xit (F_X9_goThrough_35_b N) (fun _ _ _ => none) z) x1 x2 h = some ((), h)
  generalize xit (F_X9_goThrough_35_b N) (fun _ _ _ => none) z = K
  have ne : ¬ gI h 51 47 = -1 := by rw [hw]; exact nI_neg1 hb
  unfold F_X9_goThrough_35_b F_X9_goThrough_200
  by_cases q : x2 = 0
  · rw [if_pos q, if_neg ne]
  · rw [if_neg q, if_neg ne, if_neg ne]
theorem m_stop63 (N : Nat) {y z w : Nat} {h : xHp} (hb : w < 2 ^ 31) (hw : gI h 51 47 = nI w) (x1 x2 x3 : Int32) : xit (F_X9_goThrough_63_b N (xit (F_X9_goThrough_35_b N) (fun _ _ _ => none) (z + 1))) (fun _ _ _ _ => none) (y + 1) x1 x2 x3 h = some ((), h) := by
  show F_X9_goThrough_63_b N _ (xit (F_X9_goThrough_63_b N (xit (F_X9_goThrough_35_b N) (fun _ _ _ => none) (z + 1))) (fun _ _ _ _ => none) y) x1 x2 x3 h = some ((), h)
  generalize xit (F_X9_goThrough_63_b N (xit (F_X9_goThrough_35_b N) (fun _ _ _ => none) (z + 1))) (fun _ _ _ _ => none) y = K63
  have en := m_end200 N (z := z) hb hw x1 x2
  generalize xit (F_X9_goThrough_35_b N) (fun _ _ _ => none) (z + 1) = K at en ⊢
  have ne : ¬ gI h 51 47 = -1 := by rw [hw]; exact nI_neg1 hb
  unfold F_X9_goThrough_63_b F_X9_goThrough_197
  by_cases q : x3 = 0
  · rw [if_pos q]; exact en
  · rw [if_neg q, if_neg ne]; exact en
theorem m_ctree (N : Nat) (hN : 7000 ≤ N) {tn n an : Nat} {tb : Nat → Nat} {E A : Ed} {cs : List Nat} (hT : Twf 6000 tn tb) (pf : PF n E an A cs) : ∀ (f z d p : Nat) (g : Nat → Nat) (h : xHp), f + d = an → opn an g = f → (∀ k, g k ≤ 2) → p ≤ tn → tn + 2 < z + p → MSt tn tb n E an A cs g p h →
    ((ckT (btx tn tb) tn n E an A cs f p g).2 = false ∧ ∃ h', xit (F_X9_goThrough_35_b N) (fun _ _ _ => none) z (nI d) 1 h = some ((), h') ∧ FL LLg h h' ∧ gI h' 51 47 = nI (ckT (btx tn tb) tn n E an A cs f p g).1) ∨
    ((ckT (btx tn tb) tn n E an A cs f p g).2 = true ∧ ∃ h' z' y, xit (F_X9_goThrough_35_b N) (fun _ _ _ => none) z (nI d) 1 h = xit (F_X9_goThrough_63_b N (xit (F_X9_goThrough_35_b N) (fun _ _ _ => none) z')) (fun _ _ _ _ => none) y (nI d) 1 1 h' ∧ FL LLg h h' ∧ MSt tn tb n E an A cs g (ckT (btx tn tb) tn n E an A cs f p g).1 h' ∧ (∀ j, j < d → gI h' 75 j = gI h 75 j ∧ gI h' 76 j = gI h 76 j) ∧ tn + 2 < z' + (ckT (btx tn tb) tn n E an A cs f p g).1 ∧ N ≤ y + f) := by
  have hf := pf.2.2.2.1
  have han := hf.1
  have hR := hT.1
  intro f
  induction f with
  | zero =>
    intro z d p g h h1 ho hg2 hp hz st
    obtain ⟨x, rc, rf, tr, hpl, hwr⟩ := st
    obtain ⟨z, rfl⟩ : ∃ z', z = z' + 2 := ⟨z - 2, by omega⟩
    rcases m_leafT N hN (d := d) hT pf hg2 x rc rf tr hpl hwr hp (by omega) with ⟨R, h', l1, e1, f1, o1, b1, b2⟩ | ⟨l1, k1, k2, _⟩
    · have er : ckT (btx tn tb) tn n E an A cs 0 p g = R := by unfold ckT; rw [l1]; rfl
      have st1 : xit (F_X9_goThrough_35_b N) (fun _ _ _ => none) (z + 2) (nI d) 1 h = xit (F_X9_goThrough_63_b N (xit (F_X9_goThrough_35_b N) (fun _ _ _ => none) (z + 1))) (fun _ _ _ _ => none) N (nI d) 1 1 h' := by
        show F_X9_goThrough_35_b N (xit (F_X9_goThrough_35_b N) (fun _ _ _ => none) (z + 1)) (nI d) 1 h = _
        generalize xit (F_X9_goThrough_35_b N) (fun _ _ _ => none) (z + 1) = K
        unfold F_X9_goThrough_35_b
        rw [if_neg (by decide), if_pos hwr, e1, bnd2_p, if_neg (by decide)]
        rfl
      rw [er, st1]
      obtain ⟨r1, r2⟩ := R
      cases r2 with
      | false =>
        left
        obtain ⟨y, rfl⟩ : ∃ y, N = y + 1 := ⟨N - 1, by omega⟩
        have hb : r1 ≤ tn := b1
        exact ⟨rfl, h', m_stop63 (y + 1) (by omega) (o1.2 rfl) _ _ _, FL.sub f1 rfl, o1.2 rfl⟩
      | true =>
        right
        obtain ⟨o2, o3⟩ := o1.1 rfl
        have b2' : p < r1 := b2 rfl
        refine ⟨rfl, h', z + 1, N, rfl, FL.sub f1 rfl, ⟨x.fr f1 rfl, rc.ag (f1.ag rfl), rf.ag (f1.ag rfl), fun k hk => by rw [(f1.1 71 k rfl).1]; exact tr k hk, o3, o2⟩, fun j _ => ⟨(f1.1 75 j rfl).1, (f1.1 76 j rfl).1⟩, ?_, by omega⟩
        show tn + 2 < z + 1 + r1
        omega
    · exact absurd k2 (opn_0 ho k1)
  | succ f ih =>
    intro z d p g h h1 ho hg2 hp hz st
    obtain ⟨x, rc, rf, tr, hpl, hwr⟩ := st
    obtain ⟨z, rfl⟩ : ∃ z', z = z' + 2 := ⟨z - 2, by omega⟩
    rcases m_leafT N hN (d := d) hT pf hg2 x rc rf tr hpl hwr hp (by omega) with ⟨R, h', l1, e1, f1, o1, b1, b2⟩ | ⟨l1, k1, k2, k3, h1', e1, f1, a1, a2, a3, a4, a5, a6⟩
    · have er : ckT (btx tn tb) tn n E an A cs (f + 1) p g = R := by unfold ckT; rw [l1]; rfl
      have st1 : xit (F_X9_goThrough_35_b N) (fun _ _ _ => none) (z + 2) (nI d) 1 h = xit (F_X9_goThrough_63_b N (xit (F_X9_goThrough_35_b N) (fun _ _ _ => none) (z + 1))) (fun _ _ _ _ => none) N (nI d) 1 1 h' := by
        show F_X9_goThrough_35_b N (xit (F_X9_goThrough_35_b N) (fun _ _ _ => none) (z + 1)) (nI d) 1 h = _
        generalize xit (F_X9_goThrough_35_b N) (fun _ _ _ => none) (z + 1) = K
        unfold F_X9_goThrough_35_b
        rw [if_neg (by decide), if_pos hwr, e1, bnd2_p, if_neg (by decide)]
        rfl
      rw [er, st1]
      obtain ⟨r1, r2⟩ := R
      cases r2 with
      | false =>
        left
        obtain ⟨y, rfl⟩ : ∃ y, N = y + 1 := ⟨N - 1, by omega⟩
        have hb : r1 ≤ tn := b1
        exact ⟨rfl, h', m_stop63 (y + 1) (by omega) (o1.2 rfl) _ _ _, FL.sub f1 rfl, o1.2 rfl⟩
      | true =>
        right
        obtain ⟨o2, o3⟩ := o1.1 rfl
        have b2' : p < r1 := b2 rfl
        refine ⟨rfl, h', z + 1, N, rfl, FL.sub f1 rfl, ⟨x.fr f1 rfl, rc.ag (f1.ag rfl), rf.ag (f1.ag rfl), fun k hk => by rw [(f1.1 71 k rfl).1]; exact tr k hk, o3, o2⟩, fun j _ => ⟨(f1.1 75 j rfl).1, (f1.1 76 j rfl).1⟩, ?_, by omega⟩
        show tn + 2 < z + 1 + r1
        omega
    · have er : ckT (btx tn tb) tn n E an A cs (f + 1) p g = ckB (btx tn tb) (btx tn tb p - 48) (ckT (btx tn tb) tn n E an A cs f) p g := by unfold ckT; rw [l1]; rfl
      have st1 : xit (F_X9_goThrough_35_b N) (fun _ _ _ => none) (z + 2) (nI d) 1 h = xit (F_X9_goThrough_35_b N) (fun _ _ _ => none) (z + 1) (nI (d + 1)) 1 h1' := by
        show F_X9_goThrough_35_b N (xit (F_X9_goThrough_35_b N) (fun _ _ _ => none) (z + 1)) (nI d) 1 h = _
        generalize xit (F_X9_goThrough_35_b N) (fun _ _ _ => none) (z + 1) = K
        unfold F_X9_goThrough_35_b
        rw [if_neg (by decide), if_pos hwr, e1, bnd2_p, if_pos rfl, nI_1]
      rw [er, st1]
      generalize btx tn tb p - 48 = k at k1 k2 a3 a4 ⊢
      have u2 : ∀ t j, t ≤ 2 → upN g k t j ≤ 2 := fun t j ht => by
        unfold upN
        by_cases q : j = k
        · rw [if_pos q]; exact ht
        · rw [if_neg q]; exact hg2 j
      have op0 := opn_up (an := an) (k := k) (v := 0) (g := g) k1 k2 (by decide)
      have op2 := opn_up (an := an) (k := k) (v := 2) (g := g) k1 k2 (by decide)
      have d1 : nI (d + 1) - 1 = nI d := by rw [show (1 : Int32) = nI 1 from rfl, pk_sub (by omega)]; rfl
      have d2 : nI (d + 1) + -1 = nI d := by rw [← d1, Int32.sub_eq_add_neg]
      have i11 : xin (nI d) 11 = true := xin_nI (by omega) (by decide)
      have i10 : xin (nI k) 10 = true := xin_nI (by omega) (by decide)
      have kc : (nI k).toNatClampNeg = k := nI_cl (by omega)
      have dc : (nI d).toNatClampNeg = d := nI_cl (by omega)
      unfold ckB
      rcases ih (z + 1) (d + 1) (p + 2) (upN g k 0) h1' (by omega) (by omega) (fun j => u2 0 j (by omega)) k3 (by omega) ⟨x.fr f1 rfl, rc.ag (f1.ag rfl), rf.ag (f1.ag rfl), a3, a1, a2⟩ with ⟨r1, h2, e2, f2, g2⟩ | ⟨r1, h2, z2, y2, e2, f2, s2, t2, w2, v2⟩
      · left
        rw [if_pos r1]
        exact ⟨r1, h2, e2, f1.trans f2, g2⟩
      · have r1' : ¬ (ckT (btx tn tb) tn n E an A cs f (p + 2) (upN g k 0)).2 = false := by rw [r1]; decide
        have le1 := ckT_le (tn := tn) (n := n) (an := an) (tb := tb) (E := E) (A := A) (g := upN g k 0) (cs := cs) f (p + 2) r1
        rw [if_neg r1', e2]
        generalize (ckT (btx tn tb) tn n E an A cs f (p + 2) (upN g k 0)).1 = s1 at s2 w2 le1 ⊢
        obtain ⟨x2, rc2, rf2, tr2, hpl2, hwr2⟩ := s2
        obtain ⟨y2, rfl⟩ : ∃ y, y2 = y + 2 := ⟨y2 - 2, by omega⟩
        obtain ⟨z2, rfl⟩ : ∃ y, z2 = y + 1 := ⟨z2 - 1, by omega⟩
        obtain ⟨t21, t22⟩ := t2 d (by omega)
        have c75 : gI h2 75 d = nI k := t21.trans a4
        have c76 : gI h2 76 d = 0 := t22.trans a5
        have bs1 := btx_b (p := s1) hT
        -- after a comma
        have go159 : ∀ hx : xHp, gI hx 75 d = nI k → ∀ (K : Int32 → Int32 → xHp → Option (Unit × xHp)) (K63 : Int32 → Int32 → Int32 → xHp → Option (Unit × xHp)), F_X9_goThrough_159 N K K63 (nI (d + 1)) 1 hx = K63 (nI (d + 1)) 1 0 (sI (sI (sI hx 51 46 (gI hx 51 46 + 1)) 76 d 1) 71 k 1) := by
          intro hx hc K K63
          unfold F_X9_goThrough_159
          have e75 : gI (sI (sI hx 51 46 (gI hx 51 46 + 1)) 76 d 1) 75 d = nI k := by simp +decide only [gI_sI, if_false]; exact hc
          simp only [d1, grd_t i11, bnd_eq, dc, nar1, e75, grd_t i10, kc]
        have st2 : ∀ hx : xHp, xit (F_X9_goThrough_63_b N (xit (F_X9_goThrough_35_b N) (fun _ _ _ => none) (z2 + 1))) (fun _ _ _ _ => none) (y2 + 1) (nI (d + 1)) 1 0 hx = xit (F_X9_goThrough_35_b N) (fun _ _ _ => none) (z2 + 1) (nI (d + 1)) 1 hx := by
          intro hx
          show F_X9_goThrough_63_b N (xit (F_X9_goThrough_35_b N) (fun _ _ _ => none) (z2 + 1)) (xit (F_X9_goThrough_63_b N (xit (F_X9_goThrough_35_b N) (fun _ _ _ => none) (z2 + 1))) (fun _ _ _ _ => none) y2) (nI (d + 1)) 1 0 hx = _
          unfold F_X9_goThrough_63_b F_X9_goThrough_197
          rw [if_pos rfl]
        have fr3 : ∀ hx : xHp, FL LLg hx (sI (sI (sI hx 51 46 (gI hx 51 46 + 1)) 76 d 1) 71 k 1) := fun hx => (FL.i hx rfl).trans ((FL.i _ rfl).trans (FL.i _ rfl))
        have head : xit (F_X9_goThrough_63_b N (xit (F_X9_goThrough_35_b N) (fun _ _ _ => none) (z2 + 1))) (fun _ _ _ _ => none) (y2 + 2) (nI (d + 1)) 1 1 h2 = if btx tn tb s1 = 44 then xit (F_X9_goThrough_35_b N) (fun _ _ _ => none) (z2 + 1) (nI (d + 1)) 1 (sI (sI (sI h2 51 46 (gI h2 51 46 + 1)) 76 d 1) 71 k 1) else xit (F_X9_goThrough_35_b N) (fun _ _ _ => none) (z2 + 1) (nI (d + 1)) 1 (sI (sI (sI (sI h2 51 47 (nI s1)) 51 46 (gI (sI h2 51 47 (nI s1)) 51 46 + 1)) 76 d 1) 71 k 1) := by
          show F_X9_goThrough_63_b N (xit (F_X9_goThrough_35_b N) (fun _ _ _ => none) (z2 + 1)) (xit (F_X9_goThrough_63_b N (xit (F_X9_goThrough_35_b N) (fun _ _ _ => none) (z2 + 1))) (fun _ _ _ _ => none) (y2 + 1)) (nI (d + 1)) 1 1 h2 = _
          have c75' : gI (sI h2 51 47 (nI s1)) 75 d = nI k := by simp +decide only [gI_sI, if_false]; exact c75
          rw [← st2, ← st2]
          generalize xit (F_X9_goThrough_63_b N (xit (F_X9_goThrough_35_b N) (fun _ _ _ => none) (z2 + 1))) (fun _ _ _ _ => none) (y2 + 1) = K63
          generalize xit (F_X9_goThrough_35_b N) (fun _ _ _ => none) (z2 + 1) = K
          unfold F_X9_goThrough_63_b
          rw [if_neg (by decide), if_pos hwr2, if_neg (nI_ne0 (by omega) (by omega)), d1, grd_t i11, dc, c76, if_pos rfl, m_here N hT x2 (by omega) hpl2, bnd2_p, show (44 : Int32) = nI 44 from rfl, hpl2, m_wrong N hwr2, bnd2_p, go159 h2 c75, go159 _ c75']
          simp only [eqc bs1 (show 44 < 256 by decide), hpl2]
        rw [head]
        by_cases q44 : btx tn tb s1 = 44
        · have hlt2 := btx_lt (tn := tn) (tb := tb) (p := s1) (by omega)
          rw [if_pos q44, if_pos q44]
          have f3 := fr3 h2
          have tr3 : Tru (upN g k 2) (sI (sI (sI h2 51 46 (gI h2 51 46 + 1)) 76 d 1) 71 k 1) := by
            intro j hj
            simp +decide only [gI_sI, if_false, if_true]
            have := tr2 j hj
            unfold upN at this ⊢
            by_cases q : j = k
            · rw [if_pos q, if_pos q]; rfl
            · rw [if_neg q, if_neg q]; rw [if_neg q] at this; exact this
          have p3 : gI (sI (sI (sI h2 51 46 (gI h2 51 46 + 1)) 76 d 1) 71 k 1) 51 46 = nI (s1 + 1) := by
            simp +decide only [gI_sI, if_false, if_true]
            rw [hpl2, nI_1]
          have w3 : gI (sI (sI (sI h2 51 46 (gI h2 51 46 + 1)) 76 d 1) 71 k 1) 51 47 = -1 := by
            simp +decide only [gI_sI, if_false, if_true]
            exact hwr2
          have c76' : gI (sI (sI (sI h2 51 46 (gI h2 51 46 + 1)) 76 d 1) 71 k 1) 76 d = 1 := by simp +decide only [gI_sI, if_false, if_true]
          have c75' : gI (sI (sI (sI h2 51 46 (gI h2 51 46 + 1)) 76 d 1) 71 k 1) 75 d = nI k := by simp +decide only [gI_sI, if_false, if_true]; exact c75
          have lo3 : ∀ j, j < d → gI (sI (sI (sI h2 51 46 (gI h2 51 46 + 1)) 76 d 1) 71 k 1) 75 j = gI h 75 j ∧ gI (sI (sI (sI h2 51 46 (gI h2 51 46 + 1)) 76 d 1) 71 k 1) 76 j = gI h 76 j := by
            intro j hj
            have nj : ¬ j = d := by omega
            simp +decide only [gI_sI, if_false, if_true, if_neg nj]
            obtain ⟨u1, u2⟩ := t2 j (by omega)
            obtain ⟨u3, u4⟩ := a6 j hj
            exact ⟨u1.trans u3, u2.trans u4⟩
          generalize sI (sI (sI h2 51 46 (gI h2 51 46 + 1)) 76 d 1) 71 k 1 = h3 at f3 tr3 p3 w3 c76' c75' lo3 ⊢
          have f13 : FL LLg h h3 := f1.trans (f2.trans f3)
          rcases ih (z2 + 1) (d + 1) (s1 + 1) (upN g k 2) h3 (by omega) (by omega) (fun j => u2 2 j (by omega)) (by omega) (by omega) ⟨x.fr f13 rfl, rc.ag (f13.ag rfl), rf.ag (f13.ag rfl), tr3, p3, w3⟩ with ⟨r3, h4, e4, f4, g4⟩ | ⟨r3, h4, z4, y4, e4, f4, s4, t4, w4, v4⟩
          · left
            rw [if_pos r3]
            exact ⟨r3, h4, e4, f13.trans f4, g4⟩
          · have r3' : ¬ (ckT (btx tn tb) tn n E an A cs f (s1 + 1) (upN g k 2)).2 = false := by rw [r3]; decide
            have le3 := ckT_le (tn := tn) (n := n) (an := an) (tb := tb) (E := E) (A := A) (g := upN g k 2) (cs := cs) f (s1 + 1) r3
            rw [if_neg r3', e4]
            generalize (ckT (btx tn tb) tn n E an A cs f (s1 + 1) (upN g k 2)).1 = s5 at s4 w4 le3 ⊢
            obtain ⟨x4, rc4, rf4, tr4, hpl4, hwr4⟩ := s4
            obtain ⟨y4, rfl⟩ : ∃ y, y4 = y + 2 := ⟨y4 - 2, by omega⟩
            obtain ⟨z4, rfl⟩ : ∃ y, z4 = y + 1 := ⟨z4 - 1, by omega⟩
            obtain ⟨t41, t42⟩ := t4 d (by omega)
            have c75b : gI h4 75 d = nI k := t41.trans c75'
            have c76b : gI h4 76 d = 1 := t42.trans c76'
            have bs5 := btx_b (p := s5) hT
            have go114 : ∀ hx : xHp, gI hx 75 d = nI k → ∀ (K : Int32 → Int32 → xHp → Option (Unit × xHp)) (K63 : Int32 → Int32 → Int32 → xHp → Option (Unit × xHp)), F_X9_goThrough_114 N K K63 (nI (d + 1)) 1 1 hx = K63 (nI d) 1 1 (sI (sI hx 51 46 (gI hx 51 46 + 1)) 71 k 2) := by
              intro hx hc K K63
              unfold F_X9_goThrough_114
              have e75 : gI (sI hx 51 46 (gI hx 51 46 + 1)) 75 d = nI k := by simp +decide only [gI_sI, if_false]; exact hc
              simp only [d2, grd_t i11, bnd_eq, dc, e75, grd_t i10, kc]
            have f14 : FL LLg h h4 := f13.trans f4
            have head2 : xit (F_X9_goThrough_63_b N (xit (F_X9_goThrough_35_b N) (fun _ _ _ => none) (z4 + 1))) (fun _ _ _ _ => none) (y4 + 2) (nI (d + 1)) 1 1 h4 = if btx tn tb s5 = 41 then xit (F_X9_goThrough_63_b N (xit (F_X9_goThrough_35_b N) (fun _ _ _ => none) (z4 + 1))) (fun _ _ _ _ => none) (y4 + 1) (nI d) 1 1 (sI (sI h4 51 46 (gI h4 51 46 + 1)) 71 k 2) else xit (F_X9_goThrough_63_b N (xit (F_X9_goThrough_35_b N) (fun _ _ _ => none) (z4 + 1))) (fun _ _ _ _ => none) (y4 + 1) (nI d) 1 1 (sI (sI (sI h4 51 47 (nI s5)) 51 46 (gI (sI h4 51 47 (nI s5)) 51 46 + 1)) 71 k 2) := by
              show F_X9_goThrough_63_b N (xit (F_X9_goThrough_35_b N) (fun _ _ _ => none) (z4 + 1)) (xit (F_X9_goThrough_63_b N (xit (F_X9_goThrough_35_b N) (fun _ _ _ => none) (z4 + 1))) (fun _ _ _ _ => none) (y4 + 1)) (nI (d + 1)) 1 1 h4 = _
              have c75c : gI (sI h4 51 47 (nI s5)) 75 d = nI k := by simp +decide only [gI_sI, if_false]; exact c75b
              generalize xit (F_X9_goThrough_63_b N (xit (F_X9_goThrough_35_b N) (fun _ _ _ => none) (z4 + 1))) (fun _ _ _ _ => none) (y4 + 1) = K63
              generalize xit (F_X9_goThrough_35_b N) (fun _ _ _ => none) (z4 + 1) = K
              unfold F_X9_goThrough_63_b
              rw [if_neg (by decide), if_pos hwr4, if_neg (nI_ne0 (by omega) (by omega)), d1, grd_t i11, dc, c76b, if_neg (by decide), m_here N hT x4 (by omega) hpl4, bnd2_p, show (41 : Int32) = nI 41 from rfl, hpl4, m_wrong N hwr4, bnd2_p, go114 h4 c75b, go114 _ c75c]
              simp only [eqc bs5 (show 41 < 256 by decide), hpl4]
            rw [head2]
            by_cases q41 : btx tn tb s5 = 41
            · right
              rw [if_pos q41, if_pos q41]
              have f5 : FL [(51,46,47),(71,0,0)] h4 (sI (sI h4 51 46 (gI h4 51 46 + 1)) 71 k 2) := (FL.i h4 rfl).trans (FL.i _ rfl)
              have f15 : FL LLg h (sI (sI h4 51 46 (gI h4 51 46 + 1)) 71 k 2) := FL.cat f14 f5 rfl rfl
              refine ⟨rfl, _, z4 + 1, y4 + 1, rfl, f15, ⟨x.fr f15 rfl, rc.ag (f15.ag rfl), rf.ag (f15.ag rfl), ?_, ?_, ?_⟩, ?_, ?_, by omega⟩
              · intro j hj
                simp +decide only [gI_sI, if_false, if_true]
                have := tr4 j hj
                unfold upN at this
                by_cases q : j = k
                · rw [if_pos q, q, k2]; rfl
                · rw [if_neg q] at this ⊢; exact this
              · simp +decide only [gI_sI, if_false, if_true]
                rw [hpl4, nI_1]
              · simp +decide only [gI_sI, if_false, if_true]
                exact hwr4
              · intro j hj
                obtain ⟨u1, u2⟩ := t4 j (by omega)
                obtain ⟨u3, u4⟩ := lo3 j hj
                exact ⟨((f5.1 75 j rfl).1.trans u1).trans u3, ((f5.1 76 j rfl).1.trans u2).trans u4⟩
              · show tn + 2 < z4 + 1 + (s5 + 1)
                omega
            · left
              rw [if_neg q41, if_neg q41]
              have wr5 : gI (sI (sI (sI h4 51 47 (nI s5)) 51 46 (gI (sI h4 51 47 (nI s5)) 51 46 + 1)) 71 k 2) 51 47 = nI s5 := by simp +decide only [gI_sI, if_false, if_true]
              rw [m_stop63 N (show s5 < 2 ^ 31 by omega) wr5]
              exact ⟨rfl, _, rfl, f14.trans ((FL.i h4 rfl).trans ((FL.i _ rfl).trans (FL.i _ rfl))), wr5⟩
        · left
          rw [if_neg q44, if_neg q44]
          have wr5 : gI (sI (sI (sI (sI h2 51 47 (nI s1)) 51 46 (gI (sI h2 51 47 (nI s1)) 51 46 + 1)) 76 d 1) 71 k 1) 51 47 = nI s1 := by simp +decide only [gI_sI, if_false, if_true]
          rw [m_end200 N (show s1 < 2 ^ 31 by omega) wr5]
          exact ⟨rfl, _, rfl, f1.trans (f2.trans ((FL.i h2 rfl).trans (fr3 _))), wr5⟩
