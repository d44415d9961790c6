/-! CHECK: the whole call on both sides -/
/-- a frame that leaves the Checker's text open -/
def FA (L : Lc) (h h' : xHp) : Prop := ∀ c k, inL L c k = false → gI h' c k = gI h c k ∧ gJ h' c k = gJ h c k
theorem FL.fa {L : Lc} {h h' : xHp} (f : FL L h h') : FA L h h' := f.1
theorem FL.faT {L : Lc} {h h' : xHp} {t : Nat} (f : FL L (sT h t) h') : FA L h h' := f.1
theorem FA.ag {L D : Lc} {h h' : xHp} (f : FA L h h') (d : djL D L = true) : Ag D h h' := fun c k hi => (f c k (djL_ok d hi)).1
theorem FA.trans {L : Lc} {h h1 h2 : xHp} (a : FA L h h1) (b : FA L h1 h2) : FA L h h2 := fun c k hp => ⟨(b c k hp).1.trans (a c k hp).1, (b c k hp).2.trans (a c k hp).2⟩
theorem FA.sub {L M : Lc} {h h' : xHp} (f : FA L h h') (s : sbL L M = true) : FA M h h' := fun c k hm => f c k (by
  cases hl : inL L c k with
  | false => rfl
  | true => rw [sbL_ok s hl] at hm; cases hm)
theorem FA.cat {L M K : Lc} {h h1 h2 : xHp} (a : FA L h h1) (b : FA M h1 h2) (s1 : sbL L K = true) (s2 : sbL M K = true) : FA K h h2 := FA.trans (FA.sub a s1) (FA.sub b s2)
theorem opn_1 (an : Nat) : opn an (fun _ => 1) = an := by
  induction an with
  | zero => rfl
  | succ m ih =>
    show cW (fun k => decide ((fun _ => 1) k = 1)) 0 m + (if decide ((1 : Nat) = 1) = true then 1 else 0) = m + 1
    have : cW (fun k => decide ((fun _ => 1) k = 1)) 0 m = m := ih
    rw [this, if_pos (by decide)]
theorem Twf.mono {a b n : Nat} {tb : Nat → Nat} (h : Twf a n tb) (q : a ≤ b) : Twf b n tb := ⟨by have := h.1; omega, h.2⟩
/-- what check finds: -1, or the wrong place -/
def ckR (tn : Nat) (tb : Nat → Nat) (n : Nat) (E : Ed) (an : Nat) (A : Ed) (cs : List Nat) : Nat × Bool := ckT (btx tn tb) tn n E an A cs an 0 (fun _ => 1)
def ckV (tn : Nat) (R : Nat × Bool) : Int32 := if R.2 = true ∧ R.1 = tn then -1 else nI R.1
theorem c_find28 (N : Nat) (hN : 7000 ≤ N) {tn n an : Nat} {tb : Nat → Nat} {E A : Ed} {cs : List Nat} {h : xHp} (hT : Twf 6000 tn tb) (pf : PF n E an A cs) (rc : Ccon n E h) (rf : Cfor an A cs h) (cw : Cwri tn tb h) : ∃ h', F_X0_findFault_t28 N h = some (ckV tn (ckR tn tb n E an A cs), h') ∧ FL LCt (sT h 28) h' := by
  have han := pf.2.2.2.1.1
  have hR := hT.1
  have f1 : FL [(50,3,4)] (sT h 28) (sI (sT h 28) 50 3 0) := FL.i _ rfl
  obtain ⟨h2, e2, f2, g2⟩ := c_giveN N (by omega) (sI (sT h 28) 50 3 0)
  have f12 : FL LCt (sT h 28) h2 := FL.cat f1 f2 rfl rfl
  have c0 : Ctx28 tn tb (sT h 28) := ⟨rfl, cw.1, cw.2⟩
  have c2 : Ctx28 tn tb h2 := c0.fr f12 rfl
  have rc2 : Ccon n E h2 := rc.ag (f12.faT.ag rfl)
  have rf2 : Cfor an A cs h2 := rf.ag (f12.faT.ag rfl)
  obtain ⟨h3, e3, f3, p3, _⟩ := k28_tree N hN hT pf 12 an 0 0 (fun _ => 1) h2 (by omega) (by omega) (opn_1 an) (fun _ => by omega) (by omega) c2 rc2 rf2 (fun k hk => g2 k hk) (by rw [(f2.1 50 3 rfl).1, gI_sI, if_pos rfl, if_pos rfl]; rfl)
  have le := ckT_le (tn := tn) (n := n) (an := an) (tb := tb) (E := E) (A := A) (g := fun _ => 1) (cs := cs) an 0
  have c3 : Ctx28 tn tb h3 := c2.fr f3 rfl
  unfold F_X0_findFault_t28 F_X0_findFault_t28_43 F_X0_passTree_t28 ckV ckR
  rw [bnd_eq, bnd_eq, e2, bnd2_p, show (0 : Int32) = nI 0 from rfl, e3, bnd2_p, grd_t (decide_eq_true c3.1), c3.2.1]
  generalize ckT (btx tn tb) tn n E an A cs an 0 (fun _ => 1) = R at p3 le ⊢
  obtain ⟨r1, r2⟩ := R
  have p3' : gI h3 50 3 = nI r1 := p3
  cases r2 with
  | false =>
    rw [if_pos (show b32 false = nI 0 from rfl), if_neg (fun q => ft q.1), p3']
    exact ⟨h3, rfl, FL.cat f12 f3 rfl rfl⟩
  | true =>
    have le' : r1 ≤ tn := le rfl
    rw [if_neg (show ¬ b32 true = nI 0 by decide), p3']
    simp only [nI_eq (show r1 < 2 ^ 31 by omega) (show tn < 2 ^ 31 by omega)]
    by_cases q : r1 = tn
    · rw [if_pos q, if_pos ⟨trivial, q⟩]
      exact ⟨h3, rfl, FL.cat f12 f3 rfl rfl⟩
    · rw [if_neg q, if_neg (fun z => q z.2)]
      exact ⟨h3, rfl, FL.cat f12 f3 rfl rfl⟩
theorem c_find26 (N : Nat) (hN : 7000 ≤ N) {tn n an : Nat} {tb : Nat → Nat} {E A : Ed} {cs : List Nat} {h : xHp} (hT : Twf 400 tn tb) (pf : PF n E an A cs) (rc : Ccon n E h) (rf : Cfor an A cs h) (cw : Ctap tn tb h) : ∃ h', F_X0_findFault_t26 N h = some (ckV tn (ckR tn tb n E an A cs), h') ∧ FL LCt (sT h 26) h' := by
  have han := pf.2.2.2.1.1
  have hR := hT.1
  have f1 : FL [(50,3,4)] (sT h 26) (sI (sT h 26) 50 3 0) := FL.i _ rfl
  obtain ⟨h2, e2, f2, g2⟩ := c_giveN N (by omega) (sI (sT h 26) 50 3 0)
  have f12 : FL LCt (sT h 26) h2 := FL.cat f1 f2 rfl rfl
  have c0 : Ctx26 tn tb (sT h 26) := ⟨rfl, cw.1, cw.2⟩
  have c2 : Ctx26 tn tb h2 := c0.fr f12 rfl
  have rc2 : Ccon n E h2 := rc.ag (f12.faT.ag rfl)
  have rf2 : Cfor an A cs h2 := rf.ag (f12.faT.ag rfl)
  obtain ⟨h3, e3, f3, p3, _⟩ := k26_tree N hN hT pf 12 an 0 0 (fun _ => 1) h2 (by omega) (by omega) (opn_1 an) (fun _ => by omega) (by omega) c2 rc2 rf2 (fun k hk => g2 k hk) (by rw [(f2.1 50 3 rfl).1, gI_sI, if_pos rfl, if_pos rfl]; rfl)
  have le := ckT_le (tn := tn) (n := n) (an := an) (tb := tb) (E := E) (A := A) (g := fun _ => 1) (cs := cs) an 0
  have c3 : Ctx26 tn tb h3 := c2.fr f3 rfl
  unfold F_X0_findFault_t26 F_X0_findFault_t26_43 F_X0_passTree_t26 ckV ckR
  rw [bnd_eq, bnd_eq, e2, bnd2_p, show (0 : Int32) = nI 0 from rfl, e3, bnd2_p, grd_t (decide_eq_true c3.1), c3.2.1]
  generalize ckT (btx tn tb) tn n E an A cs an 0 (fun _ => 1) = R at p3 le ⊢
  obtain ⟨r1, r2⟩ := R
  have p3' : gI h3 50 3 = nI r1 := p3
  cases r2 with
  | false =>
    rw [if_pos (show b32 false = nI 0 from rfl), if_neg (fun q => ft q.1), p3']
    exact ⟨h3, rfl, FL.cat f12 f3 rfl rfl⟩
  | true =>
    have le' : r1 ≤ tn := le rfl
    rw [if_neg (show ¬ b32 true = nI 0 by decide), p3']
    simp only [nI_eq (show r1 < 2 ^ 31 by omega) (show tn < 2 ^ 31 by omega)]
    by_cases q : r1 = tn
    · rw [if_pos q, if_pos ⟨trivial, q⟩]
      exact ⟨h3, rfl, FL.cat f12 f3 rfl rfl⟩
    · rw [if_neg q, if_neg (fun z => q z.2)]
      exact ⟨h3, rfl, FL.cat f12 f3 rfl rfl⟩
theorem m_opened (N : Nat) : ∀ (z i : Nat) (h : xHp), i ≤ 10 → 10 < z + i → (∀ k, k < i → gI h 71 k = 2) → ∃ h', xit (F_X9_goThrough_2_b N) (fun _ _ => none) z (nI i) h = F_X9_goThrough_35 N 0 1 (sI (sI h' 51 46 0) 51 47 (-1)) ∧ FL [(71,0,0)] h h' ∧ ∀ k, k < 10 → gI h' 71 k = 2 := by
  intro z
  induction z with
  | zero => intro i h h1 h2; omega
  | succ z ih =>
    intro i h h1 h2 hh
    show ∃ h', F_X9_goThrough_2_b N (xit (F_X9_goThrough_2_b N) (fun _ _ => none) z) (nI i) h = _ ∧ _
    generalize xit (F_X9_goThrough_2_b N) (fun _ _ => none) z = K at ih ⊢
    unfold F_X9_goThrough_2_b
    rw [show (10 : Int32) = nI 10 from rfl]
    by_cases q : i = 10
    · subst q
      rw [if_pos (nI_le (by omega) (by decide)), bnd_eq, bnd_eq]
      exact ⟨h, rfl, Fr.rf, hh⟩
    · rw [if_neg (nI_ge (by omega) (by decide)), grd_t (xin_nI (show i < 10 by omega) (by decide)), nI_cl (by omega), bnd_eq, nI_1]
      obtain ⟨h', e', f', g'⟩ := ih (i + 1) (sI h 71 i 2) (by omega) (by omega) (fun k hk => by
        rw [gI_sI, if_pos rfl]
        by_cases qk : k = i
        · rw [if_pos qk]
        · rw [if_neg qk]; exact hh k (by omega))
      exact ⟨h', e', Fr.trans (FL.i h rfl) f', g'⟩
theorem m_through (N : Nat) (hN : 7000 ≤ N) {tn n an : Nat} {tb : Nat → Nat} {E A : Ed} {cs : List Nat} {h : xHp} (hT : Twf 6000 tn tb) (pf : PF n E an A cs) (x : MTx tn tb h) (rc : Mcon n E h) (rf : Mfor an A cs h) : ∃ h', F_X9_goThrough N h = some ((), h') ∧ FL LLg h h' ∧ gI h' 51 47 = ckV tn (ckR tn tb n E an A cs) := by
  have han := pf.2.2.2.1.1
  have hR := hT.1
  obtain ⟨h1, e1, f1, g1⟩ := m_opened N N 0 h (by omega) (by omega) (fun k hk => by omega)
  have f2 : FL [(51,46,48)] h1 (sI (sI h1 51 46 0) 51 47 (-1)) := (FL.i h1 rfl).trans (FL.i _ rfl)
  have f12 : FL [(71,0,0),(51,46,48)] h (sI (sI h1 51 46 0) 51 47 (-1)) := FL.cat f1 f2 rfl rfl
  have st : MSt tn tb n E an A cs (fun _ => 1) 0 (sI (sI h1 51 46 0) 51 47 (-1)) := ⟨x.fr f12 rfl, rc.ag (f12.ag rfl), rf.ag (f12.ag rfl), fun k hk => by rw [(f2.1 71 k rfl).1]; exact g1 k hk, by simp +decide only [gI_sI, if_false, if_true], by simp +decide only [gI_sI, if_false, if_true]⟩
  have le := ckT_le (tn := tn) (n := n) (an := an) (tb := tb) (E := E) (A := A) (g := fun _ => 1) (cs := cs) an 0
  unfold F_X9_goThrough F_X9_goThrough_2
  rw [show (0 : Int32) = nI 0 from rfl, e1]
  unfold F_X9_goThrough_35 ckV ckR
  rcases m_ctree N hN hT pf an N 0 0 (fun _ => 1) (sI (sI h1 51 46 0) 51 47 (-1)) (by omega) (opn_1 an) (fun _ => by omega) (by omega) (by omega) st with ⟨r1, h', e', f', g'⟩ | ⟨r1, h', z, y, e', f', s', _, w', v'⟩
  · rw [if_neg (fun q => by rw [r1] at q; exact ft q.1)]
    exact ⟨h', e', FL.cat f12 f' rfl rfl, g'⟩
  · have le1 := le r1
    have s'' := s'
    rw [show xit (F_X9_goThrough_35_b N) (fun _ _ _ => none) N 0 1 (sI (sI h1 51 46 0) 51 47 (-1)) = _ from e']
    generalize (ckT (btx tn tb) tn n E an A cs an 0 (fun _ => 1)) = R at r1 le1 s' w' ⊢
    obtain ⟨r, r2⟩ := R
    have r1' : r2 = true := r1
    subst r1'
    have le2 : r ≤ tn := le1
    obtain ⟨x', rc', rf', tr', hpl', hwr'⟩ := s'
    have hpl'' : gI h' 51 46 = nI r := hpl'
    obtain ⟨y, rfl⟩ : ∃ y', y = y' + 2 := ⟨y - 2, by omega⟩
    have w'' : tn + 2 < z + r := w'
    obtain ⟨z, rfl⟩ : ∃ z', z = z' + 1 := ⟨z - 1, by omega⟩
    show ∃ h'', F_X9_goThrough_63_b N (xit (F_X9_goThrough_35_b N) (fun _ _ _ => none) (z + 1)) (F_X9_goThrough_63_b N (xit (F_X9_goThrough_35_b N) (fun _ _ _ => none) (z + 1)) (xit (F_X9_goThrough_63_b N (xit (F_X9_goThrough_35_b N) (fun _ _ _ => none) (z + 1))) (fun _ _ _ _ => none) y)) 0 1 1 h' = _ ∧ _
    generalize xit (F_X9_goThrough_63_b N (xit (F_X9_goThrough_35_b N) (fun _ _ _ => none) (z + 1))) (fun _ _ _ _ => none) y = K63
    have e35 : xit (F_X9_goThrough_35_b N) (fun _ _ _ => none) (z + 1) 0 0 h' = F_X9_goThrough_200 N h' := by
      show F_X9_goThrough_35_b N (xit (F_X9_goThrough_35_b N) (fun _ _ _ => none) z) 0 0 h' = _
      generalize xit (F_X9_goThrough_35_b N) (fun _ _ _ => none) z = K
      unfold F_X9_goThrough_35_b
      rw [if_pos rfl]
    generalize xit (F_X9_goThrough_35_b N) (fun _ _ _ => none) (z + 1) = K at e35 ⊢
    have e63 : F_X9_goThrough_63_b N K (F_X9_goThrough_63_b N K K63) 0 1 1 h' = F_X9_goThrough_200 N h' := by
      rw [← e35]
      unfold F_X9_goThrough_63_b F_X9_goThrough_197
      rw [if_neg (by decide), if_pos hwr', if_pos rfl, if_pos rfl]
    rw [e63]
    unfold F_X9_goThrough_200
    rw [if_pos hwr', x'.1, hpl'', m_wrong N hwr', bnd2_p]
    by_cases q : r = tn
    · rw [if_pos (nI_le (by omega) (by omega)), if_pos ⟨rfl, q⟩]
      exact ⟨h', rfl, FL.cat f12 f' rfl rfl, hwr'⟩
    · rw [if_neg (nI_ge (by omega) (by omega)), if_neg (fun z => q z.2)]
      exact ⟨_, rfl, FL.cat f12 (f'.trans (FL.i h' rfl)) rfl rfl, by rw [gI_sI, if_pos rfl, if_pos rfl]⟩
theorem m_copy (N : Nat) {tn src cap : Nat} {tb : Nat → Nat} {o : Int32} : ∀ (z i : Nat) (h : xHp), i ≤ tn → tn < z + i → tn ≤ 6000 → gI h 51 45 = nI tn → (o = 0 → ∀ k, k < tn → gI h 73 k = nI (tb k)) → (¬ o = 0 → tn ≤ 400 ∧ ∀ k, k < tn → gI h 61 k = nI (tb k)) → (∀ k, k < i → gI h 74 k = nI (tb k)) → ∃ h', xit (F_X9_check_37_b N) (fun _ _ _ => none) z o (nI i) h = (if o = 0 then F_X9_check_89 N (gI h' 51 15) h' else F_X9_check_89 N 0 h') ∧ FL [(74,0,0)] h h' ∧ ∀ k, k < tn → gI h' 74 k = nI (tb k) := by
  intro z
  induction z with
  | zero => intro i h h1 h2; omega
  | succ z ih =>
    intro i h h1 h2 h6 hs ha hb hc
    show ∃ h', F_X9_check_37_b N (xit (F_X9_check_37_b N) (fun _ _ _ => none) z) o (nI i) h = _ ∧ _
    generalize xit (F_X9_check_37_b N) (fun _ _ _ => none) z = K at ih ⊢
    unfold F_X9_check_37_b F_X9_check_69
    rw [hs]
    by_cases q : i = tn
    · subst q
      rw [if_pos (nI_le (by omega) (by omega))]
      exact ⟨h, rfl, Fr.rf, hc⟩
    · have hi : i < tn := by omega
      have i1 : xin (nI i) 6001 = true := xin_nI (by omega) (by decide)
      rw [if_neg (nI_ge hi (by omega))]
      have nx : ∃ h', K o (nI i + 1) (sI h 74 i (nI (tb i))) = (if o = 0 then F_X9_check_89 N (gI h' 51 15) h' else F_X9_check_89 N 0 h') ∧ FL [(74,0,0)] h h' ∧ ∀ k, k < tn → gI h' 74 k = nI (tb k) := by
        have f1 : FL [(74,0,0)] h (sI h 74 i (nI (tb i))) := FL.i h rfl
        rw [nI_1]
        obtain ⟨h', e', f', g'⟩ := ih (i + 1) (sI h 74 i (nI (tb i))) (by omega) (by omega) h6 ((f1.1 51 45 rfl).1.trans hs) (fun qo k hk => (f1.1 73 k rfl).1.trans (ha qo k hk)) (fun qo => ⟨(hb qo).1, fun k hk => (f1.1 61 k rfl).1.trans ((hb qo).2 k hk)⟩) (fun k hk => by
          rw [gI_sI, if_pos rfl]
          by_cases qk : k = i
          · rw [if_pos qk, qk]
          · rw [if_neg qk]; exact hc k (by omega))
        exact ⟨h', e', f1.trans f', g'⟩
      by_cases qo : o = 0
      · rw [if_pos qo, grd_t i1, nI_cl (by omega), ha qo i hi, grd_t i1, bnd_eq]
        exact nx
      · obtain ⟨b1, b2⟩ := hb qo
        rw [if_neg qo, grd_t (xin_nI (show i < 400 by omega) (by decide)), nI_cl (by omega), b2 i hi, grd_t i1, bnd_eq]
        exact nx
def ckA (V : Int32) : Int32 := if V = -1 then 0 else -1 - V
def ckF (V : Int32) : Nat := if V = -1 then 0 else 1
def LCk8 : Lc := (26,1,2) :: (0,10,11) :: LCt
def LCk9 : Lc := [(51,0,1),(51,45,46),(51,15,16),(51,21,22),(74,0,0)] ++ LLg
theorem m_check (N : Nat) (hN : 7000 ≤ N) {tn pn n an : Nat} {pb : Nat → Nat} {E A : Ed} {cs : List Nat} {o : Bool} {h : xHp} (hT : Twf 6000 pn pb) (pf : PF n E an A cs) (m : MF n E an A cs h) (h9 : gI h 51 23 = 1) (ht : gI h 51 15 = nI tn) (w0 : o = false → Mwri pn pb h) (w1 : o = true → Twf 400 pn pb ∧ Mtap pn pb h) : ∃ h', F_X9_check N (b32 o) h = some (ckA (ckV pn (ckR pn pb n E an A cs)), h') ∧ FL LCk9 h h' ∧ gI h' 51 0 = 0 ∧ gI h' 51 15 = nI (if o = true then 0 else tn) ∧ gI h' 51 21 = nI (ckF (ckV pn (ckR pn pb n E an A cs))) := by
  have hR := hT.1
  have f1 : FL [(51,0,1)] h (sI h 51 0 0) := FL.i h rfl
  have f2 : FL [(51,45,46)] (sI h 51 0 0) (sI (sI h 51 0 0) 51 45 (nI pn)) := FL.i _ rfl
  have f12 : FL [(51,0,1),(51,45,46)] h (sI (sI h 51 0 0) 51 45 (nI pn)) := FL.cat f1 f2 rfl rfl
  have head : F_X9_check N (b32 o) h = F_X9_check_37 N (b32 o) 0 (sI (sI h 51 0 0) 51 45 (nI pn)) := by
    unfold F_X9_check F_X9_check_32
    rw [bnd_eq, (f1.1 51 23 rfl).1, h9, if_neg (by decide), bnd_eq, bnd_eq]
    cases o with
    | false => rw [if_pos (show b32 false = 0 from rfl), (f1.1 51 43 rfl).1, (w0 rfl).1]
    | true => rw [if_neg (show ¬ b32 true = 0 by decide), (f1.1 51 15 rfl).1, (w1 rfl).2.1]
  rw [head]
  obtain ⟨h3, e3, f3, g3⟩ := m_copy N (tn := pn) (tb := pb) (o := b32 o) (src := 0) (cap := 0) N 0 (sI (sI h 51 0 0) 51 45 (nI pn)) (by omega) (by omega) hR (by rw [gI_sI, if_pos rfl, if_pos rfl]) (fun qo k hk => by
    cases o with
    | false => rw [(f12.1 73 k rfl).1]; exact (w0 rfl).2 k hk
    | true => exact absurd qo (by decide)) (fun qo => by
    cases o with
    | false => exact absurd rfl qo
    | true => exact ⟨(w1 rfl).1.1, fun k hk => by rw [(f12.1 61 k rfl).1]; exact (w1 rfl).2.2 k hk⟩) (fun k hk => by omega)
  have f13 : FL [(51,0,1),(51,45,46),(74,0,0)] h h3 := FL.cat f12 f3 rfl rfl
  have f4 : FL [(51,15,16)] h3 (sI h3 51 15 (nI (if o = true then 0 else tn))) := FL.i h3 rfl
  have f14 : FL [(51,0,1),(51,45,46),(74,0,0),(51,15,16)] h (sI h3 51 15 (nI (if o = true then 0 else tn))) := FL.cat f13 f4 rfl rfl
  have e4 : F_X9_check_37 N (b32 o) 0 (sI (sI h 51 0 0) 51 45 (nI pn)) = F_X9_check_89 N (nI (if o = true then 0 else tn)) h3 := by
    unfold F_X9_check_37
    rw [show xit (F_X9_check_37_b N) (fun _ _ _ => none) N (b32 o) 0 (sI (sI h 51 0 0) 51 45 (nI pn)) = _ from e3]
    cases o with
    | false => rw [if_pos (show b32 false = 0 from rfl), if_neg (show ¬ (false = true) by decide), (f13.1 51 15 rfl).1, ht]
    | true => rw [if_neg (show ¬ b32 true = 0 by decide), if_pos rfl]; rfl
  rw [e4]
  unfold F_X9_check_89 F_X9_check_110
  rw [bnd_eq]
  have x4 : MTx pn pb (sI h3 51 15 (nI (if o = true then 0 else tn))) := ⟨by rw [(f4.1 51 45 rfl).1, (f3.1 51 45 rfl).1, gI_sI, if_pos rfl, if_pos rfl], fun k hk => by rw [(f4.1 74 k rfl).1]; exact g3 k hk⟩
  obtain ⟨h5, e5, f5, g5⟩ := m_through N hN hT pf x4 (m.1.ag (f14.ag rfl)) (m.2.ag (f14.ag rfl))
  rw [e5, bnd2_p, g5]
  have t5 : gI h5 51 15 = nI (if o = true then 0 else tn) := by rw [(f5.1 51 15 rfl).1, gI_sI, if_pos rfl, if_pos rfl]
  have z5 : gI h5 51 0 = 0 := by
    rw [(f5.1 51 0 rfl).1, (f4.1 51 0 rfl).1, (f3.1 51 0 rfl).1]
    simp +decide only [gI_sI, if_false, if_true]
  have f15 : FL LCk9 h h5 := FL.cat f14 f5 rfl rfl
  have f6 : ∀ v : Int32, FL [(51,21,22)] h5 (sI h5 51 21 v) := fun v => FL.i h5 rfl
  have fin : ∀ v : Int32, FL LCk9 h (sI h5 51 21 v) ∧ gI (sI h5 51 21 v) 51 0 = 0 ∧ gI (sI h5 51 21 v) 51 15 = nI (if o = true then 0 else tn) ∧ gI (sI h5 51 21 v) 51 21 = v ∧ gI (sI h5 51 21 v) 51 47 = ckV pn (ckR pn pb n E an A cs) := fun v => ⟨FL.cat f15 (f6 v) rfl rfl, by rw [((f6 v).1 51 0 rfl).1]; exact z5, by rw [((f6 v).1 51 15 rfl).1]; exact t5, by rw [gI_sI, if_pos rfl, if_pos rfl], by rw [((f6 v).1 51 47 rfl).1]; exact g5⟩
  unfold ckA ckF
  simp only [bnd_eq, (fin _).2.2.2.2]
  by_cases q : ckV pn (ckR pn pb n E an A cs) = -1
  · rw [if_pos q, if_pos q, if_pos q, if_pos q]
    obtain ⟨a1, a2, a3, a4, a5⟩ := fin 0
    exact ⟨_, rfl, a1, a2, a3, a4⟩
  · rw [if_neg q, if_neg q, if_neg q, if_neg q]
    obtain ⟨a1, a2, a3, a4, a5⟩ := fin 1
    exact ⟨_, rfl, a1, a2, a3, a4⟩
theorem c_check (N : Nat) (hN : 7000 ≤ N) {tn wn n an : Nat} {tb wb : Nat → Nat} {E A : Ed} {cs : List Nat} {h : xHp} (pf : PF n E an A cs) (r : CF n E an A cs h) (h8 : gI h 0 9 = 1) (tw : Twf 400 tn tb) (ct : Ctap tn tb h) (ww : Twf 6000 wn wb) (cw : Cwri wn wb h) (o : Bool) : ∃ h', F_X8_check N (b32 o) h = some (ckA (if o = true then ckV tn (ckR tn tb n E an A cs) else ckV wn (ckR wn wb n E an A cs)), h') ∧ FA LCk8 h h' ∧ gI h' 26 1 = nI (if o = true then 0 else tn) ∧ gI h' 0 10 = nI (ckF (if o = true then ckV tn (ckR tn tb n E an A cs) else ckV wn (ckR wn wb n E an A cs))) := by
  unfold F_X8_check ckA ckF
  cases o with
  | false =>
    obtain ⟨h1, e1, f1⟩ := c_find28 N hN ww pf r.1 r.2.1 cw
    have t1 : gI h1 26 1 = nI tn := (f1.1 26 1 rfl).1.trans ct.1
    rw [h8, if_neg (by decide), if_pos (show b32 false = 0 from rfl), e1, bnd2_p, if_pos (show b32 false = 0 from rfl), if_neg (show ¬ (false = true) by decide), if_neg (show ¬ (false = true) by decide)]
    simp only [bnd_eq]
    have f2 : ∀ v : Int32, FA LCk8 h (sI h1 0 10 v) := fun v => FA.cat f1.faT (FL.fa (FL.i h1 rfl : FL [(0,10,11)] h1 (sI h1 0 10 v))) rfl rfl
    by_cases q : ckV wn (ckR wn wb n E an A cs) = -1
    · simp only [if_pos q]
      exact ⟨_, rfl, f2 _, by simp +decide only [gI_sI, if_false, if_true]; exact t1, by rw [gI_sI, if_pos rfl, if_pos rfl]; rfl⟩
    · simp only [if_neg q]
      exact ⟨_, rfl, f2 _, by simp +decide only [gI_sI, if_false, if_true]; exact t1, by rw [gI_sI, if_pos rfl, if_pos rfl]; rfl⟩
  | true =>
    obtain ⟨h1, e1, f1⟩ := c_find26 N hN tw pf r.1 r.2.1 ct
    rw [h8, if_neg (by decide), if_neg (show ¬ b32 true = 0 by decide), e1, bnd2_p, if_neg (show ¬ b32 true = 0 by decide), if_pos rfl, if_pos rfl]
    simp only [bnd_eq]
    have f2 : ∀ v : Int32, FA LCk8 h (sI (sI h1 26 1 0) 0 10 v) := fun v => FA.cat f1.faT (FL.fa ((FL.i h1 rfl).trans (FL.i _ rfl) : FL [(0,10,11),(26,1,2)] h1 (sI (sI h1 26 1 0) 0 10 v))) rfl rfl
    by_cases q : ckV tn (ckR tn tb n E an A cs) = -1
    · simp only [if_pos q]
      exact ⟨_, rfl, f2 _, by simp +decide only [gI_sI, if_false, if_true], by rw [gI_sI, if_pos rfl, if_pos rfl]; rfl⟩
    · simp only [if_neg q]
      exact ⟨_, rfl, f2 _, by simp +decide only [gI_sI, if_false, if_true], by rw [gI_sI, if_pos rfl, if_pos rfl]; rfl⟩
