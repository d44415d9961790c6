/-! PROVE -/
theorem upN_upN {g : Nat → Nat} {d a b : Nat} : upN (upN g d a) d b = upN g d b := by
  funext k
  unfold upN
  by_cases q : k = d
  · rw [if_pos q, if_pos q]
  · rw [if_neg q, if_neg q, if_neg q]
theorem upN_self {g : Nat → Nat} {d a : Nat} (h : g d = a) : upN g d a = g := by
  funext k
  unfold upN
  by_cases q : k = d
  · rw [if_pos q, q, h]
  · rw [if_neg q]
theorem Pre.up {d p : Nat} {g : Nat → Nat} (h : Pre (d + 1) p g) : Pre d (p / 2) (upN g d 1) := by
  refine ⟨fun k hk => ?_, fun k hk => ?_, ?_⟩
  · unfold upN
    rw [if_neg (by omega), h.1 k (by omega), Nat.div_div_eq_div_mul, Nat.mul_comm 2, ← Nat.pow_succ, show (d - 1 - k).succ = d + 1 - 1 - k by omega]
  · unfold upN
    by_cases q : k = d
    · rw [if_pos q]
    · rw [if_neg q]; exact h.2.1 k (by omega)
  · have := h.2.2
    rw [Nat.pow_succ] at this
    omega
noncomputable def cont (n : Nat) (E A : Ed) (cs : List Nat) (an : Nat) : Nat → (Nat → Nat) → List Nat
  | 0, _ => []
  | d + 1, g => if g d = 2 then [41] ++ cont n E A cs an d (upN g d 1) else [44] ++ (tree n E A cs (an - (d + 1)) (d + 1) (upN g d 2) ++ ([41] ++ cont n E A cs an d (upN g d 1)))
def LUp : Lc := [(71,0,0),(51,43,44),(73,0,0)]
def Tru (g : Nat → Nat) (h : xHp) : Prop := ∀ k, k < 10 → gI h 71 k = nI (tm (g k))
theorem Tru.up {g : Nat → Nat} {h : xHp} {d a : Nat} (t : Tru g h) : Tru (upN g d a) (sI h 71 d (nI (tm a))) := by
  intro k hk
  rw [gI_sI, if_pos rfl]
  unfold upN
  by_cases q : k = d
  · rw [if_pos q, if_pos q]
  · rw [if_neg q, if_neg q]; exact t k hk
theorem Tru.ag {g : Nat → Nat} {h h' : xHp} (a : Ag [(71,0,0)] h h') (t : Tru g h) : Tru g h' := fun k hk => (a 71 k rfl).trans (t k hk)
theorem m_up (N : Nat) {n an : Nat} {E A : Ed} {cs : List Nat} : ∀ (z d p : Nat) (g : Nat → Nat) (pre : List Nat) (h : xHp), d < z → d ≤ 10 → Pre d p g → Epot (n + (d - 1)) (exE E n A g) → Tru g h → MX pre h → (∃ h', FL LUp h h' ∧ MX (pre ++ cont n E A cs an d g) h' ∧ ∀ k25, xit (F_X9_writeProof_74_b N k25) (fun _ _ _ => none) z (nI d) 1 h = k25 0 0 h') ∨ (∃ d' p' g' pre' h', 0 < d' ∧ d' ≤ d ∧ Pre d' p' g' ∧ Epot (n + (d' - 1)) (exE E n A g') ∧ Tru g' h' ∧ FL LUp h h' ∧ MX pre' h' ∧ pre' ++ (tree n E A cs (an - d') d' g' ++ cont n E A cs an d' g') = pre ++ cont n E A cs an d g ∧ pre.length < pre'.length ∧ ∀ k25, xit (F_X9_writeProof_74_b N k25) (fun _ _ _ => none) z (nI d) 1 h = k25 (nI d') 1 h') := by
  intro z
  induction z with
  | zero => intro d p g pre h h1; omega
  | succ z ih =>
    intro d p g pre h h1 h2 hp po tr t
    cases d with
    | zero =>
      refine Or.inl ⟨h, Fr.rf, by show MX (pre ++ []) h; rw [List.append_nil]; exact t, fun k25 => ?_⟩
      show F_X9_writeProof_74_b N k25 _ (nI 0) 1 h = _
      unfold F_X9_writeProof_74_b F_X9_writeProof_109
      rw [if_pos (by decide), if_pos (by decide)]
      rfl
    | succ d =>
      have dm : nI (d + 1) - 1 = nI d := nI_pred d
      have dm2 : nI (d + 1) + (-1) = nI d := pk_m1 d
      have i10 : xin (nI d) 10 = true := xin_nI (by omega) (by decide)
      have hv := hp.1 d (by omega)
      have po' : Epot (n + d) (exE E n A g) := po
      have eqg : ∀ a k, k < d → g k = upN g d a k := fun a k hk => by unfold upN; rw [if_neg (by omega)]
      by_cases q : g d = 2
      · have td : gI h 71 d = 1 := by rw [tr d (by omega), q]; rfl
        have f0 : FL [(71,0,0)] h (sI h 71 d (nI (tm 1))) := FL.i h rfl
        obtain ⟨h3, e3, f3, t3⟩ := m_write N (b := 41) (t.ag (f0.ag rfl))
        have st : ∀ k25, xit (F_X9_writeProof_74_b N k25) (fun _ _ _ => none) (z + 1) (nI (d + 1)) 1 h = xit (F_X9_writeProof_74_b N k25) (fun _ _ _ => none) z (nI d) 1 h3 := by
          intro k25
          show F_X9_writeProof_74_b N k25 (xit (F_X9_writeProof_74_b N k25) (fun _ _ _ => none) z) (nI (d + 1)) 1 h = _
          generalize xit (F_X9_writeProof_74_b N k25) (fun _ _ _ => none) z = K
          unfold F_X9_writeProof_74_b
          rw [if_neg (nI_nle (by omega) (by omega)), dm, dm2, grd_t i10, nI_cl (by omega), td, if_pos rfl, grd_t i10, bnd_eq, show (41 : Int32) = nI 41 from rfl]
          show bnd2 (F_X9_write N (nI 41) (sI h 71 d (nI (tm 1)))) _ = _
          rw [e3, bnd2_p]
        have ct : cont n E A cs an (d + 1) g = [41] ++ cont n E A cs an d (upN g d 1) := by
          show (if g d = 2 then _ else _) = _
          rw [if_pos q]
        have fa : FL LUp h h3 := FL.cat f0 f3 rfl rfl
        rcases ih d (p / 2) (upN g d 1) (pre ++ [41]) h3 (by omega) (by omega) hp.up ((po'.mono (show n + (d - 1) ≤ n + d by omega)).congr (fun k hk => by
          by_cases qq : d = 0
          · subst qq; exact (exE_lt (by omega)).trans (exE_lt (by omega)).symm
          · exact exE_congr (d := d) (eqg 1) (by omega))) ((tr.up).ag (f3.ag rfl)) t3 with ⟨h', a1, a2, a3⟩ | ⟨d', p', g', pre', h', a0, a1, a2, a3, a4, a5, a6, a7, a8, a9⟩
        · refine Or.inl ⟨h', fa.trans a1, ?_, fun k25 => (st k25).trans (a3 k25)⟩
          rw [ct, ← List.append_assoc]
          exact a2
        · refine Or.inr ⟨d', p', g', pre', h', a0, by omega, a2, a3, a4, fa.trans a5, a6, ?_, ?_, fun k25 => (st k25).trans (a9 k25)⟩
          · rw [a7, ct, ← List.append_assoc]
          · rw [List.length_append] at a8; omega
      · have g0 : g d = 0 := by
          rw [hv] at q ⊢
          by_cases qq : p / 2 ^ (d + 1 - 1 - d) % 2 = 1
          · rw [if_pos qq] at q; exact absurd rfl q
          · rw [if_neg qq]
        have td : gI h 71 d = 0 := by rw [tr d (by omega), g0]; rfl
        obtain ⟨h3, e3, f3, t3⟩ := m_write N (b := 44) t
        have f0 : FL [(71,0,0)] h3 (sI h3 71 d (nI (tm 2))) := FL.i h3 rfl
        have st : ∀ k25, xit (F_X9_writeProof_74_b N k25) (fun _ _ _ => none) (z + 1) (nI (d + 1)) 1 h = k25 (nI (d + 1)) 1 (sI h3 71 d (nI (tm 2))) := by
          intro k25
          show F_X9_writeProof_74_b N k25 (xit (F_X9_writeProof_74_b N k25) (fun _ _ _ => none) z) (nI (d + 1)) 1 h = _
          generalize xit (F_X9_writeProof_74_b N k25) (fun _ _ _ => none) z = K
          unfold F_X9_writeProof_74_b F_X9_writeProof_109
          rw [if_neg (nI_nle (by omega) (by omega)), dm, dm2, grd_t i10, nI_cl (by omega), td, if_neg (by decide), if_neg (nI_ne0 (by omega) (by omega)), show (44 : Int32) = nI 44 from rfl, e3, bnd2_p, grd_t i10, bnd_eq]
          rfl
        have hp2 := hp.up.more (t := 1) (Or.inr rfl)
        rw [upN_upN] at hp2
        have ct : cont n E A cs an (d + 1) g = [44] ++ (tree n E A cs (an - (d + 1)) (d + 1) (upN g d 2) ++ ([41] ++ cont n E A cs an d (upN g d 1))) := by
          show (if g d = 2 then _ else _) = _
          rw [if_neg q]
        refine Or.inr ⟨d + 1, _, upN g d 2, pre ++ [44], _, by omega, Nat.le_refl _, hp2, po'.congr (fun k hk => exE_congr (eqg 2) hk), (tr.ag (f3.ag rfl)).up, FL.cat f3 f0 rfl rfl, t3.ag (f0.ag rfl), ?_, by rw [List.length_append]; simp, st⟩
        have ct2 : cont n E A cs an (d + 1) (upN g d 2) = [41] ++ cont n E A cs an d (upN g d 1) := by
          show (if upN g d 2 d = 2 then [41] ++ cont n E A cs an d (upN (upN g d 2) d 1) else _) = _
          rw [if_pos (by unfold upN; rw [if_pos rfl]), upN_upN]
        rw [ct, ct2, List.append_assoc]
def LWp : Lc := LLf ++ [(71,0,0)]
theorem m_wp_go (N : Nat) (hN : 300 ≤ N) {n an : Nat} {E A : Ed} {cs : List Nat} (pf : PF n E an A cs) (hno : ∀ ρ, ρ < 2 ^ an → ¬ Way n E an A cs ρ) : ∀ (z d p : Nat) (g : Nat → Nat) (pre : List Nat) (h : xHp), 6001 - pre.length < z → d ≤ an → Pre d p g → Epot (n + (d - 1)) (exE E n A g) → Mcon n E h → Mfor an A cs h → Tru g h → MX pre h → ∃ h', xit (F_X9_writeProof_25_b N) (fun _ _ _ => none) z (nI d) 1 h = some ((), h') ∧ FL LWp h h' ∧ MX (pre ++ (tree n E A cs (an - d) d g ++ cont n E A cs an d g)) h' := by
  have hf := pf.2.2.2.1
  have han := hf.1
  intro z
  induction z with
  | zero => intro d p g pre h h1; omega
  | succ z ih =>
    intro d p g pre h h1 h2 hp po rc rf tr t
    have big : 6000 < pre.length → ∃ h', xit (F_X9_writeProof_25_b N) (fun _ _ _ => none) (z + 1) (nI d) 1 h = some ((), h') ∧ FL LWp h h' ∧ MX (pre ++ (tree n E A cs (an - d) d g ++ cont n E A cs an d g)) h' := by
      intro hb
      rcases t with ⟨t1, _⟩ | ⟨t1, t2⟩
      · omega
      · refine ⟨h, ?_, Fr.rf, Or.inr ⟨by rw [List.length_append]; omega, t2⟩⟩
        show F_X9_writeProof_25_b N _ (nI d) 1 h = _
        unfold F_X9_writeProof_25_b
        rw [if_neg (by decide), t2, if_pos (by decide)]
    by_cases hb : 6000 < pre.length
    · exact big hb
    · have sz : ¬ (6000 : Int32) < gI h 51 43 := by
        rcases t with ⟨t1, t2, _⟩ | ⟨t1, _⟩
        · rw [t2, show (6000 : Int32) = nI 6000 from rfl]; exact nI_nlt (by omega) (by decide)
        · omega
      show ∃ h', F_X9_writeProof_25_b N (xit (F_X9_writeProof_25_b N) (fun _ _ _ => none) z) (nI d) 1 h = _ ∧ _
      obtain ⟨h3, f3, r3⟩ := m_leaf N hN pf h2 hp.le po rc rf tr t
      have rc3 := rc.ag (f3.ag rfl)
      have rf3 := rf.ag (f3.ag rfl)
      have tr3 : Tru g h3 := tr.ag (f3.ag rfl)
      rcases r3 with ⟨o, lf, e3, t3, ol⟩ | ⟨lf, q0, nr, e3, t3⟩
      · have te : tree n E A cs (an - d) d g = o := by cases an - d <;> (unfold tree; rw [lf]; rfl)
        have st : ∀ K, F_X9_writeProof_25_b N K (nI d) 1 h = xit (F_X9_writeProof_74_b N K) (fun _ _ _ => none) N (nI d) 1 h3 := by
          intro K
          unfold F_X9_writeProof_25_b F_X9_writeProof_74
          rw [if_neg (by decide), if_neg sz, e3, bnd2_p, if_neg (by decide)]
        rw [st, te]
        rcases m_up N (n := n) (an := an) (E := E) (A := A) (cs := cs) N d p g (pre ++ o) h3 (by omega) (by omega) hp po tr3 t3 with ⟨h', a1, a2, a3⟩ | ⟨d', p', g', pre', h', a0, a1, a2, a3, a4, a5, a6, a7, a8, a9⟩
        · refine ⟨h', ?_, FL.cat f3 a1 rfl rfl, by rw [← List.append_assoc]; exact a2⟩
          rw [a3]
          cases z with
          | zero => omega
          | succ z =>
            show F_X9_writeProof_25_b N _ 0 0 h' = _
            unfold F_X9_writeProof_25_b
            rw [if_pos rfl]
        · rw [List.length_append] at a8
          obtain ⟨h4, e4, f4, t4⟩ := ih d' p' g' pre' h' (by omega) (by omega) a2 a3 (rc3.ag (a5.ag rfl)) (rf3.ag (a5.ag rfl)) a4 a6
          refine ⟨h4, ?_, FL.cat f3 (FL.cat a5 f4 rfl rfl : FL LWp _ _) rfl rfl, ?_⟩
          · rw [a9]; exact e4
          · rw [← List.append_assoc, ← a7]; exact t4
      · have hn6 := pf.2.1
        have pod : Epot (n + d) (exE E n A g) := by
          by_cases qd : d = 0
          · subst qd; exact po
          · have ee : ∀ k, k < n + (d - 1) + 1 → upE (exE E n A g) (n + (d - 1)) (dif A g (d - 1)) k = exE E n A g k := fun k hk => exE_up (fun _ _ => rfl) hk
            have nd : n + (d - 1) + 1 = n + d := by omega
            exact nd ▸ (po.more (nr (by omega))).congr ee
        have hd : d < an := by
          by_cases qd : d = an
          · exfalso
            subst qd
            have eg : ∀ k, k < d → g k = gr d p k := fun k hk => hp.1 k hk
            have full := jd_full hf (g := g) (fun k hk => by rw [hp.1 k hk]; split <;> omega)
            refine hno p hp.2.2 ⟨?_, pod.congr (fun k hk => exE_congr eg hk)⟩
            rw [← jd_congr hf (fun k _ => hp.le k) eg]
            omega
          · omega
        obtain ⟨a1, e1, f1, t1⟩ := m_write N (b := 48 + d) t3
        obtain ⟨a2, e2, f2, t2⟩ := m_write N (b := 40) t1
        have f12 : FL LMx h3 a2 := f1.trans f2
        have f0 : FL [(71,0,0)] a2 (sI a2 71 d (nI (tm (2 * 0)))) := FL.i a2 rfl
        have f120 : FL LUp h3 (sI a2 71 d (nI (tm (2 * 0)))) := FL.cat f12 f0 rfl rfl
        have eqg : ∀ a k, k < d → g k = upN g d a k := fun a k hk => by unfold upN; rw [if_neg (by omega)]
        obtain ⟨h4, e4, f4, t4⟩ := ih (d + 1) (2 * p + 0) (upN g d (2 * 0)) (pre ++ [48 + d] ++ [40]) (sI a2 71 d (nI (tm (2 * 0)))) (by simp; omega) (by omega) (hp.more (Or.inl rfl)) (pod.congr (fun k hk => exE_congr (eqg _) hk)) (rc3.ag (f120.ag rfl)) (rf3.ag (f120.ag rfl)) ((tr3.ag (f12.ag rfl)).up) (t2.ag (f0.ag rfl))
        refine ⟨h4, ?_, FL.cat f3 (FL.cat f120 f4 rfl rfl : FL LWp _ _) rfl rfl, ?_⟩
        · rw [← e4]
          generalize xit (F_X9_writeProof_25_b N) (fun _ _ _ => none) z = K
          unfold F_X9_writeProof_25_b
          have d48 : (48 : Int32) + nI d = nI (48 + d) := by rw [show (48 : Int32) = nI 48 from rfl, nI_add]
          rw [if_neg (by decide), if_neg sz, e3, bnd2_p, if_pos rfl, d48, e1, bnd2_p, show (40 : Int32) = nI 40 from rfl, e2, bnd2_p, grd_t (xin_nI (show d < 10 by omega) (by decide)), nI_cl (by omega), bnd_eq, nI_1]
          rfl
        · have te : tree n E A cs (an - d) d g = [48 + d, 40] ++ (tree n E A cs (an - (d + 1)) (d + 1) (upN g d 0) ++ ([44] ++ (tree n E A cs (an - (d + 1)) (d + 1) (upN g d 2) ++ [41]))) := by
            rw [show an - d = (an - (d + 1)) + 1 by omega]
            show (leafO n E A cs d g).getD _ = _
            rw [lf]; rfl
          have ct : cont n E A cs an (d + 1) (upN g d 0) = [44] ++ (tree n E A cs (an - (d + 1)) (d + 1) (upN g d 2) ++ ([41] ++ cont n E A cs an d g)) := by
            show (if upN g d 0 d = 2 then _ else [44] ++ (tree n E A cs (an - (d + 1)) (d + 1) (upN (upN g d 0) d 2) ++ ([41] ++ cont n E A cs an d (upN (upN g d 0) d 1)))) = _
            rw [if_neg (by unfold upN; rw [if_pos rfl]; decide), upN_upN, upN_upN, upN_self (hp.2.1 d (Nat.le_refl d))]
          rw [te]
          have e : pre ++ (([48 + d, 40] ++ (tree n E A cs (an - (d + 1)) (d + 1) (upN g d 0) ++ ([44] ++ (tree n E A cs (an - (d + 1)) (d + 1) (upN g d 2) ++ [41])))) ++ cont n E A cs an d g) = pre ++ [48 + d] ++ [40] ++ (tree n E A cs (an - (d + 1)) (d + 1) (upN g d 0) ++ ([44] ++ (tree n E A cs (an - (d + 1)) (d + 1) (upN g d 2) ++ ([41] ++ cont n E A cs an d g)))) := by simp
          rw [e, ← ct]
          exact t4
theorem m_open_go (N : Nat) : ∀ (z i : Nat) (h : xHp), i ≤ 10 → 10 - i < z → (∀ k, k < i → gI h 71 k = 2) → ∃ h', xit (F_X9_writeProof_2_b N) (fun _ _ => none) z (nI i) h = F_X9_writeProof_25 N 0 1 h' ∧ FL [(71,0,0)] h h' ∧ ∀ k, k < 10 → gI h' 71 k = 2 := by
  intro z
  induction z with
  | zero => intro i h _ h2; omega
  | succ z ih =>
    intro i h h1 h2 hz
    by_cases hi : i = 10
    · subst hi
      exact ⟨h, by show F_X9_writeProof_2_b N _ (nI 10) h = _; unfold F_X9_writeProof_2_b; rw [if_pos (by decide)], Fr.rf, hz⟩
    · obtain ⟨h', e', f', g'⟩ := ih (i + 1) (sI h 71 i 2) (by omega) (by omega) (fun u hu => by
        rw [gI_sI, if_pos rfl]
        by_cases q : u = i
        · rw [if_pos q]
        · rw [if_neg q]; exact hz u (by omega))
      refine ⟨h', ?_, (FL.i h rfl).trans f', g'⟩
      show F_X9_writeProof_2_b N (xit (F_X9_writeProof_2_b N) (fun _ _ => none) z) (nI i) h = _
      rw [← e']
      generalize xit (F_X9_writeProof_2_b N) (fun _ _ => none) z = K
      unfold F_X9_writeProof_2_b
      rw [if_neg (by rw [show (10 : Int32) = nI 10 from rfl]; exact nI_ge (by omega) (by decide)), grd_t (xin_nI (by omega) (by decide)), nI_cl (by omega), bnd_eq, nI_1]
theorem m_writeProof (N : Nat) (hN : 7000 ≤ N) {n an : Nat} {E A : Ed} {cs : List Nat} {h : xHp} (pf : PF n E an A cs) (hno : ∀ ρ, ρ < 2 ^ an → ¬ Way n E an A cs ρ) (rc : Mcon n E h) (rf : Mfor an A cs h) (h0 : gI h 51 43 = 0) : ∃ h', F_X9_writeProof N h = some ((), h') ∧ FL LWp h h' ∧ MX (tree n E A cs an 0 (fun _ => 1)) h' := by
  obtain ⟨h1, e1, f1, g1⟩ := m_open_go N N 0 h (by omega) (by omega) (fun k hk => by omega)
  have t1 : MX [] h1 := Or.inl ⟨by decide, by rw [(f1.1 51 43 rfl).1]; exact h0, fun k hk => absurd hk (Nat.not_lt_zero _)⟩
  obtain ⟨h2, e2, f2, t2⟩ := m_wp_go N (by omega) pf hno N 0 0 (fun _ => 1) [] h1 (by simp; omega) (by omega) Pre.start (pf.2.2.2.2.congr (fun k hk => (exE_lt hk).symm)) (rc.ag (f1.ag rfl)) (rf.ag (f1.ag rfl)) (fun k hk => by rw [g1 k hk]; rfl) t1
  refine ⟨h2, ?_, FL.cat f1 f2 rfl rfl, ?_⟩
  · unfold F_X9_writeProof F_X9_writeProof_2
    rw [show (0 : Int32) = nI 0 from rfl, e1]
    unfold F_X9_writeProof_25
    exact e2
  · have e : [] ++ (tree n E A cs (an - 0) 0 (fun _ => 1) ++ cont n E A cs an 0 (fun _ => 1)) = tree n E A cs an 0 (fun _ => 1) := by
      show tree n E A cs (an - 0) 0 (fun _ => 1) ++ [] = _
      rw [List.append_nil, Nat.sub_zero]
    rw [e] at t2
    exact t2
def LCp : Lc := LWt ++ [(49,3,5)]
theorem c_writeProof (N : Nat) (hN : 7000 ≤ N) {n an : Nat} {E A : Ed} {cs : List Nat} {h : xHp} (pf : PF n E an A cs) (rc : Ccon n E h) (rf : Cfor an A cs h) : ∃ h', FL LCp h h' ∧ Ccon n E h' ∧ (((tree n E A cs an 0 (fun _ => 1)).length ≤ 6000 ∧ F_X7_writeProof N h = some (1, h') ∧ gI h' 28 1 = nI (tree n E A cs an 0 (fun _ => 1)).length ∧ ∀ k, k < (tree n E A cs an 0 (fun _ => 1)).length → gI h' 29 k &&& 255 = nI ((tree n E A cs an 0 (fun _ => 1)).getD k 0)) ∨ (6000 < (tree n E A cs an 0 (fun _ => 1)).length ∧ F_X7_writeProof N h = some (0, h') ∧ gI h' 28 1 = 0)) := by
  have hn6 := pf.2.1
  have han := pf.2.2.2.1.1
  have f1 : FL [(28,1,2),(49,3,5)] h (sI (sI (sI h 28 1 0) 49 4 0) 49 3 (nI n)) := (FL.i h rfl).trans ((FL.i _ rfl).trans (FL.i _ rfl))
  obtain ⟨h2, e2, f2, g2⟩ := c_giveN N (by omega) (sI (sI (sI h 28 1 0) 49 4 0) 49 3 (nI n))
  have f12 : FL [(28,1,2),(49,3,5),(34,0,0)] h h2 := FL.cat f1 f2 rfl rfl
  have ex0 : ∀ k, k < n → E k = exE E n A (fun _ => 1) k := fun k hk => (exE_lt hk).symm
  have t2 : TX [] h2 := Or.inl ⟨by decide, by rw [(f2.1 49 4 rfl).1]; simp +decide only [gI_sI, if_false, if_true], by rw [(f2.1 28 1 rfl).1]; simp +decide only [gI_sI, if_false, if_true], fun k hk => absurd hk (Nat.not_lt_zero _)⟩
  obtain ⟨h3, e3, f3, c3, _, t3⟩ := c_tree N (by omega) pf 12 an 0 0 (fun _ => 1) [] h2 (by omega) (by omega) Pre.start ((rc.ag (f12.ag rfl)).congr ex0) (pf.2.2.2.2.congr ex0) (rf.ag (f12.ag rfl)) g2 (by rw [(f2.1 49 3 rfl).1, gI_sI, if_pos rfl, if_pos rfl]) t2
  have c3' : Ccon n E h3 := Ccon.congr (n := n) c3 (fun k hk => (ex0 k hk).symm)
  have st : F_X7_writeProof N h = if (gI h3 49 4) = 0 then F_X7_writeProof_51 N h3 else bnd (sI h3 28 1 0) fun h8 => F_X7_writeProof_51 N h8 := by
    unfold F_X7_writeProof F_X7_writeTree
    have er : gI (sI (sI h 28 1 0) 49 4 0) 1 3 = nI n := by simp +decide only [gI_sI, if_false]; exact rc.1
    rw [bnd_eq, bnd_eq, er, bnd_eq, e2, bnd2_p, show (0 : Int32) = nI 0 from rfl, e3, bnd2_p]
  rw [List.nil_append] at t3
  rw [st]
  unfold F_X7_writeProof_51
  rcases t3 with ⟨a1, a2, a3, a4⟩ | ⟨a1, a2, a3⟩
  · refine ⟨h3, FL.cat f12 f3 rfl rfl, c3', Or.inl ⟨a1, ?_, a3, a4⟩⟩
    rw [a2, if_pos rfl, if_pos rfl]
  · have f4 : FL [(28,1,2)] h3 (sI h3 28 1 0) := FL.i h3 rfl
    refine ⟨sI h3 28 1 0, FL.cat f12 (FL.cat f3 f4 rfl rfl : FL LCp _ _) rfl rfl, c3'.ag (f4.ag rfl), Or.inr ⟨a1, ?_, by rw [gI_sI, if_pos rfl, if_pos rfl]⟩⟩
    have a4 : gI (sI h3 28 1 0) 49 4 = 1 := by rw [gI_sI, if_neg (by decide)]; exact a2
    rw [a2, if_neg (by decide), bnd_eq, a4, if_neg (by decide)]
theorem itm_byte {n k : Nat} (hn : n ≤ 60) (hk : k < n + 10) : ∀ b, b ∈ itm n k → b < 256 := by
  intro b hb
  unfold itm at hb
  by_cases q : k < n
  · rw [if_pos q] at hb
    by_cases q2 : k < 10
    · rw [if_pos q2] at hb
      simp at hb
      omega
    · rw [if_neg q2] at hb
      simp at hb
      omega
  · rw [if_neg q] at hb
    simp at hb
    omega
theorem its_byte {n : Nat} (hn : n ≤ 60) : ∀ (l : List Nat), (∀ e, e ∈ l → e < n + 10) → ∀ b, b ∈ its n l → b < 256 := by
  intro l
  induction l with
  | nil => intro _ b hb; exact absurd hb (by simp [its])
  | cons k l ih =>
    intro h b hb
    have hb' : b ∈ itm n k ++ its n l := hb
    rcases List.mem_append.mp hb' with q | q
    · exact itm_byte hn (h k (by simp)) b q
    · exact ih (fun e he => h e (by simp [he])) b q
theorem leaf_byte {n an d : Nat} {E A : Ed} {cs : List Nat} {g : Nat → Nat} {o : List Nat} (pp : PF n E an A cs) (hd : d ≤ an) (h : leafO n E A cs d g = some o) : ∀ b, b ∈ o → b < 256 := by
  have han := pp.2.2.2.1.1
  have hn := pp.2.1
  unfold leafO at h
  by_cases q0 : jd g cs = 0
  · rw [if_pos q0] at h
    have := Option.some.inj h
    subst this
    intro b hb
    simp at hb
    omega
  · rw [if_neg q0] at h
    by_cases qd : d = 0
    · rw [if_pos qd] at h; cases h
    · rw [if_neg qd] at h
      cases hr : rowO (exE E n A g) (n + (d - 1)) (dif A g (d - 1)) with
      | none => rw [hr] at h; cases h
      | some l =>
        rw [hr] at h
        have := Option.some.inj h
        subst this
        have hl : ∀ e, e ∈ l → e < n + 10 := by
          unfold rowO at hr
          by_cases ex : ∃ l, ∃ J, Short (exE E n A g) (okn (n + (d - 1))) (dif A g (d - 1)).1 J (dif A g (d - 1)).2.1 (-1 - (dif A g (d - 1)).2.2) ∧ RowOf (exE E n A g) (okn (n + (d - 1))) (dif A g (d - 1)).1 J (dif A g (d - 1)).2.1 (-1 - (dif A g (d - 1)).2.2) l
          · rw [dif_pos ex] at hr
            obtain ⟨J, _, b⟩ := Classical.choose_spec ex
            rw [Option.some.inj hr] at b
            intro e he
            have : e < n + (d - 1) := b.ok e he
            omega
          · rw [dif_neg ex] at hr
            cases hr
        intro b hb
        have hb' : b ∈ [33, 48 + (d - 1)] ++ (its n l ++ [59]) := hb
        simp only [List.mem_append, List.mem_cons, List.not_mem_nil, or_false] at hb'
        rcases hb' with (q | q) | (q | q)
        · omega
        · omega
        · exact its_byte hn l hl b q
        · omega
theorem tree_mem {n an : Nat} {E A : Ed} {cs : List Nat} (pp : PF n E an A cs) : ∀ (f d : Nat) (g : Nat → Nat), f + d = an → ∀ b, b ∈ tree n E A cs f d g → b < 256 := by
  have han := pp.2.2.2.1.1
  intro f
  induction f with
  | zero =>
    intro d g hd b hb
    unfold tree at hb
    cases hl : leafO n E A cs d g with
    | none => rw [hl] at hb; exact absurd hb (by simp)
    | some o => rw [hl] at hb; exact leaf_byte pp (by omega) hl b hb
  | succ f ih =>
    intro d g hd b hb
    have hb1 : b ∈ (leafO n E A cs d g).getD ([48 + d, 40] ++ (tree n E A cs f (d + 1) (upN g d 0) ++ ([44] ++ (tree n E A cs f (d + 1) (upN g d 2) ++ [41])))) := hb
    cases hl : leafO n E A cs d g with
    | none =>
      rw [hl] at hb1
      have hb2 : b ∈ [48 + d, 40] ++ (tree n E A cs f (d + 1) (upN g d 0) ++ ([44] ++ (tree n E A cs f (d + 1) (upN g d 2) ++ [41]))) := hb1
      simp only [List.mem_append, List.mem_cons, List.not_mem_nil, or_false] at hb2
      rcases hb2 with (q | q) | (q | (q | (q | q)))
      · omega
      · omega
      · exact ih (d + 1) _ (by omega) b q
      · omega
      · exact ih (d + 1) _ (by omega) b q
      · omega
    | some o => rw [hl] at hb1; exact leaf_byte pp (by omega) hl b hb1
theorem tree_byte {n an : Nat} {E A : Ed} {cs : List Nat} (pp : PF n E an A cs) (f d : Nat) (g : Nat → Nat) (hd : f + d = an) (k : Nat) : (tree n E A cs f d g).getD k 0 < 256 := by
  by_cases q : k < (tree n E A cs f d g).length
  · rw [List.getD_eq_getElem?_getD, List.getElem?_eq_getElem q]
    exact tree_mem pp f d g hd _ (List.getElem_mem q)
  · rw [List.getD_eq_getElem?_getD, List.getElem?_eq_none (by omega)]
    decide
/-- the class's prove and the reference's, one after the other -/
theorem cW_no {n an : Nat} {E A : Ed} {cs : List Nat} (h : cW (WayB n E an A cs) 0 (2 ^ an) = 0) : ∀ ρ, ρ < 2 ^ an → ¬ Way n E an A cs ρ := fun ρ hρ hw => by
  have : 0 < cW (WayB n E an A cs) 0 (2 ^ an) := (cW_pos _).mpr ⟨ρ, hρ, by rw [Nat.zero_add]; exact WayB_iff.mpr ⟨hρ, hw⟩⟩
  omega
def LPr8 : Lc := LFi ++ LCp
def LPr9 : Lc := LMW ++ LWp
theorem x_prove (N : Nat) (hN : 7000 ≤ N) {n an : Nat} {b : Bool} {E A : Ed} {cs : List Nat} {h : xHp} (p : b = true → PF n E an A cs) (r : CF n E an A cs h) (m : MF n E an A cs h) (h8 : gI h 0 9 = b32 b) (h9 : gI h 51 23 = b32 b) : ∃ V h1 h2 wn wb, F_X8_prove N h = some (V, h1) ∧ FL LPr8 h h1 ∧ CF n E an A cs h1 ∧ F_X9_prove N h1 = some (V, h2) ∧ FL LPr9 h1 h2 ∧ gI h2 51 0 = 0 ∧ Twf 6000 wn wb ∧ Cwri wn wb h1 ∧ Mwri wn wb h2 := by
  have f0 : FL [(28,1,2)] h (sI h 28 1 0) := FL.i h rfl
  have g0 : ∀ h1 : xHp, FL [(51,0,1),(51,43,44)] h1 (sI (sI h1 51 0 0) 51 43 0) := fun h1 => (FL.i h1 rfl).trans (FL.i _ rfl)
  have none0 : ∀ {h1 h2 : xHp}, gI h1 28 1 = 0 → gI h2 51 43 = 0 → Twf 6000 0 (fun _ => 0) ∧ Cwri 0 (fun _ => 0) h1 ∧ Mwri 0 (fun _ => 0) h2 := fun a b => ⟨⟨by omega, fun k hk => by omega⟩, ⟨a, fun k hk => by omega⟩, ⟨b, fun k hk => by omega⟩⟩
  have z28 : gI (sI h 28 1 0) 28 1 = 0 := by rw [gI_sI, if_pos rfl, if_pos rfl]
  have z0 : ∀ h1 : xHp, gI (sI (sI h1 51 0 0) 51 43 0) 51 43 = 0 ∧ gI (sI (sI h1 51 0 0) 51 43 0) 51 0 = 0 := fun h1 => ⟨by rw [gI_sI, if_pos rfl, if_pos rfl], by simp +decide only [gI_sI, if_false, if_true]⟩
  have r0 : CF n E an A cs (sI h 28 1 0) := ⟨r.1.ag (f0.ag rfl), r.2.1.ag (f0.ag rfl), r.2.2.ag (f0.ag rfl)⟩
  have e80 : gI (sI h 28 1 0) 0 9 = b32 b := by rw [(f0.1 0 9 rfl).1]; exact h8
  cases b with
  | false =>
    obtain ⟨a1, a2, a3⟩ := none0 z28 (z0 (sI h 28 1 0)).1
    refine ⟨-1, sI h 28 1 0, sI (sI (sI h 28 1 0) 51 0 0) 51 43 0, 0, fun _ => 0, ?_, FL.sub f0 rfl, r0, ?_, FL.sub (g0 _) rfl, (z0 _).2, a1, a2, a3⟩
    · unfold F_X8_prove
      rw [bnd_eq, e80, if_pos (by decide)]
    · unfold F_X9_prove F_X9_prove_24
      have e9 : gI (sI (sI (sI h 28 1 0) 51 0 0) 51 43 0) 51 23 = 0 := by rw [((g0 _).1 51 23 rfl).1, (f0.1 51 23 rfl).1, h9]; rfl
      rw [bnd_eq, bnd_eq, e9, if_pos rfl]
  | true =>
    have pp := p rfl
    have han := pp.2.2.2.1.1
    have p10 := pow10 han
    obtain ⟨h1, e1, f1, c1, w1⟩ := c_fillW N (by omega) pp r0
    have f01 : FL ((28,1,2) :: LFi) h h1 := FL.cat f0 f1 rfl rfl
    have s1 : gI h1 28 1 = 0 := by rw [(f1.1 28 1 rfl).1]; exact z28
    have cle := cW_le (W := WayB n E an A cs) (lo := 0) (2 ^ an)
    have e8 : F_X8_prove N h = if (0 : Int32) < nI (cW (WayB n E an A cs) 0 (2 ^ an)) then some (-1, h1) else bnd2 (F_X7_writeProof N h1) fun r4 h5 => if r4 = 0 then some (-1, h5) else some ((gI h5 28 1), h5) := by
      unfold F_X8_prove F_X8_prove_44
      rw [bnd_eq, e80, if_neg (by decide), e1, bnd2_p, w1.1]
    -- the reference up to its ways
    have m9 : ∀ hx, MF n E an A cs hx → gI hx 51 23 = 1 → ∃ h4, FL LMW (sI (sI hx 51 0 0) 51 43 0) h4 ∧ gI h4 51 0 = 0 ∧ F_X9_prove N hx = if nI (cW (WayB n E an A cs) 0 (2 ^ an)) ≤ 0 then bnd2 (F_X9_writeProof N h4) fun r5 h6 => if (gI h6 51 43) ≤ 6000 then some ((gI h6 51 43), h6) else bnd (sI h6 51 43 0) fun h7 => some ((-1), h7) else some (-1, h4) := by
      intro hx mx qx
      obtain ⟨h4, e4, f4, t4⟩ := m_ways N (by omega) pp (mx.ag (g0 hx) rfl rfl) (by rw [((g0 hx).1 51 23 rfl).1]; exact qx)
      refine ⟨h4, f4, t4, ?_⟩
      unfold F_X9_prove F_X9_prove_24
      rw [bnd_eq, bnd_eq, ((g0 hx).1 51 23 rfl).1, qx, if_neg (by decide), e4, bnd2_p]
    by_cases qc : cW (WayB n E an A cs) 0 (2 ^ an) = 0
    · rw [e8, qc, if_neg (by decide)]
      obtain ⟨h3, f3, rc3, r3⟩ := c_writeProof N hN pp c1.1 c1.2.1
      have f13 : FL LPr8 h h3 := FL.cat f01 f3 rfl rfl
      have m3 : MF n E an A cs h3 := m.ag f13 rfl rfl
      have q3 : gI h3 51 23 = 1 := by rw [(f13.1 51 23 rfl).1]; exact h9
      have cf3 : CF n E an A cs h3 := ⟨rc3, c1.2.1.ag (f3.ag rfl), c1.2.2.ag (f3.ag rfl)⟩
      obtain ⟨h4, f4, t4, e9⟩ := m9 h3 m3 q3
      have g4 : FL LMW h3 h4 ∨ True := Or.inr trivial
      have fg4 : FL ((51,43,44) :: LMW) h3 h4 := FL.cat (g0 h3) f4 rfl rfl
      obtain ⟨h5, e5, f5, t5⟩ := m_writeProof N hN pp (cW_no qc) (m3.ag fg4 rfl rfl).1 (m3.ag fg4 rfl rfl).2 (by rw [(f4.1 51 43 rfl).1]; exact (z0 h3).1)
      rw [qc, if_pos (by decide), e5, bnd2_p] at e9
      have th5 : gI h5 51 0 = 0 := by rw [(f5.1 51 0 rfl).1]; exact t4
      have fg5 : FL LPr9 h3 h5 := FL.cat fg4 f5 rfl rfl
      rcases r3 with ⟨a1, a2, a3, a4⟩ | ⟨a1, a2, a3⟩
      · rcases t5 with ⟨b1, b2, b3⟩ | ⟨b1, b2⟩
        · refine ⟨nI (tree n E A cs an 0 (fun _ => 1)).length, h3, h5, (tree n E A cs an 0 (fun _ => 1)).length, fun k => (tree n E A cs an 0 (fun _ => 1)).getD k 0, ?_, f13, cf3, ?_, fg5, th5, ⟨a1, fun k _ => tree_byte pp an 0 (fun _ => 1) (by omega) k⟩, ⟨a3, a4⟩, ⟨b2, b3⟩⟩
          · rw [a2, bnd2_p, if_neg (by decide), a3]
          · rw [e9, b2, if_pos (by rw [show (6000 : Int32) = nI 6000 from rfl]; exact nI_le b1 (by decide))]
        · omega
      · rcases t5 with ⟨b1, b2, b3⟩ | ⟨b1, b2⟩
        · omega
        · have f6 : FL [(51,43,44)] h5 (sI h5 51 43 0) := FL.i h5 rfl
          obtain ⟨c1', c2', c3'⟩ := none0 a3 (show gI (sI h5 51 43 0) 51 43 = 0 by rw [gI_sI, if_pos rfl, if_pos rfl])
          refine ⟨-1, h3, sI h5 51 43 0, 0, fun _ => 0, ?_, f13, cf3, ?_, FL.cat fg5 f6 rfl rfl, by rw [(f6.1 51 0 rfl).1]; exact th5, c1', c2', c3'⟩
          · rw [a2, bnd2_p, if_pos rfl]
          · rw [e9, b2, if_neg (by decide), bnd_eq]
    · have m1 : MF n E an A cs h1 := m.ag f01 rfl rfl
      have q1 : gI h1 51 23 = 1 := by rw [(f01.1 51 23 rfl).1]; exact h9
      obtain ⟨h4, f4, t4, e9⟩ := m9 h1 m1 q1
      obtain ⟨c1', c2', c3'⟩ := none0 s1 (show gI h4 51 43 = 0 by rw [(f4.1 51 43 rfl).1]; exact (z0 h1).1)
      refine ⟨-1, h1, h4, 0, fun _ => 0, ?_, FL.sub f01 rfl, c1, ?_, FL.cat (g0 h1) f4 rfl rfl, t4, c1', c2', c3'⟩
      · rw [e8, if_pos (by rw [show (0 : Int32) = nI 0 from rfl]; exact nI_lt (by omega) (by omega))]
      · rw [e9, if_neg (nI_nle (by omega) (by omega))]
