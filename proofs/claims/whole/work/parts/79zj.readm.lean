/-! READ: the reference's whole read -/
theorem rs_83 (N : Nat) {R : Nat × Nat × Sp} {z : Nat} {h : xHp} (r : Fal R h) : F_X9_read_83 N (xit (F_X9_read_49_b N) (fun _ => none) (z + 1)) h = F_X9_read_98 N (sI h 51 39 1) := by
  unfold F_X9_read_83 F_X9_read_95
  rw [if_neg r.nle, bnd_eq]
  show F_X9_read_49_b N (xit (F_X9_read_49_b N) (fun _ => none) z) (sI h 51 39 1) = _
  generalize xit (F_X9_read_49_b N) (fun _ => none) z = K
  unfold F_X9_read_49_b
  rw [gI_sI, if_pos rfl, if_pos rfl, if_neg (by decide)]
theorem m_read_go (N : Nat) (hN : 7000 ≤ N) {tn : Nat} {tb : Nat → Nat} (hT : Twf 400 tn tb) : ∀ (f z t p : Nat) (S : Sp) (h : xHp), f + t = 102 → f < z → t ≤ 100 → p ≤ tn → S.1 = 0 → Iv t S → Mtap tn tb h → TK' tn tb t p h → MSw S.2.2.1 h → MSc S.2.2.2 h → gI h 51 39 = 0 → ∃ h', xit (F_X9_read_49_b N) (fun _ => none) z h = F_X9_read_98 N h' ∧ FL LBh h h' ∧ (Fal (Rd tn tb f t p S) h' ∨ EGd (Rd tn tb f t p S) h') := by
  intro f
  induction f using Nat.strongRecOn with
  | ind f ih =>
    intro z t p S h hf hz ht hp s0 iv c k mw mc h39
    obtain ⟨f, rfl⟩ : ∃ f', f = f' + 1 := ⟨f - 1, by omega⟩
    obtain ⟨z, rfl⟩ : ∃ z', z = z' + 2 := ⟨z - 2, by omega⟩
    obtain ⟨st, X, W, cs, an, A⟩ := S
    have s0' : st = 0 := s0
    subst s0'
    dsimp only at mw mc
    obtain ⟨u, h1, e1, f1, r1⟩ := m_unit N hN hT c hp k ht (by omega) iv mw mc
    have f1' : FL LBh h h1 := FL.sub f1 rfl
    have y39 : gI h1 51 39 = 0 := (f1.1 51 39 rfl).1.trans h39
    show ∃ h', F_X9_read_49_b N (xit (F_X9_read_49_b N) (fun _ => none) (z + 1)) h = _ ∧ _
    have head : F_X9_read_49_b N (xit (F_X9_read_49_b N) (fun _ => none) (z + 1)) h = if u = 0 then F_X9_read_83 N (xit (F_X9_read_49_b N) (fun _ => none) (z + 1)) h1 else if gI h1 51 21 = 0 then bnd2 (F_X9_behindUnit N h1) fun r3 h4 => F_X9_read_83 N (xit (F_X9_read_49_b N) (fun _ => none) (z + 1)) h4 else F_X9_read_83 N (xit (F_X9_read_49_b N) (fun _ => none) (z + 1)) h1 := by
      generalize xit (F_X9_read_49_b N) (fun _ => none) (z + 1) = K
      unfold F_X9_read_49_b
      rw [if_pos h39, if_pos k.2.2.2.2.2.2, e1, bnd2_p]
    rw [head]
    -- after a fault
    have stop : ∀ hx : xHp, FL LBh h hx → Fal (Rd tn tb (f + 1) t p (0, X, W, cs, an, A)) hx → ∃ h', F_X9_read_83 N (xit (F_X9_read_49_b N) (fun _ => none) (z + 1)) hx = F_X9_read_98 N h' ∧ FL LBh h h' ∧ (Fal (Rd tn tb (f + 1) t p (0, X, W, cs, an, A)) h' ∨ EGd (Rd tn tb (f + 1) t p (0, X, W, cs, an, A)) h') := by
      intro hx fx rx
      have f4 : FL [(51,39,40)] hx (sI hx 51 39 1) := FL.i hx rfl
      exact ⟨_, rs_83 N rx, FL.cat fx f4 rfl rfl, Or.inl (rx.fr f4 rfl)⟩
    -- on with the next unit
    have goon : ∀ hx : xHp, FL LBh h hx → gI hx 51 39 = 0 → UGd tn tb (Rd tn tb (f + 1) t p (0, X, W, cs, an, A)) t hx → ∃ h', F_X9_read_83 N (xit (F_X9_read_49_b N) (fun _ => none) (z + 1)) hx = F_X9_read_98 N h' ∧ FL LBh h h' ∧ (Fal (Rd tn tb (f + 1) t p (0, X, W, cs, an, A)) h' ∨ EGd (Rd tn tb (f + 1) t p (0, X, W, cs, an, A)) h') := by
      intro hx fx x39 ⟨f', t', p', S', a1, a2, a3, a4, a5, a6, a7, a8, a9, a10, a11⟩
      unfold F_X9_read_83 F_X9_read_95
      rw [if_pos (by rw [a8.2.2.2.2.2.2]; decide), a5]
      obtain ⟨h', e', fr, r'⟩ := ih f' (by omega) (z + 1) t' p' S' hx a1 (by omega) a2 a4 a6 a7 a9 a8 a10 a11 x39
      exact ⟨h', e', fx.trans fr, r'⟩
    rcases r1 with r1 | ⟨rfl, r1⟩ | ⟨rfl, r1⟩
    · rw [if_neg r1.ne, show (if u = 0 then F_X9_read_83 N (xit (F_X9_read_49_b N) (fun _ => none) (z + 1)) h1 else F_X9_read_83 N (xit (F_X9_read_49_b N) (fun _ => none) (z + 1)) h1) = F_X9_read_83 N (xit (F_X9_read_49_b N) (fun _ => none) (z + 1)) h1 from ite_same rfl rfl]
      exact stop h1 f1' r1
    · rw [if_pos rfl]
      exact goon h1 f1' y39 r1
    · obtain ⟨f', t', p', C', X', a1, a2, a3, a4, a5, a6, a7, a8, a9, a10⟩ := r1
      rw [if_neg (show ¬ (1 : Int32) = 0 by decide), if_pos a7.2.2.2.2.2.2]
      unfold F_X9_behindUnit F_X9_behindUnit_2
      obtain ⟨h2, e2, f2, r2⟩ := m_behind N hN (X := X') (W := W) hT f' N t' p' W C' h1 a1 (by omega) a2 a4 iv.2.1 a6 a8 a7 a9 a10 y39
      rw [e2, bnd2_p]
      have f12 : FL LBh h h2 := f1'.trans f2
      rcases r2 with r2 | r2 | ⟨r3, g1, g2, g3, g4, g5, g6, g7, g8⟩
      · rw [← a5] at r2
        exact stop h2 f12 r2
      · rw [← a5] at r2
        refine ⟨h2, ?_, f12, Or.inr r2⟩
        unfold F_X9_read_83 F_X9_read_95
        rw [if_pos (by rw [r2.2.1]; decide)]
        show F_X9_read_49_b N (xit (F_X9_read_49_b N) (fun _ => none) z) h2 = _
        generalize xit (F_X9_read_49_b N) (fun _ => none) z = K
        unfold F_X9_read_49_b
        rw [r2.2.2.1, if_neg (by decide)]
      · rw [← a5] at g8
        exact goon h2 f12 r3 ⟨g1, g2, g3, g4, g5, g6, by omega, g8⟩
theorem m_cpA (N : Nat) {an : Nat} {A : Ed} (han : an ≤ 10) : ∀ (z i : Nat) (h : xHp), i ≤ an → an < z + i → gI h 51 24 = nI an → AtmG 66 67 68 an A h → (∀ k, k < i → gI h 62 k = nI (A k).1 ∧ gI h 63 k = nI (A k).2.1 ∧ (gI h 64 k).toInt = (A k).2.2) → ∃ h', xit (F_X9_read_140_b N) (fun _ _ => none) z (nI i) h = F_X9_read_192 N 0 h' ∧ FL [(62,0,0),(63,0,0),(64,0,0)] h h' ∧ AtmG 62 63 64 an A h' := by
  intro z
  induction z with
  | zero => intro i h h1 h2; omega
  | succ z ih =>
    intro i h h1 h2 h24 a d
    show ∃ h', F_X9_read_140_b N (xit (F_X9_read_140_b N) (fun _ _ => none) z) (nI i) h = _ ∧ _
    generalize xit (F_X9_read_140_b N) (fun _ _ => none) z = K at ih ⊢
    unfold F_X9_read_140_b
    rw [h24]
    by_cases q : i = an
    · subst q
      rw [if_pos (nI_le (Nat.le_refl i) (by omega))]
      exact ⟨h, rfl, Fr.rf, d⟩
    · have hi : i < an := by omega
      obtain ⟨a1, a2, a3⟩ := a i hi
      rw [if_neg (nI_ge hi (by omega))]
      simp +decide only [grd_t (xin_nI (show i < 12 by omega) (show 12 < 2 ^ 31 by decide)), grd_t (xin_nI (show i < 10 by omega) (show 10 < 2 ^ 31 by decide)), nI_cl (show i < 2 ^ 31 by omega), bnd_eq, gI_sI, if_false, a1, a2, nI_1]
      have fr : FL [(62,0,0),(63,0,0),(64,0,0)] h (sI (sI (sI h 62 i (nI (A i).1)) 63 i (nI (A i).2.1)) 64 i (gI h 68 i)) := (FL.i h rfl).trans ((FL.i _ rfl).trans (FL.i _ rfl))
      obtain ⟨h', e', f', g'⟩ := ih (i + 1) (sI (sI (sI h 62 i (nI (A i).1)) 63 i (nI (A i).2.1)) 64 i (gI h 68 i)) (by omega) (by omega) ((fr.1 51 24 rfl).1.trans h24) (a.ag (fr.ag rfl)) (fun j hj => by
        simp +decide only [gI_sI, if_false, if_true]
        by_cases qj : j = i
        · rw [if_pos qj, if_pos qj, if_pos qj, qj]; exact ⟨rfl, rfl, a3⟩
        · rw [if_neg qj, if_neg qj, if_neg qj]; exact d j (by omega))
      exact ⟨h', e', fr.trans f', g'⟩
theorem m_cpS (N : Nat) {an : Nat} {cs : List Nat} (hl : cs.length ≤ 240) : ∀ (z i : Nat) (h : xHp), i ≤ cs.length → cs.length < z + i → gI h 51 28 = nI cs.length → gI h 51 24 = nI an → SeqG 69 mcd cs h → (∀ k, k < i → gI h 65 k = nI (mcd (cs.getD k 0))) → ∃ h', xit (F_X9_read_192_b N) (fun _ _ => none) z (nI i) h = some (nI an, h') ∧ FL [(65,0,0)] h h' ∧ ∀ k, k < cs.length → gI h' 65 k = nI (mcd (cs.getD k 0)) := by
  intro z
  induction z with
  | zero => intro i h h1 h2; omega
  | succ z ih =>
    intro i h h1 h2 h28 h24 a d
    show ∃ h', F_X9_read_192_b N (xit (F_X9_read_192_b N) (fun _ _ => none) z) (nI i) h = _ ∧ _
    generalize xit (F_X9_read_192_b N) (fun _ _ => none) z = K at ih ⊢
    unfold F_X9_read_192_b
    rw [h28]
    by_cases q : i = cs.length
    · subst q
      rw [if_pos (nI_le (Nat.le_refl _) (by omega)), h24]
      exact ⟨h, rfl, Fr.rf, d⟩
    · have hi : i < cs.length := by omega
      rw [if_neg (nI_ge hi (by omega)), grd_t (xin_nI (show i < 1000 by omega) (by decide)), grd_t (xin_nI (show i < 1000 by omega) (by decide)), nI_cl (by omega), a i hi, bnd_eq, nI_1]
      have fr : FL [(65,0,0)] h (sI h 65 i (nI (mcd (cs.getD i 0)))) := FL.i h rfl
      obtain ⟨h', e', f', g'⟩ := ih (i + 1) (sI h 65 i (nI (mcd (cs.getD i 0)))) (by omega) (by omega) ((fr.1 51 28 rfl).1.trans h28) ((fr.1 51 24 rfl).1.trans h24) (a.ag (fr.ag rfl)) (fun j hj => by
        rw [gI_sI, if_pos rfl]
        by_cases qj : j = i
        · rw [if_pos qj, qj]
        · rw [if_neg qj]; exact d j (by omega))
      exact ⟨h', e', fr.trans f', g'⟩
def LRr9 : Lc := [(51,0,1),(51,15,25),(51,28,29),(51,30,40),(62,0,0),(63,0,0),(64,0,0),(65,0,0),(66,0,0),(67,0,0),(68,0,0),(69,0,0),(70,0,0)]
theorem m_read (N : Nat) (hN : 7000 ≤ N) {tn an : Nat} {tb : Nat → Nat} {A : Ed} {cs : List Nat} {b : Bool} {h : xHp} (hT : Twf 400 tn tb) (c : Mtap tn tb h) (rf : Mfor an A cs h) (h9 : gI h 51 23 = b32 b) (rg : RdG (rdR tn tb)) : ∃ h', F_X9_read N h = some (rdV (rdR tn tb), h') ∧ FL LRr9 h h' ∧ gI h' 51 0 = 0 ∧ gI h' 51 15 = 0 ∧ gI h' 51 21 = nI (rdR tn tb).1 ∧ ((rdR tn tb).1 = 0 → gI h' 51 23 = 1 ∧ Mfor (rdR tn tb).2.2.2.2.2.2.1 (rdR tn tb).2.2.2.2.2.2.2 (rdR tn tb).2.2.2.2.2.1 h') ∧ (¬ (rdR tn tb).1 = 0 → gI h' 51 23 = b32 b ∧ Mfor an A cs h') := by
  have eR : Rd tn tb 102 0 0 Sp0 = rdR tn tb := rfl
  have f0 : FL [(51,0,1),(51,19,22),(51,30,31),(51,34,35),(51,37,40)] h (sI (sI (sI (sI (sI (sI (sI (sI (sI h 51 0 0) 51 21 0) 51 20 0) 51 19 0) 51 30 0) 51 34 0) 51 37 0) 51 38 0) 51 39 0) := ((((FL.i h rfl).trans (FL.i _ rfl)).trans ((FL.i _ rfl).trans (FL.i _ rfl))).trans (((FL.i _ rfl).trans (FL.i _ rfl)).trans ((FL.i _ rfl).trans (FL.i _ rfl)))).trans (FL.i _ rfl)
  have v0 : gI (sI (sI (sI (sI (sI (sI (sI (sI (sI h 51 0 0) 51 21 0) 51 20 0) 51 19 0) 51 30 0) 51 34 0) 51 37 0) 51 38 0) 51 39 0) 51 0 = 0 := by simp +decide only [gI_sI, if_false, if_true]
  have v19 : gI (sI (sI (sI (sI (sI (sI (sI (sI (sI h 51 0 0) 51 21 0) 51 20 0) 51 19 0) 51 30 0) 51 34 0) 51 37 0) 51 38 0) 51 39 0) 51 19 = nI 0 := by simp +decide only [gI_sI, if_false, if_true]
  have v20 : gI (sI (sI (sI (sI (sI (sI (sI (sI (sI h 51 0 0) 51 21 0) 51 20 0) 51 19 0) 51 30 0) 51 34 0) 51 37 0) 51 38 0) 51 39 0) 51 20 = nI 0 := by simp +decide only [gI_sI, if_false, if_true]
  have v21 : gI (sI (sI (sI (sI (sI (sI (sI (sI (sI h 51 0 0) 51 21 0) 51 20 0) 51 19 0) 51 30 0) 51 34 0) 51 37 0) 51 38 0) 51 39 0) 51 21 = 0 := by simp +decide only [gI_sI, if_false, if_true]
  have v30 : gI (sI (sI (sI (sI (sI (sI (sI (sI (sI h 51 0 0) 51 21 0) 51 20 0) 51 19 0) 51 30 0) 51 34 0) 51 37 0) 51 38 0) 51 39 0) 51 30 = nI 0 := by simp +decide only [gI_sI, if_false, if_true]
  have v34 : gI (sI (sI (sI (sI (sI (sI (sI (sI (sI h 51 0 0) 51 21 0) 51 20 0) 51 19 0) 51 30 0) 51 34 0) 51 37 0) 51 38 0) 51 39 0) 51 34 = nI 0 := by simp +decide only [gI_sI, if_false, if_true]
  have v37 : gI (sI (sI (sI (sI (sI (sI (sI (sI (sI h 51 0 0) 51 21 0) 51 20 0) 51 19 0) 51 30 0) 51 34 0) 51 37 0) 51 38 0) 51 39 0) 51 37 = nI 0 := by simp +decide only [gI_sI, if_false, if_true]
  have v38 : gI (sI (sI (sI (sI (sI (sI (sI (sI (sI h 51 0 0) 51 21 0) 51 20 0) 51 19 0) 51 30 0) 51 34 0) 51 37 0) 51 38 0) 51 39 0) 51 38 = nI 0 := by simp +decide only [gI_sI, if_false, if_true]
  have v39 : gI (sI (sI (sI (sI (sI (sI (sI (sI (sI h 51 0 0) 51 21 0) 51 20 0) 51 19 0) 51 30 0) 51 34 0) 51 37 0) 51 38 0) 51 39 0) 51 39 = 0 := by simp +decide only [gI_sI, if_false, if_true]
  unfold F_X9_read
  simp only [bnd_eq]
  generalize sI (sI (sI (sI (sI (sI (sI (sI (sI h 51 0 0) 51 21 0) 51 20 0) 51 19 0) 51 30 0) 51 34 0) 51 37 0) 51 38 0) 51 39 0 = h0 at f0 v0 v19 v20 v21 v30 v34 v37 v38 v39 ⊢
  have c0 := c.ag (f0.ag rfl)
  obtain ⟨h1, e1, f1, r1⟩ := m_next N hN hT c0 (show 0 ≤ tn by omega) v19 v20 (by decide) v21
  rw [e1, bnd2_p]
  have body : ∃ h2, F_X9_read_49 N h1 = F_X9_read_98 N h2 ∧ FL LBh h1 h2 ∧ (Fal (rdR tn tb) h2 ∨ EGd (rdR tn tb) h2) := by
    unfold F_X9_read_49
    have y39 : gI h1 51 39 = 0 := (f1.1 51 39 rfl).1.trans v39
    rcases r1 with r1 | ⟨a1, a2, a3⟩
    · rw [← eR]
      exact m_read_go N hN hT 102 N 0 0 Sp0 h1 rfl (by omega) (by omega) (by omega) rfl Iv0 (c0.ag (f1.ag rfl)) r1 ⟨(f1.1 51 37 rfl).1.trans v37, trivial, (f1.1 51 38 rfl).1.trans v38⟩ ⟨(f1.1 51 30 rfl).1.trans v30, fun k hk => absurd hk (Nat.not_lt_zero k), (f1.1 51 34 rfl).1.trans v34, fun k hk => absurd hk (Nat.not_lt_zero k)⟩ y39
    · have r1' : (Tk tn tb 0).1 = 262 := a1
      have s1 : (stp (Tk tn tb 0).1 (Tk tn tb 0).2.1 Sp0).1 = 1 := by rw [r1']; unfold stp; rw [if_pos rfl]
      have fl : Fal (rdR tn tb) h1 := by
        rw [← eR, rd_bad (by rw [r1']; decide) s1 (by decide)]
        exact ⟨⟨Nat.le_refl 1, show 1 ≤ 5 by decide⟩, a2, a3⟩
      refine ⟨h1, ?_, Fr.rf, Or.inl fl⟩
      obtain ⟨z, rfl⟩ : ∃ z, N = z + 1 := ⟨N - 1, by omega⟩
      show F_X9_read_49_b (z + 1) (xit (F_X9_read_49_b (z + 1)) (fun _ => none) z) h1 = _
      generalize xit (F_X9_read_49_b (z + 1)) (fun _ => none) z = K
      unfold F_X9_read_49_b
      rw [if_pos y39, if_neg fl.ne]
  obtain ⟨h2, e2, f2, r2⟩ := body
  rw [e2]
  have f02 : FL [(51,0,1),(51,16,23),(51,30,31),(51,34,35),(51,37,40),(66,0,0),(67,0,0),(68,0,0),(69,0,0),(70,0,0)] h h2 := FL.cat f0 (FL.cat f1 f2 rfl rfl : FL LBh h0 h2) rfl rfl
  have t2 : gI h2 51 0 = 0 := (f2.1 51 0 rfl).1.trans ((f1.1 51 0 rfl).1.trans v0)
  unfold F_X9_read_98
  rw [bnd_eq]
  have f3 : FL [(51,15,16)] h2 (sI h2 51 15 0) := FL.i h2 rfl
  have f03 : FL LRr9 h (sI h2 51 15 0) := FL.cat f02 f3 rfl rfl
  rw [(f3.1 51 21 rfl).1, (f3.1 51 22 rfl).1]
  unfold rdV
  rcases r2 with r2 | r2
  · have ne : ¬ (rdR tn tb).1 = 0 := by have := r2.1; omega
    rw [if_neg r2.nle, if_neg ne, r2.2.2]
    refine ⟨_, rfl, f03, (f3.1 51 0 rfl).1.trans t2, by rw [gI_sI, if_pos rfl, if_pos rfl], (f3.1 51 21 rfl).1.trans r2.2.1, fun z => absurd z ne, fun _ => ⟨?_, rf.ag (FL.ag (FL.cat f02 f3 rfl rfl : FL [(51,0,1),(51,15,23),(51,30,31),(51,34,35),(51,37,40),(66,0,0),(67,0,0),(68,0,0),(69,0,0),(70,0,0)] h _) rfl)⟩⟩
    rw [(f3.1 51 23 rfl).1, (f02.1 51 23 rfl).1]
    exact h9
  · obtain ⟨ne, g21, g39, d⟩ := r2
    obtain ⟨fc, aw⟩ := rg.2 ne
    have han := fc.1
    have hcs := fc.2.1
    rw [if_pos (by rw [g21]; decide), if_pos ne]
    have f4 : FL [(51,23,25),(51,28,29)] (sI h2 51 15 0) (sI (sI (sI (sI h2 51 15 0) 51 23 1) 51 24 (nI (rdR tn tb).2.2.2.2.2.2.1)) 51 28 (nI (rdR tn tb).2.2.2.2.2.1.length)) := (FL.i _ rfl).trans ((FL.i _ rfl).trans (FL.i _ rfl))
    have d3 := d.ag (f3.ag rfl)
    obtain ⟨d4, d5, d6, d7⟩ := d3
    rw [bnd_eq, show gI (sI (sI h2 51 15 0) 51 23 1) 51 30 = nI (rdR tn tb).2.2.2.2.2.2.1 by simp +decide only [gI_sI, if_false, if_true] at d4 ⊢; exact d4, bnd_eq, show gI (sI (sI (sI h2 51 15 0) 51 23 1) 51 24 (nI (rdR tn tb).2.2.2.2.2.2.1)) 51 34 = nI (rdR tn tb).2.2.2.2.2.1.length by simp +decide only [gI_sI, if_false, if_true] at d6 ⊢; exact d6, bnd_eq]
    have w24 : gI (sI (sI (sI (sI h2 51 15 0) 51 23 1) 51 24 (nI (rdR tn tb).2.2.2.2.2.2.1)) 51 28 (nI (rdR tn tb).2.2.2.2.2.1.length)) 51 24 = nI (rdR tn tb).2.2.2.2.2.2.1 := by simp +decide only [gI_sI, if_false, if_true]
    have w28 : gI (sI (sI (sI (sI h2 51 15 0) 51 23 1) 51 24 (nI (rdR tn tb).2.2.2.2.2.2.1)) 51 28 (nI (rdR tn tb).2.2.2.2.2.1.length)) 51 28 = nI (rdR tn tb).2.2.2.2.2.1.length := by simp +decide only [gI_sI, if_false, if_true]
    have w23 : gI (sI (sI (sI (sI h2 51 15 0) 51 23 1) 51 24 (nI (rdR tn tb).2.2.2.2.2.2.1)) 51 28 (nI (rdR tn tb).2.2.2.2.2.1.length)) 51 23 = 1 := by simp +decide only [gI_sI, if_false, if_true]
    have a5 := d5.ag (f4.ag rfl)
    have a7 := d7.ag (f4.ag rfl)
    have w0 : gI (sI h2 51 15 0) 51 0 = 0 := (f3.1 51 0 rfl).1.trans t2
    have w15 : gI (sI h2 51 15 0) 51 15 = 0 := by rw [gI_sI, if_pos rfl, if_pos rfl]
    have w21 : gI (sI h2 51 15 0) 51 21 = 0 := (f3.1 51 21 rfl).1.trans g21
    generalize sI (sI (sI (sI h2 51 15 0) 51 23 1) 51 24 (nI (rdR tn tb).2.2.2.2.2.2.1)) 51 28 (nI (rdR tn tb).2.2.2.2.2.1.length) = h4 at f4 w23 w24 w28 a5 a7 ⊢
    unfold F_X9_read_140
    obtain ⟨h5, e5, f5, g5⟩ := m_cpA N han N 0 h4 (by omega) (by omega) w24 a5 (fun k hk => by omega)
    rw [show (0 : Int32) = nI 0 from rfl, e5]
    unfold F_X9_read_192
    obtain ⟨h6, e6, f6, g6⟩ := m_cpS N (an := (rdR tn tb).2.2.2.2.2.2.1) hcs N 0 h5 (by omega) (by omega) ((f5.1 51 28 rfl).1.trans w28) ((f5.1 51 24 rfl).1.trans w24) (a7.ag (f5.ag rfl)) (fun k hk => by omega)
    rw [show (0 : Int32) = nI 0 from rfl, e6]
    have f46 : FL [(51,23,25),(51,28,29),(62,0,0),(63,0,0),(64,0,0),(65,0,0)] (sI h2 51 15 0) h6 := FL.cat f4 (FL.cat f5 f6 rfl rfl : FL [(62,0,0),(63,0,0),(64,0,0),(65,0,0)] h4 h6) rfl rfl
    refine ⟨h6, rfl, FL.cat f03 f46 rfl rfl, (f46.1 51 0 rfl).1.trans w0, (f46.1 51 15 rfl).1.trans w15, by rw [(f46.1 51 21 rfl).1, w21, ne]; rfl, fun _ => ⟨(f6.1 51 23 rfl).1.trans ((f5.1 51 23 rfl).1.trans w23), (f6.1 51 24 rfl).1.trans ((f5.1 51 24 rfl).1.trans w24), g5.ag (f6.ag rfl), (f6.1 51 28 rfl).1.trans ((f5.1 51 28 rfl).1.trans w28), g6⟩, fun z => absurd ne z⟩
