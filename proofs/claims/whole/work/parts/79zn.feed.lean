/-! CALLS: feed -/
theorem and255 (v : Int32) : ∃ b, b < 256 ∧ v &&& 255 = nI b := by
  refine ⟨v.toBitVec.toNat % 256, Nat.mod_lt _ (by decide), Int32.toBitVec_inj.mp (BitVec.eq_of_toNat_eq ?_)⟩
  have e : (nI (v.toBitVec.toNat % 256)).toBitVec.toNat = v.toBitVec.toNat % 256 := by
    show (BitVec.ofNat 32 (v.toBitVec.toNat % 256)).toNat = _
    rw [BitVec.toNat_ofNat, Nat.mod_eq_of_lt]
    have := Nat.mod_lt v.toBitVec.toNat (show 256 > 0 by decide)
    omega
  rw [e, Int32.toBitVec_and, BitVec.toNat_and]
  exact Nat.and_two_pow_sub_one_eq_mod v.toBitVec.toNat 8
theorem b255 : ∀ i, i < 32 → (255 : Int64).toBitVec.getLsbD i = decide (i < 8) ∧ (255 : Int32).toBitVec.getLsbD i = decide (i < 8) := by decide
theorem sh_bits (x : BitVec 64) (a b : BitVec 64) {s i : Nat} (ha : a.toNat = s) (hb : b.toNat = s) (hs : s + i < 64) : (x.sshiftRight' a).getLsbD i = (x >>> b).getLsbD i := by
  have e1 : x.sshiftRight' a = x.sshiftRight a.toNat := rfl
  have e2 : x >>> b = x >>> b.toNat := rfl
  rw [e1, e2, ha, hb, BitVec.getLsbD_sshiftRight, BitVec.getLsbD_ushiftRight, if_pos hs]
  have : decide (64 ≤ i) = false := decide_eq_false (by omega)
  rw [this]
  rfl
theorem sh_n : ∀ j, j < 8 → (((8 * nI j).toInt64 &&& 63).toBitVec.smod 64).toNat = 8 * j ∧ (((8 * nI j).toInt64.toUInt64 &&& Int64.toUInt64 63) % 64).toBitVec.toNat = 8 * j := by decide
theorem sh_same (x : Int64) (j : Nat) (hj : j < 8) : ((x >>> ((8 * nI j).toInt64 &&& 63)) &&& 255).toInt32 = (((x.toUInt64 >>> ((8 * nI j).toInt64.toUInt64 &&& Int64.toUInt64 63)).toInt64).toInt32) &&& 255 := by
  apply Int32.toBitVec_inj.mp
  apply BitVec.eq_of_getLsbD_eq
  intro i hi
  have t1 : ∀ a : Int64, a.toInt32.toBitVec.getLsbD i = a.toBitVec.getLsbD i := by
    intro a
    show (a.toBitVec.signExtend 32).getLsbD i = _
    rw [BitVec.getLsbD_signExtend, if_pos (show i < 64 by omega), decide_eq_true hi, Bool.true_and]
  obtain ⟨z1, z2⟩ := b255 i hi
  rw [t1, Int64.toBitVec_and, BitVec.getLsbD_and, Int32.toBitVec_and, BitVec.getLsbD_and, t1, z1, z2]
  by_cases h8 : i < 8
  · obtain ⟨n1, n2⟩ := sh_n j hj
    have e := sh_bits x.toBitVec (((8 * nI j).toInt64 &&& 63).toBitVec.smod 64) (((8 * nI j).toInt64.toUInt64 &&& Int64.toUInt64 63) % 64).toBitVec (i := i) n1 n2 (by omega)
    rw [show (x >>> ((8 * nI j).toInt64 &&& 63)).toBitVec.getLsbD i = _ from e]
    rfl
  · rw [decide_eq_false h8, Bool.and_false, Bool.and_false]
/-- the bytes of a word, the first first -/
theorem fd_8 (N : Nat) {x : Int64} {g : Nat → Nat} (hg : ∀ j, j < 8 → (((x.toUInt64 >>> ((8 * nI j).toInt64.toUInt64 &&& Int64.toUInt64 63)).toInt64).toInt32) &&& 255 = nI (g j) ∧ g j < 256) : ∀ (j z tn : Nat) (tb : Nat → Nat) (h : xHp), j ≤ 8 → j < z → tn + j ≤ 400 → Ctap tn tb h → ∃ h', xit (F_X8_feed_51_b N) (fun _ _ _ => none) z x (nI j - 1) h = some (nI (tn + j), h') ∧ FL [(26,1,2),(27,0,0)] h h' ∧ Ctap (tn + j) (fun k => if k < tn then tb k else g (tn + j - 1 - k)) h' := by
  intro j
  induction j with
  | zero =>
    intro z tn tb h h1 h2 h3 c
    obtain ⟨z, rfl⟩ : ∃ z', z = z' + 1 := ⟨z - 1, by omega⟩
    show ∃ h', F_X8_feed_51_b N (xit (F_X8_feed_51_b N) (fun _ _ _ => none) z) x (nI 0 - 1) h = _ ∧ _
    unfold F_X8_feed_51_b
    rw [if_pos (by decide), c.1]
    exact ⟨h, rfl, Fr.rf, c.1, fun k hk => by have hk' : k < tn := hk; dsimp only; rw [if_pos hk']; exact c.2 k hk'⟩
  | succ j ih =>
    intro z tn tb h h1 h2 h3 c
    obtain ⟨z, rfl⟩ : ∃ z', z = z' + 1 := ⟨z - 1, by omega⟩
    show ∃ h', F_X8_feed_51_b N (xit (F_X8_feed_51_b N) (fun _ _ _ => none) z) x (nI (j + 1) - 1) h = _ ∧ _
    have e1 : nI (j + 1) - 1 = nI j := by rw [show (1 : Int32) = nI 1 from rfl, pk_sub (by omega)]; rfl
    obtain ⟨g1, g2⟩ := hg j (by omega)
    have f1 : FL [(26,1,2),(27,0,0)] h (sI (sI h 27 tn (vp_nar .byte (nI (g j)).toInt8.toInt32)) 26 1 (nI (tn + 1))) := (FL.i h rfl).trans (FL.i _ rfl)
    have ap : F_X6_append_26 N (nI (g j)) h = some (1, sI (sI h 27 tn (vp_nar .byte (nI (g j)).toInt8.toInt32)) 26 1 (nI (tn + 1))) := by
      unfold F_X6_append_26
      rw [c.1, if_neg (nI_pos (by omega)), if_pos (by rw [show (400 : Int32) = nI 400 from rfl]; exact nI_lt (by omega) (by decide)), grd_t (xin_nI (show tn < 400 by omega) (by decide)), nI_cl (by omega), bnd_eq, ((FL.i h rfl : FL [(27,0,0)] h _).1 26 1 rfl).1, c.1, nI_1, bnd_eq]
    have c1 : Ctap (tn + 1) (fun k => if k < tn then tb k else g j) (sI (sI h 27 tn (vp_nar .byte (nI (g j)).toInt8.toInt32)) 26 1 (nI (tn + 1))) := by
      refine ⟨by rw [gI_sI, if_pos rfl, if_pos rfl], fun k hk => ?_⟩
      have hk' : k < tn + 1 := hk
      simp +decide only [gI_sI, if_false, if_true]
      by_cases q : k = tn
      · rw [if_pos q, if_neg (by omega)]; exact byte_b _ g2
      · rw [if_neg q, if_pos (by omega)]; exact c.2 k (by omega)
    obtain ⟨h', e', f', c'⟩ := ih z (tn + 1) (fun k => if k < tn then tb k else g j) _ (by omega) (by omega) (by omega) c1
    refine ⟨h', ?_, f1.trans f', ?_⟩
    · unfold F_X8_feed_51_b
      rw [e1, if_neg (nI_pos (by omega)), g1, ap, bnd2_p, show tn + (j + 1) = tn + 1 + j by omega, ← e', show nI j + -1 = nI j - 1 from (Int32.sub_eq_add_neg _ _).symm]
      rfl
    · rw [show tn + (j + 1) = tn + 1 + j by omega]
      refine ⟨c'.1, fun k hk => ?_⟩
      rw [c'.2 k hk]
      dsimp only
      by_cases q : k < tn
      · rw [if_pos (by omega), if_pos q, if_pos q]
      · by_cases q2 : k < tn + 1
        · rw [if_pos q2, if_neg q, if_neg q, show tn + 1 + j - 1 - k = j by omega]
        · rw [if_neg q2, if_neg q]
theorem fd_9 (N : Nat) {x : Int64} {g : Nat → Nat} (hg : ∀ j, j < 8 → (((x.toUInt64 >>> ((8 * nI j).toInt64.toUInt64 &&& Int64.toUInt64 63)).toInt64).toInt32) &&& 255 = nI (g j) ∧ g j < 256) : ∀ (j z tn : Nat) (tb : Nat → Nat) (h : xHp), j ≤ 8 → j < z → tn + j ≤ 400 → Mtap tn tb h → ∃ h', xit (F_X9_feed_41_b N) (fun _ _ _ => none) z x (nI j - 1) h = some (nI (tn + j), h') ∧ FL [(51,15,16),(61,0,0)] h h' ∧ Mtap (tn + j) (fun k => if k < tn then tb k else g (tn + j - 1 - k)) h' := by
  intro j
  induction j with
  | zero =>
    intro z tn tb h h1 h2 h3 c
    obtain ⟨z, rfl⟩ : ∃ z', z = z' + 1 := ⟨z - 1, by omega⟩
    show ∃ h', F_X9_feed_41_b N (xit (F_X9_feed_41_b N) (fun _ _ _ => none) z) x (nI 0 - 1) h = _ ∧ _
    unfold F_X9_feed_41_b
    rw [if_pos (by decide), c.1]
    exact ⟨h, rfl, Fr.rf, c.1, fun k hk => by have hk' : k < tn := hk; dsimp only; rw [if_pos hk']; exact c.2 k hk'⟩
  | succ j ih =>
    intro z tn tb h h1 h2 h3 c
    obtain ⟨z, rfl⟩ : ∃ z', z = z' + 1 := ⟨z - 1, by omega⟩
    show ∃ h', F_X9_feed_41_b N (xit (F_X9_feed_41_b N) (fun _ _ _ => none) z) x (nI (j + 1) - 1) h = _ ∧ _
    have e1 : nI (j + 1) - 1 = nI j := by rw [show (1 : Int32) = nI 1 from rfl, pk_sub (by omega)]; rfl
    obtain ⟨g1, g2⟩ := hg j (by omega)
    have g3 : ((x >>> ((8 * nI j).toInt64 &&& 63)) &&& 255).toInt32 = nI (g j) := by rw [sh_same x j (by omega)]; exact g1
    have f1 : FL [(51,15,16),(61,0,0)] h (sI (sI h 61 tn (nI (g j))) 51 15 (nI (tn + 1))) := (FL.i h rfl).trans (FL.i _ rfl)
    have c1 : Mtap (tn + 1) (fun k => if k < tn then tb k else g j) (sI (sI h 61 tn (nI (g j))) 51 15 (nI (tn + 1))) := by
      refine ⟨by rw [gI_sI, if_pos rfl, if_pos rfl], fun k hk => ?_⟩
      have hk' : k < tn + 1 := hk
      simp +decide only [gI_sI, if_false, if_true]
      by_cases q : k = tn
      · rw [if_pos q, if_neg (by omega)]
      · rw [if_neg q, if_pos (by omega)]; exact c.2 k (by omega)
    obtain ⟨h', e', f', c'⟩ := ih z (tn + 1) (fun k => if k < tn then tb k else g j) _ (by omega) (by omega) (by omega) c1
    refine ⟨h', ?_, f1.trans f', ?_⟩
    · unfold F_X9_feed_41_b
      rw [e1, if_neg (nI_pos (by omega)), g3, c.1, grd_t (xin_nI (show tn < 400 by omega) (by decide)), nI_cl (by omega), bnd_eq, ((FL.i h rfl : FL [(61,0,0)] h _).1 51 15 rfl).1, c.1, nI_1, bnd_eq, show tn + (j + 1) = tn + 1 + j by omega, ← e', show nI j + -1 = nI j - 1 from (Int32.sub_eq_add_neg _ _).symm]
      rfl
    · rw [show tn + (j + 1) = tn + 1 + j by omega]
      refine ⟨c'.1, fun k hk => ?_⟩
      rw [c'.2 k hk]
      dsimp only
      by_cases q : k < tn
      · rw [if_pos (by omega), if_pos q, if_pos q]
      · by_cases q2 : k < tn + 1
        · rw [if_pos q2, if_neg q, if_neg q, show tn + 1 + j - 1 - k = j by omega]
        · rw [if_neg q2, if_neg q]
theorem q_feed (N : Nat) (hN : 7000 ≤ N) {a : Ab} {h : xHp} (x : Int64) (p : Int32) (w : RW a) (rc : RC a h) (rm : RM a h) : P1 (F_X8_feed N x p h) (F_X9_feed N x p) a ∨ P2 (F_X8_feed_T N x p h) (F_X9_feed N x p) [(2, 1), (3, 2)] a := by
  obtain ⟨⟨n, E⟩, ⟨L, lp⟩, ⟨m, cr⟩, ⟨tn, tb⟩, ⟨wn, wb⟩, b, ⟨cs, an, A⟩, f⟩ := a
  have w' : RWx n E L lp m tn tb wn wb b an A cs f := w
  have c' : RCx n E L lp m cr tn tb wn wb b an A cs f h := rc
  obtain ⟨w1, w2, w3, w4, w5, w6, w7, w8, w9, w10⟩ := w'
  obtain ⟨c1, c2, c3, c4, c5, c6, c7, c8, c9⟩ := c'
  have w61 := w6.1
  have is8 : ∀ hx, F_X9_isIn N p.toInt64 1 8 hx = some (if 1 ≤ p ∧ p ≤ 8 then 1 else 0, hx) := fun hx => by
    rw [p_isIn, show (1 : Int64) = (1 : Int32).toInt64 by decide, show (8 : Int64) = (8 : Int32).toInt64 by decide]; simp only [i64_le]
  by_cases q : 1 ≤ p ∧ p ≤ 8
  · obtain ⟨j, hj, rfl⟩ : ∃ j, j < 9 ∧ p = nI j := nI_lt_p (by decide) (fun z => absurd (Int32.le_trans q.1 (Int32.le_of_lt z)) (by decide)) (Int32.lt_of_le_of_lt q.2 (by decide))
    have j1 : 1 ≤ j := by
      by_cases z : j = 0
      · rw [z] at q; exact absurd q.1 (by decide)
      · omega
    have n1 : ¬ nI j < 1 := by rw [show (1 : Int32) = nI 1 from rfl]; exact nI_nlt j1 (by omega)
    have n8 : nI j ≤ 8 := q.2
    by_cases q4 : tn + j ≤ 400
    · left
      have hex : ∀ i : Nat, ∃ g, (((x.toUInt64 >>> ((8 * nI i).toInt64.toUInt64 &&& Int64.toUInt64 63)).toInt64).toInt32) &&& 255 = nI g ∧ g < 256 := fun i => by
        obtain ⟨g, g1, g2⟩ := and255 (((x.toUInt64 >>> ((8 * nI i).toInt64.toUInt64 &&& Int64.toUInt64 63)).toInt64).toInt32)
        exact ⟨g, g2, g1⟩
      have hg : ∀ i, i < 8 → (((x.toUInt64 >>> ((8 * nI i).toInt64.toUInt64 &&& Int64.toUInt64 63)).toInt64).toInt32) &&& 255 = nI ((fun i => Classical.choose (hex i)) i) ∧ (fun i => Classical.choose (hex i)) i < 256 := fun i _ => Classical.choose_spec (hex i)
      generalize (fun i => Classical.choose (hex i)) = g at hg
      obtain ⟨h1, e1, f1, t1⟩ := fd_8 N hg j N tn tb h (by omega) (by omega) q4 c4
      have e8 : F_X8_feed N x (nI j) h = some (nI (tn + j), h1) := by
        unfold F_X8_feed F_X8_feed_51
        rw [if_neg n1, if_pos n8, c4.1, nI_add, if_pos (by rw [show (400 : Int32) = nI 400 from rfl]; exact nI_le q4 (by decide))]
        exact e1
      have tw : Twf 400 (tn + j) (fun k => if k < tn then tb k else g (tn + j - 1 - k)) := ⟨q4, fun k hk => by
        by_cases z : k < tn
        · show (if k < tn then tb k else g (tn + j - 1 - k)) < 256
          rw [if_pos z]; exact w6.2 k z
        · show (if k < tn then tb k else g (tn + j - 1 - k)) < 256
          rw [if_neg z]; exact (hg _ (by omega)).2⟩
      rw [e8]
      refine ⟨_, h1, ((n, E), (L, lp), (m, cr), (tn + j, fun k => if k < tn then tb k else g (tn + j - 1 - k)), (wn, wb), b, (cs, an, A), f), rfl, ⟨w1, w2, w3, w4, w5, tw, w7, w8, w9, w10⟩, ⟨c1.ag (f1.ag rfl), c2.ag (f1.ag rfl), c3.ag (f1.ag rfl), t1, c5.ag (f1.ag rfl), c6.ag (f1.ag rfl), c7.ag (f1.ag rfl), (f1.1 0 9 rfl).1.trans c8, (f1.1 0 10 rfl).1.trans c9⟩, rm.ag (f1.ag rfl), fun hq rcx rmx => ?_⟩
      have m' : RMx n E L lp m cr tn tb wn wb b an A cs f hq := rmx
      obtain ⟨m1, m2, m3, m4, m5, m6, m7, m8⟩ := m'
      have f2 : FL [(51,0,1)] hq (sI hq 51 0 0) := FL.i hq rfl
      obtain ⟨h2, e2, f3, t2⟩ := fd_9 N hg j N tn tb (sI hq 51 0 0) (by omega) (by omega) q4 (m4.ag (f2.ag rfl))
      have f23 : FL [(51,0,1),(51,15,16),(61,0,0)] hq h2 := FL.cat f2 f3 rfl rfl
      refine ⟨h2, ?_, by rw [(f3.1 51 0 rfl).1, gI_sI, if_pos rfl, if_pos rfl], rcx.ag (f23.ag rfl), ⟨m1.ag (f23.ag rfl), m2.ag (f23.ag rfl), m3.ag (f23.ag rfl), t2, m5.ag (f23.ag rfl), m6.ag (f23.ag rfl), (f23.1 51 23 rfl).1.trans m7, (f23.1 51 21 rfl).1.trans m8⟩⟩
      unfold F_X9_feed F_X9_feed_27 F_X9_feed_41
      rw [is8, if_pos q, bnd2_p, m4.1, nI_add, if_neg (by rw [show (400 : Int32) = nI 400 from rfl]; exact nI_nlt q4 (by decide)), p_may, bnd2_p]
      simp +decide only [if_false, if_true]
      exact e2
    · right
      refine ⟨3, 2, h, ?_, List.mem_cons_of_mem _ (List.mem_singleton.mpr rfl), rc, rm, fun hx rcx rmx => ⟨0, sI hx 51 0 2, ?_, told_by rcx rmx⟩⟩
      · unfold F_X8_feed_T
        rw [if_neg n1, if_pos n8, c4.1, nI_add, if_neg (by rw [show (400 : Int32) = nI 400 from rfl]; exact nI_ge (by omega) (by omega))]
      · have m4 : Mtap tn tb hx := rmx.2.2.2.1
        unfold F_X9_feed F_X9_feed_27
        rw [is8, if_pos q, bnd2_p, m4.1, nI_add, if_pos (by rw [show (400 : Int32) = nI 400 from rfl]; exact nI_lt (by omega) (by omega)), p_may, bnd2_p]
        simp +decide only [if_false, if_true, true_or, or_true]
  · right
    refine ⟨2, 1, h, ?_, List.mem_cons_self, rc, rm, fun hx rcx rmx => ⟨0, sI hx 51 0 1, ?_, told_by rcx rmx⟩⟩
    · unfold F_X8_feed_T F_X8_feed_T_11
      by_cases z : p < 1
      · rw [if_pos z]
      · rw [if_neg z, if_neg (fun y => q ⟨Int32.not_lt.mp z, y⟩)]
    · unfold F_X9_feed F_X9_feed_27
      rw [is8, if_neg q, bnd2_p]
      have e : ∀ s : Int32, (bnd2 (F_X9_may N 0 s 1 hx) fun r1 h2 => if r1 = 0 then some ((0 : Int32), h2) else F_X9_feed_41 N x (p - 1) h2) = some (0, sI hx 51 0 1) := fun s => by
        rw [p_may, bnd2_p]
        simp +decide only [if_true, true_or]
      rw [e, e]
      exact ite_same rfl rfl
