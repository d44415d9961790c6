/-! READ: the class takes a token; the whole reader -/
def CR (S : Sp) (h : xHp) : Prop := CM S.2.2.1 h ∧ CD S.2.2.2 h ∧ gI h 44 6 = nI S.1 ∧ (1 ≤ S.1 → S.1 ≤ 5 → gI h 44 7 = nI S.2.1.1 ∧ gI h 44 8 = nI S.2.1.2.1 ∧ gI h 44 10 = b32 S.2.1.2.2.2) ∧ (S.1 = 4 ∨ S.1 = 5 → gI h 44 9 = nI S.2.1.2.2.1)
def LRd : Lc := [(44,3,11),(45,0,0),(37,3,4),(37,6,7),(38,0,0),(39,0,0),(40,0,0),(42,0,0)]
theorem CR.mk' {st x y r an : Nat} {ng : Bool} {W cs : List Nat} {A : Ed} {h : xHp} (a : CM W h) (b : CD (cs, an, A) h) (c : gI h 44 6 = nI st) (d : 1 ≤ st → st ≤ 5 → gI h 44 7 = nI x ∧ gI h 44 8 = nI y ∧ gI h 44 10 = b32 ng) (e : st = 4 ∨ st = 5 → gI h 44 9 = nI r) : CR (st, (x, y, r, ng), W, cs, an, A) h := ⟨a, b, c, d, e⟩
theorem c_putMark (N : Nat) {w : Nat} {W : List Nat} {h : xHp} (hl : W.length < 64) (h3 : gI h 44 3 = nI W.length) (s : StkG 45 mk W h) (h4 : gI h 44 4 = nI (opW (w :: W))) (h5 : gI h 44 5 = nI (brW (w :: W))) : ∃ h', F_X3_putMark N (nI (mk w)) h = some ((), h') ∧ FL [(44,3,4),(44,6,7),(45,0,0)] h h' ∧ CM (w :: W) h' ∧ gI h' 44 6 = 0 := by
  unfold F_X3_putMark F_X3_putMark_32
  have f1 : FL [(45,0,0)] h (sI h 45 W.length (nI (mk w))) := FL.i h rfl
  rw [h3, if_neg (by rw [show (64 : Int32) = nI 64 from rfl]; exact nI_ge hl (by decide)), grd_t (xin_nI hl (by decide)), nI_cl (by omega), bnd_eq, (f1.1 44 3 rfl).1, h3, nI_1, bnd_eq, bnd_eq]
  have f2 : FL [(44,3,4),(44,6,7)] (sI h 45 W.length (nI (mk w))) (sI (sI (sI h 45 W.length (nI (mk w))) 44 3 (nI (W.length + 1))) 44 6 0) := (FL.i _ rfl).trans (FL.i _ rfl)
  have f12 : FL [(44,3,4),(44,6,7),(45,0,0)] h (sI (sI (sI h 45 W.length (nI (mk w))) 44 3 (nI (W.length + 1))) 44 6 0) := FL.cat f1 f2 rfl rfl
  refine ⟨_, rfl, f12, ⟨by simp +decide only [gI_sI, if_false, if_true]; rfl, s.push.ag (f2.ag rfl), (f12.1 44 4 rfl).1.trans h4, (f12.1 44 5 rfl).1.trans h5⟩, by simp +decide only [gI_sI, if_false, if_true]⟩
theorem c_open (N : Nat) {w : Nat} {W : List Nat} {h : xHp} (h0 : w = 1 ∨ w = 2 ∨ w = 5) (hl : W.length < 64) (ho : opW W ≤ 20) (m : CM W h) : (opW W < 20 ∧ ∃ h', F_X3_openMark N (nI (mk w)) h = some (0, h') ∧ FL [(44,3,7),(45,0,0)] h h' ∧ CM (w :: W) h' ∧ gI h' 44 6 = 0) ∨ (¬ opW W < 20 ∧ F_X3_openMark N (nI (mk w)) h = some (4, h)) := by
  unfold F_X3_openMark F_X3_openMark_37
  rw [m.2.2.1, show (20 : Int32) = nI 20 from rfl]
  by_cases q : opW W < 20
  · left
    have op : opW (w :: W) = opW W + 1 := by show opW W + (if w = 3 ∨ w = 4 then 0 else 1) = _; rw [if_neg (by omega)]
    have f1 : FL [(44,4,5)] h (sI h 44 4 (nI (opW W + 1))) := FL.i h rfl
    rw [if_pos (nI_lt q (by decide)), nI_1, bnd_eq, show (40 : Int32) = nI (mk 1) from rfl]
    simp only [mk_inj (show 1 ≤ w ∧ w ≤ 5 by omega) (show 1 ≤ 1 ∧ 1 ≤ 5 by decide)]
    by_cases q1 : w = 1
    · rw [if_pos q1, (f1.1 44 5 rfl).1, m.2.2.2, nI_1, bnd_eq]
      have f2 : FL [(44,4,6)] h (sI (sI h 44 4 (nI (opW W + 1))) 44 5 (nI (brW W + 1))) := (FL.i h rfl).trans (FL.i _ rfl)
      obtain ⟨h', e', f', m', s'⟩ := c_putMark N (w := w) hl ((f2.1 44 3 rfl).1.trans m.1) (m.2.1.ag (f2.ag rfl)) (by rw [op]; simp +decide only [gI_sI, if_false, if_true]) (by rw [show brW (w :: W) = brW W + 1 by show brW W + (if w = 1 then 1 else 0) = _; rw [if_pos q1]]; simp +decide only [gI_sI, if_false, if_true])
      rw [e', bnd2_p]
      exact ⟨q, h', rfl, FL.cat f2 f' rfl rfl, m', s'⟩
    · rw [if_neg q1]
      obtain ⟨h', e', f', m', s'⟩ := c_putMark N (w := w) hl ((f1.1 44 3 rfl).1.trans m.1) (m.2.1.ag (f1.ag rfl)) (by rw [op]; simp +decide only [gI_sI, if_false, if_true]) (by rw [show brW (w :: W) = brW W by show brW W + (if w = 1 then 1 else 0) = _; rw [if_neg q1]; rfl, (f1.1 44 5 rfl).1]; exact m.2.2.2)
      rw [e', bnd2_p]
      exact ⟨q, h', rfl, FL.cat f1 f' rfl rfl, m', s'⟩
  · right
    rw [if_neg (nI_nlt (by omega) (by omega))]
    exact ⟨q, rfl⟩
theorem popTo_len {m : Nat} : ∀ (W cs : List Nat), (popTo m W cs).1.length ≤ W.length := by
  intro W
  induction W with
  | nil => intro cs; exact Nat.le_refl _
  | cons w W ih =>
    intro cs
    unfold popTo
    by_cases q : 1 < w ∧ w ≤ m
    · rw [if_pos q]; exact Nat.le_succ_of_le (ih _)
    · rw [if_neg q]; exact Nat.le_refl _
def LEm : Lc := [(44,3,7),(37,6,7),(42,0,0)]
theorem c_close (N : Nat) (hN : 300 ≤ N) {an : Nat} {W cs : List Nat} {A : Ed} {h : xHp} (hw : wfW W) (h2 : tp W ≠ 2) (h3 : tp W ≠ 3) (hl : W.length ≤ 63) (hc : cs.length + W.length ≤ 239) (m : CM W h) (d : CD (cs, an, A) h) : (brW W = 0 ∧ F_X3_closeBracket N h = some (2, h)) ∨ (¬ brW W = 0 ∧ ∃ h', F_X3_closeBracket N h = some (0, h') ∧ FL LEm h h' ∧ CM (popTo 3 (popTo 5 W cs).1.tail (popTo 5 W cs).2).1 h' ∧ CD ((popTo 3 (popTo 5 W cs).1.tail (popTo 5 W cs).2).2, an, A) h' ∧ gI h' 44 6 = 6) := by
  have lw : brW W ≤ W.length := by
    clear hw h2 h3 hl hc m d
    induction W with
    | nil => exact Nat.le_refl 0
    | cons w W ih =>
      show brW W + (if w = 1 then 1 else 0) ≤ W.length + 1
      by_cases q : w = 1
      · rw [if_pos q]; omega
      · rw [if_neg q]; omega
  unfold F_X3_closeBracket
  rw [m.2.2.2]
  by_cases q : brW W = 0
  · left
    rw [if_pos (by rw [q]; rfl)]
    exact ⟨q, rfl⟩
  · right
    rw [if_neg (nI_ne0 (by omega) (by omega))]
    obtain ⟨h1, e1, f1, m1, d1⟩ := c_endFormula N hN hw h2 h3 hl hc m d
    obtain ⟨b1, b2, b3, b4, b5, b6, _, _⟩ := popTo_ok (an := an) (m := 5) W cs hw
    rw [e1, bnd2_p]
    have bl := popTo_len (m := 5) W cs
    generalize (popTo 5 W cs).1 = V at m1 b1 b2 b3 b4 b5 b6 bl ⊢
    generalize (popTo 5 W cs).2 = ds at d1 b3 ⊢
    cases V with
    | nil => exact absurd b6.symm q
    | cons w V =>
      have w1 : w = 1 := by have := wfW_w b1; have : w ≤ 1 ∨ 5 < w := b2; omega
      subst w1
      have ln : (1 :: V).length = V.length + 1 := rfl
      have g5 : gI h1 44 5 - 1 = nI (brW V) := by
        rw [m1.2.2.2]; show nI (brW V + 1) - nI 1 = _; rw [pk_sub (by omega)]; rfl
      have f2 : FL [(44,5,6)] h1 (sI h1 44 5 (nI (brW V))) := FL.i h1 rfl
      have g4 : gI (sI h1 44 5 (nI (brW V))) 44 4 - 1 = nI (opW V) := by
        rw [(f2.1 44 4 rfl).1, m1.2.2.1]; show nI (opW V + 1) - nI 1 = _; rw [pk_sub (by omega)]; rfl
      have f3 : FL [(44,4,6)] h1 (sI (sI h1 44 5 (nI (brW V))) 44 4 (nI (opW V))) := (FL.i h1 rfl).trans (FL.i _ rfl)
      have b63 : (1 :: V).length ≤ 64 := by omega
      rw [g5, bnd_eq, g4, bnd_eq, show (40 : Int32) = nI (mk 1) from rfl, c_drop N b1 b63 (by decide) ((f3.1 44 3 rfl).1.trans m1.1) (m1.2.1.ag (f3.ag rfl)), if_pos (show tp (1 :: V) = 1 from rfl), bnd2_p]
      have f4 : FL [(44,3,6)] h1 (sI (sI (sI h1 44 5 (nI (brW V))) 44 4 (nI (opW V))) 44 3 (nI ((1 :: V).length - 1))) := (FL.i h1 rfl).trans ((FL.i _ rfl).trans (FL.i _ rfl))
      have m4 : CM V (sI (sI (sI h1 44 5 (nI (brW V))) 44 4 (nI (opW V))) 44 3 (nI ((1 :: V).length - 1))) := ⟨by rw [gI_sI, if_pos rfl, if_pos rfl]; rfl, m1.2.1.2.ag (f4.ag rfl), by simp +decide only [gI_sI, if_false, if_true], by simp +decide only [gI_sI, if_false, if_true]⟩
      obtain ⟨h5, e5, f5, m5, d5, s5⟩ := c_endUnit N hN b1.2 (show V.length ≤ 63 by omega) (show ds.length + V.length ≤ 239 by omega) m4 (d1.ag (f4.ag rfl))
      rw [e5, bnd2_p]
      exact ⟨q, h5, rfl, FL.cat f1 (FL.cat f4 f5 rfl rfl : FL LEm h1 h5) rfl rfl, m5, d5, s5⟩
theorem eqk {a c : Nat} (ha : a < 263) (hc : c < 263) : (nI a = nI c) ↔ a = c := nI_eq (by omega) (by omega)
theorem mkI {st x y r an : Nat} {ng : Bool} {W cs : List Nat} {A : Ed} {h : xHp} (c : CR (st, (x, y, r, ng), W, cs, an, A) h) : CM W h ∧ CD (cs, an, A) h ∧ gI h 44 6 = nI st ∧ (1 ≤ st → st ≤ 5 → gI h 44 7 = nI x ∧ gI h 44 8 = nI y ∧ gI h 44 10 = b32 ng) ∧ (st = 4 ∨ st = 5 → gI h 44 9 = nI r) := c
theorem c_take (N : Nat) (hN : 300 ≤ N) {t k v : Nat} {S : Sp} {h : xHp} (iv : Iv t S) (ht : t ≤ 100) (hk : k < 263) (hv : k = 260 → v ≤ 1000000) (cr : CR S h) (hn : k = 259 ∨ k = 260 → gI h 46 4 = nI v) : ∃ h', F_X3_take N (nI k) h = some (nI (stp k v S).1, h') ∧ FL LRd h h' ∧ ((stp k v S).1 = 0 → CR (stp k v S).2 h') := by
  obtain ⟨st, ⟨x, y, r, ng⟩, W, cs, an, A⟩ := S
  obtain ⟨h1, h2, h3, h4, h5, h6, h7, h8, h9, h10⟩ := iv
  dsimp only at h1 h2 h3 h4 h5 h6 h7 h8 h9 h10
  obtain ⟨m, d, cs6, c7, c9⟩ := mkI cr
  have lw := len_W h2
  have lw2 : W.length ≤ 62 := by
    have : (if tp W = 3 then 2 else if tp W = 4 then 1 else 0) ≤ 2 := by
      by_cases z : tp W = 3
      · rw [if_pos z]; omega
      · rw [if_neg z]
        by_cases z2 : tp W = 4
        · rw [if_pos z2]; omega
        · rw [if_neg z2]; omega
    omega
  have e6 : ∀ j : Nat, j < 10 → ((nI st = nI j) ↔ st = j) := fun j hj => nI_eq (by omega) (by omega)
  have f44 : ∀ (hx : xHp) (j : Nat) (u : Int32), 5 < j → j < 11 → FL [(44,6,11)] hx (sI hx 44 j u) := fun hx j u a b => FL.i hx (inL_iff.mpr ⟨(44, 6, 11), List.mem_singleton.mpr rfl, rfl, (show 6 ≤ j by omega), Or.inr b⟩)
  unfold F_X3_take F_X3_take_68 F_X3_take_74 stp
  rw [cs6, show (262 : Int32) = nI 262 from rfl, show (0 : Int32) = nI 0 from rfl, show (1 : Int32) = nI 1 from rfl, show (2 : Int32) = nI 2 from rfl, show (3 : Int32) = nI 3 from rfl, show (4 : Int32) = nI 4 from rfl, show (5 : Int32) = nI 5 from rfl, show (6 : Int32) = nI 6 from rfl]
  simp only [eqk hk (show 262 < 263 by decide), e6 0 (by decide), e6 1 (by decide), e6 2 (by decide), e6 3 (by decide), e6 4 (by decide), e6 5 (by decide), e6 6 (by decide)]
  by_cases q262 : k = 262
  · rw [if_pos q262, if_pos q262]
    exact ⟨h, rfl, Fr.rf, fun z => absurd z (show ¬ (1 : Nat) = 0 by decide)⟩
  · rw [if_neg q262, if_neg q262]
    have no : ∀ (c : Nat), ¬ c = 0 → ∃ h', some (nI c, h) = some (nI ((c, (st, (x, y, r, ng), W, cs, an, A)) : Nat × Sp).1, h') ∧ FL LRd h h' ∧ (((c, (st, (x, y, r, ng), W, cs, an, A)) : Nat × Sp).1 = 0 → CR ((c, (st, (x, y, r, ng), W, cs, an, A)) : Nat × Sp).2 h') := fun c hc => ⟨h, rfl, Fr.rf, fun z => absurd z hc⟩
    by_cases s0 : st = 0
    · subst s0
      rw [if_pos rfl, if_pos rfl]
      unfold F_X3_takeUnit F_X3_takeUnit_47
      rw [show (259 : Int32) = nI 259 from rfl, show (40 : Int32) = nI 40 from rfl, show (126 : Int32) = nI 126 from rfl]
      simp only [eqk hk (show 259 < 263 by decide), eqk hk (show 40 < 263 by decide), eqk hk (show 126 < 263 by decide)]
      by_cases k1 : k = 259
      · rw [if_pos k1, if_pos k1, hn (Or.inl k1)]
        simp only [bnd_eq]
        have fr : FL [(44,6,11)] h (sI (sI (sI (sI h 44 7 (nI v)) 44 8 (nI 0)) 44 10 (nI 0)) 44 6 (nI 1)) := ((f44 _ _ _ (by decide) (by decide)).trans (f44 _ _ _ (by decide) (by decide))).trans ((f44 _ _ _ (by decide) (by decide)).trans (f44 _ _ _ (by decide) (by decide)))
        rw [bnd2_p]
        refine ⟨_, rfl, FL.sub fr rfl, fun _ => CR.mk' (m.ag (fr.ag rfl)) (d.ag (fr.ag rfl)) (by rw [gI_sI, if_pos rfl, if_pos rfl]; rfl) (fun _ _ => ⟨?_, ?_, ?_⟩) (fun z => absurd z (by decide))⟩
        · simp +decide only [gI_sI, if_false, if_true]
        · simp +decide only [gI_sI, if_false, if_true]
        · simp +decide only [gI_sI, if_false, if_true]
      · rw [if_neg k1, if_neg k1]
        have opn : ∀ w, (w = 1 ∨ w = 2) → nI k = nI (mk w) → (if k = 40 then 1 else 2) = w → ∃ h', (bnd2 (bnd2 (F_X3_openMark N (nI k) h) fun r1 h2 => some (r1, h2)) fun r2 h3 => some (r2, h3)) = some (nI ((if opW W < 20 then (0, (0, (x, y, r, ng), (if k = 40 then 1 else 2) :: W, cs, an, A)) else (4, (0, (x, y, r, ng), W, cs, an, A))) : Nat × Sp).1, h') ∧ FL LRd h h' ∧ (((if opW W < 20 then (0, (0, (x, y, r, ng), (if k = 40 then 1 else 2) :: W, cs, an, A)) else (4, (0, (x, y, r, ng), W, cs, an, A))) : Nat × Sp).1 = 0 → CR ((if opW W < 20 then (0, (0, (x, y, r, ng), (if k = 40 then 1 else 2) :: W, cs, an, A)) else (4, (0, (x, y, r, ng), W, cs, an, A))) : Nat × Sp).2 h') := by
          intro w hw ek ew
          rw [ek, ew]
          rcases c_open N (w := w) (by omega) (show W.length < 64 by omega) h3 m with ⟨b1, h', b2, b3, b4, b5⟩ | ⟨b1, b2⟩
          · rw [if_pos b1, b2, bnd2_p, bnd2_p]
            exact ⟨h', rfl, FL.sub b3 rfl, fun _ => CR.mk' b4 (d.ag (b3.ag rfl)) b5 (fun z => absurd z (by decide)) (fun z => absurd z (by decide))⟩
          · rw [if_neg b1, b2, bnd2_p, bnd2_p]
            exact no 4 (by decide)
        by_cases k2 : k = 40
        · rw [if_pos k2, if_pos (Or.inl k2)]
          exact opn 1 (Or.inl rfl) (by rw [k2]; rfl) (if_pos k2)
        · rw [if_neg k2]
          by_cases k3 : k = 126
          · rw [if_pos k3, if_pos (Or.inr k3)]
            exact opn 2 (Or.inr rfl) (by rw [k3]; rfl) (if_neg k2)
          · rw [if_neg k3, if_neg (by omega), bnd2_p]
            exact no 2 (by decide)
    · rw [if_neg s0, if_neg s0]
      by_cases s2 : st = 2
      · subst s2
        rw [if_neg (by decide), if_pos rfl, if_pos rfl]
        unfold F_X3_takeDifference
        rw [cs6, if_pos (show nI 2 = 2 from rfl), show (259 : Int32) = nI 259 from rfl]
        simp only [eqk hk (show 259 < 263 by decide)]
        obtain ⟨a1, a2, a3⟩ := c7 (by decide) (by decide)
        by_cases k1 : k = 259
        · rw [if_pos k1, if_pos k1, hn (Or.inl k1), bnd_eq, bnd_eq, bnd2_p]
          have fr : FL [(44,6,11)] h (sI (sI h 44 8 (nI v)) 44 6 3) := (f44 _ _ _ (by decide) (by decide)).trans (f44 _ _ _ (by decide) (by decide))
          refine ⟨_, rfl, FL.sub fr rfl, fun _ => CR.mk' (m.ag (fr.ag rfl)) (d.ag (fr.ag rfl)) (by rw [gI_sI, if_pos rfl, if_pos rfl]; rfl) (fun _ _ => ⟨?_, ?_, ?_⟩) (fun z => absurd z (by decide))⟩
          · simp +decide only [gI_sI, if_false, if_true]; exact a1
          · simp +decide only [gI_sI, if_false, if_true]
          · simp +decide only [gI_sI, if_false, if_true]; exact a3
        · rw [if_neg k1, if_neg k1, bnd2_p]
          exact no 2 (by decide)
      · rw [if_neg s2, if_neg s2]
        by_cases s45 : st = 4 ∨ st = 5
        · have n1 : ¬ st = 1 := by omega
          have n3 : ¬ st = 3 := by omega
          obtain ⟨a1, a2, a3⟩ := c7 (by omega) (by omega)
          have a4 := c9 s45
          have jump : ∀ X Y Z : Option (Int32 × xHp), (if st = 1 then X else if st = 3 then X else if st = 4 then Y else if st = 5 then Y else Z) = Y := by
            intro X Y Z
            rw [if_neg n1, if_neg n3]
            by_cases z : st = 4
            · rw [if_pos z]
            · rw [if_neg z, if_pos (by omega)]
          rw [jump, if_pos s45]
          unfold F_X3_takeInt F_X3_takeInt_26 F_X3_takeInt_76
          rw [cs6, a3, a4, a2, a1, show (45 : Int32) = nI 45 from rfl, show (260 : Int32) = nI 260 from rfl, show (4 : Int32) = nI 4 from rfl]
          simp only [eqk hk (show 45 < 263 by decide), eqk hk (show 260 < 263 by decide), e6 4 (by decide)]
          have num : ∃ h', (bnd2 (if k = 260 then (if b32 ng = 0 then bnd2 (F_X1_emitComparison_37 N (nI x) (nI y) (nI r) (gI h 46 4) h) fun r1 h2 => if r1 = 0 then some (3, h2) else bnd2 (F_X3_endUnit N h2) fun r3 h4 => some (0, h4) else bnd2 (F_X1_emitComparison_37 N (nI x) (nI y) (nI r) (-(gI h 46 4)) h) fun r1 h2 => if r1 = 0 then some (3, h2) else bnd2 (F_X3_endUnit N h2) fun r3 h4 => some (0, h4)) else some (2, h)) fun r1 h2 => some (r1, h2)) = some (nI ((if k = 260 then ((cmpS (cs, an, A) r x y (if ng = true then -(v : Int) else v)).elim (3, (st, (x, y, r, ng), W, cs, an, A)) fun C => (0, (6, (x, y, r, ng), (popTo 3 W C.1).1, (popTo 3 W C.1).2, C.2))) else (2, (st, (x, y, r, ng), W, cs, an, A))) : Nat × Sp).1, h') ∧ FL LRd h h' ∧ (((if k = 260 then ((cmpS (cs, an, A) r x y (if ng = true then -(v : Int) else v)).elim (3, (st, (x, y, r, ng), W, cs, an, A)) fun C => (0, (6, (x, y, r, ng), (popTo 3 W C.1).1, (popTo 3 W C.1).2, C.2))) else (2, (st, (x, y, r, ng), W, cs, an, A))) : Nat × Sp).1 = 0 → CR ((if k = 260 then ((cmpS (cs, an, A) r x y (if ng = true then -(v : Int) else v)).elim (3, (st, (x, y, r, ng), W, cs, an, A)) fun C => (0, (6, (x, y, r, ng), (popTo 3 W C.1).1, (popTo 3 W C.1).2, C.2))) else (2, (st, (x, y, r, ng), W, cs, an, A))) : Nat × Sp).2 h') := by
            by_cases k2 : k = 260
            · rw [if_pos k2, if_pos k2, hn (Or.inr k2)]
              have vv := hv k2
              have U0 : dU st = 0 := by rcases s45 with z | z <;> rw [z] <;> rfl
              have D0 : 2 ≤ dS st := by rcases s45 with z | z <;> rw [z] <;> decide
              rw [U0] at h7
              have go : ∀ c : Int32, c.toInt = (if ng = true then -(v : Int) else (v : Int)) → ∃ h', (bnd2 (bnd2 (F_X1_emitComparison_37 N (nI x) (nI y) (nI r) c h) fun r1 h2 => if r1 = 0 then some (3, h2) else bnd2 (F_X3_endUnit N h2) fun r3 h4 => some (0, h4)) fun r1 h2 => some (r1, h2)) = some (nI (((cmpS (cs, an, A) r x y (if ng = true then -(v : Int) else v)).elim (3, (st, (x, y, r, ng), W, cs, an, A)) fun C => (0, (6, (x, y, r, ng), (popTo 3 W C.1).1, (popTo 3 W C.1).2, C.2))) : Nat × Sp).1, h') ∧ FL LRd h h' ∧ ((((cmpS (cs, an, A) r x y (if ng = true then -(v : Int) else v)).elim (3, (st, (x, y, r, ng), W, cs, an, A)) fun C => (0, (6, (x, y, r, ng), (popTo 3 W C.1).1, (popTo 3 W C.1).2, C.2))) : Nat × Sp).1 = 0 → CR (((cmpS (cs, an, A) r x y (if ng = true then -(v : Int) else v)).elim (3, (st, (x, y, r, ng), W, cs, an, A)) fun C => (0, (6, (x, y, r, ng), (popTo 3 W C.1).1, (popTo 3 W C.1).2, C.2))) : Nat × Sp).2 h') := by
                intro c hc
                have rg : -1000000 ≤ c.toInt ∧ c.toInt ≤ 1000000 := by
                  rw [hc]
                  by_cases z : ng = true
                  · rw [if_pos z]; omega
                  · rw [if_neg z]; omega
                have l7 : cs.length + 7 ≤ 240 := by omega
                rw [← hc]
                rcases c_cmp N hN h7 (by omega) l7 (h10 s45) h8 h9 rg.1 rg.2 d with ⟨C', h1', e1, e2, f1, d1⟩ | ⟨h1', e1, e2, f1⟩
                · obtain ⟨k1, l1⟩ := cmpS_ok h7 (by omega) h8 h9 rg.1 rg.2 e1
                  have l1' : C'.1.length ≤ cs.length + 7 := l1
                  obtain ⟨ds, B⟩ := C'
                  obtain ⟨h2', e3, f2, m2, d2, s2'⟩ := c_endUnit N hN (cs := ds) (an := B.1) (A := B.2) h2 (show W.length ≤ 63 by omega) (show ds.length + W.length ≤ 239 by have : ds.length ≤ cs.length + 7 := l1'; omega) (m.ag (f1.ag rfl)) d1
                  rw [e1, e2, bnd2_p, if_neg (show ¬ (1 : Int32) = 0 by decide), e3, bnd2_p, bnd2_p]
                  exact ⟨h2', rfl, FL.cat f1 f2 rfl rfl, fun _ => CR.mk' m2 d2 s2' (fun _ z => absurd z (by decide)) (fun z => absurd z (by decide))⟩
                · rw [e1, e2, bnd2_p, if_pos rfl, bnd2_p]
                  exact ⟨h1', rfl, FL.sub f1 rfl, fun z => absurd z (show ¬ (3 : Nat) = 0 by decide)⟩
              cases ng with
              | false =>
                rw [if_pos (show b32 false = 0 from rfl)]
                exact go (nI v) (by rw [if_neg (by decide)]; exact nI_toInt (by omega))
              | true =>
                rw [if_neg (show ¬ b32 true = 0 by decide)]
                exact go (-(nI v)) (by rw [if_pos rfl]; exact negI_toInt vv)
            · rw [if_neg k2, if_neg k2, bnd2_p]
              exact no 2 (by decide)
          by_cases k1 : k = 45
          · rw [if_pos k1]
            by_cases s4 : st = 4
            · rw [if_pos s4, if_pos ⟨k1, s4⟩, bnd_eq, bnd_eq, bnd2_p]
              have fr : FL [(44,6,11)] h (sI (sI h 44 10 1) 44 6 5) := (f44 _ _ _ (by decide) (by decide)).trans (f44 _ _ _ (by decide) (by decide))
              refine ⟨_, rfl, FL.sub fr rfl, fun _ => CR.mk' (m.ag (fr.ag rfl)) (d.ag (fr.ag rfl)) (by rw [gI_sI, if_pos rfl, if_pos rfl]; rfl) (fun _ _ => ⟨?_, ?_, ?_⟩) (fun _ => ?_)⟩
              · simp +decide only [gI_sI, if_false, if_true]; exact a1
              · simp +decide only [gI_sI, if_false, if_true]; exact a2
              · simp +decide only [gI_sI, if_false, if_true, b32]
              · simp +decide only [gI_sI, if_false, if_true]; exact a4
            · rw [if_neg s4, if_neg (show ¬ (k = 45 ∧ st = 4) from fun z => s4 z.2)]
              exact num
          · rw [if_neg k1, if_neg (show ¬ (k = 45 ∧ st = 4) from fun z => k1 z.1)]
            exact num
        · rw [if_neg s45]
          by_cases s6 : st = 6
          · subst s6
            simp +decide only [if_false, if_true]
            obtain ⟨t2, t3⟩ := h4 rfl
            have D0 : dS 6 = 0 := rfl
            have lc : cs.length + W.length ≤ 239 := by omega
            unfold F_X3_takeJoint
            rw [show (38 : Int32) = nI 38 from rfl, show (41 : Int32) = nI 41 from rfl, show (124 : Int32) = nI 124 from rfl, show (258 : Int32) = nI 258 from rfl]
            simp only [eqk hk (show 38 < 263 by decide), eqk hk (show 41 < 263 by decide), eqk hk (show 124 < 263 by decide), eqk hk (show 258 < 263 by decide)]
            by_cases k1 : k = 38
            · obtain ⟨h', b2, b3, b4, b5⟩ := c_putMark N (w := 3) (show W.length < 64 by omega) m.1 m.2.1 m.2.2.1 m.2.2.2
              rw [if_pos k1, if_pos k1, show nI 38 = nI (mk 3) from rfl, b2, bnd2_p, bnd2_p]
              exact ⟨h', rfl, FL.sub b3 rfl, fun _ => CR.mk' b4 (d.ag (b3.ag rfl)) b5 (fun z => absurd z (by decide)) (fun z => absurd z (by decide))⟩
            · rw [if_neg k1, if_neg k1]
              obtain ⟨h1', e1, f1, m1, d1⟩ := c_either N h2 (show W.length ≤ 64 by omega) (show cs.length < 240 by omega) m d
              have pl := pop1_len (w0 := 4) (W := W) (cs := cs) (by decide)
              obtain ⟨_, _, _, p4, _, _, _, _⟩ := popTo_ok (an := an) (m := 4) W cs h2
              rw [popTo4 h2 t2 t3] at p4
              rw [popTo4 h2 t2 t3]
              by_cases k2 : k = 124
              · obtain ⟨h', b2, b3, b4, b5⟩ := c_putMark N (w := 4) (show (pop1 4 W cs).1.length < 64 by omega) m1.1 m1.2.1 m1.2.2.1 m1.2.2.2
                rw [if_neg (by omega), if_pos k2, if_pos k2, e1, bnd2_p, show nI 124 = nI (mk 4) from rfl, b2, bnd2_p, bnd2_p]
                exact ⟨h', rfl, FL.cat f1 b3 rfl rfl, fun _ => CR.mk' b4 (d1.ag (b3.ag rfl)) b5 (fun z => absurd z (by decide)) (fun z => absurd z (by decide))⟩
              · rw [if_neg k2, if_neg k2]
                by_cases k3 : k = 258
                · rw [if_neg (by omega), if_pos k3, if_pos k3, e1, bnd2_p, show nI 258 = nI (mk 5) from rfl]
                  rcases c_open N (w := 5) (by decide) (show (pop1 4 W cs).1.length < 64 by omega) (by omega) m1 with ⟨b1, h', b2, b3, b4, b5⟩ | ⟨b1, b2⟩
                  · rw [if_pos b1, b2, bnd2_p, bnd2_p]
                    exact ⟨h', rfl, FL.cat f1 b3 rfl rfl, fun _ => CR.mk' b4 (d1.ag (b3.ag rfl)) b5 (fun z => absurd z (by decide)) (fun z => absurd z (by decide))⟩
                  · rw [if_neg b1, b2, bnd2_p, bnd2_p]
                    exact ⟨h1', rfl, FL.sub f1 rfl, fun z => absurd z (show ¬ (4 : Nat) = 0 by decide)⟩
                · rw [if_neg k3, if_neg k3]
                  by_cases k4 : k = 41
                  · rw [if_pos k4, if_pos k4]
                    rcases c_close N hN h2 t2 t3 (show W.length ≤ 63 by omega) lc m d with ⟨b1, b2⟩ | ⟨b1, h', b2, b3, b4, b5, b6⟩
                    · rw [if_pos b1, b2, bnd2_p, bnd2_p]
                      exact no 2 (by decide)
                    · rw [if_neg b1, b2, bnd2_p, bnd2_p]
                      exact ⟨h', rfl, FL.sub b3 rfl, fun _ => CR.mk' b4 b5 b6 (fun _ z => absurd z (by decide)) (fun z => absurd z (by decide))⟩
                  · rw [if_neg k4, if_neg k4, bnd2_p]
                    exact no 2 (by decide)
          · rw [if_neg s6, if_neg s6]
            have s13 : st = 1 ∨ st = 3 := by omega
            obtain ⟨a1, a2, a3⟩ := c7 (by omega) (by omega)
            have jump : ∀ X Y Z : Option (Int32 × xHp), (if st = 1 then X else if st = 3 then X else if st = 4 then Y else if st = 5 then Y else Z) = X := by
              intro X Y Z
              rcases s13 with z | z
              · rw [if_pos z]
              · rw [if_neg (by omega), if_pos z]
            rw [jump]
            unfold F_X3_takeDifference F_X3_takeDifference_56 F_X3_isRelation F_X3_isRelation_38
            rw [cs6, show (2 : Int32) = nI 2 from rfl, show (1 : Int32) = nI 1 from rfl, show (45 : Int32) = nI 45 from rfl, show (256 : Int32) = nI 256 from rfl, show (60 : Int32) = nI 60 from rfl, show (257 : Int32) = nI 257 from rfl, show (62 : Int32) = nI 62 from rfl, show (61 : Int32) = nI 61 from rfl, show (35 : Int32) = nI 35 from rfl]
            simp only [e6 2 (by decide), e6 1 (by decide), eqk hk (show 45 < 263 by decide), eqk hk (show 256 < 263 by decide), eqk hk (show 60 < 263 by decide), eqk hk (show 257 < 263 by decide), eqk hk (show 62 < 263 by decide), eqk hk (show 61 < 263 by decide), eqk hk (show 35 < 263 by decide)]
            have rel : (if k = 256 then some (nI 1, h) else if k = 60 then some (nI 1, h) else if k = 257 then some (nI 1, h) else if k = 62 then some (nI 1, h) else if k = 61 then some (nI 1, h) else if k = 35 then some (nI 1, h) else some (0, h)) = if isRel k then some ((1 : Int32), h) else some (0, h) := by
              unfold isRel
              by_cases z1 : k = 256
              · rw [if_pos z1, if_pos (by omega)]; rfl
              · by_cases z2 : k = 60
                · rw [if_neg z1, if_pos z2, if_pos (by omega)]; rfl
                · by_cases z3 : k = 257
                  · rw [if_neg z1, if_neg z2, if_pos z3, if_pos (by omega)]; rfl
                  · by_cases z4 : k = 62
                    · rw [if_neg z1, if_neg z2, if_neg z3, if_pos z4, if_pos (by omega)]; rfl
                    · by_cases z5 : k = 61
                      · rw [if_neg z1, if_neg z2, if_neg z3, if_neg z4, if_pos z5, if_pos (by omega)]; rfl
                      · by_cases z6 : k = 35
                        · rw [if_neg z1, if_neg z2, if_neg z3, if_neg z4, if_neg z5, if_pos z6, if_pos (by omega)]; rfl
                        · rw [if_neg z1, if_neg z2, if_neg z3, if_neg z4, if_neg z5, if_neg z6, if_neg (by omega)]
            rw [rel, if_neg s2]
            have fin : ∃ h', (bnd2 (bnd2 (if isRel k then some ((1 : Int32), h) else some (0, h)) fun r1 h2 => if r1 = 0 then some (nI 2, h2) else bnd (sI h2 44 9 (nI k)) fun h3 => bnd (sI h3 44 6 4) fun h4 => some (0, h4)) fun r1 h2 => some (r1, h2)) = some (nI ((if isRel k then (0, (4, (x, y, k, ng), W, cs, an, A)) else (2, (st, (x, y, r, ng), W, cs, an, A))) : Nat × Sp).1, h') ∧ FL LRd h h' ∧ (((if isRel k then (0, (4, (x, y, k, ng), W, cs, an, A)) else (2, (st, (x, y, r, ng), W, cs, an, A))) : Nat × Sp).1 = 0 → CR ((if isRel k then (0, (4, (x, y, k, ng), W, cs, an, A)) else (2, (st, (x, y, r, ng), W, cs, an, A))) : Nat × Sp).2 h') := by
              by_cases k2 : isRel k
              · rw [if_pos k2, if_pos k2, bnd2_p, if_neg (by decide), bnd_eq, bnd_eq, bnd2_p]
                have fr : FL [(44,6,11)] h (sI (sI h 44 9 (nI k)) 44 6 4) := (f44 _ _ _ (by decide) (by decide)).trans (f44 _ _ _ (by decide) (by decide))
                refine ⟨_, rfl, FL.sub fr rfl, fun _ => CR.mk' (m.ag (fr.ag rfl)) (d.ag (fr.ag rfl)) (by rw [gI_sI, if_pos rfl, if_pos rfl]; rfl) (fun _ _ => ⟨?_, ?_, ?_⟩) (fun _ => ?_)⟩
                · simp +decide only [gI_sI, if_false, if_true]; exact a1
                · simp +decide only [gI_sI, if_false, if_true]; exact a2
                · simp +decide only [gI_sI, if_false, if_true]; exact a3
                · simp +decide only [gI_sI, if_false, if_true]
              · rw [if_neg k2, if_neg k2, bnd2_p, if_pos rfl, bnd2_p]
                exact no 2 (by decide)
            by_cases k1 : k = 45
            · rw [if_pos k1]
              by_cases s1 : st = 1
              · rw [if_pos s1, if_pos ⟨k1, s1⟩, bnd_eq, bnd2_p]
                have fr : FL [(44,6,11)] h (sI h 44 6 (nI 2)) := f44 _ _ _ (by decide) (by decide)
                refine ⟨_, rfl, FL.sub fr rfl, fun _ => CR.mk' (m.ag (fr.ag rfl)) (d.ag (fr.ag rfl)) (by rw [gI_sI, if_pos rfl, if_pos rfl]) (fun _ _ => ⟨?_, ?_, ?_⟩) (fun z => absurd z (by decide))⟩
                · simp +decide only [gI_sI, if_false, if_true]; exact a1
                · simp +decide only [gI_sI, if_false, if_true]; exact a2
                · simp +decide only [gI_sI, if_false, if_true]; exact a3
              · rw [if_neg s1, if_neg (show ¬ (k = 45 ∧ st = 1) from fun z => s1 z.2)]
                exact fin
            · rw [if_neg k1, if_neg (show ¬ (k = 45 ∧ st = 1) from fun z => k1 z.1)]
              exact fin
