/-! READ: the class's atoms and comparisons -/
theorem sub1_toInt {c : Int32} (h1 : -1000001 ≤ c.toInt) (h2 : c.toInt ≤ 1000001) : (c - 1).toInt = c.toInt - 1 := by
  rw [Int32.toInt_sub, show ((1 : Int32)).toInt = 1 by decide]
  exact Int.bmod_eq_of_le (by omega) (by omega)
theorem negI_toInt {v : Nat} (h : v ≤ 1000000) : (-(nI v)).toInt = -(v : Int) := by
  have e : (nI v).toInt = v := nI_toInt (by omega)
  rw [Int32.toInt_neg, e]
  exact Int.bmod_eq_of_le (by omega) (by omega)
def LNo : Lc := [(37,3,4),(38,0,0),(39,0,0),(40,0,0)]
theorem c_number (N : Nat) {an : Nat} {A : Ed} {q : Nat × Nat × Int} {c : Int32} {cs : List Nat} (han : an ≤ 10) (hA : Awf an A) (h1 : q.1 < 16) (h2 : q.2.1 < 16) (hc : c.toInt = q.2.2) : ∀ (z f k : Nat) (h : xHp), k ≤ an → an < z + k → an < f + k → CD (cs, an, A) h →
    (fndA A q an f k < an ∧ xit (F_X1_numberOf_37_3_b N) (fun _ _ _ _ _ => none) z (nI q.1) (nI q.2.1) c (nI k) h = some (nI (fndA A q an f k), h)) ∨
    (¬ fndA A q an f k < an ∧ an < 10 ∧ ∃ h', xit (F_X1_numberOf_37_3_b N) (fun _ _ _ _ _ => none) z (nI q.1) (nI q.2.1) c (nI k) h = some (nI an, h') ∧ FL LNo h h' ∧ CD (cs, an + 1, upE A an q) h') ∨
    (¬ fndA A q an f k < an ∧ ¬ an < 10 ∧ xit (F_X1_numberOf_37_3_b N) (fun _ _ _ _ _ => none) z (nI q.1) (nI q.2.1) c (nI k) h = some (-1, h)) := by
  intro z
  induction z with
  | zero => intro f k h hk h3; omega
  | succ z ih =>
    intro f k h hk h3 h4 d
    obtain ⟨f, rfl⟩ : ∃ f', f = f' + 1 := ⟨f - 1, by omega⟩
    have d' := d
    obtain ⟨d1, d2, d3, d4⟩ := d'
    dsimp only at d1 d2 d3 d4
    show (_ ∧ F_X1_numberOf_37_3_b N (xit (F_X1_numberOf_37_3_b N) (fun _ _ _ _ _ => none) z) (nI q.1) (nI q.2.1) c (nI k) h = _) ∨ (_ ∧ _ ∧ ∃ h', F_X1_numberOf_37_3_b N (xit (F_X1_numberOf_37_3_b N) (fun _ _ _ _ _ => none) z) (nI q.1) (nI q.2.1) c (nI k) h = _ ∧ _) ∨ (_ ∧ _ ∧ F_X1_numberOf_37_3_b N (xit (F_X1_numberOf_37_3_b N) (fun _ _ _ _ _ => none) z) (nI q.1) (nI q.2.1) c (nI k) h = _)
    generalize xit (F_X1_numberOf_37_3_b N) (fun _ _ _ _ _ => none) z = K at ih ⊢
    unfold F_X1_numberOf_37_3_b F_X1_numberOf_37_48
    rw [d1]
    by_cases q0 : k = an
    · subst q0
      have fe : fndA A q k (f + 1) k = k := by unfold fndA; rw [if_neg (by omega)]
      rw [fe, if_pos (nI_le (Nat.le_refl k) (by omega))]
      by_cases q1 : k < 10
      · right; left
        have i10 : xin (nI k) 10 = true := xin_nI q1 (by decide)
        have kc : (nI k).toNatClampNeg = k := nI_cl (by omega)
        have g1 : gI (sI h 38 k (nI q.1)) 37 3 = nI k := by simp +decide only [gI_sI, if_false]; exact d1
        have g2 : gI (sI (sI h 38 k (nI q.1)) 39 k (nI q.2.1)) 37 3 = nI k := by simp +decide only [gI_sI, if_false]; exact d1
        have g3 : gI (sI (sI (sI h 38 k (nI q.1)) 39 k (nI q.2.1)) 40 k c) 37 3 = nI k := by simp +decide only [gI_sI, if_false]; exact d1
        have g4 : gI (sI (sI (sI (sI h 38 k (nI q.1)) 39 k (nI q.2.1)) 40 k c) 37 3 (nI (k + 1))) 37 3 - 1 = nI k := by
          rw [gI_sI, if_pos rfl, if_pos rfl, show (1 : Int32) = nI 1 from rfl, pk_sub (by omega)]; rfl
        rw [if_pos (by rw [show (10 : Int32) = nI 10 from rfl]; exact nI_lt q1 (by decide))]
        simp only [grd_t i10, kc, bnd_eq, g1, g2, g3, nI_1, g4]
        have fr : FL LNo h (sI (sI (sI (sI h 38 k (nI q.1)) 39 k (nI q.2.1)) 40 k c) 37 3 (nI (k + 1))) := ((FL.i h rfl).trans (FL.i _ rfl)).trans ((FL.i _ rfl).trans (FL.i _ rfl))
        refine ⟨by omega, q1, _, rfl, fr, by rw [gI_sI, if_pos rfl, if_pos rfl], fun j hj => ?_, (fr.1 37 6 rfl).1.trans d3, d4.ag (fr.ag rfl)⟩
        have hj' : j < k + 1 := hj
        by_cases qj : j = k
        · subst qj
          show gI _ 38 j = nI (upE A j q j).1 ∧ gI _ 39 j = nI (upE A j q j).2.1 ∧ (gI _ 40 j).toInt = (upE A j q j).2.2
          rw [upE_eq]
          simp +decide only [gI_sI, if_false, if_true]
          exact ⟨trivial, trivial, hc⟩
        · show gI _ 38 j = nI (upE A k q j).1 ∧ gI _ 39 j = nI (upE A k q j).2.1 ∧ (gI _ 40 j).toInt = (upE A k q j).2.2
          rw [upE_ne qj]
          simp +decide only [gI_sI, if_false, if_true, if_neg qj]
          exact d2 j (by omega)
      · right; right
        rw [if_neg (by rw [show (10 : Int32) = nI 10 from rfl]; exact nI_nlt (by omega) (by omega))]
        exact ⟨by omega, q1, rfl⟩
    · have hk' : k < an := by omega
      have i10 : xin (nI k) 10 = true := xin_nI (by omega) (by decide)
      have kc : (nI k).toNatClampNeg = k := nI_cl (by omega)
      obtain ⟨a1, a2, a3⟩ := d2 k hk'
      obtain ⟨w1, w2, w3, w4⟩ := hA k hk'
      have e1 : (nI (A k).1 = nI q.1) ↔ (A k).1 = q.1 := nI_eq (by omega) (by omega)
      have e2 : (nI (A k).2.1 = nI q.2.1) ↔ (A k).2.1 = q.2.1 := nI_eq (by omega) (by omega)
      have e3 : (gI h 40 k = c) ↔ (A k).2.2 = q.2.2 := by rw [← Int32.toInt_inj, a3, hc]
      rw [if_neg (nI_ge hk' (by omega)), grd_t i10, grd_t i10, grd_t i10, kc, a1, a2]
      simp only [e1, e2, e3]
      have same : A k = q ↔ (A k).1 = q.1 ∧ (A k).2.1 = q.2.1 ∧ (A k).2.2 = q.2.2 := by
        constructor
        · intro z; rw [z]; exact ⟨rfl, rfl, rfl⟩
        · intro z; exact Prod.ext z.1 (Prod.ext z.2.1 z.2.2)
      have more : ¬ A k = q → fndA A q an (f + 1) k = fndA A q an f (k + 1) := fun z => by
        show (if k < an ∧ A k ≠ q then fndA A q an f (k + 1) else k) = _
        rw [if_pos ⟨hk', z⟩]
      have nx := ih f (k + 1) h (by omega) (by omega) (by omega) d
      by_cases q1 : (A k).1 = q.1
      · rw [if_pos q1]
        by_cases q2 : (A k).2.1 = q.2.1
        · rw [if_pos q2]
          by_cases q3 : (A k).2.2 = q.2.2
          · rw [if_pos q3]
            have fe : fndA A q an (f + 1) k = k := by
              show (if k < an ∧ A k ≠ q then fndA A q an f (k + 1) else k) = _
              rw [if_neg (fun z => z.2 (same.mpr ⟨q1, q2, q3⟩))]
            left
            rw [fe]
            exact ⟨hk', rfl⟩
          · rw [if_neg q3, more (fun z => q3 (same.mp z).2.2), nI_1]; exact nx
        · rw [if_neg q2, more (fun z => q2 (same.mp z).2.1), nI_1]; exact nx
      · rw [if_neg q1, more (fun z => q1 (same.mp z).1), nI_1]; exact nx
def LDr : Lc := [(37,3,4),(37,6,7),(38,0,0),(39,0,0),(40,0,0),(42,0,0)]
theorem c_atM (N : Nat) (hN : 300 ≤ N) {x y : Nat} {c : Int32} {C : Cp} {h : xHp} (han : C.2.1 ≤ 10) (hA : Awf C.2.1 C.2.2) (hl : C.1.length + 2 ≤ 240) (hx : x < 16) (hy : y < 16) (h1 : -1000001 ≤ c.toInt) (h2 : c.toInt ≤ 1000000) (d : CD C h) : (∃ C' h', atM C x y c.toInt = some C' ∧ F_X1_emitAtMost_37 N (nI x) (nI y) c h = some (1, h') ∧ FL LDr h h' ∧ CD C' h') ∨ (∃ h', atM C x y c.toInt = none ∧ F_X1_emitAtMost_37 N (nI x) (nI y) c h = some (0, h') ∧ FL LDr h h') := by
  obtain ⟨cs, an, A⟩ := C
  dsimp only at han hA hl d
  unfold F_X1_emitAtMost_37 F_X1_emitAtMost_37_18 F_X1_emitAtMost_37_48 F_X1_emitAtMost_37_75 atM
  dsimp only
  simp only [nI_eq (show x < 2 ^ 31 by omega) (show y < 2 ^ 31 by omega), nI_leI (show x < 2 ^ 31 by omega) (show y < 2 ^ 31 by omega), nI_leI (show y < 2 ^ 31 by omega) (show x < 2 ^ 31 by omega)]
  have ec : (c < 0) ↔ c.toInt < 0 := by rw [Int32.lt_iff_toInt_lt]; rfl
  simp only [ec]
  by_cases q0 : x = y
  · left
    rw [if_pos q0, if_pos q0]
    by_cases q1 : c.toInt < 0
    · obtain ⟨h', e', f', d'⟩ := c_emit N (c := 10) (by omega) d
      rw [if_pos q1, if_pos q1, show (10 : Int32) = nI 10 from rfl, e', bnd2_p]
      exact ⟨_, h', rfl, rfl, FL.sub f' rfl, d'⟩
    · obtain ⟨h', e', f', d'⟩ := c_emit N (c := 11) (by omega) d
      rw [if_neg q1, if_neg q1, show (11 : Int32) = nI 11 from rfl, e', bnd2_p]
      exact ⟨_, h', rfl, rfl, FL.sub f' rfl, d'⟩
  · rw [if_neg q0, if_neg q0]
    -- the number, then its code
    have tail : ∀ (k am : Nat) (B : Ed) (h1 : xHp), k < 2 ^ 31 → CD (cs, am, B) h1 → ∃ h', (if nI k = -1 then some (0, h1) else bnd2 (F_X1_emit_37 N (nI k) h1) fun r1 h2 => if x ≤ y then some ((1 : Int32), h2) else bnd2 (F_X1_emit_37 N 12 h2) fun r3 h4 => some (1, h4)) = some (1, h') ∧ FL LDr h1 h' ∧ CD (cs ++ k :: (if x < y then [] else [12]), am, B) h' := by
      intro k am B h1 hk dd
      obtain ⟨h2, e2, f2, d2⟩ := c_emit N (c := k) (by omega) dd
      rw [if_neg (nI_neg1 hk), e2, bnd2_p]
      by_cases q : x < y
      · rw [if_pos (by omega), if_pos q]
        exact ⟨h2, rfl, FL.sub f2 rfl, d2⟩
      · obtain ⟨h3, e3, f3, d3⟩ := c_emit N (c := 12) (by rw [List.length_append]; show cs.length + 1 < 240; omega) d2
        rw [if_neg (by omega), if_neg q, show (12 : Int32) = nI 12 from rfl, e3, bnd2_p]
        rw [List.append_assoc] at d3
        exact ⟨h3, rfl, FL.cat f2 f3 rfl rfl, d3⟩
    have main : ∀ (q : Nat × Nat × Int) (c' : Int32), q.1 < 16 → q.2.1 < 16 → c'.toInt = q.2.2 → (∃ C' h', (if fndA A q an 11 0 < an then some (cs ++ fndA A q an 11 0 :: (if x < y then [] else [12]), an, A) else if an < 10 then some (cs ++ an :: (if x < y then [] else [12]), an + 1, upE A an q) else none) = some C' ∧ (bnd2 (F_X1_numberOf_37 N (nI q.1) (nI q.2.1) c' h) fun s0 h => if s0 = -1 then some (0, h) else bnd2 (F_X1_emit_37 N s0 h) fun r1 h2 => if x ≤ y then some ((1 : Int32), h2) else bnd2 (F_X1_emit_37 N 12 h2) fun r3 h4 => some (1, h4)) = some (1, h') ∧ FL LDr h h' ∧ CD C' h') ∨ (∃ h', (if fndA A q an 11 0 < an then some (cs ++ fndA A q an 11 0 :: (if x < y then [] else [12]), an, A) else if an < 10 then some (cs ++ an :: (if x < y then [] else [12]), an + 1, upE A an q) else none) = none ∧ (bnd2 (F_X1_numberOf_37 N (nI q.1) (nI q.2.1) c' h) fun s0 h => if s0 = -1 then some (0, h) else bnd2 (F_X1_emit_37 N s0 h) fun r1 h2 => if x ≤ y then some ((1 : Int32), h2) else bnd2 (F_X1_emit_37 N 12 h2) fun r3 h4 => some (1, h4)) = some (0, h') ∧ FL LDr h h') := by
      intro q c' a1 a2 a3
      unfold F_X1_numberOf_37 F_X1_numberOf_37_3
      rcases c_number N (cs := cs) han hA a1 a2 a3 N 11 0 h (by omega) (by omega) (by omega) d with ⟨b1, b2⟩ | ⟨b1, b2, h1, b3, b4, b5⟩ | ⟨b1, b2, b3⟩
      · left
        rw [if_pos b1, show (0 : Int32) = nI 0 from rfl, b2, bnd2_p]
        obtain ⟨h', e', f', d'⟩ := tail (fndA A q an 11 0) an A h (by omega) d
        exact ⟨_, h', rfl, e', f', d'⟩
      · left
        rw [if_neg b1, if_pos b2, show (0 : Int32) = nI 0 from rfl, b3, bnd2_p]
        obtain ⟨h', e', f', d'⟩ := tail an (an + 1) (upE A an q) h1 (by omega) b5
        exact ⟨_, h', rfl, e', FL.cat b4 f' rfl rfl, d'⟩
      · right
        rw [if_neg b1, if_neg b2, show (0 : Int32) = nI 0 from rfl, b3, bnd2_p, if_pos rfl]
        exact ⟨h, rfl, rfl, Fr.rf⟩
    unfold ordQ
    by_cases q : x < y
    · have m := main (x, y, c.toInt) c hx hy rfl
      simp only [if_pos q] at m ⊢
      rw [if_neg (show ¬ y ≤ x by omega)]
      exact m
    · have m := main (y, x, -c.toInt - 1) (-c - 1) hy hx (neg_toInt (by omega) (by omega))
      simp only [if_neg q] at m ⊢
      rw [if_pos (show y ≤ x by omega)]
      exact m
theorem c_cmp (N : Nat) (hN : 300 ≤ N) {D x y r : Nat} {c : Int32} {C : Cp} {h : xHp} (hC : Cok D C) (hD : D < 31) (hl : C.1.length + 7 ≤ 240) (hr : isRel r) (hx : x < 16) (hy : y < 16) (h1 : -1000000 ≤ c.toInt) (h2 : c.toInt ≤ 1000000) (d : CD C h) : (∃ C' h', cmpS C r x y c.toInt = some C' ∧ F_X1_emitComparison_37 N (nI x) (nI y) (nI r) c h = some (1, h') ∧ FL LDr h h' ∧ CD C' h') ∨ (∃ h', cmpS C r x y c.toInt = none ∧ F_X1_emitComparison_37 N (nI x) (nI y) (nI r) c h = some (0, h') ∧ FL LDr h h') := by
  have s1 : (c - 1).toInt = c.toInt - 1 := sub1_toInt (by omega) (by omega)
  have nots : ∀ (cs : List Nat) (B : Nat × Ed) (hx : xHp), cs.length < 240 → CD (cs, B) hx → ∃ h', (bnd2 (F_X1_emit_37 N 12 hx) fun r1 h2 => some ((1 : Int32), h2)) = some (1, h') ∧ FL LDr hx h' ∧ CD (cs ++ [12], B) h' := by
    intro cs B hx hl d
    obtain ⟨h', e', f', d'⟩ := c_emit N (c := 12) (A := B.2) (an := B.1) hl d
    rw [show (12 : Int32) = nI 12 from rfl, e', bnd2_p]
    exact ⟨h', rfl, FL.sub f' rfl, d'⟩
  unfold F_X1_emitComparison_37 F_X1_emitComparison_37_12 F_X1_emitComparison_37_17 F_X1_emitComparison_37_37 F_X1_emitComparison_37_50 F_X1_emitComparison_37_68 F_X1_emitComparison_37_83 F_X1_emitComparison_37_100 F_X1_emitComparison_37_119 F_X1_emitComparison_37_125 cmpS
  have ex : r = 61 ∨ r = 35 → (∃ C' h', ((atM C x y c.toInt).bind fun C1 => (atM C1 x y (c.toInt - 1)).bind fun C2 => some (C2.1 ++ (12 :: 13 :: (if r = 35 then [12] else [])), C2.2)) = some C' ∧ (bnd2 (F_X1_emitAtMost_37 N (nI x) (nI y) c h) fun r1 h2 => if r1 = 0 then some ((0 : Int32), h2) else bnd2 (F_X1_emitAtMost_37 N (nI x) (nI y) (c - 1) h2) fun r1 h2 => if r1 = 0 then some (0, h2) else bnd2 (F_X1_emit_37 N 12 h2) fun r1 h2 => bnd2 (F_X1_emit_37 N 13 h2) fun r3 h4 => if r = 35 then bnd2 (F_X1_emit_37 N 12 h4) fun r1 h2 => some (1, h2) else some (1, h4)) = some (1, h') ∧ FL LDr h h' ∧ CD C' h') ∨ (∃ h', ((atM C x y c.toInt).bind fun C1 => (atM C1 x y (c.toInt - 1)).bind fun C2 => some (C2.1 ++ (12 :: 13 :: (if r = 35 then [12] else [])), C2.2)) = none ∧ (bnd2 (F_X1_emitAtMost_37 N (nI x) (nI y) c h) fun r1 h2 => if r1 = 0 then some ((0 : Int32), h2) else bnd2 (F_X1_emitAtMost_37 N (nI x) (nI y) (c - 1) h2) fun r1 h2 => if r1 = 0 then some (0, h2) else bnd2 (F_X1_emit_37 N 12 h2) fun r1 h2 => bnd2 (F_X1_emit_37 N 13 h2) fun r3 h4 => if r = 35 then bnd2 (F_X1_emit_37 N 12 h4) fun r1 h2 => some (1, h2) else some (1, h4)) = some (0, h') ∧ FL LDr h h') := by
    intro hr2
    rcases c_atM N hN (c := c) hC.1 hC.2.1 (by omega) hx hy (by omega) (by omega) d with ⟨C1, h1', e1, e2, f1, d1⟩ | ⟨h1', e1, e2, f1⟩
    · obtain ⟨k1, l1⟩ := atM_ok hC (by omega) hx hy (by omega) (by omega) e1
      rw [e1, Option.bind_some, e2, bnd2_p, if_neg (show ¬ (1 : Int32) = 0 by decide)]
      rcases c_atM N hN (c := c - 1) k1.1 k1.2.1 (by omega) hx hy (by omega) (by omega) d1 with ⟨C2, h2', e3, e4, f2, d2⟩ | ⟨h2', e3, e4, f2⟩
      · rw [s1] at e3
        obtain ⟨k2, l2⟩ := atM_ok k1 (by omega) hx hy (by omega) (by omega) e3
        rw [e3, Option.bind_some, e4, bnd2_p, if_neg (show ¬ (1 : Int32) = 0 by decide)]
        left
        obtain ⟨cs2, an2, A2⟩ := C2
        obtain ⟨h3, e5, f3, d3⟩ := c_emit N (c := 12) (by show cs2.length < 240; have : cs2.length ≤ C1.1.length + 2 := l2; omega) d2
        obtain ⟨h4, e6, f4, d4⟩ := c_emit N (c := 13) (by rw [List.length_append]; show cs2.length + 1 < 240; have : cs2.length ≤ C1.1.length + 2 := l2; omega) d3
        rw [show (12 : Int32) = nI 12 from rfl, show (13 : Int32) = nI 13 from rfl, e5, bnd2_p, e6, bnd2_p]
        have f14 : FL LDr h h4 := FL.cat (FL.cat f1 f2 rfl rfl : FL LDr h h2') (FL.cat f3 f4 rfl rfl : FL LDr h2' h4) rfl rfl
        have ap : ∀ l : List Nat, cs2 ++ 12 :: 13 :: l = (cs2 ++ [12] ++ [13]) ++ l := fun l => by rw [List.append_assoc, List.append_assoc]; rfl
        by_cases q : r = 35
        · rw [if_pos q, if_pos q]
          obtain ⟨h5, e7, f5, d5⟩ := nots (cs2 ++ [12] ++ [13]) (an2, A2) h4 (by simp only [List.length_append, List.length_cons, List.length_nil]; have : cs2.length ≤ C1.1.length + 2 := l2; omega) d4
          refine ⟨_, h5, rfl, e7, f14.trans f5, ?_⟩
          show CD (cs2 ++ 12 :: 13 :: [12], an2, A2) h5
          rw [ap]; exact d5
        · rw [if_neg q, if_neg q]
          refine ⟨_, h4, rfl, rfl, f14, ?_⟩
          show CD (cs2 ++ 12 :: 13 :: [], an2, A2) h4
          rw [ap, List.append_nil]; exact d4
      · rw [s1] at e3
        rw [e3, e4, bnd2_p, if_pos rfl]
        right
        exact ⟨h2', rfl, rfl, FL.cat f1 f2 rfl rfl⟩
    · right
      rw [e1, e2, bnd2_p, if_pos rfl]
      exact ⟨h1', rfl, rfl, f1⟩
  have inx : ∀ (c' : Int32), -1000001 ≤ c'.toInt → c'.toInt ≤ 1000000 → (∃ C' h', ((atM C x y c'.toInt).bind fun C1 => some (C1.1 ++ (if r = 62 ∨ r = 257 then [12] else []), C1.2)) = some C' ∧ (bnd2 (F_X1_emitAtMost_37 N (nI x) (nI y) c' h) fun r1 h2 => if r1 = 0 then some ((0 : Int32), h2) else if r = 62 ∨ r = 257 then bnd2 (F_X1_emit_37 N 12 h2) fun r1 h2 => some (1, h2) else some (1, h2)) = some (1, h') ∧ FL LDr h h' ∧ CD C' h') ∨ (∃ h', ((atM C x y c'.toInt).bind fun C1 => some (C1.1 ++ (if r = 62 ∨ r = 257 then [12] else []), C1.2)) = none ∧ (bnd2 (F_X1_emitAtMost_37 N (nI x) (nI y) c' h) fun r1 h2 => if r1 = 0 then some ((0 : Int32), h2) else if r = 62 ∨ r = 257 then bnd2 (F_X1_emit_37 N 12 h2) fun r1 h2 => some (1, h2) else some (1, h2)) = some (0, h') ∧ FL LDr h h') := by
    intro c' b1 b2
    rcases c_atM N hN hC.1 hC.2.1 (by omega) hx hy b1 b2 d with ⟨C1, h1', e1, e2, f1, d1⟩ | ⟨h1', e1, e2, f1⟩
    · obtain ⟨k1, l1⟩ := atM_ok hC (by omega) hx hy b1 b2 e1
      left
      rw [e1, Option.bind_some, e2, bnd2_p, if_neg (show ¬ (1 : Int32) = 0 by decide)]
      by_cases q : r = 62 ∨ r = 257
      · rw [if_pos q, if_pos q]
        obtain ⟨h5, e7, f5, d5⟩ := nots C1.1 C1.2 h1' (by omega) d1
        exact ⟨_, h5, rfl, e7, f1.trans f5, d5⟩
      · rw [if_neg q, if_neg q, List.append_nil]
        exact ⟨_, h1', rfl, rfl, f1, d1⟩
    · right
      rw [e1, e2, bnd2_p, if_pos rfl]
      exact ⟨h1', rfl, rfl, f1⟩
  have i0 := inx c (by omega) (by omega)
  have i1 := inx (c - 1) (by omega) (by omega)
  rw [s1] at i1
  rcases hr with rfl | rfl | rfl | rfl | rfl | rfl
  · simp +decide only [if_false, if_true] at i0 ⊢; exact i0
  · simp +decide only [if_false, if_true] at i1 ⊢; exact i1
  · simp +decide only [if_false, if_true] at i1 ⊢; exact i1
  · simp +decide only [if_false, if_true] at i0 ⊢; exact i0
  · have e := ex (Or.inl rfl); simp +decide only [if_false, if_true] at e ⊢; exact e
  · have e := ex (Or.inr rfl); simp +decide only [if_false, if_true] at e ⊢; exact e
