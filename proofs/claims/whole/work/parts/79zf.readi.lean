/-! READ: the reference's atoms, comparisons and waiting signs -/
def MSw (W : List Nat) (h : xHp) : Prop := gI h 51 37 = nI W.length ∧ StkG 70 id W h ∧ gI h 51 38 = nI (opW W)
def MSc (C : Cp) (h : xHp) : Prop := gI h 51 30 = nI C.2.1 ∧ AtmG 66 67 68 C.2.1 C.2.2 h ∧ gI h 51 34 = nI C.1.length ∧ SeqG 69 mcd C.1 h
def DMSw : Lc := [(51,37,39),(70,0,0)]
def DMSc : Lc := [(51,30,31),(51,34,35),(66,0,0),(67,0,0),(68,0,0),(69,0,0)]
theorem MSw.ag {W : List Nat} {h h' : xHp} (a : Ag DMSw h h') (r : MSw W h) : MSw W h' := ⟨(a 51 37 rfl).trans r.1, r.2.1.ag (a.sub rfl), (a 51 38 rfl).trans r.2.2⟩
theorem MSc.ag {C : Cp} {h h' : xHp} (a : Ag DMSc h h') (r : MSc C h) : MSc C h' := ⟨(a 51 30 rfl).trans r.1, r.2.1.ag (a.sub rfl), (a 51 34 rfl).trans r.2.2.1, r.2.2.2.ag (a.sub rfl)⟩
theorem m_putc (N : Nat) {c an : Nat} {cs : List Nat} {A : Ed} {h : xHp} (hl : cs.length < 1000) (d : MSc (cs, an, A) h) : ∃ h', F_X9_put N (nI (mcd c)) h = some ((), h') ∧ FL [(51,34,35),(69,0,0)] h h' ∧ MSc (cs ++ [c], an, A) h' := by
  obtain ⟨d1, d2, d3, d4⟩ := d
  dsimp only at d1 d2 d3 d4
  unfold F_X9_put
  have f1 : FL [(69,0,0)] h (sI h 69 cs.length (nI (mcd c))) := FL.i h rfl
  rw [d3, grd_t (xin_nI hl (by decide)), nI_cl (by omega), bnd_eq, (f1.1 51 34 rfl).1, d3, nI_1, bnd_eq]
  have f2 : FL [(51,34,35)] (sI h 69 cs.length (nI (mcd c))) (sI (sI h 69 cs.length (nI (mcd c))) 51 34 (nI (cs.length + 1))) := FL.i _ rfl
  have f12 : FL [(51,34,35),(69,0,0)] h (sI (sI h 69 cs.length (nI (mcd c))) 51 34 (nI (cs.length + 1))) := FL.cat f1 f2 rfl rfl
  exact ⟨_, rfl, f12, (f12.1 51 30 rfl).1.trans d1, d2.ag (f12.ag rfl), by rw [gI_sI, if_pos rfl, if_pos rfl, List.length_append]; rfl, SeqG.ag (f2.ag rfl) (d4.snoc (d := c))⟩
def F3 (h : xHp) : Prop := gI h 51 21 = 0 ∨ (gI h 51 21 = 3 ∧ gI h 51 22 = gI h 51 18)
theorem F3.fr {L : Lc} {h h' : xHp} (f : FL L h h') (d : djL [(51,18,19),(51,21,23)] L = true) (r : F3 h) : F3 h' := by
  have a := f.ag d
  rcases r with q | ⟨q1, q2⟩
  · exact Or.inl ((a 51 21 rfl).trans q)
  · exact Or.inr ⟨(a 51 21 rfl).trans q1, by rw [a 51 22 rfl, a 51 18 rfl]; exact q2⟩
theorem m_fail3 (N : Nat) {h : xHp} (r : F3 h) : ∃ h', F_X9_fail N 3 h = some ((), h') ∧ FL [(51,21,23)] h h' ∧ gI h' 51 21 = 3 ∧ gI h' 51 22 = gI h' 51 18 := by
  rcases r with q | ⟨q1, q2⟩
  · rw [m_fail0 N q]
    exact ⟨_, rfl, (FL.i h rfl).trans (FL.i _ rfl), by simp +decide only [gI_sI, if_false, if_true], by simp +decide only [gI_sI, if_false, if_true]⟩
  · unfold F_X9_fail
    rw [q1, if_neg (by decide), if_pos q2.symm, if_pos (by decide)]
    exact ⟨h, rfl, Fr.rf, q1, q2⟩
theorem m_number (N : Nat) {an : Nat} {A : Ed} {q : Nat × Nat × Int} {c tu : Int32} {cs : List Nat} {h : xHp} (han : an ≤ 10) (hA : Awf an A) (h1 : q.1 < 16) (h2 : q.2.1 < 16) (hc : c.toInt = q.2.2) (d : MSc (cs, an, A) h) : ∀ (z f k : Nat), k ≤ an → an < z + k → an < f + k → xit (F_X9_atMost_75_b N) (fun _ _ _ _ _ _ => none) z tu (nI q.1) (nI q.2.1) c (nI k) h = F_X9_atMost_126 N tu (nI q.1) (nI q.2.1) c (nI (fndA A q an f k)) h := by
  obtain ⟨d1, d2, d3, d4⟩ := d
  dsimp only at d1 d2 d3 d4
  intro z
  induction z with
  | zero => intro f k hk h3; omega
  | succ z ih =>
    intro f k hk h3 h4
    obtain ⟨f, rfl⟩ : ∃ f', f = f' + 1 := ⟨f - 1, by omega⟩
    show F_X9_atMost_75_b N (xit (F_X9_atMost_75_b N) (fun _ _ _ _ _ _ => none) z) tu (nI q.1) (nI q.2.1) c (nI k) h = _
    generalize xit (F_X9_atMost_75_b N) (fun _ _ _ _ _ _ => none) z = K at ih ⊢
    unfold F_X9_atMost_75_b F_X9_atMost_120
    rw [d1]
    by_cases q0 : k = an
    · subst q0
      have fe : fndA A q k (f + 1) k = k := by unfold fndA; rw [if_neg (by omega)]
      rw [fe, if_pos (nI_le (Nat.le_refl k) (by omega))]
    · have hk' : k < an := by omega
      have i12 : xin (nI k) 12 = true := xin_nI (by omega) (by decide)
      have kc : (nI k).toNatClampNeg = k := nI_cl (by omega)
      obtain ⟨a1, a2, a3⟩ := d2 k hk'
      obtain ⟨w1, w2, w3, w4⟩ := hA k hk'
      have e1 : (nI (A k).1 = nI q.1) ↔ (A k).1 = q.1 := nI_eq (by omega) (by omega)
      have e2 : (nI (A k).2.1 = nI q.2.1) ↔ (A k).2.1 = q.2.1 := nI_eq (by omega) (by omega)
      have e3 : (gI h 68 k = c) ↔ (A k).2.2 = q.2.2 := by rw [← Int32.toInt_inj, a3, hc]
      rw [if_neg (nI_ge hk' (by omega)), grd_t i12, grd_t i12, grd_t i12, kc, a1, a2]
      simp only [e1, e2, e3]
      have same : A k = q ↔ (A k).1 = q.1 ∧ (A k).2.1 = q.2.1 ∧ (A k).2.2 = q.2.2 := by
        constructor
        · intro z; rw [z]; exact ⟨rfl, rfl, rfl⟩
        · intro z; exact Prod.ext z.1 (Prod.ext z.2.1 z.2.2)
      have more : ¬ A k = q → fndA A q an (f + 1) k = fndA A q an f (k + 1) := fun z => by
        show (if k < an ∧ A k ≠ q then fndA A q an f (k + 1) else k) = _
        rw [if_pos ⟨hk', z⟩]
      have nx := ih f (k + 1) (by omega) (by omega) (by omega)
      by_cases q1 : (A k).1 = q.1
      · rw [if_pos q1]
        by_cases q2 : (A k).2.1 = q.2.1
        · rw [if_pos q2]
          by_cases q3 : (A k).2.2 = q.2.2
          · rw [if_pos q3]
            have fe : fndA A q an (f + 1) k = k := by
              show (if k < an ∧ A k ≠ q then fndA A q an f (k + 1) else k) = _
              rw [if_neg (fun z => z.2 (same.mpr ⟨q1, q2, q3⟩))]
            rw [fe]
          · rw [if_neg q3, more (fun z => q3 (same.mp z).2.2), nI_1]; exact nx
        · rw [if_neg q2, more (fun z => q2 (same.mp z).2.1), nI_1]; exact nx
      · rw [if_neg q1, more (fun z => q1 (same.mp z).1), nI_1]; exact nx
def LAt : Lc := [(51,21,23),(51,30,31),(51,34,35),(66,0,0),(67,0,0),(68,0,0),(69,0,0)]
theorem mcd_lo {k : Nat} (h : k < 10) : mcd k = k := by unfold mcd; rw [if_pos h]
theorem m_atM (N : Nat) (hN : 300 ≤ N) {x y : Nat} {c : Int32} {C : Cp} {h : xHp} (han : C.2.1 ≤ 10) (hA : Awf C.2.1 C.2.2) (hl : C.1.length + 2 ≤ 1000) (hx : x < 16) (hy : y < 16) (h1 : -1000001 ≤ c.toInt) (h2 : c.toInt ≤ 1000000) (d : MSc C h) (r3 : F3 h) : (∃ C' h', atM C x y c.toInt = some C' ∧ F_X9_atMost N (nI x) (nI y) c h = some ((), h') ∧ FL LAt h h' ∧ MSc C' h' ∧ gI h' 51 21 = gI h 51 21 ∧ gI h' 51 22 = gI h 51 22) ∨ (∃ h', atM C x y c.toInt = none ∧ F_X9_atMost N (nI x) (nI y) c h = some ((), h') ∧ FL LAt h h' ∧ MSc C h' ∧ gI h' 51 21 = 3 ∧ gI h' 51 22 = gI h' 51 18) := by
  obtain ⟨cs, an, A⟩ := C
  dsimp only at han hA hl d
  unfold F_X9_atMost F_X9_atMost_17 F_X9_atMost_31 F_X9_atMost_43 F_X9_atMost_55 F_X9_atMost_70 F_X9_atMost_75 atM
  dsimp only
  simp only [nI_eq (show x < 2 ^ 31 by omega) (show y < 2 ^ 31 by omega), nI_leI (show x < 2 ^ 31 by omega) (show y < 2 ^ 31 by omega)]
  have ec : (c < 0) ↔ c.toInt < 0 := by rw [Int32.lt_iff_toInt_lt]; rfl
  simp only [ec]
  have ag2 : ∀ {hx : xHp}, FL [(51,34,35),(69,0,0)] h hx → gI hx 51 21 = gI h 51 21 ∧ gI hx 51 22 = gI h 51 22 := fun f => ⟨(f.1 51 21 rfl).1, (f.1 51 22 rfl).1⟩
  by_cases q0 : x = y
  · left
    rw [if_pos q0, if_pos q0]
    by_cases q1 : c.toInt < 0
    · obtain ⟨h', e', f', d'⟩ := m_putc N (c := 10) (by omega) d
      rw [if_pos q1, if_pos q1, show (20 : Int32) = nI (mcd 10) from rfl, e', bnd2_p]
      exact ⟨_, h', rfl, rfl, FL.sub f' rfl, d', ag2 f'⟩
    · obtain ⟨h', e', f', d'⟩ := m_putc N (c := 11) (by omega) d
      rw [if_neg q1, if_neg q1, show (21 : Int32) = nI (mcd 11) from rfl, e', bnd2_p]
      exact ⟨_, h', rfl, rfl, FL.sub f' rfl, d', ag2 f'⟩
  · rw [if_neg q0, if_neg q0]
    -- the number's step
    have tail : ∀ (k am : Nat) (B : Ed) (h1 : xHp) (tu : Int32), k < 10 → ((tu = 0) ↔ x < y) → MSc (cs, am, B) h1 → ∃ h', F_X9_atMost_185 N tu (nI k) h1 = some ((), h') ∧ FL [(51,34,35),(69,0,0)] h1 h' ∧ MSc (cs ++ k :: (if x < y then [] else [12]), am, B) h' := by
      intro k am B h1 tu hk ht dd
      obtain ⟨h2, e2, f2, d2⟩ := m_putc N (c := k) (by omega) dd
      rw [mcd_lo hk] at e2
      unfold F_X9_atMost_185
      rw [e2, bnd2_p]
      simp only [ht]
      by_cases q : x < y
      · rw [if_pos q, if_pos q]
        exact ⟨h2, rfl, f2, d2⟩
      · obtain ⟨h3, e3, f3, d3⟩ := m_putc N (c := 12) (by rw [List.length_append]; show cs.length + 1 < 1000; omega) d2
        rw [if_neg q, if_neg q, show (22 : Int32) = nI (mcd 12) from rfl, e3, bnd2_p]
        rw [List.append_assoc] at d3
        exact ⟨h3, rfl, f2.trans f3, d3⟩
    have main : ∀ (q : Nat × Nat × Int) (c' tu : Int32), q.1 < 16 → q.2.1 < 16 → c'.toInt = q.2.2 → ((tu = 0) ↔ x < y) → (∃ C' h', (if fndA A q an 11 0 < an then some (cs ++ fndA A q an 11 0 :: (if x < y then [] else [12]), an, A) else if an < 10 then some (cs ++ an :: (if x < y then [] else [12]), an + 1, upE A an q) else none) = some C' ∧ xit (F_X9_atMost_75_b N) (fun _ _ _ _ _ _ => none) N tu (nI q.1) (nI q.2.1) c' 0 h = some ((), h') ∧ FL LAt h h' ∧ MSc C' h' ∧ gI h' 51 21 = gI h 51 21 ∧ gI h' 51 22 = gI h 51 22) ∨ (∃ h', (if fndA A q an 11 0 < an then some (cs ++ fndA A q an 11 0 :: (if x < y then [] else [12]), an, A) else if an < 10 then some (cs ++ an :: (if x < y then [] else [12]), an + 1, upE A an q) else none) = none ∧ xit (F_X9_atMost_75_b N) (fun _ _ _ _ _ _ => none) N tu (nI q.1) (nI q.2.1) c' 0 h = some ((), h') ∧ FL LAt h h' ∧ MSc (cs, an, A) h' ∧ gI h' 51 21 = 3 ∧ gI h' 51 22 = gI h' 51 18) := by
      intro q c' tu a1 a2 a3 ht
      have nu := m_number N (tu := tu) han hA a1 a2 a3 d N 11 0 (by omega) (by omega) (by omega)
      rw [show xit (F_X9_atMost_75_b N) (fun _ _ _ _ _ _ => none) N tu (nI q.1) (nI q.2.1) c' 0 h = _ from nu]
      have fl := fndA_le (A := A) (q := q) (an := an) 11 0 (by omega)
      unfold F_X9_atMost_126
      have d' := d
      obtain ⟨d1, d2, d3, d4⟩ := d'
      dsimp only at d1 d2 d3 d4
      rw [d1]
      by_cases b1 : fndA A q an 11 0 < an
      · left
        rw [if_pos b1, if_neg (show ¬ nI (fndA A q an 11 0) = nI an by rw [nI_eq (by omega) (by omega)]; omega)]
        obtain ⟨h', e', f', d'⟩ := tail (fndA A q an 11 0) an A h tu (by omega) ht d
        exact ⟨_, h', rfl, e', FL.sub f' rfl, d', ag2 f'⟩
      · have fe : fndA A q an 11 0 = an := by omega
        rw [fe, if_neg (show ¬ an < an by omega), if_pos rfl, show (10 : Int32) = nI 10 from rfl]
        by_cases b2 : an < 10
        · left
          have i12 : xin (nI an) 12 = true := xin_nI (by omega) (by decide)
          have kc : (nI an).toNatClampNeg = an := nI_cl (by omega)
          have g3 : gI (sI (sI (sI h 66 an (nI q.1)) 67 an (nI q.2.1)) 68 an c') 51 30 = nI an := by simp +decide only [gI_sI, if_false]; exact d1
          rw [if_pos (nI_lt b2 (by decide)), if_pos b2]
          simp only [grd_t i12, kc, bnd_eq, g3, nI_1]
          have fr : FL [(51,30,31),(66,0,0),(67,0,0),(68,0,0)] h (sI (sI (sI (sI h 66 an (nI q.1)) 67 an (nI q.2.1)) 68 an c') 51 30 (nI (an + 1))) := ((FL.i h rfl).trans (FL.i _ rfl)).trans ((FL.i _ rfl).trans (FL.i _ rfl))
          have dn : MSc (cs, an + 1, upE A an q) (sI (sI (sI (sI h 66 an (nI q.1)) 67 an (nI q.2.1)) 68 an c') 51 30 (nI (an + 1))) := by
            refine ⟨by rw [gI_sI, if_pos rfl, if_pos rfl], fun j hj => ?_, (fr.1 51 34 rfl).1.trans d3, d4.ag (fr.ag rfl)⟩
            have hj' : j < an + 1 := hj
            by_cases qj : j = an
            · subst qj
              show gI _ 66 j = nI (upE A j q j).1 ∧ gI _ 67 j = nI (upE A j q j).2.1 ∧ (gI _ 68 j).toInt = (upE A j q j).2.2
              rw [upE_eq]
              simp +decide only [gI_sI, if_false, if_true]
              exact ⟨trivial, trivial, a3⟩
            · show gI _ 66 j = nI (upE A an q j).1 ∧ gI _ 67 j = nI (upE A an q j).2.1 ∧ (gI _ 68 j).toInt = (upE A an q j).2.2
              rw [upE_ne qj]
              simp +decide only [gI_sI, if_false, if_true, if_neg qj]
              exact d2 j (by omega)
          obtain ⟨h', e', f', d'⟩ := tail an (an + 1) (upE A an q) _ tu b2 ht dn
          have f2 : FL [(51,30,31),(51,34,35),(66,0,0),(67,0,0),(68,0,0),(69,0,0)] h h' := FL.cat fr f' rfl rfl
          exact ⟨_, h', rfl, e', FL.sub f2 rfl, d', (f2.1 51 21 rfl).1, (f2.1 51 22 rfl).1⟩
        · right
          obtain ⟨h', e', f', g1, g2⟩ := m_fail3 N r3
          rw [if_neg (nI_nlt (by omega) (by omega)), if_neg b2, e', bnd2_p]
          exact ⟨h', rfl, rfl, FL.sub f' rfl, d.ag (f'.ag rfl), g1, g2⟩
    unfold ordQ
    by_cases q : x < y
    · have m := main (x, y, c.toInt) c 0 hx hy rfl ⟨fun _ => q, fun _ => rfl⟩
      rw [if_pos (show x ≤ y by omega)]
      simp +decide only [if_pos q, if_true, if_false] at m ⊢
      exact m
    · have m := main (y, x, -c.toInt - 1) (-c - 1) 1 hy hx (neg_toInt (by omega) (by omega)) ⟨fun z => absurd z (by decide), fun z => absurd z q⟩
      rw [if_neg (show ¬ x ≤ y by omega)]
      simp +decide only [if_neg q, if_true, if_false] at m ⊢
      exact m
theorem m_cmp (N : Nat) (hN : 300 ≤ N) {D x y r : Nat} {c : Int32} {C : Cp} {h : xHp} (hC : Cok D C) (hD : D < 31) (hl : C.1.length + 14 ≤ 1000) (hr : isRel r) (hx : x < 16) (hy : y < 16) (h1 : -1000000 ≤ c.toInt) (h2 : c.toInt ≤ 1000000) (d : MSc C h) (r0 : gI h 51 21 = 0) : (∃ C' h', cmpS C r x y c.toInt = some C' ∧ F_X9_comparison N (nI (sg r)) (nI x) (nI y) c h = some ((), h') ∧ FL LAt h h' ∧ MSc C' h' ∧ gI h' 51 21 = 0) ∨ (∃ h', cmpS C r x y c.toInt = none ∧ F_X9_comparison N (nI (sg r)) (nI x) (nI y) c h = some ((), h') ∧ FL LAt h h' ∧ gI h' 51 21 = 3 ∧ gI h' 51 22 = gI h 51 18) := by
  have s1 : (c - 1).toInt = c.toInt - 1 := sub1_toInt (by omega) (by omega)
  -- steps behind an atom
  have puts : ∀ (l cs : List Nat) (B : Nat × Ed) (hx : xHp), l = [] ∨ l = [12] → cs.length < 1000 → MSc (cs, B) hx → ∃ h', (if l = [12] then bnd2 (F_X9_put N 22 hx) fun r1 h2 => some ((), h2) else some ((), hx)) = some ((), h') ∧ FL [(51,34,35),(69,0,0)] hx h' ∧ MSc (cs ++ l, B) h' := by
    intro l cs B hx hl' hc dd
    rcases hl' with rfl | rfl
    · rw [if_neg (by decide), List.append_nil]; exact ⟨hx, rfl, Fr.rf, dd⟩
    · obtain ⟨h', e', f', d'⟩ := m_putc N (c := 12) (A := B.2) (an := B.1) hc dd
      rw [if_pos rfl, show (22 : Int32) = nI (mcd 12) from rfl, e', bnd2_p]
      exact ⟨h', rfl, f', d'⟩
  have ex : ∀ l : List Nat, l = [] ∨ l = [12] → (∃ C' h', ((atM C x y c.toInt).bind fun C1 => (atM C1 x y (c.toInt - 1)).bind fun C2 => some (C2.1 ++ (12 :: 13 :: l), C2.2)) = some C' ∧ (bnd2 (F_X9_atMost N (nI x) (nI y) c h) fun r1 h2 => bnd2 (F_X9_atMost N (nI x) (nI y) (c - 1) h2) fun r3 h4 => bnd2 (F_X9_put N 22 h4) fun r5 h6 => bnd2 (F_X9_put N 23 h6) fun r7 h8 => if l = [12] then bnd2 (F_X9_put N 22 h8) fun r1 h2 => some ((), h2) else some ((), h8)) = some ((), h') ∧ FL LAt h h' ∧ MSc C' h' ∧ gI h' 51 21 = 0) ∨ (∃ h', ((atM C x y c.toInt).bind fun C1 => (atM C1 x y (c.toInt - 1)).bind fun C2 => some (C2.1 ++ (12 :: 13 :: l), C2.2)) = none ∧ (bnd2 (F_X9_atMost N (nI x) (nI y) c h) fun r1 h2 => bnd2 (F_X9_atMost N (nI x) (nI y) (c - 1) h2) fun r3 h4 => bnd2 (F_X9_put N 22 h4) fun r5 h6 => bnd2 (F_X9_put N 23 h6) fun r7 h8 => if l = [12] then bnd2 (F_X9_put N 22 h8) fun r1 h2 => some ((), h2) else some ((), h8)) = some ((), h') ∧ FL LAt h h' ∧ gI h' 51 21 = 3 ∧ gI h' 51 22 = gI h 51 18) := by
    intro l hl'
    have rest : ∀ (C2 : Cp) (h4 : xHp), C2.1.length + 3 ≤ 1000 → MSc C2 h4 → ∃ h', (bnd2 (F_X9_put N 22 h4) fun r5 h6 => bnd2 (F_X9_put N 23 h6) fun r7 h8 => if l = [12] then bnd2 (F_X9_put N 22 h8) fun r1 h2 => some ((), h2) else some ((), h8)) = some ((), h') ∧ FL [(51,34,35),(69,0,0)] h4 h' ∧ MSc (C2.1 ++ (12 :: 13 :: l), C2.2) h' := by
      intro C2 h4 hc dd
      obtain ⟨cs2, an2, A2⟩ := C2
      obtain ⟨h5, e5, f5, d5⟩ := m_putc N (c := 12) (by have : cs2.length + 3 ≤ 1000 := hc; omega) dd
      obtain ⟨h6, e6, f6, d6⟩ := m_putc N (c := 13) (by rw [List.length_append]; show cs2.length + 1 < 1000; have : cs2.length + 3 ≤ 1000 := hc; omega) d5
      obtain ⟨h7, e7, f7, d7⟩ := puts l (cs2 ++ [12] ++ [13]) (an2, A2) h6 hl' (by simp only [List.length_append, List.length_cons, List.length_nil]; have : cs2.length + 3 ≤ 1000 := hc; omega) d6
      rw [show (22 : Int32) = nI (mcd 12) from rfl, show (23 : Int32) = nI (mcd 13) from rfl] at *
      rw [e5, bnd2_p, e6, bnd2_p]
      refine ⟨h7, e7, (f5.trans f6).trans f7, ?_⟩
      have ap : cs2 ++ 12 :: 13 :: l = (cs2 ++ [12] ++ [13]) ++ l := by rw [List.append_assoc, List.append_assoc]; rfl
      show MSc (cs2 ++ 12 :: 13 :: l, an2, A2) h7
      rw [ap]; exact d7
    rcases m_atM N hN (c := c) hC.1 hC.2.1 (by omega) hx hy (by omega) (by omega) d (Or.inl r0) with ⟨C1, h1', e1, e2, f1, d1, g1, g2⟩ | ⟨h1', e1, e2, f1, d1, g1, g2⟩
    · obtain ⟨k1, l1⟩ := atM_ok hC (by omega) hx hy (by omega) (by omega) e1
      rw [e1, Option.bind_some, e2, bnd2_p]
      rcases m_atM N hN (c := c - 1) k1.1 k1.2.1 (by omega) hx hy (by omega) (by omega) d1 (Or.inl (by rw [g1]; exact r0)) with ⟨C2, h2', e3, e4, f2, d2, g3, g4⟩ | ⟨h2', e3, e4, f2, d2, g3, g4⟩
      · rw [s1] at e3
        obtain ⟨k2, l2⟩ := atM_ok k1 (by omega) hx hy (by omega) (by omega) e3
        rw [e3, Option.bind_some, e4, bnd2_p]
        left
        obtain ⟨h', e', f', d'⟩ := rest C2 h2' (by omega) d2
        exact ⟨_, h', rfl, e', FL.cat (f1.trans f2) f' rfl rfl, d', by rw [(f'.1 51 21 rfl).1, g3, g1]; exact r0⟩
      · rw [s1] at e3
        rw [e3, e4, bnd2_p]
        right
        obtain ⟨h', e', f', d'⟩ := rest C1 h2' (by omega) d2
        exact ⟨h', rfl, e', FL.cat (f1.trans f2) f' rfl rfl, by rw [(f'.1 51 21 rfl).1]; exact g3, by rw [(f'.1 51 22 rfl).1, g4, (f2.1 51 18 rfl).1, (f1.1 51 18 rfl).1]⟩
    · right
      rw [e1, e2, bnd2_p]
      have t18 : gI h1' 51 22 = gI h 51 18 := by rw [g2, (f1.1 51 18 rfl).1]
      rcases m_atM N hN (c := c - 1) hC.1 hC.2.1 (by omega) hx hy (by omega) (by omega) d1 (Or.inr ⟨g1, g2⟩) with ⟨C2, h2', e3, e4, f2, d2, g3, g4⟩ | ⟨h2', e3, e4, f2, d2, g3, g4⟩
      · obtain ⟨k2, l2⟩ := atM_ok hC (by omega) hx hy (by omega) (by omega) e3
        rw [e4, bnd2_p]
        obtain ⟨h', e', f', d'⟩ := rest C2 h2' (by omega) d2
        exact ⟨h', rfl, e', FL.cat (f1.trans f2) f' rfl rfl, by rw [(f'.1 51 21 rfl).1, g3]; exact g1, by rw [(f'.1 51 22 rfl).1, g4]; exact t18⟩
      · rw [e4, bnd2_p]
        obtain ⟨h', e', f', d'⟩ := rest C h2' (by omega) d2
        exact ⟨h', rfl, e', FL.cat (f1.trans f2) f' rfl rfl, by rw [(f'.1 51 21 rfl).1]; exact g3, by rw [(f'.1 51 22 rfl).1, g4, (f2.1 51 18 rfl).1, (f1.1 51 18 rfl).1]⟩
  have inx : ∀ (c' : Int32) (l : List Nat), l = [] ∨ l = [12] → -1000001 ≤ c'.toInt → c'.toInt ≤ 1000000 → (∃ C' h', ((atM C x y c'.toInt).bind fun C1 => some (C1.1 ++ l, C1.2)) = some C' ∧ (bnd2 (F_X9_atMost N (nI x) (nI y) c' h) fun r1 h2 => if l = [12] then bnd2 (F_X9_put N 22 h2) fun r1 h2 => some ((), h2) else some ((), h2)) = some ((), h') ∧ FL LAt h h' ∧ MSc C' h' ∧ gI h' 51 21 = 0) ∨ (∃ h', ((atM C x y c'.toInt).bind fun C1 => some (C1.1 ++ l, C1.2)) = none ∧ (bnd2 (F_X9_atMost N (nI x) (nI y) c' h) fun r1 h2 => if l = [12] then bnd2 (F_X9_put N 22 h2) fun r1 h2 => some ((), h2) else some ((), h2)) = some ((), h') ∧ FL LAt h h' ∧ gI h' 51 21 = 3 ∧ gI h' 51 22 = gI h 51 18) := by
    intro c' l hl' b1 b2
    rcases m_atM N hN (c := c') hC.1 hC.2.1 (by omega) hx hy b1 b2 d (Or.inl r0) with ⟨C1, h1', e1, e2, f1, d1, g1, g2⟩ | ⟨h1', e1, e2, f1, d1, g1, g2⟩
    · obtain ⟨k1, l1⟩ := atM_ok hC (by omega) hx hy b1 b2 e1
      left
      rw [e1, Option.bind_some, e2, bnd2_p]
      obtain ⟨h', e', f', d'⟩ := puts l C1.1 C1.2 h1' hl' (by omega) d1
      exact ⟨_, h', rfl, e', FL.cat f1 f' rfl rfl, d', by rw [(f'.1 51 21 rfl).1, g1]; exact r0⟩
    · right
      rw [e1, e2, bnd2_p]
      obtain ⟨h', e', f', d'⟩ := puts l C.1 C.2 h1' hl' (by omega) d1
      exact ⟨h', rfl, e', FL.cat f1 f' rfl rfl, by rw [(f'.1 51 21 rfl).1]; exact g1, by rw [(f'.1 51 22 rfl).1, g2, (f1.1 51 18 rfl).1]⟩
  unfold F_X9_comparison F_X9_comparison_13 F_X9_comparison_18 F_X9_comparison_32 F_X9_comparison_82 F_X9_comparison_85 F_X9_comparison_104 cmpS
  rcases hr with rfl | rfl | rfl | rfl | rfl | rfl
  · have i := inx c [] (Or.inl rfl) (by omega) (by omega)
    rw [show nI (sg 256) = 160 from rfl]
    simp +decide only [if_false, if_true] at i ⊢; exact i
  · have i := inx (c - 1) [] (Or.inl rfl) (by omega) (by omega)
    rw [s1] at i
    rw [show nI (sg 60) = 60 from rfl]
    simp +decide only [if_false, if_true] at i ⊢; exact i
  · have i := inx (c - 1) [12] (Or.inr rfl) (by omega) (by omega)
    rw [s1] at i
    rw [show nI (sg 257) = 162 from rfl]
    simp +decide only [if_false, if_true] at i ⊢; exact i
  · have i := inx c [12] (Or.inr rfl) (by omega) (by omega)
    rw [show nI (sg 62) = 62 from rfl]
    simp +decide only [if_false, if_true] at i ⊢; exact i
  · have i := ex [] (Or.inl rfl)
    rw [show nI (sg 61) = 61 from rfl]
    simp +decide only [if_false, if_true] at i ⊢; exact i
  · have i := ex [12] (Or.inr rfl)
    rw [show nI (sg 35) = 35 from rfl]
    simp +decide only [if_false, if_true] at i ⊢; exact i
def LWa : Lc := [(51,34,35),(51,37,39),(69,0,0)]
theorem m_done (N : Nat) {w an : Nat} {W cs : List Nat} {A : Ed} {h : xHp} (hw : 2 ≤ w ∧ w ≤ 5) (hl : W.length < 400) (hc : cs.length < 1000) (m : MSw (w :: W) h) (d : MSc (cs, an, A) h) : ∃ h', F_X9_done N h = some ((), h') ∧ FL LWa h h' ∧ MSw W h' ∧ MSc (cs ++ [w + 10], an, A) h' := by
  obtain ⟨m1, ⟨m2, m3⟩, m4⟩ := m
  have e1 : nI (w :: W).length - 1 = nI W.length := by rw [show (1 : Int32) = nI 1 from rfl, pk_sub (by show 1 ≤ W.length + 1; omega)]; rfl
  unfold F_X9_done F_X9_done_35 F_X9_done_40 F_X9_done_77
  rw [m1, e1, bnd_eq]
  have v37 : gI (sI h 51 37 (nI W.length)) 51 37 = nI W.length := by rw [gI_sI, if_pos rfl, if_pos rfl]
  have v70 : gI (sI h 51 37 (nI W.length)) 70 W.length = nI w := by simp +decide only [gI_sI, if_false]; exact m2
  have v38 : gI (sI h 51 37 (nI W.length)) 51 38 = nI (opW (w :: W)) := by simp +decide only [gI_sI, if_false, if_true]; exact m4
  rw [v37, grd_t (xin_nI hl (by decide)), nI_cl (by omega), v70, v38, bnd_eq, bnd_eq]
  have op : ∀ u : Int32, u = nI (opW W) → ∃ h', (if nI w = 2 then bnd2 (F_X9_put N 22 (sI (sI h 51 37 (nI W.length)) 51 38 u)) (fun r1 h2 => some ((), h2)) else if nI w = 3 then bnd2 (F_X9_put N 23 (sI (sI h 51 37 (nI W.length)) 51 38 u)) (fun r1 h2 => some ((), h2)) else if nI w = 4 then bnd2 (F_X9_put N 24 (sI (sI h 51 37 (nI W.length)) 51 38 u)) (fun r1 h2 => some ((), h2)) else bnd2 (F_X9_put N 25 (sI (sI h 51 37 (nI W.length)) 51 38 u)) (fun r1 h2 => some ((), h2))) = some ((), h') ∧ FL LWa h h' ∧ MSw W h' ∧ MSc (cs ++ [w + 10], an, A) h' := by
    intro u hu
    subst hu
    have f1 : FL [(51,37,39)] h (sI (sI h 51 37 (nI W.length)) 51 38 (nI (opW W))) := (FL.i h rfl).trans (FL.i _ rfl)
    have mm : MSw W (sI (sI h 51 37 (nI W.length)) 51 38 (nI (opW W))) := ⟨by simp +decide only [gI_sI, if_false, if_true], m3.ag (f1.ag rfl), by simp +decide only [gI_sI, if_false, if_true]⟩
    obtain ⟨h', e', f', d'⟩ := m_putc N (c := w + 10) hc (d.ag (f1.ag rfl))
    have mc : mcd (w + 10) = w + 20 := by unfold mcd; rw [if_neg (by omega)]
    rw [mc] at e'
    have fin : ∀ v : Int32, v = nI (w + 20) → ∃ h', bnd2 (F_X9_put N v (sI (sI h 51 37 (nI W.length)) 51 38 (nI (opW W)))) (fun r1 h2 => some ((), h2)) = some ((), h') ∧ FL LWa h h' ∧ MSw W h' ∧ MSc (cs ++ [w + 10], an, A) h' := fun v hv => by
      rw [hv, e', bnd2_p]
      exact ⟨h', rfl, FL.cat f1 f' rfl rfl, mm.ag (f'.ag rfl), d'⟩
    have c4 : w = 2 ∨ w = 3 ∨ w = 4 ∨ w = 5 := by omega
    rcases c4 with rfl | rfl | rfl | rfl
    · rw [if_pos (by decide)]; exact fin _ rfl
    · rw [if_neg (by decide), if_pos (by decide)]; exact fin _ rfl
    · rw [if_neg (by decide), if_neg (by decide), if_pos (by decide)]; exact fin _ rfl
    · rw [if_neg (by decide), if_neg (by decide), if_neg (by decide)]; exact fin _ rfl
  have c4 : w = 2 ∨ w = 3 ∨ w = 4 ∨ w = 5 := by omega
  rcases c4 with rfl | rfl | rfl | rfl
  · rw [if_pos (show nI 2 = 2 from rfl)]
    exact op _ (by show nI (opW W + 1) - nI 1 = _; rw [pk_sub (by omega)]; rfl)
  · rw [if_neg (show ¬ nI 3 = 2 by decide), if_neg (show ¬ nI 3 = 5 by decide)]
    exact op _ (by show nI (opW W + 0) - nI 0 = _; rw [pk_sub (by omega)]; rfl)
  · rw [if_neg (show ¬ nI 4 = 2 by decide), if_neg (show ¬ nI 4 = 5 by decide)]
    exact op _ (by show nI (opW W + 0) - nI 0 = _; rw [pk_sub (by omega)]; rfl)
  · rw [if_neg (show ¬ nI 5 = 2 by decide), if_pos (show nI 5 = 5 from rfl)]
    exact op _ (by show nI (opW W + 1) - nI 1 = _; rw [pk_sub (by omega)]; rfl)
theorem m_doneTo_go (N : Nat) {an mo : Nat} {A : Ed} (hm : mo ≤ 5) : ∀ (W cs : List Nat) (z : Nat) (h : xHp), wfW W → W.length < z → W.length < 400 → cs.length + W.length < 1000 → MSw W h → MSc (cs, an, A) h → ∃ h', xit (F_X9_doneTo_0_b N) (fun _ _ => none) z (nI mo) h = some ((), h') ∧ FL LWa h h' ∧ MSw (popTo mo W cs).1 h' ∧ MSc ((popTo mo W cs).2, an, A) h' := by
  intro W
  induction W with
  | nil =>
    intro cs z h hw h1 h2 h3 m d
    obtain ⟨z, rfl⟩ : ∃ z', z = z' + 1 := ⟨z - 1, by omega⟩
    show ∃ h', F_X9_doneTo_0_b N (xit (F_X9_doneTo_0_b N) (fun _ _ => none) z) (nI mo) h = _ ∧ _
    unfold F_X9_doneTo_0_b
    rw [m.1, if_pos (by decide)]
    exact ⟨h, rfl, Fr.rf, m, d⟩
  | cons w W ih =>
    intro cs z h hw h1 h2 h3 m d
    obtain ⟨z, rfl⟩ : ∃ z', z = z' + 1 := ⟨z - 1, by omega⟩
    have l1 : W.length + 1 < z + 1 := h1
    have l2 : W.length + 1 < 400 := h2
    have l3 : cs.length + (W.length + 1) < 1000 := h3
    have hw5 := wfW_w hw
    have e1 : nI (w :: W).length - 1 = nI W.length := by rw [show (1 : Int32) = nI 1 from rfl, pk_sub (by show 1 ≤ W.length + 1; omega)]; rfl
    show ∃ h', F_X9_doneTo_0_b N (xit (F_X9_doneTo_0_b N) (fun _ _ => none) z) (nI mo) h = _ ∧ _
    have ih' := fun (cs : List Nat) (h : xHp) => ih cs z h
    generalize xit (F_X9_doneTo_0_b N) (fun _ _ => none) z = K at ih' ⊢
    unfold F_X9_doneTo_0_b popTo
    have m' := m
    obtain ⟨m1, ⟨m2, m3⟩, m4⟩ := m'
    have m2' : gI h 70 W.length = nI w := m2
    rw [m1, if_neg (nI_nle (by show 0 < W.length + 1; omega) (by show W.length + 1 < _; omega)), e1, grd_t (xin_nI (show W.length < 400 by omega) (by decide)), grd_t (xin_nI (show W.length < 400 by omega) (by decide)), nI_cl (by omega), m2', show (1 : Int32) = nI 1 from rfl]
    by_cases q1 : w ≤ 1
    · rw [if_pos (nI_le q1 (by decide)), if_neg (by omega)]
      exact ⟨h, rfl, Fr.rf, m, d⟩
    · rw [if_neg (nI_ge (by omega) (by omega))]
      by_cases q2 : mo < w
      · rw [if_pos (nI_lt q2 (by omega)), if_neg (by omega)]
        exact ⟨h, rfl, Fr.rf, m, d⟩
      · obtain ⟨h1', e', f', m'', d''⟩ := m_done N (by omega) (by omega) (by omega) m d
        rw [if_neg (nI_nlt (by omega) (by omega)), if_pos (by omega), e', bnd2_p]
        obtain ⟨h2', e2, f2, m2, d2⟩ := ih' (cs ++ [w + 10]) h1' hw.2 (by omega) (by omega) (by rw [List.length_append]; show cs.length + 1 + _ < _; omega) m'' d''
        exact ⟨h2', e2, f'.trans f2, m2, d2⟩
theorem m_doneTo (N : Nat) (hN : 500 ≤ N) {an mo : Nat} {A : Ed} {W cs : List Nat} {h : xHp} (hm : mo ≤ 5) (hw : wfW W) (hl : W.length < 400) (hc : cs.length + W.length < 1000) (m : MSw W h) (d : MSc (cs, an, A) h) : ∃ h', F_X9_doneTo N (nI mo) h = some ((), h') ∧ FL LWa h h' ∧ MSw (popTo mo W cs).1 h' ∧ MSc ((popTo mo W cs).2, an, A) h' := by
  unfold F_X9_doneTo F_X9_doneTo_0
  exact m_doneTo_go N hm W cs N h hw (by omega) hl hc m d
theorem popTo_popTo {a b : Nat} (hab : a ≤ b) : ∀ (W cs : List Nat), popTo b (popTo a W cs).1 (popTo a W cs).2 = popTo b W cs := by
  intro W
  induction W with
  | nil => intro cs; rfl
  | cons w W ih =>
    intro cs
    by_cases q : 1 < w ∧ w ≤ a
    · have e1 : popTo a (w :: W) cs = popTo a W (cs ++ [w + 10]) := by
        show (if 1 < w ∧ w ≤ a then popTo a W (cs ++ [w + 10]) else (w :: W, cs)) = _
        rw [if_pos q]
      have e2 : popTo b (w :: W) cs = popTo b W (cs ++ [w + 10]) := by
        show (if 1 < w ∧ w ≤ b then popTo b W (cs ++ [w + 10]) else (w :: W, cs)) = _
        rw [if_pos (by omega)]
      rw [e1, e2, ih]
    · have e1 : popTo a (w :: W) cs = (w :: W, cs) := by
        show (if 1 < w ∧ w ≤ a then popTo a W (cs ++ [w + 10]) else (w :: W, cs)) = _
        rw [if_neg q]
      rw [e1]
