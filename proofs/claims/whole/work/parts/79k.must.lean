/-! MUST and VALUEIN -/
theorem nI_and {a b : Nat} (ha : a < 2 ^ 31) (hb : b < 2 ^ 31) : nI a &&& nI b = nI (a &&& b) := by
  apply Int32.toBitVec_inj.mp
  apply BitVec.eq_of_toNat_eq
  have hab : a &&& b < 2 ^ 32 := Nat.lt_of_le_of_lt Nat.and_le_left (by omega)
  rw [Int32.toBitVec_and, BitVec.toNat_and, pk_tn (by omega), pk_tn (by omega), pk_tn hab]
theorem and_pow {ρ j : Nat} : ρ &&& 2 ^ j = 0 ↔ ¬ ρ / 2 ^ j % 2 = 1 := by
  have ht : ρ.testBit j = decide (ρ / 2 ^ j % 2 = 1) := Nat.testBit_eq_decide_div_mod_eq
  constructor
  · intro h q
    have h1 : (ρ &&& 2 ^ j).testBit j = true := by
      rw [Nat.testBit_and, ht, Nat.testBit_two_pow_self]
      simp [q]
    rw [h, Nat.zero_testBit] at h1
    cases h1
  · intro q
    apply Nat.eq_of_testBit_eq
    intro i
    rw [Nat.testBit_and, Nat.zero_testBit]
    by_cases e : i = j
    · subst e
      rw [ht]
      simp [q]
    · rw [Nat.testBit_two_pow_of_ne (fun c => e c.symm), Bool.and_false]
def tb (an a ρ : Nat) : Bool := decide (ρ / 2 ^ (an - 1 - a) % 2 = 1)
theorem cW_pos {W : Nat → Bool} {lo : Nat} : ∀ (k : Nat), 0 < cW W lo k ↔ ∃ i, i < k ∧ W (lo + i) = true := by
  intro k
  induction k with
  | zero => exact ⟨fun h => absurd h (Nat.lt_irrefl 0), fun ⟨i, h, _⟩ => by omega⟩
  | succ k ih =>
    show 0 < cW W lo k + (if W (lo + k) = true then 1 else 0) ↔ _
    by_cases q : W (lo + k) = true
    · rw [if_pos q]
      exact ⟨fun _ => ⟨k, by omega, q⟩, fun _ => by omega⟩
    · rw [if_neg q, Nat.add_zero, ih]
      exact ⟨fun ⟨i, h1, h2⟩ => ⟨i, by omega, h2⟩, fun ⟨i, h1, h2⟩ => ⟨i, by
        by_cases e : i = k
        · rw [e] at h2; exact absurd h2 q
        · omega, h2⟩⟩
theorem cW_split {W b : Nat → Bool} {lo : Nat} : ∀ (k : Nat), cW W lo k = cW (fun ρ => W ρ && b ρ) lo k + cW (fun ρ => W ρ && !b ρ) lo k := by
  intro k
  induction k with
  | zero => rfl
  | succ k ih =>
    show cW W lo k + _ = (cW _ lo k + _) + (cW _ lo k + _)
    rw [ih]
    cases hW : W (lo + k) <;> cases hb : b (lo + k) <;> simp [hW, hb] <;> omega
theorem cW_out {W : Nat → Bool} {m k : Nat} (hm : m ≤ k) (h : ∀ ρ, W ρ = true → ρ < m) : cW W 0 k = cW W 0 m := by
  rw [show k = m + (k - m) by omega, cW_add, cW_zero (k - m) (fun i _ q => by have := h _ q; omega), Nat.add_zero]
theorem c_count_go (N : Nat) {an a : Nat} {W : Nat → Bool} {h : xHp} (ha : a < an) (han : an ≤ 10) (w : CtabW an W h) (hW : ∀ ρ, W ρ = true → ρ < 2 ^ an) : ∀ (z k : Nat), k ≤ 1024 → 1024 - k < z → xit (F_X5_countTrue_19_b N) (fun _ _ _ _ => none) z (nI (cW (fun ρ => W ρ && tb an a ρ) 0 k)) (nI (2 ^ (an - 1 - a))) (nI k) h = some (nI (cW (fun ρ => W ρ && tb an a ρ) 0 1024), h) := by
  have pj : 2 ^ (an - 1 - a) ≤ 1024 := pow10 (by omega)
  intro z
  induction z with
  | zero => intro k _ h2; omega
  | succ z ih =>
    intro k h1 h2
    show F_X5_countTrue_19_b N (xit (F_X5_countTrue_19_b N) (fun _ _ _ _ => none) z) _ _ (nI k) h = _
    generalize xit (F_X5_countTrue_19_b N) (fun _ _ _ _ => none) z = K at ih ⊢
    unfold F_X5_countTrue_19_b F_X5_countTrue_49
    by_cases hk : k = 1024
    · subst hk
      rw [if_pos (by decide)]
    · rw [if_neg (by rw [show (1024 : Int32) = nI 1024 from rfl]; exact nI_ge (by omega) (by decide)), grd_t (xin_nI (by omega) (by decide)), nI_cl (by omega), nI_1, nI_1, nI_and (by omega) (by omega)]
      have wk := w.2 k (by omega)
      have e0 : (nI (k &&& 2 ^ (an - 1 - a)) = 0) ↔ ¬ k / 2 ^ (an - 1 - a) % 2 = 1 := by
        rw [show (0 : Int32) = nI 0 from rfl, nI_eq (Nat.lt_of_le_of_lt Nat.and_le_left (by omega)) (by decide), and_pow]
      have st := ih (k + 1) (by omega) (by omega)
      rw [← st]
      show _ = K (nI (cW _ 0 k + if (W (0 + k) && tb an a (0 + k)) = true then 1 else 0)) _ _ _
      rw [Nat.zero_add]
      by_cases q : W k = true
      · rw [if_pos ⟨hW k q, q⟩] at wk
        rw [wk, if_neg (by decide)]
        simp only [e0]
        unfold tb
        by_cases q2 : k / 2 ^ (an - 1 - a) % 2 = 1
        · rw [if_neg (fun c => c q2), if_pos (by simp [q, q2])]
        · rw [if_pos q2, if_neg (by simp [q2])]
          rfl
      · rw [if_neg (fun q' => q q'.2)] at wk
        rw [wk, if_pos rfl, if_neg (by simp [q])]
        rfl
theorem sh_1 : ∀ j, j < 10 → (1 : Int32) <<< (nI j &&& 31) = nI (2 ^ j) := by decide
/-- what must answers -/
def mustA (W : Nat → Bool) (an a : Nat) : Int32 := if cW W 0 (2 ^ an) = 0 ∨ (0 < cW (fun ρ => W ρ && tb an a ρ) 0 (2 ^ an) ∧ 0 < cW (fun ρ => W ρ && !tb an a ρ) 0 (2 ^ an)) then -1 else if 0 < cW (fun ρ => W ρ && tb an a ρ) 0 (2 ^ an) then 1 else 0
theorem c_must (N : Nat) (hN : 2000 ≤ N) {n an a : Nat} {E A : Ed} {cs : List Nat} {h : xHp} (p : PF n E an A cs) (r : CF n E an A cs h) (ha : a < an) : ∃ h', F_X8_must N (nI a) h = some (mustA (WayB n E an A cs) an a, h') ∧ FL LFi h h' ∧ CF n E an A cs h' := by
  have han := p.2.2.2.1.1
  have p10 := pow10 han
  obtain ⟨h', e, f, c, w⟩ := c_fillW N hN p r
  have hW : ∀ ρ, WayB n E an A cs ρ = true → ρ < 2 ^ an := fun ρ q => (WayB_iff.mp q).1
  have ct := c_count_go N ha han w hW N 0 (by omega) (by omega)
  rw [cW_out (m := 2 ^ an) p10 (fun ρ q => hW ρ (by simp at q; exact q.1))] at ct
  have sp := cW_split (W := WayB n E an A cs) (b := tb an a) (lo := 0) (2 ^ an)
  have l1 := cW_le (W := WayB n E an A cs) (lo := 0) (2 ^ an)
  refine ⟨h', ?_, f, c⟩
  unfold F_X8_must F_X8_requireAtom F_X5_countTrue F_X5_countTrue_19 F_X8_must_46 F_X8_must_48
  rw [if_neg (nI_pos (by omega)), r.2.1.1, if_pos (nI_lt ha (by omega)), bnd2_p, e, bnd2_p, c.2.1.1, show (1 : Int32) = nI 1 from rfl, pk_sub (by omega), pk_sub (by omega), show nI 1 = (1 : Int32) from rfl, sh_1 _ (by omega)]
  have ct' : xit (F_X5_countTrue_19_b N) (fun _ _ _ _ => none) N 0 (nI (2 ^ (an - 1 - a))) 0 h' = some (nI (cW (fun ρ => WayB n E an A cs ρ && tb an a ρ) 0 (2 ^ an)), h') := ct
  rw [ct', bnd2_p, w.1]
  unfold mustA
  generalize cW (fun ρ => WayB n E an A cs ρ && tb an a ρ) 0 (2 ^ an) = T at sp ⊢
  generalize cW (fun ρ => WayB n E an A cs ρ && !tb an a ρ) 0 (2 ^ an) = U at sp ⊢
  generalize cW (WayB n E an A cs) 0 (2 ^ an) = C at sp l1 ⊢
  have e0 : (nI C = 0) ↔ C = 0 := by rw [show (0 : Int32) = nI 0 from rfl, nI_eq (by omega) (by decide)]
  have e1 : (nI T ≤ 0) ↔ T = 0 := by
    rw [show (0 : Int32) = nI 0 from rfl, nI_leI (by omega) (by decide)]
    omega
  have e2 : (nI C ≤ nI T) ↔ C ≤ T := nI_leI (by omega) (by omega)
  simp only [e0, e1, e2]
  by_cases q0 : C = 0
  · rw [if_pos q0, if_pos (Or.inl q0)]
  · rw [if_neg q0]
    by_cases q1 : T = 0
    · rw [if_pos q1, if_pos q1, if_neg (by omega), if_neg (by omega)]
    · rw [if_neg q1]
      by_cases q2 : C ≤ T
      · rw [if_pos q2, if_neg q1, if_neg (by omega), if_pos (by omega)]
      · rw [if_neg q2, if_pos (by omega)]
theorem m_must_go (N : Nat) (hN : 2000 ≤ N) {n an a : Nat} {E A : Ed} {cs : List Nat} (p : PF n E an A cs) (ha : a < an) : ∀ (z k : Nat) (h : xHp) (y no : Bool), k ≤ 2 ^ an → 2 ^ an - k < z → MF n E an A cs h → gI h 51 23 = 1 → (y = true ↔ 0 < cW (fun ρ => WayB n E an A cs ρ && tb an a ρ) 0 k) → (no = true ↔ 0 < cW (fun ρ => WayB n E an A cs ρ && !tb an a ρ) 0 k) → ∃ h', xit (F_X9_must_31_b N) (fun _ _ _ _ _ => none) z (nI a) (b32 y) (b32 no) (nI k) h = some (mustA (WayB n E an A cs) an a, h') ∧ FL LW h h' := by
  have p' := p
  obtain ⟨p1, p2, p3, p4, p5⟩ := p
  have han := p4.1
  have p10 := pow10 han
  intro z
  induction z with
  | zero => intro k h y no _ h2; omega
  | succ z ih =>
    intro k h y no h1 h2 r hh hy hno
    show ∃ h', F_X9_must_31_b N (xit (F_X9_must_31_b N) (fun _ _ _ _ _ => none) z) (nI a) (b32 y) (b32 no) (nI k) h = _ ∧ _
    generalize xit (F_X9_must_31_b N) (fun _ _ _ _ _ => none) z = K at ih ⊢
    have sp := cW_split (W := WayB n E an A cs) (b := tb an a) (lo := 0) (2 ^ an)
    by_cases hk : k = 2 ^ an
    · subst hk
      refine ⟨h, ?_, Fr.rf⟩
      unfold F_X9_must_31_b
      rw [m_rows N han r hh, bnd2_p, if_pos (Int32.le_refl _)]
      unfold mustA
      rw [sp]
      have ny : ¬ y = true ↔ ¬ 0 < cW (fun ρ => WayB n E an A cs ρ && tb an a ρ) 0 (2 ^ an) := not_congr hy
      have nn : ¬ no = true ↔ ¬ 0 < cW (fun ρ => WayB n E an A cs ρ && !tb an a ρ) 0 (2 ^ an) := not_congr hno
      cases y with
      | true =>
        have := hy.mp rfl
        cases no with
        | true => have := hno.mp rfl; rw [if_pos rfl, if_pos (by omega)]
        | false => have := nn.mp (by decide); rw [if_neg (by decide), if_neg (by decide), if_neg (by omega), if_pos (by omega)]
      | false =>
        have := ny.mp (by decide)
        cases no with
        | true => have := hno.mp rfl; rw [if_neg (by decide), if_pos (by decide), if_neg (by omega), if_neg (by omega)]
        | false => have := nn.mp (by decide); rw [if_pos rfl, if_pos (by omega)]
    · have bt : ((nI k >>> ((nI an - 1 - nI a) &&& 31)) &&& 1 = 1) ↔ tb an a k = true := by
        rw [bit_at han ha (by omega), show (1 : Int32) = nI 1 from rfl, nI_eq (by omega) (by decide)]
        unfold tb
        exact decide_eq_true_iff.symm
      obtain ⟨h3, q, e3, i3⟩ := m_isWay N (by omega) (ρ := k) p1 p3 p4 (by omega) r.1 r.2
      have f3 := i3.1
      have nxt : ∀ (h4 : xHp) (y' no' : Bool), MF n E an A cs h4 → gI h4 51 23 = 1 → (y' = true ↔ (y = true ∨ (WayB n E an A cs k && tb an a k) = true)) → (no' = true ↔ (no = true ∨ (WayB n E an A cs k && !tb an a k) = true)) → ∃ h', K (nI a) (b32 y') (b32 no') (nI (k + 1)) h4 = some (mustA (WayB n E an A cs) an a, h') ∧ FL LW h4 h' := by
        intro h4 y' no' r4 hh4 a1 a2
        refine ih (k + 1) h4 y' no' (by omega) (by omega) r4 hh4 ?_ ?_
        · rw [a1, hy]
          show _ ↔ 0 < cW _ 0 k + (if (WayB n E an A cs (0 + k) && tb an a (0 + k)) = true then 1 else 0)
          rw [Nat.zero_add]
          by_cases qq : (WayB n E an A cs k && tb an a k) = true
          · rw [if_pos qq]; exact ⟨fun _ => by omega, fun _ => Or.inr qq⟩
          · rw [if_neg qq]; exact ⟨fun c => by rcases c with c | c; exact c; exact absurd c qq, fun c => Or.inl c⟩
        · rw [a2, hno]
          show _ ↔ 0 < cW _ 0 k + (if (WayB n E an A cs (0 + k) && !tb an a (0 + k)) = true then 1 else 0)
          rw [Nat.zero_add]
          by_cases qq : (WayB n E an A cs k && !tb an a k) = true
          · rw [if_pos qq]; exact ⟨fun _ => by omega, fun _ => Or.inr qq⟩
          · rw [if_neg qq]; exact ⟨fun c => by rcases c with c | c; exact c; exact absurd c qq, fun c => Or.inl c⟩
      have r3 := r.ag f3 rfl rfl
      have hh3 : gI h3 51 23 = 1 := by rw [(f3.1 51 23 rfl).1]; exact hh
      unfold F_X9_must_31_b F_X9_must_62 F_X9_must_80 F_X9_must_98 F_X9_must_103 F_X9_must_113 F_X9_must_118 F_X9_must_119
      rw [m_rows N han r hh, bnd2_p, if_neg (nI_ge (by omega) (by omega)), r.2.1]
      simp only [bt, e3, bnd2_p, nI_1]
      rcases iw_b i3 (by omega) with ⟨rfl, b⟩ | ⟨rfl, b⟩
      · have b' : WayB n E an A cs k = false := by simpa using b
        obtain ⟨ha', ea, fa⟩ := nxt h y no r hh (by simp [b']) (by simp [b'])
        obtain ⟨hb', eb, fb⟩ := nxt h3 y no r3 hh3 (by simp [b']) (by simp [b'])
        cases htb : tb an a k <;> cases y <;> cases no <;> simp +decide only [b32, if_true, if_false] <;> first | exact ⟨ha', ea, fa⟩ | exact ⟨hb', eb, FL.cat f3 fb rfl rfl⟩
      · cases htb : tb an a k
        · obtain ⟨ha', ea, fa⟩ := nxt h y true r hh (by simp [htb]) (by simp [htb, b])
          obtain ⟨hb', eb, fb⟩ := nxt h3 y true r3 hh3 (by simp [htb]) (by simp [htb, b])
          cases y <;> cases no <;> simp +decide only [b32, if_true, if_false] <;> first | exact ⟨ha', ea, fa⟩ | exact ⟨hb', eb, FL.cat f3 fb rfl rfl⟩
        · obtain ⟨ha', ea, fa⟩ := nxt h true no r hh (by simp [htb, b]) (by simp [htb])
          obtain ⟨hb', eb, fb⟩ := nxt h3 true no r3 hh3 (by simp [htb, b]) (by simp [htb])
          cases y <;> cases no <;> simp +decide only [b32, if_true, if_false] <;> first | exact ⟨ha', ea, fa⟩ | exact ⟨hb', eb, FL.cat f3 fb rfl rfl⟩
