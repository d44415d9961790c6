/-! WALKS: rows of differences, their sums, the least of them -/
abbrev Ed : Type := Nat → Nat × Nat × Int
def Wk (ed : Ed) (ok : Nat → Prop) (t : Nat) : Nat → Nat → Int → Prop
  | 0, v, s => v = t ∧ s = 0
  | j + 1, v, s => ∃ e, ok e ∧ (ed e).1 = v ∧ ∃ s', Wk ed ok t j (ed e).2.1 s' ∧ s = (ed e).2.2 + s'
/-- L tells the least number of which P is true: F where there is none -/
def Lst (F L : Int64) (P : Int → Prop) (B : Int) : Prop := (L = F ∧ ∀ s, ¬ P s) ∨ ∃ m, L.toInt = m ∧ -B ≤ m ∧ m ≤ B ∧ P m ∧ ∀ s, P s → m ≤ s
theorem Lst.congr {F L : Int64} {P Q : Int → Prop} {B : Int} (h : Lst F L P B) (e : ∀ s, P s ↔ Q s) : Lst F L Q B := by
  rcases h with ⟨h1, h2⟩ | ⟨m, h1, h2, h3, h4, h5⟩
  · exact Or.inl ⟨h1, fun s q => h2 s ((e s).mpr q)⟩
  · exact Or.inr ⟨m, h1, h2, h3, (e m).mp h4, fun s q => h5 s ((e s).mpr q)⟩
theorem Lst.mono {F L : Int64} {P : Int → Prop} {B C : Int} (h : Lst F L P B) (hc : B ≤ C) : Lst F L P C := by
  rcases h with ⟨h1, h2⟩ | ⟨m, h1, h2, h3, h4, h5⟩
  · exact Or.inl ⟨h1, h2⟩
  · exact Or.inr ⟨m, h1, by omega, by omega, h4, h5⟩
/-- two numbers as longs are added -/
theorem i64_add {a b : Int64} {x y : Int} (ha : a.toInt = x) (hb : b.toInt = y) (h1 : -2305843009213693952 ≤ x + y) (h2 : x + y ≤ 2305843009213693952) : (a + b).toInt = x + y := by
  rw [Int64.toInt_add, ha, hb]
  exact Int.bmod_eq_of_le (by omega) (by omega)
theorem i32_64 (c : Int32) : c.toInt64.toInt = c.toInt := Int32.toInt_toInt64 c
/-- the next edge of a vertex is looked at: e's walks come to those that were seen -/
theorem Lst.skip {F L : Int64} {P Q : Int → Prop} {B c : Int} (h : Lst F L P B) (hq : ∀ s, ¬ Q s) : Lst F L (fun s => P s ∨ ∃ s', Q s' ∧ s = c + s') B :=
  h.congr fun s => ⟨Or.inl, fun q => q.elim id fun ⟨s', h1, _⟩ => absurd h1 (hq s')⟩
theorem Lst.keep {F L Ly Lc : Int64} {P Q : Int → Prop} {B c m : Int} (h : Lst F L P B) (hF : F.toInt > B) (hm : Ly.toInt = m) (hQ : Q m ∧ ∀ s, Q s → m ≤ s) (hc : Lc.toInt = m + c) (hb : m + c ≤ B) (hle : L ≤ Lc) : Lst F L (fun s => P s ∨ ∃ s', Q s' ∧ s = c + s') B := by
  rw [Int64.le_iff_toInt_le, hc] at hle
  rcases h with ⟨h1, h2⟩ | ⟨k, h1, h2, h3, h4, h5⟩
  · rw [h1] at hle
    omega
  · refine Or.inr ⟨k, h1, h2, h3, Or.inl h4, fun s q => ?_⟩
    rcases q with q | ⟨s', q1, q2⟩
    · exact h5 s q
    · have := hQ.2 s' q1
      omega
theorem Lst.take {F L Ly Lc : Int64} {P Q : Int → Prop} {B c m : Int} (h : Lst F L P B) (hm : Ly.toInt = m) (hQ : Q m ∧ ∀ s, Q s → m ≤ s) (hc : Lc.toInt = m + c) (hb : -B ≤ m + c ∧ m + c ≤ B) (hlt : Lc ≤ L) : Lst F Lc (fun s => P s ∨ ∃ s', Q s' ∧ s = c + s') B := by
  rw [Int64.le_iff_toInt_le, hc] at hlt
  refine Or.inr ⟨m + c, hc, hb.1, hb.2, Or.inr ⟨m, hQ.1, by omega⟩, fun s q => ?_⟩
  rcases q with q | ⟨s', q1, q2⟩
  · rcases h with ⟨h1, h2⟩ | ⟨k, h1, h2, h3, h4, h5⟩
    · exact absurd q (h2 s)
    · have := h5 s q
      omega
  · have := hQ.2 s' q1
    omega
/-! the reference's edges -/
def edM (h : xHp) : Ed := fun e => ((gI h 52 e).toNatClampNeg, (gI h 53 e).toNatClampNeg, (gI h 54 e).toInt)
def okM (h : xHp) : Nat → Prop := fun e => e < 70 ∧ gI h 55 e ≠ 0
/-- those that are there are differences of variables -/
def wfM (h : xHp) : Prop := ∀ e, okM h e → (∃ x, x < 16 ∧ gI h 52 e = nI x) ∧ (∃ y, y < 16 ∧ gI h 53 e = nI y) ∧ -1000001 ≤ (gI h 54 e).toInt ∧ (gI h 54 e).toInt ≤ 1000001
def xFAR : Int64 := 1152921504606846976
theorem xFAR_toInt : xFAR.toInt = 1152921504606846976 := by decide
def BB (j : Nat) : Int := (j : Int) * 1000001
/-- only the cell of the least sums -/
def P58 : Nat → Nat → Bool := fun c _ => c == 58
theorem ix16 {j y : Nat} (hj : j ≤ 16) (hy : y < 16) : (16 : Int32) * nI j + nI y = nI (16 * j + y) := by
  rw [show (16 : Int32) = nI 16 from rfl, pk_mul, nI_add]
theorem ix16p {j y : Nat} (hj : 1 ≤ j) (hy : y < 16) : (16 : Int32) * (nI j - 1) + nI y = nI (16 * (j - 1) + y) := by
  obtain ⟨i, rfl⟩ : ∃ i, j = i + 1 := ⟨j - 1, by omega⟩
  rw [nI_pred, show (16 : Int32) = nI 16 from rfl, pk_mul, nI_add]
  rfl
theorem i70 {e : Nat} (h : e < 70) : ¬ (70 : Int32) ≤ nI e := by
  rw [show (70 : Int32) = nI 70 from rfl]
  exact nI_ge h (by decide)
