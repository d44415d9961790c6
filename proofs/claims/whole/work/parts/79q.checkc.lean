/-! CHECK: the class's checker -/
def atv (tn : Nat) (tb : Nat → Nat) (p : Nat) : Int32 := if p < tn then nI (tb p) else -1
theorem atv_eq {m tn p c : Nat} {tb : Nat → Nat} (hT : Twf m tn tb) (h0 : 0 < c) (hc : c < 256) : atv tn tb p = nI c ↔ btx tn tb p = c := by
  unfold atv btx
  by_cases q : p < tn
  · have := hT.2 p q
    rw [if_pos q, if_pos q, nI_eq (by omega) (by omega)]
  · rw [if_neg q, if_neg q]
    exact ⟨fun h => absurd h.symm (nI_neg1 (by omega)), fun h => by omega⟩
theorem atv_fig (N : Nat) {m tn p : Nat} {tb : Nat → Nat} {h : xHp} (hT : Twf m tn tb) : F_X8_figureOf N (atv tn tb p) h = some (if 48 ≤ btx tn tb p ∧ btx tn tb p ≤ 57 then nI (btx tn tb p - 48) else -1, h) := by
  unfold F_X8_figureOf F_X8_figureOf_19 atv btx
  by_cases q : p < tn
  · have := hT.2 p q
    simp only [if_pos q]
    have e1 : (nI (tb p) < 48) ↔ tb p < 48 := by rw [show (48 : Int32) = nI 48 from rfl, nI_ltI (by omega) (by omega)]
    have e2 : ((57 : Int32) < nI (tb p)) ↔ 57 < tb p := by rw [show (57 : Int32) = nI 57 from rfl, nI_ltI (by omega) (by omega)]
    simp only [e1, e2]
    by_cases q1 : tb p < 48
    · rw [if_pos q1, if_neg (by omega)]
    · rw [if_neg q1]
      by_cases q2 : 57 < tb p
      · rw [if_pos q2, if_neg (by omega)]
      · rw [if_neg q2, if_pos (by omega), show (48 : Int32) = nI 48 from rfl, pk_sub (by omega)]
  · simp only [if_neg q]
    rw [if_pos (by decide), if_neg (by omega)]
/-- the round so far -/
def RS (bg : Bool) (b e : Nat) (s : Int) (h : xHp) : Prop := gI h 50 4 = b32 bg ∧ (bg = true → gI h 50 5 = nI b ∧ gI h 50 6 = nI e) ∧ (gJ h 50 7).toInt = s
theorem RS.fr {bg : Bool} {b e : Nat} {s : Int} {h h' : xHp} {L : Lc} (f : FL L h h') (d : djL [(50,4,8)] L = true) (r : RS bg b e s h) : RS bg b e s h' := by
  have z : ∀ k, 4 ≤ k → k < 8 → inL L 50 k = false := fun k h1 h2 => djL_ok d (inL_iff.mpr ⟨(50, 4, 8), by simp, rfl, h1, Or.inr h2⟩)
  exact ⟨(f.1 50 4 (z 4 (by omega) (by omega))).1.trans r.1, fun hb => ⟨(f.1 50 5 (z 5 (by omega) (by omega))).1.trans (r.2.1 hb).1, (f.1 50 6 (z 6 (by omega) (by omega))).1.trans (r.2.1 hb).2⟩, by rw [(f.1 50 7 (z 7 (by omega) (by omega))).2]; exact r.2.2⟩
/-- how an item comes out -/
def IO1 (I : Bool × Nat × (Nat × Nat × Int)) (p : Nat) (bg : Bool) (b e : Nat) (s : Int) (h' : xHp) (q : Int32) : Prop := (q = 0 ∧ ((I.1 = false ∧ gI h' 50 3 = nI I.2.1) ∨ (I.1 = true ∧ (bg = true ∧ I.2.2.1 ≠ e) ∧ gI h' 50 3 = nI p))) ∨ (q = 1 ∧ I.1 = true ∧ ¬ (bg = true ∧ I.2.2.1 ≠ e) ∧ gI h' 50 3 = nI I.2.1 ∧ RS true (if bg = true then b else I.2.2.1) I.2.2.2.1 (s + I.2.2.2.2) h')
def LCk : Lc := [(50,3,8)]
theorem ckI_le {tn n an : Nat} {tb : Nat → Nat} {E A : Ed} {g : Nat → Nat} : ∀ (f p : Nat) (bg : Bool) (b e : Nat) (s : Int), (ckI (btx tn tb) n E an A g f p bg b e s).2 = true → (ckI (btx tn tb) n E an A g f p bg b e s).1 ≤ tn := by
  intro f
  induction f with
  | zero => intro p bg b e s h; cases h
  | succ f ih =>
    intro p bg b e s h
    unfold ckI at h ⊢
    by_cases h1 : btx tn tb p = 59
    · have := btx_lt (tn := tn) (tb := tb) (p := p) (by omega)
      rw [if_pos h1] at h ⊢
      by_cases h2 : bg = true ∧ e = b ∧ s < 0
      · rw [if_pos h2]; exact this
      · rw [if_neg h2] at h; cases h
    · rw [if_neg h1] at h ⊢
      by_cases h2 : (itAt (btx tn tb) n E an A g p).1 = false
      · rw [if_pos h2] at h; cases h
      · rw [if_neg h2] at h ⊢
        by_cases h3 : bg = true ∧ (itAt (btx tn tb) n E an A g p).2.2.1 ≠ e
        · rw [if_pos h3] at h; cases h
        · rw [if_neg h3] at h ⊢
          exact ih _ _ _ _ _ h
theorem lfT_le {tn n an p : Nat} {tb : Nat → Nat} {E A : Ed} {g : Nat → Nat} {cs : List Nat} {r : Nat × Bool} (h : lfT (btx tn tb) tn n E an A cs p g = some r) (ht : r.2 = true) : r.1 ≤ tn := by
  unfold lfT at h
  by_cases h1 : btx tn tb p = 46
  · have hl := btx_lt (tn := tn) (tb := tb) (p := p) (by omega)
    rw [if_pos h1] at h
    have := Option.some.inj h
    subst this
    by_cases q : jd g cs = 0
    · rw [if_pos q]; exact hl
    · rw [if_neg q] at ht; cases ht
  · rw [if_neg h1] at h
    by_cases h2 : btx tn tb p = 33
    · rw [if_pos h2] at h
      have := Option.some.inj h
      subst this
      exact ckI_le _ _ _ _ _ _ ht
    · rw [if_neg h2] at h
      by_cases h3 : (48 ≤ btx tn tb p ∧ btx tn tb p ≤ 57) ∧ btx tn tb p - 48 < an ∧ g (btx tn tb p - 48) = 1
      · rw [if_pos h3] at h
        by_cases h4 : btx tn tb (p + 1) = 40
        · rw [if_pos h4] at h; cases h
        · rw [if_neg h4] at h
          have := Option.some.inj h
          subst this
          cases ht
      · rw [if_neg h3] at h
        have := Option.some.inj h
        subst this
        cases ht
theorem ckT_le {tn n an : Nat} {tb : Nat → Nat} {E A : Ed} {g : Nat → Nat} {cs : List Nat} (f p : Nat) (ht : (ckT (btx tn tb) tn n E an A cs f p g).2 = true) : (ckT (btx tn tb) tn n E an A cs f p g).1 ≤ tn := by
  cases f with
  | zero =>
    unfold ckT at ht ⊢
    cases hl : lfT (btx tn tb) tn n E an A cs p g with
    | none => rw [hl] at ht; cases ht
    | some r => rw [hl] at ht; exact lfT_le hl ht
  | succ f =>
    unfold ckT at ht ⊢
    cases hl : lfT (btx tn tb) tn n E an A cs p g with
    | none =>
      rw [hl] at ht
      simp only [Option.getD_none] at ht ⊢
      unfold ckB at ht ⊢
      generalize ckT (btx tn tb) tn n E an A cs f (p + 2) (upN g (btx tn tb p - 48) 0) = r1 at ht ⊢
      by_cases q1 : r1.2 = false
      · rw [if_pos q1] at ht; rw [q1] at ht; cases ht
      · rw [if_neg q1] at ht ⊢
        by_cases q2 : btx tn tb r1.1 = 44
        · rw [if_pos q2] at ht ⊢
          generalize ckT (btx tn tb) tn n E an A cs f (r1.1 + 1) (upN g (btx tn tb p - 48) 2) = r2 at ht ⊢
          by_cases q3 : r2.2 = false
          · rw [if_pos q3] at ht; rw [q3] at ht; cases ht
          · rw [if_neg q3] at ht ⊢
            by_cases q4 : btx tn tb r2.1 = 41
            · rw [if_pos q4]; exact btx_lt (tn := tn) (tb := tb) (p := r2.1) (by omega)
            · rw [if_neg q4] at ht; cases ht
        · rw [if_neg q2] at ht; cases ht
    | some r => rw [hl] at ht; exact lfT_le hl ht
