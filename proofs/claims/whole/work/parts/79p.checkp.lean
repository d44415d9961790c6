/-! CHECK: what a checker must find, of a text bt (0 behind its end) -/
def itAt (bt : Nat → Nat) (n : Nat) (E : Ed) (an : Nat) (A : Ed) (g : Nat → Nat) (p : Nat) : Bool × Nat × (Nat × Nat × Int) :=
  if 48 ≤ bt p ∧ bt p ≤ 57 then (if bt p - 48 < an ∧ g (bt p - 48) ≠ 1 then (true, p + 1, dif A g (bt p - 48)) else (false, p, (0, 0, 0)))
  else if bt p = 91 then
    (if 48 ≤ bt (p + 1) ∧ bt (p + 1) ≤ 57 then
      (if 48 ≤ bt (p + 2) ∧ bt (p + 2) ≤ 57 then
        (if bt (p + 3) = 93 then (if 10 * (bt (p + 1) - 48) + (bt (p + 2) - 48) < n then (true, p + 4, E (10 * (bt (p + 1) - 48) + (bt (p + 2) - 48))) else (false, p, (0, 0, 0))) else (false, p + 3, (0, 0, 0)))
      else (if bt (p + 2) = 93 then (if bt (p + 1) - 48 < n then (true, p + 3, E (bt (p + 1) - 48)) else (false, p, (0, 0, 0))) else (false, p + 2, (0, 0, 0))))
    else (false, p + 1, (0, 0, 0)))
  else (false, p, (0, 0, 0))
def ckI (bt : Nat → Nat) (n : Nat) (E : Ed) (an : Nat) (A : Ed) (g : Nat → Nat) : Nat → Nat → Bool → Nat → Nat → Int → Nat × Bool
  | 0, p, _, _, _, _ => (p, false)
  | f + 1, p, bg, b, e, s =>
    if bt p = 59 then (if bg = true ∧ e = b ∧ s < 0 then (p + 1, true) else (p, false))
    else if (itAt bt n E an A g p).1 = false then ((itAt bt n E an A g p).2.1, false)
    else if bg = true ∧ (itAt bt n E an A g p).2.2.1 ≠ e then (p, false)
    else ckI bt n E an A g f (itAt bt n E an A g p).2.1 true (if bg = true then b else (itAt bt n E an A g p).2.2.1) (itAt bt n E an A g p).2.2.2.1 (s + (itAt bt n E an A g p).2.2.2.2)
def lfT (bt : Nat → Nat) (tn n : Nat) (E : Ed) (an : Nat) (A : Ed) (cs : List Nat) (p : Nat) (g : Nat → Nat) : Option (Nat × Bool) :=
  if bt p = 46 then some (if jd g cs = 0 then (p + 1, true) else (p, false))
  else if bt p = 33 then some (ckI bt n E an A g (tn + 1) (p + 1) false 0 0 0)
  else if (48 ≤ bt p ∧ bt p ≤ 57) ∧ bt p - 48 < an ∧ g (bt p - 48) = 1 then (if bt (p + 1) = 40 then none else some (p + 1, false))
  else some (p, false)
def ckB (bt : Nat → Nat) (k : Nat) (t : Nat → (Nat → Nat) → Nat × Bool) (p : Nat) (g : Nat → Nat) : Nat × Bool :=
  if (t (p + 2) (upN g k 0)).2 = false then t (p + 2) (upN g k 0)
  else if bt (t (p + 2) (upN g k 0)).1 = 44 then
    (if (t ((t (p + 2) (upN g k 0)).1 + 1) (upN g k 2)).2 = false then t ((t (p + 2) (upN g k 0)).1 + 1) (upN g k 2)
    else if bt (t ((t (p + 2) (upN g k 0)).1 + 1) (upN g k 2)).1 = 41 then ((t ((t (p + 2) (upN g k 0)).1 + 1) (upN g k 2)).1 + 1, true)
    else ((t ((t (p + 2) (upN g k 0)).1 + 1) (upN g k 2)).1, false))
  else ((t (p + 2) (upN g k 0)).1, false)
def ckT (bt : Nat → Nat) (tn n : Nat) (E : Ed) (an : Nat) (A : Ed) (cs : List Nat) : Nat → Nat → (Nat → Nat) → Nat × Bool
  | 0, p, g => (lfT bt tn n E an A cs p g).getD (p, false)
  | f + 1, p, g => (lfT bt tn n E an A cs p g).getD (ckB bt (bt p - 48) (ckT bt tn n E an A cs f) p g)
/-- the text's bytes; 0 behind the end -/
def btx (tn : Nat) (tb : Nat → Nat) (p : Nat) : Nat := if p < tn then tb p else 0
theorem btx_lt {tn p : Nat} {tb : Nat → Nat} (h : 0 < btx tn tb p) : p < tn := by
  unfold btx at h
  by_cases q : p < tn
  · exact q
  · rw [if_neg q] at h; omega
theorem btx_b {m tn p : Nat} {tb : Nat → Nat} (h : Twf m tn tb) : btx tn tb p < 256 := by
  unfold btx
  by_cases q : p < tn
  · rw [if_pos q]; exact h.2 p q
  · rw [if_neg q]; omega
/-- an item's end lies behind its begin, within the text -/
theorem itAt_p {tn n an p : Nat} {tb : Nat → Nat} {E A : Ed} {g : Nat → Nat} : p ≤ (itAt (btx tn tb) n E an A g p).2.1 ∧ (p ≤ tn → (itAt (btx tn tb) n E an A g p).2.1 ≤ tn) ∧ ((itAt (btx tn tb) n E an A g p).1 = true → p < (itAt (btx tn tb) n E an A g p).2.1) := by
  have z : ∀ q, 0 < btx tn tb q → q < tn := fun q h => btx_lt h
  unfold itAt
  by_cases h1 : 48 ≤ btx tn tb p ∧ btx tn tb p ≤ 57
  · have := z p (by omega)
    rw [if_pos h1]
    by_cases h2 : btx tn tb p - 48 < an ∧ g (btx tn tb p - 48) ≠ 1
    · rw [if_pos h2]; exact ⟨by show p ≤ p + 1; omega, fun _ => by show p + 1 ≤ tn; omega, fun _ => by show p < p + 1; omega⟩
    · rw [if_neg h2]; exact ⟨Nat.le_refl p, fun h => h, fun h => by cases h⟩
  · rw [if_neg h1]
    by_cases h2 : btx tn tb p = 91
    · have := z p (by omega)
      rw [if_pos h2]
      by_cases h3 : 48 ≤ btx tn tb (p + 1) ∧ btx tn tb (p + 1) ≤ 57
      · have := z (p + 1) (by omega)
        rw [if_pos h3]
        by_cases h4 : 48 ≤ btx tn tb (p + 2) ∧ btx tn tb (p + 2) ≤ 57
        · have := z (p + 2) (by omega)
          rw [if_pos h4]
          by_cases h5 : btx tn tb (p + 3) = 93
          · have := z (p + 3) (by omega)
            rw [if_pos h5]
            by_cases h6 : 10 * (btx tn tb (p + 1) - 48) + (btx tn tb (p + 2) - 48) < n
            · rw [if_pos h6]; exact ⟨by show p ≤ p + 4; omega, fun _ => by show p + 4 ≤ tn; omega, fun _ => by show p < p + 4; omega⟩
            · rw [if_neg h6]; exact ⟨Nat.le_refl p, fun h => h, fun h => by cases h⟩
          · rw [if_neg h5]; exact ⟨by show p ≤ p + 3; omega, fun _ => by show p + 3 ≤ tn; omega, fun h => by cases h⟩
        · rw [if_neg h4]
          by_cases h5 : btx tn tb (p + 2) = 93
          · have := z (p + 2) (by omega)
            rw [if_pos h5]
            by_cases h6 : btx tn tb (p + 1) - 48 < n
            · rw [if_pos h6]; exact ⟨by show p ≤ p + 3; omega, fun _ => by show p + 3 ≤ tn; omega, fun _ => by show p < p + 3; omega⟩
            · rw [if_neg h6]; exact ⟨Nat.le_refl p, fun h => h, fun h => by cases h⟩
          · rw [if_neg h5]; exact ⟨by show p ≤ p + 2; omega, fun _ => by show p + 2 ≤ tn; omega, fun h => by cases h⟩
      · rw [if_neg h3]; exact ⟨by show p ≤ p + 1; omega, fun _ => by show p + 1 ≤ tn; omega, fun h => by cases h⟩
    · rw [if_neg h2]; exact ⟨Nat.le_refl p, fun h => h, fun h => by cases h⟩
/-- what an item leads over is a difference of variables -/
theorem itAt_wf {bt : Nat → Nat} {n an p : Nat} {E A : Ed} {g : Nat → Nat} (hw : Ewf n E) (hA : Awf an A) (h : (itAt bt n E an A g p).1 = true) : (itAt bt n E an A g p).2.2.1 < 16 ∧ (itAt bt n E an A g p).2.2.2.1 < 16 ∧ -1000001 ≤ (itAt bt n E an A g p).2.2.2.2 ∧ (itAt bt n E an A g p).2.2.2.2 ≤ 1000001 := by
  unfold itAt at h ⊢
  by_cases h1 : 48 ≤ bt p ∧ bt p ≤ 57
  · rw [if_pos h1] at h ⊢
    by_cases h2 : bt p - 48 < an ∧ g (bt p - 48) ≠ 1
    · rw [if_pos h2]; exact dif_wf hA h2.1
    · rw [if_neg h2] at h; cases h
  · rw [if_neg h1] at h ⊢
    by_cases h2 : bt p = 91
    · rw [if_pos h2] at h ⊢
      by_cases h3 : 48 ≤ bt (p + 1) ∧ bt (p + 1) ≤ 57
      · rw [if_pos h3] at h ⊢
        by_cases h4 : 48 ≤ bt (p + 2) ∧ bt (p + 2) ≤ 57
        · rw [if_pos h4] at h ⊢
          by_cases h5 : bt (p + 3) = 93
          · rw [if_pos h5] at h ⊢
            by_cases h6 : 10 * (bt (p + 1) - 48) + (bt (p + 2) - 48) < n
            · rw [if_pos h6]; exact hw.2 _ h6
            · rw [if_neg h6] at h; cases h
          · rw [if_neg h5] at h; cases h
        · rw [if_neg h4] at h ⊢
          by_cases h5 : bt (p + 2) = 93
          · rw [if_pos h5] at h ⊢
            by_cases h6 : bt (p + 1) - 48 < n
            · rw [if_pos h6]; exact hw.2 _ h6
            · rw [if_neg h6] at h; cases h
          · rw [if_neg h5] at h; cases h
      · rw [if_neg h3] at h; cases h
    · rw [if_neg h2] at h; cases h
/-- open ones -/
def opn (an : Nat) (g : Nat → Nat) : Nat := cW (fun k => decide (g k = 1)) 0 an
theorem opn_up {an k v : Nat} {g : Nat → Nat} (hk : k < an) (h1 : g k = 1) (hv : v ≠ 1) : opn an (upN g k v) + 1 = opn an g := by
  unfold opn
  have same : ∀ lo m, (∀ i, i < m → lo + i ≠ k) → cW (fun j => decide (upN g k v j = 1)) lo m = cW (fun j => decide (g j = 1)) lo m := by
    intro lo m
    induction m with
    | zero => intro _; rfl
    | succ m ih =>
      intro h
      show cW _ lo m + _ = cW _ lo m + _
      rw [ih (fun i hi => h i (by omega))]
      have : upN g k v (lo + m) = g (lo + m) := by unfold upN; rw [if_neg (h m (by omega))]
      simp only [this]
  have sp : an = k + (1 + (an - k - 1)) := by omega
  have one : ∀ W : Nat → Bool, cW W 0 an = cW W 0 k + ((if W k = true then 1 else 0) + cW W (k + 1) (an - k - 1)) := by
    intro W
    have e := cW_add (W := W) (lo := 0) (a := k) (1 + (an - k - 1))
    rw [← sp, Nat.zero_add, cW_add] at e
    rw [e]
    show _ + (cW W k 0 + (if W (k + 0) = true then 1 else 0) + _) = _
    rw [show cW W k 0 = 0 from rfl, Nat.add_zero, Nat.zero_add]
  rw [one, one, same 0 k (fun i hi => by omega), same (k + 1) (an - k - 1) (fun i hi => by omega)]
  have u : upN g k v k = v := by unfold upN; rw [if_pos rfl]
  simp only [u]
  rw [if_neg (by simp [hv]), if_pos (by simp [h1])]
  omega
theorem opn_0 {an k : Nat} {g : Nat → Nat} (h : opn an g = 0) (hk : k < an) : g k ≠ 1 := fun q => by
  have : 0 < opn an g := (cW_pos _).mpr ⟨k, hk, by rw [Nat.zero_add]; simp [q]⟩
  omega
