/-! READ: the tokens of a text, and what a reader makes of them -/
def skp (bt : Nat → Nat) : Nat → Nat → Nat
  | 0, p => p
  | f + 1, p => if bt p = 32 then skp bt f (p + 1) else p
def dgs (bt : Nat → Nat) (s : Nat) : Nat → Nat → Nat → Nat × Nat
  | 0, q, v => (q, v)
  | f + 1, q, v => if 48 ≤ bt q ∧ bt q ≤ 57 then dgs bt s f (q + 1) (if q - s < 7 then 10 * v + (bt q - 48) else v) else (q, v)
/-- kind, number, end of the token that begins at s -/
def tok (bt : Nat → Nat) (tn s : Nat) : Nat × Nat × Nat :=
  if tn ≤ s then (261, 0, s)
  else if 48 ≤ bt s ∧ bt s ≤ 57 then (if 7 < (dgs bt s (tn + 1) s 0).1 - s ∨ 1000000 < (dgs bt s (tn + 1) s 0).2 then 262 else 260, (dgs bt s (tn + 1) s 0).2, (dgs bt s (tn + 1) s 0).1)
  else if bt s = 60 then (if bt (s + 1) = 61 then (256, 0, s + 2) else (60, 0, s + 1))
  else if bt s = 62 then (if bt (s + 1) = 61 then (257, 0, s + 2) else (62, 0, s + 1))
  else if bt s = 45 then (if bt (s + 1) = 62 then (258, 0, s + 2) else (45, 0, s + 1))
  else if bt s = 35 ∨ bt s = 61 ∨ bt s = 38 ∨ bt s = 124 ∨ bt s = 126 ∨ bt s = 40 ∨ bt s = 41 then (bt s, 0, s + 1)
  else if bt s = 122 then (259, 0, s + 1)
  else if 97 ≤ bt s ∧ bt s ≤ 111 then (259, bt s - 96, s + 1)
  else (262, 0, s + 1)
/-- marks, the nearest first: 1 bracket, 2 not, 3 and, 4 or, 5 implies; done down to a rank -/
def popTo (m : Nat) : List Nat → List Nat → List Nat × List Nat
  | [], cs => ([], cs)
  | w :: W, cs => if 1 < w ∧ w ≤ m then popTo m W (cs ++ [w + 10]) else (w :: W, cs)
def opW : List Nat → Nat
  | [] => 0
  | w :: W => opW W + (if w = 3 ∨ w = 4 then 0 else 1)
def brW : List Nat → Nat
  | [] => 0
  | w :: W => brW W + (if w = 1 then 1 else 0)
def bnW : List Nat → Nat
  | [] => 0
  | w :: W => bnW W + (if w = 1 ∨ w = 2 then 0 else 1)
def tp (W : List Nat) : Nat := W.headD 0
def wfW : List Nat → Prop
  | [] => True
  | w :: W => (w = 1 ∨ w = 2 ∨ (w = 3 ∧ tp W ≠ 2 ∧ tp W ≠ 3) ∨ ((w = 4 ∨ w = 5) ∧ (tp W = 0 ∨ tp W = 1 ∨ tp W = 5))) ∧ wfW W
def fndA (A : Ed) (q : Nat × Nat × Int) (an : Nat) : Nat → Nat → Nat
  | 0, k => k
  | f + 1, k => if k < an ∧ A k ≠ q then fndA A q an f (k + 1) else k
/-- codes, number of atoms, atoms -/
abbrev Cp : Type := List Nat × Nat × Ed
def ordQ (x y : Nat) (c : Int) : Nat × Nat × Int := if x < y then (x, y, c) else (y, x, -c - 1)
def atM (C : Cp) (x y : Nat) (c : Int) : Option Cp :=
  if x = y then some (C.1 ++ [if c < 0 then 10 else 11], C.2)
  else if fndA C.2.2 (ordQ x y c) C.2.1 11 0 < C.2.1 then some (C.1 ++ fndA C.2.2 (ordQ x y c) C.2.1 11 0 :: (if x < y then [] else [12]), C.2)
  else if C.2.1 < 10 then some (C.1 ++ C.2.1 :: (if x < y then [] else [12]), C.2.1 + 1, upE C.2.2 C.2.1 (ordQ x y c))
  else none
def cmpS (C : Cp) (r x y : Nat) (n : Int) : Option Cp :=
  if r = 61 ∨ r = 35 then (atM C x y n).bind fun C1 => (atM C1 x y (n - 1)).bind fun C2 => some (C2.1 ++ (12 :: 13 :: (if r = 35 then [12] else [])), C2.2)
  else (atM C x y (if r = 60 ∨ r = 257 then n - 1 else n)).bind fun C1 => some (C1.1 ++ (if r = 62 ∨ r = 257 then [12] else []), C1.2)
abbrev isRel (k : Nat) : Prop := k = 256 ∨ k = 60 ∨ k = 257 ∨ k = 62 ∨ k = 61 ∨ k = 35
/-- state; first, second, relation, negative; marks; codes and atoms -/
abbrev Sp : Type := Nat × (Nat × Nat × Nat × Bool) × List Nat × Cp
def stp (k v : Nat) (S : Sp) : Nat × Sp :=
  if k = 262 then (1, S)
  else if S.1 = 0 then
    (if k = 259 then (0, (1, (v, 0, 0, false), S.2.2))
    else if k = 40 ∨ k = 126 then (if opW S.2.2.1 < 20 then (0, (0, S.2.1, (if k = 40 then 1 else 2) :: S.2.2.1, S.2.2.2)) else (4, S))
    else (2, S))
  else if S.1 = 2 then (if k = 259 then (0, (3, (S.2.1.1, v, S.2.1.2.2), S.2.2)) else (2, S))
  else if S.1 = 4 ∨ S.1 = 5 then
    (if k = 45 ∧ S.1 = 4 then (0, (5, (S.2.1.1, S.2.1.2.1, S.2.1.2.2.1, true), S.2.2))
    else if k = 260 then ((cmpS S.2.2.2 S.2.1.2.2.1 S.2.1.1 S.2.1.2.1 (if S.2.1.2.2.2 = true then -(v : Int) else v)).elim (3, S) fun C => (0, (6, S.2.1, (popTo 3 S.2.2.1 C.1).1, (popTo 3 S.2.2.1 C.1).2, C.2)))
    else (2, S))
  else if S.1 = 6 then
    (if k = 38 then (0, (0, S.2.1, 3 :: S.2.2.1, S.2.2.2))
    else if k = 124 then (0, (0, S.2.1, 4 :: (popTo 4 S.2.2.1 S.2.2.2.1).1, (popTo 4 S.2.2.1 S.2.2.2.1).2, S.2.2.2.2))
    else if k = 258 then (if opW (popTo 4 S.2.2.1 S.2.2.2.1).1 < 20 then (0, (0, S.2.1, 5 :: (popTo 4 S.2.2.1 S.2.2.2.1).1, (popTo 4 S.2.2.1 S.2.2.2.1).2, S.2.2.2.2)) else (4, S))
    else if k = 41 then (if brW S.2.2.1 = 0 then (2, S) else (0, (6, S.2.1, (popTo 3 (popTo 5 S.2.2.1 S.2.2.2.1).1.tail (popTo 5 S.2.2.1 S.2.2.2.1).2).1, (popTo 3 (popTo 5 S.2.2.1 S.2.2.2.1).1.tail (popTo 5 S.2.2.1 S.2.2.2.1).2).2, S.2.2.2.2)))
    else (2, S))
  else if k = 45 ∧ S.1 = 1 then (0, (2, S.2))
  else if isRel k then (0, (4, (S.2.1.1, S.2.1.2.1, k, S.2.1.2.2.2), S.2.2))
  else (2, S)
def rdF (bt : Nat → Nat) (tn : Nat) : Nat → Nat → Nat → Sp → Nat × Nat × Sp
  | 0, _, p, S => (5, p, S)
  | f + 1, t, p, S =>
    if (tok bt tn (skp bt (tn + 1) p)).1 = 261 then
      (if S.1 = 6 ∧ brW S.2.2.1 = 0 then (0, skp bt (tn + 1) p, (6, S.2.1, (popTo 5 S.2.2.1 S.2.2.2.1).1, (popTo 5 S.2.2.1 S.2.2.2.1).2, S.2.2.2.2)) else (2, skp bt (tn + 1) p, S))
    else if (stp (tok bt tn (skp bt (tn + 1) p)).1 (tok bt tn (skp bt (tn + 1) p)).2.1 S).1 ≠ 0 then ((stp (tok bt tn (skp bt (tn + 1) p)).1 (tok bt tn (skp bt (tn + 1) p)).2.1 S).1, skp bt (tn + 1) p, S)
    else if 100 ≤ t then (5, skp bt (tn + 1) p, S)
    else rdF bt tn f (t + 1) (tok bt tn (skp bt (tn + 1) p)).2.2 (stp (tok bt tn (skp bt (tn + 1) p)).1 (tok bt tn (skp bt (tn + 1) p)).2.1 S).2
def Sp0 : Sp := (0, (0, 0, 0, false), [], [], 0, fun _ => (0, 0, 0))
theorem skp_b {bt : Nat → Nat} {tn : Nat} (hb : ∀ p, bt p ≠ 0 → p < tn) : ∀ f p, p ≤ skp bt f p ∧ (p ≤ tn → skp bt f p ≤ tn) := by
  intro f
  induction f with
  | zero => intro p; exact ⟨Nat.le_refl p, fun h => h⟩
  | succ f ih =>
    intro p
    unfold skp
    by_cases q : bt p = 32
    · have := hb p (by omega)
      have := ih (p + 1)
      rw [if_pos q]
      exact ⟨by omega, fun _ => this.2 (by omega)⟩
    · rw [if_neg q]; exact ⟨Nat.le_refl p, fun h => h⟩
theorem dgs_b {bt : Nat → Nat} {tn s : Nat} (hb : ∀ p, bt p ≠ 0 → p < tn) : ∀ f q v, s ≤ q → v < 10000000 → (q - s < 7 → v < 10 ^ (q - s)) → q ≤ (dgs bt s f q v).1 ∧ (q ≤ tn → (dgs bt s f q v).1 ≤ tn) ∧ (dgs bt s f q v).2 < 10000000 := by
  intro f
  induction f with
  | zero => intro q v _ h _; exact ⟨Nat.le_refl q, fun h => h, h⟩
  | succ f ih =>
    intro q v hs hv hj
    unfold dgs
    by_cases h : 48 ≤ bt q ∧ bt q ≤ 57
    · have hq := hb q (by omega)
      rw [if_pos h]
      by_cases q7 : q - s < 7
      · have hv' := hj q7
        have e : q + 1 - s = (q - s) + 1 := by omega
        have pw : 10 * v + (bt q - 48) < 10 ^ (q + 1 - s) := by rw [e, Nat.pow_succ]; omega
        have p7 : 10 ^ (q + 1 - s) ≤ 10 ^ 7 := Nat.pow_le_pow_right (by decide) (by omega)
        have := ih (q + 1) (if q - s < 7 then 10 * v + (bt q - 48) else v) (by omega) (by rw [if_pos q7]; exact Nat.lt_of_lt_of_le pw p7) (fun _ => by rw [if_pos q7]; exact pw)
        exact ⟨by omega, fun _ => this.2.1 (by omega), this.2.2⟩
      · have := ih (q + 1) (if q - s < 7 then 10 * v + (bt q - 48) else v) (by omega) (by rw [if_neg q7]; exact hv) (fun z => by omega)
        exact ⟨by omega, fun _ => this.2.1 (by omega), this.2.2⟩
    · rw [if_neg h]; exact ⟨Nat.le_refl q, fun h => h, hv⟩
/-- what a token may be -/
theorem tok_b {bt : Nat → Nat} {tn s : Nat} (hb : ∀ p, bt p ≠ 0 → p < tn) (h6 : ∀ p, bt p < 256) : ((tok bt tn s).1 = 261 ↔ tn ≤ s) ∧ (s ≤ tn → (tok bt tn s).2.2 ≤ tn) ∧ (s < tn → s < (tok bt tn s).2.2) ∧ ((tok bt tn s).1 = 259 → (tok bt tn s).2.1 < 16) ∧ ((tok bt tn s).1 = 260 → (tok bt tn s).2.1 ≤ 1000000) ∧ (tok bt tn s).1 < 263 := by
  have d := dgs_b (bt := bt) (tn := tn) (s := s) hb (tn + 1) s 0 (Nat.le_refl s) (by decide) (fun _ => by rw [Nat.sub_self]; decide)
  have d1 : 48 ≤ bt s ∧ bt s ≤ 57 → s < (dgs bt s (tn + 1) s 0).1 := by
    intro q
    have := (dgs_b (bt := bt) (tn := tn) (s := s) hb tn (s + 1) (if s - s < 7 then 10 * 0 + (bt s - 48) else 0) (by omega) (by rw [if_pos (by omega)]; omega) (fun _ => by rw [if_pos (by omega), show s + 1 - s = 1 by omega]; omega)).1
    unfold dgs
    rw [if_pos q]
    omega
  have b6 := h6 s
  unfold tok
  by_cases h0 : tn ≤ s
  · rw [if_pos h0]
    exact ⟨⟨fun _ => h0, fun _ => rfl⟩, fun h => h, fun h => by omega, fun h => absurd h (show ¬ (261 : Nat) = 259 by decide), fun h => absurd h (show ¬ (261 : Nat) = 260 by decide), show (261 : Nat) < 263 by decide⟩
  · rw [if_neg h0]
    have one : ∀ k v, k ≠ 261 → k < 263 → (k = 259 → v < 16) → (k = 260 → v ≤ 1000000) → ∀ e, s < e → e ≤ tn → (((k, v, e) : Nat × Nat × Nat).1 = 261 ↔ tn ≤ s) ∧ (s ≤ tn → ((k, v, e) : Nat × Nat × Nat).2.2 ≤ tn) ∧ (s < tn → s < ((k, v, e) : Nat × Nat × Nat).2.2) ∧ (((k, v, e) : Nat × Nat × Nat).1 = 259 → ((k, v, e) : Nat × Nat × Nat).2.1 < 16) ∧ (((k, v, e) : Nat × Nat × Nat).1 = 260 → ((k, v, e) : Nat × Nat × Nat).2.1 ≤ 1000000) ∧ ((k, v, e) : Nat × Nat × Nat).1 < 263 :=
      fun k v h1 h2 h3 h4 e h5 h6 => ⟨⟨fun q => absurd q h1, fun q => absurd q h0⟩, fun _ => h6, fun _ => h5, h3, h4, h2⟩
    have two : ∀ b, bt (s + 1) = b → b ≠ 0 → s + 2 ≤ tn := fun b h1 h2 => hb (s + 1) (by rw [h1]; exact h2)
    by_cases h1 : 48 ≤ bt s ∧ bt s ≤ 57
    · rw [if_pos h1]
      have d1' := d1 h1
      have d2' := d.2.1 (by omega)
      by_cases h2 : 7 < (dgs bt s (tn + 1) s 0).1 - s ∨ 1000000 < (dgs bt s (tn + 1) s 0).2
      · rw [if_pos h2]; exact one _ _ (by decide) (by decide) (fun h => absurd h (by decide)) (fun h => absurd h (by decide)) _ d1' d2'
      · rw [if_neg h2]; exact one _ _ (by decide) (by decide) (fun h => absurd h (by decide)) (fun _ => by omega) _ d1' d2'
    · rw [if_neg h1]
      by_cases h2 : bt s = 60
      · rw [if_pos h2]
        by_cases h3 : bt (s + 1) = 61
        · rw [if_pos h3]; exact one _ _ (by decide) (by decide) (fun h => absurd h (by decide)) (fun h => absurd h (by decide)) _ (by omega) (two _ h3 (by decide))
        · rw [if_neg h3]; exact one _ _ (by decide) (by decide) (fun h => absurd h (by decide)) (fun h => absurd h (by decide)) _ (by omega) (by omega)
      · rw [if_neg h2]
        by_cases h3 : bt s = 62
        · rw [if_pos h3]
          by_cases h4 : bt (s + 1) = 61
          · rw [if_pos h4]; exact one _ _ (by decide) (by decide) (fun h => absurd h (by decide)) (fun h => absurd h (by decide)) _ (by omega) (two _ h4 (by decide))
          · rw [if_neg h4]; exact one _ _ (by decide) (by decide) (fun h => absurd h (by decide)) (fun h => absurd h (by decide)) _ (by omega) (by omega)
        · rw [if_neg h3]
          by_cases h4 : bt s = 45
          · rw [if_pos h4]
            by_cases h5 : bt (s + 1) = 62
            · rw [if_pos h5]; exact one _ _ (by decide) (by decide) (fun h => absurd h (by decide)) (fun h => absurd h (by decide)) _ (by omega) (two _ h5 (by decide))
            · rw [if_neg h5]; exact one _ _ (by decide) (by decide) (fun h => absurd h (by decide)) (fun h => absurd h (by decide)) _ (by omega) (by omega)
          · rw [if_neg h4]
            by_cases h5 : bt s = 35 ∨ bt s = 61 ∨ bt s = 38 ∨ bt s = 124 ∨ bt s = 126 ∨ bt s = 40 ∨ bt s = 41
            · rw [if_pos h5]; exact one _ _ (by omega) (by omega) (fun h => by omega) (fun h => by omega) _ (by omega) (by omega)
            · rw [if_neg h5]
              by_cases h6 : bt s = 122
              · rw [if_pos h6]; exact one _ _ (by decide) (by decide) (fun _ => by decide) (fun h => absurd h (by decide)) _ (by omega) (by omega)
              · rw [if_neg h6]
                by_cases h7 : 97 ≤ bt s ∧ bt s ≤ 111
                · rw [if_pos h7]; exact one _ _ (by decide) (by decide) (fun _ => by omega) (fun h => absurd h (by decide)) _ (by omega) (by omega)
                · rw [if_neg h7]; exact one _ _ (by decide) (by decide) (fun h => absurd h (by decide)) (fun h => absurd h (by decide)) _ (by omega) (by omega)
theorem btx_n0 {tn : Nat} {tb : Nat → Nat} : ∀ p, btx tn tb p ≠ 0 → p < tn := fun p h => btx_lt (tn := tn) (tb := tb) (p := p) (Nat.pos_of_ne_zero h)
