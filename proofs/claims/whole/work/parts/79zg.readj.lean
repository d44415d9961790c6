/-! READ: the reference goes on by a token -/
def Tk (tn : Nat) (tb : Nat → Nat) (p : Nat) : Nat × Nat × Nat := tok (btx tn tb) tn (skp (btx tn tb) (tn + 1) p)
def Sk (tn : Nat) (tb : Nat → Nat) (p : Nat) : Nat := skp (btx tn tb) (tn + 1) p
def Rd (tn : Nat) (tb : Nat → Nat) (f t p : Nat) (S : Sp) : Nat × Nat × Sp := rdF (btx tn tb) tn f t p S
theorem Rd_eq {tn f t p : Nat} {tb : Nat → Nat} {S : Sp} : Rd tn tb (f + 1) t p S = if (Tk tn tb p).1 = 261 then (if S.1 = 6 ∧ brW S.2.2.1 = 0 then (0, Sk tn tb p, (6, S.2.1, (popTo 5 S.2.2.1 S.2.2.2.1).1, (popTo 5 S.2.2.1 S.2.2.2.1).2, S.2.2.2.2)) else (2, Sk tn tb p, S)) else if (stp (Tk tn tb p).1 (Tk tn tb p).2.1 S).1 ≠ 0 then ((stp (Tk tn tb p).1 (Tk tn tb p).2.1 S).1, Sk tn tb p, S) else if 100 ≤ t then (5, Sk tn tb p, S) else Rd tn tb f (t + 1) (Tk tn tb p).2.2 (stp (Tk tn tb p).1 (Tk tn tb p).2.1 S).2 := rfl
theorem tok_k {bt : Nat → Nat} {tn s : Nat} (h6 : ∀ p, bt p < 256) : (tok bt tn s).1 < 127 ∨ 256 ≤ (tok bt tn s).1 := by
  unfold tok
  by_cases h0 : tn ≤ s
  · rw [if_pos h0]; exact Or.inr (by show 256 ≤ 261; decide)
  · rw [if_neg h0]
    by_cases h1 : 48 ≤ bt s ∧ bt s ≤ 57
    · rw [if_pos h1]
      right
      show 256 ≤ (if 7 < (dgs bt s (tn + 1) s 0).1 - s ∨ 1000000 < (dgs bt s (tn + 1) s 0).2 then 262 else 260)
      by_cases z : 7 < (dgs bt s (tn + 1) s 0).1 - s ∨ 1000000 < (dgs bt s (tn + 1) s 0).2
      · rw [if_pos z]; decide
      · rw [if_neg z]; decide
    · rw [if_neg h1]
      by_cases h2 : bt s = 60
      · rw [if_pos h2]
        by_cases z : bt (s + 1) = 61
        · rw [if_pos z]; exact Or.inr (by show 256 ≤ 256; decide)
        · rw [if_neg z]; exact Or.inl (by show 60 < 127; decide)
      · rw [if_neg h2]
        by_cases h3 : bt s = 62
        · rw [if_pos h3]
          by_cases z : bt (s + 1) = 61
          · rw [if_pos z]; exact Or.inr (by show 256 ≤ 257; decide)
          · rw [if_neg z]; exact Or.inl (by show 62 < 127; decide)
        · rw [if_neg h3]
          by_cases h4 : bt s = 45
          · rw [if_pos h4]
            by_cases z : bt (s + 1) = 62
            · rw [if_pos z]; exact Or.inr (by show 256 ≤ 258; decide)
            · rw [if_neg z]; exact Or.inl (by show 45 < 127; decide)
          · rw [if_neg h4]
            by_cases h5 : bt s = 35 ∨ bt s = 61 ∨ bt s = 38 ∨ bt s = 124 ∨ bt s = 126 ∨ bt s = 40 ∨ bt s = 41
            · rw [if_pos h5]; left; show bt s < 127; omega
            · rw [if_neg h5]
              by_cases h6 : bt s = 122
              · rw [if_pos h6]; exact Or.inr (by show 256 ≤ 259; decide)
              · rw [if_neg h6]
                by_cases h7 : 97 ≤ bt s ∧ bt s ≤ 111
                · rw [if_pos h7]; exact Or.inr (by show 256 ≤ 259; decide)
                · rw [if_neg h7]; exact Or.inr (by show 256 ≤ 262; decide)
/-- what is known of a token -/
def TkB (tn : Nat) (T : Nat × Nat × Nat) : Prop := T.2.2 ≤ tn ∧ (T.1 = 259 → T.2.1 < 16) ∧ (T.1 = 260 → T.2.1 ≤ 1000000) ∧ T.1 < 263 ∧ (T.1 < 127 ∨ 256 ≤ T.1)
theorem Tk_b {tn p : Nat} {tb : Nat → Nat} (hT : Twf 400 tn tb) (hp : p ≤ tn) : TkB tn (Tk tn tb p) ∧ Sk tn tb p ≤ tn := by
  have sb := (skp_b (bt := btx tn tb) (tn := tn) btx_n0 (tn + 1) p).2 hp
  obtain ⟨a1, a2, a3, a4, a5, a6⟩ := tok_b (bt := btx tn tb) (tn := tn) (s := skp (btx tn tb) (tn + 1) p) btx_n0 (fun q => btx_b hT)
  exact ⟨⟨a2 sb, a4, a5, a6, tok_k (fun q => btx_b hT)⟩, sb⟩
theorem sg_lt {k : Nat} (h : k < 263) : sg k < 263 := by
  unfold sg
  by_cases h1 : k = 256
  · rw [if_pos h1]; decide
  · rw [if_neg h1]
    by_cases h2 : k = 257
    · rw [if_pos h2]; decide
    · rw [if_neg h2]
      by_cases h3 : k = 258
      · rw [if_pos h3]; decide
      · rw [if_neg h3]; exact h
theorem sg_inj {k j : Nat} (h : k < 127 ∨ 256 ≤ k) (g : j < 127 ∨ 256 ≤ j) : sg k = sg j ↔ k = j := by
  constructor
  · intro e
    unfold sg at e
    by_cases a1 : k = 256
    · rw [if_pos a1] at e
      by_cases b1 : j = 256
      · omega
      · rw [if_neg b1] at e
        by_cases b2 : j = 257
        · rw [if_pos b2] at e; omega
        · rw [if_neg b2] at e
          by_cases b3 : j = 258
          · rw [if_pos b3] at e; omega
          · rw [if_neg b3] at e; omega
    · rw [if_neg a1] at e
      by_cases a2 : k = 257
      · rw [if_pos a2] at e
        by_cases b1 : j = 256
        · rw [if_pos b1] at e; omega
        · rw [if_neg b1] at e
          by_cases b2 : j = 257
          · omega
          · rw [if_neg b2] at e
            by_cases b3 : j = 258
            · rw [if_pos b3] at e; omega
            · rw [if_neg b3] at e; omega
      · rw [if_neg a2] at e
        by_cases a3 : k = 258
        · rw [if_pos a3] at e
          by_cases b1 : j = 256
          · rw [if_pos b1] at e; omega
          · rw [if_neg b1] at e
            by_cases b2 : j = 257
            · rw [if_pos b2] at e; omega
            · rw [if_neg b2] at e
              by_cases b3 : j = 258
              · omega
              · rw [if_neg b3] at e; omega
        · rw [if_neg a3] at e
          by_cases b1 : j = 256
          · rw [if_pos b1] at e; omega
          · rw [if_neg b1] at e
            by_cases b2 : j = 257
            · rw [if_pos b2] at e; omega
            · rw [if_neg b2] at e
              by_cases b3 : j = 258
              · rw [if_pos b3] at e; omega
              · rw [if_neg b3] at e; exact e
  · intro e; rw [e]
/-- the current token, its parts -/
def TK' (tn : Nat) (tb : Nat → Nat) (t p : Nat) (h : xHp) : Prop := gI h 51 18 = nI (Sk tn tb p) ∧ gI h 51 19 = nI (Tk tn tb p).2.2 ∧ gI h 51 20 = nI (if (Tk tn tb p).1 = 261 then t else t + 1) ∧ (Tk tn tb p).1 ≠ 262 ∧ gI h 51 16 = nI (tkc (Tk tn tb p).1) ∧ ((Tk tn tb p).1 ≠ 261 → gI h 51 17 = nI (tkv (Tk tn tb p))) ∧ gI h 51 21 = 0
theorem TK.p {tn t p : Nat} {tb : Nat → Nat} {h : xHp} (k : TK tn tb t p h) : TK' tn tb t p h := k
theorem TK'.fr {tn t p : Nat} {tb : Nat → Nat} {h h' : xHp} {L : Lc} (f : FL L h h') (d : djL [(51,16,22)] L = true) (k : TK' tn tb t p h) : TK' tn tb t p h' := by
  have a := f.ag d
  exact ⟨(a 51 18 rfl).trans k.1, (a 51 19 rfl).trans k.2.1, (a 51 20 rfl).trans k.2.2.1, k.2.2.2.1, (a 51 16 rfl).trans k.2.2.2.2.1, fun z => (a 51 17 rfl).trans (k.2.2.2.2.2.1 z), (a 51 21 rfl).trans k.2.2.2.2.2.2⟩
/-- a fault was found -/
def Fal (R : Nat × Nat × Sp) (h : xHp) : Prop := (1 ≤ R.1 ∧ R.1 ≤ 5) ∧ gI h 51 21 = nI R.1 ∧ gI h 51 22 = nI R.2.1
theorem Fal.fr {R : Nat × Nat × Sp} {h h' : xHp} {L : Lc} (f : FL L h h') (d : djL [(51,21,23)] L = true) (k : Fal R h) : Fal R h' := by
  have a := f.ag d
  exact ⟨k.1, (a 51 21 rfl).trans k.2.1, (a 51 22 rfl).trans k.2.2⟩
theorem Fal.ne {R : Nat × Nat × Sp} {h : xHp} (k : Fal R h) : ¬ gI h 51 21 = 0 := by have := k.1; rw [k.2.1]; exact nI_ne0 (by omega) (by omega)
theorem Fal.nle {R : Nat × Nat × Sp} {h : xHp} (k : Fal R h) : ¬ gI h 51 21 ≤ 0 := by have := k.1; rw [k.2.1]; exact nI_nle (by omega) (by omega)
theorem m_bad (N : Nat) {tn t p c : Nat} {tb : Nat → Nat} {R : Nat × Nat × Sp} {h : xHp} (k : TK' tn tb t p h) (h1 : R.1 = c) (h2 : R.2.1 = Sk tn tb p) (hc : 1 ≤ c ∧ c ≤ 5) : ∃ h', F_X9_fail N (nI c) h = some ((), h') ∧ FL [(51,21,23)] h h' ∧ Fal R h' := by
  rw [m_fail0 N k.2.2.2.2.2.2, k.1]
  exact ⟨_, rfl, (FL.i h rfl).trans (FL.i _ rfl), ⟨by omega, by rw [h1]; simp +decide only [gI_sI, if_false, if_true], by rw [h2]; simp +decide only [gI_sI, if_false, if_true]⟩⟩
theorem rd_bad {tn f t p c : Nat} {tb : Nat → Nat} {S : Sp} (h1 : (Tk tn tb p).1 ≠ 261) (h2 : (stp (Tk tn tb p).1 (Tk tn tb p).2.1 S).1 = c) (hc : c ≠ 0) : Rd tn tb (f + 1) t p S = (c, Sk tn tb p, S) := by
  rw [Rd_eq, if_neg h1, if_pos (by rw [h2]; exact hc), h2]
theorem rd_endbad {tn f t p : Nat} {tb : Nat → Nat} {S : Sp} (h1 : (Tk tn tb p).1 = 261) (h2 : ¬ (S.1 = 6 ∧ brW S.2.2.1 = 0)) : Rd tn tb (f + 1) t p S = (2, Sk tn tb p, S) := by
  rw [Rd_eq, if_pos h1, if_neg h2]
theorem m_adv (N : Nat) (hN : 7000 ≤ N) {tn f t p : Nat} {tb : Nat → Nat} {S S1 : Sp} {h : xHp} (hT : Twf 400 tn tb) (c : Mtap tn tb h) (hp : p ≤ tn) (k : TK' tn tb t p h) (n1 : (Tk tn tb p).1 ≠ 261) (e : stp (Tk tn tb p).1 (Tk tn tb p).2.1 S = (0, S1)) (ht : t ≤ 100) (hf : f + 1 + t = 102) (iv : Iv t S) : ∃ h', F_X9_next N h = some ((), h') ∧ FL LNx h h' ∧ (Fal (Rd tn tb (f + 1) t p S) h' ∨ (t < 100 ∧ Rd tn tb (f + 1) t p S = Rd tn tb f (t + 1) (Tk tn tb p).2.2 S1 ∧ TK' tn tb (t + 1) (Tk tn tb p).2.2 h' ∧ Iv (t + 1) S1 ∧ (Tk tn tb p).2.2 ≤ tn)) := by
  obtain ⟨⟨b1, b2, b3, b4, b5⟩, b6⟩ := Tk_b hT hp
  have e0 : (stp (Tk tn tb p).1 (Tk tn tb p).2.1 S).1 = 0 := by rw [e]
  have i1 := Iv_step iv (by omega) b2 b3 e0
  rw [e] at i1
  have h20 : gI h 51 20 = nI (t + 1) := by rw [k.2.2.1, if_neg n1]
  rw [Rd_eq, if_neg n1, if_neg (fun z => z e0), e]
  by_cases q : 100 ≤ t
  · rw [if_pos q, m_next5 N (show 100 < t + 1 by omega) (by omega) h20 k.2.2.2.2.2.2, k.1]
    refine ⟨_, rfl, (FL.i h rfl).trans (FL.i _ rfl), Or.inl ⟨⟨show 1 ≤ 5 by decide, Nat.le_refl 5⟩, ?_, ?_⟩⟩
    · simp +decide only [gI_sI, if_false, if_true]
    · simp +decide only [gI_sI, if_false, if_true]
  · rw [if_neg q]
    obtain ⟨h', e', f', r'⟩ := m_next N hN hT c b1 k.2.1 h20 (by omega) k.2.2.2.2.2.2
    refine ⟨h', e', f', ?_⟩
    rcases r' with r' | ⟨r1, r2, r3⟩
    · exact Or.inr ⟨by omega, rfl, r', i1, b1⟩
    · left
      obtain ⟨f, rfl⟩ : ∃ f', f = f' + 1 := ⟨f - 1, by omega⟩
      have r1' : (Tk tn tb (Tk tn tb p).2.2).1 = 262 := r1
      have s1 : (stp (Tk tn tb (Tk tn tb p).2.2).1 (Tk tn tb (Tk tn tb p).2.2).2.1 S1).1 = 1 := by rw [r1']; unfold stp; rw [if_pos rfl]
      rw [rd_bad (by rw [r1']; decide) s1 (by decide)]
      exact ⟨⟨Nat.le_refl 1, show 1 ≤ 5 by decide⟩, r2, r3⟩
theorem tkc_3 {k : Nat} (h : k < 127 ∨ 256 ≤ k) : tkc k = 3 ↔ ¬ (k = 261 ∨ k = 259 ∨ k = 260) := by
  unfold tkc
  by_cases h1 : k = 261
  · rw [if_pos h1]; omega
  · rw [if_neg h1]
    by_cases h2 : k = 259
    · rw [if_pos h2]; omega
    · rw [if_neg h2]
      by_cases h3 : k = 260
      · rw [if_pos h3]; omega
      · rw [if_neg h3]; omega
theorem tkc_le {k : Nat} : tkc k ≤ 3 := by
  unfold tkc
  by_cases h1 : k = 261
  · rw [if_pos h1]; omega
  · rw [if_neg h1]
    by_cases h2 : k = 259
    · rw [if_pos h2]; omega
    · rw [if_neg h2]
      by_cases h3 : k = 260
      · rw [if_pos h3]; omega
      · rw [if_neg h3]; omega
/-- sign(..) of the reference -/
theorem m_sign (N : Nat) {tn t p j : Nat} {tb : Nat → Nat} {h : xHp} (hT : Twf 400 tn tb) (hp : p ≤ tn) (k : TK' tn tb t p h) (hj : (j < 127 ∨ 256 ≤ j) ∧ j < 259) : F_X9_sign N (nI (sg j)) h = some (if (Tk tn tb p).1 = j then 1 else 0, h) := by
  obtain ⟨⟨b1, b2, b3, b4, b5⟩, b6⟩ := Tk_b hT hp
  have tl := tkc_le (k := (Tk tn tb p).1)
  unfold F_X9_sign F_X9_sign_20
  rw [k.2.2.2.2.1, show (3 : Int32) = nI 3 from rfl]
  simp only [nI_eq (show tkc (Tk tn tb p).1 < 2 ^ 31 by omega) (show 3 < 2 ^ 31 by decide), tkc_3 b5]
  by_cases q : (Tk tn tb p).1 = 261 ∨ (Tk tn tb p).1 = 259 ∨ (Tk tn tb p).1 = 260
  · rw [if_neg (fun z => z q), if_neg (by omega)]
  · have q1 : (Tk tn tb p).1 ≠ 261 := fun z => q (Or.inl z)
    have v : gI h 51 17 = nI (sg (Tk tn tb p).1) := by rw [k.2.2.2.2.2.1 q1]; unfold tkv; rw [if_neg (fun z => q (Or.inr z))]
    rw [if_pos q, v]
    have s1 := sg_lt b4
    have s2 := sg_lt (k := j) (by omega)
    simp only [nI_eq (show sg (Tk tn tb p).1 < 2 ^ 31 by omega) (show sg j < 2 ^ 31 by omega), sg_inj b5 hj.1]
    by_cases z : (Tk tn tb p).1 = j
    · rw [if_pos z, if_pos z]
    · rw [if_neg z, if_neg z]
theorem m_tk1 {tn t p : Nat} {tb : Nat → Nat} {h : xHp} (k : TK' tn tb t p h) {j m : Nat} (hm : m ≤ 3) (e : tkc (Tk tn tb p).1 = m ↔ (Tk tn tb p).1 = j) : (gI h 51 16 = nI m) ↔ (Tk tn tb p).1 = j := by
  have tl := tkc_le (k := (Tk tn tb p).1)
  rw [k.2.2.2.2.1, nI_eq (by omega) (by omega)]
  exact e
theorem tkc_1 {k : Nat} : tkc k = 1 ↔ k = 259 := by
  unfold tkc
  by_cases h1 : k = 261
  · rw [if_pos h1]; omega
  · rw [if_neg h1]
    by_cases h2 : k = 259
    · rw [if_pos h2]; omega
    · rw [if_neg h2]
      by_cases h3 : k = 260
      · rw [if_pos h3]; omega
      · rw [if_neg h3]; omega
theorem tkc_2 {k : Nat} : tkc k = 2 ↔ k = 260 := by
  unfold tkc
  by_cases h1 : k = 261
  · rw [if_pos h1]; omega
  · rw [if_neg h1]
    by_cases h2 : k = 259
    · rw [if_pos h2]; omega
    · rw [if_neg h2]
      by_cases h3 : k = 260
      · rw [if_pos h3]; omega
      · rw [if_neg h3]; omega
theorem tkc_0 {k : Nat} : tkc k = 0 ↔ k = 261 := by
  unfold tkc
  by_cases h1 : k = 261
  · rw [if_pos h1]; omega
  · rw [if_neg h1]
    by_cases h2 : k = 259
    · rw [if_pos h2]; omega
    · rw [if_neg h2]
      by_cases h3 : k = 260
      · rw [if_pos h3]; omega
      · rw [if_neg h3]; omega
/-- a token that is no sign's number -/
theorem m_sgn {tn t p : Nat} {tb : Nat → Nat} {h : xHp} (hT : Twf 400 tn tb) (hp : p ≤ tn) (k : TK' tn tb t p h) : ∃ s : Nat, s < 263 ∧ (if gI h 51 16 = 3 then gI h 51 17 else 0) = nI s ∧ ∀ j, (j < 127 ∨ 256 ≤ j) ∧ j < 259 ∧ 0 < j → (s = sg j ↔ (Tk tn tb p).1 = j) := by
  obtain ⟨⟨b1, b2, b3, b4, b5⟩, b6⟩ := Tk_b hT hp
  have tl := tkc_le (k := (Tk tn tb p).1)
  rw [k.2.2.2.2.1, show (3 : Int32) = nI 3 from rfl]
  simp only [nI_eq (show tkc (Tk tn tb p).1 < 2 ^ 31 by omega) (show 3 < 2 ^ 31 by decide), tkc_3 b5]
  have sp : ∀ j, 0 < j → 0 < sg j := fun j hj => by
    unfold sg
    by_cases h1 : j = 256
    · rw [if_pos h1]; decide
    · rw [if_neg h1]
      by_cases h2 : j = 257
      · rw [if_pos h2]; decide
      · rw [if_neg h2]
        by_cases h3 : j = 258
        · rw [if_pos h3]; decide
        · rw [if_neg h3]; exact hj
  by_cases q : (Tk tn tb p).1 = 261 ∨ (Tk tn tb p).1 = 259 ∨ (Tk tn tb p).1 = 260
  · rw [if_neg (fun z => z q)]
    exact ⟨0, by decide, rfl, fun j hj => ⟨fun z => absurd z (by have := sp j hj.2.2; omega), fun z => absurd z (by omega)⟩⟩
  · have q1 : (Tk tn tb p).1 ≠ 261 := fun z => q (Or.inl z)
    have v : gI h 51 17 = nI (sg (Tk tn tb p).1) := by rw [k.2.2.2.2.2.1 q1]; unfold tkv; rw [if_neg (fun z => q (Or.inr z))]
    rw [if_pos q, v]
    exact ⟨sg (Tk tn tb p).1, sg_lt b4, rfl, fun j hj => sg_inj b5 hj.1⟩
