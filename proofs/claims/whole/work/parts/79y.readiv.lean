/-! READ: what stays true of a reader's state -/
theorem dpt_cons {c d : Nat} {cs : List Nat} : dpt (c :: cs) d = if c = 12 then (if 1 ≤ d then dpt cs d else none) else if c < 13 then (if d < 32 then dpt cs (d + 1) else none) else (if 2 ≤ d then dpt cs (d - 1) else none) := rfl
theorem dpt_app {m : List Nat} {e : Nat} : ∀ {l : List Nat} {d : Nat}, dpt l d = some e → dpt (l ++ m) d = dpt m e := by
  intro l
  induction l with
  | nil => intro d h; have := Option.some.inj h; subst this; rfl
  | cons c l ih =>
    intro d h
    show dpt (c :: (l ++ m)) d = _
    rw [dpt_cons] at h ⊢
    by_cases h1 : c = 12
    · rw [if_pos h1] at h ⊢
      by_cases h2 : 1 ≤ d
      · rw [if_pos h2] at h ⊢; exact ih h
      · rw [if_neg h2] at h; cases h
    · rw [if_neg h1] at h ⊢
      by_cases h2 : c < 13
      · rw [if_pos h2] at h ⊢
        by_cases h3 : d < 32
        · rw [if_pos h3] at h ⊢; exact ih h
        · rw [if_neg h3] at h; cases h
      · rw [if_neg h2] at h ⊢
        by_cases h3 : 2 ≤ d
        · rw [if_pos h3] at h ⊢; exact ih h
        · rw [if_neg h3] at h; cases h
theorem dpt_not {l : List Nat} {d e : Nat} (h : dpt l d = some e) (he : 1 ≤ e) : dpt (l ++ [12]) d = some e := by
  rw [dpt_app h, dpt_cons, if_pos rfl, if_pos he]; rfl
theorem dpt_leaf {l : List Nat} {c d e : Nat} (h : dpt l d = some e) (he : e < 32) (hc : c < 12) : dpt (l ++ [c]) d = some (e + 1) := by
  rw [dpt_app h, dpt_cons, if_neg (by omega), if_pos (by omega), if_pos he]; rfl
theorem dpt_join {l : List Nat} {c d e : Nat} (h : dpt l d = some (e + 1)) (he : 1 ≤ e) (hc : 13 ≤ c) : dpt (l ++ [c]) d = some e := by
  rw [dpt_app h, dpt_cons, if_neg (by omega), if_neg (by omega), if_pos (by omega)]; rfl
theorem cok_snoc {an c : Nat} {l : List Nat} (h : cok an l) (h1 : c < 16) (h2 : c < 10 → c < an) : cok an (l ++ [c]) := by
  intro d hd
  rcases List.mem_append.mp hd with q | q
  · exact h d q
  · rw [List.mem_singleton.mp q]; exact ⟨h1, h2⟩
theorem cok_more {an am : Nat} {l : List Nat} (h : cok an l) (q : an ≤ am) : cok am l := fun c hc => ⟨(h c hc).1, fun z => by have := (h c hc).2 z; omega⟩
theorem wfW_w {w : Nat} {W : List Nat} (h : wfW (w :: W)) : 1 ≤ w ∧ w ≤ 5 := by
  obtain ⟨h, _⟩ := h
  omega
theorem len_W : ∀ {W : List Nat}, wfW W → W.length ≤ 3 * opW W + (if tp W = 3 then 2 else if tp W = 4 then 1 else 0) := by
  intro W
  induction W with
  | nil => intro _; exact Nat.zero_le _
  | cons w W ih =>
    intro h
    obtain ⟨h1, h2⟩ := h
    have i := ih h2
    have i2 : W.length ≤ 3 * opW W + 2 := by
      by_cases q3 : tp W = 3
      · rw [if_pos q3] at i; omega
      · rw [if_neg q3] at i
        by_cases q4 : tp W = 4
        · rw [if_pos q4] at i; omega
        · rw [if_neg q4] at i; omega
    show W.length + 1 ≤ 3 * (opW W + (if w = 3 ∨ w = 4 then 0 else 1)) + (if w = 3 then 2 else if w = 4 then 1 else 0)
    rcases h1 with rfl | rfl | ⟨rfl, q2, q3⟩ | ⟨rfl | rfl, q⟩
    · rw [if_neg (by decide), if_neg (by decide), if_neg (by decide)]; omega
    · rw [if_neg (by decide), if_neg (by decide), if_neg (by decide)]; omega
    · rw [if_pos (by decide), if_pos rfl]
      rw [if_neg q3] at i
      by_cases q4 : tp W = 4
      · rw [if_pos q4] at i; omega
      · rw [if_neg q4] at i; omega
    · rw [if_pos (by decide), if_neg (by decide), if_pos rfl]
      rw [if_neg (by omega), if_neg (by omega)] at i
      omega
    · rw [if_neg (by decide), if_neg (by decide), if_neg (by decide)]
      rw [if_neg (by omega), if_neg (by omega)] at i
      omega
theorem popTo_ok {an m : Nat} : ∀ (W cs : List Nat), wfW W → wfW (popTo m W cs).1 ∧ (tp (popTo m W cs).1 ≤ 1 ∨ m < tp (popTo m W cs).1) ∧ (popTo m W cs).1.length + (popTo m W cs).2.length = W.length + cs.length ∧ opW (popTo m W cs).1 ≤ opW W ∧ bnW (popTo m W cs).1 ≤ bnW W ∧ brW (popTo m W cs).1 = brW W ∧ (dpt cs 0 = some (bnW W + 1) → dpt (popTo m W cs).2 0 = some (bnW (popTo m W cs).1 + 1)) ∧ (cok an cs → cok an (popTo m W cs).2) := by
  intro W
  induction W with
  | nil => intro cs h; exact ⟨h, Or.inl (Nat.zero_le _), rfl, Nat.le_refl _, Nat.le_refl _, rfl, fun h => h, fun h => h⟩
  | cons w W ih =>
    intro cs h
    have hw := wfW_w h
    unfold popTo
    by_cases q : 1 < w ∧ w ≤ m
    · rw [if_pos q]
      obtain ⟨a1, a2, a3, a4, a5, a6, a7, a8⟩ := ih (cs ++ [w + 10]) h.2
      refine ⟨a1, a2, ?_, ?_, ?_, ?_, fun d => a7 ?_, fun c => a8 (cok_snoc c (by omega) (fun z => by omega))⟩
      · rw [a3, List.length_append]; show W.length + (cs.length + 1) = W.length + 1 + cs.length; omega
      · show _ ≤ opW W + _; omega
      · show _ ≤ bnW W + _; omega
      · rw [a6]; show _ = brW W + (if w = 1 then 1 else 0); rw [if_neg (by omega)]; rfl
      · by_cases q2 : w = 2
        · subst q2
          exact dpt_not d (by omega)
        · have d' : dpt cs 0 = some (bnW W + 1 + 1) := by
            rw [d]; show some (bnW W + (if w = 1 ∨ w = 2 then 0 else 1) + 1) = _; rw [if_neg (by omega)]
          exact dpt_join d' (by omega) (by omega)
    · rw [if_neg q]
      exact ⟨h, (by show w ≤ 1 ∨ m < w; omega), rfl, Nat.le_refl _, Nat.le_refl _, rfl, fun h => h, fun h => h⟩
theorem fndA_le {A : Ed} {q : Nat × Nat × Int} {an : Nat} : ∀ f k, k ≤ an → fndA A q an f k ≤ an := by
  intro f
  induction f with
  | zero => intro k h; exact h
  | succ f ih =>
    intro k h
    unfold fndA
    by_cases c : k < an ∧ A k ≠ q
    · rw [if_pos c]; exact ih (k + 1) (by omega)
    · rw [if_neg c]; exact h
theorem ordQ_wf {x y : Nat} {c : Int} (hx : x < 16) (hy : y < 16) (h1 : -1000001 ≤ c) (h2 : c ≤ 1000000) : (ordQ x y c).1 < 16 ∧ (ordQ x y c).2.1 < 16 ∧ -1000001 ≤ (ordQ x y c).2.2 ∧ (ordQ x y c).2.2 ≤ 1000000 := by
  unfold ordQ
  by_cases q : x < y
  · rw [if_pos q]; exact ⟨hx, hy, h1, h2⟩
  · rw [if_neg q]; exact ⟨hy, hx, by show -1000001 ≤ -c - 1; omega, by show -c - 1 ≤ 1000000; omega⟩
/-- codes and atoms: sound, and so deep -/
def Cok (D : Nat) (C : Cp) : Prop := C.2.1 ≤ 10 ∧ Awf C.2.1 C.2.2 ∧ cok C.2.1 C.1 ∧ dpt C.1 0 = some D
theorem turn_ok {D an x y : Nat} {l : List Nat} (h1 : cok an l) (h2 : dpt l 0 = some D) (hD : 1 ≤ D) : cok an (l ++ (if x < y then [] else [12])) ∧ dpt (l ++ (if x < y then [] else [12])) 0 = some D := by
  by_cases q : x < y
  · rw [if_pos q, List.append_nil]; exact ⟨h1, h2⟩
  · rw [if_neg q]; exact ⟨cok_snoc h1 (by decide) (fun z => by omega), dpt_not h2 hD⟩
theorem atM_ok {D x y : Nat} {c : Int} {C C' : Cp} (h : Cok D C) (hD : D < 32) (hx : x < 16) (hy : y < 16) (h1 : -1000001 ≤ c) (h2 : c ≤ 1000000) (e : atM C x y c = some C') : Cok (D + 1) C' ∧ C'.1.length ≤ C.1.length + 2 := by
  obtain ⟨a1, a2, a3, a4⟩ := h
  have two : ∀ l : List Nat, (l ++ (if x < y then [] else [12])).length ≤ l.length + 1 := fun l => by
    by_cases q : x < y
    · rw [if_pos q, List.append_nil]; omega
    · rw [if_neg q, List.length_append]; exact Nat.le_refl _
  unfold atM at e
  by_cases q1 : x = y
  · rw [if_pos q1] at e
    have := Option.some.inj e
    subst this
    have c2 : (if c < 0 then 10 else 11) < 12 ∧ 10 ≤ (if c < 0 then 10 else 11) := by
      by_cases q : c < 0
      · rw [if_pos q]; decide
      · rw [if_neg q]; decide
    exact ⟨⟨a1, a2, cok_snoc a3 (by omega) (fun z => by omega), dpt_leaf a4 hD c2.1⟩, by rw [List.length_append]; show C.1.length + 1 ≤ _; omega⟩
  · rw [if_neg q1] at e
    by_cases q2 : fndA C.2.2 (ordQ x y c) C.2.1 11 0 < C.2.1
    · rw [if_pos q2] at e
      have := Option.some.inj e
      subst this
      generalize fndA C.2.2 (ordQ x y c) C.2.1 11 0 = k at q2
      have c1 : cok C.2.1 (C.1 ++ [k]) := cok_snoc a3 (by omega) (fun _ => q2)
      have d1 : dpt (C.1 ++ [k]) 0 = some (D + 1) := dpt_leaf a4 hD (by omega)
      obtain ⟨t1, t2⟩ := turn_ok (x := x) (y := y) c1 d1 (by omega)
      have ap : C.1 ++ k :: (if x < y then [] else [12]) = (C.1 ++ [k]) ++ (if x < y then [] else [12]) := by rw [List.append_assoc]; rfl
      have ln := two (C.1 ++ [k])
      have ll : (C.1 ++ [k]).length = C.1.length + 1 := by rw [List.length_append]; rfl
      rw [← ap] at t1 t2 ln
      exact ⟨⟨a1, a2, t1, t2⟩, by show (C.1 ++ k :: (if x < y then [] else [12])).length ≤ _; omega⟩
    · rw [if_neg q2] at e
      by_cases q3 : C.2.1 < 10
      · rw [if_pos q3] at e
        have := Option.some.inj e
        subst this
        have c1 : cok (C.2.1 + 1) (C.1 ++ [C.2.1]) := cok_snoc (cok_more a3 (by omega)) (by omega) (fun _ => by omega)
        have d1 : dpt (C.1 ++ [C.2.1]) 0 = some (D + 1) := dpt_leaf a4 hD (by omega)
        obtain ⟨t1, t2⟩ := turn_ok (x := x) (y := y) c1 d1 (by omega)
        have ap : C.1 ++ C.2.1 :: (if x < y then [] else [12]) = (C.1 ++ [C.2.1]) ++ (if x < y then [] else [12]) := by rw [List.append_assoc]; rfl
        have ln := two (C.1 ++ [C.2.1])
        have ll : (C.1 ++ [C.2.1]).length = C.1.length + 1 := by rw [List.length_append]; rfl
        rw [← ap] at t1 t2 ln
        refine ⟨⟨by show C.2.1 + 1 ≤ 10; omega, fun k hk => ?_, t1, t2⟩, by show (C.1 ++ C.2.1 :: (if x < y then [] else [12])).length ≤ _; omega⟩
        by_cases qk : k = C.2.1
        · show (upE C.2.2 C.2.1 (ordQ x y c) k).1 < 16 ∧ (upE C.2.2 C.2.1 (ordQ x y c) k).2.1 < 16 ∧ -1000001 ≤ (upE C.2.2 C.2.1 (ordQ x y c) k).2.2 ∧ (upE C.2.2 C.2.1 (ordQ x y c) k).2.2 ≤ 1000000
          rw [qk, upE_eq]
          exact ordQ_wf hx hy h1 h2
        · show (upE C.2.2 C.2.1 (ordQ x y c) k).1 < 16 ∧ (upE C.2.2 C.2.1 (ordQ x y c) k).2.1 < 16 ∧ -1000001 ≤ (upE C.2.2 C.2.1 (ordQ x y c) k).2.2 ∧ (upE C.2.2 C.2.1 (ordQ x y c) k).2.2 ≤ 1000000
          rw [upE_ne qk]
          exact a2 k (by have : k < C.2.1 + 1 := hk; omega)
      · rw [if_neg q3] at e; cases e
theorem cmpS_ok {D r x y : Nat} {n : Int} {C C' : Cp} (h : Cok D C) (hD : D < 31) (hx : x < 16) (hy : y < 16) (h1 : -1000000 ≤ n) (h2 : n ≤ 1000000) (e : cmpS C r x y n = some C') : Cok (D + 1) C' ∧ C'.1.length ≤ C.1.length + 7 := by
  unfold cmpS at e
  by_cases q1 : r = 61 ∨ r = 35
  · rw [if_pos q1] at e
    cases e1 : atM C x y n with
    | none => rw [e1] at e; cases e
    | some C1 =>
      rw [e1, Option.bind_some] at e
      obtain ⟨b1, l1⟩ := atM_ok h (by omega) hx hy (by omega) (by omega) e1
      cases e2 : atM C1 x y (n - 1) with
      | none => rw [e2] at e; cases e
      | some C2 =>
        rw [e2, Option.bind_some] at e
        obtain ⟨⟨b2, b3, b4, b5⟩, l2⟩ := atM_ok b1 (by omega) hx hy (by omega) (by omega) e2
        have := Option.some.inj e
        subst this
        have k1 := cok_snoc b4 (show 12 < 16 by decide) (fun z => by omega)
        have k2 := cok_snoc k1 (show 13 < 16 by decide) (fun z => by omega)
        have d1 := dpt_not b5 (by omega)
        have d2 := dpt_join d1 (by omega) (show 13 ≤ 13 by decide)
        have ap : ∀ l : List Nat, C2.1 ++ 12 :: 13 :: l = (C2.1 ++ [12] ++ [13]) ++ l := fun l => by rw [List.append_assoc, List.append_assoc]; rfl
        by_cases q2 : r = 35
        · rw [if_pos q2, ap]
          exact ⟨⟨b2, b3, cok_snoc k2 (by decide) (fun z => by omega), dpt_not d2 (by omega)⟩, by simp only [List.length_append, List.length_cons, List.length_nil]; omega⟩
        · rw [if_neg q2, ap, List.append_nil]
          exact ⟨⟨b2, b3, k2, d2⟩, by simp only [List.length_append, List.length_cons, List.length_nil]; omega⟩
  · rw [if_neg q1] at e
    cases e1 : atM C x y (if r = 60 ∨ r = 257 then n - 1 else n) with
    | none => rw [e1] at e; cases e
    | some C1 =>
      rw [e1, Option.bind_some] at e
      have rg : -1000001 ≤ (if r = 60 ∨ r = 257 then n - 1 else n) ∧ (if r = 60 ∨ r = 257 then n - 1 else n) ≤ 1000000 := by
        by_cases q : r = 60 ∨ r = 257
        · rw [if_pos q]; omega
        · rw [if_neg q]; omega
      obtain ⟨⟨b2, b3, b4, b5⟩, l1⟩ := atM_ok h (by omega) hx hy rg.1 rg.2 e1
      have := Option.some.inj e
      subst this
      by_cases q2 : r = 62 ∨ r = 257
      · rw [if_pos q2]
        exact ⟨⟨b2, b3, cok_snoc b4 (by decide) (fun z => by omega), dpt_not b5 (by omega)⟩, by simp only [List.length_append, List.length_cons, List.length_nil]; omega⟩
      · rw [if_neg q2, List.append_nil]
        exact ⟨⟨b2, b3, b4, b5⟩, by show C1.1.length ≤ _; omega⟩
def dS (st : Nat) : Nat := if st = 1 then 1 else if st = 2 then 2 else if st = 3 then 3 else if st = 4 then 2 else if st = 5 then 3 else 0
def dB (st : Nat) : Nat := if st = 6 then 3 else dS st
def dU (st : Nat) : Nat := if st = 6 then 1 else 0
def Iv (t : Nat) (S : Sp) : Prop := S.1 ≤ 6 ∧ wfW S.2.2.1 ∧ opW S.2.2.1 ≤ 20 ∧ (S.1 = 6 → tp S.2.2.1 ≠ 2 ∧ tp S.2.2.1 ≠ 3) ∧ 3 * (S.2.2.2.1.length + S.2.2.1.length) + 7 * dS S.1 ≤ 7 * t ∧ 4 * bnW S.2.2.1 + dB S.1 ≤ t ∧ Cok (bnW S.2.2.1 + dU S.1) S.2.2.2 ∧ S.2.1.1 < 16 ∧ S.2.1.2.1 < 16 ∧ (S.1 = 4 ∨ S.1 = 5 → isRel S.2.1.2.2.1)
theorem Iv0 : Iv 0 Sp0 := ⟨by decide, trivial, by decide, fun h => absurd h (by decide), by decide, by decide, ⟨by decide, fun k hk => absurd hk (Nat.not_lt_zero k), (fun c hc => absurd hc (List.not_mem_nil)), rfl⟩, by decide, by decide, fun h => absurd h (by decide)⟩
theorem Iv_mk {t st x y r an : Nat} {ng : Bool} {W cs : List Nat} {A : Ed} (h : st ≤ 6 ∧ wfW W ∧ opW W ≤ 20 ∧ (st = 6 → tp W ≠ 2 ∧ tp W ≠ 3) ∧ 3 * (cs.length + W.length) + 7 * dS st ≤ 7 * t ∧ 4 * bnW W + dB st ≤ t ∧ Cok (bnW W + dU st) (cs, an, A) ∧ x < 16 ∧ y < 16 ∧ (st = 4 ∨ st = 5 → isRel r)) : Iv t (st, (x, y, r, ng), W, cs, an, A) := h
theorem Iv_step {t k v : Nat} {S : Sp} (h : Iv t S) (ht : t ≤ 101) (hv : k = 259 → v < 16) (hn : k = 260 → v ≤ 1000000) (e : (stp k v S).1 = 0) : Iv (t + 1) (stp k v S).2 := by
  obtain ⟨st, ⟨x, y, r, ng⟩, W, cs, an, A⟩ := S
  obtain ⟨h1, h2, h3, h4, h5, h6, h7, h8, h9, h10⟩ := h
  dsimp only at h1 h2 h3 h4 h5 h6 h7 h8 h9 h10
  have lw := len_W h2
  unfold stp at e ⊢
  dsimp only at e ⊢
  by_cases q0 : k = 262
  · rw [if_pos q0] at e; cases e
  · rw [if_neg q0] at e ⊢
    by_cases s0 : st = 0
    · subst s0
      rw [if_pos rfl] at e ⊢
      have D0 : dS 0 = 0 := rfl
      have B0 : dB 0 = 0 := rfl
      have U0 : dU 0 = 0 := rfl
      by_cases k1 : k = 259
      · rw [if_pos k1]
        exact Iv_mk ⟨by decide, h2, h3, fun z => absurd z (show ¬ (1 : Nat) = 6 by decide), by show _ + 7 * 1 ≤ _; omega, by show _ + 1 ≤ _; omega, h7, hv k1, (by decide : (0 : Nat) < 16), fun z => absurd z (show ¬ ((1 : Nat) = 4 ∨ (1 : Nat) = 5) by decide)⟩
      · rw [if_neg k1] at e ⊢
        by_cases k2 : k = 40 ∨ k = 126
        · rw [if_pos k2] at e ⊢
          by_cases k3 : opW W < 20
          · rw [if_pos k3]
            have w12 : (if k = 40 then 1 else 2) = 1 ∨ (if k = 40 then 1 else 2) = 2 := by
              by_cases z : k = 40
              · rw [if_pos z]; exact Or.inl rfl
              · rw [if_neg z]; exact Or.inr rfl
            generalize (if k = 40 then 1 else 2) = w at w12
            have bn : bnW (w :: W) = bnW W := by show bnW W + (if w = 1 ∨ w = 2 then 0 else 1) = _; rw [if_pos w12]; rfl
            have op : opW (w :: W) = opW W + 1 := by show opW W + (if w = 3 ∨ w = 4 then 0 else 1) = _; rw [if_neg (by omega)]
            refine Iv_mk ⟨by decide, ⟨?_, h2⟩, ?_, fun z => absurd z (show ¬ (0 : Nat) = 6 by decide), ?_, ?_, ?_, h8, h9, fun z => absurd z (show ¬ ((0 : Nat) = 4 ∨ (0 : Nat) = 5) by decide)⟩
            · rcases w12 with z | z
              · exact Or.inl z
              · exact Or.inr (Or.inl z)
            · show opW (w :: W) ≤ 20; omega
            · show 3 * (cs.length + (W.length + 1)) + 7 * dS 0 ≤ _; omega
            · show 4 * bnW (w :: W) + dB 0 ≤ _; omega
            · show Cok (bnW (w :: W) + dU 0) (cs, an, A); rw [bn]; exact h7
          · rw [if_neg k3] at e; cases e
        · rw [if_neg k2] at e; cases e
    · rw [if_neg s0] at e ⊢
      by_cases s2 : st = 2
      · subst s2
        rw [if_pos rfl] at e ⊢
        have D0 : dS 2 = 2 := rfl
        have B0 : dB 2 = 2 := rfl
        by_cases k1 : k = 259
        · rw [if_pos k1]
          exact Iv_mk ⟨by decide, h2, h3, fun z => absurd z (show ¬ (3 : Nat) = 6 by decide), by show _ + 7 * 3 ≤ _; omega, by show _ + 3 ≤ _; omega, h7, h8, hv k1, fun z => absurd z (show ¬ ((3 : Nat) = 4 ∨ (3 : Nat) = 5) by decide)⟩
        · rw [if_neg k1] at e; cases e
      · rw [if_neg s2] at e ⊢
        by_cases s45 : st = 4 ∨ st = 5
        · rw [if_pos s45] at e ⊢
          by_cases k1 : k = 45 ∧ st = 4
          · rw [if_pos k1]
            have s4 := k1.2
            subst s4
            have D0 : dS 4 = 2 := rfl
            have B0 : dB 4 = 2 := rfl
            exact Iv_mk ⟨by decide, h2, h3, fun z => absurd z (show ¬ (5 : Nat) = 6 by decide), by show _ + 7 * 3 ≤ _; omega, by show _ + 3 ≤ _; omega, h7, h8, h9, fun _ => h10 (Or.inl rfl)⟩
          · rw [if_neg k1] at e ⊢
            by_cases k2 : k = 260
            · rw [if_pos k2] at e ⊢
              have hv2 := hn k2
              have D0 : 2 ≤ dS st := by rcases s45 with z | z <;> rw [z] <;> decide
              have B0 : 2 ≤ dB st := by rcases s45 with z | z <;> rw [z] <;> decide
              have U0 : dU st = 0 := by rcases s45 with z | z <;> rw [z] <;> rfl
              rw [U0] at h7
              cases ec : cmpS (cs, an, A) r x y (if ng = true then -(v : Int) else (v : Int)) with
              | none => rw [ec] at e; cases e
              | some C =>
                have rg : -1000000 ≤ (if ng = true then -(v : Int) else (v : Int)) ∧ (if ng = true then -(v : Int) else (v : Int)) ≤ 1000000 := by
                  by_cases z : ng = true
                  · rw [if_pos z]; omega
                  · rw [if_neg z]; omega
                obtain ⟨⟨c1, c2, c3, c4⟩, l1⟩ := cmpS_ok h7 (by omega) h8 h9 rg.1 rg.2 ec
                have l1' : C.1.length ≤ cs.length + 7 := l1
                obtain ⟨a1, a2, a3, a4, a5, a6, a7, a8⟩ := popTo_ok (an := C.2.1) (m := 3) W C.1 h2
                refine Iv_mk ⟨Nat.le_refl 6, a1, Nat.le_trans a4 h3, fun _ => ?_, ?_, ?_, ⟨c1, c2, a8 c3, a7 c4⟩, h8, h9, fun z => absurd z (show ¬ ((6 : Nat) = 4 ∨ (6 : Nat) = 5) by decide)⟩
                · show tp (popTo 3 W C.1).1 ≠ 2 ∧ tp (popTo 3 W C.1).1 ≠ 3; omega
                · show 3 * ((popTo 3 W C.1).2.length + (popTo 3 W C.1).1.length) + 7 * 0 ≤ _; omega
                · show 4 * bnW (popTo 3 W C.1).1 + 3 ≤ _; omega
            · rw [if_neg k2] at e; cases e
        · rw [if_neg s45] at e ⊢
          by_cases s6 : st = 6
          · subst s6
            rw [if_pos rfl] at e ⊢
            have D0 : dS 6 = 0 := rfl
            have B0 : dB 6 = 3 := rfl
            have E0 : dS 0 = 0 := rfl
            have F0 : dB 0 = 0 := rfl
            obtain ⟨t2, t3⟩ := h4 rfl
            have h7' : Cok (bnW W + 1) (cs, an, A) := h7
            obtain ⟨c1, c2, c3, c4⟩ := h7'
            have n0 : ∀ {P : Prop}, ((0 : Nat) = 4 ∨ (0 : Nat) = 5) → P := fun z => absurd z (by decide)
            have n6 : ∀ {P : Prop}, (0 : Nat) = 6 → P := fun z => absurd z (by decide)
            by_cases k1 : k = 38
            · rw [if_pos k1]
              refine Iv_mk ⟨by decide, ⟨Or.inr (Or.inr (Or.inl ⟨rfl, t2, t3⟩)), h2⟩, h3, n6, ?_, ?_, ⟨c1, c2, c3, c4⟩, h8, h9, n0⟩
              · show 3 * (cs.length + (W.length + 1)) + 7 * dS 0 ≤ _; omega
              · show 4 * (bnW W + 1) + dB 0 ≤ _; omega
            · rw [if_neg k1] at e ⊢
              obtain ⟨a1, a2, a3, a4, a5, a6, a7, a8⟩ := popTo_ok (an := an) (m := 4) W cs h2
              have t4 : tp (popTo 4 W cs).1 = 0 ∨ tp (popTo 4 W cs).1 = 1 ∨ tp (popTo 4 W cs).1 = 5 := by
                have : tp (popTo 4 W cs).1 ≤ 5 := by
                  revert a1
                  generalize (popTo 4 W cs).1 = V
                  cases V with
                  | nil => intro _; exact Nat.zero_le 5
                  | cons w V => intro a1; exact (wfW_w a1).2
                omega
              by_cases k2 : k = 124
              · rw [if_pos k2]
                refine Iv_mk ⟨by decide, ⟨Or.inr (Or.inr (Or.inr ⟨Or.inl rfl, t4⟩)), a1⟩, Nat.le_trans a4 h3, n6, ?_, ?_, ⟨c1, c2, a8 c3, a7 c4⟩, h8, h9, n0⟩
                · show 3 * ((popTo 4 W cs).2.length + ((popTo 4 W cs).1.length + 1)) + 7 * dS 0 ≤ _; omega
                · show 4 * (bnW (popTo 4 W cs).1 + 1) + dB 0 ≤ _; omega
              · rw [if_neg k2] at e ⊢
                by_cases k3 : k = 258
                · rw [if_pos k3] at e ⊢
                  by_cases k4 : opW (popTo 4 W cs).1 < 20
                  · rw [if_pos k4]
                    refine Iv_mk ⟨by decide, ⟨Or.inr (Or.inr (Or.inr ⟨Or.inr rfl, t4⟩)), a1⟩, ?_, n6, ?_, ?_, ⟨c1, c2, a8 c3, a7 c4⟩, h8, h9, n0⟩
                    · show opW (popTo 4 W cs).1 + 1 ≤ 20; omega
                    · show 3 * ((popTo 4 W cs).2.length + ((popTo 4 W cs).1.length + 1)) + 7 * dS 0 ≤ _; omega
                    · show 4 * (bnW (popTo 4 W cs).1 + 1) + dB 0 ≤ _; omega
                  · rw [if_neg k4] at e; cases e
                · rw [if_neg k3] at e ⊢
                  by_cases k4 : k = 41
                  · rw [if_pos k4] at e ⊢
                    by_cases k5 : brW W = 0
                    · rw [if_pos k5] at e; cases e
                    · rw [if_neg k5]
                      obtain ⟨b1, b2, b3, b4, b5, b6, b7, b8⟩ := popTo_ok (an := an) (m := 5) W cs h2
                      have b7' := b7 c4
                      have b8' := b8 c3
                      generalize (popTo 5 W cs).1 = V at b1 b2 b3 b4 b5 b6 b7' ⊢
                      generalize (popTo 5 W cs).2 = ds at b3 b7' b8' ⊢
                      cases V with
                      | nil => exact absurd b6.symm k5
                      | cons w V =>
                        have w1 : w = 1 := by have := wfW_w b1; have : w ≤ 1 ∨ 5 < w := b2; omega
                        subst w1
                        have ln : (1 :: V).length = V.length + 1 := rfl
                        have bn : bnW (1 :: V) = bnW V := rfl
                        have op : opW (1 :: V) = opW V + 1 := rfl
                        obtain ⟨d1, d2, d3, d4, d5, d6, d7, d8⟩ := popTo_ok (an := an) (m := 3) V ds b1.2
                        refine Iv_mk ⟨Nat.le_refl 6, d1, ?_, fun _ => ?_, ?_, ?_, ⟨c1, c2, d8 b8', d7 b7'⟩, h8, h9, fun z => absurd z (show ¬ ((6 : Nat) = 4 ∨ (6 : Nat) = 5) by decide)⟩
                        · show opW (popTo 3 V ds).1 ≤ 20; omega
                        · show tp (popTo 3 V ds).1 ≠ 2 ∧ tp (popTo 3 V ds).1 ≠ 3; omega
                        · show 3 * ((popTo 3 V ds).2.length + (popTo 3 V ds).1.length) + 7 * 0 ≤ _; omega
                        · show 4 * bnW (popTo 3 V ds).1 + 3 ≤ _; omega
                  · rw [if_neg k4] at e; cases e
          · rw [if_neg s6] at e ⊢
            by_cases k1 : k = 45 ∧ st = 1
            · rw [if_pos k1]
              have s1 := k1.2
              subst s1
              have D0 : dS 1 = 1 := rfl
              have B0 : dB 1 = 1 := rfl
              exact Iv_mk ⟨by decide, h2, h3, fun z => absurd z (show ¬ (2 : Nat) = 6 by decide), by show _ + 7 * 2 ≤ _; omega, by show _ + 2 ≤ _; omega, h7, h8, h9, fun z => absurd z (show ¬ ((2 : Nat) = 4 ∨ (2 : Nat) = 5) by decide)⟩
            · rw [if_neg k1] at e ⊢
              by_cases k2 : isRel k
              · rw [if_pos k2]
                have D0 : 1 ≤ dS st := by have : st = 1 ∨ st = 3 := by omega
                                          rcases this with z | z <;> rw [z] <;> decide
                have B0 : 1 ≤ dB st := by have : st = 1 ∨ st = 3 := by omega
                                          rcases this with z | z <;> rw [z] <;> decide
                have U0 : dU st = 0 := by unfold dU; rw [if_neg s6]
                rw [U0] at h7
                exact Iv_mk ⟨by decide, h2, h3, fun z => absurd z (show ¬ (4 : Nat) = 6 by decide), by show _ + 7 * 2 ≤ _; omega, by show _ + 2 ≤ _; omega, h7, h8, h9, fun _ => k2⟩
              · rw [if_neg k2] at e; cases e
