/-! WALKS, on: potentials, joining and cutting -/
section CUT
variable {ed : Ed} {ok : Nat → Prop} {t : Nat}
def Pot (ed : Ed) (ok : Nat → Prop) (v : Nat → Int) : Prop := ∀ e, ok e → v (ed e).1 ≤ v (ed e).2.1 + (ed e).2.2
theorem Wk.pot {v : Nat → Int} (hv : Pot ed ok v) : ∀ {j u : Nat} {s : Int}, Wk ed ok t j u s → v u ≤ v t + s := by
  intro j
  induction j with
  | zero => rintro u s ⟨rfl, rfl⟩; omega
  | succ j ih =>
    rintro u s ⟨e, h1, rfl, s', h3, rfl⟩
    have := hv e h1
    have := ih h3
    omega
theorem Wk.mono {ok' : Nat → Prop} (hm : ∀ e, ok e → ok' e) : ∀ {j u : Nat} {s : Int}, Wk ed ok t j u s → Wk ed ok' t j u s := by
  intro j
  induction j with
  | zero => intro u s h; exact h
  | succ j ih =>
    rintro u s ⟨e, h1, h2, s', h3, h4⟩
    exact ⟨e, hm e h1, h2, s', ih h3, h4⟩
theorem Wk.app {w : Nat} : ∀ {i u : Nat} {p : Int}, Wk ed ok w i u p → ∀ {j : Nat} {q : Int}, Wk ed ok t j w q → Wk ed ok t (i + j) u (p + q) := by
  intro i
  induction i with
  | zero => rintro u p ⟨rfl, rfl⟩ j q h; simpa using h
  | succ i ih =>
    rintro u p ⟨e, h1, h2, s', h3, rfl⟩ j q h
    rw [show i + 1 + j = (i + j) + 1 by omega]
    exact ⟨e, h1, h2, s' + q, ih h3 h, by omega⟩
/-- a walk keeps off u, or comes to it -/
theorem Wk.visit (u : Nat) : ∀ {j w : Nat} {s : Int}, Wk ed ok t j w s → (w ≠ u ∧ Wk ed (fun e => ok e ∧ (ed e).1 ≠ u ∧ (ed e).2.1 ≠ u) t j w s) ∨ ∃ i k p q, Wk ed ok u i w p ∧ Wk ed ok t k u q ∧ i + k = j ∧ p + q = s := by
  intro j
  induction j with
  | zero =>
    rintro w s ⟨rfl, rfl⟩
    by_cases h : w = u
    · subst h
      exact Or.inr ⟨0, 0, 0, 0, ⟨rfl, rfl⟩, ⟨rfl, rfl⟩, rfl, rfl⟩
    · exact Or.inl ⟨h, rfl, rfl⟩
  | succ j ih =>
    intro w s hw
    by_cases h : w = u
    · subst h
      exact Or.inr ⟨0, j + 1, 0, s, ⟨rfl, rfl⟩, hw, by omega, by omega⟩
    · obtain ⟨e, h1, h2, s', h3, h4⟩ := hw
      rcases ih h3 with ⟨q1, q2⟩ | ⟨i, k, p, q, q1, q2, q3, q4⟩
      · exact Or.inl ⟨h, e, ⟨h1, by rw [h2]; exact h, q1⟩, h2, s', q2, h4⟩
      · exact Or.inr ⟨i + 1, k, (ed e).2.2 + p, q, ⟨e, h1, h2, p, q1, rfl⟩, q2, by omega, by omega⟩
/-- the last step off u: the rest of the walk doesn't come back -/
theorem Wk.last {v : Nat → Int} (hv : Pot ed ok v) {u : Nat} (hut : u ≠ t) : ∀ (j : Nat) {s : Int}, Wk ed ok t j u s → ∃ e k s1, ok e ∧ (ed e).1 = u ∧ (ed e).2.1 ≠ u ∧ Wk ed (fun e => ok e ∧ (ed e).1 ≠ u ∧ (ed e).2.1 ≠ u) t k (ed e).2.1 s1 ∧ (ed e).2.2 + s1 ≤ s := by
  intro j
  induction j using Nat.strongRecOn with
  | _ j ih =>
    intro s hw
    cases j with
    | zero => exact absurd hw.1 hut
    | succ j =>
      obtain ⟨e, h1, h2, s', h3, h4⟩ := hw
      rcases Wk.visit u h3 with ⟨q1, q2⟩ | ⟨i, k, p, q, q1, q2, q3, q4⟩
      · exact ⟨e, j, s', h1, h2, q1, q2, by omega⟩
      · have hc : Wk ed ok u (i + 1) u ((ed e).2.2 + p) := ⟨e, h1, h2, p, q1, rfl⟩
        have := Wk.pot hv hc
        obtain ⟨e2, k2, s2, a1, a2, a3, a4, a5⟩ := ih k (by omega) q2
        exact ⟨e2, k2, s2, a1, a2, a3, a4, by omega⟩
theorem Wk.cut {v : Nat → Int} : ∀ (m : Nat) (L : List Nat) (ok : Nat → Prop) {u : Nat} {j : Nat} {s : Int}, L.length = m → (∀ e, ok e → (ed e).1 ∈ L ∧ (ed e).2.1 ∈ L) → Pot ed ok v → u ∈ L → Wk ed ok t j u s → ∃ j' s', j' < m ∧ s' ≤ s ∧ Wk ed ok t j' u s' := by
  intro m
  induction m with
  | zero =>
    intro L ok u j s hL _ _ hu _
    rw [List.length_eq_zero_iff.mp hL] at hu
    cases hu
  | succ m ih =>
    intro L ok u j s hL hE hv hu hw
    by_cases hut : u = t
    · have := Wk.pot hv hw
      rw [hut] at this
      exact ⟨0, 0, by omega, by omega, hut, rfl⟩
    · obtain ⟨e, k, s1, h1, h2, h3, h4, h5⟩ := Wk.last hv hut j hw
      obtain ⟨j', s', a1, a2, a3⟩ := ih (L.erase u) _ (by rw [List.length_erase_of_mem hu, hL]; omega) (fun e q => ⟨(List.mem_erase_of_ne q.2.1).mpr (hE e q.1).1, (List.mem_erase_of_ne q.2.2).mpr (hE e q.1).2⟩) (fun e q => hv e q.1) ((List.mem_erase_of_ne h3).mpr (hE e h1).2) h4
      exact ⟨j' + 1, (ed e).2.2 + s', by omega, by omega, e, h1, h2, s', Wk.mono (fun _ q => q.1) a3, rfl⟩
/-- 15 differences are enough -/
theorem Wk.cut16 {v : Nat → Int} (hv : Pot ed ok v) (hE : ∀ e, ok e → (ed e).1 < 16 ∧ (ed e).2.1 < 16) {u j : Nat} {s : Int} (hu : u < 16) (hw : Wk ed ok t j u s) : ∃ j' s', j' ≤ 15 ∧ s' ≤ s ∧ Wk ed ok t j' u s' := by
  obtain ⟨j', s', h1, h2, h3⟩ := Wk.cut 16 (List.range 16) ok (by simp) (fun e q => ⟨List.mem_range.mpr (hE e q).1, List.mem_range.mpr (hE e q).2⟩) hv (List.mem_range.mpr hu) hw
  exact ⟨j', s', by omega, h2, h3⟩
theorem Wk.congr {ed' : Ed} {ok' : Nat → Prop} (ho : ∀ e, ok e ↔ ok' e) (he : ∀ e, ok e → ed e = ed' e) : ∀ {j u : Nat} {s : Int}, Wk ed ok t j u s ↔ Wk ed' ok' t j u s := by
  intro j
  induction j with
  | zero => intro u s; exact Iff.rfl
  | succ j ih =>
    intro u s
    constructor
    · rintro ⟨e, h1, h2, s', h3, h4⟩
      refine ⟨e, (ho e).mp h1, by rw [← he e h1]; exact h2, s', ?_, by rw [← he e h1]; exact h4⟩
      rw [← he e h1]
      exact ih.mp h3
    · rintro ⟨e, h1, h2, s', h3, h4⟩
      have h1' := (ho e).mpr h1
      refine ⟨e, h1', by rw [he e h1']; exact h2, s', ?_, by rw [he e h1']; exact h4⟩
      rw [he e h1']
      exact ih.mpr h3
end CUT
