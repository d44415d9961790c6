/-! the reference leaves cell 77 alone -/
def K77 {α : Type} (h : xHp) (o : Option (α × xHp)) : Prop := ∀ r, o = some r → r.2.2.1 77 = h.2.1 77
theorem K77_none {α : Type} {h : xHp} : K77 h (none : Option (α × xHp)) := fun _ e => by cases e
theorem K77_some {α : Type} {h : xHp} {v : α} : K77 h (some (v, h)) := fun _ e => by cases e; rfl
theorem K77_ite {α : Type} {h : xHp} {c : Prop} [Decidable c] {a b : Option (α × xHp)} (ha : K77 h a) (hb : K77 h b) : K77 h (if c then a else b) := by split; exact ha; exact hb
theorem K77_grd {α : Type} {h : xHp} {c : Bool} {a : Option (α × xHp)} (ha : K77 h a) : K77 h (grd c a) := fun r e => ha r (grd_of e).2
theorem K77_bndI {α : Type} {h : xHp} {c k : Nat} {v : Int32} {f : xHp → Option (α × xHp)} (hf : ∀ h1, K77 h1 (f h1)) : K77 h (bnd (sI h c k v) f) := fun r e => hf (sI h c k v) r e
theorem K77_bndJ {α : Type} {h : xHp} {c k : Nat} {v : Int64} {f : xHp → Option (α × xHp)} (hc : (77 : Nat) ≠ c) (hf : ∀ h1, K77 h1 (f h1)) : K77 h (bnd (sJ h c k v) f) := fun r e => (hf (sJ h c k v) r e).trans (va_up_ne _ _ hc)
theorem K77_bnd {α β : Type} {h : xHp} {a : β} {f : β → Option (α × xHp)} (hf : ∀ x, K77 h (f x)) : K77 h (bnd a f) := hf a
theorem K77_bnd2 {α β : Type} {h : xHp} {a : Option (β × xHp)} {f : β → xHp → Option (α × xHp)} (ha : K77 h a) (hf : ∀ v h1, K77 h1 (f v h1)) : K77 h (bnd2 a f) := fun r e => by
  obtain ⟨q, hq, he⟩ := bnd2_of e
  exact (hf q.1 q.2 r he).trans (ha q hq)
theorem kf_X9_thrown (N : Nat) (h : xHp) : K77 h (F_X9_thrown N h) := by
  unfold F_X9_thrown
  repeat' (first | with_reducible exact K77_some | with_reducible exact K77_none | with_reducible refine K77_ite ?_ ?_ | with_reducible refine K77_grd ?_ | with_reducible refine K77_bnd2 ?_ (fun _ _ => ?_) | with_reducible refine K77_bndI (fun _ => ?_) | with_reducible refine K77_bndJ (by decide) (fun _ => ?_) | with_reducible refine K77_bnd (fun _ => ?_) | with_reducible intro _)
theorem kf_X9_isIn_17 (N : Nat) (h : xHp) : K77 h (F_X9_isIn_17 N h) := by
  unfold F_X9_isIn_17
  repeat' (first | with_reducible exact K77_some | with_reducible exact K77_none | with_reducible refine K77_ite ?_ ?_ | with_reducible refine K77_grd ?_ | with_reducible refine K77_bnd2 ?_ (fun _ _ => ?_) | with_reducible refine K77_bndI (fun _ => ?_) | with_reducible refine K77_bndJ (by decide) (fun _ => ?_) | with_reducible refine K77_bnd (fun _ => ?_) | with_reducible intro _)
theorem kf_X9_isIn (N : Nat) (p0 : Int64) (p2 : Int64) (p4 : Int64) (h : xHp) : K77 h (F_X9_isIn N p0 p2 p4 h) := by
  unfold F_X9_isIn
  repeat' (first | with_reducible exact K77_some | with_reducible exact K77_none | with_reducible refine kf_X9_isIn_17 _ _  | with_reducible refine K77_ite ?_ ?_ | with_reducible refine K77_grd ?_ | with_reducible refine K77_bnd2 ?_ (fun _ _ => ?_) | with_reducible refine K77_bndI (fun _ => ?_) | with_reducible refine K77_bndJ (by decide) (fun _ => ?_) | with_reducible refine K77_bnd (fun _ => ?_) | with_reducible intro _)
theorem kf_X9_may_26 (N : Nat) (s1 : Int32) (h : xHp) : K77 h (F_X9_may_26 N s1 h) := by
  unfold F_X9_may_26
  repeat' (first | with_reducible exact K77_some | with_reducible exact K77_none | with_reducible refine K77_ite ?_ ?_ | with_reducible refine K77_grd ?_ | with_reducible refine K77_bnd2 ?_ (fun _ _ => ?_) | with_reducible refine K77_bndI (fun _ => ?_) | with_reducible refine K77_bndJ (by decide) (fun _ => ?_) | with_reducible refine K77_bnd (fun _ => ?_) | with_reducible intro _)
theorem kf_X9_may (N : Nat) (p1 : Int32) (p2 : Int32) (p3 : Int32) (h : xHp) : K77 h (F_X9_may N p1 p2 p3 h) := by
  unfold F_X9_may
  repeat' (first | with_reducible exact K77_some | with_reducible exact K77_none | with_reducible refine kf_X9_may_26 _ _ _  | with_reducible refine K77_ite ?_ ?_ | with_reducible refine K77_grd ?_ | with_reducible refine K77_bnd2 ?_ (fun _ _ => ?_) | with_reducible refine K77_bndI (fun _ => ?_) | with_reducible refine K77_bndJ (by decide) (fun _ => ?_) | with_reducible refine K77_bnd (fun _ => ?_) | with_reducible intro _)
theorem kf_X9_isVariable (N : Nat) (p1 : Int32) (h : xHp) : K77 h (F_X9_isVariable N p1 h) := by
  unfold F_X9_isVariable
  repeat' (first | with_reducible exact K77_some | with_reducible exact K77_none | with_reducible refine kf_X9_isIn _ _ _ _ _  | with_reducible refine K77_ite ?_ ?_ | with_reducible refine K77_grd ?_ | with_reducible refine K77_bnd2 ?_ (fun _ _ => ?_) | with_reducible refine K77_bndI (fun _ => ?_) | with_reducible refine K77_bndJ (by decide) (fun _ => ?_) | with_reducible refine K77_bnd (fun _ => ?_) | with_reducible intro _)
theorem kf_X9_constraintsAlone_26 (N : Nat) (k2 : Int32 → xHp → Option (Unit × xHp)) (x1 : Int32) (s2 : Int32) (s1 : Int32) (h : xHp) (h_k2 : ∀ y0 hh, K77 hh (k2 y0 hh)) : K77 h (F_X9_constraintsAlone_26 N k2 x1 s2 s1 h) := by
  unfold F_X9_constraintsAlone_26
  repeat' (first | with_reducible exact K77_some | with_reducible exact K77_none | with_reducible exact h_k2 _ _  | with_reducible refine K77_ite ?_ ?_ | with_reducible refine K77_grd ?_ | with_reducible refine K77_bnd2 ?_ (fun _ _ => ?_) | with_reducible refine K77_bndI (fun _ => ?_) | with_reducible refine K77_bndJ (by decide) (fun _ => ?_) | with_reducible refine K77_bnd (fun _ => ?_) | with_reducible intro _)
theorem kf_X9_constraintsAlone_2_b (N : Nat) (k2 : Int32 → xHp → Option (Unit × xHp)) (x1 : Int32) (h : xHp) (h_k2 : ∀ y0 hh, K77 hh (k2 y0 hh)) : K77 h (F_X9_constraintsAlone_2_b N k2 x1 h) := by
  unfold F_X9_constraintsAlone_2_b
  repeat' (first | with_reducible exact K77_some | with_reducible exact K77_none | with_reducible exact h_k2 _ _  | with_reducible refine kf_X9_constraintsAlone_26 _ _ _ _ _ _ ?_ | with_reducible refine K77_ite ?_ ?_ | with_reducible refine K77_grd ?_ | with_reducible refine K77_bnd2 ?_ (fun _ _ => ?_) | with_reducible refine K77_bndI (fun _ => ?_) | with_reducible refine K77_bndJ (by decide) (fun _ => ?_) | with_reducible refine K77_bnd (fun _ => ?_) | with_reducible intro _)
theorem kf_X9_constraintsAlone_2 (N : Nat) (x1 : Int32) (h : xHp) : K77 h (F_X9_constraintsAlone_2 N x1 h) := by
  have key : ∀ n z0 z1, K77 z1 (xit (F_X9_constraintsAlone_2_b N) (fun _ _ => none) n z0 z1) := by
    intro n
    induction n with
    | zero => intros; exact K77_none
    | succ n ih => intros; exact kf_X9_constraintsAlone_2_b N _ _ _ ih
  exact key N _ _
theorem kf_X9_constraintsAlone (N : Nat) (h : xHp) : K77 h (F_X9_constraintsAlone N h) := by
  unfold F_X9_constraintsAlone
  repeat' (first | with_reducible exact K77_some | with_reducible exact K77_none | with_reducible refine kf_X9_constraintsAlone_2 _ _ _  | with_reducible refine K77_ite ?_ ?_ | with_reducible refine K77_grd ?_ | with_reducible refine K77_bnd2 ?_ (fun _ _ => ?_) | with_reducible refine K77_bndI (fun _ => ?_) | with_reducible refine K77_bndJ (by decide) (fun _ => ?_) | with_reducible refine K77_bnd (fun _ => ?_) | with_reducible intro _)
theorem kf_X9_findLeast_26 (N : Nat) (k2 : Int32 → Int32 → xHp → Option (Unit × xHp)) (x1 : Int32) (x2 : Int32) (s2 : Int64) (s1 : Int32) (h : xHp) (h_k2 : ∀ y0 y1 hh, K77 hh (k2 y0 y1 hh)) : K77 h (F_X9_findLeast_26 N k2 x1 x2 s2 s1 h) := by
  unfold F_X9_findLeast_26
  repeat' (first | with_reducible exact K77_some | with_reducible exact K77_none | with_reducible exact h_k2 _ _ _  | with_reducible refine K77_ite ?_ ?_ | with_reducible refine K77_grd ?_ | with_reducible refine K77_bnd2 ?_ (fun _ _ => ?_) | with_reducible refine K77_bndI (fun _ => ?_) | with_reducible refine K77_bndJ (by decide) (fun _ => ?_) | with_reducible refine K77_bnd (fun _ => ?_) | with_reducible intro _)
theorem kf_X9_findLeast_156 (N : Nat) (k35 : Int32 → xHp → Option (Unit × xHp)) (k43 : Int32 → Int32 → xHp → Option (Unit × xHp)) (x2 : Int32) (x3 : Int32) (h : xHp) (h_k35 : ∀ y0 hh, K77 hh (k35 y0 hh)) (h_k43 : ∀ y0 y1 hh, K77 hh (k43 y0 y1 hh)) : K77 h (F_X9_findLeast_156 N k35 k43 x2 x3 h) := by
  unfold F_X9_findLeast_156
  repeat' (first | with_reducible exact K77_some | with_reducible exact K77_none | with_reducible exact h_k35 _ _  | with_reducible exact h_k43 _ _ _  | with_reducible refine K77_ite ?_ ?_ | with_reducible refine K77_grd ?_ | with_reducible refine K77_bnd2 ?_ (fun _ _ => ?_) | with_reducible refine K77_bndI (fun _ => ?_) | with_reducible refine K77_bndJ (by decide) (fun _ => ?_) | with_reducible refine K77_bnd (fun _ => ?_) | with_reducible intro _)
theorem kf_X9_findLeast_155 (N : Nat) (k35 : Int32 → xHp → Option (Unit × xHp)) (k43 : Int32 → Int32 → xHp → Option (Unit × xHp)) (x2 : Int32) (x3 : Int32) (s2 : Int64) (s1 : Int32) (h : xHp) (h_k35 : ∀ y0 hh, K77 hh (k35 y0 hh)) (h_k43 : ∀ y0 y1 hh, K77 hh (k43 y0 y1 hh)) : K77 h (F_X9_findLeast_155 N k35 k43 x2 x3 s2 s1 h) := by
  unfold F_X9_findLeast_155
  repeat' (first | with_reducible exact K77_some | with_reducible exact K77_none | with_reducible exact h_k35 _ _  | with_reducible exact h_k43 _ _ _  | with_reducible refine kf_X9_findLeast_156 _ _ _ _ _ _ ?_ ?_ | with_reducible refine K77_ite ?_ ?_ | with_reducible refine K77_grd ?_ | with_reducible refine K77_bnd2 ?_ (fun _ _ => ?_) | with_reducible refine K77_bndI (fun _ => ?_) | with_reducible refine K77_bndJ (by decide) (fun _ => ?_) | with_reducible refine K77_bnd (fun _ => ?_) | with_reducible intro _)
theorem kf_X9_findLeast_43_b (N : Nat) (k35 : Int32 → xHp → Option (Unit × xHp)) (k43 : Int32 → Int32 → xHp → Option (Unit × xHp)) (x2 : Int32) (x3 : Int32) (h : xHp) (h_k35 : ∀ y0 hh, K77 hh (k35 y0 hh)) (h_k43 : ∀ y0 y1 hh, K77 hh (k43 y0 y1 hh)) : K77 h (F_X9_findLeast_43_b N k35 k43 x2 x3 h) := by
  unfold F_X9_findLeast_43_b
  repeat' (first | with_reducible exact K77_some | with_reducible exact K77_none | with_reducible exact h_k35 _ _  | with_reducible exact h_k43 _ _ _  | with_reducible refine kf_X9_findLeast_156 _ _ _ _ _ _ ?_ ?_ | with_reducible refine kf_X9_findLeast_155 _ _ _ _ _ _ _ _ ?_ ?_ | with_reducible refine K77_ite ?_ ?_ | with_reducible refine K77_grd ?_ | with_reducible refine K77_bnd2 ?_ (fun _ _ => ?_) | with_reducible refine K77_bndI (fun _ => ?_) | with_reducible refine K77_bndJ (by decide) (fun _ => ?_) | with_reducible refine K77_bnd (fun _ => ?_) | with_reducible intro _)
theorem kf_X9_findLeast_43 (N : Nat) (k35 : Int32 → xHp → Option (Unit × xHp)) (x2 : Int32) (x3 : Int32) (h : xHp) (h_k35 : ∀ y0 hh, K77 hh (k35 y0 hh)) : K77 h (F_X9_findLeast_43 N k35 x2 x3 h) := by
  have key : ∀ n z0 z1 z2, K77 z2 (xit (F_X9_findLeast_43_b N k35) (fun _ _ _ => none) n z0 z1 z2) := by
    intro n
    induction n with
    | zero => intros; exact K77_none
    | succ n ih => intros; exact kf_X9_findLeast_43_b N k35 _ _ _ _ h_k35 ih
  exact key N _ _ _
theorem kf_X9_findLeast_35_b (N : Nat) (k35 : Int32 → xHp → Option (Unit × xHp)) (x2 : Int32) (h : xHp) (h_k35 : ∀ y0 hh, K77 hh (k35 y0 hh)) : K77 h (F_X9_findLeast_35_b N k35 x2 h) := by
  unfold F_X9_findLeast_35_b
  repeat' (first | with_reducible exact K77_some | with_reducible exact K77_none | with_reducible exact h_k35 _ _  | with_reducible refine kf_X9_findLeast_43 _ _ _ _ _ ?_ | with_reducible refine K77_ite ?_ ?_ | with_reducible refine K77_grd ?_ | with_reducible refine K77_bnd2 ?_ (fun _ _ => ?_) | with_reducible refine K77_bndI (fun _ => ?_) | with_reducible refine K77_bndJ (by decide) (fun _ => ?_) | with_reducible refine K77_bnd (fun _ => ?_) | with_reducible intro _)
theorem kf_X9_findLeast_35 (N : Nat) (x2 : Int32) (h : xHp) : K77 h (F_X9_findLeast_35 N x2 h) := by
  have key : ∀ n z0 z1, K77 z1 (xit (F_X9_findLeast_35_b N) (fun _ _ => none) n z0 z1) := by
    intro n
    induction n with
    | zero => intros; exact K77_none
    | succ n ih => intros; exact kf_X9_findLeast_35_b N _ _ _ ih
  exact key N _ _
theorem kf_X9_findLeast_2_b (N : Nat) (k2 : Int32 → Int32 → xHp → Option (Unit × xHp)) (x1 : Int32) (x2 : Int32) (h : xHp) (h_k2 : ∀ y0 y1 hh, K77 hh (k2 y0 y1 hh)) : K77 h (F_X9_findLeast_2_b N k2 x1 x2 h) := by
  unfold F_X9_findLeast_2_b
  repeat' (first | with_reducible exact K77_some | with_reducible exact K77_none | with_reducible exact h_k2 _ _ _  | with_reducible refine kf_X9_findLeast_35 _ _ _  | with_reducible refine kf_X9_findLeast_26 _ _ _ _ _ _ _ ?_ | with_reducible refine K77_ite ?_ ?_ | with_reducible refine K77_grd ?_ | with_reducible refine K77_bnd2 ?_ (fun _ _ => ?_) | with_reducible refine K77_bndI (fun _ => ?_) | with_reducible refine K77_bndJ (by decide) (fun _ => ?_) | with_reducible refine K77_bnd (fun _ => ?_) | with_reducible intro _)
theorem kf_X9_findLeast_2 (N : Nat) (x1 : Int32) (x2 : Int32) (h : xHp) : K77 h (F_X9_findLeast_2 N x1 x2 h) := by
  have key : ∀ n z0 z1 z2, K77 z2 (xit (F_X9_findLeast_2_b N) (fun _ _ _ => none) n z0 z1 z2) := by
    intro n
    induction n with
    | zero => intros; exact K77_none
    | succ n ih => intros; exact kf_X9_findLeast_2_b N _ _ _ _ ih
  exact key N _ _ _
theorem kf_X9_findLeast (N : Nat) (p1 : Int32) (h : xHp) : K77 h (F_X9_findLeast N p1 h) := by
  unfold F_X9_findLeast
  repeat' (first | with_reducible exact K77_some | with_reducible exact K77_none | with_reducible refine kf_X9_findLeast_2 _ _ _ _  | with_reducible refine K77_ite ?_ ?_ | with_reducible refine K77_grd ?_ | with_reducible refine K77_bnd2 ?_ (fun _ _ => ?_) | with_reducible refine K77_bndI (fun _ => ?_) | with_reducible refine K77_bndJ (by decide) (fun _ => ?_) | with_reducible refine K77_bnd (fun _ => ?_) | with_reducible intro _)
theorem kf_X9_findRow_170 (N : Nat) (k62 : Int64 → Int32 → Int64 → Int32 → xHp → Option (Int32 × xHp)) (k74 : Int64 → Int32 → Int64 → Int32 → Int32 → xHp → Option (Int32 × xHp)) (x3 : Int64) (x6 : Int32) (x7 : Int64) (x9 : Int32) (x10 : Int32) (h : xHp) (h_k62 : ∀ y0 y1 y2 y3 hh, K77 hh (k62 y0 y1 y2 y3 hh)) (h_k74 : ∀ y0 y1 y2 y3 y4 hh, K77 hh (k74 y0 y1 y2 y3 y4 hh)) : K77 h (F_X9_findRow_170 N k62 k74 x3 x6 x7 x9 x10 h) := by
  unfold F_X9_findRow_170
  repeat' (first | with_reducible exact K77_some | with_reducible exact K77_none | with_reducible exact h_k62 _ _ _ _ _  | with_reducible exact h_k74 _ _ _ _ _ _  | with_reducible refine K77_ite ?_ ?_ | with_reducible refine K77_grd ?_ | with_reducible refine K77_bnd2 ?_ (fun _ _ => ?_) | with_reducible refine K77_bndI (fun _ => ?_) | with_reducible refine K77_bndJ (by decide) (fun _ => ?_) | with_reducible refine K77_bnd (fun _ => ?_) | with_reducible intro _)
theorem kf_X9_findRow_74_b (N : Nat) (k62 : Int64 → Int32 → Int64 → Int32 → xHp → Option (Int32 × xHp)) (k74 : Int64 → Int32 → Int64 → Int32 → Int32 → xHp → Option (Int32 × xHp)) (x3 : Int64) (x6 : Int32) (x7 : Int64) (x9 : Int32) (x10 : Int32) (h : xHp) (h_k62 : ∀ y0 y1 y2 y3 hh, K77 hh (k62 y0 y1 y2 y3 hh)) (h_k74 : ∀ y0 y1 y2 y3 y4 hh, K77 hh (k74 y0 y1 y2 y3 y4 hh)) : K77 h (F_X9_findRow_74_b N k62 k74 x3 x6 x7 x9 x10 h) := by
  unfold F_X9_findRow_74_b
  repeat' (first | with_reducible exact K77_some | with_reducible exact K77_none | with_reducible exact h_k62 _ _ _ _ _  | with_reducible exact h_k74 _ _ _ _ _ _  | with_reducible refine kf_X9_findRow_170 _ _ _ _ _ _ _ _ _ ?_ ?_ | with_reducible refine K77_ite ?_ ?_ | with_reducible refine K77_grd ?_ | with_reducible refine K77_bnd2 ?_ (fun _ _ => ?_) | with_reducible refine K77_bndI (fun _ => ?_) | with_reducible refine K77_bndJ (by decide) (fun _ => ?_) | with_reducible refine K77_bnd (fun _ => ?_) | with_reducible intro _)
theorem kf_X9_findRow_74 (N : Nat) (k62 : Int64 → Int32 → Int64 → Int32 → xHp → Option (Int32 × xHp)) (x3 : Int64) (x6 : Int32) (x7 : Int64) (x9 : Int32) (x10 : Int32) (h : xHp) (h_k62 : ∀ y0 y1 y2 y3 hh, K77 hh (k62 y0 y1 y2 y3 hh)) : K77 h (F_X9_findRow_74 N k62 x3 x6 x7 x9 x10 h) := by
  have key : ∀ n z0 z1 z2 z3 z4 z5, K77 z5 (xit (F_X9_findRow_74_b N k62) (fun _ _ _ _ _ _ => none) n z0 z1 z2 z3 z4 z5) := by
    intro n
    induction n with
    | zero => intros; exact K77_none
    | succ n ih => intros; exact kf_X9_findRow_74_b N k62 _ _ _ _ _ _ _ h_k62 ih
  exact key N _ _ _ _ _ _
theorem kf_X9_findRow_62_b (N : Nat) (k62 : Int64 → Int32 → Int64 → Int32 → xHp → Option (Int32 × xHp)) (x3 : Int64) (x6 : Int32) (x7 : Int64) (x9 : Int32) (h : xHp) (h_k62 : ∀ y0 y1 y2 y3 hh, K77 hh (k62 y0 y1 y2 y3 hh)) : K77 h (F_X9_findRow_62_b N k62 x3 x6 x7 x9 h) := by
  unfold F_X9_findRow_62_b
  repeat' (first | with_reducible exact K77_some | with_reducible exact K77_none | with_reducible exact h_k62 _ _ _ _ _  | with_reducible refine kf_X9_findRow_74 _ _ _ _ _ _ _ _ ?_ | with_reducible refine K77_ite ?_ ?_ | with_reducible refine K77_grd ?_ | with_reducible refine K77_bnd2 ?_ (fun _ _ => ?_) | with_reducible refine K77_bndI (fun _ => ?_) | with_reducible refine K77_bndJ (by decide) (fun _ => ?_) | with_reducible refine K77_bnd (fun _ => ?_) | with_reducible intro _)
theorem kf_X9_findRow_62 (N : Nat) (x3 : Int64) (x6 : Int32) (x7 : Int64) (x9 : Int32) (h : xHp) : K77 h (F_X9_findRow_62 N x3 x6 x7 x9 h) := by
  have key : ∀ n z0 z1 z2 z3 z4, K77 z4 (xit (F_X9_findRow_62_b N) (fun _ _ _ _ _ => none) n z0 z1 z2 z3 z4) := by
    intro n
    induction n with
    | zero => intros; exact K77_none
    | succ n ih => intros; exact kf_X9_findRow_62_b N _ _ _ _ _ _ ih
  exact key N _ _ _ _ _
theorem kf_X9_findRow_38 (N : Nat) (x1 : Int32) (x3 : Int64) (x5 : Int32) (h : xHp) : K77 h (F_X9_findRow_38 N x1 x3 x5 h) := by
  unfold F_X9_findRow_38
  repeat' (first | with_reducible exact K77_some | with_reducible exact K77_none | with_reducible refine kf_X9_findRow_62 _ _ _ _ _ _  | with_reducible refine K77_ite ?_ ?_ | with_reducible refine K77_grd ?_ | with_reducible refine K77_bnd2 ?_ (fun _ _ => ?_) | with_reducible refine K77_bndI (fun _ => ?_) | with_reducible refine K77_bndJ (by decide) (fun _ => ?_) | with_reducible refine K77_bnd (fun _ => ?_) | with_reducible intro _)
theorem kf_X9_findRow_8_b (N : Nat) (k8 : Int32 → Int64 → Int32 → xHp → Option (Int32 × xHp)) (x1 : Int32) (x3 : Int64) (x5 : Int32) (h : xHp) (h_k8 : ∀ y0 y1 y2 hh, K77 hh (k8 y0 y1 y2 hh)) : K77 h (F_X9_findRow_8_b N k8 x1 x3 x5 h) := by
  unfold F_X9_findRow_8_b
  repeat' (first | with_reducible exact K77_some | with_reducible exact K77_none | with_reducible exact h_k8 _ _ _ _  | with_reducible refine kf_X9_findRow_38 _ _ _ _ _  | with_reducible refine K77_ite ?_ ?_ | with_reducible refine K77_grd ?_ | with_reducible refine K77_bnd2 ?_ (fun _ _ => ?_) | with_reducible refine K77_bndI (fun _ => ?_) | with_reducible refine K77_bndJ (by decide) (fun _ => ?_) | with_reducible refine K77_bnd (fun _ => ?_) | with_reducible intro _)
theorem kf_X9_findRow_8 (N : Nat) (x1 : Int32) (x3 : Int64) (x5 : Int32) (h : xHp) : K77 h (F_X9_findRow_8 N x1 x3 x5 h) := by
  have key : ∀ n z0 z1 z2 z3, K77 z3 (xit (F_X9_findRow_8_b N) (fun _ _ _ _ => none) n z0 z1 z2 z3) := by
    intro n
    induction n with
    | zero => intros; exact K77_none
    | succ n ih => intros; exact kf_X9_findRow_8_b N _ _ _ _ _ ih
  exact key N _ _ _ _
theorem kf_X9_findRow (N : Nat) (p1 : Int32) (p2 : Int32) (p3 : Int64) (h : xHp) : K77 h (F_X9_findRow N p1 p2 p3 h) := by
  unfold F_X9_findRow
  repeat' (first | with_reducible exact K77_some | with_reducible exact K77_none | with_reducible refine kf_X9_findLeast _ _ _  | with_reducible refine kf_X9_findRow_8 _ _ _ _ _  | with_reducible refine K77_ite ?_ ?_ | with_reducible refine K77_grd ?_ | with_reducible refine K77_bnd2 ?_ (fun _ _ => ?_) | with_reducible refine K77_bndI (fun _ => ?_) | with_reducible refine K77_bndJ (by decide) (fun _ => ?_) | with_reducible refine K77_bnd (fun _ => ?_) | with_reducible intro _)
theorem kf_X9_add_94_b (N : Nat) (k94 : Int32 → xHp → Option (Int32 × xHp)) (x4 : Int32) (h : xHp) (h_k94 : ∀ y0 hh, K77 hh (k94 y0 hh)) : K77 h (F_X9_add_94_b N k94 x4 h) := by
  unfold F_X9_add_94_b
  repeat' (first | with_reducible exact K77_some | with_reducible exact K77_none | with_reducible exact h_k94 _ _  | with_reducible refine K77_ite ?_ ?_ | with_reducible refine K77_grd ?_ | with_reducible refine K77_bnd2 ?_ (fun _ _ => ?_) | with_reducible refine K77_bndI (fun _ => ?_) | with_reducible refine K77_bndJ (by decide) (fun _ => ?_) | with_reducible refine K77_bnd (fun _ => ?_) | with_reducible intro _)
theorem kf_X9_add_94 (N : Nat) (x4 : Int32) (h : xHp) : K77 h (F_X9_add_94 N x4 h) := by
  have key : ∀ n z0 z1, K77 z1 (xit (F_X9_add_94_b N) (fun _ _ => none) n z0 z1) := by
    intro n
    induction n with
    | zero => intros; exact K77_none
    | succ n ih => intros; exact kf_X9_add_94_b N _ _ _ ih
  exact key N _ _
theorem kf_X9_add_47 (N : Nat) (x1 : Int32) (x2 : Int32) (x3 : Int32) (s3 : Int32) (s2 : Int32) (s1 : Int32) (h : xHp) : K77 h (F_X9_add_47 N x1 x2 x3 s3 s2 s1 h) := by
  unfold F_X9_add_47
  repeat' (first | with_reducible exact K77_some | with_reducible exact K77_none | with_reducible refine kf_X9_may _ _ _ _ _  | with_reducible refine kf_X9_constraintsAlone _ _  | with_reducible refine kf_X9_findRow _ _ _ _ _  | with_reducible refine kf_X9_add_94 _ _ _  | with_reducible refine K77_ite ?_ ?_ | with_reducible refine K77_grd ?_ | with_reducible refine K77_bnd2 ?_ (fun _ _ => ?_) | with_reducible refine K77_bndI (fun _ => ?_) | with_reducible refine K77_bndJ (by decide) (fun _ => ?_) | with_reducible refine K77_bnd (fun _ => ?_) | with_reducible intro _)
theorem kf_X9_add_22 (N : Nat) (x1 : Int32) (x2 : Int32) (x3 : Int32) (s1 : Int32) (h : xHp) : K77 h (F_X9_add_22 N x1 x2 x3 s1 h) := by
  unfold F_X9_add_22
  repeat' (first | with_reducible exact K77_some | with_reducible exact K77_none | with_reducible refine kf_X9_isIn _ _ _ _ _  | with_reducible refine kf_X9_add_47 _ _ _ _ _ _ _ _  | with_reducible refine K77_ite ?_ ?_ | with_reducible refine K77_grd ?_ | with_reducible refine K77_bnd2 ?_ (fun _ _ => ?_) | with_reducible refine K77_bndI (fun _ => ?_) | with_reducible refine K77_bndJ (by decide) (fun _ => ?_) | with_reducible refine K77_bnd (fun _ => ?_) | with_reducible intro _)
theorem kf_X9_add_21 (N : Nat) (x1 : Int32) (x2 : Int32) (x3 : Int32) (h : xHp) : K77 h (F_X9_add_21 N x1 x2 x3 h) := by
  unfold F_X9_add_21
  repeat' (first | with_reducible exact K77_some | with_reducible exact K77_none | with_reducible refine kf_X9_add_22 _ _ _ _ _ _  | with_reducible refine K77_ite ?_ ?_ | with_reducible refine K77_grd ?_ | with_reducible refine K77_bnd2 ?_ (fun _ _ => ?_) | with_reducible refine K77_bndI (fun _ => ?_) | with_reducible refine K77_bndJ (by decide) (fun _ => ?_) | with_reducible refine K77_bnd (fun _ => ?_) | with_reducible intro _)
theorem kf_X9_add (N : Nat) (p1 : Int32) (p2 : Int32) (p3 : Int32) (h : xHp) : K77 h (F_X9_add N p1 p2 p3 h) := by
  unfold F_X9_add
  repeat' (first | with_reducible exact K77_some | with_reducible exact K77_none | with_reducible refine kf_X9_isVariable _ _ _  | with_reducible refine kf_X9_add_21 _ _ _ _ _  | with_reducible refine kf_X9_add_22 _ _ _ _ _ _  | with_reducible refine K77_ite ?_ ?_ | with_reducible refine K77_grd ?_ | with_reducible refine K77_bnd2 ?_ (fun _ _ => ?_) | with_reducible refine K77_bndI (fun _ => ?_) | with_reducible refine K77_bndJ (by decide) (fun _ => ?_) | with_reducible refine K77_bnd (fun _ => ?_) | with_reducible intro _)
theorem kf_X9_push_15 (N : Nat) (s1 : Int32) (h : xHp) : K77 h (F_X9_push_15 N s1 h) := by
  unfold F_X9_push_15
  repeat' (first | with_reducible exact K77_some | with_reducible exact K77_none | with_reducible refine kf_X9_may _ _ _ _ _  | with_reducible refine K77_ite ?_ ?_ | with_reducible refine K77_grd ?_ | with_reducible refine K77_bnd2 ?_ (fun _ _ => ?_) | with_reducible refine K77_bndI (fun _ => ?_) | with_reducible refine K77_bndJ (by decide) (fun _ => ?_) | with_reducible refine K77_bnd (fun _ => ?_) | with_reducible intro _)
theorem kf_X9_push (N : Nat) (h : xHp) : K77 h (F_X9_push N h) := by
  unfold F_X9_push
  repeat' (first | with_reducible exact K77_some | with_reducible exact K77_none | with_reducible refine kf_X9_push_15 _ _ _  | with_reducible refine K77_ite ?_ ?_ | with_reducible refine K77_grd ?_ | with_reducible refine K77_bnd2 ?_ (fun _ _ => ?_) | with_reducible refine K77_bndI (fun _ => ?_) | with_reducible refine K77_bndJ (by decide) (fun _ => ?_) | with_reducible refine K77_bnd (fun _ => ?_) | with_reducible intro _)
theorem kf_X9_pop_53 (N : Nat) (s1 : Int32) (h : xHp) : K77 h (F_X9_pop_53 N s1 h) := by
  unfold F_X9_pop_53
  repeat' (first | with_reducible exact K77_some | with_reducible exact K77_none | with_reducible refine K77_ite ?_ ?_ | with_reducible refine K77_grd ?_ | with_reducible refine K77_bnd2 ?_ (fun _ _ => ?_) | with_reducible refine K77_bndI (fun _ => ?_) | with_reducible refine K77_bndJ (by decide) (fun _ => ?_) | with_reducible refine K77_bnd (fun _ => ?_) | with_reducible intro _)
theorem kf_X9_pop (N : Nat) (p1 : Int32) (h : xHp) : K77 h (F_X9_pop N p1 h) := by
  unfold F_X9_pop
  repeat' (first | with_reducible exact K77_some | with_reducible exact K77_none | with_reducible refine kf_X9_isIn _ _ _ _ _  | with_reducible refine kf_X9_may _ _ _ _ _  | with_reducible refine kf_X9_pop_53 _ _ _  | with_reducible refine K77_ite ?_ ?_ | with_reducible refine K77_grd ?_ | with_reducible refine K77_bnd2 ?_ (fun _ _ => ?_) | with_reducible refine K77_bndI (fun _ => ?_) | with_reducible refine K77_bndJ (by decide) (fun _ => ?_) | with_reducible refine K77_bnd (fun _ => ?_) | with_reducible intro _)
theorem kf_X9_core (N : Nat) (p1 : Int32) (h : xHp) : K77 h (F_X9_core N p1 h) := by
  unfold F_X9_core
  repeat' (first | with_reducible exact K77_some | with_reducible exact K77_none | with_reducible refine kf_X9_isIn _ _ _ _ _  | with_reducible refine kf_X9_may _ _ _ _ _  | with_reducible refine K77_ite ?_ ?_ | with_reducible refine K77_grd ?_ | with_reducible refine K77_bnd2 ?_ (fun _ _ => ?_) | with_reducible refine K77_bndI (fun _ => ?_) | with_reducible refine K77_bndJ (by decide) (fun _ => ?_) | with_reducible refine K77_bnd (fun _ => ?_) | with_reducible intro _)
theorem kf_X9_findValues_120 (N : Nat) (k25 : Int32 → Int32 → xHp → Option (Int32 × xHp)) (k39 : Int32 → Int32 → Int32 → xHp → Option (Int32 × xHp)) (x1 : Int32) (x2 : Int32) (x3 : Int32) (h : xHp) (h_k25 : ∀ y0 y1 hh, K77 hh (k25 y0 y1 hh)) (h_k39 : ∀ y0 y1 y2 hh, K77 hh (k39 y0 y1 y2 hh)) : K77 h (F_X9_findValues_120 N k25 k39 x1 x2 x3 h) := by
  unfold F_X9_findValues_120
  repeat' (first | with_reducible exact K77_some | with_reducible exact K77_none | with_reducible exact h_k25 _ _ _  | with_reducible exact h_k39 _ _ _ _  | with_reducible refine K77_ite ?_ ?_ | with_reducible refine K77_grd ?_ | with_reducible refine K77_bnd2 ?_ (fun _ _ => ?_) | with_reducible refine K77_bndI (fun _ => ?_) | with_reducible refine K77_bndJ (by decide) (fun _ => ?_) | with_reducible refine K77_bnd (fun _ => ?_) | with_reducible intro _)
theorem kf_X9_findValues_39_b (N : Nat) (k25 : Int32 → Int32 → xHp → Option (Int32 × xHp)) (k39 : Int32 → Int32 → Int32 → xHp → Option (Int32 × xHp)) (x1 : Int32) (x2 : Int32) (x3 : Int32) (h : xHp) (h_k25 : ∀ y0 y1 hh, K77 hh (k25 y0 y1 hh)) (h_k39 : ∀ y0 y1 y2 hh, K77 hh (k39 y0 y1 y2 hh)) : K77 h (F_X9_findValues_39_b N k25 k39 x1 x2 x3 h) := by
  unfold F_X9_findValues_39_b
  repeat' (first | with_reducible exact K77_some | with_reducible exact K77_none | with_reducible exact h_k25 _ _ _  | with_reducible exact h_k39 _ _ _ _  | with_reducible refine kf_X9_findValues_120 _ _ _ _ _ _ _ ?_ ?_ | with_reducible refine K77_ite ?_ ?_ | with_reducible refine K77_grd ?_ | with_reducible refine K77_bnd2 ?_ (fun _ _ => ?_) | with_reducible refine K77_bndI (fun _ => ?_) | with_reducible refine K77_bndJ (by decide) (fun _ => ?_) | with_reducible refine K77_bnd (fun _ => ?_) | with_reducible intro _)
theorem kf_X9_findValues_39 (N : Nat) (k25 : Int32 → Int32 → xHp → Option (Int32 × xHp)) (x1 : Int32) (x2 : Int32) (x3 : Int32) (h : xHp) (h_k25 : ∀ y0 y1 hh, K77 hh (k25 y0 y1 hh)) : K77 h (F_X9_findValues_39 N k25 x1 x2 x3 h) := by
  have key : ∀ n z0 z1 z2 z3, K77 z3 (xit (F_X9_findValues_39_b N k25) (fun _ _ _ _ => none) n z0 z1 z2 z3) := by
    intro n
    induction n with
    | zero => intros; exact K77_none
    | succ n ih => intros; exact kf_X9_findValues_39_b N k25 _ _ _ _ _ h_k25 ih
  exact key N _ _ _ _
theorem kf_X9_findValues_132 (N : Nat) (x1 : Int32) (h : xHp) : K77 h (F_X9_findValues_132 N x1 h) := by
  unfold F_X9_findValues_132
  repeat' (first | with_reducible exact K77_some | with_reducible exact K77_none | with_reducible refine K77_ite ?_ ?_ | with_reducible refine K77_grd ?_ | with_reducible refine K77_bnd2 ?_ (fun _ _ => ?_) | with_reducible refine K77_bndI (fun _ => ?_) | with_reducible refine K77_bndJ (by decide) (fun _ => ?_) | with_reducible refine K77_bnd (fun _ => ?_) | with_reducible intro _)
theorem kf_X9_findValues_25_b (N : Nat) (k25 : Int32 → Int32 → xHp → Option (Int32 × xHp)) (x1 : Int32) (x2 : Int32) (h : xHp) (h_k25 : ∀ y0 y1 hh, K77 hh (k25 y0 y1 hh)) : K77 h (F_X9_findValues_25_b N k25 x1 x2 h) := by
  unfold F_X9_findValues_25_b
  repeat' (first | with_reducible exact K77_some | with_reducible exact K77_none | with_reducible exact h_k25 _ _ _  | with_reducible refine kf_X9_findValues_132 _ _ _  | with_reducible refine kf_X9_findValues_39 _ _ _ _ _ _ ?_ | with_reducible refine K77_ite ?_ ?_ | with_reducible refine K77_grd ?_ | with_reducible refine K77_bnd2 ?_ (fun _ _ => ?_) | with_reducible refine K77_bndI (fun _ => ?_) | with_reducible refine K77_bndJ (by decide) (fun _ => ?_) | with_reducible refine K77_bnd (fun _ => ?_) | with_reducible intro _)
theorem kf_X9_findValues_25 (N : Nat) (x1 : Int32) (x2 : Int32) (h : xHp) : K77 h (F_X9_findValues_25 N x1 x2 h) := by
  have key : ∀ n z0 z1 z2, K77 z2 (xit (F_X9_findValues_25_b N) (fun _ _ _ => none) n z0 z1 z2) := by
    intro n
    induction n with
    | zero => intros; exact K77_none
    | succ n ih => intros; exact kf_X9_findValues_25_b N _ _ _ _ ih
  exact key N _ _ _
theorem kf_X9_findValues_2_b (N : Nat) (k2 : Int32 → xHp → Option (Int32 × xHp)) (x1 : Int32) (h : xHp) (h_k2 : ∀ y0 hh, K77 hh (k2 y0 hh)) : K77 h (F_X9_findValues_2_b N k2 x1 h) := by
  unfold F_X9_findValues_2_b
  repeat' (first | with_reducible exact K77_some | with_reducible exact K77_none | with_reducible exact h_k2 _ _  | with_reducible refine kf_X9_findValues_25 _ _ _ _  | with_reducible refine K77_ite ?_ ?_ | with_reducible refine K77_grd ?_ | with_reducible refine K77_bnd2 ?_ (fun _ _ => ?_) | with_reducible refine K77_bndI (fun _ => ?_) | with_reducible refine K77_bndJ (by decide) (fun _ => ?_) | with_reducible refine K77_bnd (fun _ => ?_) | with_reducible intro _)
theorem kf_X9_findValues_2 (N : Nat) (x1 : Int32) (h : xHp) : K77 h (F_X9_findValues_2 N x1 h) := by
  have key : ∀ n z0 z1, K77 z1 (xit (F_X9_findValues_2_b N) (fun _ _ => none) n z0 z1) := by
    intro n
    induction n with
    | zero => intros; exact K77_none
    | succ n ih => intros; exact kf_X9_findValues_2_b N _ _ _ ih
  exact key N _ _
theorem kf_X9_findValues (N : Nat) (h : xHp) : K77 h (F_X9_findValues N h) := by
  unfold F_X9_findValues
  repeat' (first | with_reducible exact K77_some | with_reducible exact K77_none | with_reducible refine kf_X9_findValues_2 _ _ _  | with_reducible refine K77_ite ?_ ?_ | with_reducible refine K77_grd ?_ | with_reducible refine K77_bnd2 ?_ (fun _ _ => ?_) | with_reducible refine K77_bndI (fun _ => ?_) | with_reducible refine K77_bndJ (by decide) (fun _ => ?_) | with_reducible refine K77_bnd (fun _ => ?_) | with_reducible intro _)
theorem kf_X9_value (N : Nat) (p1 : Int32) (h : xHp) : K77 h (F_X9_value N p1 h) := by
  unfold F_X9_value
  repeat' (first | with_reducible exact K77_some | with_reducible exact K77_none | with_reducible refine kf_X9_isVariable _ _ _  | with_reducible refine kf_X9_may _ _ _ _ _  | with_reducible refine kf_X9_constraintsAlone _ _  | with_reducible refine kf_X9_findValues _ _  | with_reducible refine K77_ite ?_ ?_ | with_reducible refine K77_grd ?_ | with_reducible refine K77_bnd2 ?_ (fun _ _ => ?_) | with_reducible refine K77_bndI (fun _ => ?_) | with_reducible refine K77_bndJ (by decide) (fun _ => ?_) | with_reducible refine K77_bnd (fun _ => ?_) | with_reducible intro _)
theorem kf_X9_boundOf_52 (N : Nat) (k12 : Int32 → Int64 → Int32 → xHp → Option (Int64 × xHp)) (x1 : Int32) (x5 : Int32) (s0 : Int64) (h : xHp) (h_k12 : ∀ y0 y1 y2 hh, K77 hh (k12 y0 y1 y2 hh)) : K77 h (F_X9_boundOf_52 N k12 x1 x5 s0 h) := by
  unfold F_X9_boundOf_52
  repeat' (first | with_reducible exact K77_some | with_reducible exact K77_none | with_reducible exact h_k12 _ _ _ _  | with_reducible refine K77_ite ?_ ?_ | with_reducible refine K77_grd ?_ | with_reducible refine K77_bnd2 ?_ (fun _ _ => ?_) | with_reducible refine K77_bndI (fun _ => ?_) | with_reducible refine K77_bndJ (by decide) (fun _ => ?_) | with_reducible refine K77_bnd (fun _ => ?_) | with_reducible intro _)
theorem kf_X9_boundOf_12_b (N : Nat) (k12 : Int32 → Int64 → Int32 → xHp → Option (Int64 × xHp)) (x1 : Int32) (x3 : Int64) (x5 : Int32) (h : xHp) (h_k12 : ∀ y0 y1 y2 hh, K77 hh (k12 y0 y1 y2 hh)) : K77 h (F_X9_boundOf_12_b N k12 x1 x3 x5 h) := by
  unfold F_X9_boundOf_12_b
  repeat' (first | with_reducible exact K77_some | with_reducible exact K77_none | with_reducible exact h_k12 _ _ _ _  | with_reducible refine kf_X9_boundOf_52 _ _ _ _ _ _ ?_ | with_reducible refine K77_ite ?_ ?_ | with_reducible refine K77_grd ?_ | with_reducible refine K77_bnd2 ?_ (fun _ _ => ?_) | with_reducible refine K77_bndI (fun _ => ?_) | with_reducible refine K77_bndJ (by decide) (fun _ => ?_) | with_reducible refine K77_bnd (fun _ => ?_) | with_reducible intro _)
theorem kf_X9_boundOf_12 (N : Nat) (x1 : Int32) (x3 : Int64) (x5 : Int32) (h : xHp) : K77 h (F_X9_boundOf_12 N x1 x3 x5 h) := by
  have key : ∀ n z0 z1 z2 z3, K77 z3 (xit (F_X9_boundOf_12_b N) (fun _ _ _ _ => none) n z0 z1 z2 z3) := by
    intro n
    induction n with
    | zero => intros; exact K77_none
    | succ n ih => intros; exact kf_X9_boundOf_12_b N _ _ _ _ _ ih
  exact key N _ _ _ _
theorem kf_X9_boundOf (N : Nat) (p1 : Int32) (p2 : Int32) (h : xHp) : K77 h (F_X9_boundOf N p1 p2 h) := by
  unfold F_X9_boundOf
  repeat' (first | with_reducible exact K77_some | with_reducible exact K77_none | with_reducible refine kf_X9_findLeast _ _ _  | with_reducible refine kf_X9_boundOf_12 _ _ _ _ _  | with_reducible refine K77_ite ?_ ?_ | with_reducible refine K77_grd ?_ | with_reducible refine K77_bnd2 ?_ (fun _ _ => ?_) | with_reducible refine K77_bndI (fun _ => ?_) | with_reducible refine K77_bndJ (by decide) (fun _ => ?_) | with_reducible refine K77_bnd (fun _ => ?_) | with_reducible intro _)
theorem kf_X9_bound_22 (N : Nat) (x1 : Int32) (x2 : Int32) (s1 : Int32) (h : xHp) : K77 h (F_X9_bound_22 N x1 x2 s1 h) := by
  unfold F_X9_bound_22
  repeat' (first | with_reducible exact K77_some | with_reducible exact K77_none | with_reducible refine kf_X9_may _ _ _ _ _  | with_reducible refine kf_X9_constraintsAlone _ _  | with_reducible refine kf_X9_boundOf _ _ _ _  | with_reducible refine K77_ite ?_ ?_ | with_reducible refine K77_grd ?_ | with_reducible refine K77_bnd2 ?_ (fun _ _ => ?_) | with_reducible refine K77_bndI (fun _ => ?_) | with_reducible refine K77_bndJ (by decide) (fun _ => ?_) | with_reducible refine K77_bnd (fun _ => ?_) | with_reducible intro _)
theorem kf_X9_bound_21 (N : Nat) (x1 : Int32) (x2 : Int32) (h : xHp) : K77 h (F_X9_bound_21 N x1 x2 h) := by
  unfold F_X9_bound_21
  repeat' (first | with_reducible exact K77_some | with_reducible exact K77_none | with_reducible refine kf_X9_bound_22 _ _ _ _ _  | with_reducible refine K77_ite ?_ ?_ | with_reducible refine K77_grd ?_ | with_reducible refine K77_bnd2 ?_ (fun _ _ => ?_) | with_reducible refine K77_bndI (fun _ => ?_) | with_reducible refine K77_bndJ (by decide) (fun _ => ?_) | with_reducible refine K77_bnd (fun _ => ?_) | with_reducible intro _)
theorem kf_X9_bound (N : Nat) (p1 : Int32) (p2 : Int32) (h : xHp) : K77 h (F_X9_bound N p1 p2 h) := by
  unfold F_X9_bound
  repeat' (first | with_reducible exact K77_some | with_reducible exact K77_none | with_reducible refine kf_X9_isVariable _ _ _  | with_reducible refine kf_X9_bound_21 _ _ _ _  | with_reducible refine kf_X9_bound_22 _ _ _ _ _  | with_reducible refine K77_ite ?_ ?_ | with_reducible refine K77_grd ?_ | with_reducible refine K77_bnd2 ?_ (fun _ _ => ?_) | with_reducible refine K77_bndI (fun _ => ?_) | with_reducible refine K77_bndJ (by decide) (fun _ => ?_) | with_reducible refine K77_bnd (fun _ => ?_) | with_reducible intro _)
theorem kf_X9_why_31 (N : Nat) (x1 : Int32) (x2 : Int32) (x3 : Int32) (s2 : Int32) (s1 : Int32) (h : xHp) : K77 h (F_X9_why_31 N x1 x2 x3 s2 s1 h) := by
  unfold F_X9_why_31
  repeat' (first | with_reducible exact K77_some | with_reducible exact K77_none | with_reducible refine kf_X9_may _ _ _ _ _  | with_reducible refine kf_X9_constraintsAlone _ _  | with_reducible refine kf_X9_boundOf _ _ _ _  | with_reducible refine kf_X9_findRow _ _ _ _ _  | with_reducible refine K77_ite ?_ ?_ | with_reducible refine K77_grd ?_ | with_reducible refine K77_bnd2 ?_ (fun _ _ => ?_) | with_reducible refine K77_bndI (fun _ => ?_) | with_reducible refine K77_bndJ (by decide) (fun _ => ?_) | with_reducible refine K77_bnd (fun _ => ?_) | with_reducible intro _)
theorem kf_X9_why_22 (N : Nat) (x1 : Int32) (x2 : Int32) (x3 : Int32) (s1 : Int32) (h : xHp) : K77 h (F_X9_why_22 N x1 x2 x3 s1 h) := by
  unfold F_X9_why_22
  repeat' (first | with_reducible exact K77_some | with_reducible exact K77_none | with_reducible refine kf_X9_why_31 _ _ _ _ _ _ _  | with_reducible refine K77_ite ?_ ?_ | with_reducible refine K77_grd ?_ | with_reducible refine K77_bnd2 ?_ (fun _ _ => ?_) | with_reducible refine K77_bndI (fun _ => ?_) | with_reducible refine K77_bndJ (by decide) (fun _ => ?_) | with_reducible refine K77_bnd (fun _ => ?_) | with_reducible intro _)
theorem kf_X9_why_21 (N : Nat) (x1 : Int32) (x2 : Int32) (x3 : Int32) (h : xHp) : K77 h (F_X9_why_21 N x1 x2 x3 h) := by
  unfold F_X9_why_21
  repeat' (first | with_reducible exact K77_some | with_reducible exact K77_none | with_reducible refine kf_X9_why_22 _ _ _ _ _ _  | with_reducible refine K77_ite ?_ ?_ | with_reducible refine K77_grd ?_ | with_reducible refine K77_bnd2 ?_ (fun _ _ => ?_) | with_reducible refine K77_bndI (fun _ => ?_) | with_reducible refine K77_bndJ (by decide) (fun _ => ?_) | with_reducible refine K77_bnd (fun _ => ?_) | with_reducible intro _)
theorem kf_X9_why (N : Nat) (p1 : Int32) (p2 : Int32) (p3 : Int32) (h : xHp) : K77 h (F_X9_why N p1 p2 p3 h) := by
  unfold F_X9_why
  repeat' (first | with_reducible exact K77_some | with_reducible exact K77_none | with_reducible refine kf_X9_isVariable _ _ _  | with_reducible refine kf_X9_why_21 _ _ _ _ _  | with_reducible refine kf_X9_why_22 _ _ _ _ _ _  | with_reducible refine K77_ite ?_ ?_ | with_reducible refine K77_grd ?_ | with_reducible refine K77_bnd2 ?_ (fun _ _ => ?_) | with_reducible refine K77_bndI (fun _ => ?_) | with_reducible refine K77_bndJ (by decide) (fun _ => ?_) | with_reducible refine K77_bnd (fun _ => ?_) | with_reducible intro _)
theorem kf_X9_isIdle (N : Nat) (p1 : Int32) (h : xHp) : K77 h (F_X9_isIdle N p1 h) := by
  unfold F_X9_isIdle
  repeat' (first | with_reducible exact K77_some | with_reducible exact K77_none | with_reducible refine kf_X9_constraintsAlone _ _  | with_reducible refine kf_X9_boundOf _ _ _ _  | with_reducible refine K77_ite ?_ ?_ | with_reducible refine K77_grd ?_ | with_reducible refine K77_bnd2 ?_ (fun _ _ => ?_) | with_reducible refine K77_bndI (fun _ => ?_) | with_reducible refine K77_bndJ (by decide) (fun _ => ?_) | with_reducible refine K77_bnd (fun _ => ?_) | with_reducible intro _)
theorem kf_X9_constraint_63 (N : Nat) (k37 : Int32 → Int32 → Int32 → Int32 → xHp → Option (Int32 × xHp)) (x1 : Int32) (x2 : Int32) (x4 : Int32) (s1 : Int32) (s0 : Int32) (h : xHp) (h_k37 : ∀ y0 y1 y2 y3 hh, K77 hh (k37 y0 y1 y2 y3 hh)) : K77 h (F_X9_constraint_63 N k37 x1 x2 x4 s1 s0 h) := by
  unfold F_X9_constraint_63
  repeat' (first | with_reducible exact K77_some | with_reducible exact K77_none | with_reducible exact h_k37 _ _ _ _ _  | with_reducible refine K77_ite ?_ ?_ | with_reducible refine K77_grd ?_ | with_reducible refine K77_bnd2 ?_ (fun _ _ => ?_) | with_reducible refine K77_bndI (fun _ => ?_) | with_reducible refine K77_bndJ (by decide) (fun _ => ?_) | with_reducible refine K77_bnd (fun _ => ?_) | with_reducible intro _)
theorem kf_X9_constraint_37_b (N : Nat) (k37 : Int32 → Int32 → Int32 → Int32 → xHp → Option (Int32 × xHp)) (x1 : Int32) (x2 : Int32) (x3 : Int32) (x4 : Int32) (h : xHp) (h_k37 : ∀ y0 y1 y2 y3 hh, K77 hh (k37 y0 y1 y2 y3 hh)) : K77 h (F_X9_constraint_37_b N k37 x1 x2 x3 x4 h) := by
  unfold F_X9_constraint_37_b
  repeat' (first | with_reducible exact K77_some | with_reducible exact K77_none | with_reducible exact h_k37 _ _ _ _ _  | with_reducible refine kf_X9_isIdle _ _ _  | with_reducible refine kf_X9_constraint_63 _ _ _ _ _ _ _ _ ?_ | with_reducible refine K77_ite ?_ ?_ | with_reducible refine K77_grd ?_ | with_reducible refine K77_bnd2 ?_ (fun _ _ => ?_) | with_reducible refine K77_bndI (fun _ => ?_) | with_reducible refine K77_bndJ (by decide) (fun _ => ?_) | with_reducible refine K77_bnd (fun _ => ?_) | with_reducible intro _)
theorem kf_X9_constraint_37 (N : Nat) (x1 : Int32) (x2 : Int32) (x3 : Int32) (x4 : Int32) (h : xHp) : K77 h (F_X9_constraint_37 N x1 x2 x3 x4 h) := by
  have key : ∀ n z0 z1 z2 z3 z4, K77 z4 (xit (F_X9_constraint_37_b N) (fun _ _ _ _ _ => none) n z0 z1 z2 z3 z4) := by
    intro n
    induction n with
    | zero => intros; exact K77_none
    | succ n ih => intros; exact kf_X9_constraint_37_b N _ _ _ _ _ _ ih
  exact key N _ _ _ _ _
theorem kf_X9_constraint (N : Nat) (p1 : Int32) (p2 : Int32) (h : xHp) : K77 h (F_X9_constraint N p1 p2 h) := by
  unfold F_X9_constraint
  repeat' (first | with_reducible exact K77_some | with_reducible exact K77_none | with_reducible refine kf_X9_isIn _ _ _ _ _  | with_reducible refine kf_X9_may _ _ _ _ _  | with_reducible refine kf_X9_constraint_37 _ _ _ _ _ _  | with_reducible refine K77_ite ?_ ?_ | with_reducible refine K77_grd ?_ | with_reducible refine K77_bnd2 ?_ (fun _ _ => ?_) | with_reducible refine K77_bndI (fun _ => ?_) | with_reducible refine K77_bndJ (by decide) (fun _ => ?_) | with_reducible refine K77_bnd (fun _ => ?_) | with_reducible intro _)
theorem kf_X9_feed_41_b (N : Nat) (k41 : Int64 → Int32 → xHp → Option (Int32 × xHp)) (x1 : Int64) (x4 : Int32) (h : xHp) (h_k41 : ∀ y0 y1 hh, K77 hh (k41 y0 y1 hh)) : K77 h (F_X9_feed_41_b N k41 x1 x4 h) := by
  unfold F_X9_feed_41_b
  repeat' (first | with_reducible exact K77_some | with_reducible exact K77_none | with_reducible exact h_k41 _ _ _  | with_reducible refine K77_ite ?_ ?_ | with_reducible refine K77_grd ?_ | with_reducible refine K77_bnd2 ?_ (fun _ _ => ?_) | with_reducible refine K77_bndI (fun _ => ?_) | with_reducible refine K77_bndJ (by decide) (fun _ => ?_) | with_reducible refine K77_bnd (fun _ => ?_) | with_reducible intro _)
theorem kf_X9_feed_41 (N : Nat) (x1 : Int64) (x4 : Int32) (h : xHp) : K77 h (F_X9_feed_41 N x1 x4 h) := by
  have key : ∀ n z0 z1 z2, K77 z2 (xit (F_X9_feed_41_b N) (fun _ _ _ => none) n z0 z1 z2) := by
    intro n
    induction n with
    | zero => intros; exact K77_none
    | succ n ih => intros; exact kf_X9_feed_41_b N _ _ _ _ ih
  exact key N _ _ _
theorem kf_X9_feed_27 (N : Nat) (x1 : Int64) (x3 : Int32) (s2 : Int32) (s1 : Int32) (h : xHp) : K77 h (F_X9_feed_27 N x1 x3 s2 s1 h) := by
  unfold F_X9_feed_27
  repeat' (first | with_reducible exact K77_some | with_reducible exact K77_none | with_reducible refine kf_X9_may _ _ _ _ _  | with_reducible refine kf_X9_feed_41 _ _ _ _  | with_reducible refine K77_ite ?_ ?_ | with_reducible refine K77_grd ?_ | with_reducible refine K77_bnd2 ?_ (fun _ _ => ?_) | with_reducible refine K77_bndI (fun _ => ?_) | with_reducible refine K77_bndJ (by decide) (fun _ => ?_) | with_reducible refine K77_bnd (fun _ => ?_) | with_reducible intro _)
theorem kf_X9_feed (N : Nat) (p1 : Int64) (p3 : Int32) (h : xHp) : K77 h (F_X9_feed N p1 p3 h) := by
  unfold F_X9_feed
  repeat' (first | with_reducible exact K77_some | with_reducible exact K77_none | with_reducible refine kf_X9_isIn _ _ _ _ _  | with_reducible refine kf_X9_feed_27 _ _ _ _ _ _  | with_reducible refine K77_ite ?_ ?_ | with_reducible refine K77_grd ?_ | with_reducible refine K77_bnd2 ?_ (fun _ _ => ?_) | with_reducible refine K77_bndI (fun _ => ?_) | with_reducible refine K77_bndJ (by decide) (fun _ => ?_) | with_reducible refine K77_bnd (fun _ => ?_) | with_reducible intro _)
theorem kf_X9_fail_26 (N : Nat) (x1 : Int32) (h : xHp) : K77 h (F_X9_fail_26 N x1 h) := by
  unfold F_X9_fail_26
  repeat' (first | with_reducible exact K77_some | with_reducible exact K77_none | with_reducible refine K77_ite ?_ ?_ | with_reducible refine K77_grd ?_ | with_reducible refine K77_bnd2 ?_ (fun _ _ => ?_) | with_reducible refine K77_bndI (fun _ => ?_) | with_reducible refine K77_bndJ (by decide) (fun _ => ?_) | with_reducible refine K77_bnd (fun _ => ?_) | with_reducible intro _)
theorem kf_X9_fail (N : Nat) (p1 : Int32) (h : xHp) : K77 h (F_X9_fail N p1 h) := by
  unfold F_X9_fail
  repeat' (first | with_reducible exact K77_some | with_reducible exact K77_none | with_reducible refine kf_X9_fail_26 _ _ _  | with_reducible refine K77_ite ?_ ?_ | with_reducible refine K77_grd ?_ | with_reducible refine K77_bnd2 ?_ (fun _ _ => ?_) | with_reducible refine K77_bndI (fun _ => ?_) | with_reducible refine K77_bndJ (by decide) (fun _ => ?_) | with_reducible refine K77_bnd (fun _ => ?_) | with_reducible intro _)
theorem kf_X9_byteAt (N : Nat) (p1 : Int32) (h : xHp) : K77 h (F_X9_byteAt N p1 h) := by
  unfold F_X9_byteAt
  repeat' (first | with_reducible exact K77_some | with_reducible exact K77_none | with_reducible refine K77_ite ?_ ?_ | with_reducible refine K77_grd ?_ | with_reducible refine K77_bnd2 ?_ (fun _ _ => ?_) | with_reducible refine K77_bndI (fun _ => ?_) | with_reducible refine K77_bndJ (by decide) (fun _ => ?_) | with_reducible refine K77_bnd (fun _ => ?_) | with_reducible intro _)
theorem kf_X9_isFigure_16 (N : Nat) (h : xHp) : K77 h (F_X9_isFigure_16 N h) := by
  unfold F_X9_isFigure_16
  repeat' (first | with_reducible exact K77_some | with_reducible exact K77_none | with_reducible refine K77_ite ?_ ?_ | with_reducible refine K77_grd ?_ | with_reducible refine K77_bnd2 ?_ (fun _ _ => ?_) | with_reducible refine K77_bndI (fun _ => ?_) | with_reducible refine K77_bndJ (by decide) (fun _ => ?_) | with_reducible refine K77_bnd (fun _ => ?_) | with_reducible intro _)
theorem kf_X9_isFigure (N : Nat) (p0 : Int32) (h : xHp) : K77 h (F_X9_isFigure N p0 h) := by
  unfold F_X9_isFigure
  repeat' (first | with_reducible exact K77_some | with_reducible exact K77_none | with_reducible refine kf_X9_isFigure_16 _ _  | with_reducible refine K77_ite ?_ ?_ | with_reducible refine K77_grd ?_ | with_reducible refine K77_bnd2 ?_ (fun _ _ => ?_) | with_reducible refine K77_bndI (fun _ => ?_) | with_reducible refine K77_bndJ (by decide) (fun _ => ?_) | with_reducible refine K77_bnd (fun _ => ?_) | with_reducible intro _)
theorem kf_X9_signToken_89 (N : Nat) (x1 : Int32) (h : xHp) : K77 h (F_X9_signToken_89 N x1 h) := by
  unfold F_X9_signToken_89
  repeat' (first | with_reducible exact K77_some | with_reducible exact K77_none | with_reducible refine kf_X9_fail _ _ _  | with_reducible refine K77_ite ?_ ?_ | with_reducible refine K77_grd ?_ | with_reducible refine K77_bnd2 ?_ (fun _ _ => ?_) | with_reducible refine K77_bndI (fun _ => ?_) | with_reducible refine K77_bndJ (by decide) (fun _ => ?_) | with_reducible refine K77_bnd (fun _ => ?_) | with_reducible intro _)
theorem kf_X9_signToken_60 (N : Nat) (x1 : Int32) (x2 : Int32) (h : xHp) : K77 h (F_X9_signToken_60 N x1 x2 h) := by
  unfold F_X9_signToken_60
  repeat' (first | with_reducible exact K77_some | with_reducible exact K77_none | with_reducible refine kf_X9_signToken_89 _ _ _  | with_reducible refine K77_ite ?_ ?_ | with_reducible refine K77_grd ?_ | with_reducible refine K77_bnd2 ?_ (fun _ _ => ?_) | with_reducible refine K77_bndI (fun _ => ?_) | with_reducible refine K77_bndJ (by decide) (fun _ => ?_) | with_reducible refine K77_bnd (fun _ => ?_) | with_reducible intro _)
theorem kf_X9_signToken_33 (N : Nat) (x1 : Int32) (x2 : Int32) (h : xHp) : K77 h (F_X9_signToken_33 N x1 x2 h) := by
  unfold F_X9_signToken_33
  repeat' (first | with_reducible exact K77_some | with_reducible exact K77_none | with_reducible refine kf_X9_signToken_89 _ _ _  | with_reducible refine kf_X9_signToken_60 _ _ _ _  | with_reducible refine K77_ite ?_ ?_ | with_reducible refine K77_grd ?_ | with_reducible refine K77_bnd2 ?_ (fun _ _ => ?_) | with_reducible refine K77_bndI (fun _ => ?_) | with_reducible refine K77_bndJ (by decide) (fun _ => ?_) | with_reducible refine K77_bnd (fun _ => ?_) | with_reducible intro _)
theorem kf_X9_signToken (N : Nat) (p1 : Int32) (h : xHp) : K77 h (F_X9_signToken N p1 h) := by
  unfold F_X9_signToken
  repeat' (first | with_reducible exact K77_some | with_reducible exact K77_none | with_reducible refine kf_X9_byteAt _ _ _  | with_reducible refine kf_X9_signToken_33 _ _ _ _  | with_reducible refine kf_X9_signToken_60 _ _ _ _  | with_reducible refine K77_ite ?_ ?_ | with_reducible refine K77_grd ?_ | with_reducible refine K77_bnd2 ?_ (fun _ _ => ?_) | with_reducible refine K77_bndI (fun _ => ?_) | with_reducible refine K77_bndJ (by decide) (fun _ => ?_) | with_reducible refine K77_bnd (fun _ => ?_) | with_reducible intro _)
theorem kf_X9_next_138 (N : Nat) (s1 : Int32) (h : xHp) : K77 h (F_X9_next_138 N s1 h) := by
  unfold F_X9_next_138
  repeat' (first | with_reducible exact K77_some | with_reducible exact K77_none | with_reducible refine K77_ite ?_ ?_ | with_reducible refine K77_grd ?_ | with_reducible refine K77_bnd2 ?_ (fun _ _ => ?_) | with_reducible refine K77_bndI (fun _ => ?_) | with_reducible refine K77_bndJ (by decide) (fun _ => ?_) | with_reducible refine K77_bnd (fun _ => ?_) | with_reducible intro _)
theorem kf_X9_next_118 (N : Nat) (x2 : Int32) (h : xHp) : K77 h (F_X9_next_118 N x2 h) := by
  unfold F_X9_next_118
  repeat' (first | with_reducible exact K77_some | with_reducible exact K77_none | with_reducible refine kf_X9_next_138 _ _ _  | with_reducible refine K77_ite ?_ ?_ | with_reducible refine K77_grd ?_ | with_reducible refine K77_bnd2 ?_ (fun _ _ => ?_) | with_reducible refine K77_bndI (fun _ => ?_) | with_reducible refine K77_bndJ (by decide) (fun _ => ?_) | with_reducible refine K77_bnd (fun _ => ?_) | with_reducible intro _)
theorem kf_X9_next_203 (N : Nat) (k156 : Int32 → xHp → Option (Unit × xHp)) (x1 : Int32) (s1 : Int32) (h : xHp) (h_k156 : ∀ y0 hh, K77 hh (k156 y0 hh)) : K77 h (F_X9_next_203 N k156 x1 s1 h) := by
  unfold F_X9_next_203
  repeat' (first | with_reducible exact K77_some | with_reducible exact K77_none | with_reducible exact h_k156 _ _  | with_reducible refine K77_ite ?_ ?_ | with_reducible refine K77_grd ?_ | with_reducible refine K77_bnd2 ?_ (fun _ _ => ?_) | with_reducible refine K77_bndI (fun _ => ?_) | with_reducible refine K77_bndJ (by decide) (fun _ => ?_) | with_reducible refine K77_bnd (fun _ => ?_) | with_reducible intro _)
theorem kf_X9_next_237 (N : Nat) (h : xHp) : K77 h (F_X9_next_237 N h) := by
  unfold F_X9_next_237
  repeat' (first | with_reducible exact K77_some | with_reducible exact K77_none | with_reducible refine kf_X9_fail _ _ _  | with_reducible refine K77_ite ?_ ?_ | with_reducible refine K77_grd ?_ | with_reducible refine K77_bnd2 ?_ (fun _ _ => ?_) | with_reducible refine K77_bndI (fun _ => ?_) | with_reducible refine K77_bndJ (by decide) (fun _ => ?_) | with_reducible refine K77_bnd (fun _ => ?_) | with_reducible intro _)
theorem kf_X9_next_156_b (N : Nat) (k156 : Int32 → xHp → Option (Unit × xHp)) (x1 : Int32) (h : xHp) (h_k156 : ∀ y0 hh, K77 hh (k156 y0 hh)) : K77 h (F_X9_next_156_b N k156 x1 h) := by
  unfold F_X9_next_156_b
  repeat' (first | with_reducible exact K77_some | with_reducible exact K77_none | with_reducible exact h_k156 _ _  | with_reducible refine kf_X9_byteAt _ _ _  | with_reducible refine kf_X9_isFigure _ _ _  | with_reducible refine kf_X9_next_237 _ _  | with_reducible refine kf_X9_next_203 _ _ _ _ _ ?_ | with_reducible refine K77_ite ?_ ?_ | with_reducible refine K77_grd ?_ | with_reducible refine K77_bnd2 ?_ (fun _ _ => ?_) | with_reducible refine K77_bndI (fun _ => ?_) | with_reducible refine K77_bndJ (by decide) (fun _ => ?_) | with_reducible refine K77_bnd (fun _ => ?_) | with_reducible intro _)
theorem kf_X9_next_156 (N : Nat) (x1 : Int32) (h : xHp) : K77 h (F_X9_next_156 N x1 h) := by
  have key : ∀ n z0 z1, K77 z1 (xit (F_X9_next_156_b N) (fun _ _ => none) n z0 z1) := by
    intro n
    induction n with
    | zero => intros; exact K77_none
    | succ n ih => intros; exact kf_X9_next_156_b N _ _ _ ih
  exact key N _ _
theorem kf_X9_next_112 (N : Nat) (x1 : Int32) (x2 : Int32) (h : xHp) : K77 h (F_X9_next_112 N x1 x2 h) := by
  unfold F_X9_next_112
  repeat' (first | with_reducible exact K77_some | with_reducible exact K77_none | with_reducible refine kf_X9_next_118 _ _ _  | with_reducible refine kf_X9_isFigure _ _ _  | with_reducible refine kf_X9_signToken _ _ _  | with_reducible refine kf_X9_next_156 _ _ _  | with_reducible refine K77_ite ?_ ?_ | with_reducible refine K77_grd ?_ | with_reducible refine K77_bnd2 ?_ (fun _ _ => ?_) | with_reducible refine K77_bndI (fun _ => ?_) | with_reducible refine K77_bndJ (by decide) (fun _ => ?_) | with_reducible refine K77_bnd (fun _ => ?_) | with_reducible intro _)
theorem kf_X9_next_20_b (N : Nat) (k20 : Int32 → xHp → Option (Unit × xHp)) (x1 : Int32) (h : xHp) (h_k20 : ∀ y0 hh, K77 hh (k20 y0 hh)) : K77 h (F_X9_next_20_b N k20 x1 h) := by
  unfold F_X9_next_20_b
  repeat' (first | with_reducible exact K77_some | with_reducible exact K77_none | with_reducible exact h_k20 _ _  | with_reducible refine kf_X9_byteAt _ _ _  | with_reducible refine kf_X9_next_112 _ _ _ _  | with_reducible refine kf_X9_next_118 _ _ _  | with_reducible refine K77_ite ?_ ?_ | with_reducible refine K77_grd ?_ | with_reducible refine K77_bnd2 ?_ (fun _ _ => ?_) | with_reducible refine K77_bndI (fun _ => ?_) | with_reducible refine K77_bndJ (by decide) (fun _ => ?_) | with_reducible refine K77_bnd (fun _ => ?_) | with_reducible intro _)
theorem kf_X9_next_20 (N : Nat) (x1 : Int32) (h : xHp) : K77 h (F_X9_next_20 N x1 h) := by
  have key : ∀ n z0 z1, K77 z1 (xit (F_X9_next_20_b N) (fun _ _ => none) n z0 z1) := by
    intro n
    induction n with
    | zero => intros; exact K77_none
    | succ n ih => intros; exact kf_X9_next_20_b N _ _ _ ih
  exact key N _ _
theorem kf_X9_next (N : Nat) (h : xHp) : K77 h (F_X9_next N h) := by
  unfold F_X9_next
  repeat' (first | with_reducible exact K77_some | with_reducible exact K77_none | with_reducible refine kf_X9_next_20 _ _ _  | with_reducible refine kf_X9_fail _ _ _  | with_reducible refine K77_ite ?_ ?_ | with_reducible refine K77_grd ?_ | with_reducible refine K77_bnd2 ?_ (fun _ _ => ?_) | with_reducible refine K77_bndI (fun _ => ?_) | with_reducible refine K77_bndJ (by decide) (fun _ => ?_) | with_reducible refine K77_bnd (fun _ => ?_) | with_reducible intro _)
theorem kf_X9_sign_20 (N : Nat) (h : xHp) : K77 h (F_X9_sign_20 N h) := by
  unfold F_X9_sign_20
  repeat' (first | with_reducible exact K77_some | with_reducible exact K77_none | with_reducible refine K77_ite ?_ ?_ | with_reducible refine K77_grd ?_ | with_reducible refine K77_bnd2 ?_ (fun _ _ => ?_) | with_reducible refine K77_bndI (fun _ => ?_) | with_reducible refine K77_bndJ (by decide) (fun _ => ?_) | with_reducible refine K77_bnd (fun _ => ?_) | with_reducible intro _)
theorem kf_X9_sign (N : Nat) (p1 : Int32) (h : xHp) : K77 h (F_X9_sign N p1 h) := by
  unfold F_X9_sign
  repeat' (first | with_reducible exact K77_some | with_reducible exact K77_none | with_reducible refine kf_X9_sign_20 _ _  | with_reducible refine K77_ite ?_ ?_ | with_reducible refine K77_grd ?_ | with_reducible refine K77_bnd2 ?_ (fun _ _ => ?_) | with_reducible refine K77_bndI (fun _ => ?_) | with_reducible refine K77_bndJ (by decide) (fun _ => ?_) | with_reducible refine K77_bnd (fun _ => ?_) | with_reducible intro _)
theorem kf_X9_put (N : Nat) (p1 : Int32) (h : xHp) : K77 h (F_X9_put N p1 h) := by
  unfold F_X9_put
  repeat' (first | with_reducible exact K77_some | with_reducible exact K77_none | with_reducible refine K77_ite ?_ ?_ | with_reducible refine K77_grd ?_ | with_reducible refine K77_bnd2 ?_ (fun _ _ => ?_) | with_reducible refine K77_bndI (fun _ => ?_) | with_reducible refine K77_bndJ (by decide) (fun _ => ?_) | with_reducible refine K77_bnd (fun _ => ?_) | with_reducible intro _)
theorem kf_X9_opened (N : Nat) (h : xHp) : K77 h (F_X9_opened N h) := by
  unfold F_X9_opened
  repeat' (first | with_reducible exact K77_some | with_reducible exact K77_none | with_reducible refine kf_X9_fail _ _ _  | with_reducible refine K77_ite ?_ ?_ | with_reducible refine K77_grd ?_ | with_reducible refine K77_bnd2 ?_ (fun _ _ => ?_) | with_reducible refine K77_bndI (fun _ => ?_) | with_reducible refine K77_bndJ (by decide) (fun _ => ?_) | with_reducible refine K77_bnd (fun _ => ?_) | with_reducible intro _)
theorem kf_X9_await1 (N : Nat) (p1 : Int32) (h : xHp) : K77 h (F_X9_await1 N p1 h) := by
  unfold F_X9_await1
  repeat' (first | with_reducible exact K77_some | with_reducible exact K77_none | with_reducible refine K77_ite ?_ ?_ | with_reducible refine K77_grd ?_ | with_reducible refine K77_bnd2 ?_ (fun _ _ => ?_) | with_reducible refine K77_bndI (fun _ => ?_) | with_reducible refine K77_bndJ (by decide) (fun _ => ?_) | with_reducible refine K77_bnd (fun _ => ?_) | with_reducible intro _)
theorem kf_X9_atMost_17 (N : Nat) (s1 : Int32) (h : xHp) : K77 h (F_X9_atMost_17 N s1 h) := by
  unfold F_X9_atMost_17
  repeat' (first | with_reducible exact K77_some | with_reducible exact K77_none | with_reducible refine kf_X9_put _ _ _  | with_reducible refine K77_ite ?_ ?_ | with_reducible refine K77_grd ?_ | with_reducible refine K77_bnd2 ?_ (fun _ _ => ?_) | with_reducible refine K77_bndI (fun _ => ?_) | with_reducible refine K77_bndJ (by decide) (fun _ => ?_) | with_reducible refine K77_bnd (fun _ => ?_) | with_reducible intro _)
theorem kf_X9_atMost_120 (N : Nat) (k75 : Int32 → Int32 → Int32 → Int32 → Int32 → xHp → Option (Unit × xHp)) (x4 : Int32) (x5 : Int32) (x6 : Int32) (x7 : Int32) (x8 : Int32) (h : xHp) (h_k75 : ∀ y0 y1 y2 y3 y4 hh, K77 hh (k75 y0 y1 y2 y3 y4 hh)) : K77 h (F_X9_atMost_120 N k75 x4 x5 x6 x7 x8 h) := by
  unfold F_X9_atMost_120
  repeat' (first | with_reducible exact K77_some | with_reducible exact K77_none | with_reducible exact h_k75 _ _ _ _ _ _  | with_reducible refine K77_ite ?_ ?_ | with_reducible refine K77_grd ?_ | with_reducible refine K77_bnd2 ?_ (fun _ _ => ?_) | with_reducible refine K77_bndI (fun _ => ?_) | with_reducible refine K77_bndJ (by decide) (fun _ => ?_) | with_reducible refine K77_bnd (fun _ => ?_) | with_reducible intro _)
theorem kf_X9_atMost_185 (N : Nat) (x4 : Int32) (x8 : Int32) (h : xHp) : K77 h (F_X9_atMost_185 N x4 x8 h) := by
  unfold F_X9_atMost_185
  repeat' (first | with_reducible exact K77_some | with_reducible exact K77_none | with_reducible refine kf_X9_put _ _ _  | with_reducible refine K77_ite ?_ ?_ | with_reducible refine K77_grd ?_ | with_reducible refine K77_bnd2 ?_ (fun _ _ => ?_) | with_reducible refine K77_bndI (fun _ => ?_) | with_reducible refine K77_bndJ (by decide) (fun _ => ?_) | with_reducible refine K77_bnd (fun _ => ?_) | with_reducible intro _)
theorem kf_X9_atMost_126 (N : Nat) (x4 : Int32) (x5 : Int32) (x6 : Int32) (x7 : Int32) (x8 : Int32) (h : xHp) : K77 h (F_X9_atMost_126 N x4 x5 x6 x7 x8 h) := by
  unfold F_X9_atMost_126
  repeat' (first | with_reducible exact K77_some | with_reducible exact K77_none | with_reducible refine kf_X9_atMost_185 _ _ _ _  | with_reducible refine kf_X9_fail _ _ _  | with_reducible refine K77_ite ?_ ?_ | with_reducible refine K77_grd ?_ | with_reducible refine K77_bnd2 ?_ (fun _ _ => ?_) | with_reducible refine K77_bndI (fun _ => ?_) | with_reducible refine K77_bndJ (by decide) (fun _ => ?_) | with_reducible refine K77_bnd (fun _ => ?_) | with_reducible intro _)
theorem kf_X9_atMost_75_b (N : Nat) (k75 : Int32 → Int32 → Int32 → Int32 → Int32 → xHp → Option (Unit × xHp)) (x4 : Int32) (x5 : Int32) (x6 : Int32) (x7 : Int32) (x8 : Int32) (h : xHp) (h_k75 : ∀ y0 y1 y2 y3 y4 hh, K77 hh (k75 y0 y1 y2 y3 y4 hh)) : K77 h (F_X9_atMost_75_b N k75 x4 x5 x6 x7 x8 h) := by
  unfold F_X9_atMost_75_b
  repeat' (first | with_reducible exact K77_some | with_reducible exact K77_none | with_reducible exact h_k75 _ _ _ _ _ _  | with_reducible refine kf_X9_atMost_126 _ _ _ _ _ _ _  | with_reducible refine kf_X9_atMost_120 _ _ _ _ _ _ _ _ ?_ | with_reducible refine K77_ite ?_ ?_ | with_reducible refine K77_grd ?_ | with_reducible refine K77_bnd2 ?_ (fun _ _ => ?_) | with_reducible refine K77_bndI (fun _ => ?_) | with_reducible refine K77_bndJ (by decide) (fun _ => ?_) | with_reducible refine K77_bnd (fun _ => ?_) | with_reducible intro _)
theorem kf_X9_atMost_75 (N : Nat) (x4 : Int32) (x5 : Int32) (x6 : Int32) (x7 : Int32) (x8 : Int32) (h : xHp) : K77 h (F_X9_atMost_75 N x4 x5 x6 x7 x8 h) := by
  have key : ∀ n z0 z1 z2 z3 z4 z5, K77 z5 (xit (F_X9_atMost_75_b N) (fun _ _ _ _ _ _ => none) n z0 z1 z2 z3 z4 z5) := by
    intro n
    induction n with
    | zero => intros; exact K77_none
    | succ n ih => intros; exact kf_X9_atMost_75_b N _ _ _ _ _ _ _ ih
  exact key N _ _ _ _ _ _
theorem kf_X9_atMost_70 (N : Nat) (x4 : Int32) (x5 : Int32) (x6 : Int32) (s0 : Int32) (h : xHp) : K77 h (F_X9_atMost_70 N x4 x5 x6 s0 h) := by
  unfold F_X9_atMost_70
  repeat' (first | with_reducible exact K77_some | with_reducible exact K77_none | with_reducible refine kf_X9_atMost_75 _ _ _ _ _ _ _  | with_reducible refine K77_ite ?_ ?_ | with_reducible refine K77_grd ?_ | with_reducible refine K77_bnd2 ?_ (fun _ _ => ?_) | with_reducible refine K77_bndI (fun _ => ?_) | with_reducible refine K77_bndJ (by decide) (fun _ => ?_) | with_reducible refine K77_bnd (fun _ => ?_) | with_reducible intro _)
theorem kf_X9_atMost_55 (N : Nat) (x3 : Int32) (x4 : Int32) (x5 : Int32) (s0 : Int32) (h : xHp) : K77 h (F_X9_atMost_55 N x3 x4 x5 s0 h) := by
  unfold F_X9_atMost_55
  repeat' (first | with_reducible exact K77_some | with_reducible exact K77_none | with_reducible refine kf_X9_atMost_70 _ _ _ _ _ _  | with_reducible refine K77_ite ?_ ?_ | with_reducible refine K77_grd ?_ | with_reducible refine K77_bnd2 ?_ (fun _ _ => ?_) | with_reducible refine K77_bndI (fun _ => ?_) | with_reducible refine K77_bndJ (by decide) (fun _ => ?_) | with_reducible refine K77_bnd (fun _ => ?_) | with_reducible intro _)
theorem kf_X9_atMost_43 (N : Nat) (x1 : Int32) (x2 : Int32) (x3 : Int32) (x4 : Int32) (s0 : Int32) (h : xHp) : K77 h (F_X9_atMost_43 N x1 x2 x3 x4 s0 h) := by
  unfold F_X9_atMost_43
  repeat' (first | with_reducible exact K77_some | with_reducible exact K77_none | with_reducible refine kf_X9_atMost_55 _ _ _ _ _ _  | with_reducible refine K77_ite ?_ ?_ | with_reducible refine K77_grd ?_ | with_reducible refine K77_bnd2 ?_ (fun _ _ => ?_) | with_reducible refine K77_bndI (fun _ => ?_) | with_reducible refine K77_bndJ (by decide) (fun _ => ?_) | with_reducible refine K77_bnd (fun _ => ?_) | with_reducible intro _)
theorem kf_X9_atMost_31 (N : Nat) (x1 : Int32) (x2 : Int32) (x3 : Int32) (s0 : Int32) (h : xHp) : K77 h (F_X9_atMost_31 N x1 x2 x3 s0 h) := by
  unfold F_X9_atMost_31
  repeat' (first | with_reducible exact K77_some | with_reducible exact K77_none | with_reducible refine kf_X9_atMost_43 _ _ _ _ _ _ _  | with_reducible refine K77_ite ?_ ?_ | with_reducible refine K77_grd ?_ | with_reducible refine K77_bnd2 ?_ (fun _ _ => ?_) | with_reducible refine K77_bndI (fun _ => ?_) | with_reducible refine K77_bndJ (by decide) (fun _ => ?_) | with_reducible refine K77_bnd (fun _ => ?_) | with_reducible intro _)
theorem kf_X9_atMost (N : Nat) (p1 : Int32) (p2 : Int32) (p3 : Int32) (h : xHp) : K77 h (F_X9_atMost N p1 p2 p3 h) := by
  unfold F_X9_atMost
  repeat' (first | with_reducible exact K77_some | with_reducible exact K77_none | with_reducible refine kf_X9_atMost_17 _ _ _  | with_reducible refine kf_X9_atMost_31 _ _ _ _ _ _  | with_reducible refine K77_ite ?_ ?_ | with_reducible refine K77_grd ?_ | with_reducible refine K77_bnd2 ?_ (fun _ _ => ?_) | with_reducible refine K77_bndI (fun _ => ?_) | with_reducible refine K77_bndJ (by decide) (fun _ => ?_) | with_reducible refine K77_bnd (fun _ => ?_) | with_reducible intro _)
theorem kf_X9_comparison_104 (N : Nat) (h : xHp) : K77 h (F_X9_comparison_104 N h) := by
  unfold F_X9_comparison_104
  repeat' (first | with_reducible exact K77_some | with_reducible exact K77_none | with_reducible refine kf_X9_put _ _ _  | with_reducible refine K77_ite ?_ ?_ | with_reducible refine K77_grd ?_ | with_reducible refine K77_bnd2 ?_ (fun _ _ => ?_) | with_reducible refine K77_bndI (fun _ => ?_) | with_reducible refine K77_bndJ (by decide) (fun _ => ?_) | with_reducible refine K77_bnd (fun _ => ?_) | with_reducible intro _)
theorem kf_X9_comparison_85 (N : Nat) (x1 : Int32) (h : xHp) : K77 h (F_X9_comparison_85 N x1 h) := by
  unfold F_X9_comparison_85
  repeat' (first | with_reducible exact K77_some | with_reducible exact K77_none | with_reducible refine kf_X9_comparison_104 _ _  | with_reducible refine K77_ite ?_ ?_ | with_reducible refine K77_grd ?_ | with_reducible refine K77_bnd2 ?_ (fun _ _ => ?_) | with_reducible refine K77_bndI (fun _ => ?_) | with_reducible refine K77_bndJ (by decide) (fun _ => ?_) | with_reducible refine K77_bnd (fun _ => ?_) | with_reducible intro _)
theorem kf_X9_comparison_32 (N : Nat) (x1 : Int32) (x2 : Int32) (x3 : Int32) (x4 : Int32) (h : xHp) : K77 h (F_X9_comparison_32 N x1 x2 x3 x4 h) := by
  unfold F_X9_comparison_32
  repeat' (first | with_reducible exact K77_some | with_reducible exact K77_none | with_reducible refine kf_X9_atMost _ _ _ _ _  | with_reducible refine kf_X9_put _ _ _  | with_reducible refine kf_X9_comparison_85 _ _ _  | with_reducible refine K77_ite ?_ ?_ | with_reducible refine K77_grd ?_ | with_reducible refine K77_bnd2 ?_ (fun _ _ => ?_) | with_reducible refine K77_bndI (fun _ => ?_) | with_reducible refine K77_bndJ (by decide) (fun _ => ?_) | with_reducible refine K77_bnd (fun _ => ?_) | with_reducible intro _)
theorem kf_X9_comparison_82 (N : Nat) (x1 : Int32) (s3 : Int32) (s2 : Int32) (s1 : Int32) (h : xHp) : K77 h (F_X9_comparison_82 N x1 s3 s2 s1 h) := by
  unfold F_X9_comparison_82
  repeat' (first | with_reducible exact K77_some | with_reducible exact K77_none | with_reducible refine kf_X9_atMost _ _ _ _ _  | with_reducible refine kf_X9_comparison_85 _ _ _  | with_reducible refine K77_ite ?_ ?_ | with_reducible refine K77_grd ?_ | with_reducible refine K77_bnd2 ?_ (fun _ _ => ?_) | with_reducible refine K77_bndI (fun _ => ?_) | with_reducible refine K77_bndJ (by decide) (fun _ => ?_) | with_reducible refine K77_bnd (fun _ => ?_) | with_reducible intro _)
theorem kf_X9_comparison_18 (N : Nat) (x1 : Int32) (x2 : Int32) (x3 : Int32) (x4 : Int32) (s0 : Int32) (h : xHp) : K77 h (F_X9_comparison_18 N x1 x2 x3 x4 s0 h) := by
  unfold F_X9_comparison_18
  repeat' (first | with_reducible exact K77_some | with_reducible exact K77_none | with_reducible refine kf_X9_comparison_32 _ _ _ _ _ _  | with_reducible refine kf_X9_comparison_82 _ _ _ _ _ _  | with_reducible refine K77_ite ?_ ?_ | with_reducible refine K77_grd ?_ | with_reducible refine K77_bnd2 ?_ (fun _ _ => ?_) | with_reducible refine K77_bndI (fun _ => ?_) | with_reducible refine K77_bndJ (by decide) (fun _ => ?_) | with_reducible refine K77_bnd (fun _ => ?_) | with_reducible intro _)
theorem kf_X9_comparison_13 (N : Nat) (x1 : Int32) (x2 : Int32) (x3 : Int32) (x4 : Int32) (h : xHp) : K77 h (F_X9_comparison_13 N x1 x2 x3 x4 h) := by
  unfold F_X9_comparison_13
  repeat' (first | with_reducible exact K77_some | with_reducible exact K77_none | with_reducible refine kf_X9_comparison_18 _ _ _ _ _ _ _  | with_reducible refine K77_ite ?_ ?_ | with_reducible refine K77_grd ?_ | with_reducible refine K77_bnd2 ?_ (fun _ _ => ?_) | with_reducible refine K77_bndI (fun _ => ?_) | with_reducible refine K77_bndJ (by decide) (fun _ => ?_) | with_reducible refine K77_bnd (fun _ => ?_) | with_reducible intro _)
theorem kf_X9_comparison (N : Nat) (p1 : Int32) (p2 : Int32) (p3 : Int32) (p4 : Int32) (h : xHp) : K77 h (F_X9_comparison N p1 p2 p3 p4 h) := by
  unfold F_X9_comparison
  repeat' (first | with_reducible exact K77_some | with_reducible exact K77_none | with_reducible refine kf_X9_comparison_13 _ _ _ _ _ _  | with_reducible refine kf_X9_comparison_18 _ _ _ _ _ _ _  | with_reducible refine K77_ite ?_ ?_ | with_reducible refine K77_grd ?_ | with_reducible refine K77_bnd2 ?_ (fun _ _ => ?_) | with_reducible refine K77_bndI (fun _ => ?_) | with_reducible refine K77_bndJ (by decide) (fun _ => ?_) | with_reducible refine K77_bnd (fun _ => ?_) | with_reducible intro _)
theorem kf_X9_difference_239 (N : Nat) (s4 : Int32) (s3 : Int32) (s2 : Int32) (s1 : Int32) (h : xHp) : K77 h (F_X9_difference_239 N s4 s3 s2 s1 h) := by
  unfold F_X9_difference_239
  repeat' (first | with_reducible exact K77_some | with_reducible exact K77_none | with_reducible refine kf_X9_comparison _ _ _ _ _ _  | with_reducible refine kf_X9_next _ _  | with_reducible refine K77_ite ?_ ?_ | with_reducible refine K77_grd ?_ | with_reducible refine K77_bnd2 ?_ (fun _ _ => ?_) | with_reducible refine K77_bndI (fun _ => ?_) | with_reducible refine K77_bndJ (by decide) (fun _ => ?_) | with_reducible refine K77_bnd (fun _ => ?_) | with_reducible intro _)
theorem kf_X9_difference_210 (N : Nat) (x1 : Int32) (x2 : Int32) (x3 : Int32) (x5 : Int32) (h : xHp) : K77 h (F_X9_difference_210 N x1 x2 x3 x5 h) := by
  unfold F_X9_difference_210
  repeat' (first | with_reducible exact K77_some | with_reducible exact K77_none | with_reducible refine kf_X9_difference_239 _ _ _ _ _ _  | with_reducible refine K77_ite ?_ ?_ | with_reducible refine K77_grd ?_ | with_reducible refine K77_bnd2 ?_ (fun _ _ => ?_) | with_reducible refine K77_bndI (fun _ => ?_) | with_reducible refine K77_bndJ (by decide) (fun _ => ?_) | with_reducible refine K77_bnd (fun _ => ?_) | with_reducible intro _)
theorem kf_X9_difference_190 (N : Nat) (x1 : Int32) (x2 : Int32) (x3 : Int32) (x5 : Int32) (h : xHp) : K77 h (F_X9_difference_190 N x1 x2 x3 x5 h) := by
  unfold F_X9_difference_190
  repeat' (first | with_reducible exact K77_some | with_reducible exact K77_none | with_reducible refine kf_X9_difference_210 _ _ _ _ _ _  | with_reducible refine kf_X9_fail _ _ _  | with_reducible refine K77_ite ?_ ?_ | with_reducible refine K77_grd ?_ | with_reducible refine K77_bnd2 ?_ (fun _ _ => ?_) | with_reducible refine K77_bndI (fun _ => ?_) | with_reducible refine K77_bndJ (by decide) (fun _ => ?_) | with_reducible refine K77_bnd (fun _ => ?_) | with_reducible intro _)
theorem kf_X9_difference_179 (N : Nat) (x1 : Int32) (x2 : Int32) (x3 : Int32) (s0 : Int32) (h : xHp) : K77 h (F_X9_difference_179 N x1 x2 x3 s0 h) := by
  unfold F_X9_difference_179
  repeat' (first | with_reducible exact K77_some | with_reducible exact K77_none | with_reducible refine kf_X9_difference_190 _ _ _ _ _ _  | with_reducible refine kf_X9_next _ _  | with_reducible refine K77_ite ?_ ?_ | with_reducible refine K77_grd ?_ | with_reducible refine K77_bnd2 ?_ (fun _ _ => ?_) | with_reducible refine K77_bndI (fun _ => ?_) | with_reducible refine K77_bndJ (by decide) (fun _ => ?_) | with_reducible refine K77_bnd (fun _ => ?_) | with_reducible intro _)
theorem kf_X9_difference_178 (N : Nat) (x1 : Int32) (x2 : Int32) (x3 : Int32) (h : xHp) : K77 h (F_X9_difference_178 N x1 x2 x3 h) := by
  unfold F_X9_difference_178
  repeat' (first | with_reducible exact K77_some | with_reducible exact K77_none | with_reducible refine kf_X9_difference_179 _ _ _ _ _ _  | with_reducible refine K77_ite ?_ ?_ | with_reducible refine K77_grd ?_ | with_reducible refine K77_bnd2 ?_ (fun _ _ => ?_) | with_reducible refine K77_bndI (fun _ => ?_) | with_reducible refine K77_bndJ (by decide) (fun _ => ?_) | with_reducible refine K77_bnd (fun _ => ?_) | with_reducible intro _)
theorem kf_X9_difference_146 (N : Nat) (x1 : Int32) (x2 : Int32) (x3 : Int32) (h : xHp) : K77 h (F_X9_difference_146 N x1 x2 x3 h) := by
  unfold F_X9_difference_146
  repeat' (first | with_reducible exact K77_some | with_reducible exact K77_none | with_reducible refine kf_X9_next _ _  | with_reducible refine kf_X9_sign _ _ _  | with_reducible refine kf_X9_difference_178 _ _ _ _ _  | with_reducible refine kf_X9_difference_179 _ _ _ _ _ _  | with_reducible refine K77_ite ?_ ?_ | with_reducible refine K77_grd ?_ | with_reducible refine K77_bnd2 ?_ (fun _ _ => ?_) | with_reducible refine K77_bndI (fun _ => ?_) | with_reducible refine K77_bndJ (by decide) (fun _ => ?_) | with_reducible refine K77_bnd (fun _ => ?_) | with_reducible intro _)
theorem kf_X9_difference_127 (N : Nat) (x1 : Int32) (x2 : Int32) (x3 : Int32) (s0 : Int32) (h : xHp) : K77 h (F_X9_difference_127 N x1 x2 x3 s0 h) := by
  unfold F_X9_difference_127
  repeat' (first | with_reducible exact K77_some | with_reducible exact K77_none | with_reducible refine kf_X9_fail _ _ _  | with_reducible refine kf_X9_difference_146 _ _ _ _ _  | with_reducible refine K77_ite ?_ ?_ | with_reducible refine K77_grd ?_ | with_reducible refine K77_bnd2 ?_ (fun _ _ => ?_) | with_reducible refine K77_bndI (fun _ => ?_) | with_reducible refine K77_bndJ (by decide) (fun _ => ?_) | with_reducible refine K77_bnd (fun _ => ?_) | with_reducible intro _)
theorem kf_X9_difference_122 (N : Nat) (x1 : Int32) (x2 : Int32) (x3 : Int32) (h : xHp) : K77 h (F_X9_difference_122 N x1 x2 x3 h) := by
  unfold F_X9_difference_122
  repeat' (first | with_reducible exact K77_some | with_reducible exact K77_none | with_reducible refine kf_X9_difference_127 _ _ _ _ _ _  | with_reducible refine K77_ite ?_ ?_ | with_reducible refine K77_grd ?_ | with_reducible refine K77_bnd2 ?_ (fun _ _ => ?_) | with_reducible refine K77_bndI (fun _ => ?_) | with_reducible refine K77_bndJ (by decide) (fun _ => ?_) | with_reducible refine K77_bnd (fun _ => ?_) | with_reducible intro _)
theorem kf_X9_difference_83 (N : Nat) (x1 : Int32) (x2 : Int32) (s0 : Int32) (h : xHp) : K77 h (F_X9_difference_83 N x1 x2 s0 h) := by
  unfold F_X9_difference_83
  repeat' (first | with_reducible exact K77_some | with_reducible exact K77_none | with_reducible refine kf_X9_difference_122 _ _ _ _ _  | with_reducible refine kf_X9_difference_127 _ _ _ _ _ _  | with_reducible refine K77_ite ?_ ?_ | with_reducible refine K77_grd ?_ | with_reducible refine K77_bnd2 ?_ (fun _ _ => ?_) | with_reducible refine K77_bndI (fun _ => ?_) | with_reducible refine K77_bndJ (by decide) (fun _ => ?_) | with_reducible refine K77_bnd (fun _ => ?_) | with_reducible intro _)
theorem kf_X9_difference_67 (N : Nat) (x1 : Int32) (x2 : Int32) (h : xHp) : K77 h (F_X9_difference_67 N x1 x2 h) := by
  unfold F_X9_difference_67
  repeat' (first | with_reducible exact K77_some | with_reducible exact K77_none | with_reducible refine kf_X9_difference_83 _ _ _ _ _  | with_reducible refine K77_ite ?_ ?_ | with_reducible refine K77_grd ?_ | with_reducible refine K77_bnd2 ?_ (fun _ _ => ?_) | with_reducible refine K77_bndI (fun _ => ?_) | with_reducible refine K77_bndJ (by decide) (fun _ => ?_) | with_reducible refine K77_bnd (fun _ => ?_) | with_reducible intro _)
theorem kf_X9_difference_51 (N : Nat) (x1 : Int32) (h : xHp) : K77 h (F_X9_difference_51 N x1 h) := by
  unfold F_X9_difference_51
  repeat' (first | with_reducible exact K77_some | with_reducible exact K77_none | with_reducible refine kf_X9_next _ _  | with_reducible refine kf_X9_difference_67 _ _ _ _  | with_reducible refine K77_ite ?_ ?_ | with_reducible refine K77_grd ?_ | with_reducible refine K77_bnd2 ?_ (fun _ _ => ?_) | with_reducible refine K77_bndI (fun _ => ?_) | with_reducible refine K77_bndJ (by decide) (fun _ => ?_) | with_reducible refine K77_bnd (fun _ => ?_) | with_reducible intro _)
theorem kf_X9_difference (N : Nat) (h : xHp) : K77 h (F_X9_difference N h) := by
  unfold F_X9_difference
  repeat' (first | with_reducible exact K77_some | with_reducible exact K77_none | with_reducible refine kf_X9_next _ _  | with_reducible refine kf_X9_sign _ _ _  | with_reducible refine kf_X9_difference_67 _ _ _ _  | with_reducible refine kf_X9_difference_51 _ _ _  | with_reducible refine kf_X9_fail _ _ _  | with_reducible refine K77_ite ?_ ?_ | with_reducible refine K77_grd ?_ | with_reducible refine K77_bnd2 ?_ (fun _ _ => ?_) | with_reducible refine K77_bndI (fun _ => ?_) | with_reducible refine K77_bndJ (by decide) (fun _ => ?_) | with_reducible refine K77_bnd (fun _ => ?_) | with_reducible intro _)
theorem kf_X9_done_77 (N : Nat) (s1 : Int32) (h : xHp) : K77 h (F_X9_done_77 N s1 h) := by
  unfold F_X9_done_77
  repeat' (first | with_reducible exact K77_some | with_reducible exact K77_none | with_reducible refine kf_X9_put _ _ _  | with_reducible refine K77_ite ?_ ?_ | with_reducible refine K77_grd ?_ | with_reducible refine K77_bnd2 ?_ (fun _ _ => ?_) | with_reducible refine K77_bndI (fun _ => ?_) | with_reducible refine K77_bndJ (by decide) (fun _ => ?_) | with_reducible refine K77_bnd (fun _ => ?_) | with_reducible intro _)
theorem kf_X9_done_40 (N : Nat) (x1 : Int32) (s2 : Int32) (s1 : Int32) (h : xHp) : K77 h (F_X9_done_40 N x1 s2 s1 h) := by
  unfold F_X9_done_40
  repeat' (first | with_reducible exact K77_some | with_reducible exact K77_none | with_reducible refine kf_X9_done_77 _ _ _  | with_reducible refine K77_ite ?_ ?_ | with_reducible refine K77_grd ?_ | with_reducible refine K77_bnd2 ?_ (fun _ _ => ?_) | with_reducible refine K77_bndI (fun _ => ?_) | with_reducible refine K77_bndJ (by decide) (fun _ => ?_) | with_reducible refine K77_bnd (fun _ => ?_) | with_reducible intro _)
theorem kf_X9_done_35 (N : Nat) (x1 : Int32) (s1 : Int32) (h : xHp) : K77 h (F_X9_done_35 N x1 s1 h) := by
  unfold F_X9_done_35
  repeat' (first | with_reducible exact K77_some | with_reducible exact K77_none | with_reducible refine kf_X9_done_40 _ _ _ _ _  | with_reducible refine K77_ite ?_ ?_ | with_reducible refine K77_grd ?_ | with_reducible refine K77_bnd2 ?_ (fun _ _ => ?_) | with_reducible refine K77_bndI (fun _ => ?_) | with_reducible refine K77_bndJ (by decide) (fun _ => ?_) | with_reducible refine K77_bnd (fun _ => ?_) | with_reducible intro _)
theorem kf_X9_done (N : Nat) (h : xHp) : K77 h (F_X9_done N h) := by
  unfold F_X9_done
  repeat' (first | with_reducible exact K77_some | with_reducible exact K77_none | with_reducible refine kf_X9_done_35 _ _ _ _  | with_reducible refine kf_X9_done_40 _ _ _ _ _  | with_reducible refine K77_ite ?_ ?_ | with_reducible refine K77_grd ?_ | with_reducible refine K77_bnd2 ?_ (fun _ _ => ?_) | with_reducible refine K77_bndI (fun _ => ?_) | with_reducible refine K77_bndJ (by decide) (fun _ => ?_) | with_reducible refine K77_bnd (fun _ => ?_) | with_reducible intro _)
theorem kf_X9_doneTo_0_b (N : Nat) (k0 : Int32 → xHp → Option (Unit × xHp)) (x1 : Int32) (h : xHp) (h_k0 : ∀ y0 hh, K77 hh (k0 y0 hh)) : K77 h (F_X9_doneTo_0_b N k0 x1 h) := by
  unfold F_X9_doneTo_0_b
  repeat' (first | with_reducible exact K77_some | with_reducible exact K77_none | with_reducible exact h_k0 _ _  | with_reducible refine kf_X9_done _ _  | with_reducible refine K77_ite ?_ ?_ | with_reducible refine K77_grd ?_ | with_reducible refine K77_bnd2 ?_ (fun _ _ => ?_) | with_reducible refine K77_bndI (fun _ => ?_) | with_reducible refine K77_bndJ (by decide) (fun _ => ?_) | with_reducible refine K77_bnd (fun _ => ?_) | with_reducible intro _)
theorem kf_X9_doneTo_0 (N : Nat) (x1 : Int32) (h : xHp) : K77 h (F_X9_doneTo_0 N x1 h) := by
  have key : ∀ n z0 z1, K77 z1 (xit (F_X9_doneTo_0_b N) (fun _ _ => none) n z0 z1) := by
    intro n
    induction n with
    | zero => intros; exact K77_none
    | succ n ih => intros; exact kf_X9_doneTo_0_b N _ _ _ ih
  exact key N _ _
theorem kf_X9_doneTo (N : Nat) (p1 : Int32) (h : xHp) : K77 h (F_X9_doneTo N p1 h) := by
  unfold F_X9_doneTo
  repeat' (first | with_reducible exact K77_some | with_reducible exact K77_none | with_reducible refine kf_X9_doneTo_0 _ _ _  | with_reducible refine K77_ite ?_ ?_ | with_reducible refine K77_grd ?_ | with_reducible refine K77_bnd2 ?_ (fun _ _ => ?_) | with_reducible refine K77_bndI (fun _ => ?_) | with_reducible refine K77_bndJ (by decide) (fun _ => ?_) | with_reducible refine K77_bnd (fun _ => ?_) | with_reducible intro _)
theorem kf_X9_unit_51 (N : Nat) (h : xHp) : K77 h (F_X9_unit_51 N h) := by
  unfold F_X9_unit_51
  repeat' (first | with_reducible exact K77_some | with_reducible exact K77_none | with_reducible refine K77_ite ?_ ?_ | with_reducible refine K77_grd ?_ | with_reducible refine K77_bnd2 ?_ (fun _ _ => ?_) | with_reducible refine K77_bndI (fun _ => ?_) | with_reducible refine K77_bndJ (by decide) (fun _ => ?_) | with_reducible refine K77_bnd (fun _ => ?_) | with_reducible intro _)
theorem kf_X9_unit_37 (N : Nat) (s1 : Int32) (h : xHp) : K77 h (F_X9_unit_37 N s1 h) := by
  unfold F_X9_unit_37
  repeat' (first | with_reducible exact K77_some | with_reducible exact K77_none | with_reducible refine kf_X9_await1 _ _ _  | with_reducible refine kf_X9_next _ _  | with_reducible refine kf_X9_unit_51 _ _  | with_reducible refine K77_ite ?_ ?_ | with_reducible refine K77_grd ?_ | with_reducible refine K77_bnd2 ?_ (fun _ _ => ?_) | with_reducible refine K77_bndI (fun _ => ?_) | with_reducible refine K77_bndJ (by decide) (fun _ => ?_) | with_reducible refine K77_bnd (fun _ => ?_) | with_reducible intro _)
theorem kf_X9_unit_18 (N : Nat) (h : xHp) : K77 h (F_X9_unit_18 N h) := by
  unfold F_X9_unit_18
  repeat' (first | with_reducible exact K77_some | with_reducible exact K77_none | with_reducible refine kf_X9_opened _ _  | with_reducible refine kf_X9_sign _ _ _  | with_reducible refine kf_X9_unit_37 _ _ _  | with_reducible refine K77_ite ?_ ?_ | with_reducible refine K77_grd ?_ | with_reducible refine K77_bnd2 ?_ (fun _ _ => ?_) | with_reducible refine K77_bndI (fun _ => ?_) | with_reducible refine K77_bndJ (by decide) (fun _ => ?_) | with_reducible refine K77_bnd (fun _ => ?_) | with_reducible intro _)
theorem kf_X9_unit_72 (N : Nat) (h : xHp) : K77 h (F_X9_unit_72 N h) := by
  unfold F_X9_unit_72
  repeat' (first | with_reducible exact K77_some | with_reducible exact K77_none | with_reducible refine K77_ite ?_ ?_ | with_reducible refine K77_grd ?_ | with_reducible refine K77_bnd2 ?_ (fun _ _ => ?_) | with_reducible refine K77_bndI (fun _ => ?_) | with_reducible refine K77_bndJ (by decide) (fun _ => ?_) | with_reducible refine K77_bnd (fun _ => ?_) | with_reducible intro _)
theorem kf_X9_unit (N : Nat) (h : xHp) : K77 h (F_X9_unit N h) := by
  unfold F_X9_unit
  repeat' (first | with_reducible exact K77_some | with_reducible exact K77_none | with_reducible refine kf_X9_sign _ _ _  | with_reducible refine kf_X9_difference _ _  | with_reducible refine kf_X9_unit_72 _ _  | with_reducible refine kf_X9_fail _ _ _  | with_reducible refine kf_X9_unit_18 _ _  | with_reducible refine K77_ite ?_ ?_ | with_reducible refine K77_grd ?_ | with_reducible refine K77_bnd2 ?_ (fun _ _ => ?_) | with_reducible refine K77_bndI (fun _ => ?_) | with_reducible refine K77_bndJ (by decide) (fun _ => ?_) | with_reducible refine K77_bnd (fun _ => ?_) | with_reducible intro _)
theorem kf_X9_behindUnit_202 (N : Nat) (k2 : Int32 → xHp → Option (Unit × xHp)) (x1 : Int32) (h : xHp) (h_k2 : ∀ y0 hh, K77 hh (k2 y0 hh)) : K77 h (F_X9_behindUnit_202 N k2 x1 h) := by
  unfold F_X9_behindUnit_202
  repeat' (first | with_reducible exact K77_some | with_reducible exact K77_none | with_reducible exact h_k2 _ _  | with_reducible refine K77_ite ?_ ?_ | with_reducible refine K77_grd ?_ | with_reducible refine K77_bnd2 ?_ (fun _ _ => ?_) | with_reducible refine K77_bndI (fun _ => ?_) | with_reducible refine K77_bndJ (by decide) (fun _ => ?_) | with_reducible refine K77_bnd (fun _ => ?_) | with_reducible intro _)
theorem kf_X9_behindUnit_126 (N : Nat) (k2 : Int32 → xHp → Option (Unit × xHp)) (h : xHp) (h_k2 : ∀ y0 hh, K77 hh (k2 y0 hh)) : K77 h (F_X9_behindUnit_126 N k2 h) := by
  unfold F_X9_behindUnit_126
  repeat' (first | with_reducible exact K77_some | with_reducible exact K77_none | with_reducible exact h_k2 _ _  | with_reducible refine kf_X9_behindUnit_202 _ _ _ _ ?_ | with_reducible refine K77_ite ?_ ?_ | with_reducible refine K77_grd ?_ | with_reducible refine K77_bnd2 ?_ (fun _ _ => ?_) | with_reducible refine K77_bndI (fun _ => ?_) | with_reducible refine K77_bndJ (by decide) (fun _ => ?_) | with_reducible refine K77_bnd (fun _ => ?_) | with_reducible intro _)
theorem kf_X9_behindUnit_112 (N : Nat) (k2 : Int32 → xHp → Option (Unit × xHp)) (s1 : Int32) (h : xHp) (h_k2 : ∀ y0 hh, K77 hh (k2 y0 hh)) : K77 h (F_X9_behindUnit_112 N k2 s1 h) := by
  unfold F_X9_behindUnit_112
  repeat' (first | with_reducible exact K77_some | with_reducible exact K77_none | with_reducible exact h_k2 _ _  | with_reducible refine kf_X9_await1 _ _ _  | with_reducible refine kf_X9_next _ _  | with_reducible refine kf_X9_behindUnit_126 _ _ _ ?_ | with_reducible refine K77_ite ?_ ?_ | with_reducible refine K77_grd ?_ | with_reducible refine K77_bnd2 ?_ (fun _ _ => ?_) | with_reducible refine K77_bndI (fun _ => ?_) | with_reducible refine K77_bndJ (by decide) (fun _ => ?_) | with_reducible refine K77_bnd (fun _ => ?_) | with_reducible intro _)
theorem kf_X9_behindUnit_90 (N : Nat) (k2 : Int32 → xHp → Option (Unit × xHp)) (x2 : Int32) (h : xHp) (h_k2 : ∀ y0 hh, K77 hh (k2 y0 hh)) : K77 h (F_X9_behindUnit_90 N k2 x2 h) := by
  unfold F_X9_behindUnit_90
  repeat' (first | with_reducible exact K77_some | with_reducible exact K77_none | with_reducible exact h_k2 _ _  | with_reducible refine kf_X9_behindUnit_112 _ _ _ _ ?_ | with_reducible refine K77_ite ?_ ?_ | with_reducible refine K77_grd ?_ | with_reducible refine K77_bnd2 ?_ (fun _ _ => ?_) | with_reducible refine K77_bndI (fun _ => ?_) | with_reducible refine K77_bndJ (by decide) (fun _ => ?_) | with_reducible refine K77_bnd (fun _ => ?_) | with_reducible intro _)
theorem kf_X9_behindUnit_76 (N : Nat) (k2 : Int32 → xHp → Option (Unit × xHp)) (x2 : Int32) (s1 : Int32) (h : xHp) (h_k2 : ∀ y0 hh, K77 hh (k2 y0 hh)) : K77 h (F_X9_behindUnit_76 N k2 x2 s1 h) := by
  unfold F_X9_behindUnit_76
  repeat' (first | with_reducible exact K77_some | with_reducible exact K77_none | with_reducible exact h_k2 _ _  | with_reducible refine kf_X9_doneTo _ _ _  | with_reducible refine kf_X9_opened _ _  | with_reducible refine kf_X9_behindUnit_90 _ _ _ _ ?_ | with_reducible refine K77_ite ?_ ?_ | with_reducible refine K77_grd ?_ | with_reducible refine K77_bnd2 ?_ (fun _ _ => ?_) | with_reducible refine K77_bndI (fun _ => ?_) | with_reducible refine K77_bndJ (by decide) (fun _ => ?_) | with_reducible refine K77_bnd (fun _ => ?_) | with_reducible intro _)
theorem kf_X9_behindUnit_54 (N : Nat) (k2 : Int32 → xHp → Option (Unit × xHp)) (x2 : Int32) (h : xHp) (h_k2 : ∀ y0 hh, K77 hh (k2 y0 hh)) : K77 h (F_X9_behindUnit_54 N k2 x2 h) := by
  unfold F_X9_behindUnit_54
  repeat' (first | with_reducible exact K77_some | with_reducible exact K77_none | with_reducible exact h_k2 _ _  | with_reducible refine kf_X9_behindUnit_76 _ _ _ _ _ ?_ | with_reducible refine K77_ite ?_ ?_ | with_reducible refine K77_grd ?_ | with_reducible refine K77_bnd2 ?_ (fun _ _ => ?_) | with_reducible refine K77_bndI (fun _ => ?_) | with_reducible refine K77_bndJ (by decide) (fun _ => ?_) | with_reducible refine K77_bnd (fun _ => ?_) | with_reducible intro _)
theorem kf_X9_behindUnit_195 (N : Nat) (k2 : Int32 → xHp → Option (Unit × xHp)) (h : xHp) (h_k2 : ∀ y0 hh, K77 hh (k2 y0 hh)) : K77 h (F_X9_behindUnit_195 N k2 h) := by
  unfold F_X9_behindUnit_195
  repeat' (first | with_reducible exact K77_some | with_reducible exact K77_none | with_reducible exact h_k2 _ _  | with_reducible refine kf_X9_behindUnit_202 _ _ _ _ ?_ | with_reducible refine K77_ite ?_ ?_ | with_reducible refine K77_grd ?_ | with_reducible refine K77_bnd2 ?_ (fun _ _ => ?_) | with_reducible refine K77_bndI (fun _ => ?_) | with_reducible refine K77_bndJ (by decide) (fun _ => ?_) | with_reducible refine K77_bnd (fun _ => ?_) | with_reducible intro _)
theorem kf_X9_behindUnit_190 (N : Nat) (k2 : Int32 → xHp → Option (Unit × xHp)) (h : xHp) (h_k2 : ∀ y0 hh, K77 hh (k2 y0 hh)) : K77 h (F_X9_behindUnit_190 N k2 h) := by
  unfold F_X9_behindUnit_190
  repeat' (first | with_reducible exact K77_some | with_reducible exact K77_none | with_reducible exact h_k2 _ _  | with_reducible refine kf_X9_fail _ _ _  | with_reducible refine kf_X9_behindUnit_195 _ _ _ ?_ | with_reducible refine K77_ite ?_ ?_ | with_reducible refine K77_grd ?_ | with_reducible refine K77_bnd2 ?_ (fun _ _ => ?_) | with_reducible refine K77_bndI (fun _ => ?_) | with_reducible refine K77_bndJ (by decide) (fun _ => ?_) | with_reducible refine K77_bnd (fun _ => ?_) | with_reducible intro _)
theorem kf_X9_behindUnit_176 (N : Nat) (k2 : Int32 → xHp → Option (Unit × xHp)) (h : xHp) (h_k2 : ∀ y0 hh, K77 hh (k2 y0 hh)) : K77 h (F_X9_behindUnit_176 N k2 h) := by
  unfold F_X9_behindUnit_176
  repeat' (first | with_reducible exact K77_some | with_reducible exact K77_none | with_reducible exact h_k2 _ _  | with_reducible refine kf_X9_behindUnit_195 _ _ _ ?_ | with_reducible refine kf_X9_behindUnit_190 _ _ _ ?_ | with_reducible refine K77_ite ?_ ?_ | with_reducible refine K77_grd ?_ | with_reducible refine K77_bnd2 ?_ (fun _ _ => ?_) | with_reducible refine K77_bndI (fun _ => ?_) | with_reducible refine K77_bndJ (by decide) (fun _ => ?_) | with_reducible refine K77_bnd (fun _ => ?_) | with_reducible intro _)
theorem kf_X9_behindUnit_34 (N : Nat) (k2 : Int32 → xHp → Option (Unit × xHp)) (x1 : Int32) (s0 : Int32) (h : xHp) (h_k2 : ∀ y0 hh, K77 hh (k2 y0 hh)) : K77 h (F_X9_behindUnit_34 N k2 x1 s0 h) := by
  unfold F_X9_behindUnit_34
  repeat' (first | with_reducible exact K77_some | with_reducible exact K77_none | with_reducible exact h_k2 _ _  | with_reducible refine kf_X9_behindUnit_54 _ _ _ _ ?_ | with_reducible refine kf_X9_doneTo _ _ _  | with_reducible refine kf_X9_behindUnit_176 _ _ _ ?_ | with_reducible refine kf_X9_next _ _  | with_reducible refine kf_X9_behindUnit_202 _ _ _ _ ?_ | with_reducible refine K77_ite ?_ ?_ | with_reducible refine K77_grd ?_ | with_reducible refine K77_bnd2 ?_ (fun _ _ => ?_) | with_reducible refine K77_bndI (fun _ => ?_) | with_reducible refine K77_bndJ (by decide) (fun _ => ?_) | with_reducible refine K77_bnd (fun _ => ?_) | with_reducible intro _)
theorem kf_X9_behindUnit_2_b (N : Nat) (k2 : Int32 → xHp → Option (Unit × xHp)) (x1 : Int32) (h : xHp) (h_k2 : ∀ y0 hh, K77 hh (k2 y0 hh)) : K77 h (F_X9_behindUnit_2_b N k2 x1 h) := by
  unfold F_X9_behindUnit_2_b
  repeat' (first | with_reducible exact K77_some | with_reducible exact K77_none | with_reducible exact h_k2 _ _  | with_reducible refine kf_X9_doneTo _ _ _  | with_reducible refine kf_X9_behindUnit_34 _ _ _ _ _ ?_ | with_reducible refine K77_ite ?_ ?_ | with_reducible refine K77_grd ?_ | with_reducible refine K77_bnd2 ?_ (fun _ _ => ?_) | with_reducible refine K77_bndI (fun _ => ?_) | with_reducible refine K77_bndJ (by decide) (fun _ => ?_) | with_reducible refine K77_bnd (fun _ => ?_) | with_reducible intro _)
theorem kf_X9_behindUnit_2 (N : Nat) (x1 : Int32) (h : xHp) : K77 h (F_X9_behindUnit_2 N x1 h) := by
  have key : ∀ n z0 z1, K77 z1 (xit (F_X9_behindUnit_2_b N) (fun _ _ => none) n z0 z1) := by
    intro n
    induction n with
    | zero => intros; exact K77_none
    | succ n ih => intros; exact kf_X9_behindUnit_2_b N _ _ _ ih
  exact key N _ _
theorem kf_X9_behindUnit (N : Nat) (h : xHp) : K77 h (F_X9_behindUnit N h) := by
  unfold F_X9_behindUnit
  repeat' (first | with_reducible exact K77_some | with_reducible exact K77_none | with_reducible refine kf_X9_behindUnit_2 _ _ _  | with_reducible refine K77_ite ?_ ?_ | with_reducible refine K77_grd ?_ | with_reducible refine K77_bnd2 ?_ (fun _ _ => ?_) | with_reducible refine K77_bndI (fun _ => ?_) | with_reducible refine K77_bndJ (by decide) (fun _ => ?_) | with_reducible refine K77_bnd (fun _ => ?_) | with_reducible intro _)
theorem kf_X9_read_95 (N : Nat) (k49 : xHp → Option (Int32 × xHp)) (h : xHp) (h_k49 : ∀ hh, K77 hh (k49 hh)) : K77 h (F_X9_read_95 N k49 h) := by
  unfold F_X9_read_95
  repeat' (first | with_reducible exact K77_some | with_reducible exact K77_none | with_reducible exact h_k49 _  | with_reducible refine K77_ite ?_ ?_ | with_reducible refine K77_grd ?_ | with_reducible refine K77_bnd2 ?_ (fun _ _ => ?_) | with_reducible refine K77_bndI (fun _ => ?_) | with_reducible refine K77_bndJ (by decide) (fun _ => ?_) | with_reducible refine K77_bnd (fun _ => ?_) | with_reducible intro _)
theorem kf_X9_read_83 (N : Nat) (k49 : xHp → Option (Int32 × xHp)) (h : xHp) (h_k49 : ∀ hh, K77 hh (k49 hh)) : K77 h (F_X9_read_83 N k49 h) := by
  unfold F_X9_read_83
  repeat' (first | with_reducible exact K77_some | with_reducible exact K77_none | with_reducible exact h_k49 _  | with_reducible refine kf_X9_read_95 _ _ _ ?_ | with_reducible refine K77_ite ?_ ?_ | with_reducible refine K77_grd ?_ | with_reducible refine K77_bnd2 ?_ (fun _ _ => ?_) | with_reducible refine K77_bndI (fun _ => ?_) | with_reducible refine K77_bndJ (by decide) (fun _ => ?_) | with_reducible refine K77_bnd (fun _ => ?_) | with_reducible intro _)
theorem kf_X9_read_192_b (N : Nat) (k192 : Int32 → xHp → Option (Int32 × xHp)) (x1 : Int32) (h : xHp) (h_k192 : ∀ y0 hh, K77 hh (k192 y0 hh)) : K77 h (F_X9_read_192_b N k192 x1 h) := by
  unfold F_X9_read_192_b
  repeat' (first | with_reducible exact K77_some | with_reducible exact K77_none | with_reducible exact h_k192 _ _  | with_reducible refine K77_ite ?_ ?_ | with_reducible refine K77_grd ?_ | with_reducible refine K77_bnd2 ?_ (fun _ _ => ?_) | with_reducible refine K77_bndI (fun _ => ?_) | with_reducible refine K77_bndJ (by decide) (fun _ => ?_) | with_reducible refine K77_bnd (fun _ => ?_) | with_reducible intro _)
theorem kf_X9_read_192 (N : Nat) (x1 : Int32) (h : xHp) : K77 h (F_X9_read_192 N x1 h) := by
  have key : ∀ n z0 z1, K77 z1 (xit (F_X9_read_192_b N) (fun _ _ => none) n z0 z1) := by
    intro n
    induction n with
    | zero => intros; exact K77_none
    | succ n ih => intros; exact kf_X9_read_192_b N _ _ _ ih
  exact key N _ _
theorem kf_X9_read_140_b (N : Nat) (k140 : Int32 → xHp → Option (Int32 × xHp)) (x1 : Int32) (h : xHp) (h_k140 : ∀ y0 hh, K77 hh (k140 y0 hh)) : K77 h (F_X9_read_140_b N k140 x1 h) := by
  unfold F_X9_read_140_b
  repeat' (first | with_reducible exact K77_some | with_reducible exact K77_none | with_reducible exact h_k140 _ _  | with_reducible refine kf_X9_read_192 _ _ _  | with_reducible refine K77_ite ?_ ?_ | with_reducible refine K77_grd ?_ | with_reducible refine K77_bnd2 ?_ (fun _ _ => ?_) | with_reducible refine K77_bndI (fun _ => ?_) | with_reducible refine K77_bndJ (by decide) (fun _ => ?_) | with_reducible refine K77_bnd (fun _ => ?_) | with_reducible intro _)
theorem kf_X9_read_140 (N : Nat) (x1 : Int32) (h : xHp) : K77 h (F_X9_read_140 N x1 h) := by
  have key : ∀ n z0 z1, K77 z1 (xit (F_X9_read_140_b N) (fun _ _ => none) n z0 z1) := by
    intro n
    induction n with
    | zero => intros; exact K77_none
    | succ n ih => intros; exact kf_X9_read_140_b N _ _ _ ih
  exact key N _ _
theorem kf_X9_read_98 (N : Nat) (h : xHp) : K77 h (F_X9_read_98 N h) := by
  unfold F_X9_read_98
  repeat' (first | with_reducible exact K77_some | with_reducible exact K77_none | with_reducible refine kf_X9_read_140 _ _ _  | with_reducible refine K77_ite ?_ ?_ | with_reducible refine K77_grd ?_ | with_reducible refine K77_bnd2 ?_ (fun _ _ => ?_) | with_reducible refine K77_bndI (fun _ => ?_) | with_reducible refine K77_bndJ (by decide) (fun _ => ?_) | with_reducible refine K77_bnd (fun _ => ?_) | with_reducible intro _)
theorem kf_X9_read_49_b (N : Nat) (k49 : xHp → Option (Int32 × xHp)) (h : xHp) (h_k49 : ∀ hh, K77 hh (k49 hh)) : K77 h (F_X9_read_49_b N k49 h) := by
  unfold F_X9_read_49_b
  repeat' (first | with_reducible exact K77_some | with_reducible exact K77_none | with_reducible exact h_k49 _  | with_reducible refine kf_X9_unit _ _  | with_reducible refine kf_X9_read_83 _ _ _ ?_ | with_reducible refine kf_X9_behindUnit _ _  | with_reducible refine kf_X9_read_98 _ _  | with_reducible refine K77_ite ?_ ?_ | with_reducible refine K77_grd ?_ | with_reducible refine K77_bnd2 ?_ (fun _ _ => ?_) | with_reducible refine K77_bndI (fun _ => ?_) | with_reducible refine K77_bndJ (by decide) (fun _ => ?_) | with_reducible refine K77_bnd (fun _ => ?_) | with_reducible intro _)
theorem kf_X9_read_49 (N : Nat) (h : xHp) : K77 h (F_X9_read_49 N h) := by
  have key : ∀ n z0, K77 z0 (xit (F_X9_read_49_b N) (fun _ => none) n z0) := by
    intro n
    induction n with
    | zero => intros; exact K77_none
    | succ n ih => intros; exact kf_X9_read_49_b N _ _ ih
  exact key N _
theorem kf_X9_read (N : Nat) (h : xHp) : K77 h (F_X9_read N h) := by
  unfold F_X9_read
  repeat' (first | with_reducible exact K77_some | with_reducible exact K77_none | with_reducible refine kf_X9_next _ _  | with_reducible refine kf_X9_read_49 _ _  | with_reducible refine K77_ite ?_ ?_ | with_reducible refine K77_grd ?_ | with_reducible refine K77_bnd2 ?_ (fun _ _ => ?_) | with_reducible refine K77_bndI (fun _ => ?_) | with_reducible refine K77_bndJ (by decide) (fun _ => ?_) | with_reducible refine K77_bnd (fun _ => ?_) | with_reducible intro _)
theorem kf_X9_fault (N : Nat) (h : xHp) : K77 h (F_X9_fault N h) := by
  unfold F_X9_fault
  repeat' (first | with_reducible exact K77_some | with_reducible exact K77_none | with_reducible refine K77_ite ?_ ?_ | with_reducible refine K77_grd ?_ | with_reducible refine K77_bnd2 ?_ (fun _ _ => ?_) | with_reducible refine K77_bndI (fun _ => ?_) | with_reducible refine K77_bndJ (by decide) (fun _ => ?_) | with_reducible refine K77_bnd (fun _ => ?_) | with_reducible intro _)
theorem kf_X9_atom (N : Nat) (p1 : Int32) (p2 : Int32) (h : xHp) : K77 h (F_X9_atom N p1 p2 h) := by
  unfold F_X9_atom
  repeat' (first | with_reducible exact K77_some | with_reducible exact K77_none | with_reducible refine kf_X9_isIn _ _ _ _ _  | with_reducible refine kf_X9_may _ _ _ _ _  | with_reducible refine K77_ite ?_ ?_ | with_reducible refine K77_grd ?_ | with_reducible refine K77_bnd2 ?_ (fun _ _ => ?_) | with_reducible refine K77_bndI (fun _ => ?_) | with_reducible refine K77_bndJ (by decide) (fun _ => ?_) | with_reducible refine K77_bnd (fun _ => ?_) | with_reducible intro _)
theorem kf_X9_judged_211 (N : Nat) (k4 : Int32 → Int32 → xHp → Option (Int32 × xHp)) (x1 : Int32) (x2 : Int32) (h : xHp) (h_k4 : ∀ y0 y1 hh, K77 hh (k4 y0 y1 hh)) : K77 h (F_X9_judged_211 N k4 x1 x2 h) := by
  unfold F_X9_judged_211
  repeat' (first | with_reducible exact K77_some | with_reducible exact K77_none | with_reducible exact h_k4 _ _ _  | with_reducible refine K77_ite ?_ ?_ | with_reducible refine K77_grd ?_ | with_reducible refine K77_bnd2 ?_ (fun _ _ => ?_) | with_reducible refine K77_bndI (fun _ => ?_) | with_reducible refine K77_bndJ (by decide) (fun _ => ?_) | with_reducible refine K77_bnd (fun _ => ?_) | with_reducible intro _)
theorem kf_X9_judged_104 (N : Nat) (k4 : Int32 → Int32 → xHp → Option (Int32 × xHp)) (x1 : Int32) (x2 : Int32) (s2 : Int32) (s1 : Int32) (h : xHp) (h_k4 : ∀ y0 y1 hh, K77 hh (k4 y0 y1 hh)) : K77 h (F_X9_judged_104 N k4 x1 x2 s2 s1 h) := by
  unfold F_X9_judged_104
  repeat' (first | with_reducible exact K77_some | with_reducible exact K77_none | with_reducible exact h_k4 _ _ _  | with_reducible refine kf_X9_judged_211 _ _ _ _ _ ?_ | with_reducible refine K77_ite ?_ ?_ | with_reducible refine K77_grd ?_ | with_reducible refine K77_bnd2 ?_ (fun _ _ => ?_) | with_reducible refine K77_bndI (fun _ => ?_) | with_reducible refine K77_bndJ (by decide) (fun _ => ?_) | with_reducible refine K77_bnd (fun _ => ?_) | with_reducible intro _)
theorem kf_X9_judged_210 (N : Nat) (k4 : Int32 → Int32 → xHp → Option (Int32 × xHp)) (x1 : Int32) (x2 : Int32) (s2 : Int32) (s1 : Int32) (h : xHp) (h_k4 : ∀ y0 y1 hh, K77 hh (k4 y0 y1 hh)) : K77 h (F_X9_judged_210 N k4 x1 x2 s2 s1 h) := by
  unfold F_X9_judged_210
  repeat' (first | with_reducible exact K77_some | with_reducible exact K77_none | with_reducible exact h_k4 _ _ _  | with_reducible refine kf_X9_judged_211 _ _ _ _ _ ?_ | with_reducible refine K77_ite ?_ ?_ | with_reducible refine K77_grd ?_ | with_reducible refine K77_bnd2 ?_ (fun _ _ => ?_) | with_reducible refine K77_bndI (fun _ => ?_) | with_reducible refine K77_bndJ (by decide) (fun _ => ?_) | with_reducible refine K77_bnd (fun _ => ?_) | with_reducible intro _)
theorem kf_X9_judged_185 (N : Nat) (k4 : Int32 → Int32 → xHp → Option (Int32 × xHp)) (x1 : Int32) (x2 : Int32) (x6 : Int32) (s1 : Int32) (h : xHp) (h_k4 : ∀ y0 y1 hh, K77 hh (k4 y0 y1 hh)) : K77 h (F_X9_judged_185 N k4 x1 x2 x6 s1 h) := by
  unfold F_X9_judged_185
  repeat' (first | with_reducible exact K77_some | with_reducible exact K77_none | with_reducible exact h_k4 _ _ _  | with_reducible refine kf_X9_judged_210 _ _ _ _ _ _ _ ?_ | with_reducible refine K77_ite ?_ ?_ | with_reducible refine K77_grd ?_ | with_reducible refine K77_bnd2 ?_ (fun _ _ => ?_) | with_reducible refine K77_bndI (fun _ => ?_) | with_reducible refine K77_bndJ (by decide) (fun _ => ?_) | with_reducible refine K77_bnd (fun _ => ?_) | with_reducible intro _)
theorem kf_X9_judged_202 (N : Nat) (k4 : Int32 → Int32 → xHp → Option (Int32 × xHp)) (x1 : Int32) (x2 : Int32) (s1 : Int32) (h : xHp) (h_k4 : ∀ y0 y1 hh, K77 hh (k4 y0 y1 hh)) : K77 h (F_X9_judged_202 N k4 x1 x2 s1 h) := by
  unfold F_X9_judged_202
  repeat' (first | with_reducible exact K77_some | with_reducible exact K77_none | with_reducible exact h_k4 _ _ _  | with_reducible refine kf_X9_judged_210 _ _ _ _ _ _ _ ?_ | with_reducible refine K77_ite ?_ ?_ | with_reducible refine K77_grd ?_ | with_reducible refine K77_bnd2 ?_ (fun _ _ => ?_) | with_reducible refine K77_bndI (fun _ => ?_) | with_reducible refine K77_bndJ (by decide) (fun _ => ?_) | with_reducible refine K77_bnd (fun _ => ?_) | with_reducible intro _)
theorem kf_X9_judged_162 (N : Nat) (k4 : Int32 → Int32 → xHp → Option (Int32 × xHp)) (x1 : Int32) (x2 : Int32) (x4 : Int32) (x5 : Int32) (s0 : Int32) (h : xHp) (h_k4 : ∀ y0 y1 hh, K77 hh (k4 y0 y1 hh)) : K77 h (F_X9_judged_162 N k4 x1 x2 x4 x5 s0 h) := by
  unfold F_X9_judged_162
  repeat' (first | with_reducible exact K77_some | with_reducible exact K77_none | with_reducible exact h_k4 _ _ _  | with_reducible refine kf_X9_judged_185 _ _ _ _ _ _ _ ?_ | with_reducible refine kf_X9_judged_202 _ _ _ _ _ _ ?_ | with_reducible refine kf_X9_judged_210 _ _ _ _ _ _ _ ?_ | with_reducible refine K77_ite ?_ ?_ | with_reducible refine K77_grd ?_ | with_reducible refine K77_bnd2 ?_ (fun _ _ => ?_) | with_reducible refine K77_bndI (fun _ => ?_) | with_reducible refine K77_bndJ (by decide) (fun _ => ?_) | with_reducible refine K77_bnd (fun _ => ?_) | with_reducible intro _)
theorem kf_X9_judged_151 (N : Nat) (k4 : Int32 → Int32 → xHp → Option (Int32 × xHp)) (x1 : Int32) (x2 : Int32) (x3 : Int32) (x4 : Int32) (x5 : Int32) (h : xHp) (h_k4 : ∀ y0 y1 hh, K77 hh (k4 y0 y1 hh)) : K77 h (F_X9_judged_151 N k4 x1 x2 x3 x4 x5 h) := by
  unfold F_X9_judged_151
  repeat' (first | with_reducible exact K77_some | with_reducible exact K77_none | with_reducible exact h_k4 _ _ _  | with_reducible refine kf_X9_judged_162 _ _ _ _ _ _ _ _ ?_ | with_reducible refine K77_ite ?_ ?_ | with_reducible refine K77_grd ?_ | with_reducible refine K77_bnd2 ?_ (fun _ _ => ?_) | with_reducible refine K77_bndI (fun _ => ?_) | with_reducible refine K77_bndJ (by decide) (fun _ => ?_) | with_reducible refine K77_bnd (fun _ => ?_) | with_reducible intro _)
theorem kf_X9_judged_149 (N : Nat) (k4 : Int32 → Int32 → xHp → Option (Int32 × xHp)) (x1 : Int32) (x2 : Int32) (x3 : Int32) (x5 : Int32) (s0 : Int32) (h : xHp) (h_k4 : ∀ y0 y1 hh, K77 hh (k4 y0 y1 hh)) : K77 h (F_X9_judged_149 N k4 x1 x2 x3 x5 s0 h) := by
  unfold F_X9_judged_149
  repeat' (first | with_reducible exact K77_some | with_reducible exact K77_none | with_reducible exact h_k4 _ _ _  | with_reducible refine kf_X9_judged_151 _ _ _ _ _ _ _ _ ?_ | with_reducible refine K77_ite ?_ ?_ | with_reducible refine K77_grd ?_ | with_reducible refine K77_bnd2 ?_ (fun _ _ => ?_) | with_reducible refine K77_bndI (fun _ => ?_) | with_reducible refine K77_bndJ (by decide) (fun _ => ?_) | with_reducible refine K77_bnd (fun _ => ?_) | with_reducible intro _)
theorem kf_X9_judged_4_b (N : Nat) (k4 : Int32 → Int32 → xHp → Option (Int32 × xHp)) (x1 : Int32) (x2 : Int32) (h : xHp) (h_k4 : ∀ y0 y1 hh, K77 hh (k4 y0 y1 hh)) : K77 h (F_X9_judged_4_b N k4 x1 x2 h) := by
  unfold F_X9_judged_4_b
  repeat' (first | with_reducible exact K77_some | with_reducible exact K77_none | with_reducible exact h_k4 _ _ _  | with_reducible refine kf_X9_judged_104 _ _ _ _ _ _ _ ?_ | with_reducible refine kf_X9_judged_149 _ _ _ _ _ _ _ _ ?_ | with_reducible refine kf_X9_judged_151 _ _ _ _ _ _ _ _ ?_ | with_reducible refine kf_X9_judged_211 _ _ _ _ _ ?_ | with_reducible refine K77_ite ?_ ?_ | with_reducible refine K77_grd ?_ | with_reducible refine K77_bnd2 ?_ (fun _ _ => ?_) | with_reducible refine K77_bndI (fun _ => ?_) | with_reducible refine K77_bndJ (by decide) (fun _ => ?_) | with_reducible refine K77_bnd (fun _ => ?_) | with_reducible intro _)
theorem kf_X9_judged_4 (N : Nat) (x1 : Int32) (x2 : Int32) (h : xHp) : K77 h (F_X9_judged_4 N x1 x2 h) := by
  have key : ∀ n z0 z1 z2, K77 z2 (xit (F_X9_judged_4_b N) (fun _ _ _ => none) n z0 z1 z2) := by
    intro n
    induction n with
    | zero => intros; exact K77_none
    | succ n ih => intros; exact kf_X9_judged_4_b N _ _ _ _ ih
  exact key N _ _ _
theorem kf_X9_judged (N : Nat) (h : xHp) : K77 h (F_X9_judged N h) := by
  unfold F_X9_judged
  repeat' (first | with_reducible exact K77_some | with_reducible exact K77_none | with_reducible refine kf_X9_judged_4 _ _ _ _  | with_reducible refine K77_ite ?_ ?_ | with_reducible refine K77_grd ?_ | with_reducible refine K77_bnd2 ?_ (fun _ _ => ?_) | with_reducible refine K77_bndI (fun _ => ?_) | with_reducible refine K77_bndJ (by decide) (fun _ => ?_) | with_reducible refine K77_bnd (fun _ => ?_) | with_reducible intro _)
theorem kf_X9_putDifference_102 (N : Nat) (x1 : Int32) (s2 : Int32) (s1 : Int32) (h : xHp) : K77 h (F_X9_putDifference_102 N x1 s2 s1 h) := by
  unfold F_X9_putDifference_102
  repeat' (first | with_reducible exact K77_some | with_reducible exact K77_none | with_reducible refine K77_ite ?_ ?_ | with_reducible refine K77_grd ?_ | with_reducible refine K77_bnd2 ?_ (fun _ _ => ?_) | with_reducible refine K77_bndI (fun _ => ?_) | with_reducible refine K77_bndJ (by decide) (fun _ => ?_) | with_reducible refine K77_bnd (fun _ => ?_) | with_reducible intro _)
theorem kf_X9_putDifference_71 (N : Nat) (x1 : Int32) (x2 : Int32) (s2 : Int32) (s1 : Int32) (h : xHp) : K77 h (F_X9_putDifference_71 N x1 x2 s2 s1 h) := by
  unfold F_X9_putDifference_71
  repeat' (first | with_reducible exact K77_some | with_reducible exact K77_none | with_reducible refine kf_X9_putDifference_102 _ _ _ _ _  | with_reducible refine K77_ite ?_ ?_ | with_reducible refine K77_grd ?_ | with_reducible refine K77_bnd2 ?_ (fun _ _ => ?_) | with_reducible refine K77_bndI (fun _ => ?_) | with_reducible refine K77_bndJ (by decide) (fun _ => ?_) | with_reducible refine K77_bnd (fun _ => ?_) | with_reducible intro _)
theorem kf_X9_putDifference_43 (N : Nat) (x1 : Int32) (x2 : Int32) (s2 : Int32) (s1 : Int32) (h : xHp) : K77 h (F_X9_putDifference_43 N x1 x2 s2 s1 h) := by
  unfold F_X9_putDifference_43
  repeat' (first | with_reducible exact K77_some | with_reducible exact K77_none | with_reducible refine kf_X9_putDifference_71 _ _ _ _ _ _  | with_reducible refine K77_ite ?_ ?_ | with_reducible refine K77_grd ?_ | with_reducible refine K77_bnd2 ?_ (fun _ _ => ?_) | with_reducible refine K77_bndI (fun _ => ?_) | with_reducible refine K77_bndJ (by decide) (fun _ => ?_) | with_reducible refine K77_bnd (fun _ => ?_) | with_reducible intro _)
theorem kf_X9_putDifference_15 (N : Nat) (x1 : Int32) (s0 : Int32) (h : xHp) : K77 h (F_X9_putDifference_15 N x1 s0 h) := by
  unfold F_X9_putDifference_15
  repeat' (first | with_reducible exact K77_some | with_reducible exact K77_none | with_reducible refine kf_X9_putDifference_43 _ _ _ _ _ _  | with_reducible refine K77_ite ?_ ?_ | with_reducible refine K77_grd ?_ | with_reducible refine K77_bnd2 ?_ (fun _ _ => ?_) | with_reducible refine K77_bndI (fun _ => ?_) | with_reducible refine K77_bndJ (by decide) (fun _ => ?_) | with_reducible refine K77_bnd (fun _ => ?_) | with_reducible intro _)
theorem kf_X9_putDifference (N : Nat) (p1 : Int32) (h : xHp) : K77 h (F_X9_putDifference N p1 h) := by
  unfold F_X9_putDifference
  repeat' (first | with_reducible exact K77_some | with_reducible exact K77_none | with_reducible refine kf_X9_putDifference_15 _ _ _ _  | with_reducible refine K77_ite ?_ ?_ | with_reducible refine K77_grd ?_ | with_reducible refine K77_bnd2 ?_ (fun _ _ => ?_) | with_reducible refine K77_bndI (fun _ => ?_) | with_reducible refine K77_bndJ (by decide) (fun _ => ?_) | with_reducible refine K77_bnd (fun _ => ?_) | with_reducible intro _)
theorem kf_X9_isWay_50_b (N : Nat) (k50 : Int32 → xHp → Option (Int32 × xHp)) (x2 : Int32) (h : xHp) (h_k50 : ∀ y0 hh, K77 hh (k50 y0 hh)) : K77 h (F_X9_isWay_50_b N k50 x2 h) := by
  unfold F_X9_isWay_50_b
  repeat' (first | with_reducible exact K77_some | with_reducible exact K77_none | with_reducible exact h_k50 _ _  | with_reducible refine kf_X9_findValues _ _  | with_reducible refine kf_X9_putDifference _ _ _  | with_reducible refine K77_ite ?_ ?_ | with_reducible refine K77_grd ?_ | with_reducible refine K77_bnd2 ?_ (fun _ _ => ?_) | with_reducible refine K77_bndI (fun _ => ?_) | with_reducible refine K77_bndJ (by decide) (fun _ => ?_) | with_reducible refine K77_bnd (fun _ => ?_) | with_reducible intro _)
theorem kf_X9_isWay_50 (N : Nat) (x2 : Int32) (h : xHp) : K77 h (F_X9_isWay_50 N x2 h) := by
  have key : ∀ n z0 z1, K77 z1 (xit (F_X9_isWay_50_b N) (fun _ _ => none) n z0 z1) := by
    intro n
    induction n with
    | zero => intros; exact K77_none
    | succ n ih => intros; exact kf_X9_isWay_50_b N _ _ _ ih
  exact key N _ _
theorem kf_X9_isWay_2_b (N : Nat) (k2 : Int32 → Int32 → xHp → Option (Int32 × xHp)) (x1 : Int32) (x2 : Int32) (h : xHp) (h_k2 : ∀ y0 y1 hh, K77 hh (k2 y0 y1 hh)) : K77 h (F_X9_isWay_2_b N k2 x1 x2 h) := by
  unfold F_X9_isWay_2_b
  repeat' (first | with_reducible exact K77_some | with_reducible exact K77_none | with_reducible exact h_k2 _ _ _  | with_reducible refine kf_X9_judged _ _  | with_reducible refine kf_X9_constraintsAlone _ _  | with_reducible refine kf_X9_isWay_50 _ _ _  | with_reducible refine K77_ite ?_ ?_ | with_reducible refine K77_grd ?_ | with_reducible refine K77_bnd2 ?_ (fun _ _ => ?_) | with_reducible refine K77_bndI (fun _ => ?_) | with_reducible refine K77_bndJ (by decide) (fun _ => ?_) | with_reducible refine K77_bnd (fun _ => ?_) | with_reducible intro _)
theorem kf_X9_isWay_2 (N : Nat) (x1 : Int32) (x2 : Int32) (h : xHp) : K77 h (F_X9_isWay_2 N x1 x2 h) := by
  have key : ∀ n z0 z1 z2, K77 z2 (xit (F_X9_isWay_2_b N) (fun _ _ _ => none) n z0 z1 z2) := by
    intro n
    induction n with
    | zero => intros; exact K77_none
    | succ n ih => intros; exact kf_X9_isWay_2_b N _ _ _ _ ih
  exact key N _ _ _
theorem kf_X9_isWay (N : Nat) (p1 : Int32) (h : xHp) : K77 h (F_X9_isWay N p1 h) := by
  unfold F_X9_isWay
  repeat' (first | with_reducible exact K77_some | with_reducible exact K77_none | with_reducible refine kf_X9_isWay_2 _ _ _ _  | with_reducible refine K77_ite ?_ ?_ | with_reducible refine K77_grd ?_ | with_reducible refine K77_bnd2 ?_ (fun _ _ => ?_) | with_reducible refine K77_bndI (fun _ => ?_) | with_reducible refine K77_bndJ (by decide) (fun _ => ?_) | with_reducible refine K77_bnd (fun _ => ?_) | with_reducible intro _)
theorem kf_X9_rows (N : Nat) (h : xHp) : K77 h (F_X9_rows N h) := by
  unfold F_X9_rows
  repeat' (first | with_reducible exact K77_some | with_reducible exact K77_none | with_reducible refine K77_ite ?_ ?_ | with_reducible refine K77_grd ?_ | with_reducible refine K77_bnd2 ?_ (fun _ _ => ?_) | with_reducible refine K77_bndI (fun _ => ?_) | with_reducible refine K77_bndJ (by decide) (fun _ => ?_) | with_reducible refine K77_bnd (fun _ => ?_) | with_reducible intro _)
theorem kf_X9_ways_31 (N : Nat) (k9 : Int32 → Int32 → xHp → Option (Int32 × xHp)) (x2 : Int32) (s1 : Int32) (s0 : Int32) (h : xHp) (h_k9 : ∀ y0 y1 hh, K77 hh (k9 y0 y1 hh)) : K77 h (F_X9_ways_31 N k9 x2 s1 s0 h) := by
  unfold F_X9_ways_31
  repeat' (first | with_reducible exact K77_some | with_reducible exact K77_none | with_reducible exact h_k9 _ _ _  | with_reducible refine K77_ite ?_ ?_ | with_reducible refine K77_grd ?_ | with_reducible refine K77_bnd2 ?_ (fun _ _ => ?_) | with_reducible refine K77_bndI (fun _ => ?_) | with_reducible refine K77_bndJ (by decide) (fun _ => ?_) | with_reducible refine K77_bnd (fun _ => ?_) | with_reducible intro _)
theorem kf_X9_ways_9_b (N : Nat) (k9 : Int32 → Int32 → xHp → Option (Int32 × xHp)) (x1 : Int32) (x2 : Int32) (h : xHp) (h_k9 : ∀ y0 y1 hh, K77 hh (k9 y0 y1 hh)) : K77 h (F_X9_ways_9_b N k9 x1 x2 h) := by
  unfold F_X9_ways_9_b
  repeat' (first | with_reducible exact K77_some | with_reducible exact K77_none | with_reducible exact h_k9 _ _ _  | with_reducible refine kf_X9_rows _ _  | with_reducible refine kf_X9_isWay _ _ _  | with_reducible refine kf_X9_ways_31 _ _ _ _ _ _ ?_ | with_reducible refine K77_ite ?_ ?_ | with_reducible refine K77_grd ?_ | with_reducible refine K77_bnd2 ?_ (fun _ _ => ?_) | with_reducible refine K77_bndI (fun _ => ?_) | with_reducible refine K77_bndJ (by decide) (fun _ => ?_) | with_reducible refine K77_bnd (fun _ => ?_) | with_reducible intro _)
theorem kf_X9_ways_9 (N : Nat) (x1 : Int32) (x2 : Int32) (h : xHp) : K77 h (F_X9_ways_9 N x1 x2 h) := by
  have key : ∀ n z0 z1 z2, K77 z2 (xit (F_X9_ways_9_b N) (fun _ _ _ => none) n z0 z1 z2) := by
    intro n
    induction n with
    | zero => intros; exact K77_none
    | succ n ih => intros; exact kf_X9_ways_9_b N _ _ _ _ ih
  exact key N _ _ _
theorem kf_X9_ways (N : Nat) (h : xHp) : K77 h (F_X9_ways N h) := by
  unfold F_X9_ways
  repeat' (first | with_reducible exact K77_some | with_reducible exact K77_none | with_reducible refine kf_X9_ways_9 _ _ _ _  | with_reducible refine K77_ite ?_ ?_ | with_reducible refine K77_grd ?_ | with_reducible refine K77_bnd2 ?_ (fun _ _ => ?_) | with_reducible refine K77_bndI (fun _ => ?_) | with_reducible refine K77_bndJ (by decide) (fun _ => ?_) | with_reducible refine K77_bnd (fun _ => ?_) | with_reducible intro _)
theorem kf_X9_way_15_b (N : Nat) (k15 : Int32 → xHp → Option (Int32 × xHp)) (x2 : Int32) (h : xHp) (h_k15 : ∀ y0 hh, K77 hh (k15 y0 hh)) : K77 h (F_X9_way_15_b N k15 x2 h) := by
  unfold F_X9_way_15_b
  repeat' (first | with_reducible exact K77_some | with_reducible exact K77_none | with_reducible exact h_k15 _ _  | with_reducible refine kf_X9_rows _ _  | with_reducible refine kf_X9_isWay _ _ _  | with_reducible refine K77_ite ?_ ?_ | with_reducible refine K77_grd ?_ | with_reducible refine K77_bnd2 ?_ (fun _ _ => ?_) | with_reducible refine K77_bndI (fun _ => ?_) | with_reducible refine K77_bndJ (by decide) (fun _ => ?_) | with_reducible refine K77_bnd (fun _ => ?_) | with_reducible intro _)
theorem kf_X9_way_15 (N : Nat) (x2 : Int32) (h : xHp) : K77 h (F_X9_way_15 N x2 h) := by
  have key : ∀ n z0 z1, K77 z1 (xit (F_X9_way_15_b N) (fun _ _ => none) n z0 z1) := by
    intro n
    induction n with
    | zero => intros; exact K77_none
    | succ n ih => intros; exact kf_X9_way_15_b N _ _ _ ih
  exact key N _ _
theorem kf_X9_way_14 (N : Nat) (s0 : Int32) (h : xHp) : K77 h (F_X9_way_14 N s0 h) := by
  unfold F_X9_way_14
  repeat' (first | with_reducible exact K77_some | with_reducible exact K77_none | with_reducible refine kf_X9_way_15 _ _ _  | with_reducible refine K77_ite ?_ ?_ | with_reducible refine K77_grd ?_ | with_reducible refine K77_bnd2 ?_ (fun _ _ => ?_) | with_reducible refine K77_bndI (fun _ => ?_) | with_reducible refine K77_bndJ (by decide) (fun _ => ?_) | with_reducible refine K77_bnd (fun _ => ?_) | with_reducible intro _)
theorem kf_X9_way (N : Nat) (p1 : Int32) (h : xHp) : K77 h (F_X9_way N p1 h) := by
  unfold F_X9_way
  repeat' (first | with_reducible exact K77_some | with_reducible exact K77_none | with_reducible refine kf_X9_way_14 _ _ _  | with_reducible refine K77_ite ?_ ?_ | with_reducible refine K77_grd ?_ | with_reducible refine K77_bnd2 ?_ (fun _ _ => ?_) | with_reducible refine K77_bndI (fun _ => ?_) | with_reducible refine K77_bndJ (by decide) (fun _ => ?_) | with_reducible refine K77_bnd (fun _ => ?_) | with_reducible intro _)
theorem kf_X9_valueIn_56 (N : Nat) (h : xHp) : K77 h (F_X9_valueIn_56 N h) := by
  unfold F_X9_valueIn_56
  repeat' (first | with_reducible exact K77_some | with_reducible exact K77_none | with_reducible refine K77_ite ?_ ?_ | with_reducible refine K77_grd ?_ | with_reducible refine K77_bnd2 ?_ (fun _ _ => ?_) | with_reducible refine K77_bndI (fun _ => ?_) | with_reducible refine K77_bndJ (by decide) (fun _ => ?_) | with_reducible refine K77_bnd (fun _ => ?_) | with_reducible intro _)
theorem kf_X9_valueIn (N : Nat) (p1 : Int32) (p2 : Int32) (h : xHp) : K77 h (F_X9_valueIn N p1 p2 h) := by
  unfold F_X9_valueIn
  repeat' (first | with_reducible exact K77_some | with_reducible exact K77_none | with_reducible refine kf_X9_isVariable _ _ _  | with_reducible refine kf_X9_may _ _ _ _ _  | with_reducible refine kf_X9_rows _ _  | with_reducible refine kf_X9_isIn _ _ _ _ _  | with_reducible refine kf_X9_valueIn_56 _ _  | with_reducible refine kf_X9_isWay _ _ _  | with_reducible refine K77_ite ?_ ?_ | with_reducible refine K77_grd ?_ | with_reducible refine K77_bnd2 ?_ (fun _ _ => ?_) | with_reducible refine K77_bndI (fun _ => ?_) | with_reducible refine K77_bndJ (by decide) (fun _ => ?_) | with_reducible refine K77_bnd (fun _ => ?_) | with_reducible intro _)
theorem kf_X9_must_119 (N : Nat) (k31 : Int32 → Int32 → Int32 → Int32 → xHp → Option (Int32 × xHp)) (x1 : Int32) (x2 : Int32) (x3 : Int32) (x4 : Int32) (h : xHp) (h_k31 : ∀ y0 y1 y2 y3 hh, K77 hh (k31 y0 y1 y2 y3 hh)) : K77 h (F_X9_must_119 N k31 x1 x2 x3 x4 h) := by
  unfold F_X9_must_119
  repeat' (first | with_reducible exact K77_some | with_reducible exact K77_none | with_reducible exact h_k31 _ _ _ _ _  | with_reducible refine K77_ite ?_ ?_ | with_reducible refine K77_grd ?_ | with_reducible refine K77_bnd2 ?_ (fun _ _ => ?_) | with_reducible refine K77_bndI (fun _ => ?_) | with_reducible refine K77_bndJ (by decide) (fun _ => ?_) | with_reducible refine K77_bnd (fun _ => ?_) | with_reducible intro _)
theorem kf_X9_must_118 (N : Nat) (k31 : Int32 → Int32 → Int32 → Int32 → xHp → Option (Int32 × xHp)) (x1 : Int32) (x2 : Int32) (x4 : Int32) (s0 : Int32) (h : xHp) (h_k31 : ∀ y0 y1 y2 y3 hh, K77 hh (k31 y0 y1 y2 y3 hh)) : K77 h (F_X9_must_118 N k31 x1 x2 x4 s0 h) := by
  unfold F_X9_must_118
  repeat' (first | with_reducible exact K77_some | with_reducible exact K77_none | with_reducible exact h_k31 _ _ _ _ _  | with_reducible refine kf_X9_must_119 _ _ _ _ _ _ _ ?_ | with_reducible refine K77_ite ?_ ?_ | with_reducible refine K77_grd ?_ | with_reducible refine K77_bnd2 ?_ (fun _ _ => ?_) | with_reducible refine K77_bndI (fun _ => ?_) | with_reducible refine K77_bndJ (by decide) (fun _ => ?_) | with_reducible refine K77_bnd (fun _ => ?_) | with_reducible intro _)
theorem kf_X9_must_113 (N : Nat) (k31 : Int32 → Int32 → Int32 → Int32 → xHp → Option (Int32 × xHp)) (x1 : Int32) (x2 : Int32) (x4 : Int32) (h : xHp) (h_k31 : ∀ y0 y1 y2 y3 hh, K77 hh (k31 y0 y1 y2 y3 hh)) : K77 h (F_X9_must_113 N k31 x1 x2 x4 h) := by
  unfold F_X9_must_113
  repeat' (first | with_reducible exact K77_some | with_reducible exact K77_none | with_reducible exact h_k31 _ _ _ _ _  | with_reducible refine kf_X9_must_118 _ _ _ _ _ _ _ ?_ | with_reducible refine K77_ite ?_ ?_ | with_reducible refine K77_grd ?_ | with_reducible refine K77_bnd2 ?_ (fun _ _ => ?_) | with_reducible refine K77_bndI (fun _ => ?_) | with_reducible refine K77_bndJ (by decide) (fun _ => ?_) | with_reducible refine K77_bnd (fun _ => ?_) | with_reducible intro _)
theorem kf_X9_must_103 (N : Nat) (k31 : Int32 → Int32 → Int32 → Int32 → xHp → Option (Int32 × xHp)) (x1 : Int32) (x3 : Int32) (x4 : Int32) (x5 : Int32) (s0 : Int32) (h : xHp) (h_k31 : ∀ y0 y1 y2 y3 hh, K77 hh (k31 y0 y1 y2 y3 hh)) : K77 h (F_X9_must_103 N k31 x1 x3 x4 x5 s0 h) := by
  unfold F_X9_must_103
  repeat' (first | with_reducible exact K77_some | with_reducible exact K77_none | with_reducible exact h_k31 _ _ _ _ _  | with_reducible refine kf_X9_must_113 _ _ _ _ _ _ ?_ | with_reducible refine kf_X9_must_118 _ _ _ _ _ _ _ ?_ | with_reducible refine K77_ite ?_ ?_ | with_reducible refine K77_grd ?_ | with_reducible refine K77_bnd2 ?_ (fun _ _ => ?_) | with_reducible refine K77_bndI (fun _ => ?_) | with_reducible refine K77_bndJ (by decide) (fun _ => ?_) | with_reducible refine K77_bnd (fun _ => ?_) | with_reducible intro _)
theorem kf_X9_must_98 (N : Nat) (k31 : Int32 → Int32 → Int32 → Int32 → xHp → Option (Int32 × xHp)) (x1 : Int32) (x3 : Int32) (x4 : Int32) (x5 : Int32) (h : xHp) (h_k31 : ∀ y0 y1 y2 y3 hh, K77 hh (k31 y0 y1 y2 y3 hh)) : K77 h (F_X9_must_98 N k31 x1 x3 x4 x5 h) := by
  unfold F_X9_must_98
  repeat' (first | with_reducible exact K77_some | with_reducible exact K77_none | with_reducible exact h_k31 _ _ _ _ _  | with_reducible refine kf_X9_must_103 _ _ _ _ _ _ _ _ ?_ | with_reducible refine K77_ite ?_ ?_ | with_reducible refine K77_grd ?_ | with_reducible refine K77_bnd2 ?_ (fun _ _ => ?_) | with_reducible refine K77_bndI (fun _ => ?_) | with_reducible refine K77_bndJ (by decide) (fun _ => ?_) | with_reducible refine K77_bnd (fun _ => ?_) | with_reducible intro _)
theorem kf_X9_must_80 (N : Nat) (k31 : Int32 → Int32 → Int32 → Int32 → xHp → Option (Int32 × xHp)) (x1 : Int32) (x2 : Int32) (x3 : Int32) (x4 : Int32) (x5 : Int32) (h : xHp) (h_k31 : ∀ y0 y1 y2 y3 hh, K77 hh (k31 y0 y1 y2 y3 hh)) : K77 h (F_X9_must_80 N k31 x1 x2 x3 x4 x5 h) := by
  unfold F_X9_must_80
  repeat' (first | with_reducible exact K77_some | with_reducible exact K77_none | with_reducible exact h_k31 _ _ _ _ _  | with_reducible refine kf_X9_isWay _ _ _  | with_reducible refine kf_X9_must_119 _ _ _ _ _ _ _ ?_ | with_reducible refine kf_X9_must_103 _ _ _ _ _ _ _ _ ?_ | with_reducible refine kf_X9_must_98 _ _ _ _ _ _ _ ?_ | with_reducible refine K77_ite ?_ ?_ | with_reducible refine K77_grd ?_ | with_reducible refine K77_bnd2 ?_ (fun _ _ => ?_) | with_reducible refine K77_bndI (fun _ => ?_) | with_reducible refine K77_bndJ (by decide) (fun _ => ?_) | with_reducible refine K77_bnd (fun _ => ?_) | with_reducible intro _)
theorem kf_X9_must_62 (N : Nat) (k31 : Int32 → Int32 → Int32 → Int32 → xHp → Option (Int32 × xHp)) (x1 : Int32) (x2 : Int32) (x3 : Int32) (x4 : Int32) (s0 : Int32) (h : xHp) (h_k31 : ∀ y0 y1 y2 y3 hh, K77 hh (k31 y0 y1 y2 y3 hh)) : K77 h (F_X9_must_62 N k31 x1 x2 x3 x4 s0 h) := by
  unfold F_X9_must_62
  repeat' (first | with_reducible exact K77_some | with_reducible exact K77_none | with_reducible exact h_k31 _ _ _ _ _  | with_reducible refine kf_X9_must_80 _ _ _ _ _ _ _ _ ?_ | with_reducible refine kf_X9_must_119 _ _ _ _ _ _ _ ?_ | with_reducible refine K77_ite ?_ ?_ | with_reducible refine K77_grd ?_ | with_reducible refine K77_bnd2 ?_ (fun _ _ => ?_) | with_reducible refine K77_bndI (fun _ => ?_) | with_reducible refine K77_bndJ (by decide) (fun _ => ?_) | with_reducible refine K77_bnd (fun _ => ?_) | with_reducible intro _)
theorem kf_X9_must_31_b (N : Nat) (k31 : Int32 → Int32 → Int32 → Int32 → xHp → Option (Int32 × xHp)) (x1 : Int32) (x2 : Int32) (x3 : Int32) (x4 : Int32) (h : xHp) (h_k31 : ∀ y0 y1 y2 y3 hh, K77 hh (k31 y0 y1 y2 y3 hh)) : K77 h (F_X9_must_31_b N k31 x1 x2 x3 x4 h) := by
  unfold F_X9_must_31_b
  repeat' (first | with_reducible exact K77_some | with_reducible exact K77_none | with_reducible exact h_k31 _ _ _ _ _  | with_reducible refine kf_X9_rows _ _  | with_reducible refine kf_X9_must_62 _ _ _ _ _ _ _ _ ?_ | with_reducible refine K77_ite ?_ ?_ | with_reducible refine K77_grd ?_ | with_reducible refine K77_bnd2 ?_ (fun _ _ => ?_) | with_reducible refine K77_bndI (fun _ => ?_) | with_reducible refine K77_bndJ (by decide) (fun _ => ?_) | with_reducible refine K77_bnd (fun _ => ?_) | with_reducible intro _)
theorem kf_X9_must_31 (N : Nat) (x1 : Int32) (x2 : Int32) (x3 : Int32) (x4 : Int32) (h : xHp) : K77 h (F_X9_must_31 N x1 x2 x3 x4 h) := by
  have key : ∀ n z0 z1 z2 z3 z4, K77 z4 (xit (F_X9_must_31_b N) (fun _ _ _ _ _ => none) n z0 z1 z2 z3 z4) := by
    intro n
    induction n with
    | zero => intros; exact K77_none
    | succ n ih => intros; exact kf_X9_must_31_b N _ _ _ _ _ _ ih
  exact key N _ _ _ _ _
theorem kf_X9_must (N : Nat) (p1 : Int32) (h : xHp) : K77 h (F_X9_must N p1 h) := by
  unfold F_X9_must
  repeat' (first | with_reducible exact K77_some | with_reducible exact K77_none | with_reducible refine kf_X9_isIn _ _ _ _ _  | with_reducible refine kf_X9_may _ _ _ _ _  | with_reducible refine kf_X9_must_31 _ _ _ _ _ _  | with_reducible refine K77_ite ?_ ?_ | with_reducible refine K77_grd ?_ | with_reducible refine K77_bnd2 ?_ (fun _ _ => ?_) | with_reducible refine K77_bndI (fun _ => ?_) | with_reducible refine K77_bndJ (by decide) (fun _ => ?_) | with_reducible refine K77_bnd (fun _ => ?_) | with_reducible intro _)
theorem kf_X9_write (N : Nat) (p1 : Int32) (h : xHp) : K77 h (F_X9_write N p1 h) := by
  unfold F_X9_write
  repeat' (first | with_reducible exact K77_some | with_reducible exact K77_none | with_reducible refine K77_ite ?_ ?_ | with_reducible refine K77_grd ?_ | with_reducible refine K77_bnd2 ?_ (fun _ _ => ?_) | with_reducible refine K77_bndI (fun _ => ?_) | with_reducible refine K77_bndJ (by decide) (fun _ => ?_) | with_reducible refine K77_bnd (fun _ => ?_) | with_reducible intro _)
theorem kf_X9_writeItem_41 (N : Nat) (x1 : Int32) (h : xHp) : K77 h (F_X9_writeItem_41 N x1 h) := by
  unfold F_X9_writeItem_41
  repeat' (first | with_reducible exact K77_some | with_reducible exact K77_none | with_reducible refine kf_X9_write _ _ _  | with_reducible refine K77_ite ?_ ?_ | with_reducible refine K77_grd ?_ | with_reducible refine K77_bnd2 ?_ (fun _ _ => ?_) | with_reducible refine K77_bndI (fun _ => ?_) | with_reducible refine K77_bndJ (by decide) (fun _ => ?_) | with_reducible refine K77_bnd (fun _ => ?_) | with_reducible intro _)
theorem kf_X9_writeItem (N : Nat) (p1 : Int32) (h : xHp) : K77 h (F_X9_writeItem N p1 h) := by
  unfold F_X9_writeItem
  repeat' (first | with_reducible exact K77_some | with_reducible exact K77_none | with_reducible refine kf_X9_write _ _ _  | with_reducible refine kf_X9_writeItem_41 _ _ _  | with_reducible refine K77_ite ?_ ?_ | with_reducible refine K77_grd ?_ | with_reducible refine K77_bnd2 ?_ (fun _ _ => ?_) | with_reducible refine K77_bndI (fun _ => ?_) | with_reducible refine K77_bndJ (by decide) (fun _ => ?_) | with_reducible refine K77_bnd (fun _ => ?_) | with_reducible intro _)
theorem kf_X9_isRefused_12_b (N : Nat) (k12 : Int32 → Int32 → xHp → Option (Int32 × xHp)) (x1 : Int32) (x2 : Int32) (h : xHp) (h_k12 : ∀ y0 y1 hh, K77 hh (k12 y0 y1 hh)) : K77 h (F_X9_isRefused_12_b N k12 x1 x2 h) := by
  unfold F_X9_isRefused_12_b
  repeat' (first | with_reducible exact K77_some | with_reducible exact K77_none | with_reducible exact h_k12 _ _ _  | with_reducible refine kf_X9_findRow _ _ _ _ _  | with_reducible refine kf_X9_putDifference _ _ _  | with_reducible refine K77_ite ?_ ?_ | with_reducible refine K77_grd ?_ | with_reducible refine K77_bnd2 ?_ (fun _ _ => ?_) | with_reducible refine K77_bndI (fun _ => ?_) | with_reducible refine K77_bndJ (by decide) (fun _ => ?_) | with_reducible refine K77_bnd (fun _ => ?_) | with_reducible intro _)
theorem kf_X9_isRefused_12 (N : Nat) (x1 : Int32) (x2 : Int32) (h : xHp) : K77 h (F_X9_isRefused_12 N x1 x2 h) := by
  have key : ∀ n z0 z1 z2, K77 z2 (xit (F_X9_isRefused_12_b N) (fun _ _ _ => none) n z0 z1 z2) := by
    intro n
    induction n with
    | zero => intros; exact K77_none
    | succ n ih => intros; exact kf_X9_isRefused_12_b N _ _ _ _ ih
  exact key N _ _ _
theorem kf_X9_isRefused (N : Nat) (p1 : Int32) (h : xHp) : K77 h (F_X9_isRefused N p1 h) := by
  unfold F_X9_isRefused
  repeat' (first | with_reducible exact K77_some | with_reducible exact K77_none | with_reducible refine kf_X9_constraintsAlone _ _  | with_reducible refine kf_X9_isRefused_12 _ _ _ _  | with_reducible refine K77_ite ?_ ?_ | with_reducible refine K77_grd ?_ | with_reducible refine K77_bnd2 ?_ (fun _ _ => ?_) | with_reducible refine K77_bndI (fun _ => ?_) | with_reducible refine K77_bndJ (by decide) (fun _ => ?_) | with_reducible refine K77_bnd (fun _ => ?_) | with_reducible intro _)
theorem kf_X9_writeLeaf_43_b (N : Nat) (k43 : Int32 → xHp → Option (Int32 × xHp)) (x2 : Int32) (h : xHp) (h_k43 : ∀ y0 hh, K77 hh (k43 y0 hh)) : K77 h (F_X9_writeLeaf_43_b N k43 x2 h) := by
  unfold F_X9_writeLeaf_43_b
  repeat' (first | with_reducible exact K77_some | with_reducible exact K77_none | with_reducible exact h_k43 _ _  | with_reducible refine kf_X9_write _ _ _  | with_reducible refine kf_X9_writeItem _ _ _  | with_reducible refine K77_ite ?_ ?_ | with_reducible refine K77_grd ?_ | with_reducible refine K77_bnd2 ?_ (fun _ _ => ?_) | with_reducible refine K77_bndI (fun _ => ?_) | with_reducible refine K77_bndJ (by decide) (fun _ => ?_) | with_reducible refine K77_bnd (fun _ => ?_) | with_reducible intro _)
theorem kf_X9_writeLeaf_43 (N : Nat) (x2 : Int32) (h : xHp) : K77 h (F_X9_writeLeaf_43 N x2 h) := by
  have key : ∀ n z0 z1, K77 z1 (xit (F_X9_writeLeaf_43_b N) (fun _ _ => none) n z0 z1) := by
    intro n
    induction n with
    | zero => intros; exact K77_none
    | succ n ih => intros; exact kf_X9_writeLeaf_43_b N _ _ _ ih
  exact key N _ _
theorem kf_X9_writeLeaf (N : Nat) (p1 : Int32) (h : xHp) : K77 h (F_X9_writeLeaf N p1 h) := by
  unfold F_X9_writeLeaf
  repeat' (first | with_reducible exact K77_some | with_reducible exact K77_none | with_reducible refine kf_X9_judged _ _  | with_reducible refine kf_X9_write _ _ _  | with_reducible refine kf_X9_isRefused _ _ _  | with_reducible refine kf_X9_writeItem _ _ _  | with_reducible refine kf_X9_writeLeaf_43 _ _ _  | with_reducible refine K77_ite ?_ ?_ | with_reducible refine K77_grd ?_ | with_reducible refine K77_bnd2 ?_ (fun _ _ => ?_) | with_reducible refine K77_bndI (fun _ => ?_) | with_reducible refine K77_bndJ (by decide) (fun _ => ?_) | with_reducible refine K77_bnd (fun _ => ?_) | with_reducible intro _)
theorem kf_X9_writeProof_109 (N : Nat) (k25 : Int32 → Int32 → xHp → Option (Unit × xHp)) (x1 : Int32) (x2 : Int32) (h : xHp) (h_k25 : ∀ y0 y1 hh, K77 hh (k25 y0 y1 hh)) : K77 h (F_X9_writeProof_109 N k25 x1 x2 h) := by
  unfold F_X9_writeProof_109
  repeat' (first | with_reducible exact K77_some | with_reducible exact K77_none | with_reducible exact h_k25 _ _ _  | with_reducible refine kf_X9_write _ _ _  | with_reducible refine K77_ite ?_ ?_ | with_reducible refine K77_grd ?_ | with_reducible refine K77_bnd2 ?_ (fun _ _ => ?_) | with_reducible refine K77_bndI (fun _ => ?_) | with_reducible refine K77_bndJ (by decide) (fun _ => ?_) | with_reducible refine K77_bnd (fun _ => ?_) | with_reducible intro _)
theorem kf_X9_writeProof_74_b (N : Nat) (k25 : Int32 → Int32 → xHp → Option (Unit × xHp)) (k74 : Int32 → Int32 → xHp → Option (Unit × xHp)) (x1 : Int32) (x2 : Int32) (h : xHp) (h_k25 : ∀ y0 y1 hh, K77 hh (k25 y0 y1 hh)) (h_k74 : ∀ y0 y1 hh, K77 hh (k74 y0 y1 hh)) : K77 h (F_X9_writeProof_74_b N k25 k74 x1 x2 h) := by
  unfold F_X9_writeProof_74_b
  repeat' (first | with_reducible exact K77_some | with_reducible exact K77_none | with_reducible exact h_k25 _ _ _  | with_reducible exact h_k74 _ _ _  | with_reducible refine kf_X9_writeProof_109 _ _ _ _ _ ?_ | with_reducible refine kf_X9_write _ _ _  | with_reducible refine K77_ite ?_ ?_ | with_reducible refine K77_grd ?_ | with_reducible refine K77_bnd2 ?_ (fun _ _ => ?_) | with_reducible refine K77_bndI (fun _ => ?_) | with_reducible refine K77_bndJ (by decide) (fun _ => ?_) | with_reducible refine K77_bnd (fun _ => ?_) | with_reducible intro _)
theorem kf_X9_writeProof_74 (N : Nat) (k25 : Int32 → Int32 → xHp → Option (Unit × xHp)) (x1 : Int32) (x2 : Int32) (h : xHp) (h_k25 : ∀ y0 y1 hh, K77 hh (k25 y0 y1 hh)) : K77 h (F_X9_writeProof_74 N k25 x1 x2 h) := by
  have key : ∀ n z0 z1 z2, K77 z2 (xit (F_X9_writeProof_74_b N k25) (fun _ _ _ => none) n z0 z1 z2) := by
    intro n
    induction n with
    | zero => intros; exact K77_none
    | succ n ih => intros; exact kf_X9_writeProof_74_b N k25 _ _ _ _ h_k25 ih
  exact key N _ _ _
theorem kf_X9_writeProof_25_b (N : Nat) (k25 : Int32 → Int32 → xHp → Option (Unit × xHp)) (x1 : Int32) (x2 : Int32) (h : xHp) (h_k25 : ∀ y0 y1 hh, K77 hh (k25 y0 y1 hh)) : K77 h (F_X9_writeProof_25_b N k25 x1 x2 h) := by
  unfold F_X9_writeProof_25_b
  repeat' (first | with_reducible exact K77_some | with_reducible exact K77_none | with_reducible exact h_k25 _ _ _  | with_reducible refine kf_X9_writeLeaf _ _ _  | with_reducible refine kf_X9_write _ _ _  | with_reducible refine kf_X9_writeProof_74 _ _ _ _ _ ?_ | with_reducible refine K77_ite ?_ ?_ | with_reducible refine K77_grd ?_ | with_reducible refine K77_bnd2 ?_ (fun _ _ => ?_) | with_reducible refine K77_bndI (fun _ => ?_) | with_reducible refine K77_bndJ (by decide) (fun _ => ?_) | with_reducible refine K77_bnd (fun _ => ?_) | with_reducible intro _)
theorem kf_X9_writeProof_25 (N : Nat) (x1 : Int32) (x2 : Int32) (h : xHp) : K77 h (F_X9_writeProof_25 N x1 x2 h) := by
  have key : ∀ n z0 z1 z2, K77 z2 (xit (F_X9_writeProof_25_b N) (fun _ _ _ => none) n z0 z1 z2) := by
    intro n
    induction n with
    | zero => intros; exact K77_none
    | succ n ih => intros; exact kf_X9_writeProof_25_b N _ _ _ _ ih
  exact key N _ _ _
theorem kf_X9_writeProof_2_b (N : Nat) (k2 : Int32 → xHp → Option (Unit × xHp)) (x1 : Int32) (h : xHp) (h_k2 : ∀ y0 hh, K77 hh (k2 y0 hh)) : K77 h (F_X9_writeProof_2_b N k2 x1 h) := by
  unfold F_X9_writeProof_2_b
  repeat' (first | with_reducible exact K77_some | with_reducible exact K77_none | with_reducible exact h_k2 _ _  | with_reducible refine kf_X9_writeProof_25 _ _ _ _  | with_reducible refine K77_ite ?_ ?_ | with_reducible refine K77_grd ?_ | with_reducible refine K77_bnd2 ?_ (fun _ _ => ?_) | with_reducible refine K77_bndI (fun _ => ?_) | with_reducible refine K77_bndJ (by decide) (fun _ => ?_) | with_reducible refine K77_bnd (fun _ => ?_) | with_reducible intro _)
theorem kf_X9_writeProof_2 (N : Nat) (x1 : Int32) (h : xHp) : K77 h (F_X9_writeProof_2 N x1 h) := by
  have key : ∀ n z0 z1, K77 z1 (xit (F_X9_writeProof_2_b N) (fun _ _ => none) n z0 z1) := by
    intro n
    induction n with
    | zero => intros; exact K77_none
    | succ n ih => intros; exact kf_X9_writeProof_2_b N _ _ _ ih
  exact key N _ _
theorem kf_X9_writeProof (N : Nat) (h : xHp) : K77 h (F_X9_writeProof N h) := by
  unfold F_X9_writeProof
  repeat' (first | with_reducible exact K77_some | with_reducible exact K77_none | with_reducible refine kf_X9_writeProof_2 _ _ _  | with_reducible refine K77_ite ?_ ?_ | with_reducible refine K77_grd ?_ | with_reducible refine K77_bnd2 ?_ (fun _ _ => ?_) | with_reducible refine K77_bndI (fun _ => ?_) | with_reducible refine K77_bndJ (by decide) (fun _ => ?_) | with_reducible refine K77_bnd (fun _ => ?_) | with_reducible intro _)
theorem kf_X9_prove_24 (N : Nat) (h : xHp) : K77 h (F_X9_prove_24 N h) := by
  unfold F_X9_prove_24
  repeat' (first | with_reducible exact K77_some | with_reducible exact K77_none | with_reducible refine K77_ite ?_ ?_ | with_reducible refine K77_grd ?_ | with_reducible refine K77_bnd2 ?_ (fun _ _ => ?_) | with_reducible refine K77_bndI (fun _ => ?_) | with_reducible refine K77_bndJ (by decide) (fun _ => ?_) | with_reducible refine K77_bnd (fun _ => ?_) | with_reducible intro _)
theorem kf_X9_prove (N : Nat) (h : xHp) : K77 h (F_X9_prove N h) := by
  unfold F_X9_prove
  repeat' (first | with_reducible exact K77_some | with_reducible exact K77_none | with_reducible refine kf_X9_prove_24 _ _  | with_reducible refine kf_X9_ways _ _  | with_reducible refine kf_X9_writeProof _ _  | with_reducible refine K77_ite ?_ ?_ | with_reducible refine K77_grd ?_ | with_reducible refine K77_bnd2 ?_ (fun _ _ => ?_) | with_reducible refine K77_bndI (fun _ => ?_) | with_reducible refine K77_bndJ (by decide) (fun _ => ?_) | with_reducible refine K77_bnd (fun _ => ?_) | with_reducible intro _)
theorem kf_X9_written (N : Nat) (p1 : Int32) (h : xHp) : K77 h (F_X9_written N p1 h) := by
  unfold F_X9_written
  repeat' (first | with_reducible exact K77_some | with_reducible exact K77_none | with_reducible refine kf_X9_isIn _ _ _ _ _  | with_reducible refine kf_X9_may _ _ _ _ _  | with_reducible refine K77_ite ?_ ?_ | with_reducible refine K77_grd ?_ | with_reducible refine K77_bnd2 ?_ (fun _ _ => ?_) | with_reducible refine K77_bndI (fun _ => ?_) | with_reducible refine K77_bndJ (by decide) (fun _ => ?_) | with_reducible refine K77_bnd (fun _ => ?_) | with_reducible intro _)
theorem kf_X9_here (N : Nat) (h : xHp) : K77 h (F_X9_here N h) := by
  unfold F_X9_here
  repeat' (first | with_reducible exact K77_some | with_reducible exact K77_none | with_reducible refine K77_ite ?_ ?_ | with_reducible refine K77_grd ?_ | with_reducible refine K77_bnd2 ?_ (fun _ _ => ?_) | with_reducible refine K77_bndI (fun _ => ?_) | with_reducible refine K77_bndJ (by decide) (fun _ => ?_) | with_reducible refine K77_bnd (fun _ => ?_) | with_reducible intro _)
theorem kf_X9_wrong_17 (N : Nat) (s1 : Int32) (h : xHp) : K77 h (F_X9_wrong_17 N s1 h) := by
  unfold F_X9_wrong_17
  repeat' (first | with_reducible exact K77_some | with_reducible exact K77_none | with_reducible refine K77_ite ?_ ?_ | with_reducible refine K77_grd ?_ | with_reducible refine K77_bnd2 ?_ (fun _ _ => ?_) | with_reducible refine K77_bndI (fun _ => ?_) | with_reducible refine K77_bndJ (by decide) (fun _ => ?_) | with_reducible refine K77_bnd (fun _ => ?_) | with_reducible intro _)
theorem kf_X9_wrong (N : Nat) (p1 : Int32) (h : xHp) : K77 h (F_X9_wrong N p1 h) := by
  unfold F_X9_wrong
  repeat' (first | with_reducible exact K77_some | with_reducible exact K77_none | with_reducible refine kf_X9_wrong_17 _ _ _  | with_reducible refine K77_ite ?_ ?_ | with_reducible refine K77_grd ?_ | with_reducible refine K77_bnd2 ?_ (fun _ _ => ?_) | with_reducible refine K77_bndI (fun _ => ?_) | with_reducible refine K77_bndJ (by decide) (fun _ => ?_) | with_reducible refine K77_bnd (fun _ => ?_) | with_reducible intro _)
theorem kf_X9_takeItem (N : Nat) (p1 : Int32) (h : xHp) : K77 h (F_X9_takeItem N p1 h) := by
  unfold F_X9_takeItem
  repeat' (first | with_reducible exact K77_some | with_reducible exact K77_none | with_reducible refine K77_ite ?_ ?_ | with_reducible refine K77_grd ?_ | with_reducible refine K77_bnd2 ?_ (fun _ _ => ?_) | with_reducible refine K77_bndI (fun _ => ?_) | with_reducible refine K77_bndJ (by decide) (fun _ => ?_) | with_reducible refine K77_bnd (fun _ => ?_) | with_reducible intro _)
theorem kf_X9_item_40 (N : Nat) (x1 : Int32) (h : xHp) : K77 h (F_X9_item_40 N x1 h) := by
  unfold F_X9_item_40
  repeat' (first | with_reducible exact K77_some | with_reducible exact K77_none | with_reducible refine kf_X9_wrong _ _ _  | with_reducible refine K77_ite ?_ ?_ | with_reducible refine K77_grd ?_ | with_reducible refine K77_bnd2 ?_ (fun _ _ => ?_) | with_reducible refine K77_bndI (fun _ => ?_) | with_reducible refine K77_bndJ (by decide) (fun _ => ?_) | with_reducible refine K77_bnd (fun _ => ?_) | with_reducible intro _)
theorem kf_X9_item_163 (N : Nat) (h : xHp) : K77 h (F_X9_item_163 N h) := by
  unfold F_X9_item_163
  repeat' (first | with_reducible exact K77_some | with_reducible exact K77_none | with_reducible refine kf_X9_wrong _ _ _  | with_reducible refine K77_ite ?_ ?_ | with_reducible refine K77_grd ?_ | with_reducible refine K77_bnd2 ?_ (fun _ _ => ?_) | with_reducible refine K77_bndI (fun _ => ?_) | with_reducible refine K77_bndJ (by decide) (fun _ => ?_) | with_reducible refine K77_bnd (fun _ => ?_) | with_reducible intro _)
theorem kf_X9_item_149 (N : Nat) (x1 : Int32) (x3 : Int32) (x4 : Int32) (h : xHp) : K77 h (F_X9_item_149 N x1 x3 x4 h) := by
  unfold F_X9_item_149
  repeat' (first | with_reducible exact K77_some | with_reducible exact K77_none | with_reducible refine kf_X9_item_163 _ _  | with_reducible refine kf_X9_here _ _  | with_reducible refine kf_X9_takeItem _ _ _  | with_reducible refine kf_X9_wrong _ _ _  | with_reducible refine K77_ite ?_ ?_ | with_reducible refine K77_grd ?_ | with_reducible refine K77_bnd2 ?_ (fun _ _ => ?_) | with_reducible refine K77_bndI (fun _ => ?_) | with_reducible refine K77_bndJ (by decide) (fun _ => ?_) | with_reducible refine K77_bnd (fun _ => ?_) | with_reducible intro _)
theorem kf_X9_item_104_b (N : Nat) (k104 : Int32 → Int32 → Int32 → xHp → Option (Unit × xHp)) (x1 : Int32) (x3 : Int32) (x4 : Int32) (h : xHp) (h_k104 : ∀ y0 y1 y2 hh, K77 hh (k104 y0 y1 y2 hh)) : K77 h (F_X9_item_104_b N k104 x1 x3 x4 h) := by
  unfold F_X9_item_104_b
  repeat' (first | with_reducible exact K77_some | with_reducible exact K77_none | with_reducible exact h_k104 _ _ _ _  | with_reducible refine kf_X9_here _ _  | with_reducible refine kf_X9_isFigure _ _ _  | with_reducible refine kf_X9_item_149 _ _ _ _ _  | with_reducible refine K77_ite ?_ ?_ | with_reducible refine K77_grd ?_ | with_reducible refine K77_bnd2 ?_ (fun _ _ => ?_) | with_reducible refine K77_bndI (fun _ => ?_) | with_reducible refine K77_bndJ (by decide) (fun _ => ?_) | with_reducible refine K77_bnd (fun _ => ?_) | with_reducible intro _)
theorem kf_X9_item_104 (N : Nat) (x1 : Int32) (x3 : Int32) (x4 : Int32) (h : xHp) : K77 h (F_X9_item_104 N x1 x3 x4 h) := by
  have key : ∀ n z0 z1 z2 z3, K77 z3 (xit (F_X9_item_104_b N) (fun _ _ _ _ => none) n z0 z1 z2 z3) := by
    intro n
    induction n with
    | zero => intros; exact K77_none
    | succ n ih => intros; exact kf_X9_item_104_b N _ _ _ _ _ ih
  exact key N _ _ _ _
theorem kf_X9_item (N : Nat) (h : xHp) : K77 h (F_X9_item N h) := by
  unfold F_X9_item
  repeat' (first | with_reducible exact K77_some | with_reducible exact K77_none | with_reducible refine kf_X9_here _ _  | with_reducible refine kf_X9_isFigure _ _ _  | with_reducible refine kf_X9_item_104 _ _ _ _ _  | with_reducible refine kf_X9_wrong _ _ _  | with_reducible refine kf_X9_item_40 _ _ _  | with_reducible refine kf_X9_constraintsAlone _ _  | with_reducible refine kf_X9_putDifference _ _ _  | with_reducible refine kf_X9_takeItem _ _ _  | with_reducible refine K77_ite ?_ ?_ | with_reducible refine K77_grd ?_ | with_reducible refine K77_bnd2 ?_ (fun _ _ => ?_) | with_reducible refine K77_bndI (fun _ => ?_) | with_reducible refine K77_bndJ (by decide) (fun _ => ?_) | with_reducible refine K77_bnd (fun _ => ?_) | with_reducible intro _)
theorem kf_X9_round_84 (N : Nat) (k19 : Int32 → Int32 → Int32 → Int64 → xHp → Option (Unit × xHp)) (x1 : Int32) (x4 : Int64) (s0 : Int32) (h : xHp) (h_k19 : ∀ y0 y1 y2 y3 hh, K77 hh (k19 y0 y1 y2 y3 hh)) : K77 h (F_X9_round_84 N k19 x1 x4 s0 h) := by
  unfold F_X9_round_84
  repeat' (first | with_reducible exact K77_some | with_reducible exact K77_none | with_reducible exact h_k19 _ _ _ _ _  | with_reducible refine K77_ite ?_ ?_ | with_reducible refine K77_grd ?_ | with_reducible refine K77_bnd2 ?_ (fun _ _ => ?_) | with_reducible refine K77_bndI (fun _ => ?_) | with_reducible refine K77_bndJ (by decide) (fun _ => ?_) | with_reducible refine K77_bnd (fun _ => ?_) | with_reducible intro _)
theorem kf_X9_round_72 (N : Nat) (k19 : Int32 → Int32 → Int32 → Int64 → xHp → Option (Unit × xHp)) (x1 : Int32) (x2 : Int32) (x4 : Int64) (h : xHp) (h_k19 : ∀ y0 y1 y2 y3 hh, K77 hh (k19 y0 y1 y2 y3 hh)) : K77 h (F_X9_round_72 N k19 x1 x2 x4 h) := by
  unfold F_X9_round_72
  repeat' (first | with_reducible exact K77_some | with_reducible exact K77_none | with_reducible exact h_k19 _ _ _ _ _  | with_reducible refine kf_X9_round_84 _ _ _ _ _ _ ?_ | with_reducible refine K77_ite ?_ ?_ | with_reducible refine K77_grd ?_ | with_reducible refine K77_bnd2 ?_ (fun _ _ => ?_) | with_reducible refine K77_bndI (fun _ => ?_) | with_reducible refine K77_bndJ (by decide) (fun _ => ?_) | with_reducible refine K77_bnd (fun _ => ?_) | with_reducible intro _)
theorem kf_X9_round_130 (N : Nat) (h : xHp) : K77 h (F_X9_round_130 N h) := by
  unfold F_X9_round_130
  repeat' (first | with_reducible exact K77_some | with_reducible exact K77_none | with_reducible refine K77_ite ?_ ?_ | with_reducible refine K77_grd ?_ | with_reducible refine K77_bnd2 ?_ (fun _ _ => ?_) | with_reducible refine K77_bndI (fun _ => ?_) | with_reducible refine K77_bndJ (by decide) (fun _ => ?_) | with_reducible refine K77_bnd (fun _ => ?_) | with_reducible intro _)
theorem kf_X9_round_122 (N : Nat) (h : xHp) : K77 h (F_X9_round_122 N h) := by
  unfold F_X9_round_122
  repeat' (first | with_reducible exact K77_some | with_reducible exact K77_none | with_reducible refine kf_X9_wrong _ _ _  | with_reducible refine kf_X9_round_130 _ _  | with_reducible refine K77_ite ?_ ?_ | with_reducible refine K77_grd ?_ | with_reducible refine K77_bnd2 ?_ (fun _ _ => ?_) | with_reducible refine K77_bndI (fun _ => ?_) | with_reducible refine K77_bndJ (by decide) (fun _ => ?_) | with_reducible refine K77_bnd (fun _ => ?_) | with_reducible intro _)
theorem kf_X9_round_106 (N : Nat) (x1 : Int32) (x2 : Int32) (x3 : Int32) (x4 : Int64) (h : xHp) : K77 h (F_X9_round_106 N x1 x2 x3 x4 h) := by
  unfold F_X9_round_106
  repeat' (first | with_reducible exact K77_some | with_reducible exact K77_none | with_reducible refine kf_X9_round_122 _ _  | with_reducible refine kf_X9_round_130 _ _  | with_reducible refine K77_ite ?_ ?_ | with_reducible refine K77_grd ?_ | with_reducible refine K77_bnd2 ?_ (fun _ _ => ?_) | with_reducible refine K77_bndI (fun _ => ?_) | with_reducible refine K77_bndJ (by decide) (fun _ => ?_) | with_reducible refine K77_bnd (fun _ => ?_) | with_reducible intro _)
theorem kf_X9_round_19_b (N : Nat) (k19 : Int32 → Int32 → Int32 → Int64 → xHp → Option (Unit × xHp)) (x1 : Int32) (x2 : Int32) (x3 : Int32) (x4 : Int64) (h : xHp) (h_k19 : ∀ y0 y1 y2 y3 hh, K77 hh (k19 y0 y1 y2 y3 hh)) : K77 h (F_X9_round_19_b N k19 x1 x2 x3 x4 h) := by
  unfold F_X9_round_19_b
  repeat' (first | with_reducible exact K77_some | with_reducible exact K77_none | with_reducible exact h_k19 _ _ _ _ _  | with_reducible refine kf_X9_here _ _  | with_reducible refine kf_X9_round_106 _ _ _ _ _ _  | with_reducible refine kf_X9_item _ _  | with_reducible refine kf_X9_round_72 _ _ _ _ _ _ ?_ | with_reducible refine kf_X9_wrong _ _ _  | with_reducible refine K77_ite ?_ ?_ | with_reducible refine K77_grd ?_ | with_reducible refine K77_bnd2 ?_ (fun _ _ => ?_) | with_reducible refine K77_bndI (fun _ => ?_) | with_reducible refine K77_bndJ (by decide) (fun _ => ?_) | with_reducible refine K77_bnd (fun _ => ?_) | with_reducible intro _)
theorem kf_X9_round_19 (N : Nat) (x1 : Int32) (x2 : Int32) (x3 : Int32) (x4 : Int64) (h : xHp) : K77 h (F_X9_round_19 N x1 x2 x3 x4 h) := by
  have key : ∀ n z0 z1 z2 z3 z4, K77 z4 (xit (F_X9_round_19_b N) (fun _ _ _ _ _ => none) n z0 z1 z2 z3 z4) := by
    intro n
    induction n with
    | zero => intros; exact K77_none
    | succ n ih => intros; exact kf_X9_round_19_b N _ _ _ _ _ _ ih
  exact key N _ _ _ _ _
theorem kf_X9_round (N : Nat) (h : xHp) : K77 h (F_X9_round N h) := by
  unfold F_X9_round
  repeat' (first | with_reducible exact K77_some | with_reducible exact K77_none | with_reducible refine kf_X9_round_19 _ _ _ _ _ _  | with_reducible refine K77_ite ?_ ?_ | with_reducible refine K77_grd ?_ | with_reducible refine K77_bnd2 ?_ (fun _ _ => ?_) | with_reducible refine K77_bndI (fun _ => ?_) | with_reducible refine K77_bndJ (by decide) (fun _ => ?_) | with_reducible refine K77_bnd (fun _ => ?_) | with_reducible intro _)
theorem kf_X9_leaf_26 (N : Nat) (h : xHp) : K77 h (F_X9_leaf_26 N h) := by
  unfold F_X9_leaf_26
  repeat' (first | with_reducible exact K77_some | with_reducible exact K77_none | with_reducible refine K77_ite ?_ ?_ | with_reducible refine K77_grd ?_ | with_reducible refine K77_bnd2 ?_ (fun _ _ => ?_) | with_reducible refine K77_bndI (fun _ => ?_) | with_reducible refine K77_bndJ (by decide) (fun _ => ?_) | with_reducible refine K77_bnd (fun _ => ?_) | with_reducible intro _)
theorem kf_X9_leaf_80 (N : Nat) (h : xHp) : K77 h (F_X9_leaf_80 N h) := by
  unfold F_X9_leaf_80
  repeat' (first | with_reducible exact K77_some | with_reducible exact K77_none | with_reducible refine kf_X9_wrong _ _ _  | with_reducible refine K77_ite ?_ ?_ | with_reducible refine K77_grd ?_ | with_reducible refine K77_bnd2 ?_ (fun _ _ => ?_) | with_reducible refine K77_bndI (fun _ => ?_) | with_reducible refine K77_bndJ (by decide) (fun _ => ?_) | with_reducible refine K77_bnd (fun _ => ?_) | with_reducible intro _)
theorem kf_X9_leaf (N : Nat) (p1 : Int32) (h : xHp) : K77 h (F_X9_leaf N p1 h) := by
  unfold F_X9_leaf
  repeat' (first | with_reducible exact K77_some | with_reducible exact K77_none | with_reducible refine kf_X9_here _ _  | with_reducible refine kf_X9_judged _ _  | with_reducible refine kf_X9_leaf_26 _ _  | with_reducible refine kf_X9_wrong _ _ _  | with_reducible refine kf_X9_round _ _  | with_reducible refine kf_X9_isFigure _ _ _  | with_reducible refine kf_X9_leaf_80 _ _  | with_reducible refine K77_ite ?_ ?_ | with_reducible refine K77_grd ?_ | with_reducible refine K77_bnd2 ?_ (fun _ _ => ?_) | with_reducible refine K77_bndI (fun _ => ?_) | with_reducible refine K77_bndJ (by decide) (fun _ => ?_) | with_reducible refine K77_bnd (fun _ => ?_) | with_reducible intro _)
theorem kf_X9_goThrough_114 (N : Nat) (k35 : Int32 → Int32 → xHp → Option (Unit × xHp)) (k63 : Int32 → Int32 → Int32 → xHp → Option (Unit × xHp)) (x1 : Int32) (x2 : Int32) (x3 : Int32) (h : xHp) (h_k35 : ∀ y0 y1 hh, K77 hh (k35 y0 y1 hh)) (h_k63 : ∀ y0 y1 y2 hh, K77 hh (k63 y0 y1 y2 hh)) : K77 h (F_X9_goThrough_114 N k35 k63 x1 x2 x3 h) := by
  unfold F_X9_goThrough_114
  repeat' (first | with_reducible exact K77_some | with_reducible exact K77_none | with_reducible exact h_k35 _ _ _  | with_reducible exact h_k63 _ _ _ _  | with_reducible refine K77_ite ?_ ?_ | with_reducible refine K77_grd ?_ | with_reducible refine K77_bnd2 ?_ (fun _ _ => ?_) | with_reducible refine K77_bndI (fun _ => ?_) | with_reducible refine K77_bndJ (by decide) (fun _ => ?_) | with_reducible refine K77_bnd (fun _ => ?_) | with_reducible intro _)
theorem kf_X9_goThrough_159 (N : Nat) (k35 : Int32 → Int32 → xHp → Option (Unit × xHp)) (k63 : Int32 → Int32 → Int32 → xHp → Option (Unit × xHp)) (x1 : Int32) (x2 : Int32) (h : xHp) (h_k35 : ∀ y0 y1 hh, K77 hh (k35 y0 y1 hh)) (h_k63 : ∀ y0 y1 y2 hh, K77 hh (k63 y0 y1 y2 hh)) : K77 h (F_X9_goThrough_159 N k35 k63 x1 x2 h) := by
  unfold F_X9_goThrough_159
  repeat' (first | with_reducible exact K77_some | with_reducible exact K77_none | with_reducible exact h_k35 _ _ _  | with_reducible exact h_k63 _ _ _ _  | with_reducible refine K77_ite ?_ ?_ | with_reducible refine K77_grd ?_ | with_reducible refine K77_bnd2 ?_ (fun _ _ => ?_) | with_reducible refine K77_bndI (fun _ => ?_) | with_reducible refine K77_bndJ (by decide) (fun _ => ?_) | with_reducible refine K77_bnd (fun _ => ?_) | with_reducible intro _)
theorem kf_X9_goThrough_197 (N : Nat) (k35 : Int32 → Int32 → xHp → Option (Unit × xHp)) (x1 : Int32) (x2 : Int32) (h : xHp) (h_k35 : ∀ y0 y1 hh, K77 hh (k35 y0 y1 hh)) : K77 h (F_X9_goThrough_197 N k35 x1 x2 h) := by
  unfold F_X9_goThrough_197
  repeat' (first | with_reducible exact K77_some | with_reducible exact K77_none | with_reducible exact h_k35 _ _ _  | with_reducible refine K77_ite ?_ ?_ | with_reducible refine K77_grd ?_ | with_reducible refine K77_bnd2 ?_ (fun _ _ => ?_) | with_reducible refine K77_bndI (fun _ => ?_) | with_reducible refine K77_bndJ (by decide) (fun _ => ?_) | with_reducible refine K77_bnd (fun _ => ?_) | with_reducible intro _)
theorem kf_X9_goThrough_63_b (N : Nat) (k35 : Int32 → Int32 → xHp → Option (Unit × xHp)) (k63 : Int32 → Int32 → Int32 → xHp → Option (Unit × xHp)) (x1 : Int32) (x2 : Int32) (x3 : Int32) (h : xHp) (h_k35 : ∀ y0 y1 hh, K77 hh (k35 y0 y1 hh)) (h_k63 : ∀ y0 y1 y2 hh, K77 hh (k63 y0 y1 y2 hh)) : K77 h (F_X9_goThrough_63_b N k35 k63 x1 x2 x3 h) := by
  unfold F_X9_goThrough_63_b
  repeat' (first | with_reducible exact K77_some | with_reducible exact K77_none | with_reducible exact h_k35 _ _ _  | with_reducible exact h_k63 _ _ _ _  | with_reducible refine kf_X9_goThrough_197 _ _ _ _ _ ?_ | with_reducible refine kf_X9_here _ _  | with_reducible refine kf_X9_goThrough_159 _ _ _ _ _ _ ?_ ?_ | with_reducible refine kf_X9_wrong _ _ _  | with_reducible refine kf_X9_goThrough_114 _ _ _ _ _ _ _ ?_ ?_ | with_reducible refine K77_ite ?_ ?_ | with_reducible refine K77_grd ?_ | with_reducible refine K77_bnd2 ?_ (fun _ _ => ?_) | with_reducible refine K77_bndI (fun _ => ?_) | with_reducible refine K77_bndJ (by decide) (fun _ => ?_) | with_reducible refine K77_bnd (fun _ => ?_) | with_reducible intro _)
theorem kf_X9_goThrough_63 (N : Nat) (k35 : Int32 → Int32 → xHp → Option (Unit × xHp)) (x1 : Int32) (x2 : Int32) (x3 : Int32) (h : xHp) (h_k35 : ∀ y0 y1 hh, K77 hh (k35 y0 y1 hh)) : K77 h (F_X9_goThrough_63 N k35 x1 x2 x3 h) := by
  have key : ∀ n z0 z1 z2 z3, K77 z3 (xit (F_X9_goThrough_63_b N k35) (fun _ _ _ _ => none) n z0 z1 z2 z3) := by
    intro n
    induction n with
    | zero => intros; exact K77_none
    | succ n ih => intros; exact kf_X9_goThrough_63_b N k35 _ _ _ _ _ h_k35 ih
  exact key N _ _ _ _
theorem kf_X9_goThrough_200 (N : Nat) (h : xHp) : K77 h (F_X9_goThrough_200 N h) := by
  unfold F_X9_goThrough_200
  repeat' (first | with_reducible exact K77_some | with_reducible exact K77_none | with_reducible refine kf_X9_wrong _ _ _  | with_reducible refine K77_ite ?_ ?_ | with_reducible refine K77_grd ?_ | with_reducible refine K77_bnd2 ?_ (fun _ _ => ?_) | with_reducible refine K77_bndI (fun _ => ?_) | with_reducible refine K77_bndJ (by decide) (fun _ => ?_) | with_reducible refine K77_bnd (fun _ => ?_) | with_reducible intro _)
theorem kf_X9_goThrough_35_b (N : Nat) (k35 : Int32 → Int32 → xHp → Option (Unit × xHp)) (x1 : Int32) (x2 : Int32) (h : xHp) (h_k35 : ∀ y0 y1 hh, K77 hh (k35 y0 y1 hh)) : K77 h (F_X9_goThrough_35_b N k35 x1 x2 h) := by
  unfold F_X9_goThrough_35_b
  repeat' (first | with_reducible exact K77_some | with_reducible exact K77_none | with_reducible exact h_k35 _ _ _  | with_reducible refine kf_X9_goThrough_200 _ _  | with_reducible refine kf_X9_leaf _ _ _  | with_reducible refine kf_X9_goThrough_63 _ _ _ _ _ _ ?_ | with_reducible refine K77_ite ?_ ?_ | with_reducible refine K77_grd ?_ | with_reducible refine K77_bnd2 ?_ (fun _ _ => ?_) | with_reducible refine K77_bndI (fun _ => ?_) | with_reducible refine K77_bndJ (by decide) (fun _ => ?_) | with_reducible refine K77_bnd (fun _ => ?_) | with_reducible intro _)
theorem kf_X9_goThrough_35 (N : Nat) (x1 : Int32) (x2 : Int32) (h : xHp) : K77 h (F_X9_goThrough_35 N x1 x2 h) := by
  have key : ∀ n z0 z1 z2, K77 z2 (xit (F_X9_goThrough_35_b N) (fun _ _ _ => none) n z0 z1 z2) := by
    intro n
    induction n with
    | zero => intros; exact K77_none
    | succ n ih => intros; exact kf_X9_goThrough_35_b N _ _ _ _ ih
  exact key N _ _ _
theorem kf_X9_goThrough_2_b (N : Nat) (k2 : Int32 → xHp → Option (Unit × xHp)) (x1 : Int32) (h : xHp) (h_k2 : ∀ y0 hh, K77 hh (k2 y0 hh)) : K77 h (F_X9_goThrough_2_b N k2 x1 h) := by
  unfold F_X9_goThrough_2_b
  repeat' (first | with_reducible exact K77_some | with_reducible exact K77_none | with_reducible exact h_k2 _ _  | with_reducible refine kf_X9_goThrough_35 _ _ _ _  | with_reducible refine K77_ite ?_ ?_ | with_reducible refine K77_grd ?_ | with_reducible refine K77_bnd2 ?_ (fun _ _ => ?_) | with_reducible refine K77_bndI (fun _ => ?_) | with_reducible refine K77_bndJ (by decide) (fun _ => ?_) | with_reducible refine K77_bnd (fun _ => ?_) | with_reducible intro _)
theorem kf_X9_goThrough_2 (N : Nat) (x1 : Int32) (h : xHp) : K77 h (F_X9_goThrough_2 N x1 h) := by
  have key : ∀ n z0 z1, K77 z1 (xit (F_X9_goThrough_2_b N) (fun _ _ => none) n z0 z1) := by
    intro n
    induction n with
    | zero => intros; exact K77_none
    | succ n ih => intros; exact kf_X9_goThrough_2_b N _ _ _ ih
  exact key N _ _
theorem kf_X9_goThrough (N : Nat) (h : xHp) : K77 h (F_X9_goThrough N h) := by
  unfold F_X9_goThrough
  repeat' (first | with_reducible exact K77_some | with_reducible exact K77_none | with_reducible refine kf_X9_goThrough_2 _ _ _  | with_reducible refine K77_ite ?_ ?_ | with_reducible refine K77_grd ?_ | with_reducible refine K77_bnd2 ?_ (fun _ _ => ?_) | with_reducible refine K77_bndI (fun _ => ?_) | with_reducible refine K77_bndJ (by decide) (fun _ => ?_) | with_reducible refine K77_bnd (fun _ => ?_) | with_reducible intro _)
theorem kf_X9_check_69 (N : Nat) (k37 : Int32 → Int32 → xHp → Option (Int32 × xHp)) (x1 : Int32) (x2 : Int32) (s2 : Int32) (s1 : Int32) (h : xHp) (h_k37 : ∀ y0 y1 hh, K77 hh (k37 y0 y1 hh)) : K77 h (F_X9_check_69 N k37 x1 x2 s2 s1 h) := by
  unfold F_X9_check_69
  repeat' (first | with_reducible exact K77_some | with_reducible exact K77_none | with_reducible exact h_k37 _ _ _  | with_reducible refine K77_ite ?_ ?_ | with_reducible refine K77_grd ?_ | with_reducible refine K77_bnd2 ?_ (fun _ _ => ?_) | with_reducible refine K77_bndI (fun _ => ?_) | with_reducible refine K77_bndJ (by decide) (fun _ => ?_) | with_reducible refine K77_bnd (fun _ => ?_) | with_reducible intro _)
theorem kf_X9_check_110 (N : Nat) (s1 : Int32) (h : xHp) : K77 h (F_X9_check_110 N s1 h) := by
  unfold F_X9_check_110
  repeat' (first | with_reducible exact K77_some | with_reducible exact K77_none | with_reducible refine K77_ite ?_ ?_ | with_reducible refine K77_grd ?_ | with_reducible refine K77_bnd2 ?_ (fun _ _ => ?_) | with_reducible refine K77_bndI (fun _ => ?_) | with_reducible refine K77_bndJ (by decide) (fun _ => ?_) | with_reducible refine K77_bnd (fun _ => ?_) | with_reducible intro _)
theorem kf_X9_check_89 (N : Nat) (s1 : Int32) (h : xHp) : K77 h (F_X9_check_89 N s1 h) := by
  unfold F_X9_check_89
  repeat' (first | with_reducible exact K77_some | with_reducible exact K77_none | with_reducible refine kf_X9_goThrough _ _  | with_reducible refine kf_X9_check_110 _ _ _  | with_reducible refine K77_ite ?_ ?_ | with_reducible refine K77_grd ?_ | with_reducible refine K77_bnd2 ?_ (fun _ _ => ?_) | with_reducible refine K77_bndI (fun _ => ?_) | with_reducible refine K77_bndJ (by decide) (fun _ => ?_) | with_reducible refine K77_bnd (fun _ => ?_) | with_reducible intro _)
theorem kf_X9_check_37_b (N : Nat) (k37 : Int32 → Int32 → xHp → Option (Int32 × xHp)) (x1 : Int32) (x2 : Int32) (h : xHp) (h_k37 : ∀ y0 y1 hh, K77 hh (k37 y0 y1 hh)) : K77 h (F_X9_check_37_b N k37 x1 x2 h) := by
  unfold F_X9_check_37_b
  repeat' (first | with_reducible exact K77_some | with_reducible exact K77_none | with_reducible exact h_k37 _ _ _  | with_reducible refine kf_X9_check_89 _ _ _  | with_reducible refine kf_X9_check_69 _ _ _ _ _ _ _ ?_ | with_reducible refine K77_ite ?_ ?_ | with_reducible refine K77_grd ?_ | with_reducible refine K77_bnd2 ?_ (fun _ _ => ?_) | with_reducible refine K77_bndI (fun _ => ?_) | with_reducible refine K77_bndJ (by decide) (fun _ => ?_) | with_reducible refine K77_bnd (fun _ => ?_) | with_reducible intro _)
theorem kf_X9_check_37 (N : Nat) (x1 : Int32) (x2 : Int32) (h : xHp) : K77 h (F_X9_check_37 N x1 x2 h) := by
  have key : ∀ n z0 z1 z2, K77 z2 (xit (F_X9_check_37_b N) (fun _ _ _ => none) n z0 z1 z2) := by
    intro n
    induction n with
    | zero => intros; exact K77_none
    | succ n ih => intros; exact kf_X9_check_37_b N _ _ _ _ ih
  exact key N _ _ _
theorem kf_X9_check_32 (N : Nat) (x1 : Int32) (s1 : Int32) (h : xHp) : K77 h (F_X9_check_32 N x1 s1 h) := by
  unfold F_X9_check_32
  repeat' (first | with_reducible exact K77_some | with_reducible exact K77_none | with_reducible refine kf_X9_check_37 _ _ _ _  | with_reducible refine K77_ite ?_ ?_ | with_reducible refine K77_grd ?_ | with_reducible refine K77_bnd2 ?_ (fun _ _ => ?_) | with_reducible refine K77_bndI (fun _ => ?_) | with_reducible refine K77_bndJ (by decide) (fun _ => ?_) | with_reducible refine K77_bnd (fun _ => ?_) | with_reducible intro _)
theorem kf_X9_check (N : Nat) (p1 : Int32) (h : xHp) : K77 h (F_X9_check N p1 h) := by
  unfold F_X9_check
  repeat' (first | with_reducible exact K77_some | with_reducible exact K77_none | with_reducible refine kf_X9_check_32 _ _ _ _  | with_reducible refine K77_ite ?_ ?_ | with_reducible refine K77_grd ?_ | with_reducible refine K77_bnd2 ?_ (fun _ _ => ?_) | with_reducible refine K77_bndI (fun _ => ?_) | with_reducible refine K77_bndJ (by decide) (fun _ => ?_) | with_reducible refine K77_bnd (fun _ => ?_) | with_reducible intro _)
theorem kf_X9_told (N : Nat) (p1 : Int32) (h : xHp) : K77 h (F_X9_told N p1 h) := by
  unfold F_X9_told
  repeat' (first | with_reducible exact K77_some | with_reducible exact K77_none | with_reducible refine kf_X9_isIn _ _ _ _ _  | with_reducible refine kf_X9_may _ _ _ _ _  | with_reducible refine K77_ite ?_ ?_ | with_reducible refine K77_grd ?_ | with_reducible refine K77_bnd2 ?_ (fun _ _ => ?_) | with_reducible refine K77_bndI (fun _ => ?_) | with_reducible refine K77_bndJ (by decide) (fun _ => ?_) | with_reducible refine K77_bnd (fun _ => ?_) | with_reducible intro _)
theorem kf_X9_clear (N : Nat) (h : xHp) : K77 h (F_X9_clear N h) := by
  unfold F_X9_clear
  repeat' (first | with_reducible exact K77_some | with_reducible exact K77_none | with_reducible refine K77_ite ?_ ?_ | with_reducible refine K77_grd ?_ | with_reducible refine K77_bnd2 ?_ (fun _ _ => ?_) | with_reducible refine K77_bndI (fun _ => ?_) | with_reducible refine K77_bndJ (by decide) (fun _ => ?_) | with_reducible refine K77_bnd (fun _ => ?_) | with_reducible intro _)
