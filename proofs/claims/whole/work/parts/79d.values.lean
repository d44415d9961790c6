/-! VALUES: the greatest solution with none above 0 -/
def IsG (E : Ed) (ok : Nat → Prop) (u : Nat) (g : Int) : Prop := (∃ t j, Wk E ok t j u g) ∧ ∀ t j s, Wk E ok t j u s → g ≤ s
theorem IsG.uni {E : Ed} {ok : Nat → Prop} {u : Nat} {g g' : Int} (h : IsG E ok u g) (h' : IsG E ok u g') : g = g' := by
  obtain ⟨⟨t, j, a⟩, b⟩ := h
  obtain ⟨⟨t', j', a'⟩, b'⟩ := h'
  have := b t' j' g' a'
  have := b' t j g a
  omega
def E16 (E : Ed) (ok : Nat → Prop) : Prop := ∀ e, ok e → (E e).1 < 16 ∧ (E e).2.1 < 16 ∧ -1000001 ≤ (E e).2.2 ∧ (E e).2.2 ≤ 1000001
theorem Wk.end16 {E : Ed} {ok : Nat → Prop} (hE : E16 E ok) : ∀ {j u t : Nat} {s : Int}, u < 16 → Wk E ok t j u s → t < 16 := by
  intro j
  induction j with
  | zero => rintro u t s hu ⟨rfl, _⟩; exact hu
  | succ j ih =>
    rintro u t s hu ⟨e, a, rfl, s', b, c⟩
    exact ih (hE e a).2.1 b
def BV (r i : Nat) : Int := ((70 * r + i : Nat) : Int) * 1000001
/-- r rounds are done, and of the next one the edges below i; b: one has come down in it -/
def Vi (E : Ed) (ok : Nat → Prop) (r i : Nat) (w : Nat → Int) (b : Bool) : Prop :=
  (∀ u, u < 16 → ∃ t j, Wk E ok t j u (w u)) ∧ (∀ u, u < 16 → ∀ t j s, j ≤ r → Wk E ok t j u s → w u ≤ s) ∧
  (∀ e, e < i → ok e → ∀ t j s, j ≤ r → Wk E ok t j (E e).2.1 s → w (E e).1 ≤ (E e).2.2 + s) ∧
  (b = false → ∀ e, e < i → ok e → w (E e).1 ≤ w (E e).2.1 + (E e).2.2) ∧ (∀ u, u < 16 → -BV r i ≤ w u ∧ w u ≤ 0) ∧
  (b = true → ∀ v, Pot E ok v → r < 15)
theorem BV_s (r i : Nat) : BV r (i + 1) = BV r i + 1000001 := by
  unfold BV
  rw [show 70 * r + (i + 1) = (70 * r + i) + 1 by omega, Int.natCast_add, Int.add_mul]
  omega
theorem BV_n (r i : Nat) : 0 ≤ BV r i := by unfold BV; omega
theorem Vi.skip {E : Ed} {ok : Nat → Prop} {r i : Nat} {w : Nat → Int} {b : Bool} (V : Vi E ok r i w b) (hn : ¬ ok i) : Vi E ok r (i + 1) w b := by
  obtain ⟨a1, a2, a3, a4, a5, a6⟩ := V
  have ne : ∀ e, e < i + 1 → ok e → e < i := fun e h1 h2 => by
    by_cases q : e = i
    · subst q; exact absurd h2 hn
    · omega
  refine ⟨a1, a2, fun e h1 h2 => a3 e (ne e h1 h2) h2, fun hb e h1 h2 => a4 hb e (ne e h1 h2) h2, fun u hu => ?_, a6⟩
  have := a5 u hu
  rw [BV_s]
  omega
theorem Vi.keep {E : Ed} {ok : Nat → Prop} {r i : Nat} {w : Nat → Int} {b : Bool} (V : Vi E ok r i w b) (hE : E16 E ok) (ho : ok i) (hle : w (E i).1 ≤ w (E i).2.1 + (E i).2.2) : Vi E ok r (i + 1) w b := by
  obtain ⟨a1, a2, a3, a4, a5, a6⟩ := V
  refine ⟨a1, a2, fun e h1 h2 t j s hj hw => ?_, fun hb e h1 h2 => ?_, fun u hu => ?_, a6⟩
  · by_cases q : e = i
    · subst q
      have := a2 _ (hE e ho).2.1 t j s hj hw
      omega
    · exact a3 e (by omega) h2 t j s hj hw
  · by_cases q : e = i
    · subst q
      exact hle
    · exact a4 hb e (by omega) h2
  · have := a5 u hu
    rw [BV_s]
    omega
def upW (w : Nat → Int) (x : Nat) (c : Int) : Nat → Int := fun u => if u = x then c else w u
theorem Vi.take {E : Ed} {ok : Nat → Prop} {r i : Nat} {w : Nat → Int} {b : Bool} (V : Vi E ok r i w b) (hE : E16 E ok) (ho : ok i) (hlt : w (E i).2.1 + (E i).2.2 < w (E i).1) : Vi E ok r (i + 1) (upW w (E i).1 (w (E i).2.1 + (E i).2.2)) true := by
  obtain ⟨a1, a2, a3, a4, a5, a6⟩ := V
  have le : ∀ u, upW w (E i).1 (w (E i).2.1 + (E i).2.2) u ≤ w u := fun u => by
    unfold upW
    by_cases q : u = (E i).1
    · rw [if_pos q, q]; omega
    · rw [if_neg q]; omega
  obtain ⟨e1, e2, e3, e4⟩ := hE i ho
  refine ⟨fun u hu => ?_, fun u hu t j s hj hw => ?_, fun e h1 h2 t j s hj hw => ?_, fun hb => absurd hb (by decide), fun u hu => ?_, fun _ v hv => ?_⟩
  · unfold upW
    by_cases q : u = (E i).1
    · rw [if_pos q]
      obtain ⟨t, j, hw⟩ := a1 _ e2
      exact ⟨t, j + 1, i, ho, q.symm, _, hw, by omega⟩
    · rw [if_neg q]
      exact a1 u hu
  · have := a2 u hu t j s hj hw
    have := le u
    omega
  · by_cases q : e = i
    · subst q
      have := a2 _ e2 t j s hj hw
      unfold upW
      rw [if_pos rfl]
      omega
    · have := a3 e (by omega) h2 t j s hj hw
      have := le (E e).1
      omega
  · have h1 := a5 u hu
    have h2 := a5 _ e2
    have h3 := a5 _ e1
    rw [BV_s]
    unfold upW
    by_cases q : u = (E i).1
    · rw [if_pos q]
      omega
    · rw [if_neg q]
      omega
  · by_cases hr : r < 15
    · exact hr
    · exfalso
      obtain ⟨t, j, hw⟩ := a1 _ e2
      have hw2 : Wk E ok t (j + 1) (E i).1 ((E i).2.2 + w (E i).2.1) := ⟨i, ho, rfl, _, hw, rfl⟩
      obtain ⟨j', s', b1, b2, b3⟩ := Wk.cut16 hv (fun e q => ⟨(hE e q).1, (hE e q).2.1⟩) e1 hw2
      have := a2 _ e1 t j' s' (by omega) b3
      omega
theorem Vi.round {E : Ed} {ok : Nat → Prop} {r i : Nat} {w : Nat → Int} {b : Bool} (V : Vi E ok r i w b) (hi : i ≤ 70) (ha : ∀ e, ok e → e < i) : Vi E ok (r + 1) 0 w false := by
  obtain ⟨a1, a2, a3, a4, a5, a6⟩ := V
  refine ⟨a1, fun u hu t j s hj hw => ?_, fun e h1 => by omega, fun _ e h1 => by omega, fun u hu => ?_, fun q => absurd q (by decide)⟩
  · cases j with
    | zero => exact a2 u hu t 0 s (by omega) hw
    | succ j =>
      obtain ⟨e, c1, c2, s', c3, c4⟩ := hw
      have := a3 e (ha e c1) c1 t j s' (by omega) c3
      rw [c2] at this
      omega
  · have h1 := a5 u hu
    have : BV r i ≤ BV (r + 1) 0 := by unfold BV; omega
    omega
theorem Vi.done {E : Ed} {ok : Nat → Prop} {r i : Nat} {w : Nat → Int} (V : Vi E ok r i w false) (hE : E16 E ok) (ha : ∀ e, ok e → e < i) : Pot E ok w ∧ ∀ u, u < 16 → IsG E ok u (w u) := by
  obtain ⟨a1, a2, a3, a4, a5, a6⟩ := V
  have hp : Pot E ok w := fun e he => a4 rfl e (ha e he) he
  refine ⟨hp, fun u hu => ⟨a1 u hu, fun t j s hw => ?_⟩⟩
  have h1 := Wk.pot hp hw
  have h2 := a5 t (Wk.end16 hE hu hw)
  omega
theorem Vi.start {E : Ed} {ok : Nat → Prop} : Vi E ok 0 0 (fun _ => 0) false := by
  refine ⟨fun u _ => ⟨u, 0, rfl, rfl⟩, fun u _ t j s hj hw => ?_, fun e h1 => by omega, fun _ e h1 => by omega, fun u _ => ⟨by show -BV 0 0 ≤ 0; unfold BV; omega, Int.le_refl 0⟩, fun q => absurd q (by decide)⟩
  obtain rfl : j = 0 := by omega
  have := hw.2
  show 0 ≤ s
  omega
/-! the class's -/
def L7 : Lc := [(7,0,0)]
def V7 (h : xHp) (w : Nat → Int) : Prop := ∀ u, u < 16 → (gJ h 7 u).toInt = w u
theorem i64_lt {a b : Int64} {x y : Int} (ha : a.toInt = x) (hb : b.toInt = y) : b ≤ a ↔ y ≤ x := by rw [Int64.le_iff_toInt_le, ha, hb]
theorem c_val_step (N : Nat) {h0 h : xHp} {n r i : Nat} {E : Ed} {w : Nat → Int} {b : Bool} {px : Int32} (hr : r ≤ 20) (hw : Ewf n E) (rc : Ccon n E h0) (f : FL L7 h0 h) (hv : V7 h w) (hi : i < n) (V : Vi E (okn n) r i w b) : ∃ h' w' b', FL L7 h0 h' ∧ V7 h' w' ∧ Vi E (okn n) r (i + 1) w' b' ∧ ∀ k12 k27, F_X2_valueOf_27_b N k12 k27 px (b32 b) (nI r) (nI i) h = k27 px (b32 b') (nI r) (nI (i + 1)) h' := by
  have rc' := rc.ag (f.ag rfl)
  obtain ⟨c1, c2, c3⟩ := rc'.2 i hi
  obtain ⟨d1, d2, d3, d4⟩ := hw.2 i hi
  have hn := hw.1
  have hE : E16 E (okn n) := fun e he => hw.2 e he
  have st : ∀ k12 k27, F_X2_valueOf_27_b N k12 k27 px (b32 b) (nI r) (nI i) h = if gJ h 7 (E i).1 ≤ gJ h 7 (E i).2.1 + (gI h 4 i).toInt64 then k27 px (b32 b) (nI r) (nI (i + 1)) h else k27 px 1 (nI r) (nI (i + 1)) (sJ h 7 (E i).1 (gJ h 7 (E i).2.1 + (gI h 4 i).toInt64)) := by
    intro k12 k27
    unfold F_X2_valueOf_27_b F_X2_valueOf_108
    rw [rc'.1, if_neg (nI_ge hi (by omega)), nI_cl (by omega), c1, c2]
    simp only [grd_t (xin_nI (show i < 70 by omega) (by decide)), grd_t (xin_nI d1 (by decide)), grd_t (xin_nI d2 (by decide)), nI_cl (show (E i).1 < 2 ^ 31 by omega), nI_cl (show (E i).2.1 < 2 ^ 31 by omega), lg_cmp_ge, bnd_eq, nI_1]
  have bv : BV r i ≤ 2000000000 := by unfold BV; omega
  have b1 := V.2.2.2.2.1 _ d2
  have hs : (gJ h 7 (E i).2.1 + (gI h 4 i).toInt64).toInt = w (E i).2.1 + (E i).2.2 := by
    rw [i64_add (hv _ d2) (i32_64 _) (by rw [c3]; omega) (by rw [c3]; omega), c3]
  by_cases q : gJ h 7 (E i).1 ≤ gJ h 7 (E i).2.1 + (gI h 4 i).toInt64
  · exact ⟨h, w, b, f, hv, V.keep hE hi ((i64_lt hs (hv _ d1)).mp q), fun k12 k27 => by rw [st, if_pos q]⟩
  · refine ⟨_, _, true, f.trans (FL.j h rfl), fun u hu => ?_, V.take hE hi (by have := mt (i64_lt hs (hv _ d1)).mpr q; omega), fun k12 k27 => by rw [st, if_neg q]; rfl⟩
    rw [gJ_sJ, if_pos rfl]
    unfold upW
    by_cases qu : u = (E i).1
    · rw [if_pos qu, if_pos qu]; exact hs
    · rw [if_neg qu, if_neg qu]; exact hv u hu
theorem c_val_in (N : Nat) {h0 : xHp} {n r : Nat} {E : Ed} {px : Int32} (hr : r ≤ 20) (hw : Ewf n E) (rc : Ccon n E h0) : ∀ (z i : Nat) (h : xHp) (w : Nat → Int) (b : Bool), i ≤ n → n - i < z → FL L7 h0 h → V7 h w → Vi E (okn n) r i w b → ∃ h' w' b', FL L7 h0 h' ∧ V7 h' w' ∧ Vi E (okn n) r n w' b' ∧ ∀ k12, xit (F_X2_valueOf_27_b N k12) (fun _ _ _ _ _ => none) z px (b32 b) (nI r) (nI i) h = k12 px (b32 b') (nI (r + 1)) h' := by
  intro z
  induction z with
  | zero => intro i h w b _ h2; omega
  | succ z ih =>
    intro i h w b h1 h2 f hv V
    by_cases hi : i = n
    · subst hi
      refine ⟨h, w, b, f, hv, V, fun k12 => ?_⟩
      show F_X2_valueOf_27_b N k12 _ px (b32 b) (nI r) (nI i) h = _
      unfold F_X2_valueOf_27_b
      rw [(rc.ag (f.ag rfl)).1, if_pos (Int32.le_refl _), nI_1]
    · obtain ⟨h1', w1, b1, f1, v1, V1, e1⟩ := c_val_step N (px := px) hr hw rc f hv (by omega : i < n) V
      obtain ⟨h2', w2, b2, f2, v2, V2, e2⟩ := ih (i + 1) h1' w1 b1 (by omega) (by omega) f1 v1 V1
      exact ⟨h2', w2, b2, f2, v2, V2, fun k12 => (e1 k12 _).trans (e2 k12)⟩
theorem c_val_out (N : Nat) (hN : 300 ≤ N) {h0 : xHp} {n x : Nat} {E : Ed} (hx : x < 16) (hw : Ewf n E) (hp : Epot n E) (rc : Ccon n E h0) : ∀ (z r : Nat) (h : xHp) (w : Nat → Int), r ≤ 15 → 16 - r < z → FL L7 h0 h → V7 h w → Vi E (okn n) r 0 w false → ∃ h' w', FL L7 h0 h' ∧ V7 h' w' ∧ (∀ u, u < 16 → IsG E (okn n) u (w' u)) ∧ xit (F_X2_valueOf_12_b N) (fun _ _ _ _ => none) z (nI x) 1 (nI r) h = some (gJ h' 7 x - gJ h' 7 0, h') := by
  intro z
  induction z with
  | zero => intro r h w _ h2; omega
  | succ z ih =>
    intro r h w h1 h2 f hv V
    have hn := hw.1
    have hE : E16 E (okn n) := fun e he => hw.2 e he
    obtain ⟨h1', w1, b1, f1, v1, V1, e1⟩ := c_val_in N (r := r) (px := nI x) (by omega) hw rc N 0 h w false (by omega) (by omega) f hv V
    have st : ∀ K, F_X2_valueOf_12_b N K (nI x) 1 (nI r) h = K (nI x) (b32 b1) (nI (r + 1)) h1' := by
      intro K
      unfold F_X2_valueOf_12_b F_X2_valueOf_27
      rw [if_neg (by rw [show (16 : Int32) = nI 16 from rfl]; exact nI_ge (by omega) (by decide)), if_neg (by decide)]
      exact e1 K
    have fin : ∀ K b q, (b = 0 ∨ (16 : Int32) ≤ q) → F_X2_valueOf_12_b N K (nI x) b q h1' = some (gJ h1' 7 x - gJ h1' 7 0, h1') := by
      intro K b q hbq
      have e : F_X2_valueOf_120 N (nI x) h1' = some (gJ h1' 7 x - gJ h1' 7 0, h1') := by
        unfold F_X2_valueOf_120
        rw [grd_t (xin_nI hx (by decide)), nI_cl (by omega)]
        rfl
      unfold F_X2_valueOf_12_b
      by_cases q16 : (16 : Int32) ≤ q
      · rw [if_pos q16, e]
      · rw [if_neg q16]
        rcases hbq with hb | hb
        · rw [if_pos hb, e]
        · exact absurd hb q16
    show ∃ h' w', _ ∧ _ ∧ _ ∧ F_X2_valueOf_12_b N (xit (F_X2_valueOf_12_b N) (fun _ _ _ _ => none) z) (nI x) 1 (nI r) h = _
    rw [st]
    cases b1 with
    | false =>
      refine ⟨h1', w1, f1, v1, (V1.done hE (fun e he => he)).2, ?_⟩
      cases z with
      | zero => omega
      | succ z => exact fin _ _ _ (Or.inl rfl)
    | true =>
      have hr : r < 15 := by
        obtain ⟨v, hv⟩ := hp
        exact V1.2.2.2.2.2 rfl v hv
      exact ih (r + 1) h1' w1 (by omega) (by omega) f1 v1 (V1.round hn (fun e he => he))
theorem c_fill7 (N : Nat) : ∀ (z i : Nat) (h : xHp), i ≤ 16 → 16 - i < z → (∀ u, u < i → gJ h 7 u = 0) → ∃ h', xit (F_J7_fill_d0a16_7_6_b N) (fun _ _ _ _ => none) z 0 (nI i) 16 h = some ((), h') ∧ FL L7 h h' ∧ ∀ u, u < 16 → gJ h' 7 u = 0 := by
  intro z
  induction z with
  | zero => intro i h _ h2; omega
  | succ z ih =>
    intro i h h1 h2 hz
    by_cases hi : i = 16
    · subst hi
      exact ⟨h, by show F_J7_fill_d0a16_7_6_b N _ 0 (nI 16) 16 h = _; unfold F_J7_fill_d0a16_7_6_b; rw [if_pos (by decide)], Fr.rf, hz⟩
    · obtain ⟨h', e', f', g'⟩ := ih (i + 1) (sJ h 7 i 0) (by omega) (by omega) (fun u hu => by
        rw [gJ_sJ, if_pos rfl]
        by_cases q : u = i
        · rw [if_pos q]
        · rw [if_neg q]; exact hz u (by omega))
      refine ⟨h', ?_, (FL.j h rfl).trans f', g'⟩
      show F_J7_fill_d0a16_7_6_b N (xit (F_J7_fill_d0a16_7_6_b N) (fun _ _ _ _ => none) z) 0 (nI i) 16 h = _
      rw [← e']
      generalize xit (F_J7_fill_d0a16_7_6_b N) (fun _ _ _ _ => none) z = K
      unfold F_J7_fill_d0a16_7_6_b
      rw [if_neg (by rw [show (16 : Int32) = nI 16 from rfl]; exact nI_ge (by omega) (by decide)), grd_t (xin_nI (by omega) (by decide)), nI_cl (by omega), bnd_eq, nI_1]
theorem c_valueOf (N : Nat) (hN : 300 ≤ N) {h : xHp} {n x : Nat} {E : Ed} (hx : x < 16) (hw : Ewf n E) (hp : Epot n E) (rc : Ccon n E h) : ∃ h' w', FL L7 h h' ∧ V7 h' w' ∧ (∀ u, u < 16 → IsG E (okn n) u (w' u)) ∧ F_X2_valueOf N (nI x) h = some (gJ h' 7 x - gJ h' 7 0, h') := by
  obtain ⟨h1, e1, f1, g1⟩ := c_fill7 N N 0 h (by omega) (by omega) (fun u hu => by omega)
  obtain ⟨h2, w2, f2, v2, g2, e2⟩ := c_val_out N hN (n := n) (E := E) hx hw hp (rc.ag (f1.ag rfl)) N 0 h1 (fun _ => 0) (by omega) (by omega) Fr.rf (fun u hu => by rw [g1 u hu]; rfl) Vi.start
  refine ⟨h2, w2, f1.trans f2, v2, g2, ?_⟩
  unfold F_X2_valueOf F_J7_fill_d0a16_7 F_J7_fill_d0a16_7_6 F_X2_valueOf_12
  rw [show (0 : Int32) = nI 0 from rfl, e1, bnd2_p, e2]
/-! the reference's -/
def L60 : Lc := [(60,0,0)]
def V60 (h : xHp) (w : Nat → Int) : Prop := ∀ u, u < 16 → (gJ h 60 u).toInt = w u
def DV : Lc := [(52,0,0),(53,0,0),(54,0,0),(55,0,0)]
theorem wfM.ag {h h' : xHp} (a : Ag DV h h') (hw : wfM h) : wfM h' ∧ (∀ e, okM h' e ↔ okM h e) ∧ ∀ e, edM h' e = edM h e := by
  have ho : ∀ e, okM h' e ↔ okM h e := fun e => by unfold okM; rw [a 55 e rfl]
  refine ⟨fun e he => ?_, ho, fun e => ?_⟩
  · rw [a 52 e rfl, a 53 e rfl, a 54 e rfl]
    exact hw e ((ho e).mp he)
  · unfold edM
    rw [a 52 e rfl, a 53 e rfl, a 54 e rfl]
theorem m_val_step (N : Nat) {h0 h : xHp} {r i : Nat} {w : Nat → Int} {b : Bool} (hr : r ≤ 20) (hw : wfM h0) (f : FL L60 h0 h) (hv : V60 h w) (hi : i < 70) (hE : E16 (edM h0) (okM h0)) (V : Vi (edM h0) (okM h0) r i w b) : ∃ h' w' b', FL L60 h0 h' ∧ V60 h' w' ∧ Vi (edM h0) (okM h0) r (i + 1) w' b' ∧ ∀ k25 k39, F_X9_findValues_39_b N k25 k39 (b32 b) (nI r) (nI i) h = k39 (b32 b') (nI r) (nI (i + 1)) h' := by
  have ag : Ag DV h0 h := f.ag rfl
  by_cases hok : gI h0 55 i = 0
  · refine ⟨h, w, b, f, hv, V.skip (fun q => q.2 hok), fun k25 k39 => ?_⟩
    unfold F_X9_findValues_39_b F_X9_findValues_120
    rw [if_neg (i70 hi), grd_t (xin_nI hi (by decide)), nI_cl (by omega), ag 55 i rfl, if_pos hok, nI_1]
  · have ho : okM h0 i := ⟨hi, hok⟩
    obtain ⟨⟨x, hx, ex⟩, ⟨y, hy, ey⟩, c1, c2⟩ := hw i ho
    have edx : (edM h0 i).1 = x := by show (gI h0 52 i).toNatClampNeg = x; rw [ex, nI_cl (by omega)]
    have edy : (edM h0 i).2.1 = y := by show (gI h0 53 i).toNatClampNeg = y; rw [ey, nI_cl (by omega)]
    have edc : (edM h0 i).2.2 = (gI h0 54 i).toInt := rfl
    have st : ∀ k25 k39, F_X9_findValues_39_b N k25 k39 (b32 b) (nI r) (nI i) h = if gJ h 60 x ≤ gJ h 60 y + (gI h0 54 i).toInt64 then k39 (b32 b) (nI r) (nI (i + 1)) h else k39 1 (nI r) (nI (i + 1)) (sJ h 60 x (gJ h 60 y + (gI h0 54 i).toInt64)) := by
      intro k25 k39
      unfold F_X9_findValues_39_b F_X9_findValues_120
      rw [if_neg (i70 hi), nI_cl (by omega), ag 55 i rfl, ag 52 i rfl, ag 53 i rfl, ag 54 i rfl, ex, ey, if_neg hok]
      simp only [grd_t (xin_nI hi (by decide)), grd_t (xin_nI hx (by decide)), grd_t (xin_nI hy (by decide)), nI_cl (show x < 2 ^ 31 by omega), nI_cl (show y < 2 ^ 31 by omega), lg_cmp_ge, bnd_eq, nI_1]
    have bv : BV r i ≤ 2000000000 := by unfold BV; omega
    have b1 := V.2.2.2.2.1 _ hy
    have hs : (gJ h 60 y + (gI h0 54 i).toInt64).toInt = w (edM h0 i).2.1 + (edM h0 i).2.2 := by
      rw [i64_add (hv _ hy) (i32_64 _) (by omega) (by omega), edy, edc]
    have hx' : (gJ h 60 x).toInt = w (edM h0 i).1 := by rw [edx]; exact hv x hx
    by_cases q : gJ h 60 x ≤ gJ h 60 y + (gI h0 54 i).toInt64
    · exact ⟨h, w, b, f, hv, V.keep hE ho ((i64_lt hs hx').mp q), fun k25 k39 => by rw [st, if_pos q]⟩
    · refine ⟨_, _, true, f.trans (FL.j h rfl), fun u hu => ?_, V.take hE ho (by have := mt (i64_lt hs hx').mpr q; omega), fun k25 k39 => by rw [st, if_neg q]; rfl⟩
      rw [gJ_sJ, if_pos rfl]
      unfold upW
      rw [edx]
      by_cases qu : u = x
      · rw [if_pos qu, if_pos qu]; rw [hs]
      · rw [if_neg qu, if_neg qu]; exact hv u hu
theorem m_val_in (N : Nat) {h0 : xHp} {r : Nat} (hr : r ≤ 20) (hw : wfM h0) (hE : E16 (edM h0) (okM h0)) : ∀ (z i : Nat) (h : xHp) (w : Nat → Int) (b : Bool), i ≤ 70 → 70 - i < z → FL L60 h0 h → V60 h w → Vi (edM h0) (okM h0) r i w b → ∃ h' w' b', FL L60 h0 h' ∧ V60 h' w' ∧ Vi (edM h0) (okM h0) r 70 w' b' ∧ ∀ k25, xit (F_X9_findValues_39_b N k25) (fun _ _ _ _ => none) z (b32 b) (nI r) (nI i) h = k25 (b32 b') (nI (r + 1)) h' := by
  intro z
  induction z with
  | zero => intro i h w b _ h2; omega
  | succ z ih =>
    intro i h w b h1 h2 f hv V
    by_cases hi : i = 70
    · subst hi
      refine ⟨h, w, b, f, hv, V, fun k25 => ?_⟩
      show F_X9_findValues_39_b N k25 _ (b32 b) (nI r) (nI 70) h = _
      unfold F_X9_findValues_39_b
      rw [if_pos (by decide), nI_1]
    · obtain ⟨h1', w1, b1, f1, v1, V1, e1⟩ := m_val_step N hr hw f hv (by omega : i < 70) hE V
      obtain ⟨h2', w2, b2, f2, v2, V2, e2⟩ := ih (i + 1) h1' w1 b1 (by omega) (by omega) f1 v1 V1
      exact ⟨h2', w2, b2, f2, v2, V2, fun k25 => (e1 k25 _).trans (e2 k25)⟩
def FVres (h0 h' : xHp) (q : Int32) : Prop := FL L60 h0 h' ∧ ((q = 1 ∧ ∃ w, V60 h' w ∧ Pot (edM h0) (okM h0) w ∧ ∀ u, u < 16 → IsG (edM h0) (okM h0) u (w u)) ∨ (q = 0 ∧ ∀ v, ¬ Pot (edM h0) (okM h0) v))
theorem m_val_out (N : Nat) (hN : 300 ≤ N) {h0 : xHp} (hw : wfM h0) (hE : E16 (edM h0) (okM h0)) : ∀ (z r : Nat) (h : xHp) (w : Nat → Int), r ≤ 16 → 17 - r < z → FL L60 h0 h → V60 h w → Vi (edM h0) (okM h0) r 0 w false → ∃ h' q, FVres h0 h' q ∧ xit (F_X9_findValues_25_b N) (fun _ _ _ => none) z 1 (nI r) h = some (q, h') := by
  intro z
  induction z with
  | zero => intro r h w _ h2; omega
  | succ z ih =>
    intro r h w h1 h2 f hv V
    obtain ⟨h1', w1, b1, f1, v1, V1, e1⟩ := m_val_in N (r := r) (by omega) hw hE N 0 h w false (by omega) (by omega) f hv V
    have st : ∀ K, F_X9_findValues_25_b N K 1 (nI r) h = K (b32 b1) (nI (r + 1)) h1' := by
      intro K
      unfold F_X9_findValues_25_b F_X9_findValues_39
      rw [if_neg (by rw [show (16 : Int32) = nI 16 from rfl]; exact nI_nlt (by omega) (by omega)), if_neg (by decide)]
      exact e1 K
    show ∃ h' q, _ ∧ F_X9_findValues_25_b N (xit (F_X9_findValues_25_b N) (fun _ _ _ => none) z) 1 (nI r) h = _
    rw [st]
    cases b1 with
    | false =>
      obtain ⟨p1, p2⟩ := V1.done hE (fun e he => he.1)
      refine ⟨h1', 1, ⟨f1, Or.inl ⟨rfl, w1, v1, p1, p2⟩⟩, ?_⟩
      cases z with
      | zero => omega
      | succ z =>
        show F_X9_findValues_25_b N _ 0 (nI (r + 1)) h1' = _
        unfold F_X9_findValues_25_b F_X9_findValues_132
        rw [if_pos rfl, if_pos rfl, ite_self]
    | true =>
      by_cases hr : r = 16
      · subst hr
        refine ⟨h1', 0, ⟨f1, Or.inr ⟨rfl, fun v hv => ?_⟩⟩, ?_⟩
        · have := V1.2.2.2.2.2 rfl v hv
          omega
        · cases z with
          | zero => omega
          | succ z =>
            show F_X9_findValues_25_b N _ 1 (nI 17) h1' = _
            unfold F_X9_findValues_25_b F_X9_findValues_132
            rw [if_pos (by decide), if_neg (by decide)]
      · exact ih (r + 1) h1' w1 (by omega) (by omega) f1 v1 (V1.round (by omega) (fun e he => he.1))
theorem m_fill60 (N : Nat) : ∀ (z i : Nat) (h : xHp), i ≤ 16 → 16 - i < z → (∀ u, u < i → gJ h 60 u = 0) → ∃ h', xit (F_X9_findValues_2_b N) (fun _ _ => none) z (nI i) h = F_X9_findValues_25 N 1 0 h' ∧ FL L60 h h' ∧ ∀ u, u < 16 → gJ h' 60 u = 0 := by
  intro z
  induction z with
  | zero => intro i h _ h2; omega
  | succ z ih =>
    intro i h h1 h2 hz
    by_cases hi : i = 16
    · subst hi
      exact ⟨h, by show F_X9_findValues_2_b N _ (nI 16) h = _; unfold F_X9_findValues_2_b; rw [if_pos (by decide)], Fr.rf, hz⟩
    · obtain ⟨h', e', f', g'⟩ := ih (i + 1) (sJ h 60 i 0) (by omega) (by omega) (fun u hu => by
        rw [gJ_sJ, if_pos rfl]
        by_cases q : u = i
        · rw [if_pos q]
        · rw [if_neg q]; exact hz u (by omega))
      refine ⟨h', ?_, (FL.j h rfl).trans f', g'⟩
      show F_X9_findValues_2_b N (xit (F_X9_findValues_2_b N) (fun _ _ => none) z) (nI i) h = _
      rw [← e']
      generalize xit (F_X9_findValues_2_b N) (fun _ _ => none) z = K
      unfold F_X9_findValues_2_b
      rw [if_neg (by rw [show (16 : Int32) = nI 16 from rfl]; exact nI_ge (by omega) (by decide)), grd_t (xin_nI (by omega) (by decide)), nI_cl (by omega), bnd_eq, nI_1]
theorem wfM.e16 {h : xHp} (hw : wfM h) : E16 (edM h) (okM h) := fun e he => by
  obtain ⟨⟨x, hx, ex⟩, ⟨y, hy, ey⟩, c1, c2⟩ := hw e he
  refine ⟨?_, ?_, c1, c2⟩
  · show (gI h 52 e).toNatClampNeg < 16
    rw [ex, nI_cl (by omega)]; exact hx
  · show (gI h 53 e).toNatClampNeg < 16
    rw [ey, nI_cl (by omega)]; exact hy
theorem m_findValues (N : Nat) (hN : 300 ≤ N) {h : xHp} (hw : wfM h) : ∃ h' q, F_X9_findValues N h = some (q, h') ∧ FVres h h' q := by
  obtain ⟨h1, e1, f1, g1⟩ := m_fill60 N N 0 h (by omega) (by omega) (fun u hu => by omega)
  obtain ⟨w1, w2, w3⟩ := hw.ag (f1.ag rfl)
  obtain ⟨h2, q, ⟨f2, r2⟩, e2⟩ := m_val_out N hN w1 w1.e16 N 0 h1 (fun _ => 0) (by omega) (by omega) Fr.rf (fun u hu => by rw [g1 u hu]; rfl) Vi.start
  have ee : edM h1 = edM h := funext w3
  have oo : okM h1 = okM h := funext fun e => propext (w2 e)
  rw [ee, oo] at r2
  refine ⟨h2, q, ?_, f1.trans f2, r2⟩
  unfold F_X9_findValues F_X9_findValues_2
  rw [show (0 : Int32) = nI 0 from rfl, e1]
  exact e2
