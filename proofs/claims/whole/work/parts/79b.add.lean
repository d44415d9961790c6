/-! ADD -/
theorem bnd2_p {α β γ : Type} (a : α) (b : β) (f : α → β → Option γ) : bnd2 (some (a, b)) f = f a b := rfl
abbrev okn (n : Nat) : Nat → Prop := fun e => e < n
def upE (E : Ed) (n : Nat) (q : Nat × Nat × Int) : Ed := fun k => if k = n then q else E k
theorem upE_eq {E : Ed} {n : Nat} {q : Nat × Nat × Int} : upE E n q n = q := if_pos rfl
theorem upE_ne {E : Ed} {n k : Nat} {q : Nat × Nat × Int} (h : k ≠ n) : upE E n q k = E k := if_neg h
theorem Ccon.wf {n : Nat} {E : Ed} {h : xHp} (hw : Ewf n E) (r : Ccon n E h) : wfC n h := by
  refine ⟨hw.1, r.1, fun e he => ?_⟩
  obtain ⟨a1, a2, a3⟩ := r.2 e he
  obtain ⟨b1, b2, b3, b4⟩ := hw.2 e he
  exact ⟨⟨_, b1, a1⟩, ⟨_, b2, a2⟩, by omega, by omega⟩
theorem Ccon.ed {n : Nat} {E : Ed} {h : xHp} (hw : Ewf n E) (r : Ccon n E h) {e : Nat} (he : e < n) : edC h e = E e := by
  obtain ⟨a1, a2, a3⟩ := r.2 e he
  obtain ⟨b1, b2, b3, b4⟩ := hw.2 e he
  unfold edC
  rw [a1, a2, a3, nI_cl (by omega), nI_cl (by omega)]
theorem Epot.mono {n m : Nat} {E : Ed} (hp : Epot n E) (hm : m ≤ n) : Epot m E := by
  obtain ⟨v, hv⟩ := hp
  exact ⟨v, fun e he => hv e (by have : e < m := he; omega)⟩
theorem c_refuses (N : Nat) (hN : 300 ≤ N) {h : xHp} {n x y : Nat} {E : Ed} {c : Int32} (hw : Ewf n E) (hp : Epot n E) (r : Ccon n E h) (hx : x < 16) (hy : y < 16) (hc1 : -1000001 ≤ c.toInt) (hc2 : c.toInt ≤ 1000001) : (∃ J l h', J ≤ 15 ∧ Short E (okn n) x J y (-1 - c.toInt) ∧ RowOf E (okn n) x J y (-1 - c.toInt) l ∧ F_X2_refuses N (nI x) (nI y) c h = some (1, h') ∧ FL LN h h' ∧ gI h' 1 5 = nI J ∧ ∀ k, k < J → gI h' 5 k = nI (l.getD k 0)) ∨ ((∀ j s, Wk E (okn n) x j y s → ¬ s ≤ -1 - c.toInt) ∧ ∃ h', F_X2_refuses N (nI x) (nI y) c h = some (0, h') ∧ FL LN h h') := by
  obtain ⟨v, hv⟩ := hp
  have ho : ∀ e, okC n (-1) e ↔ okn n e := fun e => okC_iff hw.1
  have he : ∀ e, okC n (-1) e → edC h e = E e := fun e q => r.ed hw q.1
  have hv' : Pot (edC h) (okC n (-1)) v := fun e q => by rw [he e q]; exact hv e q.1
  rcases p_refuses N hN (r.wf hw) hx hy hc1 hc2 hv' with ⟨J, l, h', a1, a2, a3, a4, a5, a6, a7⟩ | ⟨a1, h', a2, a3⟩
  · exact Or.inl ⟨J, l, h', a1, a2.congr ho he, a3.congr ho he, a4, PN_LN a5, a6, a7⟩
  · exact Or.inr ⟨fun j s q => a1 j s ((Wk.congr ho he).mpr q), h', a2, PN_LN a3⟩
/-- the least of numbers that don't fall below b -/
theorem int_least (P : Int → Prop) (b : Int) (hb : ∀ x, P x → b ≤ x) : ∀ (k : Nat) (x : Int), P x → (x - b).toNat ≤ k → ∃ m, P m ∧ ∀ y, P y → m ≤ y := by
  intro k
  induction k with
  | zero =>
    intro x hx hk
    exact ⟨x, hx, fun y hy => by have := hb y hy; have := hb x hx; omega⟩
  | succ k ih =>
    intro x hx hk
    by_cases h : ∃ y, P y ∧ y < x
    · obtain ⟨y, hy, hlt⟩ := h
      exact ih y hy (by have := hb y hy; omega)
    · exact ⟨x, hx, fun y hy => by
        by_cases q : x ≤ y
        · exact q
        · exact absurd ⟨y, hy, by omega⟩ h⟩
/-- no row that closes a round below 0: a potential for one more -/
theorem Epot.more {n x y : Nat} {E : Ed} {c : Int} (hp : Epot n E) (hno : ∀ j s, Wk E (okn n) x j y s → ¬ s ≤ -1 - c) : Epot (n + 1) (upE E n (x, y, c)) := by
  obtain ⟨v, hv⟩ := hp
  have ex : ∀ u, ∃ m, (m = v u ∨ ∃ j s, Wk E (okn n) x j u s ∧ m = s + v y + c) ∧ ∀ q, (q = v u ∨ ∃ j s, Wk E (okn n) x j u s ∧ q = s + v y + c) → m ≤ q := by
    intro u
    refine int_least (fun q => q = v u ∨ ∃ j s, Wk E (okn n) x j u s ∧ q = s + v y + c) (min (v u) (v u - v x + v y + c)) ?_ _ (v u) (Or.inl rfl) (Nat.le_refl _)
    rintro q (h | ⟨j, s, h1, h2⟩)
    · omega
    · have := Wk.pot hv h1
      omega
  let w : Nat → Int := fun u => Classical.choose (ex u)
  have hwS : ∀ u, (w u = v u ∨ ∃ j s, Wk E (okn n) x j u s ∧ w u = s + v y + c) ∧ ∀ q, (q = v u ∨ ∃ j s, Wk E (okn n) x j u s ∧ q = s + v y + c) → w u ≤ q := fun u => Classical.choose_spec (ex u)
  refine ⟨w, fun e he => ?_⟩
  by_cases h : e = n
  · subst h
    rw [upE_eq]
    show w x ≤ w y + c
    have h1 := (hwS x).2 (0 + v y + c) (Or.inr ⟨0, 0, ⟨rfl, rfl⟩, rfl⟩)
    rcases (hwS y).1 with h2 | ⟨j, s, h2, h3⟩
    · omega
    · have := hno j s h2
      omega
  · rw [upE_ne h]
    have he' : okn n e := by have : e < n + 1 := he; show e < n; omega
    have h0 := hv e he'
    rcases (hwS (E e).2.1).1 with h2 | ⟨j, s, h2, h3⟩
    · have := (hwS (E e).1).2 _ (Or.inl rfl)
      omega
    · have := (hwS (E e).1).2 _ (Or.inr ⟨j + 1, (E e).2.2 + s, ⟨e, he', rfl, s, h2, rfl⟩, rfl⟩)
      omega
theorem Ewf.more {n x y : Nat} {E : Ed} {c : Int} (hw : Ewf n E) (hn : n < 70) (hx : x < 16) (hy : y < 16) (h1 : -1000001 ≤ c) (h2 : c ≤ 1000001) : Ewf (n + 1) (upE E n (x, y, c)) := by
  refine ⟨by omega, fun k hk => ?_⟩
  by_cases h : k = n
  · subst h
    rw [upE_eq]
    exact ⟨hx, hy, h1, h2⟩
  · rw [upE_ne h]
    exact hw.2 k (by omega)
def LApp : Lc := [(1,3,4),(2,0,0),(3,0,0),(4,0,0)]
/-- the class's append -/
theorem c_append (N : Nat) {h : xHp} {n x y : Nat} {E : Ed} {c : Int32} (hn : n < 70) (r : Ccon n E h) : ∃ h', F_X2_append N (nI x) (nI y) c h = some ((), h') ∧ FL LApp h h' ∧ Ccon (n + 1) (upE E n (x, y, c.toInt)) h' := by
  have hc := r.1
  refine ⟨sI (sI (sI (sI h 2 n (nI x)) 3 n (nI y)) 4 n c) 1 3 (nI (n + 1)), ?_, ?_, ?_, ?_⟩
  · unfold F_X2_append
    rw [hc, if_neg (by rw [show (70 : Int32) = nI 70 from rfl]; exact nI_ge hn (by decide))]
    simp +decide only [bnd_eq, gI_sI, hc, if_false, grd_t (xin_nI hn (by decide)), nI_cl (show n < 2 ^ 31 by omega), nI_1, if_true]
  · exact ((FL.i h rfl).trans ((FL.i _ rfl).trans ((FL.i _ rfl).trans (FL.i _ rfl))))
  · rw [gI_sI, if_pos rfl, if_pos rfl]
  · intro k hk
    simp +decide only [gI_sI, if_false, if_true]
    by_cases q : k = n
    · subst q
      rw [upE_eq, if_pos rfl, if_pos rfl, if_pos rfl]
      exact ⟨rfl, rfl, rfl⟩
    · rw [upE_ne q, if_neg q, if_neg q, if_neg q]
      exact r.2 k (by omega)
/-- the class's keepCore -/
theorem c_core_go (N : Nat) {J : Nat} {l : List Nat} (hJ : J ≤ 15) : ∀ (z i : Nat) (h : xHp), i ≤ J → J - i < z → gI h 1 5 = nI J → (∀ k, k < J → gI h 5 k = nI (l.getD k 0)) → Ccor (i + 1) (fun k => if k = 0 then -1 else nI (l.getD (k - 1) 0)) h → ∃ h', xit (F_X8_keepCore_14_b N) (fun _ _ => none) z (nI i) h = some ((), h') ∧ FL DCcor h h' ∧ Ccor (J + 1) (fun k => if k = 0 then -1 else nI (l.getD (k - 1) 0)) h' := by
  intro z
  induction z with
  | zero => intro i h _ h2; omega
  | succ z ih =>
    intro i h h1 h2 hl hr hC
    by_cases hi : i = J
    · subst hi
      refine ⟨h, ?_, Fr.rf, hC⟩
      show F_X8_keepCore_14_b N _ (nI i) h = _
      unfold F_X8_keepCore_14_b
      rw [hl, if_pos (Int32.le_refl _)]
    · have hlt : i < J := by omega
      obtain ⟨h', e', f', g'⟩ := ih (i + 1) (sI (sI h 25 (i + 1) (nI (l.getD i 0))) 0 4 (nI (i + 1 + 1))) (by omega) (by omega) (by simp +decide only [gI_sI, if_false, if_true]; exact hl) (fun k hk => by simp +decide only [gI_sI, if_false, if_true]; exact hr k hk) ⟨by simp +decide only [gI_sI, if_true], fun k hk => by
        simp +decide only [gI_sI, if_false, if_true]
        by_cases q : k = i + 1
        · subst q; rw [if_pos rfl, if_neg (by omega)]; rfl
        · rw [if_neg q]; exact hC.2 k (by omega)⟩
      refine ⟨h', ?_, ((FL.i h rfl).trans (FL.i _ rfl)).trans f', g'⟩
      show F_X8_keepCore_14_b N (xit (F_X8_keepCore_14_b N) (fun _ _ => none) z) (nI i) h = _
      rw [← e']
      unfold F_X8_keepCore_14_b
      rw [hl, hC.1, if_neg (nI_ge hlt (by omega)), if_neg (by rw [show (16 : Int32) = nI 16 from rfl]; exact nI_ge (by omega) (by decide))]
      simp only [grd_t (xin_nI (show i < 16 by omega) (by decide)), grd_t (xin_nI (show i + 1 < 16 by omega) (by decide)), nI_cl (show i < 2 ^ 31 by omega), nI_cl (show i + 1 < 2 ^ 31 by omega), bnd_eq, hr i hlt, gI_sI, show ¬ ((0 : Nat) = 25) by decide, if_false, hC.1, nI_1]
theorem c_keepCore (N : Nat) (hN : 300 ≤ N) {J : Nat} {l : List Nat} {h : xHp} (hJ : J ≤ 15) (hl : gI h 1 5 = nI J) (hr : ∀ k, k < J → gI h 5 k = nI (l.getD k 0)) : ∃ h', F_X8_keepCore N h = some ((), h') ∧ FL DCcor h h' ∧ Ccor (J + 1) (fun k => if k = 0 then -1 else nI (l.getD (k - 1) 0)) h' := by
  obtain ⟨h', e', f', g'⟩ := c_core_go N hJ N 0 (sI (sI h 25 0 (-1)) 0 4 1) (by omega) (by omega) (by simp +decide only [gI_sI, if_false, if_true]; exact hl) (fun k hk => by simp +decide only [gI_sI, if_false, if_true]; exact hr k hk) ⟨by simp +decide only [gI_sI, if_true], fun k hk => by
    obtain rfl : k = 0 := by omega
    simp +decide only [gI_sI, if_false, if_true]⟩
  refine ⟨h', ?_, ((FL.i h rfl).trans (FL.i _ rfl)).trans f', g'⟩
  unfold F_X8_keepCore F_X8_keepCore_14
  exact e'
theorem lt_c {c : Int32} (h1 : -1000000 ≤ c) (h2 : c ≤ 1000000) : -1000000 ≤ c.toInt ∧ c.toInt ≤ 1000000 := by
  rw [Int32.le_iff_toInt_le] at h1 h2
  have e1 : ((-1000000 : Int32)).toInt = -1000000 := by decide
  have e2 : ((1000000 : Int32)).toInt = 1000000 := by decide
  rw [e1] at h1
  rw [e2] at h2
  exact ⟨h1, h2⟩
def LAdd8 : Lc := LN ++ [(1,3,4),(2,0,0),(3,0,0),(4,0,0),(47,2,3),(0,4,5),(25,0,0)]
theorem c_add (N : Nat) (hN : 300 ≤ N) {h : xHp} {n x y : Nat} {E : Ed} {c : Int32} (hw : Ewf n E) (hp : Epot n E) (r : Ccon n E h) (hn : n < 60) (hx : x < 16) (hy : y < 16) (hc1 : -1000000 ≤ c) (hc2 : c ≤ 1000000) : (∃ J l h', J ≤ 15 ∧ Short E (okn n) x J y (-1 - c.toInt) ∧ RowOf E (okn n) x J y (-1 - c.toInt) l ∧ F_X8_add N (nI x) (nI y) c h = some (-1, h') ∧ FL (LN ++ DCcor) h h' ∧ Ccor (J + 1) (fun k => if k = 0 then -1 else nI (l.getD (k - 1) 0)) h') ∨ ((∀ j s, Wk E (okn n) x j y s → ¬ s ≤ -1 - c.toInt) ∧ ∃ h', F_X8_add N (nI x) (nI y) c h = some (nI n, h') ∧ FL (LN ++ (47,2,3) :: LApp) h h' ∧ Ccon (n + 1) (upE E n (x, y, c.toInt)) h' ∧ gI h' 47 2 = 0) := by
  obtain ⟨c1, c2⟩ := lt_c hc1 hc2
  have hn8 : nI n < 60 := by rw [show (60 : Int32) = nI 60 from rfl]; exact nI_lt hn (by decide)
  have start : F_X8_add N (nI x) (nI y) c h = bnd2 (F_X2_refuses N (nI x) (nI y) c h) fun r5 h6 => if r5 = 0 then bnd2 (F_X2_append N (nI x) (nI y) c h6) fun r7 h8 => bnd (sI h8 47 2 0) fun h9 => some (((gI h9 1 3) - 1), h9) else bnd2 (F_X8_keepCore N h6) fun r10 h11 => some ((-1), h11) := by
    unfold F_X8_add
    rw [(p_reqV N hx h).1, bnd2_p, (p_reqV N hy h).1, bnd2_p, if_neg (Int32.not_lt.mpr hc1), if_pos hc2, r.1, if_pos hn8]
  rw [start]
  rcases c_refuses N hN (c := c) hw hp r hx hy (by omega) (by omega) with ⟨J, l, h', a1, a2, a3, a4, a5, a6, a7⟩ | ⟨a1, h', a2, a3⟩
  · obtain ⟨h2, e2, f2, g2⟩ := c_keepCore N hN a1 a6 a7
    refine Or.inl ⟨J, l, h2, a1, a2, a3, ?_, FL.cat a5 f2 rfl rfl, g2⟩
    rw [a4, bnd2_p, if_neg (by decide), e2, bnd2_p]
  · obtain ⟨h2, e2, f2, g2⟩ := c_append (x := x) (y := y) (c := c) N (show n < 70 by omega) (r.ag (a3.ag rfl))
    have f3 : FL [(47,2,3)] h2 (sI h2 47 2 0) := FL.i h2 rfl
    refine Or.inr ⟨a1, sI h2 47 2 0, ?_, FL.cat a3 (FL.cat f2 f3 rfl rfl : FL ((47,2,3) :: LApp) _ _) rfl rfl, g2.ag (f3.ag rfl), by rw [gI_sI, if_pos rfl, if_pos rfl]⟩
    rw [a2, bnd2_p, if_pos rfl, e2, bnd2_p, bnd_eq]
    rw [gI_sI, if_neg (by decide), g2.1, nI_pred]
/-! the reference's -/
theorem Mcon.wf {n : Nat} {E : Ed} {h h' : xHp} (hw : Ewf n E) (r : Mcon n E h) (ha : ∀ i, i < 70 → gI h 55 i = if i < n then 1 else 0) : wfM h ∧ (∀ e, okM h e ↔ okn n e) ∧ ∀ e, okM h e → edM h e = E e := by
  have hok : ∀ e, okM h e ↔ okn n e := by
    intro e
    unfold okM okn
    constructor
    · rintro ⟨a, b⟩
      rw [ha e a] at b
      by_cases q : e < n
      · exact q
      · rw [if_neg q] at b
        exact absurd rfl b
    · intro q
      have := hw.1
      refine ⟨by omega, ?_⟩
      rw [ha e (by omega), if_pos q]
      decide
  refine ⟨fun e he => ?_, hok, fun e he => ?_⟩
  · have he' : e < n := (hok e).mp he
    obtain ⟨a1, a2, a3⟩ := r.2.2 e he'
    obtain ⟨b1, b2, b3, b4⟩ := hw.2 e he'
    exact ⟨⟨_, b1, a1⟩, ⟨_, b2, a2⟩, by omega, by omega⟩
  · have he' : e < n := (hok e).mp he
    obtain ⟨a1, a2, a3⟩ := r.2.2 e he'
    obtain ⟨b1, b2, b3, b4⟩ := hw.2 e he'
    unfold edM
    rw [a1, a2, a3, nI_cl (by omega), nI_cl (by omega)]
/-- findRow, the differences that are there being known -/
theorem m_findRow (N : Nat) (hN : 300 ≤ N) {h : xHp} {ok : Nat → Prop} {E : Ed} {t x : Nat} {M : Int} {lim : Int64} (hw : wfM h) (ho : ∀ e, okM h e ↔ ok e) (he : ∀ e, okM h e → edM h e = E e) (ht : t < 16) (hx : x < 16) (hM : lim.toInt = M) (hM2 : M ≤ 1000000000) {v : Nat → Int} (hv : Pot E ok v) : (∃ J l h', J ≤ 16 ∧ Short E ok t J x M ∧ RowOf E ok t J x M l ∧ F_X9_findRow N (nI x) (nI t) lim h = some (1, h') ∧ FL LR h h' ∧ gI h' 51 12 = nI J ∧ ∀ k, k < J → gI h' 59 k = nI (l.getD k 0)) ∨ ((∀ j s, Wk E ok t j x s → ¬ s ≤ M) ∧ ∃ h', F_X9_findRow N (nI x) (nI t) lim h = some (0, h') ∧ FL LR h h') := by
  have hv' : Pot (edM h) (okM h) v := fun e q => by rw [he e q]; exact hv e ((ho e).mp q)
  rcases p_findRow N hN hw ht hx hM hM2 hv' with ⟨J, l, h', a1, a2, a3, a4, a5, a6, a7⟩ | ⟨a1, h', a2, a3⟩
  · exact Or.inl ⟨J, l, h', a1, a2.congr ho he, a3.congr ho he, a4, PR_LR a5, a6, a7⟩
  · exact Or.inr ⟨fun j s q => a1 j s ((Wk.congr ho he).mpr q), h', a2, PR_LR a3⟩
theorem m_core_go (N : Nat) {J : Nat} {l : List Nat} (hJ : J ≤ 16) : ∀ (z i : Nat) (h : xHp), i ≤ J → J - i < z → gI h 51 12 = nI J → (∀ k, k < J → gI h 59 k = nI (l.getD k 0)) → gI h 51 8 = nI (J + 1) → (∀ k, k < i + 1 → gI h 57 k = if k = 0 then -1 else nI (l.getD (k - 1) 0)) → ∃ h', xit (F_X9_add_94_b N) (fun _ _ => none) z (nI i) h = some (-1, h') ∧ FL DMcor h h' ∧ Mcor (J + 1) (fun k => if k = 0 then -1 else nI (l.getD (k - 1) 0)) h' := by
  intro z
  induction z with
  | zero => intro i h _ h2; omega
  | succ z ih =>
    intro i h h1 h2 hl hr hs hC
    by_cases hi : i = J
    · subst hi
      refine ⟨h, ?_, Fr.rf, hs, hC⟩
      show F_X9_add_94_b N _ (nI i) h = _
      unfold F_X9_add_94_b
      rw [hl, if_pos (Int32.le_refl _)]
    · have hlt : i < J := by omega
      obtain ⟨h', e', f', g'⟩ := ih (i + 1) (sI h 57 (i + 1) (nI (l.getD i 0))) (by omega) (by omega) (by simp +decide only [gI_sI, if_false]; exact hl) (fun k hk => by simp +decide only [gI_sI, if_false]; exact hr k hk) (by simp +decide only [gI_sI, if_false]; exact hs) (fun k hk => by
        rw [gI_sI, if_pos rfl]
        by_cases q : k = i + 1
        · subst q; rw [if_pos rfl, if_neg (by omega)]; rfl
        · rw [if_neg q]; exact hC k (by omega))
      refine ⟨h', ?_, (FL.i h rfl).trans f', g'⟩
      show F_X9_add_94_b N (xit (F_X9_add_94_b N) (fun _ _ => none) z) (nI i) h = _
      rw [← e']
      unfold F_X9_add_94_b
      have e1 : (1 : Int32) + nI i = nI (i + 1) := by rw [show (1 : Int32) = nI 1 from rfl, nI_add, Nat.add_comm]
      rw [hl, if_neg (nI_ge hlt (by omega)), e1]
      simp only [grd_t (xin_nI (show i < 20 by omega) (by decide)), grd_t (xin_nI (show i + 1 < 20 by omega) (by decide)), nI_cl (show i < 2 ^ 31 by omega), nI_cl (show i + 1 < 2 ^ 31 by omega), bnd_eq, hr i hlt, nI_1]
theorem m_isC (N : Nat) {c : Int32} (h : xHp) : F_X9_isIn N c.toInt64 (-1000000) 1000000 h = some (if -1000000 ≤ c ∧ c ≤ 1000000 then 1 else 0, h) := by
  rw [p_isIn, show (-1000000 : Int64) = (-1000000 : Int32).toInt64 by decide, show (1000000 : Int64) = (1000000 : Int32).toInt64 by decide]
  simp only [i64_le]
def LMadd : Lc := [(51,0,1),(55,0,0),(58,0,0),(59,0,0),(51,12,13)]
theorem m_add (N : Nat) (hN : 300 ≤ N) {h : xHp} {n x y : Nat} {E : Ed} {c : Int32} (hw : Ewf n E) (hp : Epot n E) (r : Mcon n E h) (hn : n < 60) (hx : x < 16) (hy : y < 16) (hc1 : -1000000 ≤ c) (hc2 : c ≤ 1000000) : (∃ J l h', J ≤ 16 ∧ Short E (okn n) x J y (-1 - c.toInt) ∧ RowOf E (okn n) x J y (-1 - c.toInt) l ∧ F_X9_add N (nI x) (nI y) c h = some (-1, h') ∧ FL (LMadd ++ DMcor) h h' ∧ gI h' 51 0 = 0 ∧ Mcor (J + 1) (fun k => if k = 0 then -1 else nI (l.getD (k - 1) 0)) h') ∨ ((∀ j s, Wk E (okn n) x j y s → ¬ s ≤ -1 - c.toInt) ∧ ∃ h', F_X9_add N (nI x) (nI y) c h = some (nI n, h') ∧ FL (LMadd ++ [(51,1,2),(52,0,0),(53,0,0),(54,0,0)]) h h' ∧ gI h' 51 0 = 0 ∧ Mcon (n + 1) (upE E n (x, y, c.toInt)) h') := by
  obtain ⟨c1, c2⟩ := lt_c hc1 hc2
  have hn8 : ¬ (60 : Int32) ≤ nI n := by rw [show (60 : Int32) = nI 60 from rfl]; exact nI_ge hn (by decide)
  have f0 : FL [(51,0,1)] h (sI h 51 0 0) := FL.i h rfl
  have r0 := r.ag (f0.ag rfl)
  obtain ⟨h1, e1, fr1, g1⟩ := p_alone N hN (show n ≤ 70 by omega) r0.2.1
  have f1 := P55_L fr1
  have r1 := r0.ag (f1.ag rfl)
  obtain ⟨w1, w2, w3⟩ := r1.wf (h' := h1) hw g1
  obtain ⟨v, hv⟩ := hp
  have start : F_X9_add N (nI x) (nI y) c h = bnd2 (F_X9_findRow N (nI y) (nI x) ((-1) - (c.toInt64)) h1) fun r5 h6 => if r5 = 0 then grd (xin (gI h6 51 1) 70) (bnd (sI h6 52 (gI h6 51 1).toNatClampNeg (nI x)) fun h7 => grd (xin (gI h7 51 1) 70) (bnd (sI h7 53 (gI h7 51 1).toNatClampNeg (nI y)) fun h8 => grd (xin (gI h8 51 1) 70) (bnd (sI h8 54 (gI h8 51 1).toNatClampNeg c) fun h9 => bnd (sI h9 51 1 ((gI h9 51 1) + 1)) fun h10 => some (((gI h10 51 1) - 1), h10)))) else bnd (sI h6 51 8 (1 + (gI h6 51 12))) fun h11 => grd (xin 0 20) (bnd (sI h11 57 (0 : Int32).toNatClampNeg (-1)) fun h12 => F_X9_add_94 N 0 h12) := by
    unfold F_X9_add F_X9_add_22 F_X9_add_47
    rw [p_isVar N hx, bnd2_p, if_neg (by decide), p_isVar N hy, bnd2_p, if_neg (by decide), m_isC, bnd2_p, if_pos (show (-1000000 : Int32) ≤ c ∧ c ≤ 1000000 from ⟨hc1, hc2⟩), r.2.1, if_neg hn8, p_may, bnd2_p]
    simp +decide only [if_false, e1, bnd2_p]
  rw [start]
  rcases m_findRow N hN (lim := (-1) - c.toInt64) (M := -1 - c.toInt) w1 w2 w3 hx hy (lim_toInt c (by omega) (by omega)) (by omega) hv with ⟨J, l, h2, a1, a2, a3, a4, a5, a6, a7⟩ | ⟨a1, h2, a2, a3⟩
  · have f2 : FL DMcor h2 (sI (sI h2 51 8 (nI (J + 1))) 57 0 (-1)) := (FL.i h2 rfl).trans (FL.i _ rfl)
    obtain ⟨h3, e3, f3, g3⟩ := m_core_go N (l := l) a1 N 0 (sI (sI h2 51 8 (nI (J + 1))) 57 0 (-1)) (by omega) (by omega) (by simp +decide only [gI_sI, if_false, if_true]; exact a6) (fun k hk => by simp +decide only [gI_sI, if_false]; exact a7 k hk) (by simp +decide only [gI_sI, if_false, if_true]) (fun k hk => by
      obtain rfl : k = 0 := by omega
      simp only [gI_sI, if_true])
    have F : FL (LMadd ++ DMcor) h h3 := FL.cat f0 (FL.cat f1 (FL.cat a5 (f2.trans f3) rfl rfl : FL (LR ++ DMcor) _ _) rfl rfl : FL ((55,0,0) :: (LR ++ DMcor)) _ _) rfl rfl
    refine Or.inl ⟨J, l, h3, a1, a2, a3, ?_, F, ?_, g3⟩
    · rw [a4, bnd2_p, if_neg (by decide), bnd_eq, a6, show (1 : Int32) + nI J = nI (J + 1) by rw [show (1 : Int32) = nI 1 from rfl, nI_add, Nat.add_comm]]
      exact e3
    · have := (FL.cat f1 (FL.cat a5 (f2.trans f3) rfl rfl : FL (LR ++ DMcor) _ _) rfl rfl : FL ((55,0,0) :: (LR ++ DMcor)) (sI h 51 0 0) h3).1 51 0 rfl
      rw [this.1, gI_sI, if_pos rfl, if_pos rfl]
  · have r2 := r1.ag (a3.ag rfl)
    have hc2' := r2.2.1
    have f2 : FL [(51,1,2),(52,0,0),(53,0,0),(54,0,0)] h2 (sI (sI (sI (sI h2 52 n (nI x)) 53 n (nI y)) 54 n c) 51 1 (nI (n + 1))) := (FL.i h2 rfl).trans ((FL.i _ rfl).trans ((FL.i _ rfl).trans (FL.i _ rfl)))
    refine Or.inr ⟨a1, sI (sI (sI (sI h2 52 n (nI x)) 53 n (nI y)) 54 n c) 51 1 (nI (n + 1)), ?_, FL.cat f0 (FL.cat f1 (FL.cat a3 f2 rfl rfl : FL (LR ++ [(51,1,2),(52,0,0),(53,0,0),(54,0,0)]) _ _) rfl rfl : FL ((55,0,0) :: (LR ++ [(51,1,2),(52,0,0),(53,0,0),(54,0,0)])) _ _) rfl rfl, ?_, by omega, ?_, fun k hk => ?_⟩
    · rw [a2, bnd2_p, if_pos rfl]
      simp +decide only [hc2', grd_t (xin_nI (show n < 70 by omega) (by decide)), bnd_eq, gI_sI, if_false, if_true, nI_cl (show n < 2 ^ 31 by omega), nI_1, nI_pred]
    · simp +decide only [gI_sI, if_false, if_true]
      rw [(a3.1 51 0 rfl).1, (f1.1 51 0 rfl).1, gI_sI, if_pos rfl, if_pos rfl]
    · rw [gI_sI, if_pos rfl, if_pos rfl]
    · simp +decide only [gI_sI, if_false, if_true]
      by_cases q : k = n
      · subst q
        rw [upE_eq, if_pos rfl, if_pos rfl, if_pos rfl]
        exact ⟨rfl, rfl, rfl⟩
      · rw [upE_ne q, if_neg q, if_neg q, if_neg q]
        exact r2.2.2 k (by omega)
