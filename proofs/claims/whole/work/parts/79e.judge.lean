/-! JUDGE: a formula as codes; truths 0 FALSE, 1 OPEN, 2 TRUE -/
def upN (st : Nat → Nat) (i v : Nat) : Nat → Nat := fun k => if k = i then v else st k
def lfv (g : Nat → Nat) (c : Nat) : Nat := if c = 10 then 0 else if c = 11 then 2 else g c
def jn (c a b : Nat) : Nat := if c = 13 then min a b else max (if c = 15 then 2 - a else a) b
def evl (g : Nat → Nat) : List Nat → (Nat → Nat) → Nat → Nat
  | [], st, d => st (d - 1)
  | c :: cs, st, d => if c = 12 then evl g cs (upN st (d - 1) (2 - st (d - 1))) d else if c < 13 then evl g cs (upN st d (lfv g c)) (d + 1) else evl g cs (upN st (d - 2) (jn c (st (d - 2)) (st (d - 1)))) (d - 1)
def dpt : List Nat → Nat → Option Nat
  | [], d => some d
  | c :: cs, d => if c = 12 then (if 1 ≤ d then dpt cs d else none) else if c < 13 then (if d < 32 then dpt cs (d + 1) else none) else (if 2 ≤ d then dpt cs (d - 1) else none)
def jd (g : Nat → Nat) (cs : List Nat) : Nat := evl g cs (fun _ => 0) 0
def cok (an : Nat) (l : List Nat) : Prop := ∀ c, c ∈ l → c < 16 ∧ (c < 10 → c < an)
theorem lfv_2 {g : Nat → Nat} {an c : Nat} (hg : ∀ k, k < an → g k ≤ 2) (hc : c < 12) (ha : c < 10 → c < an) : lfv g c ≤ 2 := by
  unfold lfv
  by_cases h1 : c = 10
  · rw [if_pos h1]; omega
  · rw [if_neg h1]
    by_cases h2 : c = 11
    · rw [if_pos h2]; omega
    · rw [if_neg h2]; exact hg c (ha (by omega))
theorem jn_2 {c a b : Nat} (ha : a ≤ 2) (hb : b ≤ 2) : jn c a b ≤ 2 := by
  unfold jn
  by_cases h1 : c = 13
  · rw [if_pos h1]; omega
  · rw [if_neg h1]
    by_cases h2 : c = 15
    · rw [if_pos h2]; omega
    · rw [if_neg h2]; omega
theorem sub2 {a : Nat} (ha : a ≤ 2) : (2 : Int32) - nI a = nI (2 - a) := by rw [show (2 : Int32) = nI 2 from rfl, pk_sub ha]
theorem c_leaf (N : Nat) {h : xHp} {an c : Nat} {g : Nat → Nat} (hc : c < 12) (ha : c < 10 → c < an) (hg : ∀ k, k < an → gI h 34 k = nI (g k)) : F_X1_leafTruth_30 N (nI c) h = some (nI (lfv g c), h) := by
  unfold F_X1_leafTruth_30 F_X1_leafTruth_30_27 lfv
  by_cases h1 : c = 10
  · subst h1
    rw [if_pos (by decide), if_pos rfl]
    rfl
  · rw [if_neg (by rw [show (10 : Int32) = nI 10 from rfl, nI_eq (by omega) (by omega)]; exact h1), if_neg (nI_pos (by omega)), if_neg h1]
    by_cases h2 : c = 11
    · subst h2
      rw [if_pos (by decide), if_pos rfl]
      rfl
    · rw [if_neg (by rw [show (10 : Int32) = nI 10 from rfl]; exact nI_ge (by omega) (by decide)), if_neg h2, grd_t (xin_nI (by omega) (by decide)), nI_cl (by omega), hg c (ha (by omega))]
theorem c_joined (N : Nat) {h : xHp} {c a b : Nat} (hc : c < 16) (ha : a ≤ 2) (hb : b ≤ 2) : F_X1_joined_ N (nI c) (nI a) (nI b) h = some (nI (jn c a b), h) := by
  unfold F_X1_joined_ F_X1_joined__25 jn
  have e13 : (nI c = 13) ↔ c = 13 := by rw [show (13 : Int32) = nI 13 from rfl, nI_eq (by omega) (by omega)]
  have e15 : (nI c = 15) ↔ c = 15 := by rw [show (15 : Int32) = nI 15 from rfl, nI_eq (by omega) (by omega)]
  rw [sub2 ha]
  simp only [e13, e15]
  by_cases h1 : c = 13
  · rw [if_pos h1, if_pos h1]
    by_cases q : b < a
    · rw [if_pos (nI_lt q (by omega)), Nat.min_eq_right (by omega)]
    · rw [if_neg (nI_nlt (by omega) (by omega)), Nat.min_eq_left (by omega)]
  · rw [if_neg h1, if_neg h1]
    by_cases h2 : c = 15
    · rw [if_pos h2, if_pos h2]
      by_cases q : 2 - a < b
      · rw [if_pos (nI_lt q (by omega)), Nat.max_eq_right (by omega)]
      · rw [if_neg (nI_nlt (by omega) (by omega)), Nat.max_eq_left (by omega)]
    · rw [if_neg h2, if_neg h2]
      by_cases q : a < b
      · rw [if_pos (nI_lt q (by omega)), Nat.max_eq_right (by omega)]
      · rw [if_neg (nI_nlt (by omega) (by omega)), Nat.max_eq_left (by omega)]
def L36 : Lc := [(36,0,0)]
theorem st_up {h : xHp} {st : Nat → Nat} {cell d i v : Nat} {w : Nat → Nat} (hs : ∀ k, k < d → gI h cell k = nI (w (st k))) (k : Nat) (hk : k < d ∨ k = i) : gI (sI h cell i (nI (w v))) cell k = nI (w (upN st i v k)) := by
  rw [gI_sI, if_pos rfl]
  unfold upN
  by_cases q : k = i
  · rw [if_pos q, if_pos q]
  · rw [if_neg q, if_neg q]
    exact hs k (by omega)
theorem up_2 {st : Nat → Nat} {d i v k : Nat} (hs : ∀ k, k < d → st k ≤ 2) (hv : v ≤ 2) (hk : k < d ∨ k = i) : upN st i v k ≤ 2 := by
  unfold upN
  by_cases q : k = i
  · rw [if_pos q]; exact hv
  · rw [if_neg q]; exact hs k (by omega)
theorem c_judge_go (N : Nat) {an : Nat} {g : Nat → Nat} (han : an ≤ 10) (hg2 : ∀ k, k < an → g k ≤ 2) : ∀ (l : List Nat) (z i d : Nat) (st : Nat → Nat) (h : xHp), l.length < z → gI h 30 6 = nI (i + l.length) → i + l.length ≤ 240 → (∀ k, k < l.length → gI h 35 (i + k) = nI (l.getD k 0)) → cok an l → (∀ k, k < an → gI h 34 k = nI (g k)) → d ≤ 32 → (∀ k, k < d → gI h 36 k = nI (id (st k))) → (∀ k, k < d → st k ≤ 2) → dpt l d = some 1 → ∃ h', xit (F_X1_judge_30_4_b N) (fun _ _ _ => none) z (nI d) (nI i) h = some (nI (evl g l st d), h') ∧ FL L36 h h' := by
  intro l
  induction l with
  | nil =>
    intro z i d st h h1 h2 h3 h4 h5 h6 h7 h8 h9 h10
    cases z with
    | zero => exact absurd h1 (Nat.not_lt_zero _)
    | succ z =>
      have hd : d = 1 := by
        unfold dpt at h10
        exact Option.some.inj h10
      subst hd
      refine ⟨h, ?_, Fr.rf⟩
      rw [List.length_nil, Nat.add_zero] at h2
      show F_X1_judge_30_4_b N (xit (F_X1_judge_30_4_b N) (fun _ _ _ => none) z) (nI 1) (nI i) h = _
      generalize xit (F_X1_judge_30_4_b N) (fun _ _ _ => none) z = K
      unfold F_X1_judge_30_4_b evl
      rw [h2, if_pos (Int32.le_refl _), if_neg (by decide)]
      have e : nI 1 - 1 = nI 0 := by rw [nI_pred]
      rw [e, grd_t (xin_nI (by omega) (by decide)), nI_cl (by omega), h8 0 (by omega)]
      rfl
  | cons c l ih =>
    intro z i d st h h1 h2 h3 h4 h5 h6 h7 h8 h9 h10
    cases z with
    | zero => exact absurd h1 (Nat.not_lt_zero _)
    | succ z =>
      rw [List.length_cons] at h1 h2 h3
      have hcode : gI h 35 i = nI c := h4 0 (by simp)
      obtain ⟨hc16, hcan⟩ := h5 c (by simp)
      have h5' : cok an l := fun c' hc' => h5 c' (by simp [hc'])
      have next : ∀ (d' : Nat) (st' : Nat → Nat) (v p : Nat), d' ≤ 32 → (∀ k, k < d' → gI (sI h 36 p (nI (id v))) 36 k = nI (id (st' k))) → (∀ k, k < d' → st' k ≤ 2) → dpt l d' = some 1 → ∃ h', xit (F_X1_judge_30_4_b N) (fun _ _ _ => none) z (nI d') (nI (i + 1)) (sI h 36 p (nI (id v))) = some (nI (evl g l st' d'), h') ∧ FL L36 h h' := by
        intro d' st' v p a1 a2 a3 a4
        obtain ⟨h', e', f'⟩ := ih z (i + 1) d' st' (sI h 36 p (nI (id v))) (by omega) (by rw [gI_sI, if_neg (by decide), h2]; congr 1; omega) (by omega) (fun k hk => by
          rw [gI_sI, if_neg (by decide)]
          have := h4 (k + 1) (by rw [List.length_cons]; omega)
          rw [show i + 1 + k = i + (k + 1) by omega, this]
          rfl) h5' (fun k hk => by rw [gI_sI, if_neg (by decide)]; exact h6 k hk) a1 a2 a3 a4
        exact ⟨h', e', (FL.i h rfl).trans f'⟩
      show ∃ h', F_X1_judge_30_4_b N (xit (F_X1_judge_30_4_b N) (fun _ _ _ => none) z) (nI d) (nI i) h = _ ∧ _
      generalize xit (F_X1_judge_30_4_b N) (fun _ _ _ => none) z = K at next ⊢
      have e12 : (nI c = 12) ↔ c = 12 := by rw [show (12 : Int32) = nI 12 from rfl, nI_eq (by omega) (by omega)]
      have e13 : (nI c < 13) ↔ c < 13 := by rw [show (13 : Int32) = nI 13 from rfl, nI_ltI (by omega) (by omega)]
      unfold F_X1_judge_30_4_b F_X1_judge_30_118
      rw [h2, if_neg (nI_ge (by omega) (by omega)), grd_t (xin_nI (show i < 240 by omega) (by decide)), nI_cl (show i < 2 ^ 31 by omega), hcode]
      simp only [e12, e13]
      unfold dpt at h10
      unfold evl
      by_cases q12 : c = 12
      · rw [if_pos q12] at h10 ⊢
        rw [if_pos q12]
        by_cases qd : 1 ≤ d
        · rw [if_pos qd] at h10
          have e1 : nI d - 1 = nI (d - 1) := by rw [show (1 : Int32) = nI 1 from rfl, pk_sub qd]
          rw [if_neg (nI_nle (by omega) (by omega)), e1]
          simp only [grd_t (xin_nI (show d - 1 < 32 by omega) (by decide)), nI_cl (show d - 1 < 2 ^ 31 by omega), bnd_eq, h8 (d - 1) (by omega), id, sub2 (h9 (d - 1) (by omega)), nI_1]
          exact next d (upN st (d - 1) (2 - st (d - 1))) (2 - st (d - 1)) (d - 1) h7 (fun k hk => st_up h8 k (by omega)) (fun k hk => up_2 h9 (by omega) (by omega)) h10
        · rw [if_neg qd] at h10
          cases h10
      · rw [if_neg q12] at h10 ⊢
        rw [if_neg q12]
        by_cases q13 : c < 13
        · rw [if_pos q13] at h10 ⊢
          rw [if_pos q13]
          by_cases qd : d < 32
          · rw [if_pos qd] at h10
            rw [if_neg (by rw [show (32 : Int32) = nI 32 from rfl]; exact nI_ge qd (by decide)), c_leaf N (by omega) hcan h6, bnd2_p, grd_t (xin_nI qd (by decide)), nI_cl (show d < 2 ^ 31 by omega), bnd_eq, nI_1, nI_1]
            exact next (d + 1) (upN st d (lfv g c)) (lfv g c) d (by omega) (fun k hk => st_up h8 k (by omega)) (fun k hk => up_2 h9 (lfv_2 hg2 (by omega) hcan) (by omega)) h10
          · rw [if_neg qd] at h10
            cases h10
        · rw [if_neg q13] at h10 ⊢
          rw [if_neg q13]
          by_cases qd : 2 ≤ d
          · rw [if_pos qd] at h10
            have e1 : nI d - 1 = nI (d - 1) := by rw [show (1 : Int32) = nI 1 from rfl, pk_sub (by omega)]
            have e2 : nI d - 2 = nI (d - 2) := by rw [show (2 : Int32) = nI 2 from rfl, pk_sub qd]
            have e3 : nI d + (-1) = nI (d - 1) := by rw [show d = (d - 1) + 1 by omega, pk_m1]; rfl
            rw [if_neg (by rw [show (1 : Int32) = nI 1 from rfl]; exact nI_ge (by omega) (by omega)), e1, e2, e3]
            simp only [grd_t (xin_nI (show d - 1 < 32 by omega) (by decide)), grd_t (xin_nI (show d - 2 < 32 by omega) (by decide)), nI_cl (show d - 1 < 2 ^ 31 by omega), nI_cl (show d - 2 < 2 ^ 31 by omega), h8 (d - 1) (by omega), h8 (d - 2) (by omega), id, c_joined N hc16 (h9 (d - 2) (by omega)) (h9 (d - 1) (by omega)), bnd2_p, bnd_eq, nI_1]
            exact next (d - 1) (upN st (d - 2) (jn c (st (d - 2)) (st (d - 1)))) (jn c (st (d - 2)) (st (d - 1))) (d - 2) (by omega) (fun k hk => st_up (d := d - 1) (fun k hk => h8 k (by omega)) k (by omega)) (fun k hk => up_2 h9 (jn_2 (h9 _ (by omega)) (h9 _ (by omega))) (by omega)) h10
          · rw [if_neg qd] at h10
            cases h10
/-- a formula: its atoms and codes -/
def Fcs (an : Nat) (cs : List Nat) : Prop := an ≤ 10 ∧ cs.length ≤ 240 ∧ cok an cs ∧ dpt cs 0 = some 1
theorem c_judge (N : Nat) (hN : 300 ≤ N) {an : Nat} {A : Ed} {cs : List Nat} {g : Nat → Nat} {h : xHp} (hf : Fcs an cs) (r : Cfor an A cs h) (hg : ∀ k, k < an → gI h 34 k = nI (g k)) (hg2 : ∀ k, k < an → g k ≤ 2) : ∃ h', F_X1_judge_30 N h = some (nI (jd g cs), h') ∧ FL L36 h h' := by
  obtain ⟨f1, f2, f3, f4⟩ := hf
  have := c_judge_go N f1 hg2 cs N 0 0 (fun _ => 0) h (by omega) (by rw [Nat.zero_add]; exact r.2.2.1) (by omega) (fun k hk => by rw [Nat.zero_add]; exact r.2.2.2 k hk) f3 hg (by omega) (fun k hk => by omega) (fun k hk => by omega) f4
  exact this
