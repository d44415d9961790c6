/-! JUDGE of the reference: 0 false, 1 true, 2 open -/
def tm (a : Nat) : Nat := if a = 0 then 0 else if a = 2 then 1 else 2
theorem le2 {a : Nat} (h : a ≤ 2) : a = 0 ∨ a = 1 ∨ a = 2 := by omega
theorem m_bin (N : Nat) (K : Int32 → Int32 → xHp → Option (Int32 × xHp)) (x1 x2 : Int32) (h : xHp) {c a b : Nat} (hc : c = 13 ∨ c = 14 ∨ c = 15) (ha : a ≤ 2) (hb : b ≤ 2) : (if nI (mcd c) = 25 then if nI (tm a) = 2 then F_X9_judged_149 N K x1 x2 (nI (mcd c)) (nI (tm b)) 2 h else F_X9_judged_149 N K x1 x2 (nI (mcd c)) (nI (tm b)) (1 - nI (tm a)) h else F_X9_judged_151 N K x1 x2 (nI (mcd c)) (nI (tm a)) (nI (tm b)) h) = F_X9_judged_210 N K x1 x2 (nI (tm (jn c a b))) (x1 - 1) h := by
  unfold F_X9_judged_149 F_X9_judged_151 F_X9_judged_162 F_X9_judged_185 F_X9_judged_202
  rcases hc with rfl | rfl | rfl <;> rcases le2 ha with rfl | rfl | rfl <;> rcases le2 hb with rfl | rfl | rfl <;> rfl
theorem m_not (N : Nat) (K : Int32 → Int32 → xHp → Option (Int32 × xHp)) (x1 x2 p : Int32) (h : xHp) {a : Nat} (ha : a ≤ 2) (hp : xin p 400 = true) : (if nI (tm a) = 2 then F_X9_judged_104 N K x1 x2 2 p h else grd (xin p 400) (F_X9_judged_104 N K x1 x2 (1 - nI (tm a)) p h)) = F_X9_judged_104 N K x1 x2 (nI (tm (2 - a))) p h := by
  rw [grd_t hp]
  rcases le2 ha with rfl | rfl | rfl <;> rfl
def L72 : Lc := [(72,0,0)]
theorem m_judge_go (N : Nat) {an : Nat} {g : Nat → Nat} (han : an ≤ 10) (hg2 : ∀ k, k < an → g k ≤ 2) : ∀ (l : List Nat) (z i d : Nat) (st : Nat → Nat) (h : xHp), l.length < z → gI h 51 28 = nI (i + l.length) → i + l.length ≤ 240 → (∀ k, k < l.length → gI h 65 (i + k) = nI (mcd (l.getD k 0))) → cok an l → (∀ k, k < an → gI h 71 k = nI (tm (g k))) → d ≤ 32 → (∀ k, k < d → gI h 72 k = nI (tm (st k))) → (∀ k, k < d → st k ≤ 2) → dpt l d = some 1 → ∃ h', xit (F_X9_judged_4_b N) (fun _ _ _ => none) z (nI d) (nI i) h = some (nI (tm (evl g l st d)), h') ∧ FL L72 h h' := by
  intro l
  induction l with
  | nil =>
    intro z i d st h h1 h2 h3 h4 h5 h6 h7 h8 h9 h10
    cases z with
    | zero => exact absurd h1 (Nat.not_lt_zero _)
    | succ z =>
      have hd : d = 1 := by
        unfold dpt at h10
        exact Option.some.inj h10
      subst hd
      refine ⟨h, ?_, Fr.rf⟩
      rw [List.length_nil, Nat.add_zero] at h2
      show F_X9_judged_4_b N (xit (F_X9_judged_4_b N) (fun _ _ _ => none) z) (nI 1) (nI i) h = _
      generalize xit (F_X9_judged_4_b N) (fun _ _ _ => none) z = K
      unfold F_X9_judged_4_b evl
      rw [h2, if_pos (Int32.le_refl _), show (0 : Int32) = nI 0 from rfl, grd_t (xin_nI (by omega) (by decide)), nI_cl (by omega), h8 0 (by omega)]
  | cons c l ih =>
    intro z i d st h h1 h2 h3 h4 h5 h6 h7 h8 h9 h10
    cases z with
    | zero => exact absurd h1 (Nat.not_lt_zero _)
    | succ z =>
      rw [List.length_cons] at h1 h2 h3
      have hcode : gI h 65 i = nI (mcd c) := h4 0 (by simp)
      obtain ⟨hc16, hcan⟩ := h5 c (by simp)
      have h5' : cok an l := fun c' hc' => h5 c' (by simp [hc'])
      have next : ∀ (d' : Nat) (st' : Nat → Nat) (v p : Nat), d' ≤ 32 → (∀ k, k < d' → gI (sI h 72 p (nI (tm v))) 72 k = nI (tm (st' k))) → (∀ k, k < d' → st' k ≤ 2) → dpt l d' = some 1 → ∃ h', xit (F_X9_judged_4_b N) (fun _ _ _ => none) z (nI d') (nI (i + 1)) (sI h 72 p (nI (tm v))) = some (nI (tm (evl g l st' d')), h') ∧ FL L72 h h' := by
        intro d' st' v p a1 a2 a3 a4
        obtain ⟨h', e', f'⟩ := ih z (i + 1) d' st' (sI h 72 p (nI (tm v))) (by omega) (by rw [gI_sI, if_neg (by decide), h2]; congr 1; omega) (by omega) (fun k hk => by
          rw [gI_sI, if_neg (by decide)]
          have := h4 (k + 1) (by rw [List.length_cons]; omega)
          rw [show i + 1 + k = i + (k + 1) by omega, this]
          rfl) h5' (fun k hk => by rw [gI_sI, if_neg (by decide)]; exact h6 k hk) a1 a2 a3 a4
        exact ⟨h', e', (FL.i h rfl).trans f'⟩
      show ∃ h', F_X9_judged_4_b N (xit (F_X9_judged_4_b N) (fun _ _ _ => none) z) (nI d) (nI i) h = _ ∧ _
      generalize xit (F_X9_judged_4_b N) (fun _ _ _ => none) z = K at next ⊢
      have hm : mcd c < 26 := by unfold mcd; split <;> omega
      have e10 : ((10 : Int32) ≤ nI (mcd c)) ↔ 10 ≤ c := by
        rw [show (10 : Int32) = nI 10 from rfl, nI_leI (by omega) (by omega)]
        unfold mcd
        by_cases q : c < 10
        · rw [if_pos q]
        · rw [if_neg q]; omega
      have e21 : ((21 : Int32) < nI (mcd c)) ↔ 12 ≤ c := by
        rw [show (21 : Int32) = nI 21 from rfl, nI_ltI (by omega) (by omega)]
        unfold mcd
        by_cases q : c < 10
        · rw [if_pos q]; omega
        · rw [if_neg q]; omega
      have e22 : (nI (mcd c) = 22) ↔ c = 12 := by
        rw [show (22 : Int32) = nI 22 from rfl, nI_eq (by omega) (by omega)]
        unfold mcd
        by_cases q : c < 10
        · rw [if_pos q]; omega
        · rw [if_neg q]; omega
      unfold F_X9_judged_4_b
      rw [h2, if_neg (nI_ge (by omega) (by omega)), grd_t (xin_nI (show i < 1000 by omega) (by decide)), nI_cl (show i < 2 ^ 31 by omega), hcode]
      simp only [e10, e21, e22]
      unfold dpt at h10
      unfold evl
      by_cases q12 : c = 12
      · rw [if_pos q12] at h10 ⊢
        rw [if_pos (by omega), if_pos (by omega), if_pos q12]
        by_cases qd : 1 ≤ d
        · rw [if_pos qd] at h10
          have e1 : nI d - 1 = nI (d - 1) := by rw [show (1 : Int32) = nI 1 from rfl, pk_sub qd]
          rw [e1, nI_cl (show d - 1 < 2 ^ 31 by omega), h8 (d - 1) (by omega), grd_t (xin_nI (show d - 1 < 400 by omega) (by decide)), m_not N K _ _ _ _ (h9 (d - 1) (by omega)) (xin_nI (show d - 1 < 400 by omega) (by decide))]
          unfold F_X9_judged_104 F_X9_judged_211
          rw [grd_t (xin_nI (show d - 1 < 400 by omega) (by decide)), nI_cl (show d - 1 < 2 ^ 31 by omega), bnd_eq, nI_1]
          exact next d (upN st (d - 1) (2 - st (d - 1))) (2 - st (d - 1)) (d - 1) h7 (fun k hk => st_up h8 k (by omega)) (fun k hk => up_2 h9 (by omega) (by omega)) h10
        · rw [if_neg qd] at h10
          cases h10
      · simp only [if_neg q12] at h10 ⊢
        by_cases q13 : c < 13
        · rw [if_pos q13] at h10 ⊢
          by_cases qd : d < 32
          · rw [if_pos qd] at h10
            have hx : ∀ o : Int32, o = nI (tm (lfv g c)) → ∃ h', grd (xin (nI d) 400) (bnd (sI h 72 (nI d).toNatClampNeg o) fun h1 => F_X9_judged_211 N K (nI d + 1) (nI i) h1) = some (nI (tm (evl g l (upN st d (lfv g c)) (d + 1))), h') ∧ FL L72 h h' := by
              intro o ho
              subst ho
              unfold F_X9_judged_211
              rw [grd_t (xin_nI (show d < 400 by omega) (by decide)), nI_cl (show d < 2 ^ 31 by omega), bnd_eq, nI_1, nI_1]
              exact next (d + 1) (upN st d (lfv g c)) (lfv g c) d (by omega) (fun k hk => st_up h8 k (by omega)) (fun k hk => up_2 h9 (lfv_2 hg2 (by omega) hcan) (by omega)) h10
            by_cases q10 : 10 ≤ c
            · rw [if_pos q10, if_neg (by omega)]
              have : c = 10 ∨ c = 11 := by omega
              rcases this with rfl | rfl
              · refine hx _ ?_
                unfold lfv
                rw [if_pos rfl]
                decide
              · refine hx _ ?_
                unfold lfv
                rw [if_neg (by decide), if_pos rfl]
                decide
            · rw [if_neg q10]
              have em : mcd c = c := by unfold mcd; rw [if_pos (by omega)]
              rw [em, grd_t (xin_nI (show c < 10 by omega) (by decide)), nI_cl (show c < 2 ^ 31 by omega)]
              refine hx _ ?_
              rw [h6 c (hcan (by omega))]
              unfold lfv
              rw [if_neg (by omega), if_neg (by omega)]
          · rw [if_neg qd] at h10
            cases h10
        · rw [if_neg q13] at h10 ⊢
          by_cases qd : 2 ≤ d
          · rw [if_pos qd] at h10
            have e1 : nI d + (-1) = nI (d - 1) := by rw [show d = (d - 1) + 1 by omega, pk_m1]; rfl
            have e2 : nI (d - 1) - 1 = nI (d - 2) := by rw [show (1 : Int32) = nI 1 from rfl, pk_sub (by omega)]; congr 1
            rw [if_pos (by omega), if_pos (by omega), e1, e2, grd_t (xin_nI (show d - 2 < 400 by omega) (by decide)), grd_t (xin_nI (show d - 1 < 400 by omega) (by decide)), nI_cl (show d - 2 < 2 ^ 31 by omega), nI_cl (show d - 1 < 2 ^ 31 by omega), h8 (d - 2) (by omega), h8 (d - 1) (by omega), m_bin N K _ _ _ (by omega) (h9 (d - 2) (by omega)) (h9 (d - 1) (by omega))]
            unfold F_X9_judged_210 F_X9_judged_211
            rw [e2, grd_t (xin_nI (show d - 2 < 400 by omega) (by decide)), nI_cl (show d - 2 < 2 ^ 31 by omega), bnd_eq, nI_1]
            exact next (d - 1) (upN st (d - 2) (jn c (st (d - 2)) (st (d - 1)))) (jn c (st (d - 2)) (st (d - 1))) (d - 2) (by omega) (fun k hk => st_up (d := d - 1) (fun k hk => h8 k (by omega)) k (by omega)) (fun k hk => up_2 h9 (jn_2 (h9 _ (by omega)) (h9 _ (by omega))) (by omega)) h10
          · rw [if_neg qd] at h10
            cases h10
theorem m_judge (N : Nat) (hN : 300 ≤ N) {an : Nat} {A : Ed} {cs : List Nat} {g : Nat → Nat} {h : xHp} (hf : Fcs an cs) (r : Mfor an A cs h) (hg : ∀ k, k < an → gI h 71 k = nI (tm (g k))) (hg2 : ∀ k, k < an → g k ≤ 2) : ∃ h', F_X9_judged N h = some (nI (tm (jd g cs)), h') ∧ FL L72 h h' := by
  obtain ⟨f1, f2, f3, f4⟩ := hf
  exact m_judge_go N f1 hg2 cs N 0 0 (fun _ => 0) h (by omega) (by rw [Nat.zero_add]; exact r.2.2.1) (by omega) (fun k hk => by rw [Nat.zero_add]; exact r.2.2.2 k hk) f3 hg (by omega) (fun k hk => by omega) (fun k hk => by omega) f4
/-! what is open may become anything; nothing else changes -/
def ref3 (a b : Nat) : Prop := a = 1 ∨ a = b
theorem evl_mono {g g' : Nat → Nat} {an : Nat} (hg2 : ∀ k, k < an → g k ≤ 2) (hg2' : ∀ k, k < an → g' k ≤ 2) (hr : ∀ k, k < an → ref3 (g k) (g' k)) : ∀ (l : List Nat) (d : Nat) (st st' : Nat → Nat), cok an l → (∀ k, k < d → st k ≤ 2) → (∀ k, k < d → st' k ≤ 2) → (∀ k, k < d → ref3 (st k) (st' k)) → dpt l d = some 1 → ref3 (evl g l st d) (evl g' l st' d) ∧ evl g l st d ≤ 2 := by
  intro l
  induction l with
  | nil =>
    intro d st st' h5 h9 h9' hs h10
    have hd : d = 1 := by
      unfold dpt at h10
      exact Option.some.inj h10
    subst hd
    exact ⟨hs 0 (by omega), h9 0 (by omega)⟩
  | cons c l ih =>
    intro d st st' h5 h9 h9' hs h10
    obtain ⟨hc16, hcan⟩ := h5 c (by simp)
    have h5' : cok an l := fun c' hc' => h5 c' (by simp [hc'])
    unfold dpt at h10
    unfold evl
    have up3 : ∀ {i v v' d'}, ref3 v v' → d' ≤ d ∨ (d' ≤ d + 1 ∧ i = d) → ∀ k, k < d' → ref3 (upN st i v k) (upN st' i v' k) := by
      intro i v v' d' hv hd k hk
      unfold upN
      by_cases q : k = i
      · rw [if_pos q, if_pos q]; exact hv
      · rw [if_neg q, if_neg q]; exact hs k (by omega)
    by_cases q12 : c = 12
    · rw [if_pos q12] at h10 ⊢
      rw [if_pos q12]
      by_cases qd : 1 ≤ d
      · rw [if_pos qd] at h10
        refine ih d _ _ h5' (fun k hk => up_2 h9 (by omega) (by omega)) (fun k hk => up_2 h9' (by omega) (by omega)) (up3 ?_ (by omega)) h10
        have := hs (d - 1) (by omega)
        unfold ref3 at this ⊢
        omega
      · rw [if_neg qd] at h10
        cases h10
    · rw [if_neg q12] at h10 ⊢
      rw [if_neg q12]
      by_cases q13 : c < 13
      · rw [if_pos q13] at h10 ⊢
        rw [if_pos q13]
        by_cases qd : d < 32
        · rw [if_pos qd] at h10
          refine ih (d + 1) _ _ h5' (fun k hk => up_2 h9 (lfv_2 hg2 (by omega) hcan) (by omega)) (fun k hk => up_2 h9' (lfv_2 hg2' (by omega) hcan) (by omega)) (up3 ?_ (by omega)) h10
          unfold lfv
          by_cases q10 : c = 10
          · rw [if_pos q10, if_pos q10]; exact Or.inr rfl
          · rw [if_neg q10, if_neg q10]
            by_cases q11 : c = 11
            · rw [if_pos q11, if_pos q11]; exact Or.inr rfl
            · rw [if_neg q11, if_neg q11]; exact hr c (hcan (by omega))
        · rw [if_neg qd] at h10
          cases h10
      · rw [if_neg q13] at h10 ⊢
        rw [if_neg q13]
        by_cases qd : 2 ≤ d
        · rw [if_pos qd] at h10
          refine ih (d - 1) _ _ h5' (fun k hk => up_2 (d := d - 1) (fun k hk => h9 k (by omega)) (jn_2 (h9 _ (by omega)) (h9 _ (by omega))) (by omega)) (fun k hk => up_2 (d := d - 1) (fun k hk => h9' k (by omega)) (jn_2 (h9' _ (by omega)) (h9' _ (by omega))) (by omega)) (up3 ?_ (by omega)) h10
          have a1 := hs (d - 1) (by omega)
          have a2 := hs (d - 2) (by omega)
          have b1 := h9 (d - 1) (by omega)
          have b2 := h9 (d - 2) (by omega)
          have c1 := h9' (d - 1) (by omega)
          have c2 := h9' (d - 2) (by omega)
          unfold ref3 at a1 a2 ⊢
          unfold jn
          by_cases q : c = 13
          · rw [if_pos q, if_pos q]; omega
          · rw [if_neg q, if_neg q]
            by_cases q' : c = 15
            · rw [if_pos q', if_pos q']; omega
            · rw [if_neg q', if_neg q']; omega
        · rw [if_neg qd] at h10
          cases h10
/-- with all given nothing is open -/
theorem evl_full {g : Nat → Nat} {an : Nat} (hg : ∀ k, k < an → g k = 0 ∨ g k = 2) : ∀ (l : List Nat) (d : Nat) (st : Nat → Nat), cok an l → (∀ k, k < d → st k = 0 ∨ st k = 2) → dpt l d = some 1 → evl g l st d = 0 ∨ evl g l st d = 2 := by
  intro l
  induction l with
  | nil =>
    intro d st h5 h9 h10
    have hd : d = 1 := by
      unfold dpt at h10
      exact Option.some.inj h10
    subst hd
    exact h9 0 (by omega)
  | cons c l ih =>
    intro d st h5 h9 h10
    obtain ⟨hc16, hcan⟩ := h5 c (by simp)
    have h5' : cok an l := fun c' hc' => h5 c' (by simp [hc'])
    unfold dpt at h10
    unfold evl
    have up3 : ∀ {i v d'}, (v = 0 ∨ v = 2) → d' ≤ d ∨ (d' ≤ d + 1 ∧ i = d) → ∀ k, k < d' → (upN st i v k = 0 ∨ upN st i v k = 2) := by
      intro i v d' hv hd k hk
      unfold upN
      by_cases q : k = i
      · rw [if_pos q]; exact hv
      · rw [if_neg q]; exact h9 k (by omega)
    by_cases q12 : c = 12
    · rw [if_pos q12] at h10 ⊢
      by_cases qd : 1 ≤ d
      · rw [if_pos qd] at h10
        refine ih d _ h5' (up3 ?_ (by omega)) h10
        have := h9 (d - 1) (by omega)
        omega
      · rw [if_neg qd] at h10
        cases h10
    · rw [if_neg q12] at h10 ⊢
      by_cases q13 : c < 13
      · rw [if_pos q13] at h10 ⊢
        by_cases qd : d < 32
        · rw [if_pos qd] at h10
          refine ih (d + 1) _ h5' (up3 ?_ (by omega)) h10
          unfold lfv
          by_cases q10 : c = 10
          · rw [if_pos q10]; exact Or.inl rfl
          · rw [if_neg q10]
            by_cases q11 : c = 11
            · rw [if_pos q11]; exact Or.inr rfl
            · rw [if_neg q11]; exact hg c (hcan (by omega))
        · rw [if_neg qd] at h10
          cases h10
      · rw [if_neg q13] at h10 ⊢
        by_cases qd : 2 ≤ d
        · rw [if_pos qd] at h10
          refine ih (d - 1) _ h5' (up3 ?_ (by omega)) h10
          have a1 := h9 (d - 1) (by omega)
          have a2 := h9 (d - 2) (by omega)
          unfold jn
          by_cases q : c = 13
          · rw [if_pos q]; omega
          · rw [if_neg q]
            by_cases q' : c = 15
            · rw [if_pos q']; omega
            · rw [if_neg q']; omega
        · rw [if_neg qd] at h10
          cases h10
theorem jd_mono {g g' : Nat → Nat} {an : Nat} {cs : List Nat} (hf : Fcs an cs) (hg2 : ∀ k, k < an → g k ≤ 2) (hg2' : ∀ k, k < an → g' k ≤ 2) (hr : ∀ k, k < an → ref3 (g k) (g' k)) : ref3 (jd g cs) (jd g' cs) ∧ jd g cs ≤ 2 := evl_mono hg2 hg2' hr cs 0 _ _ hf.2.2.1 (fun k hk => by omega) (fun k hk => by omega) (fun k hk => by omega) hf.2.2.2
theorem jd_full {g : Nat → Nat} {an : Nat} {cs : List Nat} (hf : Fcs an cs) (hg : ∀ k, k < an → g k = 0 ∨ g k = 2) : jd g cs = 0 ∨ jd g cs = 2 := evl_full hg cs 0 _ hf.2.2.1 (fun k hk => by omega) hf.2.2.2
theorem jd_congr {g g' : Nat → Nat} {an : Nat} {cs : List Nat} (hf : Fcs an cs) (hg2 : ∀ k, k < an → g k ≤ 2) (he : ∀ k, k < an → g k = g' k) : jd g cs = jd g' cs := by
  have h1 := (jd_mono hf hg2 (fun k hk => by rw [← he k hk]; exact hg2 k hk) (fun k hk => Or.inr (he k hk))).1
  have h2 := (jd_mono hf (g := g') (g' := g) (fun k hk => by rw [← he k hk]; exact hg2 k hk) hg2 (fun k hk => Or.inr (he k hk).symm)).1
  unfold ref3 at h1 h2
  omega
