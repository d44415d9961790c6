/-! PURE: the heap's reads and writes -/
theorem gI_sI (h : xHp) (c k c' k' : Nat) (v : Int32) : gI (sI h c k v) c' k' = if c' = c then (if k' = k then v else gI h c k') else gI h c' k' := by
  unfold gI sI
  by_cases hc : c' = c
  · subst hc
    simp only [va_up, upd, if_true]
  · simp only [va_up, if_neg hc]
theorem gJ_sI (h : xHp) (c k c' k' : Nat) (v : Int32) : gJ (sI h c k v) c' k' = gJ h c' k' := rfl
theorem gI_sJ (h : xHp) (c k c' k' : Nat) (v : Int64) : gI (sJ h c k v) c' k' = gI h c' k' := rfl
theorem gJ_sJ (h : xHp) (c k c' k' : Nat) (v : Int64) : gJ (sJ h c k v) c' k' = if c' = c then (if k' = k then v else gJ h c k') else gJ h c' k' := by
  unfold gJ sJ
  by_cases hc : c' = c
  · subst hc
    simp only [va_up, vp_updL, if_true]
  · simp only [va_up, if_neg hc]
theorem t_sI (h : xHp) (c k : Nat) (v : Int32) : (sI h c k v).2.2 = h.2.2 := rfl
theorem t_sJ (h : xHp) (c k : Nat) (v : Int64) : (sJ h c k v).2.2 = h.2.2 := rfl
theorem gI_sT (h : xHp) (t c k : Nat) : gI (sT h t) c k = gI h c k := rfl
theorem gJ_sT (h : xHp) (t c k : Nat) : gJ (sT h t) c k = gJ h c k := rfl
theorem bnd_eq {α β : Type} (a : α) (f : α → β) : bnd a f = f a := rfl
theorem bnd2_some {α β γ : Type} (q : α × β) (f : α → β → Option γ) : bnd2 (some q) f = f q.1 q.2 := rfl
theorem grd_t {α : Type} {b : Bool} (h : b = true) (o : Option α) : grd b o = o := by subst h; rfl
theorem xin_nI {k n : Nat} (h : k < n) (hn : n < 2 ^ 31) : xin (nI k) n = true := decide_eq_true (show ¬ (nI k < 0 ∨ n ≤ (nI k).toNatClampNeg) from vp_in_nI h hn)
theorem nI_cl {n : Nat} (h : n < 2 ^ 31) : (nI n).toNatClampNeg = n := nI_clamp h
/-- nothing outside P has changed -/
def Fr (P : Nat → Nat → Bool) (h h' : xHp) : Prop := (∀ c k, P c k = false → gI h' c k = gI h c k ∧ gJ h' c k = gJ h c k) ∧ h'.2.2 = h.2.2
theorem Fr.rf {P : Nat → Nat → Bool} {h : xHp} : Fr P h h := ⟨fun _ _ _ => ⟨rfl, rfl⟩, rfl⟩
theorem Fr.trans {P : Nat → Nat → Bool} {h h1 h2 : xHp} (a : Fr P h h1) (b : Fr P h1 h2) : Fr P h h2 := ⟨fun c k hp => ⟨(b.1 c k hp).1.trans (a.1 c k hp).1, (b.1 c k hp).2.trans (a.1 c k hp).2⟩, b.2.trans a.2⟩
theorem Fr.mono {P Q : Nat → Nat → Bool} {h h' : xHp} (a : Fr P h h') (hq : ∀ c k, Q c k = false → P c k = false) : Fr Q h h' := ⟨fun c k hp => a.1 c k (hq c k hp), a.2⟩
theorem Fr.sI {P : Nat → Nat → Bool} (h : xHp) {c k : Nat} {v : Int32} (hp : P c k = true) : Fr P h (sI h c k v) := by
  refine ⟨fun c' k' hn => ⟨?_, rfl⟩, rfl⟩
  rw [gI_sI]
  by_cases hc : c' = c
  · subst hc
    rw [if_pos rfl]
    by_cases hk : k' = k
    · subst hk
      rw [hp] at hn
      cases hn
    · rw [if_neg hk]
  · rw [if_neg hc]
theorem Fr.sJ {P : Nat → Nat → Bool} (h : xHp) {c k : Nat} {v : Int64} (hp : P c k = true) : Fr P h (sJ h c k v) := by
  refine ⟨fun c' k' hn => ⟨rfl, ?_⟩, rfl⟩
  rw [gJ_sJ]
  by_cases hc : c' = c
  · subst hc
    rw [if_pos rfl]
    by_cases hk : k' = k
    · subst hk
      rw [hp] at hn
      cases hn
    · rw [if_neg hk]
  · rw [if_neg hc]
/-! isIn and may of the reference -/
theorem p_isIn (N : Nat) (a b c : Int64) (h : xHp) : F_X9_isIn N a b c h = some (if b ≤ a ∧ a ≤ c then 1 else 0, h) := by
  unfold F_X9_isIn F_X9_isIn_17
  simp only [lg_cmp_lt, lg_cmp_gt]
  by_cases h1 : a < b
  · rw [if_pos h1, if_neg (fun q => absurd q.1 (Int64.not_le.mpr h1))]
  · rw [if_neg h1]
    by_cases h2 : c < a
    · rw [if_pos h2, if_neg (fun q => absurd q.2 (Int64.not_le.mpr h2))]
    · rw [if_neg h2, if_pos ⟨Int64.not_lt.mp h1, Int64.not_lt.mp h2⟩]
theorem p_may (N : Nat) (a b c : Int32) (h : xHp) : F_X9_may N a b c h = some (if a = 0 ∨ b = 0 ∨ c = 0 then 0 else 1, sI h 51 0 (if a = 0 then 1 else if b = 0 then 2 else if c = 0 then 3 else 0)) := by
  unfold F_X9_may F_X9_may_26
  simp only [bnd_eq, gI_sI, if_true]
  by_cases ha : a = 0
  · simp [ha]
  · by_cases hb : b = 0
    · simp [ha, hb]
    · by_cases hc : c = 0
      · simp [ha, hb, hc]
      · simp [ha, hb, hc]
/-- an int between two others, as longs -/
theorem i64_le {a b : Int32} : a.toInt64 ≤ b.toInt64 ↔ a ≤ b := by
  rw [Int64.le_iff_toInt_le, Int32.le_iff_toInt_le, Int32.toInt_toInt64, Int32.toInt_toInt64]
theorem i64_0le {a : Int32} : (0 : Int64) ≤ a.toInt64 ↔ 0 ≤ a := by
  rw [show (0 : Int64) = (0 : Int32).toInt64 by decide]
  exact i64_le
/-! what class and reference hold alike -/
/-- constraints: n of them -/
def Rcon (n : Nat) (h : xHp) : Prop := n ≤ 60 ∧ gI h 1 3 = nI n ∧ gI h 51 1 = nI n ∧ ∀ k, k < n → gI h 2 k = gI h 52 k ∧ gI h 3 k = gI h 53 k ∧ gI h 4 k = gI h 54 k ∧ (∃ x, x < 16 ∧ gI h 52 k = nI x) ∧ (∃ y, y < 16 ∧ gI h 53 k = nI y) ∧ -1000000 ≤ (gI h 54 k).toInt ∧ (gI h 54 k).toInt ≤ 1000000
/-- a potential: the constraints can be true together -/
def Rpot (n : Nat) (h : xHp) : Prop := ∃ v : Nat → Int, ∀ k, k < n → v (gI h 52 k).toNatClampNeg ≤ v (gI h 53 k).toNatClampNeg + (gI h 54 k).toInt
/-- levels: L of them, at places lp 0 .. lp (L - 1), which don't fall, of n constraints -/
def Rlev (L n : Nat) (h : xHp) : Prop := L ≤ 20 ∧ gI h 0 2 = nI L ∧ gI h 51 6 = nI L ∧ ∃ lp : Nat → Nat, (∀ k, k < L → gI h 24 k = nI (lp k) ∧ gI h 56 k = nI (lp k) ∧ lp k ≤ n) ∧ ∀ j k, j ≤ k → k < L → lp j ≤ lp k
def Rcor (h : xHp) : Prop := ∃ m, m ≤ 16 ∧ gI h 0 4 = nI m ∧ gI h 51 8 = nI m ∧ ∀ k, k < m → gI h 25 k = gI h 57 k
theorem Fr.con {P : Nat → Nat → Bool} {h h' : xHp} (f : Fr P h h') (h1 : P 1 3 = false) (h2 : P 51 1 = false) (h3 : ∀ c k, c ∈ [2, 3, 4, 52, 53, 54] → P c k = false) {n : Nat} (r : Rcon n h) : Rcon n h' := by
  obtain ⟨r0, r1, r2, r3⟩ := r
  refine ⟨r0, by rw [(f.1 1 3 h1).1]; exact r1, by rw [(f.1 51 1 h2).1]; exact r2, fun k hk => ?_⟩
  rw [(f.1 2 k (h3 _ _ (by decide))).1, (f.1 3 k (h3 _ _ (by decide))).1, (f.1 4 k (h3 _ _ (by decide))).1, (f.1 52 k (h3 _ _ (by decide))).1, (f.1 53 k (h3 _ _ (by decide))).1, (f.1 54 k (h3 _ _ (by decide))).1]
  exact r3 k hk
theorem Fr.pot {P : Nat → Nat → Bool} {h h' : xHp} (f : Fr P h h') (h3 : ∀ c k, c ∈ [52, 53, 54] → P c k = false) {n : Nat} (r : Rpot n h) : Rpot n h' := by
  obtain ⟨v, hv⟩ := r
  refine ⟨v, fun k hk => ?_⟩
  rw [(f.1 52 k (h3 _ _ (by decide))).1, (f.1 53 k (h3 _ _ (by decide))).1, (f.1 54 k (h3 _ _ (by decide))).1]
  exact hv k hk
theorem Fr.lev {P : Nat → Nat → Bool} {h h' : xHp} (f : Fr P h h') (h1 : P 0 2 = false) (h2 : P 51 6 = false) (h3 : ∀ c k, c ∈ [24, 56] → P c k = false) {L n : Nat} (r : Rlev L n h) : Rlev L n h' := by
  obtain ⟨r0, r1, r2, lp, r3, r4⟩ := r
  refine ⟨r0, by rw [(f.1 0 2 h1).1]; exact r1, by rw [(f.1 51 6 h2).1]; exact r2, lp, fun k hk => ?_, r4⟩
  rw [(f.1 24 k (h3 _ _ (by decide))).1, (f.1 56 k (h3 _ _ (by decide))).1]
  exact r3 k hk
theorem Fr.cor {P : Nat → Nat → Bool} {h h' : xHp} (f : Fr P h h') (h1 : P 0 4 = false) (h2 : P 51 8 = false) (h3 : ∀ c k, c ∈ [25, 57] → P c k = false) (r : Rcor h) : Rcor h' := by
  obtain ⟨m, r0, r1, r2, r3⟩ := r
  refine ⟨m, r0, by rw [(f.1 0 4 h1).1]; exact r1, by rw [(f.1 51 8 h2).1]; exact r2, fun k hk => ?_⟩
  rw [(f.1 25 k (h3 _ _ (by decide))).1, (f.1 57 k (h3 _ _ (by decide))).1]
  exact r3 k hk
/-! push -/
theorem nI_lt20 {L : Nat} (h : L ≤ 20) : nI L < 20 ↔ L < 20 := by
  rw [show (20 : Int32) = nI 20 from rfl]
  exact nI_ltI (by omega) (by decide)
/-- the class's push, L levels and n constraints being there -/
theorem p_push8 (N : Nat) {L n : Nat} {h : xHp} (hc : gI h 1 3 = nI n) (hl : gI h 0 2 = nI L) (hL : L < 20) : F_X8_push N h = some (nI (L + 1), sI (sI h 24 L (nI n)) 0 2 (nI (L + 1))) := by
  unfold F_X8_push
  rw [hl, if_pos ((nI_lt20 (by omega)).mpr hL), grd_t (xin_nI hL (by decide)), bnd_eq, nI_cl (by omega), hc, bnd_eq]
  simp only [gI_sI, hl, nI_1, if_true, show (0 : Nat) ≠ 24 by decide, if_false]
theorem p_push8T (N : Nat) {L : Nat} {h : xHp} (hl : gI h 0 2 = nI L) (hL : L = 20) : F_X8_push_T N h = some (3, h) := by
  unfold F_X8_push_T
  rw [hl, if_neg (fun q => absurd ((nI_lt20 (by omega)).mp q) (by omega))]
theorem p_push9 (N : Nat) {L n : Nat} {h : xHp} (hc : gI h 51 1 = nI n) (hl : gI h 51 6 = nI L) (hL : L < 20) : F_X9_push N h = some (nI (L + 1), sI (sI (sI h 51 0 0) 56 L (nI n)) 51 6 (nI (L + 1))) := by
  unfold F_X9_push F_X9_push_15
  rw [hl, if_neg (fun q => absurd ((nI_lt20 (by omega)).mpr hL) (Int32.not_lt.mpr q))]
  simp only [p_may, bnd2_some]
  simp only [show ¬ ((1 : Int32) = 0) by decide, or_self, if_false, gI_sI, hl, hc, bnd_eq, if_true, show (6 : Nat) ≠ 0 by decide, show (1 : Nat) ≠ 0 by decide, show (51 : Nat) ≠ 56 by decide]
  rw [grd_t (xin_nI hL (by decide)), nI_cl (by omega), nI_1]
theorem p_push9T (N : Nat) {L : Nat} {h : xHp} (hl : gI h 51 6 = nI L) (hL : L = 20) : F_X9_push N h = some (0, sI h 51 0 1) := by
  unfold F_X9_push F_X9_push_15
  rw [hl, if_pos (by subst hL; decide)]
  simp [p_may, bnd2_some]
