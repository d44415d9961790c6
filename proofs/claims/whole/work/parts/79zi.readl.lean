/-! READ: the reference's units, what stands behind them, the whole read -/
theorem m_await (N : Nat) {w : Nat} {W : List Nat} {h : xHp} (hl : W.length < 400) (h37 : gI h 51 37 = nI W.length) (s : StkG 70 id W h) (h38 : gI h 51 38 = nI (opW (w :: W))) : ∃ h', F_X9_await1 N (nI w) h = some ((), h') ∧ FL [(51,37,38),(70,0,0)] h h' ∧ MSw (w :: W) h' := by
  unfold F_X9_await1
  have f1 : FL [(70,0,0)] h (sI h 70 W.length (nI w)) := FL.i h rfl
  rw [h37, grd_t (xin_nI hl (by decide)), nI_cl (by omega), bnd_eq, (f1.1 51 37 rfl).1, h37, nI_1, bnd_eq]
  have f2 : FL [(51,37,38)] (sI h 70 W.length (nI w)) (sI (sI h 70 W.length (nI w)) 51 37 (nI (W.length + 1))) := FL.i _ rfl
  have f12 : FL [(51,37,38),(70,0,0)] h (sI (sI h 70 W.length (nI w)) 51 37 (nI (W.length + 1))) := FL.cat f1 f2 rfl rfl
  exact ⟨_, rfl, f12, by rw [gI_sI, if_pos rfl, if_pos rfl]; rfl, StkG.ag (f2.ag rfl) (StkG.push (c := 70) (f := id) (w := w) s), (f12.1 51 38 rfl).1.trans h38⟩
theorem m_opened' (N : Nat) {tn t p o : Nat} {tb : Nat → Nat} {R : Nat × Nat × Sp} {h : xHp} (k : TK' tn tb t p h) (ho : gI h 51 38 = nI o) (hb : o ≤ 20) (hR : ¬ o < 20 → R.1 = 4 ∧ R.2.1 = Sk tn tb p) : ∃ h', F_X9_opened N h = some ((), h') ∧ FL [(51,21,23),(51,38,39)] h h' ∧ gI h' 51 38 = nI (o + 1) ∧ ((o < 20 ∧ TK' tn tb t p h') ∨ (¬ o < 20 ∧ Fal R h')) := by
  unfold F_X9_opened
  have f1 : FL [(51,38,39)] h (sI h 51 38 (nI (o + 1))) := FL.i h rfl
  have v : gI (sI h 51 38 (nI (o + 1))) 51 38 = nI (o + 1) := by rw [gI_sI, if_pos rfl, if_pos rfl]
  have k1 : TK' tn tb t p (sI h 51 38 (nI (o + 1))) := k.fr f1 rfl
  rw [ho, nI_1, bnd_eq, v, show (20 : Int32) = nI 20 from rfl]
  by_cases q : o < 20
  · rw [if_pos (nI_le (by omega) (by decide))]
    exact ⟨_, rfl, FL.sub f1 rfl, v, Or.inl ⟨q, k1⟩⟩
  · obtain ⟨h', e', f', r'⟩ := m_bad N (c := 4) k1 (hR q).1 (hR q).2 (by decide)
    rw [if_neg (nI_ge (by omega) (by omega)), show (4 : Int32) = nI 4 from rfl, e', bnd2_p]
    exact ⟨h', rfl, FL.cat f1 f' rfl rfl, (f'.1 51 38 rfl).1.trans v, Or.inr ⟨q, r'⟩⟩
def LUn : Lc := [(51,16,23),(51,30,31),(51,34,35),(51,37,39),(66,0,0),(67,0,0),(68,0,0),(69,0,0),(70,0,0)]
/-- before a unit -/
def UGd (tn : Nat) (tb : Nat → Nat) (R : Nat × Nat × Sp) (t : Nat) (h : xHp) : Prop := ∃ (f t' p : Nat) (S : Sp), f + t' = 102 ∧ t' ≤ 100 ∧ t < t' ∧ p ≤ tn ∧ R = Rd tn tb f t' p S ∧ S.1 = 0 ∧ Iv t' S ∧ TK' tn tb t' p h ∧ Mtap tn tb h ∧ MSw S.2.2.1 h ∧ MSc S.2.2.2 h
theorem Iv_len {t : Nat} {S : Sp} (iv : Iv t S) (ht : t ≤ 101) : S.2.2.1.length ≤ 62 ∧ S.2.2.2.1.length + S.2.2.1.length ≤ 235 := by
  obtain ⟨h1, h2, h3, h4, h5, h6, h7, h8, h9, h10⟩ := iv
  have lw := len_W h2
  have : (if tp S.2.2.1 = 3 then 2 else if tp S.2.2.1 = 4 then 1 else 0) ≤ 2 := by
    by_cases z : tp S.2.2.1 = 3
    · rw [if_pos z]; omega
    · rw [if_neg z]
      by_cases z2 : tp S.2.2.1 = 4
      · rw [if_pos z2]; omega
      · rw [if_neg z2]; omega
  omega
theorem m_unit (N : Nat) (hN : 7000 ≤ N) {tn f t p an : Nat} {tb : Nat → Nat} {X : Nat × Nat × Nat × Bool} {W cs : List Nat} {A : Ed} {h : xHp} (hT : Twf 400 tn tb) (c : Mtap tn tb h) (hp : p ≤ tn) (k : TK' tn tb t p h) (ht : t ≤ 100) (hf : f + 1 + t = 102) (iv : Iv t (0, X, W, cs, an, A)) (mw : MSw W h) (mc : MSc (cs, an, A) h) : ∃ u h', F_X9_unit N h = some (u, h') ∧ FL LUn h h' ∧ (Fal (Rd tn tb (f + 1) t p (0, X, W, cs, an, A)) h' ∨ (u = 0 ∧ UGd tn tb (Rd tn tb (f + 1) t p (0, X, W, cs, an, A)) t h') ∨ (u = 1 ∧ DGd tn tb (Rd tn tb (f + 1) t p (0, X, W, cs, an, A)) t W h')) := by
  obtain ⟨⟨b1, b2, b3, b4, b5⟩, b6⟩ := Tk_b hT hp
  obtain ⟨lw, lc⟩ := Iv_len iv (by omega)
  dsimp only at lw lc
  have iv' := iv
  obtain ⟨h1, h2, h3, h4, h5, h6, h7, h8, h9, h10⟩ := iv'
  dsimp only at h2 h3
  unfold F_X9_unit F_X9_unit_72
  -- a mark
  have opng : ∀ w, (w = 1 ∨ w = 2) → ((Tk tn tb p).1 = if w = 1 then 40 else 126) → ∃ u h', F_X9_unit_18 N h = some (u, h') ∧ FL LUn h h' ∧ (Fal (Rd tn tb (f + 1) t p (0, X, W, cs, an, A)) h' ∨ (u = 0 ∧ UGd tn tb (Rd tn tb (f + 1) t p (0, X, W, cs, an, A)) t h') ∨ (u = 1 ∧ DGd tn tb (Rd tn tb (f + 1) t p (0, X, W, cs, an, A)) t W h')) := by
    intro w hw hk
    have k40 : (Tk tn tb p).1 = 40 ∨ (Tk tn tb p).1 = 126 := by
      rcases hw with rfl | rfl
      · left; exact hk
      · right; exact hk
    have wk : (if (Tk tn tb p).1 = 40 then 1 else 2) = w := by
      rcases hw with rfl | rfl
      · have hk' : (Tk tn tb p).1 = 40 := hk
        rw [if_pos hk']
      · rw [if_neg (by rw [hk]; decide)]
    have es : stp (Tk tn tb p).1 (Tk tn tb p).2.1 (0, X, W, cs, an, A) = if opW W < 20 then (0, (0, X, w :: W, cs, an, A)) else (4, (0, X, W, cs, an, A)) := by
      unfold stp
      dsimp only
      rw [if_neg k.2.2.2.1, if_pos rfl, if_neg (by omega), if_pos k40, wk]
    have n1 : (Tk tn tb p).1 ≠ 261 := by omega
    obtain ⟨h1', e1, f1, v1, r1⟩ := m_opened' N (R := Rd tn tb (f + 1) t p (0, X, W, cs, an, A)) k mw.2.2 h3 (fun z => by
      rw [if_neg z] at es
      rw [rd_bad n1 (by rw [es]) (show (4 : Nat) ≠ 0 by decide)]
      exact ⟨rfl, rfl⟩)
    unfold F_X9_unit_18 F_X9_unit_37 F_X9_unit_51
    rw [e1, bnd2_p]
    have sgn : ∃ b : Int32, F_X9_sign N 126 h1' = some (b, h1') ∧ (b = 0 → w = 1) ∧ (¬ b = 0 → w = 2) := by
      have t16 : gI h1' 51 16 = nI (tkc (Tk tn tb p).1) := (f1.1 51 16 rfl).1.trans k.2.2.2.2.1
      have t17 : gI h1' 51 17 = nI (Tk tn tb p).1 := by
        rw [(f1.1 51 17 rfl).1, k.2.2.2.2.2.1 n1]; unfold tkv; rw [if_neg (by omega)]; unfold sg; rw [if_neg (by omega), if_neg (by omega), if_neg (by omega)]
      have t3 : tkc (Tk tn tb p).1 = 3 := (tkc_3 b5).mpr (by omega)
      unfold F_X9_sign F_X9_sign_20
      rw [t16, t3, if_pos (show nI 3 = 3 from rfl), t17, hk]
      rcases hw with rfl | rfl
      · rw [if_pos rfl, if_neg (by decide)]; exact ⟨0, rfl, fun _ => rfl, fun z => absurd rfl z⟩
      · rw [if_neg (show ¬ (2 : Nat) = 1 by decide), if_pos (by decide)]; exact ⟨1, rfl, fun z => absurd z (by decide), fun _ => rfl⟩
    obtain ⟨b, eb, eb1, eb2⟩ := sgn
    rw [eb, bnd2_p]
    have op : opW (w :: W) = opW W + 1 := by show opW W + (if w = 3 ∨ w = 4 then 0 else 1) = _; rw [if_neg (by omega)]
    obtain ⟨h2', e2, f2, m2⟩ := m_await N (w := w) (show W.length < 400 by omega) ((f1.1 51 37 rfl).1.trans mw.1) (mw.2.1.ag (f1.ag rfl)) (by rw [op]; exact v1)
    have f12 : FL LUn h h2' := FL.cat f1 f2 rfl rfl
    have e2' : (if b = 0 then bnd2 (F_X9_await1 N 1 h1') (fun r1 h2 => if gI h2 51 21 = 0 then bnd2 (F_X9_next N h2) fun r3 h4 => some ((0 : Int32), h4) else some (0, h2)) else bnd2 (F_X9_await1 N 2 h1') (fun r1 h2 => if gI h2 51 21 = 0 then bnd2 (F_X9_next N h2) fun r3 h4 => some ((0 : Int32), h4) else some (0, h2))) = if gI h2' 51 21 = 0 then bnd2 (F_X9_next N h2') fun r3 h4 => some ((0 : Int32), h4) else some (0, h2') := by
      by_cases z : b = 0
      · have w1 := eb1 z
        subst w1
        rw [if_pos z, show (1 : Int32) = nI 1 from rfl, e2, bnd2_p]
      · have w2 := eb2 z
        subst w2
        rw [if_neg z, show (2 : Int32) = nI 2 from rfl, e2, bnd2_p]
    rw [e2']
    rcases r1 with ⟨a1, a2⟩ | ⟨a1, a2⟩
    · rw [if_pos a1] at es
      have k2 := a2.fr f2 rfl
      have c2 := c.ag (f12.ag rfl)
      rw [if_pos k2.2.2.2.2.2.2]
      obtain ⟨h3', e3, f3, r3⟩ := m_adv N hN (f := f) hT c2 hp k2 n1 es ht hf iv
      rw [e3, bnd2_p]
      refine ⟨0, h3', rfl, FL.cat f12 f3 rfl rfl, ?_⟩
      rcases r3 with r3 | ⟨r4, r5, r6, r7, r8⟩
      · exact Or.inl r3
      · have mc3 : MSc (cs, an, A) h3' := MSc.ag (f3.ag rfl) (MSc.ag (f2.ag rfl) (mc.ag (f1.ag rfl)))
        exact Or.inr (Or.inl ⟨rfl, f, t + 1, (Tk tn tb p).2.2, (0, X, w :: W, cs, an, A), by omega, by omega, by omega, r8, r5, rfl, r7, r6, c2.ag (f3.ag rfl), m2.ag (f3.ag rfl), mc3⟩)
    · have r2 := a2.fr f2 rfl
      rw [if_neg r2.ne]
      exact ⟨0, h2', rfl, f12, Or.inl r2⟩
  rw [show (126 : Int32) = nI (sg 126) from rfl, show (40 : Int32) = nI (sg 40) from rfl, m_sign N hT hp k (by decide), bnd2_p]
  by_cases q1 : (Tk tn tb p).1 = 126
  · rw [if_pos q1, if_neg (show ¬ (1 : Int32) = 0 by decide)]
    exact opng 2 (Or.inr rfl) q1
  · rw [if_neg q1, if_pos (show (0 : Int32) = 0 from rfl), m_sign N hT hp k (by decide), bnd2_p]
    by_cases q2 : (Tk tn tb p).1 = 40
    · rw [if_pos q2, if_neg (show ¬ (1 : Int32) = 0 by decide)]
      exact opng 1 (Or.inl rfl) q2
    · rw [if_neg q2, if_pos (show (0 : Int32) = 0 from rfl)]
      have is1 : (gI h 51 16 = 1) ↔ (Tk tn tb p).1 = 259 := m_tk1 k (m := 1) (by decide) tkc_1
      simp only [is1]
      by_cases q3 : (Tk tn tb p).1 = 259
      · obtain ⟨h', e', f', r'⟩ := m_diff N hN hT c hp k q3 ht hf iv mw mc
        rw [if_pos q3, if_pos k.2.2.2.2.2.2, e', bnd2_p]
        refine ⟨1, h', rfl, FL.sub f' rfl, ?_⟩
        rcases r' with r' | r'
        · exact Or.inl r'
        · exact Or.inr (Or.inr ⟨rfl, r'⟩)
      · rw [if_neg q3]
        have eR : (Rd tn tb (f + 1) t p (0, X, W, cs, an, A)).1 = 2 ∧ (Rd tn tb (f + 1) t p (0, X, W, cs, an, A)).2.1 = Sk tn tb p := by
          by_cases z : (Tk tn tb p).1 = 261
          · rw [rd_endbad z (fun w => absurd w.1 (show ¬ (0 : Nat) = 6 by decide))]; exact ⟨rfl, rfl⟩
          · have es : (stp (Tk tn tb p).1 (Tk tn tb p).2.1 (0, X, W, cs, an, A)).1 = 2 := by
              unfold stp
              dsimp only
              rw [if_neg k.2.2.2.1, if_pos rfl, if_neg q3, if_neg (by omega)]
            rw [rd_bad z es (by decide)]; exact ⟨rfl, rfl⟩
        obtain ⟨h', e', f', r'⟩ := m_bad N (c := 2) k eR.1 eR.2 (by decide)
        rw [show (2 : Int32) = nI 2 from rfl, e', bnd2_p]
        exact ⟨1, h', rfl, FL.sub f' rfl, Or.inl r'⟩
/-- the text is through, with no fault -/
def EGd (R : Nat × Nat × Sp) (h : xHp) : Prop := R.1 = 0 ∧ gI h 51 21 = 0 ∧ gI h 51 39 = 1 ∧ MSc R.2.2.2.2.2 h
def LBh : Lc := (51,39,40) :: LUn
theorem bs_2 (N : Nat) {z : Nat} {x1 : Int32} {h : xHp} (h0 : ¬ gI h 51 21 = 0) : xit (F_X9_behindUnit_2_b N) (fun _ _ => none) (z + 1) x1 h = some ((), h) := by
  show F_X9_behindUnit_2_b N (xit (F_X9_behindUnit_2_b N) (fun _ _ => none) z) x1 h = _
  generalize xit (F_X9_behindUnit_2_b N) (fun _ _ => none) z = K
  unfold F_X9_behindUnit_2_b
  rw [if_neg h0]
  exact ite_same rfl rfl
theorem bs_0 (N : Nat) {z : Nat} {h : xHp} : xit (F_X9_behindUnit_2_b N) (fun _ _ => none) (z + 1) 0 h = some ((), h) := by
  show F_X9_behindUnit_2_b N (xit (F_X9_behindUnit_2_b N) (fun _ _ => none) z) 0 h = _
  generalize xit (F_X9_behindUnit_2_b N) (fun _ _ => none) z = K
  unfold F_X9_behindUnit_2_b
  rw [if_pos rfl]
theorem brW_len {W : List Nat} (h : wfW W) (h1 : tp W ≤ 1 ∨ 5 < tp W) : brW W = 0 ↔ W.length = 0 := by
  constructor
  · intro z; rw [brW_nil h h1 z]; rfl
  · intro z
    have : W = [] := List.length_eq_zero_iff.mp z
    rw [this]; rfl
theorem m_behind (N : Nat) (hN : 7000 ≤ N) {tn : Nat} {tb : Nat → Nat} {X : Nat × Nat × Nat × Bool} {W : List Nat} (hT : Twf 400 tn tb) : ∀ (f z t p : Nat) (W : List Nat) (C : Cp) (h : xHp), f + t = 102 → f < z → t ≤ 100 → p ≤ tn → wfW W → Iv t (6, X, (popTo 3 W C.1).1, (popTo 3 W C.1).2, C.2) → Mtap tn tb h → TK' tn tb t p h → MSw W h → MSc C h → gI h 51 39 = 0 → ∃ h', xit (F_X9_behindUnit_2_b N) (fun _ _ => none) z 1 h = some ((), h') ∧ FL LBh h h' ∧ (Fal (Rd tn tb f t p (6, X, (popTo 3 W C.1).1, (popTo 3 W C.1).2, C.2)) h' ∨ EGd (Rd tn tb f t p (6, X, (popTo 3 W C.1).1, (popTo 3 W C.1).2, C.2)) h' ∨ (gI h' 51 39 = 0 ∧ UGd tn tb (Rd tn tb f t p (6, X, (popTo 3 W C.1).1, (popTo 3 W C.1).2, C.2)) t h')) := by
  intro f
  induction f with
  | zero => intro z t p W C h h1 h2 h3; omega
  | succ f ih =>
    intro z t p W C h hf hz ht hp hw iv c k mw mc h39
    obtain ⟨z, rfl⟩ : ∃ z', z = z' + 2 := ⟨z - 2, by omega⟩
    obtain ⟨cs, an, A⟩ := C
    dsimp only at iv ⊢
    obtain ⟨⟨b1, b2, b3, b4, b5⟩, b6⟩ := Tk_b hT hp
    obtain ⟨lw, lc⟩ := Iv_len iv (by omega)
    dsimp only at lw lc
    have p3 := popTo_ok (an := an) (m := 3) W cs hw
    have wl : W.length ≤ 235 := by
      have := p3.2.2.1
      omega
    have wc : cs.length + W.length ≤ 235 := by have := p3.2.2.1; omega
    show ∃ h', F_X9_behindUnit_2_b N (xit (F_X9_behindUnit_2_b N) (fun _ _ => none) (z + 1)) 1 h = _ ∧ _
    obtain ⟨h1, e1, f1, m1, d1⟩ := m_doneTo N (by omega) (mo := 2) (by decide) hw (by omega) (by omega) mw mc
    have p2 := popTo_ok (an := an) (m := 2) W cs hw
    have k1 := k.fr f1 rfl
    obtain ⟨u, u1, u2, u3⟩ := m_sgn hT hp k1
    have e0 : F_X9_behindUnit_2_b N (xit (F_X9_behindUnit_2_b N) (fun _ _ => none) (z + 1)) 1 h = F_X9_behindUnit_34 N (xit (F_X9_behindUnit_2_b N) (fun _ _ => none) (z + 1)) 1 (nI u) h1 := by
      generalize xit (F_X9_behindUnit_2_b N) (fun _ _ => none) (z + 1) = K
      unfold F_X9_behindUnit_2_b
      rw [if_neg (by decide), if_pos k.2.2.2.2.2.2, show (2 : Int32) = nI 2 from rfl, e1, bnd2_p, ← u2]
      by_cases q : gI h1 51 16 = 3
      · rw [if_pos q, if_pos q]
      · rw [if_neg q, if_neg q]
    rw [e0]
    have e38 : (nI u = 38) ↔ (Tk tn tb p).1 = 38 := by rw [show (38 : Int32) = nI (sg 38) from rfl, nI_eq (by omega) (by decide)]; exact u3 38 (by decide)
    have e124 : (nI u = 124) ↔ (Tk tn tb p).1 = 124 := by rw [show (124 : Int32) = nI (sg 124) from rfl, nI_eq (by omega) (by decide)]; exact u3 124 (by decide)
    have e245 : (nI u = 245) ↔ (Tk tn tb p).1 = 258 := by rw [show (245 : Int32) = nI (sg 258) from rfl, nI_eq (by omega) (by decide)]; exact u3 258 (by decide)
    have e41 : (nI u = 41) ↔ (Tk tn tb p).1 = 41 := by rw [show (41 : Int32) = nI (sg 41) from rfl, nI_eq (by omega) (by decide)]; exact u3 41 (by decide)
    have c1 := c.ag (f1.ag rfl)
    -- done to a rank from here
    have dt : ∀ m, 2 ≤ m → m ≤ 5 → ∃ h2, F_X9_doneTo N (nI m) h1 = some ((), h2) ∧ FL LWa h1 h2 ∧ MSw (popTo m W cs).1 h2 ∧ MSc ((popTo m W cs).2, an, A) h2 := by
      intro m hm1 hm2
      have l2 := popTo_len (m := 2) W cs
      have q3 := p2.2.2.1
      obtain ⟨h2, e2, f2, m2, d2⟩ := m_doneTo N (by omega) (mo := m) hm2 p2.1 (by omega) (by omega) m1 d1
      rw [popTo_popTo hm1] at m2 d2
      exact ⟨h2, e2, f2, m2, d2⟩
    have hst : ∀ m, 3 ≤ m → popTo m (popTo 3 W cs).1 (popTo 3 W cs).2 = popTo m W cs := fun m hm => popTo_popTo hm W cs
    -- a sign that waits
    have push : ∀ (w : Nat) (hx : xHp) (V ds : List Nat), 3 ≤ w ∧ w ≤ 5 → (Tk tn tb p).1 ≠ 261 → V.length ≤ 235 → ds.length + V.length ≤ 300 → FL LBh h hx → gI hx 51 39 = 0 → gI hx 51 37 = nI V.length → StkG 70 id V hx → gI hx 51 38 = nI (opW (w :: V)) → MSc (ds, an, A) hx → ((stp (Tk tn tb p).1 (Tk tn tb p).2.1 (6, X, (popTo 3 W cs).1, (popTo 3 W cs).2, an, A) = (0, (0, X, w :: V, ds, an, A)) ∧ TK' tn tb t p hx) ∨ Fal (Rd tn tb (f + 1) t p (6, X, (popTo 3 W cs).1, (popTo 3 W cs).2, an, A)) hx) → ∃ h', F_X9_behindUnit_112 N (xit (F_X9_behindUnit_2_b N) (fun _ _ => none) (z + 1)) (nI w) hx = some ((), h') ∧ FL LBh h h' ∧ (Fal (Rd tn tb (f + 1) t p (6, X, (popTo 3 W cs).1, (popTo 3 W cs).2, an, A)) h' ∨ EGd (Rd tn tb (f + 1) t p (6, X, (popTo 3 W cs).1, (popTo 3 W cs).2, an, A)) h' ∨ (gI h' 51 39 = 0 ∧ UGd tn tb (Rd tn tb (f + 1) t p (6, X, (popTo 3 W cs).1, (popTo 3 W cs).2, an, A)) t h')) := by
      intro w hx V ds hw5 n1 vl vc fx x39 x37 xst x38 xmc rr
      obtain ⟨h2, e2, f2, m2⟩ := m_await N (w := w) (show V.length < 400 by omega) x37 xst x38
      unfold F_X9_behindUnit_112 F_X9_behindUnit_126 F_X9_behindUnit_202
      rw [e2, bnd2_p]
      have f02 : FL LBh h h2 := FL.cat fx f2 rfl rfl
      have y39 : gI h2 51 39 = 0 := (f2.1 51 39 rfl).1.trans x39
      rcases rr with ⟨es, kx⟩ | rr
      · have k2 := kx.fr f2 rfl
        rw [if_pos k2.2.2.2.2.2.2]
        obtain ⟨h3, e3, f3, r3⟩ := m_adv N hN (f := f) hT (c.ag (f02.ag rfl)) hp k2 n1 es ht (by omega) iv
        rw [e3, bnd2_p, bs_0]
        refine ⟨h3, rfl, FL.cat f02 f3 rfl rfl, ?_⟩
        rcases r3 with r3 | ⟨r4, r5, r6, r7, r8⟩
        · exact Or.inl r3
        · exact Or.inr (Or.inr ⟨(f3.1 51 39 rfl).1.trans y39, f, t + 1, (Tk tn tb p).2.2, (0, X, w :: V, ds, an, A), by omega, by omega, by omega, r8, r5, rfl, r7, r6, (c.ag (f02.ag rfl)).ag (f3.ag rfl), m2.ag (f3.ag rfl), MSc.ag (f3.ag rfl) (xmc.ag (f2.ag rfl))⟩)
      · have r2 := rr.fr f2 rfl
        rw [if_neg r2.ne, bs_0]
        exact ⟨h2, rfl, f02, Or.inl r2⟩
    have n262 := k.2.2.2.1
    unfold F_X9_behindUnit_34 F_X9_behindUnit_54 F_X9_behindUnit_76 F_X9_behindUnit_90
    simp only [e38, e124, e245, e41]
    have z39 : gI h1 51 39 = 0 := (f1.1 51 39 rfl).1.trans h39
    by_cases q38 : (Tk tn tb p).1 = 38
    · obtain ⟨h2, e2, f2, m2, d2⟩ := dt 3 (by decide) (by decide)
      have n258 : ¬ (Tk tn tb p).1 = 258 := by omega
      rw [if_pos q38, if_pos q38, show (3 : Int32) = nI 3 from rfl, e2, bnd2_p, if_neg n258, if_pos q38]
      have f12 : FL LBh h h2 := FL.cat f1 f2 rfl rfl
      exact push 3 h2 (popTo 3 W cs).1 (popTo 3 W cs).2 (by decide) (by omega) (by omega) (by omega) f12 ((f2.1 51 39 rfl).1.trans z39) m2.1 m2.2.1 m2.2.2 d2 (Or.inl ⟨by
        unfold stp
        dsimp only
        rw [if_neg n262, if_neg (by decide), if_neg (by decide), if_neg (by decide), if_pos rfl, if_pos q38], k1.fr f2 rfl⟩)
    · rw [if_neg q38]
      by_cases q124 : (Tk tn tb p).1 = 124
      · obtain ⟨h2, e2, f2, m2, d2⟩ := dt 4 (by decide) (by decide)
        have n258 : ¬ (Tk tn tb p).1 = 258 := by omega
        have pl := popTo_len (m := 4) W cs
        have p4 := (popTo_ok (an := an) (m := 4) W cs hw).2.2.1
        rw [if_pos q124, if_neg q38, if_pos q124, show (4 : Int32) = nI 4 from rfl, e2, bnd2_p, if_neg n258, if_neg q38, if_pos q124]
        have f12 : FL LBh h h2 := FL.cat f1 f2 rfl rfl
        exact push 4 h2 (popTo 4 W cs).1 (popTo 4 W cs).2 (by decide) (by omega) (by omega) (by omega) f12 ((f2.1 51 39 rfl).1.trans z39) m2.1 m2.2.1 m2.2.2 d2 (Or.inl ⟨by
          unfold stp
          dsimp only
          rw [if_neg n262, if_neg (by decide), if_neg (by decide), if_neg (by decide), if_pos rfl, if_neg q38, if_pos q124, hst 4 (by decide)], k1.fr f2 rfl⟩)
      · rw [if_neg q124]
        by_cases q258 : (Tk tn tb p).1 = 258
        · obtain ⟨h2, e2, f2, m2, d2⟩ := dt 4 (by decide) (by decide)
          have pl := popTo_len (m := 4) W cs
          have p4 := popTo_ok (an := an) (m := 4) W cs hw
          have o20 : opW (popTo 4 W cs).1 ≤ 20 := by
            have i3 : opW (popTo 3 W cs).1 ≤ 20 := iv.2.2.1
            have := (popTo_ok (an := an) (m := 4) (popTo 3 W cs).1 (popTo 3 W cs).2 p3.1).2.2.2.1
            rw [hst 4 (by decide)] at this
            omega
          have es : stp (Tk tn tb p).1 (Tk tn tb p).2.1 (6, X, (popTo 3 W cs).1, (popTo 3 W cs).2, an, A) = if opW (popTo 4 W cs).1 < 20 then (0, (0, X, 5 :: (popTo 4 W cs).1, (popTo 4 W cs).2, an, A)) else (4, (6, X, (popTo 3 W cs).1, (popTo 3 W cs).2, an, A)) := by
            unfold stp
            dsimp only
            rw [if_neg n262, if_neg (by decide), if_neg (by decide), if_neg (by decide), if_pos rfl, if_neg q38, if_neg q124, if_pos q258, hst 4 (by decide)]
          obtain ⟨h3, e3, f3, v3, r3⟩ := m_opened' N (R := Rd tn tb (f + 1) t p (6, X, (popTo 3 W cs).1, (popTo 3 W cs).2, an, A)) (k1.fr f2 rfl) m2.2.2 o20 (fun w => by
            rw [if_neg w] at es
            rw [rd_bad (by omega) (by rw [es]) (show (4 : Nat) ≠ 0 by decide)]
            exact ⟨rfl, rfl⟩)
          rw [if_pos q258, if_neg q38, if_neg q124, show (4 : Int32) = nI 4 from rfl, e2, bnd2_p, if_pos q258, e3, bnd2_p, if_neg q38, if_neg q124]
          have f13 : FL LBh h h3 := FL.cat (FL.cat f1 f2 rfl rfl : FL LBh h h2) f3 rfl rfl
          refine push 5 h3 (popTo 4 W cs).1 (popTo 4 W cs).2 (by decide) (by omega) (by omega) (by have := p4.2.2.1; omega) f13 ((f3.1 51 39 rfl).1.trans ((f2.1 51 39 rfl).1.trans z39)) ((f3.1 51 37 rfl).1.trans m2.1) (m2.2.1.ag (f3.ag rfl)) v3 (d2.ag (f3.ag rfl)) ?_
          rcases r3 with ⟨a1, a2⟩ | ⟨a1, a2⟩
          · rw [if_pos a1] at es
            exact Or.inl ⟨es, a2⟩
          · exact Or.inr a2
        · rw [if_neg q258]
          obtain ⟨h2, e2, f2, m2, d2⟩ := dt 5 (by decide) (by decide)
          have pl := popTo_len (m := 5) W cs
          have p5 := popTo_ok (an := an) (m := 5) W cs hw
          have br5 : brW (popTo 3 W cs).1 = brW (popTo 5 W cs).1 := by rw [p3.2.2.2.2.2.1, p5.2.2.2.2.2.1]
          have bl := brW_len p5.1 p5.2.1
          rw [show (5 : Int32) = nI 5 from rfl, e2, bnd2_p]
          have f12 : FL LBh h h2 := FL.cat f1 f2 rfl rfl
          have k2 := k1.fr f2 rfl
          have y39 : gI h2 51 39 = 0 := (f2.1 51 39 rfl).1.trans z39
          have c2 := c.ag (f12.ag rfl)
          -- the text ends here
          have fin : ((Tk tn tb p).1 = 41 → (popTo 5 W cs).1.length = 0) → ∃ h', F_X9_behindUnit_176 N (xit (F_X9_behindUnit_2_b N) (fun _ _ => none) (z + 1)) h2 = some ((), h') ∧ FL LBh h h' ∧ (Fal (Rd tn tb (f + 1) t p (6, X, (popTo 3 W cs).1, (popTo 3 W cs).2, an, A)) h' ∨ EGd (Rd tn tb (f + 1) t p (6, X, (popTo 3 W cs).1, (popTo 3 W cs).2, an, A)) h' ∨ (gI h' 51 39 = 0 ∧ UGd tn tb (Rd tn tb (f + 1) t p (6, X, (popTo 3 W cs).1, (popTo 3 W cs).2, an, A)) t h')) := by
            intro hq
            have is0 : (gI h2 51 16 = 0) ↔ (Tk tn tb p).1 = 261 := m_tk1 k2 (m := 0) (by decide) tkc_0
            unfold F_X9_behindUnit_176 F_X9_behindUnit_190 F_X9_behindUnit_195 F_X9_behindUnit_202
            simp only [is0, m2.1]
            have bad : (Rd tn tb (f + 1) t p (6, X, (popTo 3 W cs).1, (popTo 3 W cs).2, an, A)).1 = 2 ∧ (Rd tn tb (f + 1) t p (6, X, (popTo 3 W cs).1, (popTo 3 W cs).2, an, A)).2.1 = Sk tn tb p → ∃ h', (bnd2 (F_X9_fail N 2 h2) fun r1 h2 => bnd (sI h2 51 39 1) fun h1 => xit (F_X9_behindUnit_2_b N) (fun _ _ => none) (z + 1) 0 h1) = some ((), h') ∧ FL LBh h h' ∧ (Fal (Rd tn tb (f + 1) t p (6, X, (popTo 3 W cs).1, (popTo 3 W cs).2, an, A)) h' ∨ EGd (Rd tn tb (f + 1) t p (6, X, (popTo 3 W cs).1, (popTo 3 W cs).2, an, A)) h' ∨ (gI h' 51 39 = 0 ∧ UGd tn tb (Rd tn tb (f + 1) t p (6, X, (popTo 3 W cs).1, (popTo 3 W cs).2, an, A)) t h')) := by
              intro eR
              obtain ⟨h3, e3, f3, r3⟩ := m_bad N (c := 2) k2 eR.1 eR.2 (by decide)
              rw [show (2 : Int32) = nI 2 from rfl, e3, bnd2_p, bnd_eq, bs_0]
              have f4 : FL [(51,39,40)] h3 (sI h3 51 39 1) := FL.i h3 rfl
              exact ⟨_, rfl, FL.cat f12 (FL.cat f3 f4 rfl rfl : FL LBh h2 _) rfl rfl, Or.inl (r3.fr f4 rfl)⟩
            by_cases z1 : (Tk tn tb p).1 = 261
            · rw [if_pos z1]
              by_cases z2 : (popTo 5 W cs).1.length = 0
              · rw [if_pos (by rw [z2]; decide), bnd_eq, bs_0]
                have f4 : FL [(51,39,40)] h2 (sI h2 51 39 1) := FL.i h2 rfl
                refine ⟨_, rfl, FL.cat f12 f4 rfl rfl, Or.inr (Or.inl ?_)⟩
                have cnd : (6 : Nat) = 6 ∧ brW (popTo 3 W cs).1 = 0 := ⟨rfl, by rw [br5]; exact bl.mpr z2⟩
                rw [Rd_eq, if_pos z1, if_pos cnd]
                refine ⟨rfl, by rw [(f4.1 51 21 rfl).1]; exact k2.2.2.2.2.2.2, by rw [gI_sI, if_pos rfl, if_pos rfl], ?_⟩
                show MSc ((popTo 5 (popTo 3 W cs).1 (popTo 3 W cs).2).2, an, A) _
                rw [hst 5 (by decide)]
                exact d2.ag (f4.ag rfl)
              · rw [if_neg (nI_nle (by omega) (by omega))]
                apply bad
                rw [rd_endbad z1 (fun w => z2 (bl.mp (by rw [← br5]; exact w.2)))]
                exact ⟨rfl, rfl⟩
            · rw [if_neg z1]
              apply bad
              have es : (stp (Tk tn tb p).1 (Tk tn tb p).2.1 (6, X, (popTo 3 W cs).1, (popTo 3 W cs).2, an, A)).1 = 2 := by
                unfold stp
                dsimp only
                rw [if_neg n262, if_neg (by decide), if_neg (by decide), if_neg (by decide), if_pos rfl, if_neg q38, if_neg q124, if_neg q258]
                by_cases z41 : (Tk tn tb p).1 = 41
                · rw [if_pos z41, if_pos (by rw [br5]; exact bl.mpr (hq z41))]
                · rw [if_neg z41]
              rw [rd_bad z1 es (by decide)]
              exact ⟨rfl, rfl⟩
          by_cases q41 : (Tk tn tb p).1 = 41
          · rw [if_pos q41, m2.1]
            by_cases z2 : (popTo 5 W cs).1.length = 0
            · rw [if_pos (by rw [z2]; decide)]
              exact fin (fun _ => z2)
            · rw [if_neg (nI_nle (by omega) (by omega))]
              unfold F_X9_behindUnit_202
              have b0 : ¬ brW (popTo 5 W cs).1 = 0 := fun w => z2 (bl.mp w)
              have es : stp (Tk tn tb p).1 (Tk tn tb p).2.1 (6, X, (popTo 3 W cs).1, (popTo 3 W cs).2, an, A) = (0, (6, X, (popTo 3 (popTo 5 W cs).1.tail (popTo 5 W cs).2).1, (popTo 3 (popTo 5 W cs).1.tail (popTo 5 W cs).2).2, an, A)) := by
                unfold stp
                dsimp only
                rw [if_neg n262, if_neg (by decide), if_neg (by decide), if_neg (by decide), if_pos rfl, if_neg q38, if_neg q124, if_neg q258, if_pos q41, if_neg (by rw [br5]; exact b0), hst 5 (by decide)]
              have p51 := p5.1
              have p52 := p5.2.1
              generalize (popTo 5 W cs).1 = V at m2 es z2 p51 p52 pl
              generalize (popTo 5 W cs).2 = ds at d2 es
              cases V with
              | nil => exact absurd rfl z2
              | cons w V =>
                have w1 : w = 1 := by have := wfW_w p51; have : w ≤ 1 ∨ 5 < w := p52; omega
                subst w1
                have e37 : nI (1 :: V).length - 1 = nI V.length := by rw [show (1 : Int32) = nI 1 from rfl, pk_sub (by show 1 ≤ V.length + 1; omega)]; rfl
                have f3 : FL [(51,37,38)] h2 (sI h2 51 37 (nI V.length)) := FL.i h2 rfl
                have e38' : gI (sI h2 51 37 (nI V.length)) 51 38 - 1 = nI (opW V) := by
                  rw [(f3.1 51 38 rfl).1, m2.2.2]; show nI (opW V + 1) - nI 1 = _; rw [pk_sub (by omega)]; rfl
                have f4 : FL [(51,37,39)] h2 (sI (sI h2 51 37 (nI V.length)) 51 38 (nI (opW V))) := (FL.i h2 rfl).trans (FL.i _ rfl)
                have m4 : MSw V (sI (sI h2 51 37 (nI V.length)) 51 38 (nI (opW V))) := ⟨by simp +decide only [gI_sI, if_false, if_true], m2.2.1.2.ag (f4.ag rfl), by simp +decide only [gI_sI, if_false, if_true]⟩
                have f04 : FL LBh h (sI (sI h2 51 37 (nI V.length)) 51 38 (nI (opW V))) := FL.cat f12 f4 rfl rfl
                rw [e37, bnd_eq, e38', bnd_eq]
                obtain ⟨h5, e5, f5, r5⟩ := m_adv N hN (f := f) hT (c.ag (f04.ag rfl)) hp (k2.fr f4 rfl) (by omega) es ht (by omega) iv
                rw [e5, bnd2_p]
                have f05 : FL LBh h h5 := FL.cat f04 f5 rfl rfl
                rcases r5 with r5 | ⟨r6, r7, r8, r9, r10⟩
                · rw [bs_2 N r5.ne]
                  exact ⟨h5, rfl, f05, Or.inl r5⟩
                · have es' : (popTo 3 ((1 :: V) : List Nat).tail ds) = popTo 3 V ds := rfl
                  obtain ⟨h6, e6, f6, r11⟩ := ih (z + 1) (t + 1) (Tk tn tb p).2.2 V (ds, an, A) h5 (by omega) (by omega) (by omega) r10 p51.2 r9 (c.ag (f05.ag rfl)) r8 (m4.ag (f5.ag rfl)) (MSc.ag (f5.ag rfl) (d2.ag (f4.ag rfl))) ((f5.1 51 39 rfl).1.trans ((f4.1 51 39 rfl).1.trans y39))
                  rw [r7]
                  refine ⟨h6, e6, f05.trans f6, ?_⟩
                  rcases r11 with r11 | r11 | ⟨r12, a1, a2, a3, a4, a5, a6, a7, a8⟩
                  · exact Or.inl r11
                  · exact Or.inr (Or.inl r11)
                  · exact Or.inr (Or.inr ⟨r12, a1, a2, a3, a4, a5, a6, by omega, a8⟩)
          · rw [if_neg q41]
            exact fin (fun w => absurd w q41)
