/-! READ: the reference's difference -/
def LDf : Lc := [(51,16,23),(51,30,31),(51,34,35),(66,0,0),(67,0,0),(68,0,0),(69,0,0)]
theorem ds_210 (N : Nat) {a b c d : Int32} {h : xHp} (h1 : ¬ gI h 51 21 ≤ 0) : F_X9_difference_210 N a b c d h = some ((), h) := by
  unfold F_X9_difference_210; rw [if_neg h1]
theorem ds_190 (N : Nat) {a b c d : Int32} {h : xHp} (h0 : ¬ gI h 51 21 = 0) (h1 : ¬ gI h 51 21 ≤ 0) : F_X9_difference_190 N a b c d h = some ((), h) := by
  unfold F_X9_difference_190; rw [if_neg h0, ds_210 N h1]
theorem ds_146 (N : Nat) {a b c : Int32} {h : xHp} (h1 : ¬ gI h 51 21 ≤ 0) : F_X9_difference_146 N a b c h = some ((), h) := by
  unfold F_X9_difference_146; rw [if_neg h1]
theorem ds_127 (N : Nat) {a b c d : Int32} {h : xHp} (h0 : ¬ gI h 51 21 = 0) (h1 : ¬ gI h 51 21 ≤ 0) : F_X9_difference_127 N a b c d h = some ((), h) := by
  unfold F_X9_difference_127; rw [if_neg h0, ds_146 N h1]
theorem ite_same {P : Prop} [Decidable P] {α : Type} {a b c : α} (h1 : a = c) (h2 : b = c) : (if P then a else b) = c := by
  by_cases q : P
  · rw [if_pos q]; exact h1
  · rw [if_neg q]; exact h2
theorem ds_83 (N : Nat) {a b c : Int32} {h : xHp} (h0 : ¬ gI h 51 21 = 0) (h1 : ¬ gI h 51 21 ≤ 0) : F_X9_difference_83 N a b c h = some ((), h) := by
  have d1 : F_X9_difference_122 N a b c h = some ((), h) := by unfold F_X9_difference_122; exact ds_127 N h0 h1
  unfold F_X9_difference_83
  exact ite_same d1 (ite_same d1 (ite_same d1 (ite_same d1 (ite_same d1 (ite_same d1 (ds_127 N h0 h1))))))
theorem ds_67 (N : Nat) {a b : Int32} {h : xHp} (h0 : ¬ gI h 51 21 = 0) (h1 : ¬ gI h 51 21 ≤ 0) : F_X9_difference_67 N a b h = some ((), h) := by
  unfold F_X9_difference_67
  exact ite_same (ds_83 N h0 h1) (ds_83 N h0 h1)
theorem ds_51 (N : Nat) {a : Int32} {h : xHp} (h0 : ¬ gI h 51 21 = 0) (h1 : ¬ gI h 51 21 ≤ 0) : F_X9_difference_51 N a h = some ((), h) := by
  unfold F_X9_difference_51; rw [if_neg h0, ds_67 N h0 h1]
/-- behind a difference: marks not yet done -/
def DGd (tn : Nat) (tb : Nat → Nat) (R : Nat × Nat × Sp) (t : Nat) (W : List Nat) (h : xHp) : Prop := ∃ (f t' p : Nat) (C : Cp) (X : Nat × Nat × Nat × Bool), f + t' = 102 ∧ t' ≤ 100 ∧ t < t' ∧ p ≤ tn ∧ R = Rd tn tb f t' p (6, X, (popTo 3 W C.1).1, (popTo 3 W C.1).2, C.2) ∧ Iv t' (6, X, (popTo 3 W C.1).1, (popTo 3 W C.1).2, C.2) ∧ TK' tn tb t' p h ∧ Mtap tn tb h ∧ MSw W h ∧ MSc C h
theorem m_d190 (N : Nat) (hN : 7000 ≤ N) {tn f t p st x y r an : Nat} {tb : Nat → Nat} {ng : Bool} {W cs : List Nat} {A : Ed} {h : xHp} (hT : Twf 400 tn tb) (c : Mtap tn tb h) (hp : p ≤ tn) (k : TK' tn tb t p h) (hst : st = 4 ∨ st = 5) (h45 : st = 4 → (Tk tn tb p).1 ≠ 45) (ht : t ≤ 100) (hf : f + 1 + t = 102) (iv : Iv t (st, (x, y, r, ng), W, cs, an, A)) (mw : MSw W h) (mc : MSc (cs, an, A) h) : ∃ h', F_X9_difference_190 N (nI x) (nI y) (nI (sg r)) (b32 ng) h = some ((), h') ∧ FL LDf h h' ∧ (Fal (Rd tn tb (f + 1) t p (st, (x, y, r, ng), W, cs, an, A)) h' ∨ DGd tn tb (Rd tn tb (f + 1) t p (st, (x, y, r, ng), W, cs, an, A)) t W h') := by
  obtain ⟨⟨b1, b2, b3, b4, b5⟩, b6⟩ := Tk_b hT hp
  have iv' := iv
  obtain ⟨h1, h2, h3, h4, h5, h6, h7, h8, h9, h10⟩ := iv'
  dsimp only at h1 h2 h3 h4 h5 h6 h7 h8 h9 h10
  have is2 : (gI h 51 16 = 2) ↔ (Tk tn tb p).1 = 260 := m_tk1 k (m := 2) (by decide) tkc_2
  unfold F_X9_difference_190
  rw [if_pos k.2.2.2.2.2.2]
  simp only [is2]
  by_cases q : (Tk tn tb p).1 = 260
  · rw [if_pos q]
    have v17 : gI h 51 17 = nI (Tk tn tb p).2.1 := by rw [k.2.2.2.2.2.1 (by omega)]; unfold tkv; rw [if_pos (Or.inr q)]
    have vv := b3 q
    have U0 : dU st = 0 := by rcases hst with z | z <;> rw [z] <;> rfl
    have D0 : 2 ≤ dS st := by rcases hst with z | z <;> rw [z] <;> decide
    rw [U0] at h7
    have es : stp (Tk tn tb p).1 (Tk tn tb p).2.1 (st, (x, y, r, ng), W, cs, an, A) = (cmpS (cs, an, A) r x y (if ng = true then -((Tk tn tb p).2.1 : Int) else (Tk tn tb p).2.1)).elim (3, (st, (x, y, r, ng), W, cs, an, A)) fun C => (0, (6, (x, y, r, ng), (popTo 3 W C.1).1, (popTo 3 W C.1).2, C.2)) := by
      unfold stp
      dsimp only
      rw [if_neg (by omega), if_neg (by omega), if_neg (by omega), if_pos hst, if_neg (by omega), if_pos q]
    unfold F_X9_difference_210 F_X9_difference_239
    rw [if_pos (by rw [k.2.2.2.2.2.2]; decide), v17]
    have go : ∀ u : Int32, u.toInt = (if ng = true then -((Tk tn tb p).2.1 : Int) else (Tk tn tb p).2.1) → ∃ h', (bnd2 (F_X9_comparison N (nI (sg r)) (nI x) (nI y) u h) fun r1 h2 => if (gI h2 51 21) = 0 then bnd2 (F_X9_next N h2) fun r3 h4 => some ((), h4) else some ((), h2)) = some ((), h') ∧ FL LDf h h' ∧ (Fal (Rd tn tb (f + 1) t p (st, (x, y, r, ng), W, cs, an, A)) h' ∨ DGd tn tb (Rd tn tb (f + 1) t p (st, (x, y, r, ng), W, cs, an, A)) t W h') := by
      intro u hu
      have rg : -1000000 ≤ u.toInt ∧ u.toInt ≤ 1000000 := by
        rw [hu]
        by_cases z : ng = true
        · rw [if_pos z]; omega
        · rw [if_neg z]; omega
      rw [← hu] at es
      rcases m_cmp N (by omega) h7 (by omega) (show cs.length + 14 ≤ 1000 by omega) (h10 hst) h8 h9 rg.1 rg.2 mc k.2.2.2.2.2.2 with ⟨C', h1', e1, e2, f1, d1, g1⟩ | ⟨h1', e1, e2, f1, g1, g2⟩
      · rw [e1] at es
        have es' : stp (Tk tn tb p).1 (Tk tn tb p).2.1 (st, (x, y, r, ng), W, cs, an, A) = (0, (6, (x, y, r, ng), (popTo 3 W C'.1).1, (popTo 3 W C'.1).2, C'.2)) := es
        have k1 : TK' tn tb t p h1' := ⟨(f1.1 51 18 rfl).1.trans k.1, (f1.1 51 19 rfl).1.trans k.2.1, (f1.1 51 20 rfl).1.trans k.2.2.1, k.2.2.2.1, (f1.1 51 16 rfl).1.trans k.2.2.2.2.1, fun z => (f1.1 51 17 rfl).1.trans (k.2.2.2.2.2.1 z), g1⟩
        rw [e2, bnd2_p, if_pos g1]
        obtain ⟨h2', e3, f2, r2⟩ := m_adv N hN (f := f) hT (c.ag (f1.ag rfl)) hp k1 (by omega) es' ht hf iv
        rw [e3, bnd2_p]
        refine ⟨h2', rfl, FL.cat f1 f2 rfl rfl, ?_⟩
        rcases r2 with r2 | ⟨r3, r4, r5, r6, r7⟩
        · exact Or.inl r2
        · have f12 : FL LDf h h2' := FL.cat f1 f2 rfl rfl
          exact Or.inr ⟨f, t + 1, (Tk tn tb p).2.2, C', (x, y, r, ng), by omega, by omega, by omega, r7, r4, r6, r5, c.ag (f12.ag rfl), mw.ag (f12.ag rfl), d1.ag (f2.ag rfl)⟩
      · rw [e1] at es
        have es' : (stp (Tk tn tb p).1 (Tk tn tb p).2.1 (st, (x, y, r, ng), W, cs, an, A)).1 = 3 := by rw [es]; rfl
        rw [e2, bnd2_p, if_neg (by rw [g1]; decide), rd_bad (by omega) es' (by decide)]
        exact ⟨h1', rfl, FL.sub f1 rfl, Or.inl ⟨⟨show 1 ≤ 3 by decide, show 3 ≤ 5 by decide⟩, g1, by rw [g2]; exact k.1⟩⟩
    cases ng with
    | false =>
      rw [if_pos (show b32 false = 0 from rfl)]
      exact go _ (by rw [if_neg (by decide)]; exact nI_toInt (by omega))
    | true =>
      rw [if_neg (show ¬ b32 true = 0 by decide)]
      exact go _ (by rw [if_pos rfl]; exact negI_toInt vv)
  · rw [if_neg q]
    have eR : (Rd tn tb (f + 1) t p (st, (x, y, r, ng), W, cs, an, A)).1 = 2 ∧ (Rd tn tb (f + 1) t p (st, (x, y, r, ng), W, cs, an, A)).2.1 = Sk tn tb p := by
      by_cases z : (Tk tn tb p).1 = 261
      · rw [rd_endbad z (fun w => by have : st = 6 := w.1; omega)]; exact ⟨rfl, rfl⟩
      · have es : (stp (Tk tn tb p).1 (Tk tn tb p).2.1 (st, (x, y, r, ng), W, cs, an, A)).1 = 2 := by
          unfold stp
          dsimp only
          rw [if_neg k.2.2.2.1, if_neg (by omega), if_neg (by omega), if_pos hst, if_neg (fun w => h45 w.2 w.1), if_neg q]
        rw [rd_bad z es (by decide)]; exact ⟨rfl, rfl⟩
    obtain ⟨h', e', f', r'⟩ := m_bad N (c := 2) k eR.1 eR.2 (by decide)
    rw [show (2 : Int32) = nI 2 from rfl, e', bnd2_p, ds_210 N r'.nle]
    exact ⟨h', rfl, FL.sub f' rfl, Or.inl r'⟩
theorem m_d67 (N : Nat) (hN : 7000 ≤ N) {tn f t p st x y r an : Nat} {tb : Nat → Nat} {W cs : List Nat} {A : Ed} {h : xHp} (hT : Twf 400 tn tb) (c : Mtap tn tb h) (hp : p ≤ tn) (k : TK' tn tb t p h) (hst : st = 1 ∨ st = 3) (h45 : st = 1 → (Tk tn tb p).1 ≠ 45) (ht : t ≤ 100) (hf : f + 1 + t = 102) (iv : Iv t (st, (x, y, r, false), W, cs, an, A)) (mw : MSw W h) (mc : MSc (cs, an, A) h) : ∃ h', F_X9_difference_67 N (nI x) (nI y) h = some ((), h') ∧ FL LDf h h' ∧ (Fal (Rd tn tb (f + 1) t p (st, (x, y, r, false), W, cs, an, A)) h' ∨ DGd tn tb (Rd tn tb (f + 1) t p (st, (x, y, r, false), W, cs, an, A)) t W h') := by
  obtain ⟨⟨b1, b2, b3, b4, b5⟩, b6⟩ := Tk_b hT hp
  have go : ∀ u : Nat, u < 263 → (∀ j, (j < 127 ∨ 256 ≤ j) ∧ j < 259 ∧ 0 < j → (u = sg j ↔ (Tk tn tb p).1 = j)) → ∃ h', F_X9_difference_83 N (nI x) (nI y) (nI u) h = some ((), h') ∧ FL LDf h h' ∧ (Fal (Rd tn tb (f + 1) t p (st, (x, y, r, false), W, cs, an, A)) h' ∨ DGd tn tb (Rd tn tb (f + 1) t p (st, (x, y, r, false), W, cs, an, A)) t W h') := by
    intro u hu hs
    have e60 : (nI u = 60) ↔ (Tk tn tb p).1 = 60 := by rw [show (60 : Int32) = nI (sg 60) from rfl, nI_eq (by omega) (by decide)]; exact hs 60 (by decide)
    have e160 : (nI u = 160) ↔ (Tk tn tb p).1 = 256 := by rw [show (160 : Int32) = nI (sg 256) from rfl, nI_eq (by omega) (by decide)]; exact hs 256 (by decide)
    have e62 : (nI u = 62) ↔ (Tk tn tb p).1 = 62 := by rw [show (62 : Int32) = nI (sg 62) from rfl, nI_eq (by omega) (by decide)]; exact hs 62 (by decide)
    have e162 : (nI u = 162) ↔ (Tk tn tb p).1 = 257 := by rw [show (162 : Int32) = nI (sg 257) from rfl, nI_eq (by omega) (by decide)]; exact hs 257 (by decide)
    have e61 : (nI u = 61) ↔ (Tk tn tb p).1 = 61 := by rw [show (61 : Int32) = nI (sg 61) from rfl, nI_eq (by omega) (by decide)]; exact hs 61 (by decide)
    have e35 : (nI u = 35) ↔ (Tk tn tb p).1 = 35 := by rw [show (35 : Int32) = nI (sg 35) from rfl, nI_eq (by omega) (by decide)]; exact hs 35 (by decide)
    have e83 : F_X9_difference_83 N (nI x) (nI y) (nI u) h = if isRel (Tk tn tb p).1 then F_X9_difference_127 N (nI x) (nI y) (nI u) 1 h else F_X9_difference_127 N (nI x) (nI y) (nI u) 0 h := by
      unfold F_X9_difference_83 F_X9_difference_122 isRel
      simp only [e60, e160, e62, e162, e61, e35]
      by_cases z : (Tk tn tb p).1 = 256 ∨ (Tk tn tb p).1 = 60 ∨ (Tk tn tb p).1 = 257 ∨ (Tk tn tb p).1 = 62 ∨ (Tk tn tb p).1 = 61 ∨ (Tk tn tb p).1 = 35
      · rw [if_pos z]
        rcases z with z | z | z | z | z | z <;> simp +decide only [z, if_false, if_true]
      · rw [if_neg z, if_neg (by omega), if_neg (by omega), if_neg (by omega), if_neg (by omega), if_neg (by omega), if_neg (by omega)]
    rw [e83]
    unfold F_X9_difference_127
    rw [if_pos k.2.2.2.2.2.2, if_pos k.2.2.2.2.2.2, if_neg (show ¬ (1 : Int32) = 0 by decide), if_pos (show (0 : Int32) = 0 from rfl)]
    by_cases q : isRel (Tk tn tb p).1
    · have ur : u = sg (Tk tn tb p).1 := (hs (Tk tn tb p).1 ⟨b5, by unfold isRel at q; omega, by unfold isRel at q; omega⟩).mpr rfl
      rw [if_pos q]
      have es : stp (Tk tn tb p).1 (Tk tn tb p).2.1 (st, (x, y, r, false), W, cs, an, A) = (0, (4, (x, y, (Tk tn tb p).1, false), W, cs, an, A)) := by
        unfold stp
        dsimp only
        rw [if_neg k.2.2.2.1, if_neg (by omega), if_neg (by omega), if_neg (by omega), if_neg (by omega), if_neg (fun w => h45 w.2 w.1), if_pos q]
      unfold F_X9_difference_146
      rw [if_pos (by rw [k.2.2.2.2.2.2]; decide)]
      have n1 : (Tk tn tb p).1 ≠ 261 := by unfold isRel at q; omega
      obtain ⟨h2, e2, f2, r2⟩ := m_adv N hN (f := f) hT c hp k n1 es ht hf iv
      rw [e2, bnd2_p]
      rcases r2 with r2 | ⟨r3, r4, r5, r6, r7⟩
      · rw [if_neg r2.ne]
        unfold F_X9_difference_178 F_X9_difference_179
        rw [if_pos rfl, ds_190 N r2.ne r2.nle]
        exact ⟨h2, rfl, FL.sub f2 rfl, Or.inl r2⟩
      · obtain ⟨f, rfl⟩ : ∃ f', f = f' + 1 := ⟨f - 1, by omega⟩
        have c2 := c.ag (f2.ag rfl)
        rw [if_pos r5.2.2.2.2.2.2, show (45 : Int32) = nI (sg 45) from rfl, m_sign N hT r7 r5 (by decide), bnd2_p, r4, ur]
        by_cases z : (Tk tn tb (Tk tn tb p).2.2).1 = 45
        · rw [if_pos z, if_neg (show ¬ (1 : Int32) = 0 by decide)]
          unfold F_X9_difference_179
          rw [if_neg (show ¬ (1 : Int32) = 0 by decide)]
          have es2 : stp (Tk tn tb (Tk tn tb p).2.2).1 (Tk tn tb (Tk tn tb p).2.2).2.1 (4, (x, y, (Tk tn tb p).1, false), W, cs, an, A) = (0, (5, (x, y, (Tk tn tb p).1, true), W, cs, an, A)) := by
            unfold stp
            dsimp only
            rw [if_neg (by omega), if_neg (by decide), if_neg (by decide), if_pos (by decide), if_pos ⟨z, rfl⟩]
          obtain ⟨h3, e3, f3, r8⟩ := m_adv N hN (f := f) hT c2 r7 r5 (by omega) es2 (by omega) (by omega) r6
          rw [e3, bnd2_p]
          have f23 : FL LDf h h3 := FL.cat f2 f3 rfl rfl
          rcases r8 with r8 | ⟨s3, s4, s5, s6, s7⟩
          · rw [ds_190 N r8.ne r8.nle]
            exact ⟨h3, rfl, f23, Or.inl r8⟩
          · obtain ⟨f, rfl⟩ : ∃ f', f = f' + 1 := ⟨f - 1, by omega⟩
            obtain ⟨h4, e4, f4, r9⟩ := m_d190 N hN (f := f) hT (c.ag (f23.ag rfl)) s7 s5 (Or.inr rfl) (fun w => absurd w (by decide)) (by omega) (by omega) s6 (mw.ag (FL.ag (FL.cat f2 f3 rfl rfl : FL LNx h h3) rfl)) (mc.ag (FL.ag (FL.cat f2 f3 rfl rfl : FL LNx h h3) rfl))
            rw [s4]
            refine ⟨h4, e4, f23.trans f4, ?_⟩
            rcases r9 with r9 | ⟨a1, a2, a3, a4, a5, a6, a7, a8, a9⟩
            · exact Or.inl r9
            · exact Or.inr ⟨a1, a2, a3, a4, a5, a6, a7, by omega, a9⟩
        · rw [if_neg z, if_pos (show (0 : Int32) = 0 from rfl)]
          unfold F_X9_difference_178 F_X9_difference_179
          rw [if_pos rfl]
          obtain ⟨h4, e4, f4, r9⟩ := m_d190 N hN (f := f) hT c2 r7 r5 (Or.inl rfl) (fun _ => z) (by omega) (by omega) r6 (mw.ag (f2.ag rfl)) (mc.ag (f2.ag rfl))
          refine ⟨h4, e4, FL.cat f2 f4 rfl rfl, ?_⟩
          rcases r9 with r9 | ⟨a1, a2, a3, a4, a5, a6, a7, a8, a9⟩
          · exact Or.inl r9
          · exact Or.inr ⟨a1, a2, a3, a4, a5, a6, a7, by omega, a9⟩
    · rw [if_neg q]
      have eR : (Rd tn tb (f + 1) t p (st, (x, y, r, false), W, cs, an, A)).1 = 2 ∧ (Rd tn tb (f + 1) t p (st, (x, y, r, false), W, cs, an, A)).2.1 = Sk tn tb p := by
        by_cases z : (Tk tn tb p).1 = 261
        · rw [rd_endbad z (fun w => by have : st = 6 := w.1; omega)]; exact ⟨rfl, rfl⟩
        · have es : (stp (Tk tn tb p).1 (Tk tn tb p).2.1 (st, (x, y, r, false), W, cs, an, A)).1 = 2 := by
            unfold stp
            dsimp only
            rw [if_neg k.2.2.2.1, if_neg (by omega), if_neg (by omega), if_neg (by omega), if_neg (by omega), if_neg (fun w => h45 w.2 w.1), if_neg q]
          rw [rd_bad z es (by decide)]; exact ⟨rfl, rfl⟩
      obtain ⟨h', e', f', r'⟩ := m_bad N (c := 2) k eR.1 eR.2 (by decide)
      rw [show (2 : Int32) = nI 2 from rfl, e', bnd2_p, ds_146 N r'.nle]
      exact ⟨h', rfl, FL.sub f' rfl, Or.inl r'⟩
  obtain ⟨u, u1, u2, u3⟩ := m_sgn hT hp k
  have e67 : F_X9_difference_67 N (nI x) (nI y) h = F_X9_difference_83 N (nI x) (nI y) (if gI h 51 16 = 3 then gI h 51 17 else 0) h := by
    unfold F_X9_difference_67
    by_cases z : gI h 51 16 = 3
    · rw [if_pos z, if_pos z]
    · rw [if_neg z, if_neg z]
  rw [e67, u2]
  exact go u u1 u3
theorem m_diff (N : Nat) (hN : 7000 ≤ N) {tn f t p an : Nat} {tb : Nat → Nat} {X : Nat × Nat × Nat × Bool} {W cs : List Nat} {A : Ed} {h : xHp} (hT : Twf 400 tn tb) (c : Mtap tn tb h) (hp : p ≤ tn) (k : TK' tn tb t p h) (q : (Tk tn tb p).1 = 259) (ht : t ≤ 100) (hf : f + 1 + t = 102) (iv : Iv t (0, X, W, cs, an, A)) (mw : MSw W h) (mc : MSc (cs, an, A) h) : ∃ h', F_X9_difference N h = some ((), h') ∧ FL LDf h h' ∧ (Fal (Rd tn tb (f + 1) t p (0, X, W, cs, an, A)) h' ∨ DGd tn tb (Rd tn tb (f + 1) t p (0, X, W, cs, an, A)) t W h') := by
  obtain ⟨⟨b1, b2, b3, b4, b5⟩, b6⟩ := Tk_b hT hp
  have v17 : gI h 51 17 = nI (Tk tn tb p).2.1 := by rw [k.2.2.2.2.2.1 (by omega)]; unfold tkv; rw [if_pos (Or.inl q)]
  have es : stp (Tk tn tb p).1 (Tk tn tb p).2.1 (0, X, W, cs, an, A) = (0, (1, ((Tk tn tb p).2.1, 0, 0, false), W, cs, an, A)) := by
    unfold stp
    dsimp only
    rw [if_neg k.2.2.2.1, if_pos rfl, if_pos q]
  unfold F_X9_difference
  rw [v17]
  obtain ⟨h2, e2, f2, r2⟩ := m_adv N hN (f := f) hT c hp k (by omega) es ht hf iv
  rw [e2, bnd2_p]
  rcases r2 with r2 | ⟨r3, r4, r5, r6, r7⟩
  · rw [if_neg r2.ne, ds_67 N r2.ne r2.nle]
    exact ⟨h2, rfl, FL.sub f2 rfl, Or.inl r2⟩
  · obtain ⟨f, rfl⟩ : ∃ f', f = f' + 1 := ⟨f - 1, by omega⟩
    have c2 := c.ag (f2.ag rfl)
    have mw2 := mw.ag (f2.ag rfl)
    have mc2 := mc.ag (f2.ag rfl)
    rw [if_pos r5.2.2.2.2.2.2, show (45 : Int32) = nI (sg 45) from rfl, m_sign N hT r7 r5 (by decide), bnd2_p, r4]
    by_cases z : (Tk tn tb (Tk tn tb p).2.2).1 = 45
    · rw [if_pos z, if_neg (show ¬ (1 : Int32) = 0 by decide)]
      have es2 : stp (Tk tn tb (Tk tn tb p).2.2).1 (Tk tn tb (Tk tn tb p).2.2).2.1 (1, ((Tk tn tb p).2.1, 0, 0, false), W, cs, an, A) = (0, (2, ((Tk tn tb p).2.1, 0, 0, false), W, cs, an, A)) := by
        unfold stp
        dsimp only
        rw [if_neg (by omega), if_neg (by decide), if_neg (by decide), if_neg (by decide), if_neg (by decide), if_pos ⟨z, rfl⟩]
      obtain ⟨h3, e3, f3, r8⟩ := m_adv N hN (f := f) hT c2 r7 r5 (by omega) es2 (by omega) (by omega) r6
      rw [e3, bnd2_p]
      have f23 : FL LNx h h3 := f2.trans f3
      rcases r8 with r8 | ⟨s3, s4, s5, s6, s7⟩
      · rw [if_neg r8.ne, ds_51 N r8.ne r8.nle]
        exact ⟨h3, rfl, FL.sub f23 rfl, Or.inl r8⟩
      · obtain ⟨f, rfl⟩ : ∃ f', f = f' + 1 := ⟨f - 1, by omega⟩
        have is1 : (gI h3 51 16 = 1) ↔ (Tk tn tb (Tk tn tb (Tk tn tb p).2.2).2.2).1 = 259 := m_tk1 s5 (m := 1) (by decide) tkc_1
        rw [if_pos s5.2.2.2.2.2.2, s4]
        simp only [is1]
        by_cases z2 : (Tk tn tb (Tk tn tb (Tk tn tb p).2.2).2.2).1 = 259
        · rw [if_pos z2]
          have w17 : gI h3 51 17 = nI (Tk tn tb (Tk tn tb (Tk tn tb p).2.2).2.2).2.1 := by rw [s5.2.2.2.2.2.1 (by omega)]; unfold tkv; rw [if_pos (Or.inl z2)]
          have es3 : stp (Tk tn tb (Tk tn tb (Tk tn tb p).2.2).2.2).1 (Tk tn tb (Tk tn tb (Tk tn tb p).2.2).2.2).2.1 (2, ((Tk tn tb p).2.1, 0, 0, false), W, cs, an, A) = (0, (3, ((Tk tn tb p).2.1, (Tk tn tb (Tk tn tb (Tk tn tb p).2.2).2.2).2.1, 0, false), W, cs, an, A)) := by
            unfold stp
            dsimp only
            rw [if_neg (by omega), if_neg (by decide), if_pos rfl, if_pos z2]
          unfold F_X9_difference_51
          rw [if_pos s5.2.2.2.2.2.2, w17]
          obtain ⟨h4, e4, f4, r9⟩ := m_adv N hN (f := f) hT (c.ag (f23.ag rfl)) s7 s5 (by omega) es3 (by omega) (by omega) s6
          rw [e4, bnd2_p]
          have f24 : FL LNx h h4 := f23.trans f4
          rcases r9 with r9 | ⟨u3, u4, u5, u6, u7⟩
          · rw [ds_67 N r9.ne r9.nle]
            exact ⟨h4, rfl, FL.sub f24 rfl, Or.inl r9⟩
          · obtain ⟨f, rfl⟩ : ∃ f', f = f' + 1 := ⟨f - 1, by omega⟩
            obtain ⟨h5, e5, f5, r10⟩ := m_d67 N hN (f := f) hT (c.ag (f24.ag rfl)) u7 u5 (Or.inr rfl) (fun w => absurd w (by decide)) (by omega) (by omega) u6 (mw.ag (f24.ag rfl)) (mc.ag (f24.ag rfl))
            rw [u4]
            refine ⟨h5, e5, FL.cat f24 f5 rfl rfl, ?_⟩
            rcases r10 with r10 | ⟨a1, a2, a3, a4, a5, a6, a7, a8, a9⟩
            · exact Or.inl r10
            · exact Or.inr ⟨a1, a2, a3, a4, a5, a6, a7, by omega, a9⟩
        · rw [if_neg z2]
          have eR : (Rd tn tb (f + 1) (t + 1 + 1) (Tk tn tb (Tk tn tb p).2.2).2.2 (2, ((Tk tn tb p).2.1, 0, 0, false), W, cs, an, A)).1 = 2 ∧ (Rd tn tb (f + 1) (t + 1 + 1) (Tk tn tb (Tk tn tb p).2.2).2.2 (2, ((Tk tn tb p).2.1, 0, 0, false), W, cs, an, A)).2.1 = Sk tn tb (Tk tn tb (Tk tn tb p).2.2).2.2 := by
            by_cases w : (Tk tn tb (Tk tn tb (Tk tn tb p).2.2).2.2).1 = 261
            · rw [rd_endbad w (fun w => absurd w.1 (show ¬ (2 : Nat) = 6 by decide))]; exact ⟨rfl, rfl⟩
            · have es3 : (stp (Tk tn tb (Tk tn tb (Tk tn tb p).2.2).2.2).1 (Tk tn tb (Tk tn tb (Tk tn tb p).2.2).2.2).2.1 (2, ((Tk tn tb p).2.1, 0, 0, false), W, cs, an, A)).1 = 2 := by
                unfold stp
                dsimp only
                rw [if_neg s5.2.2.2.1, if_neg (by decide), if_pos rfl, if_neg z2]
              rw [rd_bad w es3 (by decide)]; exact ⟨rfl, rfl⟩
          obtain ⟨h', e', f', r'⟩ := m_bad N (c := 2) s5 eR.1 eR.2 (by decide)
          rw [show (2 : Int32) = nI 2 from rfl, e', bnd2_p, ds_51 N r'.ne r'.nle]
          exact ⟨h', rfl, FL.cat f23 f' rfl rfl, Or.inl r'⟩
    · rw [if_neg z, if_pos (show (0 : Int32) = 0 from rfl)]
      obtain ⟨h5, e5, f5, r10⟩ := m_d67 N hN (f := f) hT c2 r7 r5 (Or.inl rfl) (fun _ => z) (by omega) (by omega) r6 mw2 mc2
      refine ⟨h5, e5, FL.cat f2 f5 rfl rfl, ?_⟩
      rcases r10 with r10 | ⟨a1, a2, a3, a4, a5, a6, a7, a8, a9⟩
      · exact Or.inl r10
      · exact Or.inr ⟨a1, a2, a3, a4, a5, a6, a7, by omega, a9⟩
