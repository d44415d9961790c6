/-! READ: the class's whole read -/
theorem gI_cI (h : xHp) (a b sp dp n c k : Nat) : gI (cI h a b sp dp n) c k = if c = b then va_cpy (fun i => gI h a i) (fun i => gI h b i) sp dp n k else gI h c k := by
  unfold gI cI va_up
  by_cases q : c = b
  · subst q; simp
  · simp [q]
theorem Fr.cI {P : Nat → Nat → Bool} (h : xHp) {a b sp dp n : Nat} (hp : ∀ k, P b k = true) : Fr P h (cI h a b sp dp n) := by
  refine ⟨fun c k hc => ⟨?_, rfl⟩, rfl⟩
  rw [gI_cI]
  by_cases q : c = b
  · subst q; rw [hp k] at hc; cases hc
  · rw [if_neg q]
theorem cpy0 {f g : Nat → Int32} {n k : Nat} (h : k < n) : va_cpy f g 0 0 n k = f k := by
  unfold va_cpy
  simp [h]
def RdG (R : Nat × Nat × Sp) : Prop := R.1 ≤ 5 ∧ (R.1 = 0 → Fcs R.2.2.2.2.2.2.1 R.2.2.2.2.2.1 ∧ Awf R.2.2.2.2.2.2.1 R.2.2.2.2.2.2.2)
theorem brW_nil {W : List Nat} (h : wfW W) (h1 : tp W ≤ 1 ∨ 5 < tp W) (h2 : brW W = 0) : W = [] := by
  cases W with
  | nil => rfl
  | cons w W =>
    have := wfW_w h
    have h1' : w ≤ 1 ∨ 5 < w := h1
    have w1 : w = 1 := by omega
    have h2' : brW W + (if w = 1 then 1 else 0) = 0 := h2
    rw [if_pos w1] at h2'
    omega
theorem stp_5 {k v : Nat} {S : Sp} : (stp k v S).1 ≤ 5 := by
  unfold stp
  by_cases q0 : k = 262
  · rw [if_pos q0]; exact (by decide : 1 ≤ 5)
  · rw [if_neg q0]
    by_cases s0 : S.1 = 0
    · rw [if_pos s0]
      by_cases k1 : k = 259
      · rw [if_pos k1]; exact Nat.zero_le 5
      · rw [if_neg k1]
        by_cases k2 : k = 40 ∨ k = 126
        · rw [if_pos k2]
          by_cases k3 : opW S.2.2.1 < 20
          · rw [if_pos k3]; exact Nat.zero_le 5
          · rw [if_neg k3]; exact (by decide : 4 ≤ 5)
        · rw [if_neg k2]; exact (by decide : 2 ≤ 5)
    · rw [if_neg s0]
      by_cases s2 : S.1 = 2
      · rw [if_pos s2]
        by_cases k1 : k = 259
        · rw [if_pos k1]; exact Nat.zero_le 5
        · rw [if_neg k1]; exact (by decide : 2 ≤ 5)
      · rw [if_neg s2]
        by_cases s4 : S.1 = 4 ∨ S.1 = 5
        · rw [if_pos s4]
          by_cases k1 : k = 45 ∧ S.1 = 4
          · rw [if_pos k1]; exact Nat.zero_le 5
          · rw [if_neg k1]
            by_cases k2 : k = 260
            · rw [if_pos k2]
              cases cmpS S.2.2.2 S.2.1.2.2.1 S.2.1.1 S.2.1.2.1 (if S.2.1.2.2.2 = true then -(v : Int) else v) with
              | none => exact (by decide : 3 ≤ 5)
              | some C => exact Nat.zero_le 5
            · rw [if_neg k2]; exact (by decide : 2 ≤ 5)
        · rw [if_neg s4]
          by_cases s6 : S.1 = 6
          · rw [if_pos s6]
            by_cases k1 : k = 38
            · rw [if_pos k1]; exact Nat.zero_le 5
            · rw [if_neg k1]
              by_cases k2 : k = 124
              · rw [if_pos k2]; exact Nat.zero_le 5
              · rw [if_neg k2]
                by_cases k3 : k = 258
                · rw [if_pos k3]
                  by_cases k5 : opW (popTo 4 S.2.2.1 S.2.2.2.1).1 < 20
                  · rw [if_pos k5]; exact Nat.zero_le 5
                  · rw [if_neg k5]; exact (by decide : 4 ≤ 5)
                · rw [if_neg k3]
                  by_cases k4 : k = 41
                  · rw [if_pos k4]
                    by_cases k5 : brW S.2.2.1 = 0
                    · rw [if_pos k5]; exact (by decide : 2 ≤ 5)
                    · rw [if_neg k5]; exact Nat.zero_le 5
                  · rw [if_neg k4]; exact (by decide : 2 ≤ 5)
          · rw [if_neg s6]
            by_cases k1 : k = 45 ∧ S.1 = 1
            · rw [if_pos k1]; exact Nat.zero_le 5
            · rw [if_neg k1]
              by_cases k2 : isRel k
              · rw [if_pos k2]; exact Nat.zero_le 5
              · rw [if_neg k2]; exact (by decide : 2 ≤ 5)
/-- how a text ends -/
theorem rd_end {t s : Nat} {S : Sp} (iv : Iv t S) (ht : t ≤ 101) : RdG (if S.1 = 6 ∧ brW S.2.2.1 = 0 then (0, s, (6, S.2.1, (popTo 5 S.2.2.1 S.2.2.2.1).1, (popTo 5 S.2.2.1 S.2.2.2.1).2, S.2.2.2.2)) else (2, s, S)) := by
  by_cases q : S.1 = 6 ∧ brW S.2.2.1 = 0
  · rw [if_pos q]
    refine ⟨Nat.zero_le 5, fun _ => ?_⟩
    obtain ⟨st, X, W, cs, an, A⟩ := S
    obtain ⟨h1, h2, h3, h4, h5, h6, h7, h8, h9, h10⟩ := iv
    dsimp only at h1 h2 h3 h4 h5 h6 h7 q
    obtain ⟨q1, q2⟩ := q
    subst q1
    obtain ⟨c1, c2, c3, c4⟩ := h7
    have lw := len_W h2
    have D0 : dS 6 = 0 := rfl
    obtain ⟨b1, b2, b3, b4, b5, b6, b7, b8⟩ := popTo_ok (an := an) (m := 5) W cs h2
    have nil := brW_nil b1 b2 (by rw [b6]; exact q2)
    have b7' := b7 c4
    rw [nil] at b7' b3
    have b3' : 0 + (popTo 5 W cs).2.length = W.length + cs.length := b3
    exact ⟨⟨c1, (show (popTo 5 W cs).2.length ≤ 240 by omega), b8 c3, b7'⟩, c2⟩
  · rw [if_neg q]
    exact ⟨(by decide : 2 ≤ 5), fun z => absurd z (show ¬ (2 : Nat) = 0 by decide)⟩
theorem brW_op (W : List Nat) : brW W ≤ opW W := by
  induction W with
  | nil => exact Nat.le_refl 0
  | cons w W ih =>
    show brW W + (if w = 1 then 1 else 0) ≤ opW W + (if w = 3 ∨ w = 4 then 0 else 1)
    by_cases q : w = 1
    · rw [if_pos q, if_neg (by omega)]; omega
    · rw [if_neg q]; omega
theorem c_finish (N : Nat) (hN : 300 ≤ N) {t : Nat} {S : Sp} {h : xHp} (iv : Iv t S) (ht : t ≤ 101) (cr : CR S h) (s : Nat) : ∃ h', F_X3_finish N h = some (nI (if S.1 = 6 ∧ brW S.2.2.1 = 0 then ((0, s, (6, S.2.1, (popTo 5 S.2.2.1 S.2.2.2.1).1, (popTo 5 S.2.2.1 S.2.2.2.1).2, S.2.2.2.2)) : Nat × Nat × Sp) else (2, s, S)).1, h') ∧ FL LRd h h' ∧ ((if S.1 = 6 ∧ brW S.2.2.1 = 0 then ((0, s, (6, S.2.1, (popTo 5 S.2.2.1 S.2.2.2.1).1, (popTo 5 S.2.2.1 S.2.2.2.1).2, S.2.2.2.2)) : Nat × Nat × Sp) else (2, s, S)).1 = 0 → CD (if S.1 = 6 ∧ brW S.2.2.1 = 0 then ((0, s, (6, S.2.1, (popTo 5 S.2.2.1 S.2.2.2.1).1, (popTo 5 S.2.2.1 S.2.2.2.1).2, S.2.2.2.2)) : Nat × Nat × Sp) else (2, s, S)).2.2.2.2.2 h') := by
  obtain ⟨st, ⟨x, y, r, ng⟩, W, cs, an, A⟩ := S
  obtain ⟨h1, h2, h3, h4, h5, h6, h7, h8, h9, h10⟩ := iv
  obtain ⟨m, d, cs6, _, _⟩ := mkI cr
  dsimp only at h1 h2 h3 h4 h5 h6 h7 ⊢
  have lw := len_W h2
  have brl : brW W ≤ 3 * opW W + 2 := by
    have := brW_op W
    omega
  unfold F_X3_finish F_X3_finish_16
  rw [cs6, m.2.2.2, show (6 : Int32) = nI 6 from rfl]
  simp only [nI_eq (show st < 2 ^ 31 by omega) (show 6 < 2 ^ 31 by decide)]
  have bad : ¬ (st = 6 ∧ brW W = 0) → ∃ h', some ((2 : Int32), h) = some (nI (if st = 6 ∧ brW W = 0 then ((0, s, (6, (x, y, r, ng), (popTo 5 W cs).1, (popTo 5 W cs).2, an, A)) : Nat × Nat × Sp) else (2, s, (st, (x, y, r, ng), W, cs, an, A))).1, h') ∧ FL LRd h h' ∧ ((if st = 6 ∧ brW W = 0 then ((0, s, (6, (x, y, r, ng), (popTo 5 W cs).1, (popTo 5 W cs).2, an, A)) : Nat × Nat × Sp) else (2, s, (st, (x, y, r, ng), W, cs, an, A))).1 = 0 → CD (if st = 6 ∧ brW W = 0 then ((0, s, (6, (x, y, r, ng), (popTo 5 W cs).1, (popTo 5 W cs).2, an, A)) : Nat × Nat × Sp) else (2, s, (st, (x, y, r, ng), W, cs, an, A))).2.2.2.2.2 h') := fun q => by
    rw [if_neg q]
    exact ⟨h, rfl, Fr.rf, fun z => absurd z (show ¬ (2 : Nat) = 0 by decide)⟩
  by_cases s6 : st = 6
  · rw [if_pos s6]
    obtain ⟨t2, t3⟩ := h4 s6
    have D0 : dS st = 0 := by rw [s6]; rfl
    by_cases q : brW W = 0
    · have le0 : nI (brW W) ≤ 0 := by rw [q]; decide
      have wl : W.length ≤ 62 := by
        have : (if tp W = 3 then 2 else if tp W = 4 then 1 else 0) ≤ 2 := by
          by_cases z : tp W = 3
          · rw [if_pos z]; omega
          · rw [if_neg z]
            by_cases z2 : tp W = 4
            · rw [if_pos z2]; omega
            · rw [if_neg z2]; omega
        omega
      obtain ⟨h', e', f', m', d'⟩ := c_endFormula N hN h2 t2 t3 (by omega) (show cs.length + W.length ≤ 239 by omega) m d
      rw [if_pos le0, if_pos ⟨s6, q⟩, e', bnd2_p]
      exact ⟨h', rfl, FL.sub f' rfl, fun _ => d'⟩
    · rw [if_neg (nI_nle (by omega) (by omega))]
      exact bad (fun z => q z.2)
  · rw [if_neg s6]
    exact bad (fun z => s6 z.1)
theorem c_read_go (N : Nat) (hN : 7000 ≤ N) {tn : Nat} {tb : Nat → Nat} (hT : Twf 400 tn tb) : ∀ (f z t p : Nat) (S : Sp) (h : xHp), f + t = 102 → f ≤ z → t ≤ 100 → Iv t S → p ≤ tn → Ctap tn tb h → CR S h → gI h 46 1 = nI p → RdG (rdF (btx tn tb) tn f t p S) ∧ (rdF (btx tn tb) tn f t p S).2.1 ≤ tn ∧ ∃ h', xit (F_X3_readFormula_6_b N) (fun _ _ => none) z (nI (t + 1)) h = some (nI (rdF (btx tn tb) tn f t p S).1, h') ∧ FL (LRd ++ LSc) h h' ∧ gI h' 46 2 = nI (rdF (btx tn tb) tn f t p S).2.1 ∧ ((rdF (btx tn tb) tn f t p S).1 = 0 → CD (rdF (btx tn tb) tn f t p S).2.2.2.2.2 h') := by
  have hn := hT.1
  intro f
  induction f with
  | zero => intro z t p S h h1 h2 h3; omega
  | succ f ih =>
    intro z t p S h h1 h2 h3 iv hp c cr hpl
    obtain ⟨z, rfl⟩ : ∃ z', z = z' + 1 := ⟨z - 1, by omega⟩
    obtain ⟨h1', e1, f1, x1, x2, x3, x4⟩ := c_next N hN hT c hp hpl
    have sb := (skp_b (bt := btx tn tb) (tn := tn) btx_n0 (tn + 1) p).2 hp
    have tkb := tok_b (bt := btx tn tb) (tn := tn) (s := skp (btx tn tb) (tn + 1) p) btx_n0 (fun q => btx_b hT)
    have cr1 : CR S h1' := ⟨cr.1.ag (f1.ag rfl), cr.2.1.ag (f1.ag rfl), (f1.1 44 6 rfl).1.trans cr.2.2.1, fun a b => ⟨(f1.1 44 7 rfl).1.trans (cr.2.2.2.1 a b).1, (f1.1 44 8 rfl).1.trans (cr.2.2.2.1 a b).2.1, (f1.1 44 10 rfl).1.trans (cr.2.2.2.1 a b).2.2⟩, fun a => (f1.1 44 9 rfl).1.trans (cr.2.2.2.2 a)⟩
    have c1 := c.ag (f1.ag rfl)
    show _ ∧ _ ∧ ∃ h', F_X3_readFormula_6_b N (xit (F_X3_readFormula_6_b N) (fun _ _ => none) z) (nI (t + 1)) h = _ ∧ _
    have head : ∀ K, F_X3_readFormula_6_b N K (nI (t + 1)) h = if (tok (btx tn tb) tn (skp (btx tn tb) (tn + 1) p)).1 = 261 then (bnd2 (F_X3_finish N h1') fun r3 h4 => some (r3, h4)) else bnd2 (F_X3_take N (nI (tok (btx tn tb) tn (skp (btx tn tb) (tn + 1) p)).1) h1') fun r5 h6 => if r5 = 0 then K (nI (t + 1) + 1) h6 else some (r5, h6) := by
      intro K
      unfold F_X3_readFormula_6_b
      rw [show (101 : Int32) = nI 101 from rfl, if_neg (nI_nlt (by omega) (by omega)), e1, bnd2_p, x2, show (261 : Int32) = nI 261 from rfl]
      simp only [eqk tkb.2.2.2.2.2 (show 261 < 263 by decide)]
    rw [head]
    unfold rdF
    generalize skp (btx tn tb) (tn + 1) p = s at x1 x2 x3 x4 sb tkb ⊢
    generalize tok (btx tn tb) tn s = T at x2 x3 x4 tkb ⊢
    obtain ⟨tk1, tk2, tk3, tk4, tk5, tk6⟩ := tkb
    by_cases q1 : T.1 = 261
    · rw [if_pos q1, if_pos q1]
      obtain ⟨h2', e2, f2, d2⟩ := c_finish N (by omega) iv (by omega) cr1 s
      have s2 : gI h2' 46 2 = nI s := by rw [(f2.1 46 2 rfl).1]; exact x1
      have ge := rd_end (s := s) iv (by omega)
      have pl : (if S.1 = 6 ∧ brW S.2.2.1 = 0 then ((0, s, (6, S.2.1, (popTo 5 S.2.2.1 S.2.2.2.1).1, (popTo 5 S.2.2.1 S.2.2.2.1).2, S.2.2.2.2)) : Nat × Nat × Sp) else (2, s, S)).2.1 = s := by
        by_cases z : S.1 = 6 ∧ brW S.2.2.1 = 0
        · rw [if_pos z]
        · rw [if_neg z]
      rw [e2, bnd2_p]
      exact ⟨ge, by rw [pl]; exact sb, h2', rfl, FL.cat f1 f2 rfl rfl, by rw [pl]; exact s2, d2⟩
    · rw [if_neg q1, if_neg q1]
      obtain ⟨h2', e2, f2, cr2⟩ := c_take N (by omega) (v := T.2.1) iv h3 tk6 tk5 cr1 x4
      have c5 := stp_5 (k := T.1) (v := T.2.1) (S := S)
      have s2 : gI h2' 46 2 = nI s := by rw [(f2.1 46 2 rfl).1]; exact x1
      have f12 : FL (LRd ++ LSc) h h2' := FL.cat f1 f2 rfl rfl
      rw [e2, bnd2_p]
      by_cases q2 : (stp T.1 T.2.1 S).1 = 0
      · have i2 := Iv_step (k := T.1) (v := T.2.1) iv (by omega) tk4 tk5 q2
        rw [if_pos (show nI (stp T.1 T.2.1 S).1 = 0 by rw [q2]; rfl), if_neg (show ¬ (stp T.1 T.2.1 S).1 ≠ 0 from fun z => z q2), nI_1]
        by_cases q3 : 100 ≤ t
        · rw [if_pos q3]
          obtain ⟨z, rfl⟩ : ∃ z', z = z' + 1 := ⟨z - 1, by omega⟩
          have e5 : xit (F_X3_readFormula_6_b N) (fun _ _ => none) (z + 1) (nI (t + 1 + 1)) h2' = some (5, h2') := by
            show F_X3_readFormula_6_b N (xit (F_X3_readFormula_6_b N) (fun _ _ => none) z) (nI (t + 1 + 1)) h2' = _
            unfold F_X3_readFormula_6_b
            rw [show (101 : Int32) = nI 101 from rfl, if_pos (nI_lt (by omega) (by omega))]
          rw [e5]
          exact ⟨⟨Nat.le_refl 5, fun z => absurd z (show ¬ (5 : Nat) = 0 by decide)⟩, sb, h2', rfl, f12, s2, fun z => absurd z (show ¬ (5 : Nat) = 0 by decide)⟩
        · rw [if_neg q3]
          obtain ⟨g1, g2, h3', e3, f3, s3, d3⟩ := ih z (t + 1) T.2.2 (stp T.1 T.2.1 S).2 h2' (by omega) (by omega) (by omega) i2 (tk2 sb) (c1.ag (f2.ag rfl)) (cr2 q2) (by rw [(f2.1 46 1 rfl).1]; exact x3)
          exact ⟨g1, g2, h3', e3, f12.trans f3, s3, d3⟩
      · rw [if_neg (show ¬ nI (stp T.1 T.2.1 S).1 = 0 from nI_ne0 (by omega) (by omega)), if_pos (show (stp T.1 T.2.1 S).1 ≠ 0 from q2)]
        exact ⟨⟨c5, fun z => absurd z q2⟩, sb, h2', rfl, f12, s2, fun z => absurd z q2⟩
def rdR (tn : Nat) (tb : Nat → Nat) : Nat × Nat × Sp := rdF (btx tn tb) tn 102 0 0 Sp0
def rdV (R : Nat × Nat × Sp) : Int32 := if R.1 = 0 then nI R.2.2.2.2.2.2.1 else -1 - nI R.2.1
def LRr8 : Lc := LRd ++ LSc ++ [(0,9,11),(26,1,2),(47,2,3),(30,3,4),(30,6,7),(31,0,0),(32,0,0),(33,0,0),(35,0,0)]
theorem c_read (N : Nat) (hN : 7000 ≤ N) {tn an : Nat} {tb : Nat → Nat} {A : Ed} {cs : List Nat} {b : Bool} {h : xHp} (hT : Twf 400 tn tb) (c : Ctap tn tb h) (rf : Cfor an A cs h) (h8 : gI h 0 9 = b32 b) (tab : gI h 47 2 = gI h 47 2) : RdG (rdR tn tb) ∧ (rdR tn tb).2.1 ≤ tn ∧ ∃ h', F_X8_read N h = some (rdV (rdR tn tb), h') ∧ FL LRr8 h h' ∧ gI h' 26 1 = 0 ∧ gI h' 0 10 = nI (rdR tn tb).1 ∧ ((rdR tn tb).1 = 0 → gI h' 0 9 = 1 ∧ gI h' 47 2 = 0 ∧ Cfor (rdR tn tb).2.2.2.2.2.2.1 (rdR tn tb).2.2.2.2.2.2.2 (rdR tn tb).2.2.2.2.2.1 h') ∧ (¬ (rdR tn tb).1 = 0 → gI h' 0 9 = b32 b ∧ gI h' 47 2 = gI h 47 2 ∧ Cfor an A cs h') := by
  have f0 : FL (LRd ++ LSc) h (sI (sI (sI (sI (sI (sI (sI (sI (sI h 46 1 0) 46 2 0) 46 3 261) 37 3 0) 37 6 0) 44 3 0) 44 4 0) 44 5 0) 44 6 0) := ((((FL.i h rfl).trans (FL.i _ rfl)).trans ((FL.i _ rfl).trans (FL.i _ rfl))).trans (((FL.i _ rfl).trans (FL.i _ rfl)).trans ((FL.i _ rfl).trans (FL.i _ rfl)))).trans (FL.i _ rfl)
  have cr0 : CR Sp0 (sI (sI (sI (sI (sI (sI (sI (sI (sI h 46 1 0) 46 2 0) 46 3 261) 37 3 0) 37 6 0) 44 3 0) 44 4 0) 44 5 0) 44 6 0) := by
    refine CR.mk' ⟨?_, trivial, ?_, ?_⟩ ⟨?_, fun k hk => absurd hk (Nat.not_lt_zero k), ?_, fun k hk => absurd hk (Nat.not_lt_zero k)⟩ ?_ (fun z => absurd z (by decide)) (fun z => absurd z (by decide))
    · simp +decide only [gI_sI, if_false, if_true]
    · simp +decide only [gI_sI, if_false, if_true]
    · simp +decide only [gI_sI, if_false, if_true]
    · simp +decide only [gI_sI, if_false, if_true]
    · simp +decide only [gI_sI, if_false, if_true]
    · simp +decide only [gI_sI, if_false, if_true]
  have p0 : gI (sI (sI (sI (sI (sI (sI (sI (sI (sI h 46 1 0) 46 2 0) 46 3 261) 37 3 0) 37 6 0) 44 3 0) 44 4 0) 44 5 0) 44 6 0) 46 1 = nI 0 := by simp +decide only [gI_sI, if_false, if_true]
  have e0 : F_X3_readFormula N h = F_X3_readFormula_6 N 1 (sI (sI (sI (sI (sI (sI (sI (sI (sI h 46 1 0) 46 2 0) 46 3 261) 37 3 0) 37 6 0) 44 3 0) 44 4 0) 44 5 0) 44 6 0) := by
    unfold F_X3_readFormula F_X3_begin F_X4_rewind F_X1_makeEmpty_37
    simp only [bnd_eq, bnd2_p]
  generalize sI (sI (sI (sI (sI (sI (sI (sI (sI h 46 1 0) 46 2 0) 46 3 261) 37 3 0) 37 6 0) 44 3 0) 44 4 0) 44 5 0) 44 6 0 = h0 at f0 cr0 p0 e0
  obtain ⟨g1, g2, h1, e1, f1, s1, d1⟩ := c_read_go N hN hT 102 N 0 0 Sp0 h0 rfl (by omega) (by omega) Iv0 (by omega) (c.ag (f0.ag rfl)) cr0 p0
  refine ⟨g1, g2, ?_⟩
  unfold F_X8_read
  rw [e0]
  unfold F_X3_readFormula_6
  rw [show (1 : Int32) = nI (0 + 1) from rfl, e1, bnd2_p, bnd_eq, bnd_eq]
  show ∃ h', _ = some (rdV (rdF (btx tn tb) tn 102 0 0 Sp0), h') ∧ FL LRr8 h h' ∧ gI h' 26 1 = 0 ∧ gI h' 0 10 = nI (rdF (btx tn tb) tn 102 0 0 Sp0).1 ∧ ((rdF (btx tn tb) tn 102 0 0 Sp0).1 = 0 → gI h' 0 9 = 1 ∧ gI h' 47 2 = 0 ∧ Cfor (rdF (btx tn tb) tn 102 0 0 Sp0).2.2.2.2.2.2.1 (rdF (btx tn tb) tn 102 0 0 Sp0).2.2.2.2.2.2.2 (rdF (btx tn tb) tn 102 0 0 Sp0).2.2.2.2.2.1 h') ∧ (¬ (rdF (btx tn tb) tn 102 0 0 Sp0).1 = 0 → gI h' 0 9 = b32 b ∧ gI h' 47 2 = gI h 47 2 ∧ Cfor an A cs h')
  generalize rdF (btx tn tb) tn 102 0 0 Sp0 = R at g1 g2 s1 d1 ⊢
  have f01 : FL (LRd ++ LSc) h h1 := f0.trans f1
  have f2 : FL [(0,10,11),(26,1,2)] h1 (sI (sI h1 0 10 (nI R.1)) 26 1 0) := (FL.i h1 rfl).trans (FL.i _ rfl)
  have f02 : FL (LRd ++ LSc ++ [(0,10,11),(26,1,2)]) h (sI (sI h1 0 10 (nI R.1)) 26 1 0) := FL.cat f01 f2 rfl rfl
  have v10 : gI (sI (sI h1 0 10 (nI R.1)) 26 1 0) 0 10 = nI R.1 := by simp +decide only [gI_sI, if_false, if_true]
  have v26 : gI (sI (sI h1 0 10 (nI R.1)) 26 1 0) 26 1 = 0 := by simp +decide only [gI_sI, if_false, if_true]
  have v46 : gI (sI (sI h1 0 10 (nI R.1)) 26 1 0) 46 2 = nI R.2.1 := by rw [(f2.1 46 2 rfl).1]; exact s1
  have d2 : R.1 = 0 → CD R.2.2.2.2.2 (sI (sI h1 0 10 (nI R.1)) 26 1 0) := fun z => (d1 z).ag (f2.ag rfl)
  rw [v10, v46]
  generalize sI (sI h1 0 10 (nI R.1)) 26 1 0 = h2 at f02 v10 v26 v46 d2 ⊢
  have b5 := g1.1
  unfold rdV
  by_cases q : R.1 = 0
  · obtain ⟨fc, aw⟩ := g1.2 q
    obtain ⟨d3, d4, d5, d6⟩ := d2 q
    have han := fc.1
    have hcs := fc.2.1
    rw [if_pos (by rw [q]; rfl), if_pos q]
    unfold F_X1_copyFrom_30_37
    simp only [bnd_eq, bnd2_p, show (0 : Int32).toNatClampNeg = 0 from rfl, show (10 : Int32).toNatClampNeg = 10 from rfl, show (240 : Int32).toNatClampNeg = 240 from rfl]
    rw [d3, show gI (sI h2 30 3 (nI R.2.2.2.2.2.2.1)) 37 6 = nI R.2.2.2.2.2.1.length by simp +decide only [gI_sI, if_false]; exact d5]
    have fc' : ∀ (hx : xHp) (a b m : Nat), b = 31 ∨ b = 32 ∨ b = 33 ∨ b = 35 → FL [(31,0,0),(32,0,0),(33,0,0),(35,0,0)] hx (cI hx a b 0 0 m) := fun hx a b m hb => Fr.cI hx (fun k => by rcases hb with rfl | rfl | rfl | rfl <;> rfl)
    have f3 : FL [(30,3,4),(30,6,7)] h2 (sI (sI h2 30 3 (nI R.2.2.2.2.2.2.1)) 30 6 (nI R.2.2.2.2.2.1.length)) := (FL.i h2 rfl).trans (FL.i _ rfl)
    have v3 : gI (sI (sI h2 30 3 (nI R.2.2.2.2.2.2.1)) 30 6 (nI R.2.2.2.2.2.1.length)) 30 3 = nI R.2.2.2.2.2.2.1 := by simp +decide only [gI_sI, if_false, if_true]
    have v6 : gI (sI (sI h2 30 3 (nI R.2.2.2.2.2.2.1)) 30 6 (nI R.2.2.2.2.2.1.length)) 30 6 = nI R.2.2.2.2.2.1.length := by simp +decide only [gI_sI, if_false, if_true]
    have d4' := d4.ag (f3.ag rfl)
    have d6' := d6.ag (f3.ag rfl)
    generalize sI (sI h2 30 3 (nI R.2.2.2.2.2.2.1)) 30 6 (nI R.2.2.2.2.2.1.length) = h3 at f3 v3 v6 d4' d6' ⊢
    have f4 : FL [(31,0,0),(32,0,0),(33,0,0),(35,0,0)] h3 (cI (cI (cI (cI h3 38 31 0 0 10) 39 32 0 0 10) 40 33 0 0 10) 42 35 0 0 240) := ((fc' _ _ _ _ (by decide)).trans (fc' _ _ _ _ (by decide))).trans ((fc' _ _ _ _ (by decide)).trans (fc' _ _ _ _ (by decide)))
    have w31 : ∀ k, k < 10 → gI (cI (cI (cI (cI h3 38 31 0 0 10) 39 32 0 0 10) 40 33 0 0 10) 42 35 0 0 240) 31 k = gI h3 38 k := fun k hk => by
      simp +decide only [gI_cI, if_false, if_true]; exact cpy0 hk
    have w32 : ∀ k, k < 10 → gI (cI (cI (cI (cI h3 38 31 0 0 10) 39 32 0 0 10) 40 33 0 0 10) 42 35 0 0 240) 32 k = gI h3 39 k := fun k hk => by
      simp +decide only [gI_cI, if_false, if_true]; exact cpy0 hk
    have w33 : ∀ k, k < 10 → gI (cI (cI (cI (cI h3 38 31 0 0 10) 39 32 0 0 10) 40 33 0 0 10) 42 35 0 0 240) 33 k = gI h3 40 k := fun k hk => by
      simp +decide only [gI_cI, if_false, if_true]; exact cpy0 hk
    have w35 : ∀ k, k < 240 → gI (cI (cI (cI (cI h3 38 31 0 0 10) 39 32 0 0 10) 40 33 0 0 10) 42 35 0 0 240) 35 k = gI h3 42 k := fun k hk => by
      simp +decide only [gI_cI, if_false, if_true]; exact cpy0 hk
    generalize cI (cI (cI (cI h3 38 31 0 0 10) 39 32 0 0 10) 40 33 0 0 10) 42 35 0 0 240 = h4 at f4 w31 w32 w33 w35 ⊢
    have f5 : FL [(0,9,10),(47,2,3)] h4 (sI (sI h4 0 9 1) 47 2 0) := (FL.i h4 rfl).trans (FL.i _ rfl)
    have fl35 : FL [(30,3,4),(30,6,7),(31,0,0),(32,0,0),(33,0,0),(35,0,0),(0,9,10),(47,2,3)] h2 (sI (sI h4 0 9 1) 47 2 0) := FL.cat f3 (FL.cat f4 f5 rfl rfl : FL [(31,0,0),(32,0,0),(33,0,0),(35,0,0),(0,9,10),(47,2,3)] h3 _) rfl rfl
    have an4 : gI h4 30 3 = nI R.2.2.2.2.2.2.1 := (f4.1 30 3 rfl).1.trans v3
    refine ⟨_, ?_, FL.cat f02 fl35 rfl rfl, by rw [(fl35.1 26 1 rfl).1]; exact v26, by rw [(fl35.1 0 10 rfl).1]; exact v10, fun _ => ⟨by simp +decide only [gI_sI, if_false, if_true], by simp +decide only [gI_sI, if_false, if_true], ?_⟩, fun z => absurd q z⟩
    · simp +decide only [gI_sI, if_false]
      rw [an4]
      rfl
    · refine Cfor.ag (f5.ag rfl) ⟨an4, fun k hk => ?_, (f4.1 30 6 rfl).1.trans v6, fun i hi => ?_⟩
      · rw [w31 k (by omega), w32 k (by omega), w33 k (by omega)]
        exact d4' k hk
      · rw [w35 i (by omega)]
        exact d6' i hi
  · rw [if_neg (nI_ne0 (by omega) (by omega)), if_neg q]
    exact ⟨h2, rfl, FL.sub f02 rfl, v26, v10, fun z => absurd z q, fun _ => ⟨(f02.1 0 9 rfl).1.trans h8, (f02.1 47 2 rfl).1, rf.ag (f02.ag rfl)⟩⟩
