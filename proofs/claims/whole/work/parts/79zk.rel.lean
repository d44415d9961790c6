/-! THE RELATION that class and reference keep, and what a call must do -/
def RCx (n : Nat) (E : Ed) (L : Nat) (lp : Nat → Nat) (m : Nat) (cr : Nat → Int32) (tn : Nat) (tb : Nat → Nat) (wn : Nat) (wb : Nat → Nat) (b : Bool) (an : Nat) (A : Ed) (cs : List Nat) (f : Nat) (h : xHp) : Prop := Ccon n E h ∧ Clev L lp h ∧ Ccor m cr h ∧ Ctap tn tb h ∧ Cwri wn wb h ∧ Cfor an A cs h ∧ Ctab n E an A cs h ∧ gI h 0 9 = b32 b ∧ gI h 0 10 = nI f
def RMx (n : Nat) (E : Ed) (L : Nat) (lp : Nat → Nat) (m : Nat) (cr : Nat → Int32) (tn : Nat) (tb : Nat → Nat) (wn : Nat) (wb : Nat → Nat) (b : Bool) (an : Nat) (A : Ed) (cs : List Nat) (f : Nat) (h : xHp) : Prop := Mcon n E h ∧ Mlev L lp h ∧ Mcor m cr h ∧ Mtap tn tb h ∧ Mwri wn wb h ∧ Mfor an A cs h ∧ gI h 51 23 = b32 b ∧ gI h 51 21 = nI f
def RWx (n : Nat) (E : Ed) (L : Nat) (lp : Nat → Nat) (m : Nat) (tn : Nat) (tb : Nat → Nat) (wn : Nat) (wb : Nat → Nat) (b : Bool) (an : Nat) (A : Ed) (cs : List Nat) (f : Nat) : Prop := Ewf n E ∧ n ≤ 60 ∧ Epot n E ∧ Lwf L lp n ∧ m ≤ 16 ∧ Twf 400 tn tb ∧ Twf 6000 wn wb ∧ (b = true → Fcs an cs ∧ Awf an A) ∧ (b = false → an = 0 ∧ cs = []) ∧ f ≤ 5
/-- constraints; levels; core; tape; written; is there a formula; the formula; fault -/
abbrev Ab : Type := (Nat × Ed) × (Nat × (Nat → Nat)) × (Nat × (Nat → Int32)) × (Nat × (Nat → Nat)) × (Nat × (Nat → Nat)) × Bool × Cp × Nat
def RC (a : Ab) (h : xHp) : Prop := RCx a.1.1 a.1.2 a.2.1.1 a.2.1.2 a.2.2.1.1 a.2.2.1.2 a.2.2.2.1.1 a.2.2.2.1.2 a.2.2.2.2.1.1 a.2.2.2.2.1.2 a.2.2.2.2.2.1 a.2.2.2.2.2.2.1.2.1 a.2.2.2.2.2.2.1.2.2 a.2.2.2.2.2.2.1.1 a.2.2.2.2.2.2.2 h
def RM (a : Ab) (h : xHp) : Prop := RMx a.1.1 a.1.2 a.2.1.1 a.2.1.2 a.2.2.1.1 a.2.2.1.2 a.2.2.2.1.1 a.2.2.2.1.2 a.2.2.2.2.1.1 a.2.2.2.2.1.2 a.2.2.2.2.2.1 a.2.2.2.2.2.2.1.2.1 a.2.2.2.2.2.2.1.2.2 a.2.2.2.2.2.2.1.1 a.2.2.2.2.2.2.2 h
def RW (a : Ab) : Prop := RWx a.1.1 a.1.2 a.2.1.1 a.2.1.2 a.2.2.1.1 a.2.2.2.1.1 a.2.2.2.1.2 a.2.2.2.2.1.1 a.2.2.2.2.1.2 a.2.2.2.2.2.1 a.2.2.2.2.2.2.1.2.1 a.2.2.2.2.2.2.1.2.2 a.2.2.2.2.2.2.1.1 a.2.2.2.2.2.2.2
def DRC : Lc := DCcon ++ DClev ++ DCcor ++ DCtap ++ DCwri ++ DCfor ++ DCtab ++ [(0,9,11)]
def DRM : Lc := DMcon ++ DMlev ++ DMcor ++ DMtap ++ DMwri ++ DMfor ++ [(51,21,22),(51,23,24)]
theorem RC.ag {a : Ab} {h h' : xHp} (g : Ag DRC h h') (r : RC a h) : RC a h' := by
  obtain ⟨r1, r2, r3, r4, r5, r6, r7, r8, r9⟩ := r
  exact ⟨r1.ag (g.sub rfl), r2.ag (g.sub rfl), r3.ag (g.sub rfl), r4.ag (g.sub rfl), r5.ag (g.sub rfl), r6.ag (g.sub rfl), r7.ag (g.sub rfl), (g 0 9 rfl).trans r8, (g 0 10 rfl).trans r9⟩
theorem RM.ag {a : Ab} {h h' : xHp} (g : Ag DRM h h') (r : RM a h) : RM a h' := by
  obtain ⟨r1, r2, r3, r4, r5, r6, r7, r8⟩ := r
  exact ⟨r1.ag (g.sub rfl), r2.ag (g.sub rfl), r3.ag (g.sub rfl), r4.ag (g.sub rfl), r5.ag (g.sub rfl), r6.ag (g.sub rfl), (g 51 23 rfl).trans r7, (g 51 21 rfl).trans r8⟩
theorem RC.out {a : Ab} {h : xHp} {c k : Nat} {v : Int64} (r : RC a h) : RC a (sJ h c k v) := r.ag (fun c' k' _ => gI_sJ _ _ _ _ _ _)
theorem RM.out {a : Ab} {h : xHp} {c k : Nat} {v : Int64} (r : RM a h) : RM a (sJ h c k v) := r.ag (fun c' k' _ => gI_sJ _ _ _ _ _ _)
/-- the call returns on both sides, the same -/
def P1 {α : Type} (F8 : Option (α × xHp)) (F9 : xHp → Option (α × xHp)) (a : Ab) : Prop := ∃ V h1 a', F8 = some (V, h1) ∧ RW a' ∧ RC a' h1 ∧ RM a h1 ∧ ∀ hx, RC a' hx → RM a hx → ∃ h2, F9 hx = some (V, h2) ∧ gI h2 51 0 = 0 ∧ RC a' h2 ∧ RM a' h2
/-- the class throws, and the reference tells it -/
def P2 {α : Type} (T8 : Option (Nat × xHp)) (F9 : xHp → Option (α × xHp)) (ts : List (Nat × Int32)) (a : Ab) : Prop := ∃ t c h1, T8 = some (t, h1) ∧ (t, c) ∈ ts ∧ RC a h1 ∧ RM a h1 ∧ ∀ hx, RC a hx → RM a hx → ∃ V h2, F9 hx = some (V, h2) ∧ gI h2 51 0 = c ∧ RC a h2 ∧ RM a h2
/-- a call that the law makes with no wrapper -/
def P0 {α : Type} (F8 : Option (α × xHp)) (F9 : xHp → Option (α × xHp)) (a : Ab) : Prop := ∃ V h1 h2 a', F8 = some (V, h1) ∧ F9 h1 = some (V, h2) ∧ RW a' ∧ RC a' h2 ∧ RM a' h2
theorem P1.p0 {α : Type} {F8 : Option (α × xHp)} {F9 : xHp → Option (α × xHp)} {a : Ab} (p : P1 F8 F9 a) : P0 F8 F9 a := by
  obtain ⟨V, h1, a', e, w, c, m, g⟩ := p
  obtain ⟨h2, e2, _, c2, m2⟩ := g h1 c m
  exact ⟨V, h1, h2, a', e, e2, w, c2, m2⟩
/-- a throw told by the reference's may -/
theorem told_by {a : Ab} {hx : xHp} {c : Int32} (rc : RC a hx) (rm : RM a hx) : gI (sI hx 51 0 c) 51 0 = c ∧ RC a (sI hx 51 0 c) ∧ RM a (sI hx 51 0 c) := by
  have f : FL [(51,0,1)] hx (sI hx 51 0 c) := FL.i hx rfl
  exact ⟨by rw [gI_sI, if_pos rfl, if_pos rfl], rc.ag (f.ag rfl), rm.ag (f.ag rfl)⟩
theorem q_push (N : Nat) {a : Ab} {h : xHp} (w : RW a) (rc : RC a h) (rm : RM a h) : P1 (F_X8_push N h) (F_X9_push N) a ∨ P2 (F_X8_push_T N h) (F_X9_push N) [(3, 1)] a := by
  obtain ⟨⟨n, E⟩, ⟨L, lp⟩, ⟨m, cr⟩, ⟨tn, tb⟩, ⟨wn, wb⟩, b, ⟨cs, an, A⟩, f⟩ := a
  have w' : RWx n E L lp m tn tb wn wb b an A cs f := w
  have c' : RCx n E L lp m cr tn tb wn wb b an A cs f h := rc
  obtain ⟨w1, w2, w3, w4, w5, w6, w7, w8, w9, w10⟩ := w'
  obtain ⟨c1, c2, c3, c4, c5, c6, c7, c8, c9⟩ := c'
  have l20 := w4.1
  by_cases q : L < 20
  · left
    have up : ∀ (hx : xHp) (c : Nat), (∀ k, k < L → gI hx c k = nI (lp k)) → ∀ k, k < L + 1 → gI (sI hx c L (nI n)) c k = nI (upN lp L n k) := by
      intro hx c hh k hk
      rw [gI_sI, if_pos rfl]
      unfold upN
      by_cases z : k = L
      · rw [if_pos z, if_pos z]
      · rw [if_neg z, if_neg z]; exact hh k (by omega)
    have lw : Lwf (L + 1) (upN lp L n) n := by
      refine ⟨by omega, fun k hk => ?_, fun j k hjk hk => ?_⟩
      · unfold upN
        by_cases z : k = L
        · rw [if_pos z]; omega
        · rw [if_neg z]; exact w4.2.1 k (by omega)
      · unfold upN
        by_cases z : k = L
        · rw [if_pos z]
          by_cases z2 : j = L
          · rw [if_pos z2]; omega
          · rw [if_neg z2]; exact w4.2.1 j (by omega)
        · rw [if_neg z, if_neg (by omega)]; exact w4.2.2 j k hjk (by omega)
    have f1 : FL [(24,0,0),(0,2,3)] h (sI (sI h 24 L (nI n)) 0 2 (nI (L + 1))) := (FL.i h rfl).trans (FL.i _ rfl)
    refine ⟨_, _, ((n, E), (L + 1, upN lp L n), (m, cr), (tn, tb), (wn, wb), b, (cs, an, A), f), p_push8 N c1.1 c2.1 q, ⟨w1, w2, w3, lw, w5, w6, w7, w8, w9, w10⟩, ⟨c1.ag (f1.ag rfl), ⟨by rw [gI_sI, if_pos rfl, if_pos rfl], fun k hk => ?_⟩, c3.ag (f1.ag rfl), c4.ag (f1.ag rfl), c5.ag (f1.ag rfl), c6.ag (f1.ag rfl), c7.ag (f1.ag rfl), (f1.1 0 9 rfl).1.trans c8, (f1.1 0 10 rfl).1.trans c9⟩, rm.ag (f1.ag rfl), fun hx rcx rmx => ?_⟩
    · rw [((FL.i (sI h 24 L (nI n)) rfl : FL [(0,2,3)] (sI h 24 L (nI n)) (sI (sI h 24 L (nI n)) 0 2 (nI (L + 1)))).1 24 k rfl).1]
      exact up h 24 c2.2 k hk
    · have m' : RMx n E L lp m cr tn tb wn wb b an A cs f hx := rmx
      obtain ⟨m1, m2, m3, m4, m5, m6, m7, m8⟩ := m'
      have f2 : FL [(51,0,1),(56,0,0),(51,6,7)] hx (sI (sI (sI hx 51 0 0) 56 L (nI n)) 51 6 (nI (L + 1))) := (FL.i hx rfl).trans ((FL.i _ rfl).trans (FL.i _ rfl))
      refine ⟨_, p_push9 N m1.2.1 m2.1 q, by simp +decide only [gI_sI, if_false, if_true], rcx.ag (f2.ag rfl), ⟨m1.ag (f2.ag rfl), ⟨by rw [gI_sI, if_pos rfl, if_pos rfl], fun k hk => ?_⟩, m3.ag (f2.ag rfl), m4.ag (f2.ag rfl), m5.ag (f2.ag rfl), m6.ag (f2.ag rfl), (f2.1 51 23 rfl).1.trans m7, (f2.1 51 21 rfl).1.trans m8⟩⟩
      rw [((FL.i (sI (sI hx 51 0 0) 56 L (nI n)) rfl : FL [(51,6,7)] (sI (sI hx 51 0 0) 56 L (nI n)) (sI (sI (sI hx 51 0 0) 56 L (nI n)) 51 6 (nI (L + 1)))).1 56 k rfl).1]
      exact up (sI hx 51 0 0) 56 (fun k hk => by rw [((FL.i hx rfl : FL [(51,0,1)] hx (sI hx 51 0 0)).1 56 k rfl).1]; exact m2.2 k hk) k hk
  · right
    have eL : L = 20 := by omega
    subst eL
    refine ⟨3, 1, h, ?_, List.mem_singleton.mpr rfl, rc, rm, fun hx rcx rmx => ⟨0, sI hx 51 0 1, ?_, told_by rcx rmx⟩⟩
    · unfold F_X8_push_T
      rw [c2.1, if_neg (by decide)]
    · have m2 : Mlev 20 lp hx := rmx.2.1
      unfold F_X9_push F_X9_push_15
      rw [m2.1, if_pos (by decide), p_may, bnd2_p]
      simp +decide only [if_true]
theorem q_pop (N : Nat) {a : Ab} {h : xHp} (p : Int32) (w : RW a) (rc : RC a h) (rm : RM a h) : P1 (F_X8_pop N p h) (F_X9_pop N p) a ∨ P2 (F_X8_pop_T N p h) (F_X9_pop N p) [(2, 1)] a := by
  obtain ⟨⟨n, E⟩, ⟨L, lp⟩, ⟨m, cr⟩, ⟨tn, tb⟩, ⟨wn, wb⟩, b, ⟨cs, an, A⟩, f⟩ := a
  have w' : RWx n E L lp m tn tb wn wb b an A cs f := w
  have c' : RCx n E L lp m cr tn tb wn wb b an A cs f h := rc
  obtain ⟨w1, w2, w3, w4, w5, w6, w7, w8, w9, w10⟩ := w'
  obtain ⟨c1, c2, c3, c4, c5, c6, c7, c8, c9⟩ := c'
  have l20 := w4.1
  have isL : ∀ hx, gI hx 51 6 = nI L → F_X9_isIn N p.toInt64 0 (gI hx 51 6).toInt64 hx = some (if 0 ≤ p ∧ p ≤ nI L then 1 else 0, hx) := fun hx e => by
    rw [p_isIn, e]; simp only [i64_0le, i64_le]
  by_cases q : 0 ≤ p ∧ p ≤ nI L
  · left
    obtain ⟨j, hj, rfl⟩ : ∃ j, j < L + 1 ∧ p = nI j := by
      refine nI_lt_p (by omega) (Int32.not_lt.mpr q.1) ?_
      exact Int32.lt_of_le_of_lt q.2 (nI_lt (by omega) (by omega))
    have e9 : ∀ hx, gI hx 51 6 = nI L → F_X9_pop N (nI j) hx = bnd (sI (sI hx 51 0 0) 51 6 (nI (L - j))) fun h5 => if nI j ≤ 0 then F_X9_pop_53 N (gI h5 51 1) h5 else grd (xin (gI h5 51 6) 20) (F_X9_pop_53 N (gI h5 56 (gI h5 51 6).toNatClampNeg) h5) := fun hx e => by
      unfold F_X9_pop
      rw [isL hx e, if_pos q, bnd2_p, p_may, bnd2_p]
      simp +decide only [if_false, if_true]
      rw [show gI (sI hx 51 0 0) 51 6 = nI L by simp +decide only [gI_sI, if_false, if_true]; exact e, pk_sub (by omega)]
    unfold F_X8_pop F_X8_pop_60
    rw [if_neg (nI_pos (by omega)), c2.1, if_pos (nI_le (by omega) (by omega))]
    by_cases j0 : j = 0
    · subst j0
      rw [if_pos (by decide)]
      refine ⟨_, h, ((n, E), (L, lp), (m, cr), (tn, tb), (wn, wb), b, (cs, an, A), f), rfl, w, rc, rm, fun hx rcx rmx => ?_⟩
      have m' : RMx n E L lp m cr tn tb wn wb b an A cs f hx := rmx
      obtain ⟨m1, m2, m3, m4, m5, m6, m7, m8⟩ := m'
      unfold F_X9_pop_53 at e9
      rw [e9 hx m2.1, bnd_eq, if_pos (by decide), bnd_eq, c1.1]
      have v1 : gI (sI (sI hx 51 0 0) 51 6 (nI (L - 0))) 51 1 = nI n := by simp +decide only [gI_sI, if_false, if_true]; exact m1.2.1
      rw [v1]
      have f2 : FL [(51,0,2),(51,6,7)] hx (sI (sI (sI hx 51 0 0) 51 6 (nI (L - 0))) 51 1 (nI n)) := (FL.i hx rfl).trans ((FL.i _ rfl).trans (FL.i _ rfl))
      refine ⟨_, by rw [gI_sI, if_pos rfl, if_pos rfl], by simp +decide only [gI_sI, if_false, if_true], rcx.ag (f2.ag rfl), ⟨⟨m1.1, by rw [gI_sI, if_pos rfl, if_pos rfl], fun k hk => ?_⟩, ⟨by simp +decide only [gI_sI, if_false, if_true]; rfl, fun k hk => (f2.1 56 k rfl).1.trans (m2.2 k hk)⟩, m3.ag (f2.ag rfl), m4.ag (f2.ag rfl), m5.ag (f2.ag rfl), m6.ag (f2.ag rfl), (f2.1 51 23 rfl).1.trans m7, (f2.1 51 21 rfl).1.trans m8⟩⟩
      rw [(f2.1 52 k rfl).1, (f2.1 53 k rfl).1, (f2.1 54 k rfl).1]
      exact m1.2.2 k hk
    · have j1 : 0 < j := by omega
      have ln := w4.2.1 (L - j) (by omega)
      have f0 : FL [(0,2,3)] h (sI h 0 2 (nI (L - j))) := FL.i h rfl
      have v2 : gI (sI h 0 2 (nI (L - j))) 0 2 = nI (L - j) := by rw [gI_sI, if_pos rfl, if_pos rfl]
      have v24 : gI (sI h 0 2 (nI (L - j))) 24 (L - j) = nI (lp (L - j)) := by rw [(f0.1 24 (L - j) rfl).1]; exact c2.2 _ (by omega)
      obtain ⟨h2, e2, f2, r2⟩ := c_cutTo N (n := lp (L - j)) (c1.ag (f0.ag rfl)) ln (by omega)
      rw [if_neg (nI_nle j1 (by omega)), pk_sub (by omega), bnd_eq, v2, grd_t (xin_nI (show L - j < 20 by omega) (by decide)), nI_cl (by omega), v24, e2, bnd2_p, bnd_eq]
      have f3 : FL [(47,2,3)] h2 (sI h2 47 2 0) := FL.i h2 rfl
      have f03 : FL [(0,2,3),(1,3,4),(47,2,3)] h (sI h2 47 2 0) := FL.cat f0 (FL.cat f2 f3 rfl rfl : FL [(1,3,4),(47,2,3)] _ _) rfl rfl
      have r3 := r2.ag (f3.ag rfl)
      have wE : Ewf (lp (L - j)) E := ⟨by omega, fun k hk => w1.2 k (by omega)⟩
      have nw : RWx (lp (L - j)) E (L - j) lp m tn tb wn wb b an A cs f := ⟨wE, by omega, w3.mono ln, ⟨by omega, fun k hk => w4.2.2 k (L - j) (by omega) (by omega), fun i k hik hk => w4.2.2 i k hik (by omega)⟩, w5, w6, w7, w8, w9, w10⟩
      refine ⟨_, _, ((lp (L - j), E), (L - j, lp), (m, cr), (tn, tb), (wn, wb), b, (cs, an, A), f), rfl, nw, ⟨r3, ⟨?_, fun k hk => (f03.1 24 k rfl).1.trans (c2.2 k (by have : k < L - j := hk; omega))⟩, c3.ag (f03.ag rfl), c4.ag (f03.ag rfl), c5.ag (f03.ag rfl), c6.ag (f03.ag rfl), Or.inl (by rw [gI_sI, if_pos rfl, if_pos rfl]), (f03.1 0 9 rfl).1.trans c8, (f03.1 0 10 rfl).1.trans c9⟩, rm.ag (f03.ag rfl), fun hx rcx rmx => ?_⟩
      · rw [(f3.1 0 2 rfl).1, (f2.1 0 2 rfl).1]; exact v2
      · have m' : RMx n E L lp m cr tn tb wn wb b an A cs f hx := rmx
        obtain ⟨m1, m2, m3, m4, m5, m6, m7, m8⟩ := m'
        have v6 : gI (sI (sI hx 51 0 0) 51 6 (nI (L - j))) 51 6 = nI (L - j) := by rw [gI_sI, if_pos rfl, if_pos rfl]
        have v56 : gI (sI (sI hx 51 0 0) 51 6 (nI (L - j))) 56 (L - j) = nI (lp (L - j)) := by simp +decide only [gI_sI, if_false]; exact m2.2 _ (by omega)
        unfold F_X9_pop_53 at e9
        rw [e9 hx m2.1, bnd_eq, if_neg (nI_nle j1 (by omega)), v6, grd_t (xin_nI (show L - j < 20 by omega) (by decide)), nI_cl (by omega), v56, bnd_eq, r3.1]
        have f2' : FL [(51,0,2),(51,6,7)] hx (sI (sI (sI hx 51 0 0) 51 6 (nI (L - j))) 51 1 (nI (lp (L - j)))) := (FL.i hx rfl).trans ((FL.i _ rfl).trans (FL.i _ rfl))
        refine ⟨_, by rw [gI_sI, if_pos rfl, if_pos rfl], by simp +decide only [gI_sI, if_false, if_true], rcx.ag (f2'.ag rfl), ⟨⟨by show lp (L - j) ≤ 60; omega, by rw [gI_sI, if_pos rfl, if_pos rfl], fun k hk => ?_⟩, ⟨by simp +decide only [gI_sI, if_false, if_true], fun k hk => (f2'.1 56 k rfl).1.trans (m2.2 k (by have : k < L - j := hk; omega))⟩, m3.ag (f2'.ag rfl), m4.ag (f2'.ag rfl), m5.ag (f2'.ag rfl), m6.ag (f2'.ag rfl), (f2'.1 51 23 rfl).1.trans m7, (f2'.1 51 21 rfl).1.trans m8⟩⟩
        rw [(f2'.1 52 k rfl).1, (f2'.1 53 k rfl).1, (f2'.1 54 k rfl).1]
        exact m1.2.2 k (by have : k < lp (L - j) := hk; omega)
  · right
    refine ⟨2, 1, h, ?_, List.mem_singleton.mpr rfl, rc, rm, fun hx rcx rmx => ⟨0, sI hx 51 0 1, ?_, told_by rcx rmx⟩⟩
    · unfold F_X8_pop_T F_X8_pop_T_12
      rw [c2.1]
      by_cases z : p < 0
      · rw [if_pos z]
      · rw [if_neg z, if_neg (fun y => q ⟨Int32.not_lt.mp z, y⟩)]
    · have m2 : Mlev L lp hx := rmx.2.1
      unfold F_X9_pop
      rw [isL hx m2.1, if_neg q, bnd2_p, p_may, bnd2_p]
      simp +decide only [if_true]
theorem q_core (N : Nat) {a : Ab} {h : xHp} (p : Int32) (w : RW a) (rc : RC a h) (rm : RM a h) : P1 (F_X8_core N p h) (F_X9_core N p) a ∨ P2 (F_X8_core_T N p h) (F_X9_core N p) [(1, 1)] a := by
  obtain ⟨⟨n, E⟩, ⟨L, lp⟩, ⟨m, cr⟩, ⟨tn, tb⟩, ⟨wn, wb⟩, b, ⟨cs, an, A⟩, f⟩ := a
  have w5 : m ≤ 16 := w.2.2.2.2.1
  have c3 : Ccor m cr h := rc.2.2.1
  rcases pk_ix p (n := m) (by omega) with q | q | ⟨j, hj, rfl⟩
  · right
    refine ⟨1, 1, h, ?_, List.mem_singleton.mpr rfl, rc, rm, fun hx rcx rmx => ⟨0, sI hx 51 0 1, ?_, told_by rcx rmx⟩⟩
    · unfold F_X8_core_T F_X8_core_T_12; rw [if_pos q]
    · have m3 : Mcor m cr hx := rmx.2.2.1
      unfold F_X9_core
      rw [m3.1, p_ixN N (Or.inl q) (by omega), bnd2_p, p_may, bnd2_p]
      simp +decide only [if_true]
  · right
    refine ⟨1, 1, h, ?_, List.mem_singleton.mpr rfl, rc, rm, fun hx rcx rmx => ⟨0, sI hx 51 0 1, ?_, told_by rcx rmx⟩⟩
    · unfold F_X8_core_T F_X8_core_T_12
      rw [c3.1, if_neg (show ¬ p < nI m from Int32.not_lt.mpr q)]
      exact ite_same rfl rfl
    · have m3 : Mcor m cr hx := rmx.2.2.1
      unfold F_X9_core
      rw [m3.1, p_ixN N (Or.inr q) (by omega), bnd2_p, p_may, bnd2_p]
      simp +decide only [if_true]
  · left
    unfold F_X8_core
    rw [if_neg (nI_pos (by omega)), c3.1, if_pos (nI_lt hj (by omega)), grd_t (xin_nI (show j < 16 by omega) (by decide)), nI_cl (by omega), c3.2 j hj]
    refine ⟨_, h, _, rfl, w, rc, rm, fun hx rcx rmx => ⟨sI hx 51 0 0, ?_, told_by rcx rmx⟩⟩
    have m3 : Mcor m cr hx := rmx.2.2.1
    unfold F_X9_core
    rw [m3.1, p_ixY N hj (by omega), bnd2_p, p_may, bnd2_p]
    simp +decide only [if_false, if_true]
    rw [grd_t (xin_nI (show j < 20 by omega) (by decide)), nI_cl (by omega), ((FL.i hx rfl : FL [(51,0,1)] hx (sI hx 51 0 0)).1 57 j rfl).1, m3.2 j hj]
