/-! FRAMES BY LISTS: (cell, first place, place behind the last; 0: no end) -/
abbrev Lc : Type := List (Nat × Nat × Nat)
def inL (L : Lc) (c k : Nat) : Bool := L.any fun q => q.1 == c && (Nat.ble q.2.1 k && (q.2.2 == 0 || Nat.blt k q.2.2))
def djL (L M : Lc) : Bool := L.all fun p => M.all fun q => p.1 != q.1 || ((p.2.2 != 0 && Nat.ble p.2.2 q.2.1) || (q.2.2 != 0 && Nat.ble q.2.2 p.2.1))
def sbL (L M : Lc) : Bool := L.all fun p => M.any fun q => p.1 == q.1 && (Nat.ble q.2.1 p.2.1 && (q.2.2 == 0 || (p.2.2 != 0 && Nat.ble p.2.2 q.2.2)))
theorem inL_iff {L : Lc} {c k : Nat} : inL L c k = true ↔ ∃ q ∈ L, q.1 = c ∧ q.2.1 ≤ k ∧ (q.2.2 = 0 ∨ k < q.2.2) := by
  unfold inL
  simp only [List.any_eq_true, Bool.and_eq_true, Bool.or_eq_true, beq_iff_eq, Nat.ble_eq, Nat.blt_eq]
theorem djL_ok {L M : Lc} (h : djL L M = true) {c k : Nat} (hi : inL L c k = true) : inL M c k = false := by
  cases hm : inL M c k with
  | false => rfl
  | true =>
    obtain ⟨p, hp, p1, p2, p3⟩ := inL_iff.mp hi
    obtain ⟨q, hq, q1, q2, q3⟩ := inL_iff.mp hm
    unfold djL at h
    have := List.all_eq_true.mp (List.all_eq_true.mp h p hp) q hq
    simp only [Bool.or_eq_true, Bool.and_eq_true, bne_iff_ne, ne_eq, Nat.ble_eq] at this
    omega
theorem sbL_ok {L M : Lc} (h : sbL L M = true) {c k : Nat} (hi : inL L c k = true) : inL M c k = true := by
  obtain ⟨p, hp, p1, p2, p3⟩ := inL_iff.mp hi
  unfold sbL at h
  obtain ⟨q, hq, e⟩ := List.any_eq_true.mp (List.all_eq_true.mp h p hp)
  simp only [Bool.or_eq_true, Bool.and_eq_true, beq_iff_eq, bne_iff_ne, ne_eq, Nat.ble_eq] at e
  exact inL_iff.mpr ⟨q, hq, by omega, by omega, by omega⟩
abbrev FL (L : Lc) (h h' : xHp) : Prop := Fr (inL L) h h'
theorem FL.sub {L M : Lc} {h h' : xHp} (f : FL L h h') (s : sbL L M = true) : FL M h h' := Fr.mono f (fun c k hm => by
  cases hl : inL L c k with
  | false => rfl
  | true => rw [sbL_ok s hl] at hm; cases hm)
/-- the same in all the places of D -/
def Ag (D : Lc) (h h' : xHp) : Prop := ∀ c k, inL D c k = true → gI h' c k = gI h c k
theorem FL.ag {L D : Lc} {h h' : xHp} (f : FL L h h') (d : djL D L = true) : Ag D h h' := fun c k hi => (f.1 c k (djL_ok d hi)).1
theorem FL.of {P : Nat → Nat → Bool} {L : Lc} {h h' : xHp} (f : Fr P h h') (s : ∀ c k, P c k = true → inL L c k = true) : FL L h h' := Fr.mono f (fun c k hm => by
  cases hl : P c k with
  | false => rfl
  | true => rw [s c k hl] at hm; cases hm)
theorem FL.cat {L M K : Lc} {h h1 h2 : xHp} (a : FL L h h1) (b : FL M h1 h2) (s1 : sbL L K = true) (s2 : sbL M K = true) : FL K h h2 := Fr.trans (FL.sub a s1) (FL.sub b s2)
theorem FL.i {L : Lc} (h : xHp) {c k : Nat} {v : Int32} (hp : inL L c k = true) : FL L h (sI h c k v) := Fr.sI h hp
theorem FL.j {L : Lc} (h : xHp) {c k : Nat} {v : Int64} (hp : inL L c k = true) : FL L h (sJ h c k v) := Fr.sJ h hp
/-- what measure and traceRow write; what findRow of the reference writes -/
def LN : Lc := [(8,0,0),(9,0,0),(10,0,0),(11,0,0),(12,0,0),(13,0,0),(14,0,0),(15,0,0),(16,0,0),(17,0,0),(18,0,0),(19,0,0),(20,0,0),(21,0,0),(22,0,0),(23,0,0),(5,0,0),(1,7,8),(1,5,6)]
def LR : Lc := [(58,0,0),(59,0,0),(51,12,13)]
theorem PN_LN {h h' : xHp} (f : Fr PN h h') : FL LN h h' := FL.of f (fun c k hp => by
  unfold PN at hp
  simp only [Bool.or_eq_true, Bool.and_eq_true, decide_eq_true_eq, beq_iff_eq] at hp
  rw [inL_iff]
  rcases hp with (⟨a, b⟩ | rfl) | ⟨rfl, b⟩
  · refine ⟨(c, 0, 0), ?_, rfl, Nat.zero_le k, Or.inl rfl⟩
    have : c = 8 ∨ c = 9 ∨ c = 10 ∨ c = 11 ∨ c = 12 ∨ c = 13 ∨ c = 14 ∨ c = 15 ∨ c = 16 ∨ c = 17 ∨ c = 18 ∨ c = 19 ∨ c = 20 ∨ c = 21 ∨ c = 22 ∨ c = 23 := by omega
    rcases this with rfl | rfl | rfl | rfl | rfl | rfl | rfl | rfl | rfl | rfl | rfl | rfl | rfl | rfl | rfl | rfl <;> decide
  · exact ⟨(5, 0, 0), by decide, rfl, Nat.zero_le k, Or.inl rfl⟩
  · rcases b with rfl | rfl
    · exact ⟨(1, 7, 8), by decide, rfl, by decide, Or.inr (by decide)⟩
    · exact ⟨(1, 5, 6), by decide, rfl, by decide, Or.inr (by decide)⟩)
theorem PR_LR {h h' : xHp} (f : Fr PR h h') : FL LR h h' := FL.of f (fun c k hp => by
  unfold PR at hp
  simp only [Bool.or_eq_true, Bool.and_eq_true, beq_iff_eq] at hp
  rw [inL_iff]
  rcases hp with (rfl | rfl) | ⟨rfl, rfl⟩
  · exact ⟨(58, 0, 0), by decide, rfl, Nat.zero_le k, Or.inl rfl⟩
  · exact ⟨(59, 0, 0), by decide, rfl, Nat.zero_le k, Or.inl rfl⟩
  · exact ⟨(51, 12, 13), by decide, rfl, by decide, Or.inr (by decide)⟩)
theorem P55_L {h h' : xHp} (f : Fr P55 h h') : FL [(55,0,0)] h h' := FL.of f (fun c k hp => by
  unfold P55 at hp
  rw [beq_iff_eq] at hp
  rw [inL_iff]
  exact ⟨(55, 0, 0), by decide, hp.symm, Nat.zero_le k, Or.inl rfl⟩)
/-! WHAT CLASS AND REFERENCE HOLD: C.. of the class, M.. of the reference -/
def Ewf (n : Nat) (E : Ed) : Prop := n ≤ 70 ∧ ∀ k, k < n → (E k).1 < 16 ∧ (E k).2.1 < 16 ∧ -1000001 ≤ (E k).2.2 ∧ (E k).2.2 ≤ 1000001
def Epot (n : Nat) (E : Ed) : Prop := ∃ v : Nat → Int, Pot E (fun e => e < n) v
def Ccon (n : Nat) (E : Ed) (h : xHp) : Prop := gI h 1 3 = nI n ∧ ∀ k, k < n → gI h 2 k = nI (E k).1 ∧ gI h 3 k = nI (E k).2.1 ∧ (gI h 4 k).toInt = (E k).2.2
def Mcon (n : Nat) (E : Ed) (h : xHp) : Prop := n ≤ 60 ∧ gI h 51 1 = nI n ∧ ∀ k, k < n → gI h 52 k = nI (E k).1 ∧ gI h 53 k = nI (E k).2.1 ∧ (gI h 54 k).toInt = (E k).2.2
def DCcon : Lc := [(1,3,4),(2,0,0),(3,0,0),(4,0,0)]
def DMcon : Lc := [(51,1,2),(52,0,60),(53,0,60),(54,0,60)]
theorem Ccon.ag {n : Nat} {E : Ed} {h h' : xHp} (a : Ag DCcon h h') (r : Ccon n E h) : Ccon n E h' := by
  refine ⟨(a 1 3 rfl).trans r.1, fun k hk => ?_⟩
  rw [a 2 k rfl, a 3 k rfl, a 4 k rfl]
  exact r.2 k hk
theorem Mcon.ag {n : Nat} {E : Ed} {h h' : xHp} (a : Ag DMcon h h') (r : Mcon n E h) : Mcon n E h' := by
  refine ⟨r.1, (a 51 1 rfl).trans r.2.1, fun k hk => ?_⟩
  have hk6 : k < 60 := by have := r.1; omega
  rw [a 52 k (inL_iff.mpr ⟨(52, 0, 60), by decide, rfl, Nat.zero_le k, Or.inr hk6⟩), a 53 k (inL_iff.mpr ⟨(53, 0, 60), by decide, rfl, Nat.zero_le k, Or.inr hk6⟩), a 54 k (inL_iff.mpr ⟨(54, 0, 60), by decide, rfl, Nat.zero_le k, Or.inr hk6⟩)]
  exact r.2.2 k hk
def Lwf (L : Nat) (lp : Nat → Nat) (n : Nat) : Prop := L ≤ 20 ∧ (∀ k, k < L → lp k ≤ n) ∧ ∀ j k, j ≤ k → k < L → lp j ≤ lp k
def Clev (L : Nat) (lp : Nat → Nat) (h : xHp) : Prop := gI h 0 2 = nI L ∧ ∀ k, k < L → gI h 24 k = nI (lp k)
def Mlev (L : Nat) (lp : Nat → Nat) (h : xHp) : Prop := gI h 51 6 = nI L ∧ ∀ k, k < L → gI h 56 k = nI (lp k)
def DClev : Lc := [(0,2,3),(24,0,0)]
def DMlev : Lc := [(51,6,7),(56,0,0)]
theorem Clev.ag {L : Nat} {lp : Nat → Nat} {h h' : xHp} (a : Ag DClev h h') (r : Clev L lp h) : Clev L lp h' := ⟨(a 0 2 rfl).trans r.1, fun k hk => (a 24 k rfl).trans (r.2 k hk)⟩
theorem Mlev.ag {L : Nat} {lp : Nat → Nat} {h h' : xHp} (a : Ag DMlev h h') (r : Mlev L lp h) : Mlev L lp h' := ⟨(a 51 6 rfl).trans r.1, fun k hk => (a 56 k rfl).trans (r.2 k hk)⟩
def Ccor (m : Nat) (cr : Nat → Int32) (h : xHp) : Prop := gI h 0 4 = nI m ∧ ∀ k, k < m → gI h 25 k = cr k
def Mcor (m : Nat) (cr : Nat → Int32) (h : xHp) : Prop := gI h 51 8 = nI m ∧ ∀ k, k < m → gI h 57 k = cr k
def DCcor : Lc := [(0,4,5),(25,0,0)]
def DMcor : Lc := [(51,8,9),(57,0,0)]
theorem Ccor.ag {m : Nat} {cr : Nat → Int32} {h h' : xHp} (a : Ag DCcor h h') (r : Ccor m cr h) : Ccor m cr h' := ⟨(a 0 4 rfl).trans r.1, fun k hk => (a 25 k rfl).trans (r.2 k hk)⟩
theorem Mcor.ag {m : Nat} {cr : Nat → Int32} {h h' : xHp} (a : Ag DMcor h h') (r : Mcor m cr h) : Mcor m cr h' := ⟨(a 51 8 rfl).trans r.1, fun k hk => (a 57 k rfl).trans (r.2 k hk)⟩
def Twf (m n : Nat) (tb : Nat → Nat) : Prop := n ≤ m ∧ ∀ k, k < n → tb k < 256
def Ctap (n : Nat) (tb : Nat → Nat) (h : xHp) : Prop := gI h 26 1 = nI n ∧ ∀ k, k < n → gI h 27 k &&& 255 = nI (tb k)
def Mtap (n : Nat) (tb : Nat → Nat) (h : xHp) : Prop := gI h 51 15 = nI n ∧ ∀ k, k < n → gI h 61 k = nI (tb k)
def DCtap : Lc := [(26,1,2),(27,0,0)]
def DMtap : Lc := [(51,15,16),(61,0,0)]
theorem Ctap.ag {n : Nat} {tb : Nat → Nat} {h h' : xHp} (a : Ag DCtap h h') (r : Ctap n tb h) : Ctap n tb h' := ⟨(a 26 1 rfl).trans r.1, fun k hk => by rw [a 27 k rfl]; exact r.2 k hk⟩
theorem Mtap.ag {n : Nat} {tb : Nat → Nat} {h h' : xHp} (a : Ag DMtap h h') (r : Mtap n tb h) : Mtap n tb h' := ⟨(a 51 15 rfl).trans r.1, fun k hk => (a 61 k rfl).trans (r.2 k hk)⟩
def Cwri (n : Nat) (tb : Nat → Nat) (h : xHp) : Prop := gI h 28 1 = nI n ∧ ∀ k, k < n → gI h 29 k &&& 255 = nI (tb k)
def Mwri (n : Nat) (tb : Nat → Nat) (h : xHp) : Prop := gI h 51 43 = nI n ∧ ∀ k, k < n → gI h 73 k = nI (tb k)
def DCwri : Lc := [(28,1,2),(29,0,0)]
def DMwri : Lc := [(51,43,44),(73,0,0)]
theorem Cwri.ag {n : Nat} {tb : Nat → Nat} {h h' : xHp} (a : Ag DCwri h h') (r : Cwri n tb h) : Cwri n tb h' := ⟨(a 28 1 rfl).trans r.1, fun k hk => by rw [a 29 k rfl]; exact r.2 k hk⟩
theorem Mwri.ag {n : Nat} {tb : Nat → Nat} {h h' : xHp} (a : Ag DMwri h h') (r : Mwri n tb h) : Mwri n tb h' := ⟨(a 51 43 rfl).trans r.1, fun k hk => (a 73 k rfl).trans (r.2 k hk)⟩
/-- the reference's number of a code -/
def mcd (c : Nat) : Nat := if c < 10 then c else c + 10
def Cfor (an : Nat) (A : Ed) (cs : List Nat) (h : xHp) : Prop := gI h 30 3 = nI an ∧ (∀ k, k < an → gI h 31 k = nI (A k).1 ∧ gI h 32 k = nI (A k).2.1 ∧ (gI h 33 k).toInt = (A k).2.2) ∧ gI h 30 6 = nI cs.length ∧ ∀ i, i < cs.length → gI h 35 i = nI (cs.getD i 0)
def Mfor (an : Nat) (A : Ed) (cs : List Nat) (h : xHp) : Prop := gI h 51 24 = nI an ∧ (∀ k, k < an → gI h 62 k = nI (A k).1 ∧ gI h 63 k = nI (A k).2.1 ∧ (gI h 64 k).toInt = (A k).2.2) ∧ gI h 51 28 = nI cs.length ∧ ∀ i, i < cs.length → gI h 65 i = nI (mcd (cs.getD i 0))
def DCfor : Lc := [(30,3,4),(30,6,7),(31,0,0),(32,0,0),(33,0,0),(35,0,0)]
def DMfor : Lc := [(51,24,25),(51,28,29),(62,0,0),(63,0,0),(64,0,0),(65,0,0)]
theorem Cfor.ag {an : Nat} {A : Ed} {cs : List Nat} {h h' : xHp} (a : Ag DCfor h h') (r : Cfor an A cs h) : Cfor an A cs h' := by
  refine ⟨(a 30 3 rfl).trans r.1, fun k hk => ?_, (a 30 6 rfl).trans r.2.2.1, fun i hi => (a 35 i rfl).trans (r.2.2.2 i hi)⟩
  rw [a 31 k rfl, a 32 k rfl, a 33 k rfl]
  exact r.2.1 k hk
theorem Mfor.ag {an : Nat} {A : Ed} {cs : List Nat} {h h' : xHp} (a : Ag DMfor h h') (r : Mfor an A cs h) : Mfor an A cs h' := by
  refine ⟨(a 51 24 rfl).trans r.1, fun k hk => ?_, (a 51 28 rfl).trans r.2.2.1, fun i hi => (a 65 i rfl).trans (r.2.2.2 i hi)⟩
  rw [a 62 k rfl, a 63 k rfl, a 64 k rfl]
  exact r.2.1 k hk
def b32 (b : Bool) : Int32 := if b = true then 1 else 0
