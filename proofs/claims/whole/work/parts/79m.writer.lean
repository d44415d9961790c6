/-! PROOFS WRITTEN: the text of a tree; the class's writer -/
def itm (n k : Nat) : List Nat := if k < n then (if k < 10 then [91, 48 + k % 10, 93] else [91, 48 + k / 10, 48 + k % 10, 93]) else [48 + (k - n)]
def its (n : Nat) : List Nat → List Nat
  | [] => []
  | k :: l => itm n k ++ its n l
noncomputable def rowO (Ex : Ed) (m : Nat) (q : Nat × Nat × Int) : Option (List Nat) := @dite _ (∃ l, ∃ J, Short Ex (okn m) q.1 J q.2.1 (-1 - q.2.2) ∧ RowOf Ex (okn m) q.1 J q.2.1 (-1 - q.2.2) l) (Classical.propDecidable _) (fun h => some (Classical.choose h)) (fun _ => none)
theorem rowO_some {Ex : Ed} {m J : Nat} {q : Nat × Nat × Int} {l : List Nat} (hs : Short Ex (okn m) q.1 J q.2.1 (-1 - q.2.2)) (hr : RowOf Ex (okn m) q.1 J q.2.1 (-1 - q.2.2) l) : rowO Ex m q = some l := by
  have ex : ∃ l, ∃ J, Short Ex (okn m) q.1 J q.2.1 (-1 - q.2.2) ∧ RowOf Ex (okn m) q.1 J q.2.1 (-1 - q.2.2) l := ⟨l, J, hs, hr⟩
  unfold rowO
  rw [dif_pos ex]
  obtain ⟨J', a, b⟩ := Classical.choose_spec ex
  have : J' = J := a.uni hs
  subst this
  rw [b.uni hr]
theorem rowO_none {Ex : Ed} {m : Nat} {q : Nat × Nat × Int} (hno : ∀ j s, Wk Ex (okn m) q.1 j q.2.1 s → ¬ s ≤ -1 - q.2.2) : rowO Ex m q = none := by
  unfold rowO
  rw [dif_neg]
  rintro ⟨l, J, ⟨⟨s, a, b⟩, _⟩, _⟩
  exact hno J s a b
noncomputable def leafO (n : Nat) (E A : Ed) (cs : List Nat) (d : Nat) (g : Nat → Nat) : Option (List Nat) := if jd g cs = 0 then some [46] else if d = 0 then none else (rowO (exE E n A g) (n + (d - 1)) (dif A g (d - 1))).map (fun l => [33, 48 + (d - 1)] ++ (its n l ++ [59]))
noncomputable def tree (n : Nat) (E A : Ed) (cs : List Nat) : Nat → Nat → (Nat → Nat) → List Nat
  | 0, d, g => (leafO n E A cs d g).getD []
  | f + 1, d, g => (leafO n E A cs d g).getD ([48 + d, 40] ++ (tree n E A cs f (d + 1) (upN g d 0) ++ ([44] ++ (tree n E A cs f (d + 1) (upN g d 2) ++ [41]))))
def TX (pre : List Nat) (h : xHp) : Prop := (pre.length ≤ 6000 ∧ gI h 49 4 = 0 ∧ gI h 28 1 = nI pre.length ∧ ∀ k, k < pre.length → gI h 29 k &&& 255 = nI (pre.getD k 0)) ∨ (6000 < pre.length ∧ gI h 49 4 = 1 ∧ gI h 28 1 = nI 6000)
def LTx : Lc := [(28,1,2),(29,0,0),(49,4,5)]
theorem TX.ag {pre : List Nat} {h h' : xHp} (a : Ag LTx h h') (t : TX pre h) : TX pre h' := by
  rcases t with ⟨t1, t2, t3, t4⟩ | ⟨t1, t2, t3⟩
  · exact Or.inl ⟨t1, (a 49 4 rfl).trans t2, (a 28 1 rfl).trans t3, fun k hk => by rw [a 29 k rfl]; exact t4 k hk⟩
  · exact Or.inr ⟨t1, (a 49 4 rfl).trans t2, (a 28 1 rfl).trans t3⟩
theorem TX.more {pre o : List Nat} {h : xHp} (t : TX pre h) (hl : gI h 49 4 = 1) : TX (pre ++ o) h := by
  rcases t with ⟨t1, t2, t3, t4⟩ | ⟨t1, t2, t3⟩
  · rw [t2] at hl; exact absurd hl (by decide)
  · exact Or.inr ⟨by rw [List.length_append]; omega, t2, t3⟩
theorem byte_b : ∀ b, b < 256 → (vp_nar .byte (nI b).toInt8.toInt32) &&& 255 = nI b := by decide +kernel
theorem getD_app_l {l o : List Nat} {k : Nat} (h : k < l.length) : (l ++ o).getD k 0 = l.getD k 0 := by
  simp [List.getD, List.getElem?_append_left h]
theorem getD_app_r {l o : List Nat} {k : Nat} (h : l.length ≤ k) : (l ++ o).getD k 0 = o.getD (k - l.length) 0 := by
  simp [List.getD, List.getElem?_append_right h]
theorem c_put (N : Nat) {pre : List Nat} {h : xHp} {b : Nat} (t : TX pre h) (hb : b < 256) : ∃ h', F_X7_put N (nI b) h = some ((), h') ∧ FL LTx h h' ∧ TX (pre ++ [b]) h' := by
  unfold F_X7_put F_X6_append_28 F_X6_append_28_19
  have full : gI h 28 1 = nI 6000 → 6000 ≤ pre.length → ∃ h', bnd2 (if gI h 28 1 < 0 then some ((0 : Int32), h) else if gI h 28 1 < 6000 then grd (xin (gI h 28 1) 6000) (bnd (sI h 29 (gI h 28 1).toNatClampNeg (vp_nar FieldType.byte (nI b).toInt8.toInt32)) fun h1 => bnd (sI h1 28 1 (gI h1 28 1 + 1)) fun h2 => some (1, h2)) else some (0, h)) (fun r1 h2 => if r1 = 0 then bnd (sI h2 49 4 1) fun h3 => some ((), h3) else some ((), h2)) = some ((), h') ∧ FL LTx h h' ∧ TX (pre ++ [b]) h' := by
    intro e he
    rw [e, if_neg (by decide), if_neg (by decide), bnd2_p, if_pos rfl, bnd_eq]
    refine ⟨_, rfl, FL.i h rfl, Or.inr ⟨by rw [List.length_append]; simp; omega, by rw [gI_sI, if_pos rfl, if_pos rfl], by rw [gI_sI, if_neg (by decide)]; exact e⟩⟩
  rcases t with ⟨t1, t2, t3, t4⟩ | ⟨t1, t2, t3⟩
  · by_cases q : pre.length = 6000
    · rw [q] at t3
      exact full t3 (by omega)
    · have ql : pre.length < 6000 := by omega
      rw [t3, if_neg (nI_pos (by omega)), if_pos (by rw [show (6000 : Int32) = nI 6000 from rfl]; exact nI_lt ql (by decide)), grd_t (xin_nI ql (by decide)), nI_cl (by omega), bnd_eq, gI_sI, if_neg (by decide), t3, nI_1, bnd_eq, bnd2_p, if_neg (by decide)]
      refine ⟨_, rfl, (FL.i h rfl).trans (FL.i _ rfl), Or.inl ⟨by rw [List.length_append]; simp; omega, ?_, ?_, fun k hk => ?_⟩⟩
      · simp +decide only [gI_sI, if_false]; exact t2
      · rw [gI_sI, if_pos rfl, if_pos rfl, List.length_append]; rfl
      · rw [List.length_append] at hk
        have hk' : k < pre.length + 1 := hk
        simp +decide only [gI_sI, if_false, if_true]
        by_cases qk : k = pre.length
        · subst qk
          rw [if_pos rfl, byte_b b hb, getD_app_r (Nat.le_refl _), Nat.sub_self]
          rfl
        · rw [if_neg qk, getD_app_l (by omega)]
          exact t4 k (by omega)
  · exact full t3 (by omega)
theorem app1 (pre : List Nat) (a : Nat) (l : List Nat) : pre ++ [a] ++ l = pre ++ (a :: l) := by simp
theorem c_item (N : Nat) {pre : List Nat} {h : xHp} {n k : Nat} (t : TX pre h) (hn : gI h 49 3 = nI n) (hn6 : n ≤ 60) (hk : k < 100) : ∃ h', F_X7_writeItem N (nI k) h = some ((), h') ∧ FL LTx h h' ∧ TX (pre ++ itm n k) h' := by
  unfold F_X7_writeItem F_X7_writeItem_45 itm
  rw [hn]
  have d1 : (48 : Int32) + (nI k - nI k / 10 * 10) = nI (48 + k % 10) := by rw [show (10 : Int32) = nI 10 from rfl, pk_rem (by omega) (by decide) (by decide), show (48 : Int32) = nI 48 from rfl, nI_add]
  have d2 : (48 : Int32) + nI k / 10 = nI (48 + k / 10) := by rw [show (10 : Int32) = nI 10 from rfl, pk_div (by omega) (by decide) (by decide), show (48 : Int32) = nI 48 from rfl, nI_add]
  by_cases q : k < n
  · rw [if_pos (nI_lt q (by omega)), if_pos q]
    obtain ⟨h1, e1, f1, t1⟩ := c_put N (b := 91) t (by decide)
    rw [show (91 : Int32) = nI 91 from rfl, e1, bnd2_p, d1, d2]
    by_cases q2 : k < 10
    · rw [if_pos (by rw [show (10 : Int32) = nI 10 from rfl]; exact nI_lt q2 (by decide)), if_pos q2]
      obtain ⟨h2, e2, f2, t2⟩ := c_put N (b := 48 + k % 10) t1 (by omega)
      obtain ⟨h3, e3, f3, t3⟩ := c_put N (b := 93) t2 (by omega)
      rw [e2, bnd2_p, show (93 : Int32) = nI 93 from rfl, e3, bnd2_p]
      rw [app1, app1] at t3
      exact ⟨h3, rfl, f1.trans (f2.trans f3), t3⟩
    · rw [if_neg (by rw [show (10 : Int32) = nI 10 from rfl]; exact nI_nlt (by omega) (by omega)), if_neg q2]
      obtain ⟨h4, e4, f4, t4⟩ := c_put N (b := 48 + k / 10) t1 (by omega)
      obtain ⟨h2, e2, f2, t2⟩ := c_put N (b := 48 + k % 10) t4 (by omega)
      obtain ⟨h3, e3, f3, t3⟩ := c_put N (b := 93) t2 (by omega)
      rw [e4, bnd2_p, e2, bnd2_p, show (93 : Int32) = nI 93 from rfl, e3, bnd2_p]
      rw [app1, app1, app1] at t3
      exact ⟨h3, rfl, f1.trans (f4.trans (f2.trans f3)), t3⟩
  · rw [if_neg (nI_nlt (by omega) (by omega)), if_neg q]
    obtain ⟨h1, e1, f1, t1⟩ := c_put N (b := 48 + (k - n)) t (by omega)
    have d3 : (48 : Int32) + nI k - nI n = nI (48 + (k - n)) := by rw [show (48 : Int32) = nI 48 from rfl, nI_add, pk_sub (by omega)]; congr 1; omega
    rw [d3, e1, bnd2_p]
    exact ⟨h1, rfl, f1, t1⟩
theorem c_round_go (N : Nat) {n : Nat} (hn6 : n ≤ 60) : ∀ (l : List Nat) (z i : Nat) (pre : List Nat) (h : xHp), l.length < z → i + l.length ≤ 15 → gI h 1 5 = nI (i + l.length) → (∀ k, k < l.length → gI h 5 (i + k) = nI (l.getD k 0)) → (∀ e, e ∈ l → e < 100) → gI h 49 3 = nI n → TX pre h → ∃ h', xit (F_X7_writeRound_16_b N) (fun _ _ => none) z (nI i) h = some ((), h') ∧ FL LTx h h' ∧ TX (pre ++ (its n l ++ [59])) h' := by
  intro l
  induction l with
  | nil =>
    intro z i pre h h1 h2 h3 h4 h5 h6 t
    cases z with
    | zero => exact absurd h1 (Nat.not_lt_zero _)
    | succ z =>
      rw [List.length_nil, Nat.add_zero] at h3
      obtain ⟨h', e', f', t'⟩ := c_put N (b := 59) t (by decide)
      refine ⟨h', ?_, f', t'⟩
      show F_X7_writeRound_16_b N _ (nI i) h = _
      unfold F_X7_writeRound_16_b
      rw [h3, if_pos (Int32.le_refl _), show (59 : Int32) = nI 59 from rfl, e', bnd2_p]
  | cons k l ih =>
    intro z i pre h h1 h2 h3 h4 h5 h6 t
    cases z with
    | zero => exact absurd h1 (Nat.not_lt_zero _)
    | succ z =>
      rw [List.length_cons] at h1 h2 h3
      have hk0 := h4 0 (by simp)
      have hk : gI h 5 i = nI k := hk0
      obtain ⟨h3', e3, f3, t3⟩ := c_item N (k := k) t h6 hn6 (h5 k (by simp))
      obtain ⟨h', e', f', t'⟩ := ih z (i + 1) (pre ++ itm n k) h3' (by omega) (by omega) (by rw [(f3.1 1 5 rfl).1, h3]; congr 1; omega) (fun j hj => by
        rw [(f3.1 5 _ rfl).1, show i + 1 + j = i + (j + 1) by omega, h4 (j + 1) (by rw [List.length_cons]; omega)]
        rfl) (fun e he => h5 e (by simp [he])) (by rw [(f3.1 49 3 rfl).1]; exact h6) t3
      refine ⟨h', ?_, f3.trans f', ?_⟩
      · show F_X7_writeRound_16_b N (xit (F_X7_writeRound_16_b N) (fun _ _ => none) z) (nI i) h = _
        rw [← e']
        generalize xit (F_X7_writeRound_16_b N) (fun _ _ => none) z = K
        unfold F_X7_writeRound_16_b
        rw [h3, if_neg (nI_ge (by omega) (by omega)), grd_t (xin_nI (show i < 16 by omega) (by decide)), nI_cl (by omega), hk, e3, bnd2_p, nI_1]
      · have : pre ++ (its n (k :: l) ++ [59]) = pre ++ itm n k ++ (its n l ++ [59]) := by
          show pre ++ ((itm n k ++ its n l) ++ [59]) = _
          simp
        rw [this]
        exact t'
def LWt : Lc := LN ++ (LApp ++ [(34,0,0),(36,0,0),(28,1,2),(29,0,0),(49,4,5)])
theorem Pre.d1 {d p t : Nat} {g : Nat → Nat} (h : Pre d p g) {k : Nat} (hk : k < d) : g k ≤ 2 := h.le k
theorem c_tree (N : Nat) (hN : 300 ≤ N) {n an : Nat} {E A : Ed} {cs : List Nat} (pf : PF n E an A cs) : ∀ (z f d p : Nat) (g : Nat → Nat) (pre : List Nat) (h : xHp), f + d = an → f < z → Pre d p g → Ccon (n + (d - 1)) (exE E n A g) h → Epot (n + (d - 1)) (exE E n A g) → Cfor an A cs h → (∀ k, k < 10 → gI h 34 k = nI (g k)) → gI h 49 3 = nI n → TX pre h → ∃ h', xit (F_X7_writeTree_r N) (fun _ _ => none) z (nI d) h = some ((), h') ∧ FL LWt h h' ∧ Ccon (n + (d - 1)) (exE E n A g) h' ∧ (∀ k, k < 10 → gI h' 34 k = nI (g k)) ∧ TX (pre ++ tree n E A cs f d g) h' := by
  obtain ⟨hw, hn6, hA, hf, _⟩ := pf
  have han := hf.1
  intro z
  induction z with
  | zero => intro f d p g pre h _ h2; omega
  | succ z ih =>
    intro f d p g pre h h1 h2 hp rc po rf hg hc t
    show ∃ h', F_X7_writeTree_r N (xit (F_X7_writeTree_r N) (fun _ _ => none) z) (nI d) h = _ ∧ _
    generalize xit (F_X7_writeTree_r N) (fun _ _ => none) z = K at ih ⊢
    unfold F_X7_writeTree_r
    by_cases qf : gI h 49 4 = 0
    · rw [if_pos qf]
      obtain ⟨hj, ej, fj⟩ := c_judge N hN hf rf (fun k hk => hg k (by omega)) (fun k _ => hp.le k)
      have j2 : jd g cs ≤ 2 := (jd_mono hf (fun k _ => hp.le k) (fun k _ => hp.le k) (fun k _ => Or.inr rfl)).2
      have rcj := rc.ag (fj.ag rfl)
      have rfj := rf.ag (fj.ag rfl)
      have gj : ∀ k, k < 10 → gI hj 34 k = nI (g k) := fun k hk => by rw [(fj.1 34 k rfl).1]; exact hg k hk
      have tj := t.ag (fj.ag rfl)
      have nj : gI hj 49 3 = nI n := by rw [(fj.1 49 3 rfl).1]; exact hc
      rw [ej, bnd2_p, rc.1]
      by_cases q0 : jd g cs = 0
      · rw [if_pos (by rw [q0]; rfl)]
        have lf : leafO n E A cs d g = some [46] := by unfold leafO; rw [if_pos q0]
        have tr : tree n E A cs f d g = [46] := by cases f <;> (unfold tree; rw [lf]; rfl)
        obtain ⟨h3, e3, f3, t3⟩ := c_put N (b := 46) tj (by decide)
        obtain ⟨h4, e4, f4, c4⟩ := c_cutTo N (rcj.ag (f3.ag rfl)) (Nat.le_refl _) (by omega)
        refine ⟨h4, ?_, FL.cat fj (FL.cat f3 f4 rfl rfl : FL LWt _ _) rfl rfl, c4, fun k hk => ?_, ?_⟩
        · rw [show (46 : Int32) = nI 46 from rfl, e3, bnd2_p]
          unfold F_X7_writeTree_82
          rw [e4, bnd2_p]
        · rw [(f4.1 34 k rfl).1, (f3.1 34 k rfl).1]; exact gj k hk
        · rw [tr]; exact t3.ag (f4.ag rfl)
      · rw [if_neg (nI_ne0 (by omega) (by omega))]
        -- the branches, the net having taken the latest difference
        have br : ∀ hb, leafO n E A cs d g = none → Ccon (n + d) (exE E n A g) hb → Epot (n + d) (exE E n A g) → Cfor an A cs hb → (∀ k, k < 10 → gI hb 34 k = nI (g k)) → gI hb 49 3 = nI n → TX pre hb → ∃ h', F_X7_writeTree_66 N K (nI d) (nI (n + (d - 1))) hb = some ((), h') ∧ FL LWt hb h' ∧ Ccon (n + (d - 1)) (exE E n A g) h' ∧ (∀ k, k < 10 → gI h' 34 k = nI (g k)) ∧ TX (pre ++ tree n E A cs f d g) h' := by
          intro hb lf rcb pob rfb gb nb tb
          unfold F_X7_writeTree_66
          rw [rfb.1]
          by_cases qd : d = an
          · subst qd
            have f0 : f = 0 := by omega
            subst f0
            have tr : tree n E A cs 0 d g = [] := by unfold tree; rw [lf]; rfl
            obtain ⟨h4, e4, f4, c4⟩ := c_cutTo N (n := n + (d - 1)) rcb (by omega) (by omega)
            rw [if_pos (Int32.le_refl _)]
            unfold F_X7_writeTree_82
            rw [e4, bnd2_p, tr, List.append_nil]
            exact ⟨h4, rfl, FL.sub f4 rfl, c4, fun k hk => by rw [(f4.1 34 k rfl).1]; exact gb k hk, tb.ag (f4.ag rfl)⟩
          · have hd : d < an := by omega
            obtain ⟨f', rfl⟩ : ∃ f', f = f' + 1 := ⟨f - 1, by omega⟩
            have tr : tree n E A cs (f' + 1) d g = [48 + d, 40] ++ (tree n E A cs f' (d + 1) (upN g d 0) ++ ([44] ++ (tree n E A cs f' (d + 1) (upN g d 2) ++ [41]))) := by
              show (leafO n E A cs d g).getD _ = _
              rw [lf]; rfl
            have gu : ∀ {hx : xHp} {t : Nat}, (∀ k, k < 10 → k ≠ d → gI hx 34 k = nI (g k)) → ∀ k, k < 10 → gI (sI hx 34 d (nI t)) 34 k = nI (upN g d t k) := by
              intro hx t hh k hk
              rw [gI_sI, if_pos rfl]
              unfold upN
              by_cases q : k = d
              · rw [if_pos q, if_pos q]
              · rw [if_neg q, if_neg q]; exact hh k hk q
            have eqg : ∀ t k, k < d → g k = upN g d t k := fun t k hk => by unfold upN; rw [if_neg (by omega)]
            obtain ⟨a1, e1, f1, t1⟩ := c_put N (b := 48 + d) tb (by omega)
            obtain ⟨a2, e2, f2, t2⟩ := c_put N (b := 40) t1 (by decide)
            have f12 : FL LTx hb a2 := f1.trans f2
            have f3 : FL [(34,0,0)] a2 (sI a2 34 d (nI (2 * 0))) := FL.i a2 rfl
            have f13 : FL (LTx ++ [(34,0,0)]) hb (sI a2 34 d (nI (2 * 0))) := FL.cat f12 f3 rfl rfl
            obtain ⟨a4, e4, f4, c4, g4, t4⟩ := ih f' (d + 1) (2 * p + 0) (upN g d 0) (pre ++ [48 + d] ++ [40]) (sI a2 34 d (nI (2 * 0))) (by omega) (by omega) (hp.more (Or.inl rfl)) ((rcb.ag (f13.ag rfl)).congr (fun k hk => exE_congr (eqg 0) hk)) (pob.congr (fun k hk => exE_congr (eqg 0) hk)) (rfb.ag (f13.ag rfl)) (gu (fun k hk _ => by rw [(f12.1 34 k rfl).1]; exact gb k hk)) (by rw [(f13.1 49 3 rfl).1]; exact nb) (t2.ag (f3.ag rfl))
            obtain ⟨a5, e5, f5, t5⟩ := c_put N (b := 44) t4 (by decide)
            have f6 : FL [(34,0,0)] a5 (sI a5 34 d (nI (2 * 1))) := FL.i a5 rfl
            have f46 : FL LWt (sI a2 34 d (nI (2 * 0))) (sI a5 34 d (nI (2 * 1))) := FL.cat f4 (FL.cat f5 f6 rfl rfl : FL LWt _ _) rfl rfl
            have f56 : FL (LTx ++ [(34,0,0)]) a4 (sI a5 34 d (nI (2 * 1))) := FL.cat f5 f6 rfl rfl
            obtain ⟨a7, e7, f7, c7, g7, t7⟩ := ih f' (d + 1) (2 * p + 1) (upN g d 2) (pre ++ [48 + d] ++ [40] ++ tree n E A cs f' (d + 1) (upN g d 0) ++ [44]) (sI a5 34 d (nI (2 * 1))) (by omega) (by omega) (hp.more (Or.inr rfl)) ((c4.ag (f56.ag rfl)).congr (fun k hk => (exE_congr (eqg 0) hk).symm.trans (exE_congr (eqg 2) hk))) (pob.congr (fun k hk => exE_congr (eqg 2) hk)) ((rfb.ag (f13.ag rfl)).ag (f46.ag rfl)) (gu (fun k hk q => by rw [(f5.1 34 k rfl).1, g4 k hk]; unfold upN; rw [if_neg q])) (by rw [(f46.1 49 3 rfl).1, (f13.1 49 3 rfl).1]; exact nb) (t5.ag (f6.ag rfl))
            have f8 : FL [(34,0,0)] a7 (sI a7 34 d 1) := FL.i a7 rfl
            obtain ⟨a9, e9, f9, t9⟩ := c_put N (b := 41) (t7.ag (f8.ag rfl)) (by decide)
            have f89 : FL (LTx ++ [(34,0,0)]) a7 a9 := FL.cat f8 f9 rfl rfl
            obtain ⟨h4, e10, f10, c10⟩ := c_cutTo N (n := n + (d - 1)) (c7.ag (f89.ag rfl)) (by omega) (by omega)
            refine ⟨h4, ?_, FL.cat f13 (FL.cat f46 (FL.cat f7 (FL.cat f89 f10 rfl rfl : FL LWt _ _) rfl rfl : FL LWt _ _) rfl rfl : FL LWt _ _) rfl rfl, c10.congr (fun k hk => (exE_congr (d := d) (eqg 2) (by omega)).symm), fun k hk => ?_, ?_⟩
            · rw [if_neg (nI_ge hd (by omega))]
              unfold F_X7_writeBranches F_X7_writeTree_82
              have d48 : (48 : Int32) + nI d = nI (48 + d) := by rw [show (48 : Int32) = nI 48 from rfl, nI_add]
              have i10 : xin (nI d) 10 = true := xin_nI (by omega) (by decide)
              rw [d48, e1, bnd2_p, show (40 : Int32) = nI 40 from rfl, e2, bnd2_p, grd_t i10, nI_cl (by omega), bnd_eq, nI_1, show (0 : Int32) = nI (2 * 0) from rfl, e4, bnd2_p, show (44 : Int32) = nI 44 from rfl, e5, bnd2_p, grd_t i10, bnd_eq, show (2 : Int32) = nI (2 * 1) from rfl, e7, bnd2_p, grd_t i10, bnd_eq, show (41 : Int32) = nI 41 from rfl, e9, bnd2_p, bnd2_p, e10, bnd2_p]
            · rw [(f10.1 34 k rfl).1, (f9.1 34 k rfl).1, gI_sI, if_pos rfl]
              by_cases q : k = d
              · rw [if_pos q, q, hp.2.1 d (Nat.le_refl d)]; rfl
              · rw [if_neg q, g7 k hk]; unfold upN; rw [if_neg q]
            · rw [tr]
              have e : pre ++ ([48 + d, 40] ++ (tree n E A cs f' (d + 1) (upN g d 0) ++ ([44] ++ (tree n E A cs f' (d + 1) (upN g d 2) ++ [41])))) = pre ++ [48 + d] ++ [40] ++ tree n E A cs f' (d + 1) (upN g d 0) ++ [44] ++ tree n E A cs f' (d + 1) (upN g d 2) ++ [41] := by simp
              rw [e]
              exact t9.ag (f10.ag rfl)
        by_cases qd : d = 0
        · subst qd
          have lf : leafO n E A cs 0 g = none := by unfold leafO; rw [if_neg q0, if_pos rfl]
          obtain ⟨h', e', f', r'⟩ := br hj lf rcj po rfj gj nj tj
          exact ⟨h', by rw [if_pos (by decide)]; exact e', FL.cat fj f' rfl rfl, r'⟩
        · have hd1 : d - 1 < an := by omega
          have dm : nI d - 1 = nI (d - 1) := by rw [show (1 : Int32) = nI 1 from rfl, pk_sub (by omega)]
          rw [if_neg (nI_nle (by omega) (by omega)), dm]
          rcases c_joins N hN (d := d - 1) (g := g) (hw.ex hA (by omega) (by omega)) po rcj (by omega) rfj hA han hd1 (gj (d - 1) (by omega)) (hp.le (d - 1)) with ⟨J, l, h3, b1, b2, b3, b4, b5, b6, b7⟩ | ⟨b1, h3, b2, b3, b4⟩
          · have lf : leafO n E A cs d g = some ([33, 48 + (d - 1)] ++ (its n l ++ [59])) := by
              unfold leafO
              rw [if_neg q0, if_neg qd, rowO_some b2 b3]
              rfl
            have tr : tree n E A cs f d g = [33, 48 + (d - 1)] ++ (its n l ++ [59]) := by cases f <;> (unfold tree; rw [lf]; rfl)
            have hlen := b3.len
            obtain ⟨a1, e1, f1, t1⟩ := c_put N (b := 33) (tj.ag (b5.ag rfl)) (by decide)
            obtain ⟨a2, e2, f2, t2⟩ := c_put N (b := 48 + (d - 1)) t1 (by omega)
            have f12 : FL LTx h3 a2 := f1.trans f2
            obtain ⟨a3, e3, f3, t3⟩ := c_round_go N hn6 l N 0 (pre ++ [33] ++ [48 + (d - 1)]) a2 (by omega) (by omega) (by rw [(f12.1 1 5 rfl).1, b6, Nat.zero_add, hlen]) (fun k hk => by rw [(f12.1 5 _ rfl).1, Nat.zero_add]; exact b7 k (by omega)) (fun e he => by have : e < n + (d - 1) := b3.ok e he; omega) (by rw [(f12.1 49 3 rfl).1, (b5.1 49 3 rfl).1]; exact nj) t2
            have f123 : FL LTx h3 a3 := f12.trans f3
            obtain ⟨h4, e10, f10, c10⟩ := c_cutTo N (n := n + (d - 1)) ((rcj.ag (b5.ag rfl)).ag (f123.ag rfl)) (Nat.le_refl _) (by omega)
            refine ⟨h4, ?_, FL.cat fj (FL.cat b5 (FL.cat f123 f10 rfl rfl : FL LWt _ _) rfl rfl : FL LWt _ _) rfl rfl, c10, fun k hk => ?_, ?_⟩
            · rw [b4, bnd2_p, if_pos rfl]
              unfold F_X7_writeRound F_X7_writeRound_16 F_X7_writeTree_82
              have d48 : (48 : Int32) + nI (d - 1) = nI (48 + (d - 1)) := by rw [show (48 : Int32) = nI 48 from rfl, nI_add]
              rw [show (33 : Int32) = nI 33 from rfl, e1, bnd2_p, d48, e2, bnd2_p, show (0 : Int32) = nI 0 from rfl, e3, bnd2_p, e10, bnd2_p]
            · rw [(f10.1 34 k rfl).1, (f123.1 34 k rfl).1, (b5.1 34 k rfl).1]; exact gj k hk
            · rw [tr]
              have e : pre ++ ([33, 48 + (d - 1)] ++ (its n l ++ [59])) = pre ++ [33] ++ [48 + (d - 1)] ++ (its n l ++ [59]) := by simp
              rw [e]
              exact t3.ag (f10.ag rfl)
          · have lf : leafO n E A cs d g = none := by
              unfold leafO
              rw [if_neg q0, if_neg qd, rowO_none b1]
              rfl
            have ee : ∀ k, k < n + (d - 1) + 1 → upE (exE E n A g) (n + (d - 1)) (dif A g (d - 1)) k = exE E n A g k := fun k hk => exE_up (fun _ _ => rfl) hk
            have nd : n + (d - 1) + 1 = n + d := by omega
            have b4' : Ccon (n + d) (exE E n A g) h3 := nd ▸ b4.congr ee
            have po' : Epot (n + d) (exE E n A g) := nd ▸ (po.more b1).congr ee
            obtain ⟨h', e', f', r'⟩ := br h3 lf b4' po' (rfj.ag (b3.ag rfl)) (fun k hk => by rw [(b3.1 34 k rfl).1]; exact gj k hk) (by rw [(b3.1 49 3 rfl).1]; exact nj) (tj.ag (b3.ag rfl))
            exact ⟨h', by rw [b2, bnd2_p, if_neg (by decide)]; exact e', FL.cat fj (FL.cat b3 f' rfl rfl : FL LWt _ _) rfl rfl, r'⟩
    · rw [if_neg qf]
      have q1 : gI h 49 4 = 1 := by
        rcases t with ⟨_, t2, _⟩ | ⟨_, t2, _⟩
        · exact absurd t2 qf
        · exact t2
      exact ⟨h, rfl, Fr.rf, rc, hg, t.more q1⟩
