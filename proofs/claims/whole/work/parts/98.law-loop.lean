/-! THE LAW: its loop -/
theorem law_le {j L : Nat} (hj : j ≤ 512) (hL : L ≤ 2048) (hc : ¬ Int32.ofNat L - 4 < nI (4 * j)) : 4 * j + 4 ≤ L := by
  rcases Nat.lt_or_ge L 4 with h4 | h4
  · exfalso
    apply hc
    rw [Int32.lt_iff_toInt_lt, nI_toInt (by omega)]
    have h : (Int32.ofNat L - 4).toInt < 0 := by
      rcases (show L = 0 ∨ L = 1 ∨ L = 2 ∨ L = 3 by omega) with rfl | rfl | rfl | rfl <;> decide
    omega
  · have e : Int32.ofNat L - 4 = nI (L - 4) := by
      have h1 : nI (L - 4) + 4 = nI L := by
        rw [show (4 : Int32) = nI 4 from rfl, nI_add]
        congr 1
        omega
      rw [show Int32.ofNat L = nI L from rfl, ← h1]
      exact Int32.add_sub_cancel _ _
    rw [e, nI_ltI (by omega) (by omega)] at hc
    omega
theorem law_in {j L r : Nat} (hr : r < 4) (hL : L ≤ 2048) (h : 4 * j + 4 ≤ L) : vp_in (nI (4 * j) + nI r) L := by
  rw [nI_add]
  exact vp_in_nI (by omega) (by omega)
set_option maxHeartbeats 4000000 in
set_option maxRecDepth 100000 in
theorem law_loop {G : xG} {p : Program} {l : Launch} {e : Env} {s : State} {m : MethodId} {b L : Nat} {xs : Nat → Int32} {below : List Frame} {meth : Method} {c : Code} (C : lC G p s m meth c b L xs) (hlt : l.stackTraces = false) (hL : L ≤ 2048) : ∀ (z j : Nat) (a : Ab) (h : xHp), j ≤ 512 → 513 - j < z → RW a → RC a h → RM a h → xL G p l e s m b below meth c 23 (lvL G b (nI (4 * j))) [] h (78 + j) (24722 + 6 * j) := by
  intro z
  induction z with
  | zero => intro j a h _ hz; omega
  | succ z ih =>
    intro j a h hj hz w rc rm
    refine l_iload C dL_law_23 0 rfl ?_
    refine l_aload_n C dL_law_25 rfl 4 rfl ?_
    refine l_alen C dL_law_26 ?_
    refine l_iconst (v := 4) C dL_law_27 rfl ?_
    refine l_isub C dL_law_28 ?_
    refine l_icmp_gt (tgt := 1180) C dL_law_29 (by decide) (fun _ => ?_) (fun hc => ?_)
    · refine l_iconst (v := 1) C dL_law_1180 rfl ?_
      exact l_ret C (by omega) (by omega) dL_law_1181
    · have hle : 4 * j + 4 ≤ L := law_le hj hL hc
      have hi0 : vp_in (nI (4 * j)) L := vp_in_nI (by omega) (by omega)
      have hi1 : vp_in (nI (4 * j) + 1) L := law_in (r := 1) (by decide) hL hle
      have hi2 : vp_in (nI (4 * j) + 2) L := law_in (r := 2) (by decide) hL hle
      have hi3 : vp_in (nI (4 * j) + 3) L := law_in (r := 3) (by decide) hL hle
      refine l_aload_n C dL_law_32 rfl 4 rfl ?_
      refine l_iload C dL_law_33 0 rfl ?_
      refine l_iald C hi0 dL_law_35 ?_
      refine l_bipush (v := 31) C dL_law_36 rfl ?_
      refine l_iand C dL_law_38 ?_
      generalize (xs (nI (4 * j)).toNatClampNeg &&& 31) = v
      have kk : ∀ (a1 : Ab) (h1 : xHp), RW a1 → RC a1 h1 → RM a1 h1 → xL G p l e s m b below meth c 1174 (lvL G b (nI (4 * j))) [] h1 (78 + j + 1) (24722 + 6 * j + 6) := fun a1 h1 w1 r1 m1 => by
        refine l_iinc (j := 0) (v := nI (4 * (j + 1))) (lv' := lvL G b (nI (4 * (j + 1)))) C dL_law_1174 rfl (by rw [show Int32.ofInt 4 = nI 4 from rfl, nI_add]; congr 1) (by decide) rfl ?_
        refine l_goto (tgt := 23) C dL_law_1177 (by decide) ?_
        exact ih (j + 1) a1 h1 (by omega) (by omega) w1 r1 m1
      by_cases hv : v.toInt < 0 ∨ 20 < v.toInt
      · refine l_tableOut (tgt := 1174) C dL_law_39 hv (by decide) ?_
        refine l_wide (k1 := 78 + j + 1) (n1 := 24722 + 6 * j + 6) (by omega) (by omega) ?_
        exact kk a h w rc rm
      · rcases (show v.toInt = 0 ∨ v.toInt = 1 ∨ v.toInt = 2 ∨ v.toInt = 3 ∨ v.toInt = 4 ∨ v.toInt = 5 ∨ v.toInt = 6 ∨ v.toInt = 7 ∨ v.toInt = 8 ∨ v.toInt = 9 ∨ v.toInt = 10 ∨ v.toInt = 11 ∨ v.toInt = 12 ∨ v.toInt = 13 ∨ v.toInt = 14 ∨ v.toInt = 15 ∨ v.toInt = 16 ∨ v.toInt = 17 ∨ v.toInt = 18 ∨ v.toInt = 19 ∨ v.toInt = 20 by omega) with hv | hv | hv | hv | hv | hv | hv | hv | hv | hv | hv | hv | hv | hv | hv | hv | hv | hv | hv | hv | hv
        · exact l_tableIn (tgt := 136) (off := 97) C dL_law_39 (by rw [hv]; decide) (by rw [hv]; decide) (by rw [hv]; rfl) (by decide) (cs_add C hlt hi1 hi2 hi3 w rc rm (by omega) (by omega) kk)
        · exact l_tableIn (tgt := 216) (off := 177) C dL_law_39 (by rw [hv]; decide) (by rw [hv]; decide) (by rw [hv]; rfl) (by decide) (cs_push C hlt hi1 hi2 hi3 w rc rm (by omega) (by omega) kk)
        · exact l_tableIn (tgt := 260) (off := 221) C dL_law_39 (by rw [hv]; decide) (by rw [hv]; decide) (by rw [hv]; rfl) (by decide) (cs_pop C hlt hi1 hi2 hi3 w rc rm (by omega) (by omega) kk)
        · exact l_tableIn (tgt := 316) (off := 277) C dL_law_39 (by rw [hv]; decide) (by rw [hv]; decide) (by rw [hv]; rfl) (by decide) (cs_core C hlt hi1 hi2 hi3 w rc rm (by omega) (by omega) kk)
        · exact l_tableIn (tgt := 372) (off := 333) C dL_law_39 (by rw [hv]; decide) (by rw [hv]; decide) (by rw [hv]; rfl) (by decide) (cs_value C hlt hi1 hi2 hi3 w rc rm (by omega) (by omega) kk)
        · exact l_tableIn (tgt := 427) (off := 388) C dL_law_39 (by rw [hv]; decide) (by rw [hv]; decide) (by rw [hv]; rfl) (by decide) (cs_bound C hlt hi1 hi2 hi3 w rc rm (by omega) (by omega) kk)
        · exact l_tableIn (tgt := 494) (off := 455) C dL_law_39 (by rw [hv]; decide) (by rw [hv]; decide) (by rw [hv]; rfl) (by decide) (cs_why C hlt hi1 hi2 hi3 w rc rm (by omega) (by omega) kk)
        · exact l_tableIn (tgt := 574) (off := 535) C dL_law_39 (by rw [hv]; decide) (by rw [hv]; decide) (by rw [hv]; rfl) (by decide) (cs_constraint C hlt hi1 hi2 hi3 w rc rm (by omega) (by omega) kk)
        · exact l_tableIn (tgt := 642) (off := 603) C dL_law_39 (by rw [hv]; decide) (by rw [hv]; decide) (by rw [hv]; rfl) (by decide) (cs_feed C hlt hi1 hi2 hi3 w rc rm (by omega) (by omega) kk)
        · exact l_tableIn (tgt := 742) (off := 703) C dL_law_39 (by rw [hv]; decide) (by rw [hv]; decide) (by rw [hv]; rfl) (by decide) (cs_read C hlt hi1 hi2 hi3 w rc rm (by omega) (by omega) kk)
        · exact l_tableIn (tgt := 755) (off := 716) C dL_law_39 (by rw [hv]; decide) (by rw [hv]; decide) (by rw [hv]; rfl) (by decide) (cs_fault C hlt hi1 hi2 hi3 w rc rm (by omega) (by omega) kk)
        · exact l_tableIn (tgt := 768) (off := 729) C dL_law_39 (by rw [hv]; decide) (by rw [hv]; decide) (by rw [hv]; rfl) (by decide) (cs_atom C hlt hi1 hi2 hi3 w rc rm (by omega) (by omega) kk)
        · exact l_tableIn (tgt := 836) (off := 797) C dL_law_39 (by rw [hv]; decide) (by rw [hv]; decide) (by rw [hv]; rfl) (by decide) (cs_ways C hlt hi1 hi2 hi3 w rc rm (by omega) (by omega) kk)
        · exact l_tableIn (tgt := 849) (off := 810) C dL_law_39 (by rw [hv]; decide) (by rw [hv]; decide) (by rw [hv]; rfl) (by decide) (cs_way C hlt hi1 hi2 hi3 w rc rm (by omega) (by omega) kk)
        · exact l_tableIn (tgt := 874) (off := 835) C dL_law_39 (by rw [hv]; decide) (by rw [hv]; decide) (by rw [hv]; rfl) (by decide) (cs_valueIn C hlt hi1 hi2 hi3 w rc rm (by omega) (by omega) kk)
        · exact l_tableIn (tgt := 941) (off := 902) C dL_law_39 (by rw [hv]; decide) (by rw [hv]; decide) (by rw [hv]; rfl) (by decide) (cs_must C hlt hi1 hi2 hi3 w rc rm (by omega) (by omega) kk)
        · exact l_tableIn (tgt := 997) (off := 958) C dL_law_39 (by rw [hv]; decide) (by rw [hv]; decide) (by rw [hv]; rfl) (by decide) (cs_prove C hlt hi1 hi2 hi3 w rc rm (by omega) (by omega) kk)
        · exact l_tableIn (tgt := 1010) (off := 971) C dL_law_39 (by rw [hv]; decide) (by rw [hv]; decide) (by rw [hv]; rfl) (by decide) (cs_written C hlt hi1 hi2 hi3 w rc rm (by omega) (by omega) kk)
        · exact l_tableIn (tgt := 1066) (off := 1027) C dL_law_39 (by rw [hv]; decide) (by rw [hv]; decide) (by rw [hv]; rfl) (by decide) (cs_check C hlt hi1 hi2 hi3 w rc rm (by omega) (by omega) kk)
        · exact l_tableIn (tgt := 1107) (off := 1068) C dL_law_39 (by rw [hv]; decide) (by rw [hv]; decide) (by rw [hv]; rfl) (by decide) (cs_told C hlt hi1 hi2 hi3 w rc rm (by omega) (by omega) kk)
        · exact l_tableIn (tgt := 1163) (off := 1124) C dL_law_39 (by rw [hv]; decide) (by rw [hv]; decide) (by rw [hv]; rfl) (by decide) (cs_clear C hlt hi1 hi2 hi3 w rc rm (by omega) (by omega) kk)
