/-! THE LAW'S SWITCH AND ITS LOOP -/
theorem lz_sw (x : Int32) : (∃ k : Nat, k < 35 ∧ x = nI k) ∨ (x.toInt < 0 ∨ 34 < x.toInt) := by
  rcases Int.lt_or_le x.toInt 0 with q | q
  · exact Or.inr (Or.inl q)
  · rcases Int.lt_or_le 34 x.toInt with q2 | q2
    · exact Or.inr (Or.inr q2)
    · refine Or.inl ⟨x.toInt.toNat, by omega, ?_⟩
      apply Int32.toInt_inj.mp
      rw [nI_toInt (by omega)]
      omega
set_option maxRecDepth 100000 in
set_option maxHeartbeats 8000000 in
theorem lz_switch {p : Program} {l : Launch} {e : Env} {s : State} {m : MethodId} {below : List Frame} {meth : Method} {c : Code} {H : Heap} {locs : List Loc} {Q : State → Prop} {kc ks b L : Nat} {xs : Nat → Int32} {ls : Array Slot} {D : va_G} {tX tY : Nat → ClassId} {aX aY : Nat → Nat} {Mx My : sr_M} {i : Nat} (hF : lz_F p s m c b L xs) (hZ : lz_Z D tX tY aX aY s Mx My H locs) (hR : Rel Mx My) (hroom : kc ≤ room_1.cells ∧ ks ≤ room_1.slots) (hi : i + 6 ≤ L) (hL : L ≤ 3072) (hl : lv_has ls 4 (lz_l aX aY b i)) (kk : lz_G p l e s m below meth c Q kc ks b D tX tY aX aY ls) (x : Int32) : W p l e room_1 s m #[Value.ref b] below meth c H locs kc ks Q (F0 m 33 ls [.int x]) := by
  rcases lz_sw x with ⟨k, hk, rfl⟩ | ho
  · match k, hk with
    | 0, _ => exact lv_tableIn (off := 155) (tgt := 188) hF.1 hF.2.1 dL_law_33 (by decide) (by decide) (by decide) (by decide) (lc_0 hF hZ hR hroom hi hL hl kk)
    | 1, _ => exact lv_tableIn (off := 178) (tgt := 211) hF.1 hF.2.1 dL_law_33 (by decide) (by decide) (by decide) (by decide) (lc_1 hF hZ hR hroom hi hL hl kk)
    | 2, _ => exact lv_tableIn (off := 211) (tgt := 244) hF.1 hF.2.1 dL_law_33 (by decide) (by decide) (by decide) (by decide) (lc_2 hF hZ hR hroom hi hL hl kk)
    | 3, _ => exact lv_tableIn (off := 244) (tgt := 277) hF.1 hF.2.1 dL_law_33 (by decide) (by decide) (by decide) (by decide) (lc_3 hF hZ hR hroom hi hL hl kk)
    | 4, _ => exact lv_tableIn (off := 293) (tgt := 326) hF.1 hF.2.1 dL_law_33 (by decide) (by decide) (by decide) (by decide) (lc_4 hF hZ hR hroom hi hL hl kk)
    | 5, _ => exact lv_tableIn (off := 342) (tgt := 375) hF.1 hF.2.1 dL_law_33 (by decide) (by decide) (by decide) (by decide) (lc_5 hF hZ hR hroom hi hL hl kk)
    | 6, _ => exact lv_tableIn (off := 381) (tgt := 414) hF.1 hF.2.1 dL_law_33 (by decide) (by decide) (by decide) (by decide) (lc_6 hF hZ hR hroom hi hL hl kk)
    | 7, _ => exact lv_tableIn (off := 414) (tgt := 447) hF.1 hF.2.1 dL_law_33 (by decide) (by decide) (by decide) (by decide) (lc_7 hF hZ hR hroom hi hL hl kk)
    | 8, _ => exact lv_tableIn (off := 447) (tgt := 480) hF.1 hF.2.1 dL_law_33 (by decide) (by decide) (by decide) (by decide) (lc_8 hF hZ hR hroom hi hL hl kk)
    | 9, _ => exact lv_tableIn (off := 470) (tgt := 503) hF.1 hF.2.1 dL_law_33 (by decide) (by decide) (by decide) (by decide) (lc_9 hF hZ hR hroom hi hL hl kk)
    | 10, _ => exact lv_tableIn (off := 513) (tgt := 546) hF.1 hF.2.1 dL_law_33 (by decide) (by decide) (by decide) (by decide) (lc_10 hF hZ hR hroom hi hL hl kk)
    | 11, _ => exact lv_tableIn (off := 596) (tgt := 629) hF.1 hF.2.1 dL_law_33 (by decide) (by decide) (by decide) (by decide) (lc_11 hF hZ hR hroom hi hL hl kk)
    | 12, _ => exact lv_tableIn (off := 639) (tgt := 672) hF.1 hF.2.1 dL_law_33 (by decide) (by decide) (by decide) (by decide) (lc_12 hF hZ hR hroom hi hL hl kk)
    | 13, _ => exact lv_tableIn (off := 702) (tgt := 735) hF.1 hF.2.1 dL_law_33 (by decide) (by decide) (by decide) (by decide) (lc_13 hF hZ hR hroom hi hL hl kk)
    | 14, _ => exact lv_tableIn (off := 725) (tgt := 758) hF.1 hF.2.1 dL_law_33 (by decide) (by decide) (by decide) (by decide) (lc_14 hF hZ hR hroom hi hL hl kk)
    | 15, _ => exact lv_tableIn (off := 759) (tgt := 792) hF.1 hF.2.1 dL_law_33 (by decide) (by decide) (by decide) (by decide) (lc_15 hF hZ hR hroom hi hL hl kk)
    | 16, _ => exact lv_tableIn (off := 812) (tgt := 845) hF.1 hF.2.1 dL_law_33 (by decide) (by decide) (by decide) (by decide) (lc_16 hF hZ hR hroom hi hL hl kk)
    | 17, _ => exact lv_tableIn (off := 825) (tgt := 858) hF.1 hF.2.1 dL_law_33 (by decide) (by decide) (by decide) (by decide) (lc_17 hF hZ hR hroom hi hL hl kk)
    | 18, _ => exact lv_tableIn (off := 838) (tgt := 871) hF.1 hF.2.1 dL_law_33 (by decide) (by decide) (by decide) (by decide) (lc_18 hF hZ hR hroom hi hL hl kk)
    | 19, _ => exact lv_tableIn (off := 861) (tgt := 894) hF.1 hF.2.1 dL_law_33 (by decide) (by decide) (by decide) (by decide) (lc_19 hF hZ hR hroom hi hL hl kk)
    | 20, _ => exact lv_tableIn (off := 884) (tgt := 917) hF.1 hF.2.1 dL_law_33 (by decide) (by decide) (by decide) (by decide) (lc_20 hF hZ hR hroom hi hL hl kk)
    | 21, _ => exact lv_tableIn (off := 907) (tgt := 940) hF.1 hF.2.1 dL_law_33 (by decide) (by decide) (by decide) (by decide) (lc_21 hF hZ hR hroom hi hL hl kk)
    | 22, _ => exact lv_tableIn (off := 930) (tgt := 963) hF.1 hF.2.1 dL_law_33 (by decide) (by decide) (by decide) (by decide) (lc_22 hF hZ hR hroom hi hL hl kk)
    | 23, _ => exact lv_tableIn (off := 963) (tgt := 996) hF.1 hF.2.1 dL_law_33 (by decide) (by decide) (by decide) (by decide) (lc_23 hF hZ hR hroom hi hL hl kk)
    | 24, _ => exact lv_tableIn (off := 986) (tgt := 1019) hF.1 hF.2.1 dL_law_33 (by decide) (by decide) (by decide) (by decide) (lc_24 hF hZ hR hroom hi hL hl kk)
    | 25, _ => exact lv_tableIn (off := 1019) (tgt := 1052) hF.1 hF.2.1 dL_law_33 (by decide) (by decide) (by decide) (by decide) (lc_25 hF hZ hR hroom hi hL hl kk)
    | 26, _ => exact lv_tableIn (off := 1032) (tgt := 1065) hF.1 hF.2.1 dL_law_33 (by decide) (by decide) (by decide) (by decide) (lc_26 hF hZ hR hroom hi hL hl kk)
    | 27, _ => exact lv_tableIn (off := 1055) (tgt := 1088) hF.1 hF.2.1 dL_law_33 (by decide) (by decide) (by decide) (by decide) (lc_27 hF hZ hR hroom hi hL hl kk)
    | 28, _ => exact lv_tableIn (off := 1088) (tgt := 1121) hF.1 hF.2.1 dL_law_33 (by decide) (by decide) (by decide) (by decide) (lc_28 hF hZ hR hroom hi hL hl kk)
    | 29, _ => exact lv_tableIn (off := 1121) (tgt := 1154) hF.1 hF.2.1 dL_law_33 (by decide) (by decide) (by decide) (by decide) (lc_29 hF hZ hR hroom hi hL hl kk)
    | 30, _ => exact lv_tableIn (off := 1144) (tgt := 1177) hF.1 hF.2.1 dL_law_33 (by decide) (by decide) (by decide) (by decide) (lc_30 hF hZ hR hroom hi hL hl kk)
    | 31, _ => exact lv_tableIn (off := 1167) (tgt := 1200) hF.1 hF.2.1 dL_law_33 (by decide) (by decide) (by decide) (by decide) (lc_31 hF hZ hR hroom hi hL hl kk)
    | 32, _ => exact lv_tableIn (off := 1180) (tgt := 1213) hF.1 hF.2.1 dL_law_33 (by decide) (by decide) (by decide) (by decide) (lc_32 hF hZ hR hroom hi hL hl kk)
    | 33, _ => exact lv_tableIn (off := 1213) (tgt := 1246) hF.1 hF.2.1 dL_law_33 (by decide) (by decide) (by decide) (by decide) (lc_33 hF hZ hR hroom hi hL hl kk)
    | 34, _ => exact lv_tableIn (off := 1226) (tgt := 1259) hF.1 hF.2.1 dL_law_33 (by decide) (by decide) (by decide) (by decide) (lc_34 hF hZ hR hroom hi hL hl kk)
    | k + 35, h => exact absurd h (by omega)
  · exact lv_tableOut (tgt := 1272) hF.1 hF.2.1 dL_law_33 ho (by decide) (kk _ _ _ _ hR hZ)
theorem lz_len {L : Nat} (hL : L ≤ 3072) {i : Nat} (hi : i ≤ 3078) (h : ¬ Int32.ofNat L - nI 6 < nI i) : i + 6 ≤ L := by
  have e : (Int32.ofNat L - nI 6).toInt = (L : Int) - 6 := by
    rw [show Int32.ofNat L = nI L from rfl, Int32.toInt_sub, nI_toInt (by omega), nI_toInt (by omega)]
    exact Int.bmod_eq_of_le (by omega) (by omega)
  rw [Int32.lt_iff_toInt_lt, e, nI_toInt (by omega)] at h
  omega
set_option maxRecDepth 100000 in
set_option maxHeartbeats 4000000 in
theorem lz_loop {p : Program} {l : Launch} {e : Env} {s : State} {m : MethodId} {below : List Frame} {meth : Method} {c : Code} {Q : State → Prop} {kc ks b L : Nat} {xs : Nat → Int32} {D : va_G} {tX tY : Nat → ClassId} {aX aY : Nat → Nat} (hF : lz_F p s m c b L xs) (hroom : kc ≤ room_1.cells ∧ ks ≤ room_1.slots) (hL : L ≤ 3072) (kk : ∀ (H : Heap) (locs : List Loc) (ls : Array Slot), va_S (lz_A s) s.heap H locs → W p l e room_1 s m #[Value.ref b] below meth c H locs kc ks Q (F0 m 1278 ls [])) :
    ∀ (n i : Nat) (Mx My : sr_M) (H : Heap) (locs : List Loc) (ls : Array Slot), L < i + n → i ≤ L + 6 → Rel Mx My → lz_Z D tX tY aX aY s Mx My H locs → lv_has ls 4 (lz_l aX aY b i) → W p l e room_1 s m #[Value.ref b] below meth c H locs kc ks Q (F0 m 18 ls []) := by
  intro n
  induction n using Nat.strongRecOn with
  | ind n ih =>
    intro i Mx My H locs ls hn hi hR hZ hl
    have hbA : ¬ lz_A s b := Nat.not_le.mpr hF.2.2.2.2.2.2
    refine lv_iload_n hF.1 hF.2.1 dL_law_18 rfl (lv_at hl 0 rfl) ?_
    refine lv_aload_n hF.1 hF.2.1 dL_law_19 rfl (lv_at hl 3 rfl) ?_
    refine va_slen hF.1 hF.2.1 hF.2.2.2.2.2.1 hF.2.2.2.2.2.2 hbA hZ.1.2.2.2 dL_law_20 ?_
    refine lv_bipush (v := nI 6) hF.1 hF.2.1 dL_law_21 (by decide) ?_
    refine lv_isub hF.1 hF.2.1 dL_law_23 ?_
    refine lv_icmp_gt (tgt := 1278) hF.1 hF.2.1 dL_law_24 (by decide) (fun _ => kk _ _ _ hZ.1.2.2.2) (fun hc => ?_)
    have h6 : i + 6 ≤ L := lz_len hL (by omega) hc
    refine lv_aload_n hF.1 hF.2.1 dL_law_27 rfl (lv_at hl 3 rfl) ?_
    refine lv_iload_n hF.1 hF.2.1 dL_law_28 rfl (lv_at hl 0 rfl) ?_
    refine va_sld hF.1 hF.2.1 hF.2.2.2.2.2.1 hF.2.2.2.2.2.2 hbA hZ.1.2.2.2 (vp_in_nI (by omega) (by omega)) dL_law_29 ?_
    refine lv_bipush (v := 63) hF.1 hF.2.1 dL_law_30 (by decide) ?_
    refine lv_iand hF.1 hF.2.1 dL_law_32 ?_
    refine lz_switch hF hZ hR hroom h6 hL hl ?_ _
    intro Mx2 My2 H2 locs2 hR2 hZ2
    refine lv_iinc (v := nI (i + 6)) (lv' := lz_l aX aY b (i + 6)) hF.1 hF.2.1 dL_law_1272 hl (k := 0) rfl ?_ (by decide) rfl (fun ls hl => ?_)
    · exact nI_add i 6
    refine lv_goto (tgt := 18) hF.1 hF.2.1 dL_law_1275 (by decide) ?_
    exact ih (n - 6) (by omega) (i + 6) Mx2 My2 H2 locs2 ls (by omega) (by omega) hR2 hZ2 hl
