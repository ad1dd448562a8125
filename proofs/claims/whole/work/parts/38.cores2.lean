theorem core_wild {Mx My : sr_M} (h : Cores Mx My) (a i w : Int32) : ∃ r Mx' My', f4_wild a i w Mx = some (r, Mx') ∧ f5_wild a i w My = some (r, My') ∧ Cores Mx' My' ∧ FrCX Mx Mx' ∧ FrCY My My' := by
  rcases place6 a with ⟨c, hc, rfl, hp⟩ | hp
  · unfold f4_wild f5_wild
    simp (disch := omega) only [(hp _).1, (hp _).2, ↓reduceIte, sr_bnd, sr_put, Option.bind_some, pp_bd2, pp_ld, pp_st, pp_stB, pp_putB, pp_grd, pp_l0, pp_l1, pp_l2, pp_l3, pp_l4, pp_l5, pp_l6, pp_l60, pp_l120, pp_l200, nI_add, pp_sub, pp_dec, pp_le, pp_lt, pp_eq, pp_neg1, pp_neg2, pp_neg3, pp_neg4, pp_neg5, if_pos, if_neg, if_true, if_false, pp_gv, nI_clamp, pp_stJ, pp_stD, pk_mul]
    by_cases k0 : w < nI 0
    · simp only [if_pos k0]
      exact ⟨_, _, _, rfl, rfl, h, FrCX.rf, FrCY.rf⟩
    simp only [if_neg k0]
    by_cases k5 : w ≤ nI 3
    case neg =>
      simp only [if_neg k5]
      exact ⟨_, _, _, rfl, rfl, h, FrCX.rf, FrCY.rf⟩
    simp only [if_pos k5]
    obtain ⟨kk, hkk, rfl⟩ := nI_of2 (M := nI 3) (n := 3) (by decide) k0 k5
    rcases h c hc with ⟨a1, a2⟩ | ⟨a1, kd, sz, b1, b2, b3, b4, b5, b6, b7⟩
    · simp only [a1, a2]
      exact ⟨_, _, _, rfl, rfl, h, FrCX.rf, FrCY.rf⟩
    simp (disch := omega) only [a1, pp_l1, pp_eq, Nat.succ_ne_zero, if_false, b6, b3, b4, pp_le, Nat.zero_le, if_true]
    by_cases q4 : kd < 4
    · simp (disch := omega) only [sr_bnd, sr_put, sr_jn, Option.bind_some, pp_bd2, pp_ld, pp_st, pp_stB, pp_putB, pp_grd, pp_l0, pp_l1, pp_l2, pp_l3, pp_l4, pp_l5, pp_l6, pp_l60, pp_l120, pp_l200, nI_add, pp_sub, pp_dec, pp_le, pp_lt, pp_eq, pp_neg1, pp_neg2, pp_neg3, pp_neg4, pp_neg5, if_pos, if_neg, if_true, if_false]
      exact ⟨_, _, _, rfl, rfl, h, FrCX.rf, FrCY.rf⟩
    have E : ∀ X : Option (Int32 × sr_M), sr_jn X (fun (K6 : Option (Int32 × sr_M)) => if kd = 4 then K6 else if kd = 5 then K6 else some (-nI 4, Mx)) = X := by
      intro X
      simp only [sr_jn]
      rcases (by omega : kd = 4 ∨ kd = 5) with rfl | rfl <;> rfl
    rcases hasN i b5 b2 with ⟨j, hj, rfl, e⟩ | ⟨q, e⟩
    case inr =>
      rw [E]
      simp only [e, Option.bind_some, if_true]
      rw [if_pos (show 4 ≤ kd by omega)]
      rcases ixc (by omega) q with q | ⟨q1, q2⟩
      · simp only [if_pos q]
        exact ⟨_, _, _, rfl, rfl, h, FrCX.rf, FrCY.rf⟩
      · simp only [if_neg q1, if_neg q2]
        exact ⟨_, _, _, rfl, rfl, h, FrCX.rf, FrCY.rf⟩
    have h60 : 60 * c + j < 360 := by omega
    have fin : ∀ (w : Int64) (n : Int32) (bm : UInt64), (n = 0 ∨ n = 1) → w = FP.d2l bm → (n = 0 ↔ FP.Core.dIsNaN bm = false) → ∃ r Mx' My', some ((nI 1 : Int32), sr_wJ (sr_wI Mx (12 + 3 * c + 2) j n) (12 + 3 * c + 1) j w) = some (r, Mx') ∧ some ((nI 1 : Int32), sr_wD My 10 (60 * c + j) bm) = some (r, My') ∧ Cores Mx' My' ∧ FrCX Mx Mx' ∧ FrCY My My' := by
      intro w n bm hn hw hb
      refine ⟨_, _, _, rfl, rfl, fun c' hc' => ?_, fun q hq => ?_, fun q _ _ => rfl⟩
      · by_cases e : c' = c
        · subst e
          refine Or.inr ⟨?_, kd, sz, b1, b2, ?_, b4, ?_, b6, fun i hi => ?_⟩
          · simp (disch := omega) only [pp_wI1, pp_wI2, pp_wI3, pp_wIJ, pp_wJ1, pp_wJ2, pp_wJ3, pp_wJI, pp_wJD, pp_wD1, pp_wD2, pp_wD3, pp_wDI, pp_wDJ]; exact a1
          · simp (disch := omega) only [pp_wI1, pp_wI2, pp_wI3, pp_wIJ, pp_wJ1, pp_wJ2, pp_wJ3, pp_wJI, pp_wJD, pp_wD1, pp_wD2, pp_wD3, pp_wDI, pp_wDJ]; exact b3
          · simp (disch := omega) only [pp_wI1, pp_wI2, pp_wI3, pp_wIJ, pp_wJ1, pp_wJ2, pp_wJ3, pp_wJI, pp_wJD, pp_wD1, pp_wD2, pp_wD3, pp_wDI, pp_wDJ]; exact b5
          · by_cases e : i = j
            · subst e
              simp (disch := omega) only [pp_wI1, pp_wI2, pp_wI3, pp_wIJ, pp_wJ1, pp_wJ2, pp_wJ3, pp_wJI, pp_wJD, pp_wD1, pp_wD2, pp_wD3, pp_wDI, pp_wDJ]
              exact ⟨hn, by rw [if_neg q4]; exact ⟨hw, hb⟩⟩
            · simp (disch := omega) only [pp_wI1, pp_wI2, pp_wI3, pp_wIJ, pp_wJ1, pp_wJ2, pp_wJ3, pp_wJI, pp_wJD, pp_wD1, pp_wD2, pp_wD3, pp_wDI, pp_wDJ]
              exact b7 i hi
        · refine (h c' hc').kept (fun j => ?_) (fun j => ?_) (fun j => ?_) rfl rfl (fun i hi => ?_) (fun i hi => ?_)
          all_goals simp (disch := omega) only [pp_wI1, pp_wI2, pp_wI3, pp_wIJ, pp_wJ1, pp_wJ2, pp_wJ3, pp_wJI, pp_wJD, pp_wD1, pp_wD2, pp_wD3, pp_wDI, pp_wDJ]
      · simp (disch := omega) only [pp_wI1, pp_wI2, pp_wI3, pp_wIJ, pp_wJ1, pp_wJ2, pp_wJ3, pp_wJI, pp_wJD, pp_wD1, pp_wD2, pp_wD3, pp_wDI, pp_wDJ]
    rw [E]
    simp (disch := omega) only [e, ↓reduceIte, sr_bnd, sr_put, Option.bind_some, pp_bd2, pp_ld, pp_st, pp_stB, pp_putB, pp_grd, pp_l0, pp_l1, pp_l2, pp_l3, pp_l4, pp_l5, pp_l6, pp_l60, pp_l120, pp_l200, nI_add, pp_sub, pp_dec, pp_le, pp_lt, pp_eq, pp_neg1, pp_neg2, pp_neg3, pp_neg4, pp_neg5, if_pos, if_neg, if_true, if_false, pp_gv, nI_clamp, pp_stJ, pp_stD, pk_mul]
    rcases (by omega : kk = 0 ∨ kk = 1 ∨ kk = 2 ∨ kk = 3) with rfl | rfl | rfl | rfl
    · rw [show f0_putWild (12 + 3 * c) (nI j) (nI 0) Mx = some (sr_wJ (sr_wI Mx (12 + 3 * c + 2) j 1) (12 + 3 * c + 1) j 0) by unfold f0_putWild; simp (disch := first | omega | decide) only [↓reduceIte, sr_bnd, sr_put, sr_jn, Option.bind_some, pp_bd2, pp_ld, pp_st, pp_stB, pp_putB, pp_grd, pp_l0, pp_l1, pp_l2, pp_l3, pp_l4, pp_l5, pp_l6, pp_l60, pp_l120, pp_l200, nI_add, pp_sub, pp_dec, pp_le, pp_lt, pp_eq, pp_neg1, pp_neg2, pp_neg3, pp_neg4, pp_neg5, if_pos, if_neg, if_true, if_false, pp_gv, nI_clamp, pp_stJ, pp_stD, pk_mul]; rfl]
      simp (disch := omega) only [↓reduceIte, sr_bnd, sr_put, sr_jn, Option.bind_some, pp_bd2, pp_ld, pp_st, pp_stB, pp_putB, pp_grd, pp_l0, pp_l1, pp_l2, pp_l3, pp_l4, pp_l5, pp_l6, pp_l60, pp_l120, pp_l200, nI_add, pp_sub, pp_dec, pp_le, pp_lt, pp_eq, pp_neg1, pp_neg2, pp_neg3, pp_neg4, pp_neg5, if_pos, if_neg, if_true, if_false, pp_gv, nI_clamp, pp_stJ, pp_stD, pk_mul]
      exact fin _ _ _ (Or.inr rfl) ff_w0.1.symm (by rw [ff_w0.2]; decide)
    · rw [show f0_putWild (12 + 3 * c) (nI j) (nI 1) Mx = some (sr_wJ (sr_wI Mx (12 + 3 * c + 2) j 0) (12 + 3 * c + 1) j 9223372036854775807) by unfold f0_putWild; simp (disch := first | omega | decide) only [↓reduceIte, sr_bnd, sr_put, sr_jn, Option.bind_some, pp_bd2, pp_ld, pp_st, pp_stB, pp_putB, pp_grd, pp_l0, pp_l1, pp_l2, pp_l3, pp_l4, pp_l5, pp_l6, pp_l60, pp_l120, pp_l200, nI_add, pp_sub, pp_dec, pp_le, pp_lt, pp_eq, pp_neg1, pp_neg2, pp_neg3, pp_neg4, pp_neg5, if_pos, if_neg, if_true, if_false, pp_gv, nI_clamp, pp_stJ, pp_stD, pk_mul]; rfl]
      simp (disch := omega) only [↓reduceIte, sr_bnd, sr_put, sr_jn, Option.bind_some, pp_bd2, pp_ld, pp_st, pp_stB, pp_putB, pp_grd, pp_l0, pp_l1, pp_l2, pp_l3, pp_l4, pp_l5, pp_l6, pp_l60, pp_l120, pp_l200, nI_add, pp_sub, pp_dec, pp_le, pp_lt, pp_eq, pp_neg1, pp_neg2, pp_neg3, pp_neg4, pp_neg5, if_pos, if_neg, if_true, if_false, pp_gv, nI_clamp, pp_stJ, pp_stD, pk_mul]
      exact fin _ _ _ (Or.inl rfl) ff_w1.1.symm (by rw [ff_w1.2]; decide)
    · rw [show f0_putWild (12 + 3 * c) (nI j) (nI 2) Mx = some (sr_wJ (sr_wI Mx (12 + 3 * c + 2) j 0) (12 + 3 * c + 1) j (-9223372036854775808)) by unfold f0_putWild; simp (disch := first | omega | decide) only [↓reduceIte, sr_bnd, sr_put, sr_jn, Option.bind_some, pp_bd2, pp_ld, pp_st, pp_stB, pp_putB, pp_grd, pp_l0, pp_l1, pp_l2, pp_l3, pp_l4, pp_l5, pp_l6, pp_l60, pp_l120, pp_l200, nI_add, pp_sub, pp_dec, pp_le, pp_lt, pp_eq, pp_neg1, pp_neg2, pp_neg3, pp_neg4, pp_neg5, if_pos, if_neg, if_true, if_false, pp_gv, nI_clamp, pp_stJ, pp_stD, pk_mul]; rfl]
      simp (disch := omega) only [↓reduceIte, sr_bnd, sr_put, sr_jn, Option.bind_some, pp_bd2, pp_ld, pp_st, pp_stB, pp_putB, pp_grd, pp_l0, pp_l1, pp_l2, pp_l3, pp_l4, pp_l5, pp_l6, pp_l60, pp_l120, pp_l200, nI_add, pp_sub, pp_dec, pp_le, pp_lt, pp_eq, pp_neg1, pp_neg2, pp_neg3, pp_neg4, pp_neg5, if_pos, if_neg, if_true, if_false, pp_gv, nI_clamp, pp_stJ, pp_stD, pk_mul]
      exact fin _ _ _ (Or.inl rfl) ff_w2.1.symm (by rw [ff_w2.2]; decide)
    · rw [show f0_putWild (12 + 3 * c) (nI j) (nI 3) Mx = some (sr_wJ (sr_wI Mx (12 + 3 * c + 2) j 0) (12 + 3 * c + 1) j 0) by unfold f0_putWild; simp (disch := first | omega | decide) only [↓reduceIte, sr_bnd, sr_put, sr_jn, Option.bind_some, pp_bd2, pp_ld, pp_st, pp_stB, pp_putB, pp_grd, pp_l0, pp_l1, pp_l2, pp_l3, pp_l4, pp_l5, pp_l6, pp_l60, pp_l120, pp_l200, nI_add, pp_sub, pp_dec, pp_le, pp_lt, pp_eq, pp_neg1, pp_neg2, pp_neg3, pp_neg4, pp_neg5, if_pos, if_neg, if_true, if_false, pp_gv, nI_clamp, pp_stJ, pp_stD, pk_mul]; rfl]
      simp (disch := omega) only [↓reduceIte, sr_bnd, sr_put, sr_jn, Option.bind_some, pp_bd2, pp_ld, pp_st, pp_stB, pp_putB, pp_grd, pp_l0, pp_l1, pp_l2, pp_l3, pp_l4, pp_l5, pp_l6, pp_l60, pp_l120, pp_l200, nI_add, pp_sub, pp_dec, pp_le, pp_lt, pp_eq, pp_neg1, pp_neg2, pp_neg3, pp_neg4, pp_neg5, if_pos, if_neg, if_true, if_false, pp_gv, nI_clamp, pp_stJ, pp_stD, pk_mul]
      exact fin _ _ _ (Or.inl rfl) ff_w3.1.symm (by rw [ff_w3.2]; decide)
  · exact ⟨-1, Mx, My, by unfold f4_wild; simp only [(hp _).1]; rfl, by unfold f5_wild; simp only [(hp _).2]; rfl, h, FrCX.rf, FrCY.rf⟩
theorem pp_cI {M : sr_M} {k0 k sp dp n q j : Nat} : (sr_cI M k0 k sp dp n).1 q j = if q = k ∧ dp ≤ j ∧ j < dp + n then M.1 k0 (sp + (j - dp)) else M.1 q j := by
  unfold sr_cI va_up
  by_cases h : q = k
  · subst h
    simp [va_cpy]
  · simp [h]
theorem pp_cJ {M : sr_M} {k0 k sp dp n q j : Nat} : (sr_cJ M k0 k sp dp n).2.1 q j = if q = k ∧ dp ≤ j ∧ j < dp + n then M.2.1 k0 (sp + (j - dp)) else M.2.1 q j := by
  unfold sr_cJ va_up
  by_cases h : q = k
  · subst h
    simp [va_cpy]
  · simp [h]
theorem Ysplice {M : sr_M} {c d a b n : Nat} (hc : c < 6) (hd : d < 6) (ha : a + n ≤ 60) (hb : b + n ≤ 60) :
    sr_wp ((sr_lp (fun z9 : Int32 × sr_M => f5_splice_L83 (nI d) (nI b) (nI n) z9.1 z9.2) (nI 0, M)).bind fun w9 => (sr_lp (fun z17 : Int32 × sr_M => f5_splice_L143 (nI c) (nI a) (nI n) z17.1 z17.2) (nI 0, w9)).bind fun w17 => some ((nI 1 : Int32), w17)) (fun r => r.1 = nI 1 ∧ r.2.1 = M.1 ∧ (∀ i, i < n → r.2.2.1 9 (60 * c + a + i) = M.2.1 9 (60 * d + b + i) ∧ r.2.2.2 10 (60 * c + a + i) = M.2.2 10 (60 * d + b + i)) ∧ ∀ j, (j < 60 * c + a ∨ 60 * c + a + n ≤ j) → r.2.2.1 9 j = M.2.1 9 j ∧ r.2.2.2 10 j = M.2.2 10 j) := by
  refine wp_bind (wp_mono (Q := fun M1 => M1.1 = M.1 ∧ (∀ i, i < n → M1.2.1 16 i = M.2.1 9 (60 * d + b + i) ∧ M1.2.2 17 i = M.2.2 10 (60 * d + b + i)) ∧ ∀ j, M1.2.1 9 j = M.2.1 9 j ∧ M1.2.2 10 j = M.2.2 10 j) ?_ ?_)
  · refine wp_for (fun i M' => (nI i, M')) n (fun q M1 => M1.1 = M.1 ∧ (∀ i, i < q → M1.2.1 16 i = M.2.1 9 (60 * d + b + i) ∧ M1.2.2 17 i = M.2.2 10 (60 * d + b + i)) ∧ ∀ j, M1.2.1 9 j = M.2.1 9 j ∧ M1.2.2 10 j = M.2.2 10 j) ?_ ?_ 0 _ (Nat.zero_le _) ?_
    · rintro q M1 hq ⟨h1, h2, h3⟩
      unfold f5_splice_L83
      simp (disch := omega) only [↓reduceIte, sr_bnd, sr_put, sr_jn, Option.bind_some, pp_bd2, pp_ld, pp_st, pp_stB, pp_putB, pp_grd, pp_l0, pp_l1, pp_l2, pp_l3, pp_l4, pp_l5, pp_l6, pp_l60, pp_l120, pp_l200, nI_add, pp_sub, pp_dec, pp_le, pp_lt, pp_eq, pp_neg1, pp_neg2, pp_neg3, pp_neg4, pp_neg5, if_pos, if_neg, if_true, if_false, pp_gv, nI_clamp, pp_stJ, pp_stD, pk_mul, wp_on]
      refine ⟨_, rfl, h1, fun i hi => ?_, fun j => ?_⟩
      · by_cases e : i = q
        · subst e
          simp (disch := omega) only [pp_wI1, pp_wI2, pp_wI3, pp_wIJ, pp_wJ1, pp_wJ2, pp_wJ3, pp_wJI, pp_wJD, pp_wD1, pp_wD2, pp_wD3, pp_wDI, pp_wDJ]
          exact h3 _
        · simp (disch := omega) only [pp_wI1, pp_wI2, pp_wI3, pp_wIJ, pp_wJ1, pp_wJ2, pp_wJ3, pp_wJI, pp_wJD, pp_wD1, pp_wD2, pp_wD3, pp_wDI, pp_wDJ]
          exact h2 i (by omega)
      · simp (disch := omega) only [pp_wI1, pp_wI2, pp_wI3, pp_wIJ, pp_wJ1, pp_wJ2, pp_wJ3, pp_wJI, pp_wJD, pp_wD1, pp_wD2, pp_wD3, pp_wDI, pp_wDJ]
        exact h3 j
    · rintro M1 ⟨h1, h2, h3⟩
      unfold f5_splice_L83
      simp (disch := omega) only [sr_bnd, sr_put, sr_jn, Option.bind_some, pp_bd2, pp_ld, pp_st, pp_stB, pp_putB, pp_grd, pp_l0, pp_l1, pp_l2, pp_l3, pp_l4, pp_l5, pp_l6, pp_l60, pp_l120, pp_l200, nI_add, pp_sub, pp_dec, pp_le, pp_lt, pp_eq, pp_neg1, pp_neg2, pp_neg3, pp_neg4, pp_neg5, if_pos, if_neg, if_true, if_false, Nat.le_refl, wp_out]
      exact ⟨h1, h2, h3⟩
    · exact ⟨rfl, fun i hi => absurd hi (Nat.not_lt_zero _), fun _ => ⟨rfl, rfl⟩⟩
  · rintro M1 ⟨h1, h2, h3⟩
    refine wp_bind (wp_mono (Q := fun M2 => M2.1 = M.1 ∧ (∀ i, i < n → M2.2.1 9 (60 * c + a + i) = M.2.1 9 (60 * d + b + i) ∧ M2.2.2 10 (60 * c + a + i) = M.2.2 10 (60 * d + b + i)) ∧ ∀ j, (j < 60 * c + a ∨ 60 * c + a + n ≤ j) → M2.2.1 9 j = M.2.1 9 j ∧ M2.2.2 10 j = M.2.2 10 j) ?_ (fun M2 h => by rw [wp_some]; exact ⟨rfl, h⟩))
    refine wp_for (fun i M' => (nI i, M')) n (fun q M2 => M2.1 = M.1 ∧ (∀ i, i < q → M2.2.1 9 (60 * c + a + i) = M.2.1 9 (60 * d + b + i) ∧ M2.2.2 10 (60 * c + a + i) = M.2.2 10 (60 * d + b + i)) ∧ (∀ j, (j < 60 * c + a ∨ 60 * c + a + n ≤ j) → M2.2.1 9 j = M.2.1 9 j ∧ M2.2.2 10 j = M.2.2 10 j) ∧ ∀ i, M2.2.1 16 i = M1.2.1 16 i ∧ M2.2.2 17 i = M1.2.2 17 i) ?_ ?_ 0 _ (Nat.zero_le _) ?_
    · rintro q M2 hq ⟨g1, g2, g3, g4⟩
      unfold f5_splice_L143
      simp (disch := omega) only [↓reduceIte, sr_bnd, sr_put, sr_jn, Option.bind_some, pp_bd2, pp_ld, pp_st, pp_stB, pp_putB, pp_grd, pp_l0, pp_l1, pp_l2, pp_l3, pp_l4, pp_l5, pp_l6, pp_l60, pp_l120, pp_l200, nI_add, pp_sub, pp_dec, pp_le, pp_lt, pp_eq, pp_neg1, pp_neg2, pp_neg3, pp_neg4, pp_neg5, if_pos, if_neg, if_true, if_false, pp_gv, nI_clamp, pp_stJ, pp_stD, pk_mul, wp_on]
      refine ⟨_, rfl, g1, fun i hi => ?_, fun j hj => ?_, fun i => ?_⟩
      · by_cases e : i = q
        · subst e
          simp (disch := omega) only [pp_wI1, pp_wI2, pp_wI3, pp_wIJ, pp_wJ1, pp_wJ2, pp_wJ3, pp_wJI, pp_wJD, pp_wD1, pp_wD2, pp_wD3, pp_wDI, pp_wDJ]
          rw [(g4 i).1, (g4 i).2]
          exact h2 i hq
        · simp (disch := omega) only [pp_wI1, pp_wI2, pp_wI3, pp_wIJ, pp_wJ1, pp_wJ2, pp_wJ3, pp_wJI, pp_wJD, pp_wD1, pp_wD2, pp_wD3, pp_wDI, pp_wDJ]
          exact g2 i (by omega)
      · simp (disch := omega) only [pp_wI1, pp_wI2, pp_wI3, pp_wIJ, pp_wJ1, pp_wJ2, pp_wJ3, pp_wJI, pp_wJD, pp_wD1, pp_wD2, pp_wD3, pp_wDI, pp_wDJ]
        exact g3 j hj
      · simp (disch := omega) only [pp_wI1, pp_wI2, pp_wI3, pp_wIJ, pp_wJ1, pp_wJ2, pp_wJ3, pp_wJI, pp_wJD, pp_wD1, pp_wD2, pp_wD3, pp_wDI, pp_wDJ]
        exact g4 i
    · rintro M2 ⟨g1, g2, g3, g4⟩
      unfold f5_splice_L143
      simp (disch := omega) only [sr_bnd, sr_put, sr_jn, Option.bind_some, pp_bd2, pp_ld, pp_st, pp_stB, pp_putB, pp_grd, pp_l0, pp_l1, pp_l2, pp_l3, pp_l4, pp_l5, pp_l6, pp_l60, pp_l120, pp_l200, nI_add, pp_sub, pp_dec, pp_le, pp_lt, pp_eq, pp_neg1, pp_neg2, pp_neg3, pp_neg4, pp_neg5, if_pos, if_neg, if_true, if_false, Nat.le_refl, wp_out]
      exact ⟨g1, g2, g3⟩
    · exact ⟨h1, fun i hi => absurd hi (Nat.not_lt_zero _), fun j _ => h3 j, fun _ => ⟨rfl, rfl⟩⟩
theorem core_splice {Mx My : sr_M} (h : Cores Mx My) (a j d i n : Int32) : ∃ r Mx' My', f4_splice a j d i n Mx = some (r, Mx') ∧ f5_splice a j d i n My = some (r, My') ∧ Cores Mx' My' ∧ FrCX Mx Mx' ∧ FrCY My My' := by
  rcases place6 a with ⟨c, hc, rfl, hp⟩ | hp
  case inr => exact ⟨-1, Mx, My, by unfold f4_splice; simp only [(hp _).1]; rfl, by unfold f5_splice; simp only [(hp _).2]; rfl, h, FrCX.rf, FrCY.rf⟩
  have z : ¬ (nI 1 : Int32) = nI 0 := by decide
  rcases place6 d with ⟨c2, hc2, rfl, hp2⟩ | hp2
  case inr => exact ⟨-1, Mx, My, by unfold f4_splice; simp only [(hp _).1, (hp2 _).1]; rfl, by unfold f5_splice; simp only [(hp _).2, (hp2 _).2]; rfl, h, FrCX.rf, FrCY.rf⟩
  unfold f4_splice f5_splice
  simp (disch := omega) only [(hp _).1, (hp _).2, (hp2 _).1, (hp2 _).2, ↓reduceIte, sr_bnd, sr_put, Option.bind_some, pp_bd2, pp_ld, pp_st, pp_stB, pp_putB, pp_grd, pp_l0, pp_l1, pp_l2, pp_l3, pp_l4, pp_l5, pp_l6, pp_l60, pp_l120, pp_l200, nI_add, pp_sub, pp_dec, pp_le, pp_lt, pp_eq, pp_neg1, pp_neg2, pp_neg3, pp_neg4, pp_neg5, if_pos, if_neg, if_true, if_false, pp_gv, nI_clamp, pp_stJ, pp_stD, pk_mul]
  rcases h c hc with ⟨a1, a2⟩ | ⟨a1, kd, sz, b1, b2, b3, b4, b5, b6, b7⟩
  · simp only [a1, a2]
    exact ⟨_, _, _, rfl, rfl, h, FrCX.rf, FrCY.rf⟩
  simp (disch := omega) only [a1, pp_l1, pp_eq, Nat.succ_ne_zero, if_false, b6, pp_lt, Nat.not_lt_zero]
  rcases h c2 hc2 with ⟨a1', a2'⟩ | ⟨a1', kd', sz', b1', b2', b3', b4', b5', b6', b7'⟩
  · simp only [a1', a2']
    exact ⟨_, _, _, rfl, rfl, h, FrCX.rf, FrCY.rf⟩
  simp (disch := omega) only [a1', pp_l1, pp_eq, Nat.succ_ne_zero, if_false, b6', pp_le, Nat.zero_le, if_true, b3, b3', b4, b4']
  by_cases qk : kd = kd'
  case neg =>
    simp only [if_neg qk]
    exact ⟨_, _, _, rfl, rfl, h, FrCX.rf, FrCY.rf⟩
  subst qk
  simp only [if_true]
  rcases spansN (My := My) (c := c) j n b5 b6 hc b2 with ⟨p, m, hpm, rfl, rfl, e1, e2⟩ | ⟨e1, e2⟩
  case inr =>
    rw [e1, e2]
    exact ⟨_, _, _, rfl, rfl, h, FrCX.rf, FrCY.rf⟩
  rcases spansN (My := My) (c := c2) i (nI m) b5' b6' hc2 b2' with ⟨q, m', hqm, rfl, em, e3, e4⟩ | ⟨e3, e4⟩
  case inr =>
    simp only [e1, e2, e3, e4, Option.bind_some, if_neg z, if_true]
    exact ⟨_, _, _, rfl, rfl, h, FrCX.rf, FrCY.rf⟩
  have em2 : m' = m := by
    have t := congrArg Int32.toInt em
    have l1 : m < 2147483648 := by omega
    have l2 : m' < 2147483648 := by omega
    rw [pp_toInt l1, pp_toInt l2] at t
    omega
  subst em2
  simp only [e1, e2, e3, e4, Option.bind_some, if_neg z]
  obtain ⟨⟨r, My'⟩, ey, y0, y1, y2, y3⟩ := Ysplice (M := My) (c := c) (d := c2) (a := p) (b := q) (n := m') hc hc2 (by omega) (by omega)
  dsimp only at y0 y1 y2 y3
  subst y0
  rw [ey]
  have put : f0_putFrom (12 + 3 * c) (nI p) (12 + 3 * c2) (nI q) (nI m') Mx = some (sr_cI (sr_cJ Mx (12 + 3 * c2 + 1) (12 + 3 * c + 1) q p m') (12 + 3 * c2 + 2) (12 + 3 * c + 2) q p m') := by
    unfold f0_putFrom sr_cpJ
    have nn : ∀ k : Nat, k < 2147483648 → ¬ (nI k : Int32) < 0 := fun k hk => nI_pos hk
    rw [nI_clamp (by omega), nI_clamp (by omega), nI_clamp (by omega), sr_grd_t ⟨⟨nn q (by omega), nn p (by omega), nn m' (by omega)⟩, by omega, by omega⟩]
    unfold sr_cpI
    dsimp only
    rw [nI_clamp (by omega), nI_clamp (by omega), nI_clamp (by omega), sr_grd_t ⟨⟨nn q (by omega), nn p (by omega), nn m' (by omega)⟩, by omega, by omega, fun i hi => (b7' (q + i) (by omega)).1⟩]
  simp only [put, Option.bind_some, z, if_false]
  refine ⟨_, _, _, rfl, rfl, fun c' hc' => ?_, fun g hg => ?_, fun g _ _ => by rw [y1]⟩
  · by_cases e : c' = c
    · subst e
      refine Or.inr ⟨?_, kd, sz, b1, b2, ?_, by rw [y1]; exact b4, ?_, by rw [y1]; exact b6, fun i hi => ?_⟩
      · rw [pp_cI, if_neg (by omega)]; exact a1
      · rw [pp_cI, if_neg (by omega)]; exact b3
      · rw [pp_cI, if_neg (by omega)]; exact b5
      · show Num kd ((sr_cJ Mx (12 + 3 * c2 + 1) (12 + 3 * c' + 1) q p m').2.1 (12 + 3 * c' + 1) i) _ _ _
        rw [pp_cJ, pp_cI]
        by_cases w : p ≤ i ∧ i < p + m'
        · rw [if_pos ⟨rfl, w⟩, if_pos ⟨rfl, w⟩]
          have y := y2 (i - p) (by omega)
          rw [show 60 * c' + p + (i - p) = 60 * c' + i by omega] at y
          rw [y.1, y.2]
          have t := b7' (q + (i - p)) (by omega)
          rw [show 60 * c2 + (q + (i - p)) = 60 * c2 + q + (i - p) by omega] at t
          exact t
        · rw [if_neg (fun t => w t.2), if_neg (fun t => w t.2)]
          have y := y3 (60 * c' + i) (by omega)
          rw [y.1, y.2]
          exact b7 i hi
    · refine (h c' hc').kept (fun j => ?_) (fun j => ?_) (fun j => ?_) (by rw [y1]) (by rw [y1]) (fun i hi => (y3 _ (by omega)).1) (fun i hi => (y3 _ (by omega)).2)
      · rw [pp_cI, if_neg (by omega)]; rfl
      · show (sr_cJ Mx (12 + 3 * c2 + 1) (12 + 3 * c + 1) q p m').2.1 (12 + 3 * c' + 1) j = _
        rw [pp_cJ, if_neg (by omega)]
      · rw [pp_cI, if_neg (by omega)]; rfl
  · funext j
    rw [pp_cI, if_neg (by omega)]
    rfl
