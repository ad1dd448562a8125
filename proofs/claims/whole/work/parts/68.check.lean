/-! COPY AND CHECK -/
theorem Xcopy {K : RK} {S : FS} {M : sr_M} (hW : WF K) (hS : SOK K S) (hF : FX K S 30 M) (h1 : M.1 30 1 = 1) : ∃ M', f4_copy M = some (nI S.st, M') ∧ (∀ k, k < S.st → M'.1 61 k = nI (S.th (k + 1))) ∧ M'.1 0 6 = nI S.st ∧ M'.2 = M.2 ∧ ∀ q, q ≠ 0 → q ≠ 61 → M'.1 q = M.1 q := by
  have hn := hW.1
  have hle := hS.le
  have key : sr_wp (sr_lp (fun z2 : Int32 × sr_M => f4_copy_L15 z2.1 z2.2) (0, M)) (fun M' => (∀ k, k < S.st → M'.1 61 k = nI (S.th (k + 1))) ∧ M'.2 = M.2 ∧ ∀ q, q ≠ 61 → M'.1 q = M.1 q) := by
    refine wp_for (τ := sr_M) (fun i x => (nI i, x)) S.st (fun i M1 => (∀ k, k < i → M1.1 61 k = nI (S.th (k + 1))) ∧ M1.2 = M.2 ∧ ∀ q, q ≠ 61 → M1.1 q = M.1 q) ?_ ?_ 0 M (Nat.zero_le _) ⟨fun p hp => absurd hp (Nat.not_lt_zero _), rfl, fun _ _ => rfl⟩
    · rintro i M1 hi ⟨g1, g2, g3⟩
      have b1 : M1.1 30 2 = nI S.st := by rw [g3 30 (by omega)]; exact hF.1
      unfold f4_copy_L15
      simp only [sr_bnd, b1]
      rw [if_neg (by rw [pp_le (by omega) (by omega)]; omega), nI_1, pp_ld (by omega) (by decide), g3 31 (by omega), hF.2.1 (i + 1) (by omega) (by omega), pp_st (by omega) (by decide), wp_on]
      refine ⟨sr_wI M1 61 i (nI (S.th (i + 1))), rfl, fun p hp => ?_, g2, fun q hq => by rw [pp_wI1 hq]; exact g3 q hq⟩
      by_cases e : p = i
      · rw [e, pp_wI2]
      · rw [pp_wI3 e]; exact g1 p (by omega)
    · rintro M1 ⟨g1, g2, g3⟩
      have b1 : M1.1 30 2 = nI S.st := by rw [g3 30 (by omega)]; exact hF.1
      unfold f4_copy_L15
      simp only [sr_bnd, b1]
      rw [if_pos (Int32.le_refl _), wp_out]
      exact ⟨g1, g2, g3⟩
  obtain ⟨M1, e, g1, g2, g3⟩ := key
  have b1 : M1.1 30 2 = nI S.st := by rw [g3 30 (by omega)]; exact hF.1
  unfold f4_copy
  simp only [sr_bnd, h1]
  rw [if_neg n10, e, Option.bind_some]
  simp only [sr_put, b1, pp_wI2]
  exact ⟨_, rfl, fun k hk => by rw [pp_wI1 (by omega)]; exact g1 k hk, pp_wI2, g2, fun q a b => by rw [pp_wI1 a]; exact g3 q b⟩
theorem Ycopy {K : RK} {S : FS} {M : sr_M} (hW : WF K) (hS : SOK K S) (hF : FY K S M) (h1 : M.1 0 13 = 1) : ∃ M', f5_copy M = some (nI S.st, M') ∧ (∀ k, k < S.st → M'.1 15 k = nI (S.th (k + 1))) ∧ M'.1 0 19 = nI S.st ∧ M'.2 = M.2 ∧ (∀ q, q ≠ 0 → q ≠ 15 → M'.1 q = M.1 q) ∧ ∀ j, j ≠ 19 → M'.1 0 j = M.1 0 j := by
  have hn := hW.1
  have hle := hS.le
  have key : sr_wp (sr_lp (fun z2 : Int32 × sr_M => f5_copy_L20 z2.1 z2.2) (0, sr_wI M 0 19 (nI S.st))) (fun M' => (∀ k, k < S.st → M'.1 15 k = nI (S.th (k + 1))) ∧ M'.2 = M.2 ∧ ∀ q, q ≠ 15 → M'.1 q = (sr_wI M 0 19 (nI S.st)).1 q) := by
    refine wp_for (τ := sr_M) (fun i x => (nI i, x)) S.st (fun i M1 => (∀ k, k < i → M1.1 15 k = nI (S.th (k + 1))) ∧ M1.2 = M.2 ∧ ∀ q, q ≠ 15 → M1.1 q = (sr_wI M 0 19 (nI S.st)).1 q) ?_ ?_ 0 (sr_wI M 0 19 (nI S.st)) (Nat.zero_le _) ⟨fun p hp => absurd hp (Nat.not_lt_zero _), rfl, fun _ _ => rfl⟩
    · rintro i M1 hi ⟨g1, g2, g3⟩
      have b1 : M1.1 0 14 = nI S.st := by rw [g3 0 (by omega), pp_wI3 (by omega)]; exact hF.1
      unfold f5_copy_L20
      simp only [sr_bnd, b1]
      rw [if_neg (by rw [pp_le (by omega) (by omega)]; omega), nI_1, pp_ld (by omega) (by decide), g3 11 (by omega), pp_wI1 (by omega), hF.2.1 (i + 1) (by omega) (by omega), pp_st (by omega) (by decide), wp_on]
      refine ⟨sr_wI M1 15 i (nI (S.th (i + 1))), rfl, fun p hp => ?_, g2, fun q hq => by rw [pp_wI1 hq]; exact g3 q hq⟩
      by_cases e : p = i
      · rw [e, pp_wI2]
      · rw [pp_wI3 e]; exact g1 p (by omega)
    · rintro M1 ⟨g1, g2, g3⟩
      have b1 : M1.1 0 14 = nI S.st := by rw [g3 0 (by omega), pp_wI3 (by omega)]; exact hF.1
      unfold f5_copy_L20
      simp only [sr_bnd, b1]
      rw [if_pos (Int32.le_refl _), wp_out]
      exact ⟨g1, g2, g3⟩
  obtain ⟨M1, e, g1, g2, g3⟩ := key
  have b1 : M1.1 0 19 = nI S.st := by rw [g3 0 (by omega), pp_wI2]
  unfold f5_copy
  simp only [sr_bnd, sr_put, h1, hF.1]
  rw [if_neg n10, e, Option.bind_some, b1]
  exact ⟨_, rfl, g1, b1, g2, fun q a b => by rw [g3 q b, pp_wI1 a], fun j hj => by rw [g3 0 (by omega), pp_wI3 hj]⟩
theorem op_copy {Mx My : sr_M} (h : Rel Mx My) : Bth (f4_copy Mx) (f5_copy My) := by
  have hh := h
  obtain ⟨K, hR, ⟨h1, h2⟩ | ⟨S, hO⟩⟩ := h
  · unfold f4_copy f5_copy
    simp only [sr_bnd, h1, h2, if_true]
    exact ⟨_, _, _, rfl, rfl, hh⟩
  · obtain ⟨hW, hX, hY, hC, hT⟩ := hR
    obtain ⟨o1, o2, o3, o4, o5⟩ := hO
    have hn := hW.1
    have hTT := hW.2.1
    have hle := o1.le
    obtain ⟨Mx', ex, x1, x2, x3, x4⟩ := Xcopy hW o1 o2 o4
    obtain ⟨My', ey, y1, y2, y3, y4, y5⟩ := Ycopy hW o1 o3 o5
    rw [ex, ey]
    refine ⟨_, _, _, rfl, rfl, K, ⟨hW, hX.kept (fun q a b => x4 q (by omega) (by omega)), hY.kept (y5 0 (by omega)) (y5 3 (by omega)) (y5 8 (by omega)) (fun q a b => y4 q (by omega) (by omega)), hC.keep (fun q a b => x4 q (by omega) (by omega)) x3 (y4 7 (by omega) (by omega)) (y4 8 (by omega) (by omega)) y3, S.st, by omega, x2, y2, fun k hk => ?_⟩, Or.inr ⟨S, o1, o2.kept (fun q a b => x4 q (by omega) (by omega)), o3.kept (y5 14 (by omega)) (fun q a b => y4 q (by omega) (by omega)), by rw [x4 30 (by omega) (by omega)]; exact o4, by rw [y5 13 (by omega)]; exact o5⟩⟩
    have := (o1.2.2.1 (k + 1) (by omega) (by omega)).1
    rw [x1 k hk, y1 k hk]
    exact ⟨rfl, oI_s0 (by omega)⟩
/-- keeping the run, and giving it back -/
theorem Ykeep0 {M : sr_M} : ∃ M', f5_keep 0 M = some M' ∧ (∀ i, i < 120 → M'.1 23 i = M.1 12 i ∧ M'.1 24 i = M.1 13 i ∧ M'.1 25 i = M.1 14 i ∧ M'.1 22 (i + 1) = M.1 11 (i + 1)) ∧ M'.1 0 32 = M.1 0 14 ∧ M'.2 = M.2 ∧ (∀ q, q ≠ 0 → (q < 22 ∨ 25 < q) → M'.1 q = M.1 q) ∧ ∀ j, j ≠ 32 → M'.1 0 j = M.1 0 j := by
  have key : sr_wp (sr_lp (fun z3 : Int32 × sr_M => f5_keep_L25 0 z3.1 z3.2) (0, sr_wI M 0 32 (M.1 0 14))) (fun M' => (∀ i, i < 120 → M'.1 23 i = M.1 12 i ∧ M'.1 24 i = M.1 13 i ∧ M'.1 25 i = M.1 14 i ∧ M'.1 22 (i + 1) = M.1 11 (i + 1)) ∧ M'.2 = M.2 ∧ ∀ q, (q < 22 ∨ 25 < q) → M'.1 q = (sr_wI M 0 32 (M.1 0 14)).1 q) := by
    refine wp_for (τ := sr_M) (fun i x => (nI i, x)) 120 (fun n M1 => (∀ i, i < n → M1.1 23 i = M.1 12 i ∧ M1.1 24 i = M.1 13 i ∧ M1.1 25 i = M.1 14 i ∧ M1.1 22 (i + 1) = M.1 11 (i + 1)) ∧ M1.2 = M.2 ∧ ∀ q, (q < 22 ∨ 25 < q) → M1.1 q = (sr_wI M 0 32 (M.1 0 14)).1 q) ?_ ?_ 0 (sr_wI M 0 32 (M.1 0 14)) (Nat.zero_le _) ⟨fun p hp => absurd hp (Nat.not_lt_zero _), rfl, fun _ _ => rfl⟩
    · rintro i M1 hi ⟨g1, g2, g3⟩
      unfold f5_keep_L25
      rw [if_neg (show ¬ (120 : Int32) ≤ nI i from (show ¬ nI 120 ≤ nI i by rw [pp_le (by omega) (by omega)]; omega)), if_pos rfl, pp_ld (by omega) (by decide), pp_st (by omega) (by decide), pp_ld (by omega) (by decide), pp_st (by omega) (by decide), pp_ld (by omega) (by decide), pp_st (by omega) (by decide), nI_1, pp_ld (by omega) (by decide), pp_st (by omega) (by decide), wp_on]
      simp only [pp_wI1 (show 11 ≠ 25 by omega), pp_wI1 (show 11 ≠ 24 by omega), pp_wI1 (show 11 ≠ 23 by omega), pp_wI1 (show 14 ≠ 24 by omega), pp_wI1 (show 14 ≠ 23 by omega), pp_wI1 (show 13 ≠ 23 by omega)]
      refine ⟨sr_wI (sr_wI (sr_wI (sr_wI M1 23 i (M1.1 12 i)) 24 i (M1.1 13 i)) 25 i (M1.1 14 i)) 22 (i + 1) (M1.1 11 (i + 1)), rfl, fun p hp => ?_, g2, fun q hq => by rw [pp_wI1 (by omega), pp_wI1 (by omega), pp_wI1 (by omega), pp_wI1 (by omega)]; exact g3 q hq⟩
      by_cases e : p = i
      · subst e
        rw [pp_wI1 (show 23 ≠ 22 by omega), pp_wI1 (show 23 ≠ 25 by omega), pp_wI1 (show 23 ≠ 24 by omega), pp_wI2, pp_wI1 (show 24 ≠ 22 by omega), pp_wI1 (show 24 ≠ 25 by omega), pp_wI2, pp_wI1 (show 25 ≠ 22 by omega), pp_wI2, pp_wI2, g3 12 (by omega), g3 13 (by omega), g3 14 (by omega), g3 11 (by omega), pp_wI1 (show 12 ≠ 0 by omega), pp_wI1 (show 13 ≠ 0 by omega), pp_wI1 (show 14 ≠ 0 by omega), pp_wI1 (show 11 ≠ 0 by omega)]
        exact ⟨rfl, rfl, rfl, rfl⟩
      · have := g1 p (by omega)
        rw [pp_wI1 (show 23 ≠ 22 by omega), pp_wI1 (show 23 ≠ 25 by omega), pp_wI1 (show 23 ≠ 24 by omega), pp_wI3 e, pp_wI1 (show 24 ≠ 22 by omega), pp_wI1 (show 24 ≠ 25 by omega), pp_wI3 e, pp_wI1 (show 24 ≠ 23 by omega), pp_wI1 (show 25 ≠ 22 by omega), pp_wI3 e, pp_wI1 (show 25 ≠ 24 by omega), pp_wI1 (show 25 ≠ 23 by omega), pp_wI3 (show p + 1 ≠ i + 1 by omega), pp_wI1 (show 22 ≠ 25 by omega), pp_wI1 (show 22 ≠ 24 by omega), pp_wI1 (show 22 ≠ 23 by omega)]
        exact this
    · rintro M1 ⟨g1, g2, g3⟩
      unfold f5_keep_L25
      rw [if_pos (show (120 : Int32) ≤ nI 120 by decide), wp_out]
      exact ⟨g1, g2, g3⟩
  obtain ⟨M', e, g1, g2, g3⟩ := key
  refine ⟨M', ?_, g1, by rw [g3 0 (by omega), pp_wI2], g2, fun q a b => by rw [g3 q b, pp_wI1 a], fun j hj => by rw [g3 0 (by omega), pp_wI3 hj]⟩
  unfold f5_keep
  simp only [sr_jn, sr_bnd, sr_put]
  rw [if_pos trivial, e, Option.bind_some]
theorem Ykeep1 {M : sr_M} : ∃ M', f5_keep 1 M = some M' ∧ (∀ i, i < 120 → M'.1 12 i = M.1 23 i ∧ M'.1 13 i = M.1 24 i ∧ M'.1 14 i = M.1 25 i ∧ M'.1 11 (i + 1) = M.1 22 (i + 1)) ∧ M'.1 0 14 = M.1 0 32 ∧ M'.2 = M.2 ∧ (∀ q, q ≠ 0 → (q < 11 ∨ 14 < q) → M'.1 q = M.1 q) ∧ ∀ j, j ≠ 14 → M'.1 0 j = M.1 0 j := by
  have key : sr_wp (sr_lp (fun z3 : Int32 × sr_M => f5_keep_L25 1 z3.1 z3.2) (0, sr_wI M 0 14 (M.1 0 32))) (fun M' => (∀ i, i < 120 → M'.1 12 i = M.1 23 i ∧ M'.1 13 i = M.1 24 i ∧ M'.1 14 i = M.1 25 i ∧ M'.1 11 (i + 1) = M.1 22 (i + 1)) ∧ M'.2 = M.2 ∧ ∀ q, (q < 11 ∨ 14 < q) → M'.1 q = (sr_wI M 0 14 (M.1 0 32)).1 q) := by
    refine wp_for (τ := sr_M) (fun i x => (nI i, x)) 120 (fun n M1 => (∀ i, i < n → M1.1 12 i = M.1 23 i ∧ M1.1 13 i = M.1 24 i ∧ M1.1 14 i = M.1 25 i ∧ M1.1 11 (i + 1) = M.1 22 (i + 1)) ∧ M1.2 = M.2 ∧ ∀ q, (q < 11 ∨ 14 < q) → M1.1 q = (sr_wI M 0 14 (M.1 0 32)).1 q) ?_ ?_ 0 (sr_wI M 0 14 (M.1 0 32)) (Nat.zero_le _) ⟨fun p hp => absurd hp (Nat.not_lt_zero _), rfl, fun _ _ => rfl⟩
    · rintro i M1 hi ⟨g1, g2, g3⟩
      unfold f5_keep_L25
      rw [if_neg (show ¬ (120 : Int32) ≤ nI i from (show ¬ nI 120 ≤ nI i by rw [pp_le (by omega) (by omega)]; omega)), if_neg n10, pp_ld (by omega) (by decide), pp_st (by omega) (by decide), pp_ld (by omega) (by decide), pp_st (by omega) (by decide), pp_ld (by omega) (by decide), pp_st (by omega) (by decide), nI_1, pp_ld (by omega) (by decide), pp_st (by omega) (by decide), wp_on]
      simp only [pp_wI1 (show 22 ≠ 14 by omega), pp_wI1 (show 22 ≠ 13 by omega), pp_wI1 (show 22 ≠ 12 by omega), pp_wI1 (show 25 ≠ 13 by omega), pp_wI1 (show 25 ≠ 12 by omega), pp_wI1 (show 24 ≠ 12 by omega)]
      refine ⟨sr_wI (sr_wI (sr_wI (sr_wI M1 12 i (M1.1 23 i)) 13 i (M1.1 24 i)) 14 i (M1.1 25 i)) 11 (i + 1) (M1.1 22 (i + 1)), rfl, fun p hp => ?_, g2, fun q hq => by rw [pp_wI1 (by omega), pp_wI1 (by omega), pp_wI1 (by omega), pp_wI1 (by omega)]; exact g3 q hq⟩
      by_cases e : p = i
      · subst e
        rw [pp_wI1 (show 12 ≠ 11 by omega), pp_wI1 (show 12 ≠ 14 by omega), pp_wI1 (show 12 ≠ 13 by omega), pp_wI2, pp_wI1 (show 13 ≠ 11 by omega), pp_wI1 (show 13 ≠ 14 by omega), pp_wI2, pp_wI1 (show 14 ≠ 11 by omega), pp_wI2, pp_wI2, g3 23 (by omega), g3 24 (by omega), g3 25 (by omega), g3 22 (by omega), pp_wI1 (show 23 ≠ 0 by omega), pp_wI1 (show 24 ≠ 0 by omega), pp_wI1 (show 25 ≠ 0 by omega), pp_wI1 (show 22 ≠ 0 by omega)]
        exact ⟨rfl, rfl, rfl, rfl⟩
      · have := g1 p (by omega)
        rw [pp_wI1 (show 12 ≠ 11 by omega), pp_wI1 (show 12 ≠ 14 by omega), pp_wI1 (show 12 ≠ 13 by omega), pp_wI3 e, pp_wI1 (show 13 ≠ 11 by omega), pp_wI1 (show 13 ≠ 14 by omega), pp_wI3 e, pp_wI1 (show 13 ≠ 12 by omega), pp_wI1 (show 14 ≠ 11 by omega), pp_wI3 e, pp_wI1 (show 14 ≠ 13 by omega), pp_wI1 (show 14 ≠ 12 by omega), pp_wI3 (show p + 1 ≠ i + 1 by omega), pp_wI1 (show 11 ≠ 14 by omega), pp_wI1 (show 11 ≠ 13 by omega), pp_wI1 (show 11 ≠ 12 by omega)]
        exact this
    · rintro M1 ⟨g1, g2, g3⟩
      unfold f5_keep_L25
      rw [if_pos (show (120 : Int32) ≤ nI 120 by decide), wp_out]
      exact ⟨g1, g2, g3⟩
  obtain ⟨M', e, g1, g2, g3⟩ := key
  refine ⟨M', ?_, g1, by rw [g3 0 (by omega), pp_wI2], g2, fun q a b => by rw [g3 q b, pp_wI1 a], fun j hj => by rw [g3 0 (by omega), pp_wI3 hj]⟩
  unfold f5_keep
  simp only [sr_jn, sr_bnd, sr_put]
  rw [if_neg n10, e, Option.bind_some]
theorem check_loop {K : RK} {m : Nat} (hW : WF K) (hm : m ≤ 200) : ∀ d k S Mx My, k + d = m → RX K Mx → RY K My → SOK K S → FX K S 43 Mx → FY K S My → Mx.1 0 6 = nI m → My.1 0 19 = nI m → (∀ i, i < m → Mx.1 61 i = My.1 15 i ∧ nI 0 ≤ Mx.1 61 i) →
    ∃ Mx' My', XFr 43 Mx Mx' ∧ YFr My My' ∧ ((sr_lp (fun z2 : Int32 × sr_M => f4_check_L9 z2.1 z2.2) (nI k, Mx) = some (.inl Mx') ∧ ∃ v, sr_lp (fun z3 : Int32 × Int32 × sr_M => f5_check_L13 z3.1 z3.2.1 z3.2.2) (nI k, 1, My) = some (v, 1, My')) ∨ ∃ v, sr_lp (fun z2 : Int32 × sr_M => f4_check_L9 z2.1 z2.2) (nI k, Mx) = some (.inr (v, Mx')) ∧ sr_lp (fun z3 : Int32 × Int32 × sr_M => f5_check_L13 z3.1 z3.2.1 z3.2.2) (nI k, 1, My) = some (v, 0, My')) := by
  have hn := hW.1
  have hT := hW.2.1
  have yend : ∀ (k : Nat) (My : sr_M), sr_lp (fun z3 : Int32 × Int32 × sr_M => f5_check_L13 z3.1 z3.2.1 z3.2.2) (nI k, 0, My) = some (nI k, 0, My) := by
    intro k My
    refine sr_lp_end ?_
    show f5_check_L13 (nI k) 0 My = _
    unfold f5_check_L13
    rw [if_pos rfl]
  intro d
  induction d with
  | zero =>
    intro k S Mx My hk hX hY hS hFX hFY h6 h19 ht
    obtain rfl : k = m := by omega
    refine ⟨Mx, My, XFr.rf, YFr.rf, Or.inl ⟨sr_lp_end ?_, nI k, sr_lp_end ?_⟩⟩
    · show f4_check_L9 (nI k) Mx = _
      unfold f4_check_L9
      simp only [sr_bnd, h6]
      rw [if_pos (Int32.le_refl _)]
    · show f5_check_L13 (nI k) 1 My = _
      unfold f5_check_L13
      simp only [sr_bnd, h19]
      rw [if_neg n10, if_pos (Int32.le_refl _)]
  | succ d ih =>
    intro k S Mx My hk hX hY hS hFX hFY h6 h19 ht
    obtain ⟨b, b1, b2, b3, b4⟩ := adv_o (o := 43) (by omega) hW hX hY hS hFX hFY
    obtain ⟨tk1, tk2⟩ := ht k (by omega)
    have km : ¬ nI m ≤ nI k := by rw [pp_le (by omega) (by omega)]; omega
    cases b with
    | none =>
      have ne : ¬ oI none = Mx.1 61 k := fun e => by rw [← e] at tk2; exact absurd tk2 (by decide)
      have ne' : ¬ oI none = My.1 15 k := by rw [← tk1]; exact ne
      refine ⟨Mx, My, XFr.rf, YFr.rf, Or.inr ⟨nI k, sr_lp_end ?_, sr_lp_step (t := (nI k, 0, My)) ?_ (yend k My)⟩⟩
      · show f4_check_L9 (nI k) Mx = _
        unfold f4_check_L9
        simp only [sr_bnd, h6]
        rw [if_neg km, b3 rfl, pp_bd2, pp_ld (by omega) (by decide), if_neg ne]
      · show f5_check_L13 (nI k) 1 My = _
        unfold f5_check_L13
        simp only [sr_bnd, sr_jn, h19]
        rw [if_neg n10, if_neg km, b2, Option.bind_some, pp_ld (by omega) (by decide), if_neg ne', if_pos trivial]
    | some t =>
      obtain ⟨htT, Mx', My', c1, c2, c3, c4, c5, c6, c7, c8⟩ := b4 t rfl
      have f61 : Mx'.1 61 = Mx.1 61 := c6.2 61 (by omega)
      have ex : f4_check_L9 (nI k) Mx = if nI t = Mx.1 61 k then some (.inl (nI (k + 1), Mx')) else some (.inr (.inr (nI k, Mx'))) := by
        unfold f4_check_L9
        simp only [sr_bnd, h6]
        rw [if_neg km, c1, pp_bd2, pp_ld (by omega) (by decide), f61, nI_1]
      have ey : f5_check_L13 (nI k) 1 My = if nI t = Mx.1 61 k then some (.inl (nI (k + 1), 1, My')) else some (.inl (nI k, 0, My)) := by
        have b2' : f5_nextThroat My = some (nI t) := b2
        unfold f5_check_L13
        simp only [sr_bnd, sr_jn, h19]
        rw [if_neg n10, if_neg km, b2', Option.bind_some, pp_ld (by omega) (by decide), ← tk1]
        by_cases q : nI t = Mx.1 61 k
        · rw [if_pos q, if_pos q, if_neg n10, c2, Option.bind_some, nI_1]
        · rw [if_neg q, if_neg q, if_pos trivial]
      by_cases q : nI t = Mx.1 61 k
      · rw [if_pos q] at ex ey
        obtain ⟨M1, M2, g1, g2, g3⟩ := ih (k + 1) (S.go K t) Mx' My' (by omega) (c6.rx (by omega) hX) (c8.ry hY) c3 c4 c5 (by rw [c6.2 0 (by omega)]; exact h6) (by rw [c8.2.2 19 (by omega)]; exact h19) (fun i hi => by rw [f61, c8.2.1 15 (by omega)]; exact ht i hi)
        refine ⟨M1, M2, c6.tr g1, c8.tr g2, ?_⟩
        rcases g3 with ⟨e1, v, e2⟩ | ⟨v, e1, e2⟩
        · exact Or.inl ⟨sr_lp_step ex e1, v, sr_lp_step ey e2⟩
        · exact Or.inr ⟨v, sr_lp_step ex e1, sr_lp_step ey e2⟩
      · rw [if_neg q] at ex ey
        exact ⟨Mx', My, c6, YFr.rf, Or.inr ⟨nI k, sr_lp_end ex, sr_lp_step ey (yend k My)⟩⟩
theorem op_check {Mx My : sr_M} (h : Rel Mx My) : Bth (f4_check Mx) (f5_check My) := by
  obtain ⟨K, hR, hor⟩ := h
  obtain ⟨hW, hX, hY, hC, hT⟩ := hR
  have hR : Rest K Mx My := ⟨hW, hX, hY, hC, hT⟩
  have hn := hW.1
  obtain ⟨m, m200, t1, t2, t3⟩ := hT
  obtain ⟨Mx1, ex, fx, frx, x1⟩ := Xstart (o := 43) hW hX (by omega)
  obtain ⟨My0, ek, k1, k2, k3, k4, k5⟩ := Ykeep0 (M := My)
  have hY0 : RY K My0 := hY.kept (k5 0 (by omega)) (k5 3 (by omega)) (k5 8 (by omega)) (fun q a b => k4 q (by omega) (by omega))
  obtain ⟨My1, ey, fy, fry⟩ := Ystart hW hY0
  obtain ⟨Mx', My', g1, g2, g3⟩ := check_loop (m := m) hW m200 m 0 (FS.new K) Mx1 My1 (by omega) (frx.rx (by omega) hX) (fry.ry hY0) SOK.new fx fy (by rw [frx.2 0 (by omega)]; exact t1) (by rw [fry.2.2 19 (by omega), k5 19 (by omega)]; exact t2) (fun i hi => by rw [frx.2 61 (by omega), fry.2.1 15 (by omega), k4 15 (by omega) (by omega)]; exact t3 i hi)
  obtain ⟨My2, e2, l1, l2, l3, l4, l5⟩ := Ykeep1 (M := My')
  have gx := frx.tr g1
  have gy := fry.tr g2
  have y12 : ∀ i, i < 120 → My2.1 12 i = My.1 12 i := fun i hi => by rw [(l1 i hi).1, gy.2.1 23 (by omega)]; exact (k1 i hi).1
  have y13 : ∀ i, i < 120 → My2.1 13 i = My.1 13 i := fun i hi => by rw [(l1 i hi).2.1, gy.2.1 24 (by omega)]; exact (k1 i hi).2.1
  have y14 : ∀ i, i < 120 → My2.1 14 i = My.1 14 i := fun i hi => by rw [(l1 i hi).2.2.1, gy.2.1 25 (by omega)]; exact (k1 i hi).2.2.1
  have y11 : ∀ i, 1 ≤ i → i ≤ 120 → My2.1 11 i = My.1 11 i := fun i h1 h2 => by
    have := (l1 (i - 1) (by omega)).2.2.2
    rw [show i - 1 + 1 = i by omega] at this
    rw [this, gy.2.1 22 (by omega)]
    have := (k1 (i - 1) (by omega)).2.2.2
    rw [show i - 1 + 1 = i by omega] at this
    exact this
  have ys : My2.1 0 14 = My.1 0 14 := by rw [l2, gy.2.2 32 (by omega)]; exact k2
  have yj : ∀ j, j ≠ 14 → j ≠ 32 → My2.1 0 j = My.1 0 j := fun j a b => by rw [l5 j a, gy.2.2 j a, k5 j b]
  have yq : ∀ q, q ≠ 0 → ((1 ≤ q ∧ q ≤ 10) ∨ q = 15) → My2.1 q = My.1 q := fun q a b => by rw [l4 q a (by omega), gy.2.1 q (by omega), k4 q a (by omega)]
  have hrel : Rel Mx' My2 := by
    refine ⟨K, hR.keep (fun q a b => gx.2 q (by omega)) gx.1 (by rw [gx.2 0 (by omega)]) (gx.2 61 (by omega)) (fun q a b => yq q (by omega) (by omega)) (l3.trans (gy.1.trans k3)) (fun j hj => yj j (by omega) (by omega)) (yq 15 (by omega) (by omega)), ?_⟩
    rcases hor with ⟨h1, h2⟩ | ⟨S, o1, o2, o3, o4, o5⟩
    · exact Or.inl ⟨by rw [gx.2 30 (by omega)]; exact h1, by rw [yj 13 (by omega) (by omega)]; exact h2⟩
    · have hle := o1.le
      obtain ⟨f1, f2, f3, f4, f5⟩ := o3
      exact Or.inr ⟨S, o1, o2.kept (fun q a b => gx.2 q (by omega)), ⟨ys.trans f1, fun k a b => by rw [y11 k a (by omega)]; exact f2 k a b, fun p hp => by rw [y12 p (by omega)]; exact f3 p hp, fun p hp => by rw [y13 p (by omega)]; exact f4 p hp, fun p hp => by rw [y14 p (by omega)]; exact f5 p hp⟩, by rw [gx.2 30 (by omega)]; exact o4, by rw [yj 13 (by omega) (by omega)]; exact o5⟩
  unfold f4_check f5_check
  rw [ex, ek, Option.bind_some, Option.bind_some, ey, Option.bind_some]
  rcases g3 with ⟨q1, v, q2⟩ | ⟨v, q1, q2⟩
  · have q1 : sr_lp (fun z2 : Int32 × sr_M => f4_check_L9 z2.1 z2.2) (0, Mx1) = _ := q1
    have q2 : sr_lp (fun z3 : Int32 × Int32 × sr_M => f5_check_L13 z3.1 z3.2.1 z3.2.2) (0, 1, My1) = _ := q2
    rw [q1, q2, Option.bind_some, Option.bind_some, e2, Option.bind_some, if_neg n10]
    exact ⟨_, _, _, rfl, rfl, hrel⟩
  · have q1 : sr_lp (fun z2 : Int32 × sr_M => f4_check_L9 z2.1 z2.2) (0, Mx1) = _ := q1
    have q2 : sr_lp (fun z3 : Int32 × Int32 × sr_M => f5_check_L13 z3.1 z3.2.1 z3.2.2) (0, 1, My1) = _ := q2
    rw [q1, q2, Option.bind_some, Option.bind_some, e2, Option.bind_some, if_pos rfl]
    exact ⟨_, _, _, rfl, rfl, hrel⟩
