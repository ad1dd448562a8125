theorem lpp_ {σ τ ρ ρ' : Type} {bx : σ → Option (σ ⊕ ρ)} {by_ : τ → Option (τ ⊕ ρ')} (R : Nat → σ → τ → Prop) (Q : ρ → ρ' → Prop)
    (h : ∀ n s t, R (n + 1) s t → (∃ s' t', bx s = some (.inl s') ∧ by_ t = some (.inl t') ∧ R n s' t') ∨ ∃ r r', bx s = some (.inr r) ∧ by_ t = some (.inr r') ∧ Q r r')
    (h0 : ∀ s t, R 0 s t → ∃ r r', bx s = some (.inr r) ∧ by_ t = some (.inr r') ∧ Q r r') : ∀ n s t, R n s t → ∃ r r', sr_lp bx s = some r ∧ sr_lp by_ t = some r' ∧ Q r r' := by
  intro n
  induction n with
  | zero =>
    intro s t hR
    obtain ⟨r, r', e1, e2, q⟩ := h0 s t hR
    exact ⟨r, r', sr_lp_end e1, sr_lp_end e2, q⟩
  | succ n ih =>
    intro s t hR
    rcases h n s t hR with ⟨s', t', e1, e2, hR'⟩ | ⟨r, r', e1, e2, q⟩
    · obtain ⟨r, r', g1, g2, q⟩ := ih s' t' hR'
      exact ⟨r, r', sr_lp_step e1 g1, sr_lp_step e2 g2, q⟩
    · exact ⟨r, r', sr_lp_end e1, sr_lp_end e2, q⟩
def goodW (none : Prop) (w : Int64) : Prop := ¬ none ∧ ¬ w < 0 ∧ ¬ 1000000000 < w
theorem i64_nI {w : Int64} (h0 : ¬ w < 0) (h1 : ¬ 1000000000 < w) : ∃ x, x ≤ 1000000000 ∧ w.toInt32 = nI x := by
  have a : 0 ≤ w.toInt := by
    rw [Int64.lt_iff_toInt_lt] at h0
    have : (0 : Int64).toInt = 0 := by decide
    omega
  have b : w.toInt ≤ 1000000000 := by
    rw [Int64.lt_iff_toInt_lt] at h1
    have : (1000000000 : Int64).toInt = 1000000000 := by decide
    omega
  refine ⟨w.toInt.toNat, by omega, ?_⟩
  apply Int32.toInt.inj
  rw [pp_toInt (by omega), Int64.toInt_toInt32]
  have : (w.toInt.toNat : Int) = w.toInt := Int.toNat_of_nonneg a
  rw [this]
  exact Int.bmod_eq_of_le (by omega) (by omega)
theorem XpourOne {M : sr_M} {o i t : Nat} (hi : i < 60) (ht : t < 300) (hn : M.1 (o + 2) i = 0 ∨ M.1 (o + 2) i = 1) :
    (goodW (M.1 (o + 2) i = 1) (M.2.1 (o + 1) i) → f4_pourOne o (nI i) (nI t) M = f2_settle (nI t) (M.2.1 (o + 1) i).toInt32 (nI 1) M) ∧ (¬ goodW (M.1 (o + 2) i = 1) (M.2.1 (o + 1) i) → f4_pourOne o (nI i) (nI t) M = f2_settle (nI t) (M.1 6 t) (nI 0) M) := by
  have z : ¬ (nI 1 : Int32) = nI 0 := by decide
  have bs : ∀ x : Option sr_M, (x.bind fun M6 => some M6) = x := fun x => by cases x <;> rfl
  unfold goodW f4_pourOne f0_isNoNumber
  simp (disch := omega) only [↓reduceIte, sr_bnd, sr_put, Option.bind_some, pp_bd2, pp_ld, pp_st, pp_stB, pp_putB, pp_grd, pp_l0, pp_l1, pp_l2, pp_l3, pp_l4, pp_l5, pp_l6, pp_l60, pp_l120, pp_l200, nI_add, pp_sub, pp_dec, pp_le, pp_lt, pp_eq, pp_neg1, pp_neg2, pp_neg3, pp_neg4, pp_neg5, if_pos, if_neg, if_true, if_false, pp_gv, nI_clamp, pp_stJ, pp_stD, pk_mul, mayH, sr_jn, bs]
  rcases hn with e | e
  · rw [e]
    simp only [pp_l0, if_true, Option.bind_some]
    constructor
    · rintro ⟨-, h1, h2⟩
      have q : ¬ (M.2.1 (o + 1) i < 0 ∨ 1000000000 < M.2.1 (o + 1) i) := fun q => q.elim h1 h2
      simp only [if_neg q, if_neg z]
    · intro h
      by_cases q : M.2.1 (o + 1) i < 0 ∨ 1000000000 < M.2.1 (o + 1) i
      · simp only [if_pos q, if_true]
      · exact absurd ⟨by decide, fun a => q (Or.inl a), fun a => q (Or.inr a)⟩ h
  · rw [e]
    simp only [pp_l1, if_neg z, Option.bind_some, if_true]
    constructor
    · rintro ⟨h, -⟩
      exact absurd trivial h
    · intro _; trivial
theorem YpourOne {M : sr_M} {c a t k n kd : Nat} (hc : c < 6) (ha : a + k < 60) (ht : t + k < 300) (hk : k < n) (hn : n ≤ 60) (h7 : M.1 7 c = nI kd) (hkd : kd ≤ 5) :
    ∃ w, (w = if kd < 4 then M.2.1 9 (60 * c + a + k) else FP.d2l (M.2.2 10 (60 * c + a + k))) ∧
    (goodW (4 ≤ kd ∧ FP.Core.dIsNaN (M.2.2 10 (60 * c + a + k)) = true) w → f5_pour_L60 (nI c) (nI a) (nI n) (nI t) (nI k) M = some (.inl (nI (k + 1), sr_wI (sr_wI M 6 (t + k) 0) 5 (t + k) w.toInt32))) ∧
    (¬ goodW (4 ≤ kd ∧ FP.Core.dIsNaN (M.2.2 10 (60 * c + a + k)) = true) w → f5_pour_L60 (nI c) (nI a) (nI n) (nI t) (nI k) M = some (.inl (nI (k + 1), sr_wI (sr_wI M 6 (t + k) 1) 5 (t + k) (M.1 5 (t + k))))) := by
  refine ⟨_, rfl, ?_⟩
  have z : ¬ (nI 1 : Int32) = nI 0 := by decide
  have ew : f5_wholeOf (nI c) (nI a + nI k) M = some (if kd < 4 then M.2.1 9 (60 * c + a + k) else FP.d2l (M.2.2 10 (60 * c + a + k))) := by
    unfold f5_wholeOf
    simp (disch := omega) only [↓reduceIte, sr_bnd, sr_put, Option.bind_some, pp_bd2, pp_ld, pp_st, pp_stB, pp_putB, pp_grd, pp_l0, pp_l1, pp_l2, pp_l3, pp_l4, pp_l5, pp_l6, pp_l60, pp_l120, pp_l200, nI_add, pp_sub, pp_dec, pp_le, pp_lt, pp_eq, pp_neg1, pp_neg2, pp_neg3, pp_neg4, pp_neg5, if_pos, if_neg, if_true, if_false, pp_gv, nI_clamp, pp_stJ, pp_stD, pk_mul, h7, pp_l4]
    by_cases q : kd < 4
    · rw [if_pos q, if_neg (by omega), Nat.add_assoc]
    · rw [if_neg q, if_pos (by omega), Nat.add_assoc]
  generalize (if kd < 4 then M.2.1 9 (60 * c + a + k) else FP.d2l (M.2.2 10 (60 * c + a + k))) = w at ew ⊢
  unfold f5_pour_L60
  rw [if_neg (by simp (disch := omega) only [pp_le]; omega), ew]
  have hN : FP.Core.dIsNaN (M.2.2 10 (60 * c + a + k)) = true ↔ ¬ (Op.cmpValue (FP.dcmp (M.2.2 10 (60 * c + a + k)) (M.2.2 10 (60 * c + a + k))) .l = 0) := by
    rw [ff_cmp]; simp
  have i1 : (60 : Int32) * nI c + nI a + nI k = nI (60 * c + a + k) := by rw [pp_l60, pk_mul, nI_add, nI_add]
  have i2 : nI t + nI k = nI (t + k) := nI_add t k
  rw [Option.bind_some, i1, i2, pp_ld (by omega) (by decide), pp_ld hc (by decide), h7]
  have k4 : (nI kd < 4) = (kd < 4) := pp_lt (by omega) (by decide)
  have z1 : ((1 : Int32) = 0) = False := by simp
  have kk : nI k + 1 = nI (k + 1) := nI_1 k
  simp only [k4, lg_cmp_lt, lg_cmp_gt, kk]
  have good : (¬ (4 ≤ kd ∧ FP.Core.dIsNaN (M.2.2 10 (60 * c + a + k)) = true)) = (kd < 4 ∨ Op.cmpValue (FP.dcmp (M.2.2 10 (60 * c + a + k)) (M.2.2 10 (60 * c + a + k))) .l = 0) := by
    rw [hN]
    apply propext
    constructor
    · intro h
      by_cases q : kd < 4
      · exact Or.inl q
      · exact Or.inr (Classical.byContradiction fun x => h ⟨by omega, x⟩)
    · rintro (h | h) ⟨h1, h2⟩
      · omega
      · exact h2 h
  unfold goodW
  rw [good]
  by_cases q4 : kd < 4
  · by_cases w0 : w < 0
    · simp (disch := first | omega | decide) only [sr_jn, ↓reduceIte, q4, w0, z1, ↓reduceIte, sr_bnd, sr_put, Option.bind_some, pp_bd2, pp_ld, pp_st, pp_stB, pp_putB, pp_grd, pp_l0, pp_l1, pp_l2, pp_l3, pp_l4, pp_l5, pp_l6, pp_l60, pp_l120, pp_l200, nI_add, pp_sub, pp_dec, pp_le, pp_lt, pp_eq, pp_neg1, pp_neg2, pp_neg3, pp_neg4, pp_neg5, if_pos, if_neg, if_true, if_false, pp_gv, nI_clamp, pp_stJ, pp_stD, pk_mul, pp_wI1]
      simp
    · by_cases w1 : 1000000000 < w
      · simp (disch := first | omega | decide) only [sr_jn, ↓reduceIte, q4, w0, w1, z1, ↓reduceIte, sr_bnd, sr_put, Option.bind_some, pp_bd2, pp_ld, pp_st, pp_stB, pp_putB, pp_grd, pp_l0, pp_l1, pp_l2, pp_l3, pp_l4, pp_l5, pp_l6, pp_l60, pp_l120, pp_l200, nI_add, pp_sub, pp_dec, pp_le, pp_lt, pp_eq, pp_neg1, pp_neg2, pp_neg3, pp_neg4, pp_neg5, if_pos, if_neg, if_true, if_false, pp_gv, nI_clamp, pp_stJ, pp_stD, pk_mul, pp_wI1]
        simp
      · simp (disch := first | omega | decide) only [sr_jn, ↓reduceIte, q4, w0, w1, z1, ↓reduceIte, sr_bnd, sr_put, Option.bind_some, pp_bd2, pp_ld, pp_st, pp_stB, pp_putB, pp_grd, pp_l0, pp_l1, pp_l2, pp_l3, pp_l4, pp_l5, pp_l6, pp_l60, pp_l120, pp_l200, nI_add, pp_sub, pp_dec, pp_le, pp_lt, pp_eq, pp_neg1, pp_neg2, pp_neg3, pp_neg4, pp_neg5, if_pos, if_neg, if_true, if_false, pp_gv, nI_clamp, pp_stJ, pp_stD, pk_mul, pp_wI1]
        simp
  · by_cases qn : Op.cmpValue (FP.dcmp (M.2.2 10 (60 * c + a + k)) (M.2.2 10 (60 * c + a + k))) .l = 0
    · by_cases w0 : w < 0
      · simp (disch := first | omega | decide) only [sr_jn, ↓reduceIte, q4, qn, w0, z1, ↓reduceIte, sr_bnd, sr_put, Option.bind_some, pp_bd2, pp_ld, pp_st, pp_stB, pp_putB, pp_grd, pp_l0, pp_l1, pp_l2, pp_l3, pp_l4, pp_l5, pp_l6, pp_l60, pp_l120, pp_l200, nI_add, pp_sub, pp_dec, pp_le, pp_lt, pp_eq, pp_neg1, pp_neg2, pp_neg3, pp_neg4, pp_neg5, if_pos, if_neg, if_true, if_false, pp_gv, nI_clamp, pp_stJ, pp_stD, pk_mul, pp_wI1]
        simp
      · by_cases w1 : 1000000000 < w
        · simp (disch := first | omega | decide) only [sr_jn, ↓reduceIte, q4, qn, w0, w1, z1, ↓reduceIte, sr_bnd, sr_put, Option.bind_some, pp_bd2, pp_ld, pp_st, pp_stB, pp_putB, pp_grd, pp_l0, pp_l1, pp_l2, pp_l3, pp_l4, pp_l5, pp_l6, pp_l60, pp_l120, pp_l200, nI_add, pp_sub, pp_dec, pp_le, pp_lt, pp_eq, pp_neg1, pp_neg2, pp_neg3, pp_neg4, pp_neg5, if_pos, if_neg, if_true, if_false, pp_gv, nI_clamp, pp_stJ, pp_stD, pk_mul, pp_wI1]
          simp
        · simp (disch := first | omega | decide) only [sr_jn, ↓reduceIte, q4, qn, w0, w1, z1, ↓reduceIte, sr_bnd, sr_put, Option.bind_some, pp_bd2, pp_ld, pp_st, pp_stB, pp_putB, pp_grd, pp_l0, pp_l1, pp_l2, pp_l3, pp_l4, pp_l5, pp_l6, pp_l60, pp_l120, pp_l200, nI_add, pp_sub, pp_dec, pp_le, pp_lt, pp_eq, pp_neg1, pp_neg2, pp_neg3, pp_neg4, pp_neg5, if_pos, if_neg, if_true, if_false, pp_gv, nI_clamp, pp_stJ, pp_stD, pk_mul, pp_wI1]
          simp
    · have qn' : (Op.cmpValue (FP.dcmp (M.2.2 10 (60 * c + a + k)) (M.2.2 10 (60 * c + a + k))) .l = nI 0) = False := propext ⟨fun x => qn x, fun x => x.elim⟩
      simp (disch := first | omega | decide) only [sr_jn, ↓reduceIte, q4, qn', z1, ↓reduceIte, sr_bnd, sr_put, Option.bind_some, pp_bd2, pp_ld, pp_st, pp_stB, pp_putB, pp_grd, pp_l0, pp_l1, pp_l2, pp_l3, pp_l4, pp_l5, pp_l6, pp_l60, pp_l120, pp_l200, nI_add, pp_sub, pp_dec, pp_le, pp_lt, pp_eq, pp_neg1, pp_neg2, pp_neg3, pp_neg4, pp_neg5, if_pos, if_neg, if_true, if_false, pp_gv, nI_clamp, pp_stJ, pp_stD, pk_mul, pp_wI1]
      simp
theorem pour_loop {c a t n : Nat} (hc : c < 6) (han : a + n ≤ 60) : ∀ (j : Nat) (s1 s2 : Int32 × sr_M), (∃ k K, k + j = n ∧ s1.1 = nI k ∧ s2.1 = nI k ∧ Rest K s1.2 s2.2 ∧ s1.2.1 30 1 = 0 ∧ t + n ≤ K.T ∧ s1.2.1 (12 + 3 * c) 0 = 1 ∧ ∃ sz, s1.2.1 (12 + 3 * c) 2 = nI sz ∧ sz ≤ 60 ∧ a + n ≤ sz) →
    ∃ r r', sr_lp (fun z9 : Int32 × sr_M => f4_pour_L82 (nI c) (nI a) (nI n) (nI t) z9.1 z9.2) s1 = some r ∧ sr_lp (fun z6 : Int32 × sr_M => f5_pour_L60 (nI c) (nI a) (nI n) (nI t) z6.1 z6.2) s2 = some r' ∧ ∃ K', Rest K' r r' ∧ r.1 30 1 = 0 := by
  refine lpp_ _ (fun r r' => ∃ K', Rest K' r r' ∧ r.1 30 1 = 0) ?_ ?_
  · rintro j ⟨v1, Mx⟩ ⟨v2, My⟩ ⟨k, K, hk, e1, e2, hR, h30, hT, hth, sz, hs1, hs2, hs3⟩
    dsimp only at e1 e2 hR h30 hth hs1 ⊢
    subst e1 e2
    left
    obtain ⟨hW, hX, hY, hC, hTo⟩ := hR
    have hTT := hW.2.1
    have htk : t + k < K.T := by omega
    rcases hC c hc with ⟨a1, -⟩ | ⟨-, kd, sz', b1, b2, b3, b4, b5, b6, b7⟩
    · rw [a1] at hth; cases hth
    have esz : sz' = sz := by
      have t1 := congrArg Int32.toInt (b5.symm.trans hs1)
      rw [pp_toInt (by omega), pp_toInt (by omega)] at t1
      omega
    subst esz
    have num := b7 (a + k) (by omega)
    rw [← Nat.add_assoc] at num
    obtain ⟨w, hw, y1, y2⟩ := YpourOne (t := t) hc (show a + k < 60 by omega) (show t + k < 300 by omega) (show k < n by omega) (by omega) b4 b1
    obtain ⟨x1, x2⟩ := XpourOne (o := 12 + 3 * c) (show a + k < 60 by omega) (show t + k < 300 by omega) num.1
    have ww : Mx.2.1 (12 + 3 * c + 1) (a + k) = w := by
      rw [hw]
      by_cases q : kd < 4
      · have := num.2
        rw [if_pos q] at this ⊢
        exact this.1
      · have := num.2
        rw [if_neg q] at this ⊢
        exact this.1
    have gg : goodW (Mx.1 (12 + 3 * c + 2) (a + k) = 1) w ↔ goodW (4 ≤ kd ∧ FP.Core.dIsNaN (My.2.2 10 (60 * c + a + k)) = true) w := by
      unfold goodW
      have : (Mx.1 (12 + 3 * c + 2) (a + k) = 1) ↔ (4 ≤ kd ∧ FP.Core.dIsNaN (My.2.2 10 (60 * c + a + k)) = true) := by
        by_cases q : kd < 4
        · have := num.2
          rw [if_pos q] at this
          rw [this.2]
          constructor
          · intro x; exact absurd x (by decide)
          · rintro ⟨x, -⟩; omega
        · have := num.2
          rw [if_neg q] at this
          constructor
          · intro x
            refine ⟨by omega, ?_⟩
            cases e : FP.Core.dIsNaN (My.2.2 10 (60 * c + a + k)) with
            | true => rfl
            | false =>
              have := this.2.mpr e
              rw [x] at this
              exact absurd this (by decide)
          · rintro ⟨-, x⟩
            rcases num.1 with y | y
            · have := this.2.mp y
              rw [x] at this
              cases this
            · exact y
      rw [this]
    rw [ww] at x1 x2
    have body : ∀ M1, f4_pourOne (12 + 3 * c) (nI (a + k)) (nI (t + k)) Mx = some M1 → f4_pour_L82 (nI c) (nI a) (nI n) (nI t) (nI k) Mx = some (.inl (nI (k + 1), M1)) := by
      intro M1 e
      unfold f4_pour_L82
      simp (disch := omega) only [↓reduceIte, sr_bnd, sr_put, Option.bind_some, pp_bd2, pp_ld, pp_st, pp_stB, pp_putB, pp_grd, pp_l0, pp_l1, pp_l2, pp_l3, pp_l4, pp_l5, pp_l6, pp_l60, pp_l120, pp_l200, nI_add, pp_sub, pp_dec, pp_le, pp_lt, pp_eq, pp_neg1, pp_neg2, pp_neg3, pp_neg4, pp_neg5, if_pos, if_neg, if_true, if_false, pp_gv, nI_clamp, pp_stJ, pp_stD, pk_mul, e]
    have fin : ∀ (v : Nat) (b : Bool) (M1 : sr_M) (sv hv : Int32), v ≤ 1000000000 → f2_settle (nI (t + k)) (nI v) (pp_bI b) Mx = some M1 → sv = pp_bI (!b) → hv = nI v → M1.2 = Mx.2 → (∀ q, q = 0 ∨ 10 < q → M1.1 q = Mx.1 q) → RX (K.set (t + k) v b) M1 → Rest (K.set (t + k) v b) M1 (sr_wI (sr_wI My 6 (t + k) sv) 5 (t + k) hv) := by
      intro v b M1 sv hv hvle _ es eh m2 m3 m4
      refine ⟨hW.set hvle, m4, ?_, ?_, ?_⟩
      · refine hY.setv ?_ ?_ ?_ (fun q h1 h2 => ?_) (fun u => ?_) (fun u => ?_)
        · simp (disch := omega) only [pp_wI1, pp_wI2, pp_wI3]
        · simp (disch := omega) only [pp_wI1, pp_wI2, pp_wI3]
        · simp (disch := omega) only [pp_wI1, pp_wI2, pp_wI3]
        · simp (disch := omega) only [pp_wI1, pp_wI2, pp_wI3]
        · rw [pp_wI, eh]
          by_cases q : u = t + k
          · rw [if_pos ⟨rfl, q⟩, if_pos q]
          · rw [if_neg (fun z => q z.2), if_neg q, pp_wI1 (by decide)]
        · rw [pp_wI1 (by decide), pp_wI, es]
          by_cases q : u = t + k
          · rw [if_pos ⟨rfl, q⟩, if_pos q]
          · rw [if_neg (fun z => q z.2), if_neg q]
      · refine hC.keep (fun q hq hq2 => m3 q (by omega)) m2 ?_ ?_ rfl
        · simp (disch := omega) only [pp_wI1, pp_wI2, pp_wI3]
        · simp (disch := omega) only [pp_wI1, pp_wI2, pp_wI3]
      · refine hTo.kept ?_ ?_ ?_ ?_
        · rw [m3 0 (by omega)]
        · rw [m3 61 (by omega)]
        · simp (disch := omega) only [pp_wI1, pp_wI2, pp_wI3]
        · simp (disch := omega) only [pp_wI1, pp_wI2, pp_wI3]
    by_cases g : goodW (Mx.1 (12 + 3 * c + 2) (a + k) = 1) w
    · obtain ⟨x, hx, ex⟩ := i64_nI g.2.1 g.2.2
      obtain ⟨M1, es, m2, m3, m4⟩ := RX_settle hW hX htk hx true
      have e1 := x1 g
      rw [ex] at e1
      refine ⟨_, _, body M1 (e1.trans es), y1 (gg.mp g), k + 1, K.set (t + k) x true, by omega, rfl, rfl, fin x true M1 0 _ hx es rfl ex m2 m3 m4, by rw [m3 30 (by omega)]; exact h30, hT, by rw [m3 _ (by omega)]; exact hth, sz', by rw [m3 _ (by omega)]; exact b5, hs2, hs3⟩
    · have hv := hW.2.2.2.2 (t + k) htk
      obtain ⟨M1, es, m2, m3, m4⟩ := RX_settle hW hX htk hv false
      have e1 := x2 g
      have h6 := hX.1.2.2.2.2.2.2.1 (t + k) htk
      have g5 := hY.2.2.2.2.2.2.1 (t + k) htk
      rw [h6] at e1
      refine ⟨_, _, body M1 (e1.trans es), y2 (fun z => g (gg.mpr z)), k + 1, K.set (t + k) (K.hd (t + k)) false, by omega, rfl, rfl, fin _ false M1 1 _ hv es rfl g5 m2 m3 m4, by rw [m3 30 (by omega)]; exact h30, hT, by rw [m3 _ (by omega)]; exact hth, sz', by rw [m3 _ (by omega)]; exact b5, hs2, hs3⟩
  · rintro ⟨v1, Mx⟩ ⟨v2, My⟩ ⟨k, K, hk, e1, e2, hR, h30, -⟩
    dsimp only at e1 e2 hR h30 ⊢
    subst e1 e2
    refine ⟨Mx, My, ?_, ?_, K, hR, h30⟩
    · unfold f4_pour_L82
      simp (disch := omega) only [sr_bnd, sr_put, sr_jn, Option.bind_some, pp_bd2, pp_ld, pp_st, pp_stB, pp_putB, pp_grd, pp_l0, pp_l1, pp_l2, pp_l3, pp_l4, pp_l5, pp_l6, pp_l60, pp_l120, pp_l200, nI_add, pp_sub, pp_dec, pp_le, pp_lt, pp_eq, pp_neg1, pp_neg2, pp_neg3, pp_neg4, pp_neg5, if_pos, if_neg, if_true, if_false]
    · unfold f5_pour_L60
      simp (disch := omega) only [pp_le, if_pos]
theorem op_pour {K : RK} {Mx My : sr_M} (h : Rest K Mx My) (a i n t : Int32) : Ends K (f4_pour a i n t) (f5_pour a i n t) Mx My := by
  have hR := h
  obtain ⟨hW, hX, hY, hC, hT⟩ := h
  have xt := hX.1.2.1
  have yt := hY.2.1
  have hTT := hW.2.1
  unfold Ends f4_pour f5_pour
  rcases place6 a with ⟨c, hc, rfl, hp⟩ | hp
  case inr =>
    simp only [(hp _).1, (hp _).2]
    exact ⟨_, Or.inl ⟨rfl, rfl⟩⟩
  simp (disch := omega) only [(hp _).1, (hp _).2, ↓reduceIte, sr_bnd, sr_put, Option.bind_some, pp_bd2, pp_ld, pp_st, pp_stB, pp_putB, pp_grd, pp_l0, pp_l1, pp_l2, pp_l3, pp_l4, pp_l5, pp_l6, pp_l60, pp_l120, pp_l200, nI_add, pp_sub, pp_dec, pp_le, pp_lt, pp_eq, pp_neg1, pp_neg2, pp_neg3, pp_neg4, pp_neg5, if_pos, if_neg, if_true, if_false, pp_gv, nI_clamp, pp_stJ, pp_stD, pk_mul, xt, yt]
  rcases hC c hc with ⟨a1, a2⟩ | ⟨a1, kd, sz, b1, b2, b3, b4, b5, b6, b7⟩
  · simp only [a1, a2]
    exact ⟨_, Or.inl ⟨rfl, rfl⟩⟩
  have z : ¬ (nI 1 : Int32) = nI 0 := by decide
  have z2 : ¬ (1 : Int32) = nI 0 := by decide
  simp (disch := omega) only [a1, if_neg z2, b6, pp_le, Nat.zero_le, if_true]
  rcases spansN (My := My) (c := c) i n b5 b6 hc b2 with ⟨p, m, hpm, rfl, rfl, e1, e2⟩ | ⟨e1, e2⟩
  case inr =>
    simp only [e1, e2]
    exact ⟨_, Or.inl ⟨rfl, rfl⟩⟩
  simp only [e1, e2, Option.bind_some, if_neg z]
  by_cases t0 : t < nI 0
  · simp only [if_pos t0]
    exact ⟨_, Or.inl ⟨rfl, rfl⟩⟩
  simp only [if_neg t0]
  obtain ⟨tt, htt, rfl⟩ := nI_of t0
  simp (disch := omega) only [pp_lt]
  by_cases q1 : K.T < tt
  · rw [if_pos q1]
    refine ⟨_, Or.inl ⟨rfl, ?_⟩⟩
    by_cases q2 : K.T < m
    · rw [if_pos q2]
    · rw [if_neg q2]
      simp (disch := omega) only [pp_sub, pp_le, if_neg]
  rw [if_neg q1]
  by_cases q2 : tt + m ≤ K.T
  case neg =>
    have e3 : (if nI m ≤ nI K.T - nI tt then sr_putB Mx 30 1 (nI 0) fun M8 => (sr_lp (fun z9 => f4_pour_L82 (nI c) (nI p) (nI m) (nI tt) z9.1 z9.2) (nI 0, M8)).bind fun w9 => some (nI 1, w9) else some (-nI 1, Mx)) = some (-nI 1, Mx) := by
      simp (disch := omega) only [pp_sub, pp_le, if_neg]
    refine ⟨-nI 1, Or.inl ⟨?_, ?_⟩⟩
    · exact e3
    · by_cases q3 : K.T < m
      · rw [if_pos q3]
      · rw [if_neg q3]
        simp (disch := omega) only [pp_sub, pp_le, if_neg]
  have q3 : ¬ K.T < m := by omega
  rw [if_neg q3]
  simp (disch := first | omega | decide) only [pp_sub, pp_le, if_pos, pp_putB]
  have hR0 : Rest K (sr_wI Mx 30 1 (nI 0)) My := hR.keep (fun q _ _ => by rw [pp_wI1 (by omega)]) rfl (by rw [pp_wI1 (by decide)]) (by rw [pp_wI1 (by decide)]) (fun _ _ _ => rfl) rfl (fun _ _ => rfl) rfl
  obtain ⟨Mx', My', ex, ey, K', hR', h30⟩ := pour_loop (t := tt) hc (show p + m ≤ 60 by omega) m (nI 0, sr_wI Mx 30 1 (nI 0)) (nI 0, My) ⟨0, K, by omega, rfl, rfl, hR0, by simp only [pp_wI2]; rfl, q2, by rw [pp_wI1 (by omega)]; exact a1, sz, by rw [pp_wI1 (by omega)]; exact b5, b2, hpm⟩
  rw [ex, ey]
  refine ⟨nI 1, Or.inr ⟨K', Mx', sr_wI My' 0 13 (nI 0), rfl, rfl, hR'.keep (fun _ _ _ => rfl) rfl rfl rfl (fun q _ _ => by rw [pp_wI1 (by omega)]) rfl (fun j hj => by rw [pp_wI3 (by omega)]) (by rw [pp_wI1 (by decide)]), h30, pp_wI2⟩⟩
