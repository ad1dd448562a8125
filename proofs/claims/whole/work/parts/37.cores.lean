/-! CORES: both sides tell the same of them -/
theorem pp_wJ {M : sr_M} {k j k' j' : Nat} {v : Int64} : (sr_wJ M k j v).2.1 k' j' = if k' = k ∧ j' = j then v else M.2.1 k' j' := by
  unfold sr_wJ va_up
  by_cases h : k' = k
  · subst h
    simp [vp_updL]
  · simp [h]
theorem pp_wD {M : sr_M} {k j k' j' : Nat} {v : UInt64} : (sr_wD M k j v).2.2 k' j' = if k' = k ∧ j' = j then v else M.2.2 k' j' := by
  unfold sr_wD va_up
  by_cases h : k' = k
  · subst h
    simp [vf_upd]
  · simp [h]
theorem pp_wJ1 {M : sr_M} {k j k' : Nat} {v : Int64} (h : k' ≠ k) : (sr_wJ M k j v).2.1 k' = M.2.1 k' := by
  unfold sr_wJ va_up
  simp [h]
theorem pp_wJ2 {M : sr_M} {k j : Nat} {v : Int64} : (sr_wJ M k j v).2.1 k j = v := by rw [pp_wJ, if_pos ⟨rfl, rfl⟩]
theorem pp_wJ3 {M : sr_M} {k j j' : Nat} {v : Int64} (h : j' ≠ j) : (sr_wJ M k j v).2.1 k j' = M.2.1 k j' := by rw [pp_wJ, if_neg (fun q => h q.2)]
theorem pp_wJI {M : sr_M} {k j : Nat} {v : Int64} : (sr_wJ M k j v).1 = M.1 := rfl
theorem pp_wJD {M : sr_M} {k j : Nat} {v : Int64} : (sr_wJ M k j v).2.2 = M.2.2 := rfl
theorem pp_wD1 {M : sr_M} {k j k' : Nat} {v : UInt64} (h : k' ≠ k) : (sr_wD M k j v).2.2 k' = M.2.2 k' := by
  unfold sr_wD va_up
  simp [h]
theorem pp_wD2 {M : sr_M} {k j : Nat} {v : UInt64} : (sr_wD M k j v).2.2 k j = v := by rw [pp_wD, if_pos ⟨rfl, rfl⟩]
theorem pp_wD3 {M : sr_M} {k j j' : Nat} {v : UInt64} (h : j' ≠ j) : (sr_wD M k j v).2.2 k j' = M.2.2 k j' := by rw [pp_wD, if_neg (fun q => h q.2)]
theorem pp_wDI {M : sr_M} {k j : Nat} {v : UInt64} : (sr_wD M k j v).1 = M.1 := rfl
theorem pp_wDJ {M : sr_M} {k j : Nat} {v : UInt64} : (sr_wD M k j v).2.1 = M.2.1 := rfl
theorem pp_stJ {ρ : Type} {j n k : Nat} {M : sr_M} {v : Int64} {F : sr_M → Option ρ} (hj : j < n) (hn : n < 2147483648) : sr_stJ (nI j) n M k v F = F (sr_wJ M k j v) := by
  unfold sr_stJ
  rw [sr_grd_t (vp_in_nI hj hn), nI_clamp (by omega)]
theorem pp_stD {ρ : Type} {j n k : Nat} {M : sr_M} {v : UInt64} {F : sr_M → Option ρ} (hj : j < n) (hn : n < 2147483648) : sr_stD (nI j) n M k v F = F (sr_wD M k j v) := by
  unfold sr_stD
  rw [sr_grd_t (vp_in_nI hj hn), nI_clamp (by omega)]
/-- a number, as the class keeps it and as the reference does -/
def Num (kd : Nat) (w : Int64) (nn : Int32) (wm : Int64) (bm : UInt64) : Prop := (nn = 0 ∨ nn = 1) ∧ if kd < 4 then w = wm ∧ nn = 0 else w = FP.d2l bm ∧ (nn = 0 ↔ FP.Core.dIsNaN bm = false)
def CoreR (c : Nat) (Mx My : sr_M) : Prop := (Mx.1 (12 + 3 * c) 0 = 0 ∧ My.1 8 c = -1) ∨ (Mx.1 (12 + 3 * c) 0 = 1 ∧ ∃ kd sz, kd ≤ 5 ∧ sz ≤ 60 ∧ Mx.1 (12 + 3 * c) 1 = nI kd ∧ My.1 7 c = nI kd ∧ Mx.1 (12 + 3 * c) 2 = nI sz ∧ My.1 8 c = nI sz ∧ ∀ i, i < sz → Num kd (Mx.2.1 (12 + 3 * c + 1) i) (Mx.1 (12 + 3 * c + 2) i) (My.2.1 9 (60 * c + i)) (My.2.2 10 (60 * c + i)))
def Cores (Mx My : sr_M) : Prop := ∀ c, c < 6 → CoreR c Mx My
/-- what the calls on cores leave alone -/
def FrCX (M M' : sr_M) : Prop := ∀ q, q < 12 ∨ 29 < q → M'.1 q = M.1 q
def FrCY (M M' : sr_M) : Prop := ∀ q, q ≠ 7 → q ≠ 8 → M'.1 q = M.1 q
theorem FrCX.rf {M : sr_M} : FrCX M M := fun _ _ => rfl
theorem FrCY.rf {M : sr_M} : FrCY M M := fun _ _ _ => rfl
/-- a core that is as it was -/
theorem CoreR.kept {c : Nat} {Mx My Mx' My' : sr_M} (h : CoreR c Mx My) (h0 : ∀ j, Mx'.1 (12 + 3 * c) j = Mx.1 (12 + 3 * c) j) (h1 : ∀ j, Mx'.2.1 (12 + 3 * c + 1) j = Mx.2.1 (12 + 3 * c + 1) j) (h2 : ∀ j, Mx'.1 (12 + 3 * c + 2) j = Mx.1 (12 + 3 * c + 2) j) (h7 : My'.1 7 c = My.1 7 c) (h8 : My'.1 8 c = My.1 8 c) (h9 : ∀ i, i < 60 → My'.2.1 9 (60 * c + i) = My.2.1 9 (60 * c + i)) (h10 : ∀ i, i < 60 → My'.2.2 10 (60 * c + i) = My.2.2 10 (60 * c + i)) : CoreR c Mx' My' := by
  rcases h with ⟨a, b⟩ | ⟨a, kd, sz, b1, b2, b3, b4, b5, b6, b7⟩
  · exact Or.inl ⟨by rw [h0]; exact a, by rw [h8]; exact b⟩
  · refine Or.inr ⟨by rw [h0]; exact a, kd, sz, b1, b2, by rw [h0]; exact b3, by rw [h7]; exact b4, by rw [h0]; exact b5, by rw [h8]; exact b6, fun i hi => ?_⟩
    rw [h1, h2, h9 i (by omega), h10 i (by omega)]
    exact b7 i hi
theorem pp_gv {ρ : Type} {j n : Nat} {x : Option ρ} (hj : j < n) (hn : n < 2147483648) : sr_grd (vp_in (nI j) n) x = x := sr_grd_t (vp_in_nI hj hn)
theorem place6 (a : Int32) : (∃ c, c < 6 ∧ a = nI c ∧ ∀ M, f4_hasPlace a M = some (nI 1) ∧ f5_isCore a M = some (nI 1)) ∨ (∀ M, f4_hasPlace a M = some (nI 0) ∧ f5_isCore a M = some (nI 0)) := by
  rcases pk_ix a (n := 6) (by decide) with h | h | ⟨c, hc, rfl⟩
  · right
    intro M
    unfold f4_hasPlace f5_isCore
    rw [if_pos h]
    exact ⟨rfl, rfl⟩
  · right
    intro M
    unfold f4_hasPlace f5_isCore
    by_cases q : a < 0
    · rw [if_pos q]
      exact ⟨rfl, rfl⟩
    · rw [if_neg q, if_pos (show (6 : Int32) ≤ a from h)]
      exact ⟨rfl, rfl⟩
  · left
    refine ⟨c, hc, rfl, fun M => ?_⟩
    unfold f4_hasPlace f5_isCore
    simp (disch := omega) only [sr_bnd, sr_put, sr_jn, Option.bind_some, pp_bd2, pp_ld, pp_st, pp_stB, pp_putB, pp_grd, pp_l0, pp_l1, pp_l2, pp_l3, pp_l4, pp_l5, pp_l6, pp_l60, pp_l120, pp_l200, nI_add, pp_sub, pp_dec, pp_le, pp_lt, pp_eq, pp_neg1, pp_neg2, pp_neg3, pp_neg4, pp_neg5, if_pos, if_neg, if_true, if_false, and_self]
theorem core_lose {Mx My : sr_M} (h : Cores Mx My) (a : Int32) : ∃ r Mx' My', f4_lose a Mx = some (r, Mx') ∧ f5_lose a My = some (r, My') ∧ Cores Mx' My' ∧ FrCX Mx Mx' ∧ FrCY My My' := by
  rcases place6 a with ⟨c, hc, rfl, hp⟩ | hp
  · rcases h c hc with ⟨a1, a2⟩ | ⟨a1, kd, sz, b1, b2, b3, b4, b5, b6, b7⟩
    · refine ⟨-3, Mx, My, ?_, ?_, h, FrCX.rf, FrCY.rf⟩
      · unfold f4_lose
        simp (disch := omega) only [(hp _).1, ↓reduceIte, sr_bnd, sr_put, sr_jn, Option.bind_some, pp_bd2, pp_ld, pp_st, pp_stB, pp_putB, pp_grd, pp_l0, pp_l1, pp_l2, pp_l3, pp_l4, pp_l5, pp_l6, pp_l60, pp_l120, pp_l200, nI_add, pp_sub, pp_dec, pp_le, pp_lt, pp_eq, pp_neg1, pp_neg2, pp_neg3, pp_neg4, pp_neg5, if_pos, if_neg, if_true, if_false, pp_gv, nI_clamp, pp_stJ, pp_stD, pk_mul, a1] <;> rfl
      · unfold f5_lose
        simp (disch := omega) only [(hp _).2, ↓reduceIte, sr_bnd, sr_put, sr_jn, Option.bind_some, pp_bd2, pp_ld, pp_st, pp_stB, pp_putB, pp_grd, pp_l0, pp_l1, pp_l2, pp_l3, pp_l4, pp_l5, pp_l6, pp_l60, pp_l120, pp_l200, nI_add, pp_sub, pp_dec, pp_le, pp_lt, pp_eq, pp_neg1, pp_neg2, pp_neg3, pp_neg4, pp_neg5, if_pos, if_neg, if_true, if_false, pp_gv, nI_clamp, pp_stJ, pp_stD, pk_mul, a2] <;> rfl
    · refine ⟨1, sr_wI Mx (12 + 3 * c) 0 0, sr_wI My 8 c (-1), ?_, ?_, fun c' hc' => ?_, fun q hq => ?_, fun q h7 h8 => ?_⟩
      · unfold f4_lose
        simp (disch := first | omega | decide) only [(hp _).1, ↓reduceIte, sr_bnd, sr_put, sr_jn, Option.bind_some, pp_bd2, pp_ld, pp_st, pp_stB, pp_putB, pp_grd, pp_l0, pp_l1, pp_l2, pp_l3, pp_l4, pp_l5, pp_l6, pp_l60, pp_l120, pp_l200, nI_add, pp_sub, pp_dec, pp_le, pp_lt, pp_eq, pp_neg1, pp_neg2, pp_neg3, pp_neg4, pp_neg5, if_pos, if_neg, if_true, if_false, pp_gv, nI_clamp, pp_stJ, pp_stD, pk_mul, a1] <;> rfl
      · unfold f5_lose
        simp (disch := omega) only [(hp _).2, ↓reduceIte, sr_bnd, sr_put, sr_jn, Option.bind_some, pp_bd2, pp_ld, pp_st, pp_stB, pp_putB, pp_grd, pp_l0, pp_l1, pp_l2, pp_l3, pp_l4, pp_l5, pp_l6, pp_l60, pp_l120, pp_l200, nI_add, pp_sub, pp_dec, pp_le, pp_lt, pp_eq, pp_neg1, pp_neg2, pp_neg3, pp_neg4, pp_neg5, if_pos, if_neg, if_true, if_false, pp_gv, nI_clamp, pp_stJ, pp_stD, pk_mul, b6] <;> rfl
      · by_cases e : c' = c
        · subst e
          exact Or.inl ⟨pp_wI2, pp_wI2⟩
        · refine (h c' hc').kept (fun j => ?_) (fun j => rfl) (fun j => ?_) ?_ ?_ (fun _ _ => rfl) (fun _ _ => rfl)
          · rw [pp_wI1 (by omega)]
          · rw [pp_wI1 (by omega)]
          · rw [pp_wI1 (by decide)]
          · rw [pp_wI3 e]
      · rw [pp_wI1 (by omega)]
      · rw [pp_wI1 h8]
  · exact ⟨-1, Mx, My, by unfold f4_lose; simp only [(hp _).1]; rfl, by unfold f5_lose; simp only [(hp _).2]; rfl, h, FrCX.rf, FrCY.rf⟩
theorem Xrenew {M : sr_M} {o kd n : Nat} (hn : n ≤ 60) : sr_wp (f0_renew o (nI kd) (nI n) M) (fun M' => M'.1 o 0 = 1 ∧ M'.1 o 1 = nI kd ∧ M'.1 o 2 = nI n ∧ (∀ i, i < n → M'.2.1 (o + 1) i = 0 ∧ M'.1 (o + 2) i = 0) ∧ (∀ q, q ≠ o → q ≠ o + 2 → M'.1 q = M.1 q) ∧ (∀ q, q ≠ o + 1 → M'.2.1 q = M.2.1 q)) := by
  unfold f0_renew
  simp (disch := first | omega | decide) only [↓reduceIte, sr_bnd, sr_put, sr_jn, Option.bind_some, pp_bd2, pp_ld, pp_st, pp_stB, pp_putB, pp_grd, pp_l0, pp_l1, pp_l2, pp_l3, pp_l4, pp_l5, pp_l6, pp_l60, pp_l120, pp_l200, nI_add, pp_sub, pp_dec, pp_le, pp_lt, pp_eq, pp_neg1, pp_neg2, pp_neg3, pp_neg4, pp_neg5, if_pos, if_neg, if_true, if_false, pp_gv, nI_clamp, pp_stJ, pp_stD, pk_mul]
  refine wp_bind ?_
  refine wp_mono (Q := fun M' => M'.1 o 0 = 1 ∧ M'.1 o 1 = nI kd ∧ M'.1 o 2 = nI n ∧ (∀ i, i < n → M'.2.1 (o + 1) i = 0 ∧ M'.1 (o + 2) i = 0) ∧ (∀ q, q ≠ o → q ≠ o + 2 → M'.1 q = M.1 q) ∧ (∀ q, q ≠ o + 1 → M'.2.1 q = M.2.1 q)) ?_ (fun M' h => by rw [wp_some]; exact h)
  refine wp_for (fun i M' => (nI i, M')) n (fun j M' => M'.1 o 0 = 1 ∧ M'.1 o 1 = nI kd ∧ M'.1 o 2 = nI n ∧ (∀ i, i < j → M'.2.1 (o + 1) i = 0 ∧ M'.1 (o + 2) i = 0) ∧ (∀ q, q ≠ o → q ≠ o + 2 → M'.1 q = M.1 q) ∧ (∀ q, q ≠ o + 1 → M'.2.1 q = M.2.1 q)) ?_ ?_ 0 _ (Nat.zero_le _) ?_
  · rintro j M' hj ⟨h0, h1, h2, h3, h4, h5⟩
    unfold f0_renew_L17
    simp (disch := first | omega | decide) only [↓reduceIte, sr_bnd, sr_put, sr_jn, Option.bind_some, pp_bd2, pp_ld, pp_st, pp_stB, pp_putB, pp_grd, pp_l0, pp_l1, pp_l2, pp_l3, pp_l4, pp_l5, pp_l6, pp_l60, pp_l120, pp_l200, nI_add, pp_sub, pp_dec, pp_le, pp_lt, pp_eq, pp_neg1, pp_neg2, pp_neg3, pp_neg4, pp_neg5, if_pos, if_neg, if_true, if_false, pp_gv, nI_clamp, pp_stJ, pp_stD, pk_mul, wp_on]
    refine ⟨_, rfl, ?_, ?_, ?_, fun i hi => ?_, fun q hq hq2 => ?_, fun q hq => ?_⟩
    · simp (disch := omega) only [pp_wI1, pp_wI2, pp_wI3, pp_wIJ, pp_wJ1, pp_wJ2, pp_wJ3, pp_wJI, pp_wJD, pp_wD1, pp_wD2, pp_wD3, pp_wDI, pp_wDJ]; exact h0
    · simp (disch := omega) only [pp_wI1, pp_wI2, pp_wI3, pp_wIJ, pp_wJ1, pp_wJ2, pp_wJ3, pp_wJI, pp_wJD, pp_wD1, pp_wD2, pp_wD3, pp_wDI, pp_wDJ]; exact h1
    · simp (disch := omega) only [pp_wI1, pp_wI2, pp_wI3, pp_wIJ, pp_wJ1, pp_wJ2, pp_wJ3, pp_wJI, pp_wJD, pp_wD1, pp_wD2, pp_wD3, pp_wDI, pp_wDJ]; exact h2
    · by_cases e : i = j
      · subst e
        simp (disch := omega) only [pp_wI1, pp_wI2, pp_wI3, pp_wIJ, pp_wJ1, pp_wJ2, pp_wJ3, pp_wJI, pp_wJD, pp_wD1, pp_wD2, pp_wD3, pp_wDI, pp_wDJ]
        exact ⟨by trivial, by trivial⟩
      · simp (disch := omega) only [pp_wI1, pp_wI2, pp_wI3, pp_wIJ, pp_wJ1, pp_wJ2, pp_wJ3, pp_wJI, pp_wJD, pp_wD1, pp_wD2, pp_wD3, pp_wDI, pp_wDJ]
        exact h3 i (by omega)
    · simp (disch := omega) only [pp_wI1, pp_wI2, pp_wI3, pp_wIJ, pp_wJ1, pp_wJ2, pp_wJ3, pp_wJI, pp_wJD, pp_wD1, pp_wD2, pp_wD3, pp_wDI, pp_wDJ]
      exact h4 q hq hq2
    · simp (disch := omega) only [pp_wI1, pp_wI2, pp_wI3, pp_wIJ, pp_wJ1, pp_wJ2, pp_wJ3, pp_wJI, pp_wJD, pp_wD1, pp_wD2, pp_wD3, pp_wDI, pp_wDJ]
      exact h5 q hq
  · rintro M' ⟨h0, h1, h2, h3, h4, h5⟩
    unfold f0_renew_L17
    simp (disch := omega) only [sr_bnd, sr_put, sr_jn, Option.bind_some, pp_bd2, pp_ld, pp_st, pp_stB, pp_putB, pp_grd, pp_l0, pp_l1, pp_l2, pp_l3, pp_l4, pp_l5, pp_l6, pp_l60, pp_l120, pp_l200, nI_add, pp_sub, pp_dec, pp_le, pp_lt, pp_eq, pp_neg1, pp_neg2, pp_neg3, pp_neg4, pp_neg5, if_pos, if_neg, if_true, if_false, Nat.le_refl, wp_out]
    exact ⟨h0, h1, h2, h3, h4, h5⟩
  · refine ⟨?_, ?_, pp_wI2, fun i hi => absurd hi (Nat.not_lt_zero _), fun q hq hq2 => ?_, fun q hq => rfl⟩
    · simp (disch := omega) only [pp_wI1, pp_wI2, pp_wI3, pp_wIJ, pp_wJ1, pp_wJ2, pp_wJ3, pp_wJI, pp_wJD, pp_wD1, pp_wD2, pp_wD3, pp_wDI, pp_wDJ]; rfl
    · simp (disch := omega) only [pp_wI1, pp_wI2, pp_wI3, pp_wIJ, pp_wJ1, pp_wJ2, pp_wJ3, pp_wJI, pp_wJD, pp_wD1, pp_wD2, pp_wD3, pp_wDI, pp_wDJ]
    · simp (disch := omega) only [pp_wI1, pp_wI2, pp_wI3, pp_wIJ, pp_wJ1, pp_wJ2, pp_wJ3, pp_wJI, pp_wJD, pp_wD1, pp_wD2, pp_wD3, pp_wDI, pp_wDJ]
theorem Ycore {M : sr_M} {c n : Nat} (hc : c < 6) (hn : n ≤ 60) : sr_wp (sr_lp (fun z4 : Int32 × sr_M => f5_core_L50 (nI c) (nI n) z4.1 z4.2) (nI 0, M)) (fun M' => M'.1 = M.1 ∧ (∀ i, i < n → M'.2.1 9 (60 * c + i) = 0 ∧ M'.2.2 10 (60 * c + i) = FP.dconst0) ∧ ∀ j, (j < 60 * c ∨ 60 * c + 60 ≤ j) → M'.2.1 9 j = M.2.1 9 j ∧ M'.2.2 10 j = M.2.2 10 j) := by
  refine wp_for (fun i M' => (nI i, M')) n (fun q M' => M'.1 = M.1 ∧ (∀ i, i < q → M'.2.1 9 (60 * c + i) = 0 ∧ M'.2.2 10 (60 * c + i) = FP.dconst0) ∧ ∀ j, (j < 60 * c ∨ 60 * c + 60 ≤ j) → M'.2.1 9 j = M.2.1 9 j ∧ M'.2.2 10 j = M.2.2 10 j) ?_ ?_ 0 _ (Nat.zero_le _) ?_
  · rintro q M' hq ⟨h1, h2, h3⟩
    unfold f5_core_L50
    simp (disch := omega) only [↓reduceIte, sr_bnd, sr_put, sr_jn, Option.bind_some, pp_bd2, pp_ld, pp_st, pp_stB, pp_putB, pp_grd, pp_l0, pp_l1, pp_l2, pp_l3, pp_l4, pp_l5, pp_l6, pp_l60, pp_l120, pp_l200, nI_add, pp_sub, pp_dec, pp_le, pp_lt, pp_eq, pp_neg1, pp_neg2, pp_neg3, pp_neg4, pp_neg5, if_pos, if_neg, if_true, if_false, pp_gv, nI_clamp, pp_stJ, pp_stD, pk_mul, wp_on]
    refine ⟨_, rfl, h1, fun i hi => ?_, fun j hj => ?_⟩
    · by_cases e : i = q
      · subst e
        simp (disch := omega) only [pp_wI1, pp_wI2, pp_wI3, pp_wIJ, pp_wJ1, pp_wJ2, pp_wJ3, pp_wJI, pp_wJD, pp_wD1, pp_wD2, pp_wD3, pp_wDI, pp_wDJ]
        exact ⟨by trivial, by trivial⟩
      · simp (disch := omega) only [pp_wI1, pp_wI2, pp_wI3, pp_wIJ, pp_wJ1, pp_wJ2, pp_wJ3, pp_wJI, pp_wJD, pp_wD1, pp_wD2, pp_wD3, pp_wDI, pp_wDJ]
        exact h2 i (by omega)
    · simp (disch := omega) only [pp_wI1, pp_wI2, pp_wI3, pp_wIJ, pp_wJ1, pp_wJ2, pp_wJ3, pp_wJI, pp_wJD, pp_wD1, pp_wD2, pp_wD3, pp_wDI, pp_wDJ]
      exact h3 j hj
  · rintro M' ⟨h1, h2, h3⟩
    unfold f5_core_L50
    simp (disch := omega) only [sr_bnd, sr_put, sr_jn, Option.bind_some, pp_bd2, pp_ld, pp_st, pp_stB, pp_putB, pp_grd, pp_l0, pp_l1, pp_l2, pp_l3, pp_l4, pp_l5, pp_l6, pp_l60, pp_l120, pp_l200, nI_add, pp_sub, pp_dec, pp_le, pp_lt, pp_eq, pp_neg1, pp_neg2, pp_neg3, pp_neg4, pp_neg5, if_pos, if_neg, if_true, if_false, Nat.le_refl, wp_out]
    exact ⟨h1, h2, h3⟩
  · exact ⟨rfl, fun i hi => absurd hi (Nat.not_lt_zero _), fun _ _ => ⟨rfl, rfl⟩⟩
theorem core_core {Mx My : sr_M} (h : Cores Mx My) (a k n : Int32) : ∃ r Mx' My', f4_core a k n Mx = some (r, Mx') ∧ f5_core a k n My = some (r, My') ∧ Cores Mx' My' ∧ FrCX Mx Mx' ∧ FrCY My My' := by
  rcases place6 a with ⟨c, hc, rfl, hp⟩ | hp
  · unfold f4_core f5_core
    simp (disch := omega) only [(hp _).1, (hp _).2, ↓reduceIte, sr_bnd, sr_put, sr_jn, Option.bind_some, pp_bd2, pp_ld, pp_st, pp_stB, pp_putB, pp_grd, pp_l0, pp_l1, pp_l2, pp_l3, pp_l4, pp_l5, pp_l6, pp_l60, pp_l120, pp_l200, nI_add, pp_sub, pp_dec, pp_le, pp_lt, pp_eq, pp_neg1, pp_neg2, pp_neg3, pp_neg4, pp_neg5, if_pos, if_neg, if_true, if_false, pp_gv, nI_clamp, pp_stJ, pp_stD, pk_mul]
    by_cases k0 : k < nI 0
    · simp only [if_pos k0]
      exact ⟨_, _, _, rfl, rfl, h, FrCX.rf, FrCY.rf⟩
    simp only [if_neg k0]
    by_cases k5 : k ≤ nI 5
    case neg =>
      simp only [if_neg k5]
      exact ⟨_, _, _, rfl, rfl, h, FrCX.rf, FrCY.rf⟩
    simp only [if_pos k5]
    by_cases n0 : nI 0 ≤ n
    case neg =>
      simp only [if_neg n0]
      exact ⟨_, _, _, rfl, rfl, h, FrCX.rf, FrCY.rf⟩
    simp only [if_pos n0]
    by_cases n6 : n ≤ nI 60
    case neg =>
      simp only [if_neg n6]
      exact ⟨_, _, _, rfl, rfl, h, FrCX.rf, FrCY.rf⟩
    simp only [if_pos n6]
    obtain ⟨kd, hkd, rfl⟩ := nI_of2 (M := nI 5) (n := 5) (by decide) k0 k5
    obtain ⟨sz, hsz, rfl⟩ := nI_of2 (M := nI 60) (n := 60) (by decide) (fun q => by
      rw [Int32.lt_iff_toInt_lt] at q
      rw [Int32.le_iff_toInt_le] at n0
      have z : (0 : Int32).toInt = (nI 0).toInt := rfl
      rw [z] at q
      omega) n6
    obtain ⟨Mx', ex, x0, x1, x2, x3, x4, x5⟩ := Xrenew (M := Mx) (o := 12 + 3 * c) (kd := kd) hsz
    obtain ⟨My', ey, y1, y2, y3⟩ := Ycore (M := sr_wI (sr_wI My 7 c (nI kd)) 8 c (nI sz)) hc hsz
    rw [ex, ey]
    refine ⟨_, _, _, rfl, rfl, fun c' hc' => ?_, fun q hq => x4 q (by omega) (by omega), fun q h7 h8 => ?_⟩
    · by_cases e : c' = c
      · subst e
        refine Or.inr ⟨x0, kd, sz, hkd, hsz, x1, ?_, x2, ?_, fun i hi => ?_⟩
        · rw [y1]; simp (disch := omega) only [pp_wI1, pp_wI2, pp_wI3, pp_wIJ, pp_wJ1, pp_wJ2, pp_wJ3, pp_wJI, pp_wJD, pp_wD1, pp_wD2, pp_wD3, pp_wDI, pp_wDJ]
        · rw [y1]; simp (disch := omega) only [pp_wI1, pp_wI2, pp_wI3, pp_wIJ, pp_wJ1, pp_wJ2, pp_wJ3, pp_wJI, pp_wJD, pp_wD1, pp_wD2, pp_wD3, pp_wDI, pp_wDJ]
        · rw [(x3 i hi).1, (x3 i hi).2, (y2 i hi).1, (y2 i hi).2]
          refine ⟨Or.inl rfl, ?_⟩
          by_cases q : kd < 4
          · rw [if_pos q]; exact ⟨rfl, rfl⟩
          · rw [if_neg q]; exact ⟨ff_c0.1.symm, ⟨fun _ => ff_c0.2, fun _ => rfl⟩⟩
      · refine (h c' hc').kept (fun j => ?_) (fun j => ?_) (fun j => ?_) ?_ ?_ (fun i hi => ?_) (fun i hi => ?_)
        · rw [x4 _ (by omega) (by omega)]
        · rw [x5 _ (by omega)]
        · rw [x4 _ (by omega) (by omega)]
        · rw [y1]; simp (disch := omega) only [pp_wI1, pp_wI2, pp_wI3, pp_wIJ, pp_wJ1, pp_wJ2, pp_wJ3, pp_wJI, pp_wJD, pp_wD1, pp_wD2, pp_wD3, pp_wDI, pp_wDJ]
        · rw [y1]; simp (disch := omega) only [pp_wI1, pp_wI2, pp_wI3, pp_wIJ, pp_wJ1, pp_wJ2, pp_wJ3, pp_wJI, pp_wJD, pp_wD1, pp_wD2, pp_wD3, pp_wDI, pp_wDJ]
        · exact (y3 _ (by omega)).1
        · exact (y3 _ (by omega)).2
    · rw [y1, pp_wI1 h8, pp_wI1 h7]
  · exact ⟨-1, Mx, My, by unfold f4_core; simp only [(hp _).1]; rfl, by unfold f5_core; simp only [(hp _).2]; rfl, h, FrCX.rf, FrCY.rf⟩
theorem rng (a : Int32) (n : Nat) (hn : n < 2147483648) : (∃ j, j < n ∧ a = nI j ∧ (if a < 0 then some (0 : Int32) else if nI n ≤ a then some 0 else some 1) = some (nI 1)) ∨ ((a < nI 0 ∨ nI n ≤ a) ∧ (if a < 0 then some (0 : Int32) else if nI n ≤ a then some 0 else some 1) = some (nI 0)) := by
  rcases pk_ix a (n := n) hn with q | q | ⟨j, hj, rfl⟩
  · right
    exact ⟨Or.inl q, by rw [if_pos q]; rfl⟩
  · right
    refine ⟨Or.inr q, ?_⟩
    by_cases z : a < 0
    · rw [if_pos z]; rfl
    · rw [if_neg z, if_pos q]; rfl
  · left
    refine ⟨j, hj, rfl, ?_⟩
    simp (disch := omega) only [sr_bnd, sr_put, sr_jn, Option.bind_some, pp_bd2, pp_ld, pp_st, pp_stB, pp_putB, pp_grd, pp_l0, pp_l1, pp_l2, pp_l3, pp_l4, pp_l5, pp_l6, pp_l60, pp_l120, pp_l200, nI_add, pp_sub, pp_dec, pp_le, pp_lt, pp_eq, pp_neg1, pp_neg2, pp_neg3, pp_neg4, pp_neg5, if_pos, if_neg, if_true, if_false]
theorem hasN {M : sr_M} {o sz : Nat} (i : Int32) (h : M.1 o 2 = nI sz) (hs : sz ≤ 60) : (∃ j, j < sz ∧ i = nI j ∧ f0_hasNumber o i M = some (nI 1)) ∨ ((i < nI 0 ∨ nI sz ≤ i) ∧ f0_hasNumber o i M = some (nI 0)) := by
  unfold f0_hasNumber
  simp only [sr_bnd, h]
  exact rng i sz (by omega)
theorem spansN {Mx My : sr_M} {o c sz : Nat} (i n : Int32) (h : Mx.1 o 2 = nI sz) (h8 : My.1 8 c = nI sz) (hc : c < 6) (hs : sz ≤ 60) : (∃ a b, a + b ≤ sz ∧ i = nI a ∧ n = nI b ∧ f0_spans o i n Mx = some (nI 1) ∧ f5_hasRow (nI c) i n My = some (nI 1)) ∨ (f0_spans o i n Mx = some (nI 0) ∧ f5_hasRow (nI c) i n My = some (nI 0)) := by
  unfold f0_spans f5_hasRow
  simp (disch := omega) only [↓reduceIte, sr_bnd, sr_put, sr_jn, Option.bind_some, pp_bd2, pp_ld, pp_st, pp_stB, pp_putB, pp_grd, pp_l0, pp_l1, pp_l2, pp_l3, pp_l4, pp_l5, pp_l6, pp_l60, pp_l120, pp_l200, nI_add, pp_sub, pp_dec, pp_le, pp_lt, pp_eq, pp_neg1, pp_neg2, pp_neg3, pp_neg4, pp_neg5, if_pos, if_neg, if_true, if_false, pp_gv, nI_clamp, pp_stJ, pp_stD, pk_mul, h, h8]
  by_cases n0 : n < nI 0
  · right
    simp only [if_pos n0, and_self]
  simp only [if_neg n0]
  by_cases i0 : i < nI 0
  · right
    simp only [if_pos i0, and_self]
  simp only [if_neg i0]
  obtain ⟨a, ha, rfl⟩ := nI_of i0
  obtain ⟨b, hb, rfl⟩ := nI_of n0
  simp (disch := omega) only [pp_lt]
  by_cases q : a + b ≤ sz
  · left
    refine ⟨a, b, q, rfl, rfl, ?_, ?_⟩
    · simp (disch := omega) only [pp_sub, pp_lt, if_neg]
    · simp (disch := omega) only [pp_sub, pp_lt, if_neg]
  · right
    constructor
    · by_cases z : sz < a
      · rw [if_pos z]
      · simp (disch := omega) only [pp_sub, pp_lt, if_neg, if_pos]
    · by_cases z : sz < b
      · rw [if_pos z]
      · simp (disch := omega) only [pp_sub, pp_lt, if_neg, if_pos]
theorem ixc {i : Int32} {sz : Nat} (hs : sz < 2147483648) (h : i < nI 0 ∨ nI sz ≤ i) : i < nI 0 ∨ (¬ i < nI 0 ∧ ¬ i < nI sz) := by
  by_cases q : i < nI 0
  · exact Or.inl q
  · refine Or.inr ⟨q, fun z => ?_⟩
    have h := h.resolve_left q
    rw [Int32.lt_iff_toInt_lt] at z
    rw [Int32.le_iff_toInt_le] at h
    omega
theorem core_told {Mx My : sr_M} (h : Cores Mx My) (a i : Int32) : ∃ r, f4_told a i Mx = some r ∧ f5_told a i My = some r := by
  rcases place6 a with ⟨c, hc, rfl, hp⟩ | hp
  · unfold f4_told f5_told
    simp (disch := omega) only [(hp _).1, (hp _).2, ↓reduceIte, sr_bnd, sr_put, sr_jn, Option.bind_some, pp_bd2, pp_ld, pp_st, pp_stB, pp_putB, pp_grd, pp_l0, pp_l1, pp_l2, pp_l3, pp_l4, pp_l5, pp_l6, pp_l60, pp_l120, pp_l200, nI_add, pp_sub, pp_dec, pp_le, pp_lt, pp_eq, pp_neg1, pp_neg2, pp_neg3, pp_neg4, pp_neg5, if_pos, if_neg, if_true, if_false, pp_gv, nI_clamp, pp_stJ, pp_stD, pk_mul]
    rcases h c hc with ⟨a1, a2⟩ | ⟨a1, kd, sz, b1, b2, b3, b4, b5, b6, b7⟩
    · refine ⟨9223372036854775807, by simp only [a1]; rfl, ?_⟩
      by_cases q : i < nI 0
      · rw [if_pos q]
      · rw [if_neg q, a2, if_neg]
        intro q2
        apply q
        rw [Int32.lt_iff_toInt_lt] at q2 ⊢
        have : (-1 : Int32).toInt = -1 := by decide
        have : (nI 0).toInt = 0 := by decide
        omega
    · simp (disch := omega) only [a1, pp_l1, pp_eq, if_neg, Nat.succ_ne_zero, if_false]
      rcases hasN i b5 b2 with ⟨j, hj, rfl, e⟩ | ⟨q, e⟩
      · have := b7 j hj
        have h60 : 60 * c + j < 360 := by omega
        unfold f5_wholeOf
        simp (disch := omega) only [e, ↓reduceIte, sr_bnd, sr_put, sr_jn, Option.bind_some, pp_bd2, pp_ld, pp_st, pp_stB, pp_putB, pp_grd, pp_l0, pp_l1, pp_l2, pp_l3, pp_l4, pp_l5, pp_l6, pp_l60, pp_l120, pp_l200, nI_add, pp_sub, pp_dec, pp_le, pp_lt, pp_eq, pp_neg1, pp_neg2, pp_neg3, pp_neg4, pp_neg5, if_pos, if_neg, if_true, if_false, pp_gv, nI_clamp, pp_stJ, pp_stD, pk_mul, b6, b4]
        refine ⟨Mx.2.1 (12 + 3 * c + 1) j, rfl, ?_⟩
        by_cases q : kd < 4
        · have e := this.2
          rw [if_pos q] at e
          rw [if_neg (by omega), e.1]
          rfl
        · have e := this.2
          rw [if_neg q] at e
          rw [if_pos (by omega), e.1]
          rfl
      · refine ⟨9223372036854775807, by simp only [e]; rfl, ?_⟩
        rcases ixc (by omega) q with q | ⟨q1, q2⟩
        · rw [if_pos q]
        · rw [if_neg q1, b6, if_neg q2]
  · refine ⟨9223372036854775807, ?_, ?_⟩
    · unfold f4_told
      simp only [(hp _).1]
      rfl
    · unfold f5_told
      simp only [(hp _).2]
      rfl
theorem core_cell {Mx My : sr_M} (h : Cores Mx My) (a i : Int32) (v : Int64) (k : Int32) : ∃ r Mx' My', f4_cell a i v k Mx = some (r, Mx') ∧ f5_cell a i v k My = some (r, My') ∧ Cores Mx' My' ∧ FrCX Mx Mx' ∧ FrCY My My' := by
  rcases place6 a with ⟨c, hc, rfl, hp⟩ | hp
  · unfold f4_cell f5_cell
    simp (disch := omega) only [(hp _).1, (hp _).2, ↓reduceIte, sr_bnd, sr_put, Option.bind_some, pp_bd2, pp_ld, pp_st, pp_stB, pp_putB, pp_grd, pp_l0, pp_l1, pp_l2, pp_l3, pp_l4, pp_l5, pp_l6, pp_l60, pp_l120, pp_l200, nI_add, pp_sub, pp_dec, pp_le, pp_lt, pp_eq, pp_neg1, pp_neg2, pp_neg3, pp_neg4, pp_neg5, if_pos, if_neg, if_true, if_false, pp_gv, nI_clamp, pp_stJ, pp_stD, pk_mul]
    by_cases k0 : k < nI 0
    · simp only [if_pos k0]
      exact ⟨_, _, _, rfl, rfl, h, FrCX.rf, FrCY.rf⟩
    simp only [if_neg k0]
    by_cases k5 : k ≤ 30
    case neg =>
      simp only [if_neg k5]
      exact ⟨_, _, _, rfl, rfl, h, FrCX.rf, FrCY.rf⟩
    simp only [if_pos k5]
    obtain ⟨kk, hkk, rfl⟩ := nI_of2 (M := 30) (n := 30) (by decide) k0 k5
    rcases h c hc with ⟨a1, a2⟩ | ⟨a1, kd, sz, b1, b2, b3, b4, b5, b6, b7⟩
    · simp only [a1, a2]
      exact ⟨_, _, _, rfl, rfl, h, FrCX.rf, FrCY.rf⟩
    simp (disch := omega) only [a1, pp_l1, pp_eq, Nat.succ_ne_zero, if_false, b6, pp_le, Nat.zero_le, if_true]
    rcases hasN i b5 b2 with ⟨j, hj, rfl, e⟩ | ⟨q, e⟩
    case inr =>
      simp only [e, Option.bind_some, if_true]
      rcases ixc (by omega) q with q | ⟨q1, q2⟩
      · simp only [if_pos q]
        exact ⟨_, _, _, rfl, rfl, h, FrCX.rf, FrCY.rf⟩
      · simp only [if_neg q1, if_neg q2]
        exact ⟨_, _, _, rfl, rfl, h, FrCX.rf, FrCY.rf⟩
    have h60 : 60 * c + j < 360 := by omega
    have fin : ∀ (w : Int64) (wm : Int64) (bm : UInt64), Num kd w 0 wm bm → ∃ r Mx' My', some ((1 : Int32), sr_wI (sr_wJ Mx (12 + 3 * c + 1) j w) (12 + 3 * c + 2) j 0) = some (r, Mx') ∧ some ((1 : Int32), sr_wD (sr_wJ My 9 (60 * c + j) wm) 10 (60 * c + j) bm) = some (r, My') ∧ Cores Mx' My' ∧ FrCX Mx Mx' ∧ FrCY My My' := by
      intro w wm bm hN
      refine ⟨_, _, _, rfl, rfl, fun c' hc' => ?_, fun q hq => ?_, fun q _ _ => rfl⟩
      · by_cases e : c' = c
        · subst e
          refine Or.inr ⟨?_, kd, sz, b1, b2, ?_, b4, ?_, b6, fun i hi => ?_⟩
          · simp (disch := omega) only [pp_wI1, pp_wI2, pp_wI3, pp_wIJ, pp_wJ1, pp_wJ2, pp_wJ3, pp_wJI, pp_wJD, pp_wD1, pp_wD2, pp_wD3, pp_wDI, pp_wDJ]; exact a1
          · simp (disch := omega) only [pp_wI1, pp_wI2, pp_wI3, pp_wIJ, pp_wJ1, pp_wJ2, pp_wJ3, pp_wJI, pp_wJD, pp_wD1, pp_wD2, pp_wD3, pp_wDI, pp_wDJ]; exact b3
          · simp (disch := omega) only [pp_wI1, pp_wI2, pp_wI3, pp_wIJ, pp_wJ1, pp_wJ2, pp_wJ3, pp_wJI, pp_wJD, pp_wD1, pp_wD2, pp_wD3, pp_wDI, pp_wDJ]; exact b5
          · by_cases e : i = j
            · subst e
              simp (disch := omega) only [pp_wI1, pp_wI2, pp_wI3, pp_wIJ, pp_wJ1, pp_wJ2, pp_wJ3, pp_wJI, pp_wJD, pp_wD1, pp_wD2, pp_wD3, pp_wDI, pp_wDJ]
              exact hN
            · simp (disch := omega) only [pp_wI1, pp_wI2, pp_wI3, pp_wIJ, pp_wJ1, pp_wJ2, pp_wJ3, pp_wJI, pp_wJD, pp_wD1, pp_wD2, pp_wD3, pp_wDI, pp_wDJ]
              exact b7 i hi
        · refine (h c' hc').kept (fun j => ?_) (fun j => ?_) (fun j => ?_) rfl rfl (fun i hi => ?_) (fun i hi => ?_)
          all_goals simp (disch := omega) only [pp_wI1, pp_wI2, pp_wI3, pp_wIJ, pp_wJ1, pp_wJ2, pp_wJ3, pp_wJI, pp_wJD, pp_wD1, pp_wD2, pp_wD3, pp_wDI, pp_wDJ]
      · simp (disch := omega) only [pp_wI1, pp_wI2, pp_wI3, pp_wIJ, pp_wJ1, pp_wJ2, pp_wJ3, pp_wJI, pp_wJD, pp_wD1, pp_wD2, pp_wD3, pp_wDI, pp_wDJ]
    unfold f0_put f0_wholeOf
    have g1 := ff_fdiv v (k := kk) (by omega)
    have g2 := ff_ddiv v (k := kk) (by omega)
    have g3 := ff_f2d g1
    have e0 : (v.toInt32).toInt8.toInt32.toInt64 = (v.toInt32).toInt8.toInt32.toInt64 := rfl
    rcases (by omega : kd = 0 ∨ kd = 1 ∨ kd = 2 ∨ kd = 3 ∨ kd = 4 ∨ kd = 5) with rfl | rfl | rfl | rfl | rfl | rfl
    · simp (disch := first | omega | decide) only [e, ↓reduceIte, sr_bnd, sr_put, sr_jn, Option.bind_some, pp_bd2, pp_ld, pp_st, pp_stB, pp_putB, pp_grd, pp_l0, pp_l1, pp_l2, pp_l3, pp_l4, pp_l5, pp_l6, pp_l60, pp_l120, pp_l200, nI_add, pp_sub, pp_dec, pp_le, pp_lt, pp_eq, pp_neg1, pp_neg2, pp_neg3, pp_neg4, pp_neg5, if_pos, if_neg, if_true, if_false, pp_gv, nI_clamp, pp_stJ, pp_stD, pk_mul, b3, b4, sr_grd_t (ff_n64 g2)]
      exact fin _ _ _ ⟨Or.inl rfl, by rw [if_pos (by omega)]; exact ⟨rfl, rfl⟩⟩
    · simp (disch := first | omega | decide) only [e, ↓reduceIte, sr_bnd, sr_put, sr_jn, Option.bind_some, pp_bd2, pp_ld, pp_st, pp_stB, pp_putB, pp_grd, pp_l0, pp_l1, pp_l2, pp_l3, pp_l4, pp_l5, pp_l6, pp_l60, pp_l120, pp_l200, nI_add, pp_sub, pp_dec, pp_le, pp_lt, pp_eq, pp_neg1, pp_neg2, pp_neg3, pp_neg4, pp_neg5, if_pos, if_neg, if_true, if_false, pp_gv, nI_clamp, pp_stJ, pp_stD, pk_mul, b3, b4, sr_grd_t (ff_n64 g2)]
      exact fin _ _ _ ⟨Or.inl rfl, by rw [if_pos (by omega)]; exact ⟨rfl, rfl⟩⟩
    · simp (disch := first | omega | decide) only [e, ↓reduceIte, sr_bnd, sr_put, sr_jn, Option.bind_some, pp_bd2, pp_ld, pp_st, pp_stB, pp_putB, pp_grd, pp_l0, pp_l1, pp_l2, pp_l3, pp_l4, pp_l5, pp_l6, pp_l60, pp_l120, pp_l200, nI_add, pp_sub, pp_dec, pp_le, pp_lt, pp_eq, pp_neg1, pp_neg2, pp_neg3, pp_neg4, pp_neg5, if_pos, if_neg, if_true, if_false, pp_gv, nI_clamp, pp_stJ, pp_stD, pk_mul, b3, b4, sr_grd_t (ff_n64 g2)]
      exact fin _ _ _ ⟨Or.inl rfl, by rw [if_pos (by omega)]; exact ⟨rfl, rfl⟩⟩
    · simp (disch := first | omega | decide) only [e, ↓reduceIte, sr_bnd, sr_put, sr_jn, Option.bind_some, pp_bd2, pp_ld, pp_st, pp_stB, pp_putB, pp_grd, pp_l0, pp_l1, pp_l2, pp_l3, pp_l4, pp_l5, pp_l6, pp_l60, pp_l120, pp_l200, nI_add, pp_sub, pp_dec, pp_le, pp_lt, pp_eq, pp_neg1, pp_neg2, pp_neg3, pp_neg4, pp_neg5, if_pos, if_neg, if_true, if_false, pp_gv, nI_clamp, pp_stJ, pp_stD, pk_mul, b3, b4, sr_grd_t (ff_n64 g2)]
      exact fin _ _ _ ⟨Or.inl rfl, by rw [if_pos (by omega)]; exact ⟨rfl, rfl⟩⟩
    · simp (disch := first | omega | decide) only [e, ↓reduceIte, sr_bnd, sr_put, sr_jn, Option.bind_some, pp_bd2, pp_ld, pp_st, pp_stB, pp_putB, pp_grd, pp_l0, pp_l1, pp_l2, pp_l3, pp_l4, pp_l5, pp_l6, pp_l60, pp_l120, pp_l200, nI_add, pp_sub, pp_dec, pp_le, pp_lt, pp_eq, pp_neg1, pp_neg2, pp_neg3, pp_neg4, pp_neg5, if_pos, if_neg, if_true, if_false, pp_gv, nI_clamp, pp_stJ, pp_stD, pk_mul, b3, b4, sr_grd_t (ff_n32 g1), sr_grd_t (ff_n64 g3)]
      exact fin _ _ _ ⟨Or.inl rfl, by rw [if_neg (by omega)]; exact ⟨ff_f2l g1, ⟨fun _ => g3, fun _ => rfl⟩⟩⟩
    · simp (disch := first | omega | decide) only [e, ↓reduceIte, sr_bnd, sr_put, sr_jn, Option.bind_some, pp_bd2, pp_ld, pp_st, pp_stB, pp_putB, pp_grd, pp_l0, pp_l1, pp_l2, pp_l3, pp_l4, pp_l5, pp_l6, pp_l60, pp_l120, pp_l200, nI_add, pp_sub, pp_dec, pp_le, pp_lt, pp_eq, pp_neg1, pp_neg2, pp_neg3, pp_neg4, pp_neg5, if_pos, if_neg, if_true, if_false, pp_gv, nI_clamp, pp_stJ, pp_stD, pk_mul, b3, b4, sr_grd_t (ff_n64 g2)]
      exact fin _ _ _ ⟨Or.inl rfl, by rw [if_neg (by omega)]; exact ⟨rfl, ⟨fun _ => g2, fun _ => rfl⟩⟩⟩
  · exact ⟨-1, Mx, My, by unfold f4_cell; simp only [(hp _).1]; rfl, by unfold f5_cell; simp only [(hp _).2]; rfl, h, FrCX.rf, FrCY.rf⟩
