/-! both sides' rock in the memory, and what reads it -/
def WF (K : RK) : Prop := K.n ≤ 120 ∧ K.T ≤ 300 ∧ (∀ t, t < K.T → K.e1 t < K.n ∧ K.e2 t < K.n ∧ K.e1 t ≠ K.e2 t) ∧ (∀ p, p < K.n → K.kd p ≤ 4) ∧ ∀ t, t < K.T → K.hd t ≤ 1000000000
def RY (K : RK) (M : sr_M) : Prop := M.1 0 0 = nI K.n ∧ M.1 0 3 = nI K.T ∧ (∀ p, p < K.n → M.1 1 p = nI (K.kd p)) ∧ (∀ p, p < K.n → M.1 2 p = pp_bI (K.il p)) ∧ (∀ t, t < K.T → M.1 3 t = nI (K.e1 t)) ∧ (∀ t, t < K.T → M.1 4 t = nI (K.e2 t)) ∧ (∀ t, t < K.T → M.1 5 t = nI (K.hd t)) ∧ (∀ t, t < K.T → M.1 6 t = pp_bI (!K.op t)) ∧ M.1 0 8 = pp_bI K.tr
def RXc (K : RK) (M : sr_M) : Prop := M.1 1 0 = nI K.n ∧ M.1 1 3 = nI K.T ∧ (∀ p, p < K.n → M.1 2 p = nI (K.kd p)) ∧ (∀ p, p < K.n → M.1 3 p = pp_bI (K.il p)) ∧ (∀ t, t < K.T → M.1 4 t = nI (K.e1 t)) ∧ (∀ t, t < K.T → M.1 5 t = nI (K.e2 t)) ∧ (∀ t, t < K.T → M.1 6 t = nI (K.hd t)) ∧ M.1 1 12 = pp_bI K.tr
def RXr (K : RK) (M : sr_M) (m : Nat) (br : Nat → Nat) : Prop := M.1 1 9 = nI m ∧ Br K.T K.op K.hd m br ∧ (∀ r, r < m → M.1 8 r = nI (br r)) ∧ (∀ r, r < m → M.1 7 (br r) = nI r) ∧ ∀ t, t < K.T → K.op t = false → M.1 7 t = -2
/-- a throat at a pore -/
def RK.inc (K : RK) (p t : Nat) : Bool := decide (K.e1 t = p) || decide (K.e2 t = p)
def RK.deg (K : RK) (p : Nat) : Nat := cn_ (K.inc p) K.T
def RXa (K : RK) (M : sr_M) (fa aa : Nat → Nat) : Prop := (∀ p, p ≤ K.n → M.1 9 p = nI (fa p)) ∧ fa 0 = 0 ∧ (∀ p, p < K.n → fa (p + 1) = fa p + K.deg p) ∧ fa K.n = 2 * K.T ∧ (∀ i, i < 2 * K.T → M.1 10 i = nI (aa i) ∧ aa i < K.T) ∧ ∀ p t, p < K.n → t < K.T → (K.inc p t = true ↔ ∃ i, fa p ≤ i ∧ i < fa (p + 1) ∧ aa i = t)
/-- what no pore and no throat has is as it was made -/
def RXz (K : RK) (M : sr_M) : Prop := (∀ p, K.n ≤ p → p < 120 → M.1 3 p = 0) ∧ ∀ t, K.T ≤ t → t < 300 → M.1 6 t = 0
def RX (K : RK) (M : sr_M) : Prop := RXc K M ∧ (∃ m br, RXr K M m br) ∧ (∃ fa aa, RXa K M fa aa) ∧ RXz K M
theorem RXr.rank {K : RK} {M : sr_M} {m : Nat} {br : Nat → Nat} (h : RXr K M m br) {t : Nat} (ht : t < K.T) : M.1 7 t = if K.op t = true then nI (K.rk t) else -2 := by
  obtain ⟨-, hB, -, h7, hs⟩ := h
  by_cases ho : K.op t = true
  · rw [if_pos ho]
    obtain ⟨r, hr, rfl⟩ := hB.2.1 t ht ho
    rw [h7 r hr]
    exact congrArg nI (hB.rk hr).symm
  · rw [if_neg ho]
    exact hs t ht (Bool.eq_false_iff.mpr ho)
theorem rk_le {K : RK} {t : Nat} : K.rk t ≤ K.T := cn_le
theorem Xopen {K : RK} {M : sr_M} {m : Nat} {br : Nat → Nat} (hW : WF K) (h : RXr K M m br) {t : Nat} (ht : t < K.T) : f2_isOpen (nI t) M = some (pp_bI (K.op t)) := by
  have hT := hW.2.1
  have hr := rk_le (K := K) (t := t)
  unfold f2_isOpen
  simp (disch := omega) only [sr_bnd, sr_put, sr_jn, Option.bind_some, pp_bd2, pp_ld, pp_st, pp_stB, pp_putB, pp_grd, pp_l0, pp_l1, pp_l2, pp_l3, pp_l4, pp_l5, pp_l6, pp_l60, pp_l120, pp_l200, nI_add, pp_sub, pp_dec, pp_le, pp_lt, pp_eq, pp_neg1, pp_neg2, pp_neg3, pp_neg4, pp_neg5, if_pos, if_neg, if_true, if_false, h.rank ht]
  by_cases ho : K.op t = true
  · simp (disch := omega) only [ho, if_true, sr_bnd, sr_put, sr_jn, Option.bind_some, pp_bd2, pp_ld, pp_st, pp_stB, pp_putB, pp_grd, pp_l0, pp_l1, pp_l2, pp_l3, pp_l4, pp_l5, pp_l6, pp_l60, pp_l120, pp_l200, nI_add, pp_sub, pp_dec, pp_le, pp_lt, pp_eq, pp_neg1, pp_neg2, pp_neg3, pp_neg4, pp_neg5, if_pos, if_neg, if_true, if_false, Nat.not_lt_zero, if_false, pp_bI]
  · rw [Bool.not_eq_true] at ho
    simp [ho, pp_bI]
    decide
theorem Xacross {K : RK} {M : sr_M} (hW : WF K) (h : RXc K M) {t p : Nat} (ht : t < K.T) (hp : p < K.n) : f2_across (nI t) (nI p) M = some (nI (if K.e1 t = p then K.e2 t else K.e1 t)) := by
  obtain ⟨hn, hT, he, -⟩ := hW
  obtain ⟨-, -, -, -, h4, h5, -⟩ := h
  have := he t ht
  unfold f2_across
  simp (disch := omega) only [sr_bnd, sr_put, sr_jn, Option.bind_some, pp_bd2, pp_ld, pp_st, pp_stB, pp_putB, pp_grd, pp_l0, pp_l1, pp_l2, pp_l3, pp_l4, pp_l5, pp_l6, pp_l60, pp_l120, pp_l200, nI_add, pp_sub, pp_dec, pp_le, pp_lt, pp_eq, pp_neg1, pp_neg2, pp_neg3, pp_neg4, pp_neg5, if_pos, if_neg, if_true, if_false, h4 t ht, h5 t ht]
  by_cases e : K.e1 t = p
  · simp only [e, if_true]
  · simp only [e, if_false]
theorem Xahead {K : RK} {M : sr_M} (hW : WF K) (h : RXc K M) {t u : Nat} (ht : t < K.T) (hu : u < K.T) : f2_isAhead (nI t) (nI u) M = some (pp_bI (lsb K.hd t u)) := by
  obtain ⟨hn, hT, -, -, hh⟩ := hW
  obtain ⟨-, -, -, -, -, -, h6, -⟩ := h
  have a := hh t ht
  have b := hh u hu
  unfold f2_isAhead
  simp (disch := omega) only [sr_bnd, sr_put, sr_jn, Option.bind_some, pp_bd2, pp_ld, pp_st, pp_stB, pp_putB, pp_grd, pp_l0, pp_l1, pp_l2, pp_l3, pp_l4, pp_l5, pp_l6, pp_l60, pp_l120, pp_l200, nI_add, pp_sub, pp_dec, pp_le, pp_lt, pp_eq, pp_neg1, pp_neg2, pp_neg3, pp_neg4, pp_neg5, if_pos, if_neg, if_true, if_false, h6 t ht, h6 u hu]
  by_cases e1 : K.hd t < K.hd u
  · rw [if_pos e1, (lsb_iff.mpr (Or.inl e1) : lsb K.hd t u = true)]
    rfl
  · rw [if_neg e1]
    by_cases e2 : K.hd t = K.hd u
    · rw [if_pos e2]
      by_cases e3 : u ≤ t
      · rw [if_pos e3, (Bool.eq_false_iff.mpr (fun q => by rw [lsb_iff] at q; omega) : lsb K.hd t u = false)]
        rfl
      · rw [if_neg e3, (lsb_iff.mpr (Or.inr ⟨e2, by omega⟩) : lsb K.hd t u = true)]
        rfl
    · rw [if_neg e2, (Bool.eq_false_iff.mpr (fun q => by rw [lsb_iff] at q; omega) : lsb K.hd t u = false)]
      rfl
theorem Yless {K : RK} {M : sr_M} (hW : WF K) (h : RY K M) {t u : Nat} (ht : t < K.T) (hu : u < K.T) : f5_isLess (nI t) (nI u) M = some (pp_bI (lsb K.hd t u)) := by
  obtain ⟨hn, hT, -, -, hh⟩ := hW
  obtain ⟨-, -, -, -, -, -, h6, -⟩ := h
  have a := hh t ht
  have b := hh u hu
  unfold f5_isLess
  simp (disch := omega) only [sr_bnd, sr_put, sr_jn, Option.bind_some, pp_bd2, pp_ld, pp_st, pp_stB, pp_putB, pp_grd, pp_l0, pp_l1, pp_l2, pp_l3, pp_l4, pp_l5, pp_l6, pp_l60, pp_l120, pp_l200, nI_add, pp_sub, pp_dec, pp_le, pp_lt, pp_eq, pp_neg1, pp_neg2, pp_neg3, pp_neg4, pp_neg5, if_pos, if_neg, if_true, if_false, h6 t ht, h6 u hu]
  by_cases e1 : K.hd t < K.hd u
  · rw [if_pos e1, (lsb_iff.mpr (Or.inl e1) : lsb K.hd t u = true)]
    rfl
  · rw [if_neg e1]
    by_cases e2 : K.hd t = K.hd u
    · rw [if_pos e2]
      by_cases e3 : u ≤ t
      · rw [if_pos e3, (Bool.eq_false_iff.mpr (fun q => by rw [lsb_iff] at q; omega) : lsb K.hd t u = false)]
        rfl
      · rw [if_neg e3, (lsb_iff.mpr (Or.inr ⟨e2, by omega⟩) : lsb K.hd t u = true)]
        rfl
    · rw [if_neg e2, (Bool.eq_false_iff.mpr (fun q => by rw [lsb_iff] at q; omega) : lsb K.hd t u = false)]
      rfl
theorem Yrank {K : RK} {M : sr_M} (hW : WF K) (h : RY K M) {t : Nat} (ht : t < K.T) : f5_rank (nI t) M = some (nI (K.rk t)) := by
  have hT := hW.2.1
  have key : sr_wp (sr_lp (fun z1 : Int32 × Int32 => f5_rank_L4 (nI t) M z1.1 z1.2) (nI 0, nI 0)) (fun r => r = nI (K.rk t)) := by
    refine wp_for (fun i (_ : Unit) => (nI (cn_ (fun u => K.op u && lsb K.hd u t) i), nI i)) K.T (fun _ _ => True) ?_ ?_ 0 () (Nat.zero_le _) trivial
    · intro i _ hi _
      have l : cn_ (fun u => K.op u && lsb K.hd u t) i ≤ i := cn_le
      unfold f5_rank_L4
      simp (disch := omega) only [sr_bnd, sr_put, sr_jn, Option.bind_some, pp_bd2, pp_ld, pp_st, pp_stB, pp_putB, pp_grd, pp_l0, pp_l1, pp_l2, pp_l3, pp_l4, pp_l5, pp_l6, pp_l60, pp_l120, pp_l200, nI_add, pp_sub, pp_dec, pp_le, pp_lt, pp_eq, pp_neg1, pp_neg2, pp_neg3, pp_neg4, pp_neg5, if_pos, if_neg, if_true, if_false, h.2.1, h.2.2.2.2.2.2.2.1 i hi, Yless hW h hi ht]
      cases ho : K.op i <;> cases hl : lsb K.hd i t <;> simp (disch := omega) [pp_bI, wp_on, cn_, ho, hl, pp_l0, pp_l1, nI_add, pp_eq]
    · intro _ _
      unfold f5_rank_L4
      simp (disch := omega) only [sr_bnd, sr_put, sr_jn, Option.bind_some, pp_bd2, pp_ld, pp_st, pp_stB, pp_putB, pp_grd, pp_l0, pp_l1, pp_l2, pp_l3, pp_l4, pp_l5, pp_l6, pp_l60, pp_l120, pp_l200, nI_add, pp_sub, pp_dec, pp_le, pp_lt, pp_eq, pp_neg1, pp_neg2, pp_neg3, pp_neg4, pp_neg5, if_pos, if_neg, if_true, if_false, h.2.1, wp_out, Nat.le_refl]
      rfl
  obtain ⟨r, e, rfl⟩ := key
  unfold f5_rank
  rw [show ((0 : Int32), (0 : Int32)) = (nI 0, nI 0) from rfl, e]
  rfl
