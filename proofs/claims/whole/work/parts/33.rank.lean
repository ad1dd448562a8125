/-! putting throats into the order, taking them out -/
theorem wp_down {σ τ ρ : Type} {b : σ → Option (σ ⊕ ρ)} {Q : ρ → Prop} (mk : Nat → τ → σ) (Inv : Nat → τ → Prop)
    (hs : ∀ i x, Inv (i + 1) x → sr_wp (b (mk (i + 1) x)) (sr_oc (fun t => ∃ x', t = mk i x' ∧ Inv i x') Q))
    (he : ∀ x, Inv 0 x → sr_wp (b (mk 0 x)) (sr_oc (fun _ => False) Q)) : ∀ (i : Nat) (x : τ), Inv i x → sr_wp (sr_lp b (mk i x)) Q := by
  intro i
  induction i with
  | zero =>
    intro x hI
    obtain ⟨y, e, h1, h2⟩ := he x hI
    cases y with
    | inl t => exact (h1 t rfl).elim
    | inr r => exact ⟨r, sr_lp_end e, h2 r rfl⟩
  | succ i ih =>
    intro x hI
    obtain ⟨y, e, h1, h2⟩ := hs i x hI
    cases y with
    | inl t =>
      obtain ⟨x', rfl, g⟩ := h1 t rfl
      obtain ⟨r, hr, hq⟩ := ih x' g
      exact ⟨r, sr_lp_step e hr, hq⟩
    | inr r => exact ⟨r, sr_lp_end e, h2 r rfl⟩
theorem Br.lt {T : Nat} {op : Nat → Bool} {hd : Nat → Nat} {m : Nat} {br : Nat → Nat} (h : Br T op hd m br) {t : Nat} (ht : t < T) (ho : op t = false) : m < T := by
  have e := cn_img (T := T) (m := m) (fun r hr => (h.1 r hr).1) (fun r r' h1 h2 e => h.inj h1 h2 e) m (Nat.le_refl _)
  have e2 := cn_ins (P := fun u => decide (∃ i, i < m ∧ br i = u)) (P' := fun u => decide (∃ i, i < m ∧ br i = u) || decide (u = t)) (n := T) (x := t) ht (by
    rw [decide_eq_false_iff_not]
    rintro ⟨i, hi, rfl⟩
    have := (h.1 i hi).2
    rw [ho] at this
    cases this) (by simp) (fun i hi => by simp [hi])
  have := cn_le (P := fun u => decide (∃ i, i < m ∧ br i = u) || decide (u = t)) (n := T)
  omega
theorem Br.ins {T : Nat} {op op' : Nat → Bool} {hd : Nat → Nat} {m j : Nat} {br : Nat → Nat} (h : Br T op hd m br) {t : Nat} (ht : t < T) (ho : op t = false) (ht' : op' t = true) (hop : ∀ u, u ≠ t → op' u = op u) (hj : j ≤ m) (h1 : ∀ i, i < j → lsb hd (br i) t = true) (h2 : ∀ i, j ≤ i → i < m → lsb hd t (br i) = true) : Br T op' hd (m + 1) (fun i => if i < j then br i else if i = j then t else br (i - 1)) := by
  obtain ⟨a, b, c⟩ := h
  have ne : ∀ i, i < m → br i ≠ t := fun i hi e => by
    have := (a i hi).2
    rw [e, ho] at this
    cases this
  refine ⟨fun r hr => ?_, fun u hu hou => ?_, fun r r' hr hr' => ?_⟩
  · dsimp only
    split
    · exact ⟨(a r (by omega)).1, by rw [hop _ (ne r (by omega))]; exact (a r (by omega)).2⟩
    · split
      · exact ⟨ht, ht'⟩
      · exact ⟨(a (r - 1) (by omega)).1, by rw [hop _ (ne (r - 1) (by omega))]; exact (a (r - 1) (by omega)).2⟩
  · by_cases e : u = t
    · exact ⟨j, by omega, by simp [e]⟩
    · rw [hop u e] at hou
      obtain ⟨i, hi, rfl⟩ := b u hu hou
      by_cases q : i < j
      · exact ⟨i, by omega, by simp [q]⟩
      · exact ⟨i + 1, by omega, by
          dsimp only
          rw [if_neg (by omega), if_neg (by omega)]
          rfl⟩
  · dsimp only
    by_cases q1 : r < j
    · rw [if_pos q1]
      by_cases q2 : r' < j
      · rw [if_pos q2]
        exact c r r' hr (by omega)
      · rw [if_neg q2]
        by_cases q3 : r' = j
        · rw [if_pos q3]
          exact h1 r q1
        · rw [if_neg q3]
          exact c r (r' - 1) (by omega) (by omega)
    · rw [if_neg q1, if_neg (by omega : ¬ r' < j), if_neg (by omega : ¬ r' = j)]
      by_cases q3 : r = j
      · rw [if_pos q3]
        exact h2 (r' - 1) (by omega) (by omega)
      · rw [if_neg q3]
        exact c (r - 1) (r' - 1) (by omega) (by omega)
theorem Br.del {T : Nat} {op op' : Nat → Bool} {hd : Nat → Nat} {m j : Nat} {br : Nat → Nat} (h : Br T op hd m br) (hj : j < m) (ho : op' (br j) = false) (hop : ∀ u, u ≠ br j → op' u = op u) : Br T op' hd (m - 1) (fun i => if i < j then br i else br (i + 1)) := by
  have inj : ∀ {r r' : Nat}, r < m → r' < m → br r = br r' → r = r' := fun h1 h2 e => h.inj h1 h2 e
  obtain ⟨a, b, c⟩ := h
  refine ⟨fun r hr => ?_, fun u hu hou => ?_, fun r r' hr hr' => ?_⟩
  · dsimp only
    split
    · rename_i q
      exact ⟨(a r (by omega)).1, by rw [hop _ (fun e => by have := inj (by omega) hj e; omega)]; exact (a r (by omega)).2⟩
    · rename_i q
      exact ⟨(a (r + 1) (by omega)).1, by rw [hop _ (fun e => by have := inj (by omega) hj e; omega)]; exact (a (r + 1) (by omega)).2⟩
  · have e : u ≠ br j := fun e => by rw [e, ho] at hou; cases hou
    rw [hop u e] at hou
    obtain ⟨i, hi, rfl⟩ := b u hu hou
    have ij : i ≠ j := fun q => e (by rw [q])
    by_cases q : i < j
    · exact ⟨i, by omega, by simp [q]⟩
    · refine ⟨i - 1, by omega, ?_⟩
      dsimp only
      rw [if_neg (by omega)]
      congr 1
      omega
  · dsimp only
    by_cases q1 : r < j
    · rw [if_pos q1]
      by_cases q2 : r' < j
      · rw [if_pos q2]
        exact c r r' hr (by omega)
      · rw [if_neg q2]
        exact c r (r' + 1) (by omega) (by omega)
    · rw [if_neg q1, if_neg (by omega : ¬ r' < j)]
      exact c (r + 1) (r' + 1) (by omega) (by omega)
theorem Br.hd {T : Nat} {op : Nat → Bool} {hd hd' : Nat → Nat} {m : Nat} {br : Nat → Nat} (h : Br T op hd m br) (he : ∀ r, r < m → hd' (br r) = hd (br r)) : Br T op hd' m br := by
  refine ⟨h.1, h.2.1, fun r r' hr hr' => ?_⟩
  have := h.2.2 r r' hr hr'
  rw [lsb_iff] at this ⊢
  rw [he r (by omega), he r' hr']
  exact this
/-- what the order's keeping changes: the ranks, and how many are open -/
def Fr7 (M M' : sr_M) : Prop := M'.2 = M.2 ∧ (∀ k, k ≠ 1 → k ≠ 7 → k ≠ 8 → M'.1 k = M.1 k) ∧ ∀ j, j ≠ 9 → M'.1 1 j = M.1 1 j
theorem Fr7.tr {M M1 M2 : sr_M} (h1 : Fr7 M M1) (h2 : Fr7 M1 M2) : Fr7 M M2 :=
  ⟨h2.1.trans h1.1, fun k a b c => (h2.2.1 k a b c).trans (h1.2.1 k a b c), fun j a => (h2.2.2 j a).trans (h1.2.2 j a)⟩
theorem Fr7.c {K : RK} {M M' : sr_M} (h : Fr7 M M') (hc : RXc K M) : RXc K M' := by
  obtain ⟨-, h1, h2⟩ := h
  unfold RXc at hc ⊢
  rw [h2 0 (by decide), h2 3 (by decide), h2 12 (by decide), h1 2 (by decide) (by decide) (by decide), h1 3 (by decide) (by decide) (by decide), h1 4 (by decide) (by decide) (by decide), h1 5 (by decide) (by decide) (by decide), h1 6 (by decide) (by decide) (by decide)]
  exact hc
theorem Xplace {M : sr_M} {a b : Nat} (ha : a < 300) (hb : b < 300) : f2_place (nI a) (nI b) M = some (sr_wI (sr_wI M 8 b (nI a)) 7 a (nI b)) := by
  unfold f2_place
  simp (disch := omega) only [sr_bnd, sr_put, sr_jn, Option.bind_some, pp_bd2, pp_ld, pp_st, pp_stB, pp_putB, pp_grd, pp_l0, pp_l1, pp_l2, pp_l3, pp_l4, pp_l5, pp_l6, pp_l60, pp_l120, pp_l200, nI_add, pp_sub, pp_dec, pp_le, pp_lt, pp_eq, pp_neg1, pp_neg2, pp_neg3, pp_neg4, pp_neg5, if_pos, if_neg, if_true, if_false]
/-- rankIn -/
theorem XrankIn {K : RK} {M : sr_M} {m : Nat} {br : Nat → Nat} (hW : WF K) (hc : RXc K M) (hm : M.1 1 9 = nI m) (hB : Br K.T K.op K.hd m br) (h8 : ∀ r, r < m → M.1 8 r = nI (br r)) (h7 : ∀ r, r < m → M.1 7 (br r) = nI r) {t : Nat} (ht : t < K.T) (ho : K.op t = false) (h2 : ∀ u, u < K.T → u ≠ t → K.op u = false → M.1 7 u = -2) :
    sr_wp (f2_rankIn (nI t) M) (fun M' => Fr7 M M' ∧ ∃ br', M'.1 1 9 = nI (m + 1) ∧ (∀ r, r < m + 1 → M'.1 8 r = nI (br' r)) ∧ (∀ r, r < m + 1 → M'.1 7 (br' r) = nI r) ∧ (∀ u, u < K.T → u ≠ t → K.op u = false → M'.1 7 u = -2) ∧ Br K.T (va_up K.op t true) K.hd (m + 1) br') := by
  have hT := hW.2.1
  have hmT := hB.lt ht ho
  have ne : ∀ i, i < m → br i ≠ t := fun i hi e => by
    have := (hB.1 i hi).2
    rw [e, ho] at this
    cases this
  unfold f2_rankIn
  simp only [sr_bnd, hm]
  refine wp_bind ?_
  refine wp_mono (Q := fun r => ∃ j, j ≤ m ∧ r.1 = nI j ∧ Fr7 M r.2 ∧ r.2.1 1 9 = nI m ∧ (∀ i, i < j → r.2.1 8 i = nI (br i) ∧ r.2.1 7 (br i) = nI i ∧ lsb K.hd (br i) t = true) ∧ (∀ i, j ≤ i → i < m → r.2.1 8 (i + 1) = nI (br i) ∧ r.2.1 7 (br i) = nI (i + 1) ∧ lsb K.hd t (br i) = true) ∧ ∀ u, u < K.T → u ≠ t → K.op u = false → r.2.1 7 u = -2) ?_ ?_
  · refine wp_down (fun j M4 => (nI j, M4)) (fun j M4 => j ≤ m ∧ Fr7 M M4 ∧ M4.1 1 9 = nI m ∧ (∀ i, i < j → M4.1 8 i = nI (br i) ∧ M4.1 7 (br i) = nI i) ∧ (∀ i, j ≤ i → i < m → M4.1 8 (i + 1) = nI (br i) ∧ M4.1 7 (br i) = nI (i + 1) ∧ lsb K.hd t (br i) = true) ∧ ∀ u, u < K.T → u ≠ t → K.op u = false → M4.1 7 u = -2) ?_ ?_ m M ?_
    · rintro j M4 ⟨hj, hF, h9, ha, hb, hd⟩
      have bj := (hB.1 j (by omega)).1
      have hjm : j ≤ m := by omega
      unfold f2_rankIn_L5
      simp (disch := omega) only [sr_bnd, sr_put, sr_jn, Option.bind_some, pp_bd2, pp_ld, pp_st, pp_stB, pp_putB, pp_grd, pp_l0, pp_l1, pp_l2, pp_l3, pp_l4, pp_l5, pp_l6, pp_l60, pp_l120, pp_l200, nI_add, pp_sub, pp_dec, pp_le, pp_lt, pp_eq, pp_neg1, pp_neg2, pp_neg3, pp_neg4, pp_neg5, if_pos, if_neg, if_true, if_false, Nat.add_sub_cancel, (ha j (by omega)).1, Xahead hW (hF.c hc) ht bj]
      by_cases q : lsb K.hd t (br j) = true
      · simp (disch := omega) only [q, pp_bI, if_true, sr_bnd, sr_put, sr_jn, Option.bind_some, pp_bd2, pp_ld, pp_st, pp_stB, pp_putB, pp_grd, pp_l0, pp_l1, pp_l2, pp_l3, pp_l4, pp_l5, pp_l6, pp_l60, pp_l120, pp_l200, nI_add, pp_sub, pp_dec, pp_le, pp_lt, pp_eq, pp_neg1, pp_neg2, pp_neg3, pp_neg4, pp_neg5, if_pos, if_neg, if_true, if_false, Xplace, wp_on, Nat.add_sub_cancel]
        refine ⟨_, rfl, hjm, hF.tr ⟨rfl, fun k a b c => by rw [pp_wI1 b, pp_wI1 c], fun i hi => by rw [pp_wI1 (by decide), pp_wI1 (by decide)]⟩, by simp (disch := omega) only [pp_wI1, pp_wI2, pp_wI3]; exact h9, fun i hi => ?_, fun i hi hi2 => ?_, fun u hu hut hou => ?_⟩
        · have e1 : br i ≠ br j := fun e => by have := hB.inj (by omega) (by omega) e; omega
          simp (disch := omega) only [pp_wI1, pp_wI2, pp_wI3]
          exact ha i (by omega)
        · by_cases e : i = j
          · subst e
            simp (disch := omega) only [pp_wI1, pp_wI2, pp_wI3]
            exact ⟨by trivial, by trivial, q⟩
          · have e1 : br i ≠ br j := fun e2 => e (hB.inj (by omega) (by omega) e2)
            simp (disch := omega) only [pp_wI1, pp_wI2, pp_wI3]
            exact hb i (by omega) hi2
        · have e1 : u ≠ br j := fun e => by
            have := (hB.1 j (by omega)).2
            rw [← e, hou] at this
            cases this
          simp (disch := omega) only [pp_wI1, pp_wI2, pp_wI3]
          exact hd u hu hut hou
      · rw [Bool.not_eq_true] at q
        have q2 := lsb_neg q (fun e => ne j (by omega) e.symm)
        simp (disch := omega) only [q, pp_bI, sr_bnd, sr_put, sr_jn, Option.bind_some, pp_bd2, pp_ld, pp_st, pp_stB, pp_putB, pp_grd, pp_l0, pp_l1, pp_l2, pp_l3, pp_l4, pp_l5, pp_l6, pp_l60, pp_l120, pp_l200, nI_add, pp_sub, pp_dec, pp_le, pp_lt, pp_eq, pp_neg1, pp_neg2, pp_neg3, pp_neg4, pp_neg5, if_pos, if_neg, if_true, if_false, wp_out]
        simp only [Bool.false_eq_true, if_false, if_true, pp_l0, wp_out]
        refine ⟨j + 1, hj, rfl, hF, h9, fun i hi => ?_, hb, hd⟩
        refine ⟨(ha i hi).1, (ha i hi).2, ?_⟩
        by_cases e : i = j
        · rw [e]; exact q2
        · exact lsb_tr (hB.2.2 i j (by omega) (by omega)) q2
    · rintro M4 ⟨hj, hF, h9, ha, hb, hd⟩
      unfold f2_rankIn_L5
      simp (disch := omega) only [sr_bnd, sr_put, sr_jn, Option.bind_some, pp_bd2, pp_ld, pp_st, pp_stB, pp_putB, pp_grd, pp_l0, pp_l1, pp_l2, pp_l3, pp_l4, pp_l5, pp_l6, pp_l60, pp_l120, pp_l200, nI_add, pp_sub, pp_dec, pp_le, pp_lt, pp_eq, pp_neg1, pp_neg2, pp_neg3, pp_neg4, pp_neg5, if_pos, if_neg, if_true, if_false, Nat.le_refl, wp_out]
      exact ⟨0, Nat.zero_le _, rfl, hF, h9, fun i hi => absurd hi (Nat.not_lt_zero _), hb, hd⟩
    · exact ⟨Nat.le_refl _, ⟨rfl, fun _ _ _ _ => rfl, fun _ _ => rfl⟩, hm, fun i hi => ⟨h8 i hi, h7 i hi⟩, fun i h1 h2 => by omega, h2⟩
  · rintro ⟨v, M4⟩ ⟨j, hj, e, hF, h9, ha, hb, hd⟩
    dsimp only at e hF h9 ha hb hd ⊢
    subst e
    simp (disch := omega) only [Xplace, sr_bnd, sr_put, sr_jn, Option.bind_some, pp_bd2, pp_ld, pp_st, pp_stB, pp_putB, pp_grd, pp_l0, pp_l1, pp_l2, pp_l3, pp_l4, pp_l5, pp_l6, pp_l60, pp_l120, pp_l200, nI_add, pp_sub, pp_dec, pp_le, pp_lt, pp_eq, pp_neg1, pp_neg2, pp_neg3, pp_neg4, pp_neg5, if_pos, if_neg, if_true, if_false, wp_some, pp_wI1, pp_wI2, pp_wI3, h9]
    refine ⟨hF.tr ⟨rfl, fun k a b c => by rw [pp_wI1 a, pp_wI1 b, pp_wI1 c], fun i hi => by rw [pp_wI3 hi, pp_wI1 (by decide), pp_wI1 (by decide)]⟩, fun i => if i < j then br i else if i = j then t else br (i - 1), by trivial, fun r hr => ?_, fun r hr => ?_, fun u hu hut hou => ?_, ?_⟩
    · dsimp only
      by_cases q : r < j
      · rw [if_pos q]
        simp (disch := omega) only [pp_wI1, pp_wI2, pp_wI3]
        exact (ha r q).1
      · rw [if_neg q]
        by_cases q2 : r = j
        · rw [if_pos q2, q2, pp_wI2]
        · rw [if_neg q2, pp_wI3 q2]
          obtain ⟨r0, rfl⟩ : ∃ r0, r = r0 + 1 := ⟨r - 1, by omega⟩
          exact (hb r0 (by omega) (by omega)).1
    · dsimp only
      by_cases q : r < j
      · have := ne r (by omega)
        rw [if_pos q]
        simp (disch := omega) only [pp_wI1, pp_wI2, pp_wI3]
        exact (ha r q).2.1
      · rw [if_neg q]
        by_cases q2 : r = j
        · rw [if_pos q2, q2, pp_wI2]
        · have := ne (r - 1) (by omega)
          rw [if_neg q2]
          simp (disch := omega) only [pp_wI1, pp_wI2, pp_wI3]
          obtain ⟨r0, rfl⟩ : ∃ r0, r = r0 + 1 := ⟨r - 1, by omega⟩
          exact (hb r0 (by omega) (by omega)).2.1
    · simp (disch := omega) only [pp_wI1, pp_wI2, pp_wI3]
      exact hd u hu hut hou
    · exact hB.ins ht ho (by simp [va_up]) (fun u hu => by simp [va_up, hu]) hj (fun i hi => (ha i hi).2.2) (fun i h1 h2 => (hb i h1 h2).2.2)
/-- rankOut -/
theorem XrankOut {K : RK} {M : sr_M} {m : Nat} {br : Nat → Nat} (hW : WF K) (hc : RXc K M) (hr : RXr K M m br) {t : Nat} (ht : t < K.T) (ho : K.op t = true) :
    sr_wp (f2_rankOut (nI t) M) (fun M' => Fr7 M M' ∧ ∃ br', M'.1 1 9 = nI (m - 1) ∧ (∀ r, r < m - 1 → M'.1 8 r = nI (br' r)) ∧ (∀ r, r < m - 1 → M'.1 7 (br' r) = nI r) ∧ (∀ u, u < K.T → (u = t ∨ K.op u = false) → M'.1 7 u = -2) ∧ Br K.T (va_up K.op t false) K.hd (m - 1) br') := by
  obtain ⟨hm, hB, h8, h7, h2⟩ := hr
  have hT := hW.2.1
  have hmT := hB.le
  obtain ⟨j, hj, rfl⟩ := hB.2.1 t ht ho
  unfold f2_rankOut
  simp (disch := omega) only [sr_bnd, sr_put, sr_jn, Option.bind_some, pp_bd2, pp_ld, pp_st, pp_stB, pp_putB, pp_grd, pp_l0, pp_l1, pp_l2, pp_l3, pp_l4, pp_l5, pp_l6, pp_l60, pp_l120, pp_l200, nI_add, pp_sub, pp_dec, pp_le, pp_lt, pp_eq, pp_neg1, pp_neg2, pp_neg3, pp_neg4, pp_neg5, if_pos, if_neg, if_true, if_false, hm, pp_wI1, h7 j hj]
  refine wp_bind ?_
  refine wp_mono (Q := fun M4 => Fr7 M M4 ∧ M4.1 1 9 = nI (m - 1) ∧ (∀ i, i < j → M4.1 8 i = nI (br i) ∧ M4.1 7 (br i) = nI i) ∧ (∀ i, j ≤ i → i < m - 1 → M4.1 8 i = nI (br (i + 1)) ∧ M4.1 7 (br (i + 1)) = nI i) ∧ ∀ u, u < K.T → K.op u = false → M4.1 7 u = -2) ?_ ?_
  · refine wp_for (fun i M4 => (nI i, M4)) (m - 1) (fun q M4 => j ≤ q ∧ Fr7 M M4 ∧ M4.1 1 9 = nI (m - 1) ∧ (∀ i, i < j → M4.1 8 i = nI (br i) ∧ M4.1 7 (br i) = nI i) ∧ (∀ i, j ≤ i → i < q → M4.1 8 i = nI (br (i + 1)) ∧ M4.1 7 (br (i + 1)) = nI i) ∧ (∀ i, q < i → i < m → M4.1 8 i = nI (br i)) ∧ ∀ u, u < K.T → K.op u = false → M4.1 7 u = -2) ?_ ?_ j _ (by omega) ?_
    · rintro q M4 hq ⟨hjq, hF, h9, ha, hb, hcc, hd⟩
      have bq := (hB.1 (q + 1) (by omega)).1
      unfold f2_rankOut_L17
      simp (disch := omega) only [sr_bnd, sr_put, sr_jn, Option.bind_some, pp_bd2, pp_ld, pp_st, pp_stB, pp_putB, pp_grd, pp_l0, pp_l1, pp_l2, pp_l3, pp_l4, pp_l5, pp_l6, pp_l60, pp_l120, pp_l200, nI_add, pp_sub, pp_dec, pp_le, pp_lt, pp_eq, pp_neg1, pp_neg2, pp_neg3, pp_neg4, pp_neg5, if_pos, if_neg, if_true, if_false, h9, hcc (q + 1) (by omega) (by omega), Xplace, wp_on]
      refine ⟨_, rfl, Nat.le_succ_of_le hjq, hF.tr ⟨rfl, fun k a b c => by rw [pp_wI1 b, pp_wI1 c], fun i hi => by rw [pp_wI1 (by decide), pp_wI1 (by decide)]⟩, by simp (disch := omega) only [pp_wI1, pp_wI2, pp_wI3]; exact h9, fun i hi => ?_, fun i hi hi2 => ?_, fun i hi hi2 => ?_, fun u hu hou => ?_⟩
      · have e1 : br i ≠ br (q + 1) := fun e => by have := hB.inj (by omega) (by omega) e; omega
        simp (disch := omega) only [pp_wI1, pp_wI2, pp_wI3]
        exact ha i hi
      · by_cases e : i = q
        · subst e
          simp (disch := omega) only [pp_wI1, pp_wI2, pp_wI3]
          exact ⟨by trivial, by trivial⟩
        · have e1 : br (i + 1) ≠ br (q + 1) := fun e2 => by have := hB.inj (by omega) (by omega) e2; omega
          simp (disch := omega) only [pp_wI1, pp_wI2, pp_wI3]
          exact hb i hi (by omega)
      · simp (disch := omega) only [pp_wI1, pp_wI2, pp_wI3]
        exact hcc i (by omega) hi2
      · have e1 : u ≠ br (q + 1) := fun e => by
          have := (hB.1 (q + 1) (by omega)).2
          rw [← e, hou] at this
          cases this
        simp (disch := omega) only [pp_wI1, pp_wI2, pp_wI3]
        exact hd u hu hou
    · rintro M4 ⟨hjq, hF, h9, ha, hb, hcc, hd⟩
      unfold f2_rankOut_L17
      simp (disch := omega) only [sr_bnd, sr_put, sr_jn, Option.bind_some, pp_bd2, pp_ld, pp_st, pp_stB, pp_putB, pp_grd, pp_l0, pp_l1, pp_l2, pp_l3, pp_l4, pp_l5, pp_l6, pp_l60, pp_l120, pp_l200, nI_add, pp_sub, pp_dec, pp_le, pp_lt, pp_eq, pp_neg1, pp_neg2, pp_neg3, pp_neg4, pp_neg5, if_pos, if_neg, if_true, if_false, h9, Nat.le_refl, wp_out]
      exact ⟨hF, trivial, ha, hb, hd⟩
    · refine ⟨Nat.le_refl _, ⟨rfl, fun k a b c => by rw [pp_wI1 a], fun i hi => by rw [pp_wI3 hi]⟩, pp_wI2, fun i hi => ?_, fun i h1 h2 => by omega, fun i hi hi2 => ?_, fun u hu hou => ?_⟩
      · simp (disch := omega) only [pp_wI1, pp_wI2, pp_wI3]
        exact ⟨h8 i (by omega), h7 i (by omega)⟩
      · simp (disch := omega) only [pp_wI1, pp_wI2, pp_wI3]
        exact h8 i hi2
      · simp (disch := omega) only [pp_wI1, pp_wI2, pp_wI3]
        exact h2 u hu hou
  · rintro M4 ⟨hF, h9, ha, hb, hd⟩
    simp (disch := omega) only [sr_bnd, sr_put, sr_jn, Option.bind_some, pp_bd2, pp_ld, pp_st, pp_stB, pp_putB, pp_grd, pp_l0, pp_l1, pp_l2, pp_l3, pp_l4, pp_l5, pp_l6, pp_l60, pp_l120, pp_l200, nI_add, pp_sub, pp_dec, pp_le, pp_lt, pp_eq, pp_neg1, pp_neg2, pp_neg3, pp_neg4, pp_neg5, if_pos, if_neg, if_true, if_false, wp_some]
    refine ⟨hF.tr ⟨rfl, fun k a b c => by rw [pp_wI1 b], fun i hi => by rw [pp_wI1 (by decide)]⟩, fun i => if i < j then br i else br (i + 1), by simp (disch := omega) only [pp_wI1, pp_wI2, pp_wI3]; exact h9, fun r hr => ?_, fun r hr => ?_, fun u hu hou => ?_, ?_⟩
    · simp (disch := omega) only [pp_wI1, pp_wI2, pp_wI3]
      by_cases q : r < j
      · rw [if_pos q]; exact (ha r q).1
      · rw [if_neg q]; exact (hb r (by omega) hr).1
    · dsimp only
      by_cases q : r < j
      · have : br r ≠ br j := fun e => by have := hB.inj (by omega) hj e; omega
        rw [if_pos q, pp_wI3 this]
        exact (ha r q).2
      · have : br (r + 1) ≠ br j := fun e => by have := hB.inj (by omega) hj e; omega
        rw [if_neg q, pp_wI3 this]
        exact (hb r (by omega) hr).2
    · by_cases e : u = br j
      · rw [e, pp_wI2]
      · rw [pp_wI3 e]
        exact hd u hu (hou.resolve_left e)
    · exact hB.del hj (by simp [va_up]) (fun u hu => by simp [va_up, hu])
