/-! COUNTING -/
theorem wp_eq {α : Type} {x : Option α} {r : α} (h : sr_wp x (fun a => a = r)) : x = some r := by
  obtain ⟨a, e, rfl⟩ := h
  exact e
theorem cnt_loop {b : Int32 × Int32 → Option ((Int32 × Int32) ⊕ Int32)} {P : Nat → Bool} {N : Nat} (h : ∀ i, i < N → ∀ v, b (v, nI i) = some (.inl (v + pp_bI (P i), nI i + 1))) (he : ∀ v, b (v, nI N) = some (.inr v)) : sr_lp b (0, 0) = some (nI (cn_ P N)) := by
  refine wp_eq ?_
  refine wp_for (fun i (_ : Unit) => (nI (cn_ P i), nI i)) N (fun _ _ => True) ?_ ?_ 0 () (Nat.zero_le _) trivial
  · intro i _ hi _
    rw [h i hi, wp_on]
    refine ⟨(), ?_, trivial⟩
    show (nI (cn_ P i) + pp_bI (P i), nI i + 1) = (nI (cn_ P i + if P i = true then 1 else 0), nI (i + 1))
    cases P i
    · rw [if_neg (by decide), nI_1]; show (nI (cn_ P i) + nI 0, _) = _; rw [nI_add]
    · rw [if_pos rfl, nI_1]; show (nI (cn_ P i) + nI 1, _) = _; rw [nI_add]
  · intro _ _
    rw [he, wp_out]
noncomputable def bx_ (p : Prop) : Bool := @decide p (Classical.propDecidable p)
theorem bx_t {p : Prop} (h : p) : bx_ p = true := by
  unfold bx_; exact @decide_eq_true p (Classical.propDecidable p) h
theorem bx_f {p : Prop} (h : ¬ p) : bx_ p = false := by
  unfold bx_; exact @decide_eq_false p (Classical.propDecidable p) h
theorem bx_e {p q : Prop} (h : p ↔ q) : bx_ p = bx_ q := by rw [propext h]
theorem Br.count {T : Nat} {op : Nat → Bool} {hd : Nat → Nat} {m : Nat} {br : Nat → Nat} (h : Br T op hd m br) {P : Nat → Bool} : ∀ k, k ≤ m → cn_ (fun i => P (br i)) k = cn_ (fun t => P t && bx_ (∃ i, i < k ∧ br i = t)) T := by
  intro k
  induction k with
  | zero =>
    intro _
    refine (cn_zero (fun i _ => ?_)).symm
    rw [bx_f (by rintro ⟨j, hj, -⟩; omega), Bool.and_false]
  | succ k ih =>
    intro hk
    have hb := h.1 k (by omega)
    show cn_ (fun i => P (br i)) k + (if P (br k) = true then 1 else 0) = _
    rw [ih (by omega)]
    have step : ∀ t, t ≠ br k → bx_ (∃ i, i < k + 1 ∧ br i = t) = bx_ (∃ i, i < k ∧ br i = t) := fun t ht => bx_e ⟨fun ⟨i, hi, e⟩ => ⟨i, by
      by_cases q : i = k
      · rw [q] at e; exact absurd e.symm ht
      · omega, e⟩, fun ⟨i, hi, e⟩ => ⟨i, by omega, e⟩⟩
    cases hP : P (br k) with
    | false =>
      rw [if_neg (by decide)]
      refine cn_congr (fun t _ => ?_)
      by_cases e : t = br k
      · rw [e, hP, Bool.false_and, Bool.false_and]
      · rw [step t e]
    | true =>
      rw [if_pos rfl]
      refine (cn_ins hb.1 ?_ ?_ (fun t ht => ?_)).symm
      · rw [bx_f (by rintro ⟨i, hi, e⟩; have := h.inj (by omega) (by omega) e; omega), Bool.and_false]
      · rw [bx_t ⟨k, by omega, rfl⟩, hP]; rfl
      · show (P t && _) = (P t && _)
        rw [step t ht]
theorem Br.count_m {T : Nat} {op : Nat → Bool} {hd : Nat → Nat} {m : Nat} {br : Nat → Nat} (h : Br T op hd m br) {P : Nat → Bool} : cn_ (fun i => P (br i)) m = cn_ (fun t => op t && P t) T := by
  rw [h.count m (Nat.le_refl _)]
  refine cn_congr (fun t ht => ?_)
  cases ho : op t with
  | false =>
    rw [bx_f (by rintro ⟨i, hi, e⟩; have := (h.1 i hi).2; rw [e, ho] at this; cases this), Bool.and_false, Bool.false_and]
  | true =>
    rw [bx_t (h.2.1 t ht ho), Bool.and_true, Bool.true_and]
theorem Br.count_k {T : Nat} {op : Nat → Bool} {hd : Nat → Nat} {m : Nat} {br : Nat → Nat} (h : Br T op hd m br) {P : Nat → Bool} {k : Nat} (hk : k < m) : cn_ (fun i => P (br i)) k = cn_ (fun t => (op t && P t) && lsb hd t (br k)) T := by
  rw [h.count k (by omega)]
  refine cn_congr (fun t ht => ?_)
  cases ho : op t with
  | false =>
    rw [bx_f (by rintro ⟨i, hi, e⟩; have := (h.1 i (by omega)).2; rw [e, ho] at this; cases this), Bool.and_false, Bool.false_and, Bool.false_and]
  | true =>
    rw [Bool.true_and]
    obtain ⟨r, hr, rfl⟩ := h.2.1 t ht ho
    by_cases q : r < k
    · rw [bx_t ⟨r, q, rfl⟩, (h.lt_iff hr hk).mpr q]
    · rw [bx_f (by rintro ⟨i, hi, e⟩; have := h.inj (by omega) hr e; omega)]
      have : lsb hd (br r) (br k) = false := by
        cases e : lsb hd (br r) (br k) with
        | false => rfl
        | true => exact absurd ((h.lt_iff hr hk).mp e) q
      rw [this]
theorem cn_three {P Q : Nat → Bool} {n : Nat} (h : ∀ i, i < n → P i = true → Q i = false) : cn_ P n + cn_ Q n + cn_ (fun i => !P i && !Q i) n = n := by
  induction n with
  | zero => rfl
  | succ n ih =>
    have := ih (fun i hi => h i (by omega))
    have h2 := h n (by omega)
    show (cn_ P n + if P n = true then 1 else 0) + (cn_ Q n + if Q n = true then 1 else 0) + (cn_ (fun i => !P i && !Q i) n + if (!P n && !Q n) = true then 1 else 0) = n + 1
    cases e1 : P n <;> cases e2 : Q n
    · show cn_ P n + 0 + (cn_ Q n + 0) + (cn_ (fun i => !P i && !Q i) n + 1) = n + 1; omega
    · show cn_ P n + 0 + (cn_ Q n + 1) + (cn_ (fun i => !P i && !Q i) n + 0) = n + 1; omega
    · show cn_ P n + 1 + (cn_ Q n + 0) + (cn_ (fun i => !P i && !Q i) n + 0) = n + 1; omega
    · rw [h2 e1] at e2; cases e2
theorem XcntF {K : RK} {M : sr_M} {o : Nat} {fl : Nat → Option Nat} (hW : WF K) (hx : RXc K M) (hb : bnd K fl) (hf : At K fl (o + 3) M) : f1_countFilled o M = some (nI (cn_ (fun p => (fl p).isSome) K.n)) := by
  have hn := hW.1
  have x1 := hx.1
  unfold f1_countFilled
  rw [cnt_loop (b := fun z => f1_countFilled_L4 o M z.1 z.2) (P := fun p => (fl p).isSome) (N := K.n)]
  · rfl
  · intro i hi v
    show f1_countFilled_L4 o M v (nI i) = _
    unfold f1_countFilled_L4
    simp only [sr_bnd, x1]
    rw [if_neg (by rw [pp_le (by omega) (by omega)]; omega), pp_ld (by omega) (by decide), hf i hi]
    cases e : fl i with
    | none => rw [if_pos (by decide)]; rfl
    | some k => rw [if_neg (by show ¬ nI k < nI 0; rw [pp_lt (hb i hi k e) (by omega)]; omega)]; rfl
  · intro v
    show f1_countFilled_L4 o M v (nI K.n) = _
    unfold f1_countFilled_L4
    simp only [sr_bnd, x1]
    rw [if_pos (Int32.le_refl _)]
theorem XcntC {K : RK} {M : sr_M} {o : Nat} {ct : Nat → Option Nat} (hW : WF K) (hx : RXc K M) (hb : bnd K ct) (hf : At K ct (o + 5) M) : f1_countCut o M = some (nI (cn_ (fun p => (ct p).isSome) K.n)) := by
  have hn := hW.1
  have x1 := hx.1
  unfold f1_countCut
  rw [cnt_loop (b := fun z => f1_countCut_L4 o M z.1 z.2) (P := fun p => (ct p).isSome) (N := K.n)]
  · rfl
  · intro i hi v
    show f1_countCut_L4 o M v (nI i) = _
    unfold f1_countCut_L4
    simp only [sr_bnd, x1]
    rw [if_neg (by rw [pp_le (by omega) (by omega)]; omega), pp_ld (by omega) (by decide), hf i hi]
    cases e : ct i with
    | none => rw [if_pos (by decide)]; rfl
    | some k => rw [if_neg (by show ¬ nI k < nI 0; rw [pp_lt (hb i hi k e) (by omega)]; omega)]; rfl
  · intro v
    show f1_countCut_L4 o M v (nI K.n) = _
    unfold f1_countCut_L4
    simp only [sr_bnd, x1]
    rw [if_pos (Int32.le_refl _)]
theorem XcntD {K : RK} {M : sr_M} {o : Nat} {fl ct : Nat → Option Nat} (hW : WF K) (hX : RX K M) (hb : bnd K fl) (hc : bnd K ct) (hf : At K fl (o + 3) M) (hg : At K ct (o + 5) M) : f1_countCandidates o M = some (nI (cn_ (fun t => K.op t && cnd K fl ct t) K.T)) := by
  have hn := hW.1
  have hT := hW.2.1
  obtain ⟨m, br, r1, rB, r8, r7, r2⟩ := hX.2.1
  have hm := rB.le
  unfold f1_countCandidates
  rw [cnt_loop (b := fun z => f1_countCandidates_L4 o M z.1 z.2) (P := fun r => cnd K fl ct (br r)) (N := m), rB.count_m (P := cnd K fl ct)]
  · rfl
  · intro i hi v
    have hb' := (rB.1 i hi).1
    show f1_countCandidates_L4 o M v (nI i) = _
    unfold f1_countCandidates_L4
    simp only [sr_bnd, r1]
    rw [if_neg (by rw [pp_le (by omega) (by omega)]; omega), pp_ld (by omega) (by decide), r8 i hi, Xcand hW hX.1 hb hc hf hg hb', Option.bind_some]
    cases cnd K fl ct (br i)
    · rw [if_pos (by rfl)]; rfl
    · rw [if_neg (by decide)]; rfl
  · intro v
    show f1_countCandidates_L4 o M v (nI m) = _
    unfold f1_countCandidates_L4
    simp only [sr_bnd, r1]
    rw [if_pos (Int32.le_refl _)]
theorem YcntD {K : RK} {M : sr_M} {fl ct : Nat → Option Nat} (hW : WF K) (hY : RY K M) (hb : bnd K fl) (hc : bnd K ct) (hf : At K fl 12 M) (hg : At K ct 14 M) : sr_lp (fun z6 : Int32 × Int32 => f5_many_L101 M z6.1 z6.2) (0, 0) = some (nI (cn_ (fun t => K.op t && cnd K fl ct t) K.T)) := by
  have hn := hW.1
  have hT := hW.2.1
  have y2 := hY.2.1
  refine cnt_loop (b := fun z => f5_many_L101 M z.1 z.2) (P := fun t => K.op t && cnd K fl ct t) (N := K.T) ?_ ?_
  · intro i hi v
    show f5_many_L101 M v (nI i) = _
    unfold f5_many_L101
    simp only [sr_bnd, y2]
    rw [if_neg (by rw [pp_le (by omega) (by omega)]; omega), Ycand hW hY hb hc hf hg hi, Option.bind_some]
    cases (K.op i && cnd K fl ct i)
    · rw [if_pos (by rfl)]; rfl
    · rw [if_neg (by decide)]; rfl
  · intro v
    show f5_many_L101 M v (nI K.T) = _
    unfold f5_many_L101
    simp only [sr_bnd, y2]
    rw [if_pos (Int32.le_refl _)]
theorem Ycnt3 {K : RK} {M : sr_M} {fl : Nat → Option Nat} (hW : WF K) (hY : RY K M) (hb : bnd K fl) (hf : At K fl 12 M) : f5_countPores (nI 3) M = some (nI (cn_ (fun p => (fl p).isSome) K.n)) := by
  have hn := hW.1
  have y1 := hY.1
  unfold f5_countPores
  rw [cnt_loop (b := fun z => f5_countPores_L4 (nI 3) M z.1 z.2) (P := fun p => (fl p).isSome) (N := K.n)]
  · rfl
  · intro i hi v
    show f5_countPores_L4 (nI 3) M v (nI i) = _
    unfold f5_countPores_L4
    simp only [sr_bnd, y1]
    rw [if_neg (by rw [pp_le (by omega) (by omega)]; omega), if_pos (by rfl), YisFilled hW hb hf hi, Option.bind_some]
    cases (fl i).isSome
    · rw [if_pos (by rfl)]; rfl
    · rw [if_neg (by decide)]; rfl
  · intro v
    show f5_countPores_L4 (nI 3) M v (nI K.n) = _
    unfold f5_countPores_L4
    simp only [sr_bnd, y1]
    rw [if_pos (Int32.le_refl _)]
theorem Ycnt4 {K : RK} {M : sr_M} {ct : Nat → Option Nat} (hW : WF K) (hY : RY K M) (hb : bnd K ct) (hf : At K ct 14 M) : f5_countPores (nI 4) M = some (nI (cn_ (fun p => (ct p).isSome) K.n)) := by
  have hn := hW.1
  have y1 := hY.1
  unfold f5_countPores
  rw [cnt_loop (b := fun z => f5_countPores_L4 (nI 4) M z.1 z.2) (P := fun p => (ct p).isSome) (N := K.n)]
  · rfl
  · intro i hi v
    show f5_countPores_L4 (nI 4) M v (nI i) = _
    unfold f5_countPores_L4
    simp only [sr_bnd, y1]
    rw [if_neg (by rw [pp_le (by omega) (by omega)]; omega), if_neg (by decide), if_pos (by rfl), pp_ld (by omega) (by decide), hf i hi]
    cases e : ct i with
    | none => rw [if_pos (by decide)]; rfl
    | some k => rw [if_neg (by show ¬ nI k < nI 0; rw [pp_lt (hb i hi k e) (by omega)]; omega)]; rfl
  · intro v
    show f5_countPores_L4 (nI 4) M v (nI K.n) = _
    unfold f5_countPores_L4
    simp only [sr_bnd, y1]
    rw [if_pos (Int32.le_refl _)]
theorem Ycnt5 {K : RK} {M : sr_M} {fl ct : Nat → Option Nat} (hW : WF K) (hY : RY K M) (hb : bnd K fl) (hc : bnd K ct) (hf : At K fl 12 M) (hg : At K ct 14 M) : f5_countPores (nI 5) M = some (nI (cn_ (fun p => !(fl p).isSome && !(ct p).isSome) K.n)) := by
  have hn := hW.1
  have y1 := hY.1
  unfold f5_countPores
  rw [cnt_loop (b := fun z => f5_countPores_L4 (nI 5) M z.1 z.2) (P := fun p => !(fl p).isSome && !(ct p).isSome) (N := K.n)]
  · rfl
  · intro i hi v
    show f5_countPores_L4 (nI 5) M v (nI i) = _
    unfold f5_countPores_L4
    simp only [sr_bnd, y1]
    rw [if_neg (by rw [pp_le (by omega) (by omega)]; omega), if_neg (by decide), if_neg (by decide), YisFree hW hb hc hf hg hi, Option.bind_some]
    cases fl i <;> cases ct i
    · rw [if_neg (by decide)]; rfl
    · rw [if_pos (by rfl)]; rfl
    · rw [if_pos (by rfl)]; rfl
    · rw [if_pos (by rfl)]; rfl
  · intro v
    show f5_countPores_L4 (nI 5) M v (nI K.n) = _
    unfold f5_countPores_L4
    simp only [sr_bnd, y1]
    rw [if_pos (Int32.le_refl _)]
