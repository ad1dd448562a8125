/-! THE FRONT, THE LAKE, BREAKING THROUGH -/
theorem fold_loop {b : Int32 × Int32 → Option ((Int32 × Int32) ⊕ Int32)} {g : Nat → Int32} {N : Nat} (h : ∀ i, i < N → b (g i, nI i) = some (.inl (g (i + 1), nI i + 1))) (he : b (g N, nI N) = some (.inr (g N))) : sr_lp b (g 0, 0) = some (g N) := by
  refine wp_eq ?_
  refine wp_for (fun i (_ : Unit) => (g i, nI i)) N (fun _ _ => True) ?_ ?_ 0 () (Nat.zero_le _) trivial
  · intro i _ hi _
    rw [h i hi, wp_on]
    exact ⟨(), by rw [nI_1], trivial⟩
  · intro _ _
    rw [he, wp_out]
theorem Yfront {K : RK} {M : sr_M} {m : Nat} {br : Nat → Nat} {fl ct : Nat → Option Nat} (hW : WF K) (hY : RY K M) (hB : Br K.T K.op K.hd m br) (hb : bnd K fl) (hc : bnd K ct) (hf : At K fl 12 M) (hg : At K ct 14 M) {j : Nat} (hj : j < 2147483648) {r : Option Nat} (hr : FrX m br (cnd K fl ct) j r) :
    (sr_lp (fun z2 : Int32 => f5_front_L15 (nI j) M z2) 0).bind (sr_se (fun w2 => some (-1)) (fun q2 => some q2)) = some (oI r) := by
  have hn := hW.1
  have hT := hW.2.1
  have y2 := hY.2.1
  have hm := hB.le
  have inner : ∀ t, t < K.T → sr_lp (fun z5 : Int32 × Int32 => f5_front_L28 M (nI t) z5.1 z5.2) (0, 0) = some (nI (cn_ (fun u => (K.op u && cnd K fl ct u) && lsb K.hd u t) K.T)) := by
    intro t ht
    refine cnt_loop (b := fun z => f5_front_L28 M (nI t) z.1 z.2) (P := fun u => (K.op u && cnd K fl ct u) && lsb K.hd u t) (N := K.T) ?_ ?_
    · intro i hi v
      show f5_front_L28 M (nI t) v (nI i) = _
      unfold f5_front_L28
      simp only [sr_bnd, sr_jn, y2]
      rw [if_neg (by rw [pp_le (by omega) (by omega)]; omega), Ycand hW hY hb hc hf hg hi, Option.bind_some]
      cases (K.op i && cnd K fl ct i)
      · rw [if_pos (by rfl)]; rfl
      · rw [if_neg (by decide), Yless hW hY hi ht, Option.bind_some]
        cases lsb K.hd i t
        · rw [if_pos (by rfl)]; rfl
        · rw [if_neg (by decide)]; rfl
    · intro v
      show f5_front_L28 M (nI t) v (nI K.T) = _
      unfold f5_front_L28
      simp only [sr_bnd, y2]
      rw [if_pos (Int32.le_refl _)]
  have step : ∀ i, i < K.T → f5_front_L15 (nI j) M (nI i) = if (K.op i && cnd K fl ct i) = true ∧ cn_ (fun u => (K.op u && cnd K fl ct u) && lsb K.hd u i) K.T = j then some (.inr (.inr (nI i))) else some (.inl (nI (i + 1))) := by
    intro i hi
    have cl := cn_le (P := fun u => (K.op u && cnd K fl ct u) && lsb K.hd u i) (n := K.T)
    unfold f5_front_L15
    simp only [sr_bnd, y2]
    rw [if_neg (by rw [pp_le (by omega) (by omega)]; omega), inner i hi, Option.bind_some, Ycand hW hY hb hc hf hg hi, Option.bind_some]
    cases (K.op i && cnd K fl ct i)
    · rw [if_pos (by rfl), if_neg (by simp), nI_1]
    · rw [if_neg (by decide)]
      by_cases q : cn_ (fun u => (K.op u && cnd K fl ct u) && lsb K.hd u i) K.T = j
      · rw [if_pos (by rw [q]), if_pos ⟨rfl, q⟩]
      · rw [if_neg (by rw [pp_eq (by omega) hj]; exact q), if_neg (fun z => q z.2), nI_1]
  have cand : ∀ i, i < K.T → (K.op i && cnd K fl ct i) = true → ∃ k, k < m ∧ br k = i ∧ cnd K fl ct (br k) = true ∧ cn_ (fun u => (K.op u && cnd K fl ct u) && lsb K.hd u i) K.T = cn_ (fun x => cnd K fl ct (br x)) k := by
    intro i hi h
    rw [Bool.and_eq_true] at h
    obtain ⟨k, hk, rfl⟩ := hB.2.1 i hi h.1
    exact ⟨k, hk, rfl, h.2, (hB.count_k (P := cnd K fl ct) hk).symm⟩
  have mono : ∀ k k', k < k' → cnd K fl ct (br k) = true → cn_ (fun x => cnd K fl ct (br x)) k < cn_ (fun x => cnd K fl ct (br x)) k' := by
    intro k k' hk h
    have e : cn_ (fun x => cnd K fl ct (br x)) (k + 1) = cn_ (fun x => cnd K fl ct (br x)) k + 1 := by
      show cn_ (fun x => cnd K fl ct (br x)) k + (if cnd K fl ct (br k) = true then 1 else 0) = _
      rw [if_pos h]
    have : ∀ d, cn_ (fun x => cnd K fl ct (br x)) (k + 1) ≤ cn_ (fun x => cnd K fl ct (br x)) (k + 1 + d) := by
      intro d
      induction d with
      | zero => exact Nat.le_refl _
      | succ d ih => exact Nat.le_trans ih (Nat.le_add_right _ _)
    have := this (k' - (k + 1))
    rw [show k + 1 + (k' - (k + 1)) = k' by omega] at this
    omega
  cases r with
  | some t =>
    obtain ⟨k, hk, rfl, h1, h2⟩ := hr
    have hb' := hB.1 k hk
    have key : sr_wp (sr_lp (fun z1 : Int32 => f5_front_L15 (nI j) M z1) (nI 0)) (fun x => x = .inr (nI (br k))) := by
      refine wp_for (fun i (_ : Unit) => nI i) (br k) (fun _ _ => True) ?_ ?_ 0 () (Nat.zero_le _) trivial
      · intro i _ hi _
        rw [step i (by omega), if_neg, wp_on]
        · exact ⟨(), rfl, trivial⟩
        · rintro ⟨q1, q2⟩
          obtain ⟨k', hk', e, c1, c2⟩ := cand i (by omega) q1
          rw [q2] at c2
          rcases Nat.lt_trichotomy k k' with g | g | g
          · have := mono k k' g h1; omega
          · rw [g, e] at hi; omega
          · have := mono k' k g c1; omega
      · intro _ _
        rw [step _ hb'.1, if_pos ⟨by rw [hb'.2, h1]; rfl, by rw [← h2]; exact (hB.count_k (P := cnd K fl ct) hk).symm⟩, wp_out]
    obtain ⟨x, e, rfl⟩ := key
    simp only [pp_l0, e, Option.bind_some]
    rfl
  | none =>
    have hr : cn_ (fun i => cnd K fl ct (br i)) m ≤ j := hr
    have key : sr_wp (sr_lp (fun z1 : Int32 => f5_front_L15 (nI j) M z1) (nI 0)) (fun x => x = .inl ()) := by
      refine wp_for (fun i (_ : Unit) => nI i) K.T (fun _ _ => True) ?_ ?_ 0 () (Nat.zero_le _) trivial
      · intro i _ hi _
        rw [step i hi, if_neg, wp_on]
        · exact ⟨(), rfl, trivial⟩
        · rintro ⟨q1, q2⟩
          obtain ⟨k', hk', e, c1, c2⟩ := cand i hi q1
          rw [q2] at c2
          have := mono k' m hk' c1
          omega
      · intro _ _
        unfold f5_front_L15
        simp only [sr_bnd, y2]
        rw [if_pos (Int32.le_refl _), wp_out]
    obtain ⟨x, e, rfl⟩ := key
    simp only [pp_l0, e, Option.bind_some]
    rfl
theorem op_front {Mx My : sr_M} (h : Rel Mx My) (a : Int32) : ∃ r, f4_front a Mx = some r ∧ f5_front a My = some r := by
  obtain ⟨K, hR, ⟨h1, h2⟩ | ⟨S, hO⟩⟩ := h
  · unfold f4_front f5_front
    simp only [sr_bnd, h1, h2, if_true]
    exact ⟨_, rfl, rfl⟩
  · have hW := hR.1
    have bf := hO.1.bf hW
    have bc := hO.1.bc hW
    obtain ⟨m, br, hr⟩ := hR.2.1.2.1
    unfold f4_front f5_front
    simp only [sr_bnd, hO.2.2.2.1, hO.2.2.2.2]
    rw [if_neg n10, if_neg n10]
    by_cases a0 : a < 0
    · rw [if_pos a0, if_neg (Int32.not_le.mpr a0)]
      exact ⟨_, rfl, rfl⟩
    rw [if_neg a0, if_pos (Int32.not_lt.mp a0)]
    obtain ⟨j, hj, rfl⟩ : ∃ j, j < 2147483648 ∧ a = nI j := by
      rcases pk_ix a (n := 2147483647) (by decide) with q | q | ⟨j, hj, e⟩
      · exact absurd q a0
      · refine ⟨2147483647, by decide, Int32.le_antisymm ?_ q⟩
        rw [Int32.le_iff_toInt_le]
        have := Int32.toInt_lt a
        have e : (nI 2147483647).toInt = 2147483647 := by decide
        omega
      · exact ⟨j, by omega, e⟩
    obtain ⟨v, e, r, rfl, hF⟩ := Xcandidate (o := 30) hW hR.2.1.1 hr bf bc hO.2.1.2.2.2.1 hO.2.1.2.2.2.2.2.1 hj
    rw [e, Yfront hW hR.2.2.1 hr.2.1 bf bc hO.2.2.1.2.2.1 hO.2.2.1.2.2.2.2 hj hF]
    exact ⟨_, rfl, rfl⟩
def mno (a b : Option Nat) : Option Nat := match b with
  | none => a
  | some k => match a with
    | none => some k
    | some j => if j ≤ k then some j else some k
def mnf (K : RK) (fl : Nat → Option Nat) : Nat → Option Nat
  | 0 => none
  | p + 1 => if K.kd p = 4 then mno (mnf K fl p) (fl p) else mnf K fl p
theorem mno_none {a : Option Nat} : mno a none = a := rfl
theorem mno_none2 {k : Nat} : mno none (some k) = some k := rfl
theorem mno_some {j k : Nat} : mno (some j) (some k) = if j ≤ k then some j else some k := rfl
theorem mnf_s {K : RK} {fl : Nat → Option Nat} {p : Nat} : mnf K fl (p + 1) = if K.kd p = 4 then mno (mnf K fl p) (fl p) else mnf K fl p := rfl
theorem mnf_b {K : RK} {fl : Nat → Option Nat} (hb : bnd K fl) : ∀ i, i ≤ K.n → ∀ k, mnf K fl i = some k → k < 2147483648 := by
  intro i
  induction i with
  | zero => intro _ k e; cases e
  | succ i ih =>
    intro hi k e
    rw [mnf_s] at e
    have ih := ih (by omega)
    by_cases q : K.kd i = 4
    · rw [if_pos q] at e
      cases ef : fl i with
      | none => rw [ef, mno_none] at e; exact ih k e
      | some j =>
        have bj := hb i (by omega) j ef
        rw [ef] at e
        cases em : mnf K fl i with
        | none => rw [em, mno_none2] at e; cases e; exact bj
        | some l =>
          have bl := ih l em
          rw [em, mno_some] at e
          by_cases z : l ≤ j
          · rw [if_pos z] at e; cases e; exact bl
          · rw [if_neg z] at e; cases e; exact bj
    · rw [if_neg q] at e; exact ih k e
theorem op_through {Mx My : sr_M} (h : Rel Mx My) : ∃ r, f4_through Mx = some r ∧ f5_through My = some r := by
  obtain ⟨K, hR, ⟨h1, h2⟩ | ⟨S, hO⟩⟩ := h
  · unfold f4_through f5_through
    simp only [sr_bnd, h1, h2, if_true]
    exact ⟨_, rfl, rfl⟩
  · have hW := hR.1
    have hn := hW.1
    have bf := hO.1.bf hW
    have x1 := hR.2.1.1.1
    have x3 := hR.2.1.1.2.2.1
    have y1 := hR.2.2.1.1
    have y3 := hR.2.2.1.2.2.1
    have xf := hO.2.1.2.2.2.1
    have yf := hO.2.2.1.2.2.1
    unfold f4_through f5_through f1_firstOutletStep
    simp only [sr_bnd, hO.2.2.2.1, hO.2.2.2.2]
    rw [if_neg n10, if_neg n10]
    have ex : sr_lp (fun z1 : Int32 × Int32 => f1_firstOutletStep_L4 30 Mx z1.1 z1.2) (oI (mnf K S.fl 0), 0) = some (oI (mnf K S.fl K.n)) := by
      refine fold_loop (b := fun z => f1_firstOutletStep_L4 30 Mx z.1 z.2) (g := fun i => oI (mnf K S.fl i)) ?_ ?_
      · intro i hi
        have kb := hW.2.2.2.1 i hi
        have mb := mnf_b bf i (by omega)
        show f1_firstOutletStep_L4 30 Mx (oI (mnf K S.fl i)) (nI i) = some (.inl (oI (mnf K S.fl (i + 1)), nI i + 1))
        unfold f1_firstOutletStep_L4
        simp only [sr_bnd, sr_jn, x1]
        rw [mnf_s, if_neg (by rw [pp_le (by omega) (by omega)]; omega), pp_ld (by omega) (by decide), x3 i hi]
        by_cases q : K.kd i = 4
        · rw [if_pos q, if_pos (by rw [q]; rfl), pp_ld (by omega) (by decide), xf i hi]
          cases ef : S.fl i with
          | none => rw [if_pos (by decide), if_pos trivial, mno_none]
          | some k =>
            have bk := bf i hi k ef
            rw [if_neg (show ¬ oI (some k) < 0 from Int32.not_lt.mpr (oI_s0 bk)), if_neg n10]
            cases em : mnf K S.fl i with
            | none => rw [if_pos (by decide), pp_ld (by omega) (by decide), xf i hi, ef, mno_none2]
            | some l =>
              have bl := mb l em
              rw [if_neg (show ¬ oI (some l) < 0 from Int32.not_lt.mpr (oI_s0 bl)), pp_ld (by omega) (by decide), xf i hi, ef, mno_some]
              by_cases z : l ≤ k
              · rw [if_pos z, if_pos (show oI (some l) ≤ oI (some k) from (show nI l ≤ nI k by rw [pp_le bl bk]; exact z))]
              · rw [if_neg z, if_neg (show ¬ oI (some l) ≤ oI (some k) from (show ¬ nI l ≤ nI k by rw [pp_le bl bk]; exact z))]
                rw [pp_ld (by omega) (by decide), xf i hi, ef]
        · rw [if_neg q, if_neg (show ¬ nI (K.kd i) = 4 from (show ¬ nI (K.kd i) = nI 4 by rw [pp_eq (by omega) (by omega)]; exact q)), if_pos trivial]
      · show f1_firstOutletStep_L4 30 Mx (oI (mnf K S.fl K.n)) (nI K.n) = _
        unfold f1_firstOutletStep_L4
        simp only [sr_bnd, x1]
        rw [if_pos (Int32.le_refl _)]
    have ey : sr_lp (fun z2 : Int32 × Int32 => f5_through_L14 My z2.1 z2.2) (oI (mnf K S.fl 0), 0) = some (oI (mnf K S.fl K.n)) := by
      refine fold_loop (b := fun z => f5_through_L14 My z.1 z.2) (g := fun i => oI (mnf K S.fl i)) ?_ ?_
      · intro i hi
        have kb := hW.2.2.2.1 i hi
        have mb := mnf_b bf i (by omega)
        show f5_through_L14 My (oI (mnf K S.fl i)) (nI i) = some (.inl (oI (mnf K S.fl (i + 1)), nI i + 1))
        unfold f5_through_L14
        simp only [sr_bnd, sr_jn, y1]
        rw [mnf_s, if_neg (by rw [pp_le (by omega) (by omega)]; omega), pp_ld (by omega) (by decide), y3 i hi]
        by_cases q : K.kd i = 4
        · rw [if_pos q, if_pos (by rw [q]; rfl), YisFilled hW bf yf hi, Option.bind_some]
          cases ef : S.fl i with
          | none => rw [if_pos (by rfl), mno_none]
          | some k =>
            have bk := bf i hi k ef
            rw [if_neg n_some]
            cases em : mnf K S.fl i with
            | none => rw [if_pos (by decide), pp_ld (by omega) (by decide), yf i hi, ef, mno_none2]
            | some l =>
              have bl := mb l em
              rw [if_neg (show ¬ oI (some l) < 0 from Int32.not_lt.mpr (oI_s0 bl)), pp_ld (by omega) (by decide), yf i hi, ef, mno_some]
              by_cases z : l ≤ k
              · rw [if_pos z, if_pos (show oI (some l) ≤ oI (some k) from (show nI l ≤ nI k by rw [pp_le bl bk]; exact z))]
              · rw [if_neg z, if_neg (show ¬ oI (some l) ≤ oI (some k) from (show ¬ nI l ≤ nI k by rw [pp_le bl bk]; exact z))]
                rw [pp_ld (by omega) (by decide), yf i hi, ef]
        · rw [if_neg q, if_neg (show ¬ nI (K.kd i) = 4 from (show ¬ nI (K.kd i) = nI 4 by rw [pp_eq (by omega) (by omega)]; exact q))]
      · show f5_through_L14 My (oI (mnf K S.fl K.n)) (nI K.n) = _
        unfold f5_through_L14
        simp only [sr_bnd, y1]
        rw [if_pos (Int32.le_refl _)]
    have ex' : sr_lp (fun z1 : Int32 × Int32 => f1_firstOutletStep_L4 30 Mx z1.1 z1.2) ((-1), 0) = some (oI (mnf K S.fl K.n)) := ex
    have ey' : sr_lp (fun z2 : Int32 × Int32 => f5_through_L14 My z2.1 z2.2) ((-1), 0) = some (oI (mnf K S.fl K.n)) := ey
    rw [ex', ey']
    exact ⟨_, rfl, rfl⟩
