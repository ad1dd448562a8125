/-! the throats at a pore -/
theorem fa_mono {fa : Nat → Nat} {n : Nat} (h : ∀ p, p < n → fa p ≤ fa (p + 1)) : ∀ q, q ≤ n → ∀ p, p ≤ q → fa p ≤ fa q := by
  intro q
  induction q with
  | zero => intro _ p hp; have : p = 0 := by omega
            subst this; exact Nat.le_refl _
  | succ q ih =>
    intro hq p hp
    by_cases e : p = q + 1
    · subst e; exact Nat.le_refl _
    · exact Nat.le_trans (ih (by omega) p (by omega)) (h q (by omega))
theorem adj_ins {fa aa : Nat → Nat} {n p0 t0 : Nat} (h : ∀ p, p < n → fa p ≤ fa (p + 1)) (hp0 : p0 < n) {p t : Nat} (hp : p < n) :
    (∃ i, (if p0 < p then fa p + 1 else fa p) ≤ i ∧ i < (if p0 < p + 1 then fa (p + 1) + 1 else fa (p + 1)) ∧ (if i < fa (p0 + 1) then aa i else if i = fa (p0 + 1) then t0 else aa (i - 1)) = t) ↔ (∃ i, fa p ≤ i ∧ i < fa (p + 1) ∧ aa i = t) ∨ (p = p0 ∧ t = t0) := by
  have m := fa_mono h
  rcases Nat.lt_trichotomy p p0 with q | q | q
  · have l := m p0 (by omega) (p + 1) (by omega)
    have l2 := h p0 hp0
    rw [if_neg (by omega), if_neg (by omega)]
    constructor
    · rintro ⟨i, h1, h2, h3⟩
      rw [if_pos (by omega)] at h3
      exact Or.inl ⟨i, h1, h2, h3⟩
    · rintro (⟨i, h1, h2, h3⟩ | ⟨e, -⟩)
      · refine ⟨i, h1, h2, ?_⟩
        rw [if_pos (by omega)]
        exact h3
      · omega
  · subst q
    rw [if_neg (by omega), if_pos (by omega)]
    constructor
    · rintro ⟨i, h1, h2, h3⟩
      by_cases e : i < fa (p + 1)
      · rw [if_pos e] at h3
        exact Or.inl ⟨i, h1, e, h3⟩
      · rw [if_neg e, if_pos (by omega)] at h3
        exact Or.inr ⟨rfl, h3.symm⟩
    · rintro (⟨i, h1, h2, h3⟩ | ⟨-, e⟩)
      · refine ⟨i, h1, by omega, ?_⟩
        rw [if_pos h2]
        exact h3
      · have l := h p hp
        refine ⟨fa (p + 1), l, by omega, ?_⟩
        rw [if_neg (by omega), if_pos rfl, e]
  · have l := m p (by omega) (p0 + 1) (by omega)
    rw [if_pos (by omega), if_pos (by omega)]
    constructor
    · rintro ⟨i, h1, h2, h3⟩
      rw [if_neg (by omega), if_neg (by omega)] at h3
      exact Or.inl ⟨i - 1, by omega, by omega, h3⟩
    · rintro (⟨i, h1, h2, h3⟩ | ⟨e, -⟩)
      · refine ⟨i + 1, by omega, by omega, ?_⟩
        rw [if_neg (by omega), if_neg (by omega)]
        exact h3
      · omega
/-- listAt -/
theorem XlistAt {M : sr_M} {n L p : Nat} {fa : Nat → Nat} {v : Int32} (hn : M.1 1 0 = nI n) (hn2 : n ≤ 120) (h9 : ∀ q, q ≤ n → M.1 9 q = nI (fa q)) (hm : ∀ q, q < n → fa q ≤ fa (q + 1)) (hL : fa n = L) (hL2 : L < 600) (hp : p < n) :
    sr_wp (f2_listAt (nI p) v M) (fun M' => M'.2 = M.2 ∧ (∀ k, k ≠ 9 → k ≠ 10 → M'.1 k = M.1 k) ∧ (∀ q, q ≤ n → M'.1 9 q = nI (if p < q then fa q + 1 else fa q)) ∧ ∀ i, i ≤ L → M'.1 10 i = if i < fa (p + 1) then M.1 10 i else if i = fa (p + 1) then v else M.1 10 (i - 1)) := by
  have mono := fa_mono hm
  have c1 : fa (p + 1) ≤ L := by rw [← hL]; exact mono n (Nat.le_refl _) (p + 1) (by omega)
  unfold f2_listAt
  simp (disch := omega) only [sr_bnd, sr_put, sr_jn, Option.bind_some, pp_bd2, pp_ld, pp_st, pp_stB, pp_putB, pp_grd, pp_l0, pp_l1, pp_l2, pp_l3, pp_l4, pp_l5, pp_l6, pp_l60, pp_l120, pp_l200, nI_add, pp_sub, pp_dec, pp_le, pp_lt, pp_eq, pp_neg1, pp_neg2, pp_neg3, pp_neg4, pp_neg5, if_pos, if_neg, if_true, if_false, h9 (p + 1) (by omega), h9 n (Nat.le_refl _), hn, hL]
  refine wp_bind (wp_mono (Q := fun M1 => M1.2 = M.2 ∧ (∀ k, k ≠ 10 → M1.1 k = M.1 k) ∧ ∀ i, i ≤ L → i ≠ fa (p + 1) → M1.1 10 i = if i < fa (p + 1) then M.1 10 i else M.1 10 (i - 1)) ?_ ?_)
  · refine wp_down (fun e M1 => (nI (fa (p + 1) + e), M1)) (fun e M1 => fa (p + 1) + e ≤ L ∧ M1.2 = M.2 ∧ (∀ k, k ≠ 10 → M1.1 k = M.1 k) ∧ (∀ i, i ≤ fa (p + 1) + e → M1.1 10 i = M.1 10 i) ∧ ∀ i, fa (p + 1) + e < i → i ≤ L → M1.1 10 i = M.1 10 (i - 1)) ?_ ?_ (L - fa (p + 1)) M ?_ |> fun h => by
      rw [show fa (p + 1) + (L - fa (p + 1)) = L by omega] at h
      exact h
    · rintro e M1 ⟨hle, h2, hk, ha, hb⟩
      have hle2 : fa (p + 1) + e ≤ L := by omega
      unfold f2_listAt_L20
      simp (disch := omega) only [sr_bnd, sr_put, sr_jn, Option.bind_some, pp_bd2, pp_ld, pp_st, pp_stB, pp_putB, pp_grd, pp_l0, pp_l1, pp_l2, pp_l3, pp_l4, pp_l5, pp_l6, pp_l60, pp_l120, pp_l200, nI_add, pp_sub, pp_dec, pp_le, pp_lt, pp_eq, pp_neg1, pp_neg2, pp_neg3, pp_neg4, pp_neg5, if_pos, if_neg, if_true, if_false, wp_on]
      refine ⟨_, rfl, hle2, h2, fun k hk2 => ?_, fun i hi => ?_, fun i hi hi2 => ?_⟩
      · rw [pp_wI1 hk2]; exact hk k hk2
      · rw [pp_wI3 (by omega)]
        exact ha i (by omega)
      · by_cases q : i = fa (p + 1) + (e + 1)
        · rw [q, pp_wI2]
          exact ha _ (by omega)
        · rw [pp_wI3 q]
          exact hb i (by omega) hi2
    · rintro M1 ⟨hle, h2, hk, ha, hb⟩
      unfold f2_listAt_L20
      simp (disch := omega) only [sr_bnd, sr_put, sr_jn, Option.bind_some, pp_bd2, pp_ld, pp_st, pp_stB, pp_putB, pp_grd, pp_l0, pp_l1, pp_l2, pp_l3, pp_l4, pp_l5, pp_l6, pp_l60, pp_l120, pp_l200, nI_add, pp_sub, pp_dec, pp_le, pp_lt, pp_eq, pp_neg1, pp_neg2, pp_neg3, pp_neg4, pp_neg5, if_pos, if_neg, if_true, if_false, Nat.add_zero, Nat.le_refl, wp_out]
      refine ⟨h2, hk, fun i hi hi2 => ?_⟩
      by_cases q : i < fa (p + 1)
      · rw [if_pos q]; exact ha i (by omega)
      · rw [if_neg q]; exact hb i (by omega) hi
    · exact ⟨by omega, rfl, fun _ _ => rfl, fun _ _ => rfl, fun i h1 h2 => by omega⟩
  · rintro M1 ⟨h2, hk, ha⟩
    refine wp_bind (wp_mono (Q := fun M2 => M2.2 = M.2 ∧ (∀ k, k ≠ 9 → M2.1 k = (sr_wI M1 10 (fa (p + 1)) v).1 k) ∧ ∀ q, q ≤ n → M2.1 9 q = nI (if p < q then fa q + 1 else fa q)) ?_ ?_)
    · refine wp_for (fun q M2 => (nI q, M2)) (n + 1) (fun j M2 => p < j ∧ M2.2 = M.2 ∧ (∀ k, k ≠ 9 → M2.1 k = (sr_wI M1 10 (fa (p + 1)) v).1 k) ∧ ∀ q, q ≤ n → M2.1 9 q = nI (if p < q ∧ q < j then fa q + 1 else fa q)) ?_ ?_ (p + 1) _ (by omega) ?_
      · rintro j M2 hj ⟨hpj, g2, gk, g9⟩
        have : M2.1 1 0 = nI n := by rw [gk 1 (by decide), pp_wI1 (by decide), hk 1 (by decide)]; exact hn
        have b := mono n (Nat.le_refl _) j (by omega)
        have g := g9 j (by omega)
        rw [if_neg (by omega)] at g
        unfold f2_listAt_L60
        simp (disch := omega) only [sr_bnd, sr_put, sr_jn, Option.bind_some, pp_bd2, pp_ld, pp_st, pp_stB, pp_putB, pp_grd, pp_l0, pp_l1, pp_l2, pp_l3, pp_l4, pp_l5, pp_l6, pp_l60, pp_l120, pp_l200, nI_add, pp_sub, pp_dec, pp_le, pp_lt, pp_eq, pp_neg1, pp_neg2, pp_neg3, pp_neg4, pp_neg5, if_pos, if_neg, if_true, if_false, this, g, wp_on]
        refine ⟨_, rfl, Nat.lt_succ_of_lt hpj, g2, fun k hk2 => by rw [pp_wI1 hk2]; exact gk k hk2, fun q hq => ?_⟩
        by_cases e : q = j
        · rw [e, pp_wI2]
          rw [if_pos ⟨hpj, by omega⟩]
        · rw [pp_wI3 e, g9 q hq]
          congr 1
          by_cases e2 : p < q ∧ q < j
          · rw [if_pos e2, if_pos ⟨e2.1, by omega⟩]
          · rw [if_neg e2, if_neg (by omega)]
      · rintro M2 ⟨hpj, g2, gk, g9⟩
        have : M2.1 1 0 = nI n := by rw [gk 1 (by decide), pp_wI1 (by decide), hk 1 (by decide)]; exact hn
        unfold f2_listAt_L60
        simp (disch := omega) only [sr_bnd, sr_put, sr_jn, Option.bind_some, pp_bd2, pp_ld, pp_st, pp_stB, pp_putB, pp_grd, pp_l0, pp_l1, pp_l2, pp_l3, pp_l4, pp_l5, pp_l6, pp_l60, pp_l120, pp_l200, nI_add, pp_sub, pp_dec, pp_le, pp_lt, pp_eq, pp_neg1, pp_neg2, pp_neg3, pp_neg4, pp_neg5, if_pos, if_neg, if_true, if_false, this, wp_out]
        refine ⟨g2, gk, fun q hq => ?_⟩
        rw [g9 q hq]
        congr 1
        by_cases e2 : p < q
        · rw [if_pos ⟨e2, by omega⟩, if_pos e2]
        · rw [if_neg (by omega), if_neg e2]
      · refine ⟨Nat.lt_succ_self _, h2, fun k _ => rfl, fun q hq => ?_⟩
        rw [pp_wI1 (by decide), hk 9 (by decide), h9 q hq, if_neg (by omega)]
    · rintro M2 ⟨g2, gk, g9⟩
      rw [wp_some]
      refine ⟨g2, fun k h9' h10 => ?_, g9, fun i hi => ?_⟩
      · rw [gk k h9', pp_wI1 h10, hk k h10]
      · rw [gk 10 (by decide)]
        by_cases e : i = fa (p + 1)
        · rw [e, pp_wI2, if_neg (by omega), if_pos rfl]
        · rw [pp_wI3 e, ha i hi e]
          by_cases e2 : i < fa (p + 1)
          · rw [if_pos e2, if_pos e2]
          · rw [if_neg e2, if_neg e2, if_neg e]

/-- a pore more -/
def RK.addP (K : RK) (k : Nat) : RK := RK.mk (K.n + 1) K.T (va_up K.kd K.n k) K.e1 K.e2 K.hd (va_up K.il K.n false) K.op K.tr
/-- a throat more -/
def RK.addT (K : RK) (a b : Nat) : RK := RK.mk K.n (K.T + 1) K.kd (va_up K.e1 K.T a) (va_up K.e2 K.T b) (va_up K.hd K.T 0) K.il (va_up K.op K.T true) K.tr
theorem WF.addP {K : RK} (h : WF K) {k : Nat} (hk : k ≤ 4) (hn : K.n < 120) : WF (K.addP k) := by
  obtain ⟨h1, h2, h3, h4, h5⟩ := h
  refine ⟨hn, h2, fun t ht => ?_, fun p hp => ?_, h5⟩
  · obtain ⟨a, b, c⟩ := h3 t ht
    exact ⟨Nat.lt_succ_of_lt a, Nat.lt_succ_of_lt b, c⟩
  · show va_up K.kd K.n k p ≤ 4
    by_cases e : p = K.n
    · rw [e, va_up_s]; exact hk
    · rw [va_up_n e]
      exact h4 p (by have : p < K.n + 1 := hp; omega)
theorem WF.addT {K : RK} (h : WF K) {a b : Nat} (ha : a < K.n) (hb : b < K.n) (hab : a ≠ b) (hT : K.T < 300) : WF (K.addT a b) := by
  obtain ⟨h1, h2, h3, h4, h5⟩ := h
  refine ⟨h1, hT, fun t ht => ?_, h4, fun t ht => ?_⟩
  · show va_up K.e1 K.T a t < K.n ∧ va_up K.e2 K.T b t < K.n ∧ va_up K.e1 K.T a t ≠ va_up K.e2 K.T b t
    by_cases e : t = K.T
    · rw [e, va_up_s, va_up_s]; exact ⟨ha, hb, hab⟩
    · rw [va_up_n e, va_up_n e]
      exact h3 t (by have : t < K.T + 1 := ht; omega)
  · show va_up K.hd K.T 0 t ≤ _
    by_cases e : t = K.T
    · rw [e, va_up_s]; omega
    · rw [va_up_n e]
      exact h5 t (by have : t < K.T + 1 := ht; omega)
theorem XaddPore {K : RK} {M : sr_M} (hW : WF K) (hR : RX K M) {k : Nat} (hk : k ≤ 4) (hn : K.n < 120) : sr_wp (f2_addPore (nI k) M) (fun r => r.1 = nI K.n ∧ r.2.2 = M.2 ∧ (∀ q, q = 0 ∨ 10 < q → r.2.1 q = M.1 q) ∧ RX (K.addP k) r.2) := by
  obtain ⟨⟨a1, a2, a3, a4, a5, a6, a7, a8⟩, ⟨m, br, r1, rB, r8, r7, r2⟩, ⟨fa, aa, f1, f2, f3, f4, f5, f6⟩, z1, z2⟩ := hR
  have hT := hW.2.1
  have hE := hW.2.2.1
  have b9 := f1 K.n (Nat.le_refl _)
  unfold f2_addPore
  simp (disch := omega) only [sr_bnd, sr_put, sr_jn, Option.bind_some, pp_bd2, pp_ld, pp_st, pp_stB, pp_putB, pp_grd, pp_l0, pp_l1, pp_l2, pp_l3, pp_l4, pp_l5, pp_l6, pp_l60, pp_l120, pp_l200, nI_add, pp_sub, pp_dec, pp_le, pp_lt, pp_eq, pp_neg1, pp_neg2, pp_neg3, pp_neg4, pp_neg5, if_pos, if_neg, if_true, if_false, a1, pp_wI1, pp_wI2, pp_wI3, b9, wp_some]
  have W : ∀ {q j : Nat}, q ≠ 1 → q ≠ 2 → q ≠ 9 → (sr_wI (sr_wI (sr_wI M 1 0 (nI (K.n + 1))) 2 K.n (nI k)) 9 (K.n + 1) (nI (fa K.n))).1 q j = M.1 q j := fun h1 h2 h9 => by rw [pp_wI1 h9, pp_wI1 h2, pp_wI1 h1]
  have W1 : ∀ {j : Nat}, j ≠ 0 → (sr_wI (sr_wI (sr_wI M 1 0 (nI (K.n + 1))) 2 K.n (nI k)) 9 (K.n + 1) (nI (fa K.n))).1 1 j = M.1 1 j := fun h => by rw [pp_wI1 (by decide), pp_wI1 (by decide), pp_wI3 h]
  refine ⟨trivial, rfl, fun q hq => ?_, ⟨?_, ?_, fun p hp => ?_, fun p hp => ?_, fun t ht => ?_, fun t ht => ?_, fun t ht => ?_, ?_⟩, ⟨m, br, ?_, rB, fun r hr => ?_, fun r hr => ?_, fun t ht hot => ?_⟩, ⟨va_up fa (K.n + 1) (fa K.n), aa, fun p hp => ?_, ?_, fun p hp => ?_, ?_, fun i hi => ?_, fun p t hp ht => ?_⟩, fun p hp hp2 => ?_, fun t ht ht2 => ?_⟩
  · rw [pp_wI1 (by omega), pp_wI1 (by omega), pp_wI1 (by omega)]
  · show _ = nI (K.n + 1)
    rw [pp_wI1 (by decide), pp_wI1 (by decide), pp_wI2]
  · rw [W1 (by decide)]; exact a2
  · have hp : p < K.n + 1 := hp
    show _ = nI (va_up K.kd K.n k p)
    rw [pp_wI1 (by decide)]
    by_cases e : p = K.n
    · rw [e, pp_wI2, va_up_s]
    · rw [pp_wI3 e, va_up_n e, pp_wI1 (by decide)]
      exact a3 p (by omega)
  · have hp : p < K.n + 1 := hp
    show _ = pp_bI (va_up K.il K.n false p)
    rw [W (by decide) (by decide) (by decide)]
    by_cases e : p = K.n
    · rw [e, va_up_s]
      exact z1 _ (Nat.le_refl _) hn
    · rw [va_up_n e]
      exact a4 p (by omega)
  · rw [W (by decide) (by decide) (by decide)]; exact a5 t ht
  · rw [W (by decide) (by decide) (by decide)]; exact a6 t ht
  · rw [W (by decide) (by decide) (by decide)]; exact a7 t ht
  · rw [W1 (by decide)]; exact a8
  · rw [W1 (by decide)]; exact r1
  · rw [W (by decide) (by decide) (by decide)]; exact r8 r hr
  · rw [W (by decide) (by decide) (by decide)]; exact r7 r hr
  · rw [W (by decide) (by decide) (by decide)]; exact r2 t ht hot
  · have hp : p ≤ K.n + 1 := hp
    by_cases e : p = K.n + 1
    · rw [e, pp_wI2, va_up_s]
    · rw [pp_wI3 e, va_up_n e, pp_wI1 (by decide), pp_wI1 (by decide)]
      exact f1 p (by omega)
  · rw [va_up_n (by omega)]; exact f2
  · have hp : p < K.n + 1 := hp
    by_cases e : p = K.n
    · rw [e, va_up_s, va_up_n (by omega)]
      have : (K.addP k).deg K.n = 0 := cn_zero (fun t ht => by
        have ht : t < K.T := ht
        have := hE t ht
        show (decide (K.e1 t = K.n) || decide (K.e2 t = K.n)) = false
        rw [decide_eq_false (by omega), decide_eq_false (by omega)]
        rfl)
      rw [this]
      rfl
    · rw [va_up_n (by omega), va_up_n (by omega)]
      exact f3 p (by omega)
  · show va_up fa (K.n + 1) (fa K.n) (K.n + 1) = 2 * K.T
    rw [va_up_s]
    exact f4
  · rw [W (by decide) (by decide) (by decide)]; exact f5 i hi
  · have hp : p < K.n + 1 := hp
    have ht : t < K.T := ht
    by_cases e : p = K.n
    · have := hE t ht
      rw [e, va_up_s, va_up_n (by omega)]
      constructor
      · intro h
        have h : (decide (K.e1 t = K.n) || decide (K.e2 t = K.n)) = true := h
        rw [decide_eq_false (by omega), decide_eq_false (by omega)] at h
        cases h
      · rintro ⟨i, h1, h2, -⟩
        omega
    · rw [va_up_n (by omega), va_up_n (by omega)]
      exact f6 p t (by omega) ht
  · have hp : K.n + 1 ≤ p := hp
    rw [W (by decide) (by decide) (by decide)]; exact z1 p (by omega) hp2
  · rw [W (by decide) (by decide) (by decide)]; exact z2 t ht ht2
theorem XaddThroat {K : RK} {M : sr_M} (hW : WF K) (hR : RX K M) {a b : Nat} (ha : a < K.n) (hb : b < K.n) (hab : a ≠ b) (hT : K.T < 300) : sr_wp (f2_addThroat (nI a) (nI b) M) (fun r => r.1 = nI K.T ∧ r.2.2 = M.2 ∧ (∀ q, q = 0 ∨ 10 < q → r.2.1 q = M.1 q) ∧ RX (K.addT a b) r.2) := by
  obtain ⟨⟨a1, a2, a3, a4, a5, a6, a7, a8⟩, ⟨m, br, r1, rB, r8, r7, r2⟩, ⟨fa, aa, f1, f2, f3, f4, f5, f6⟩, z1, z2⟩ := hR
  have hn := hW.1
  have hE := hW.2.2.1
  have hm : ∀ q, q < K.n → fa q ≤ fa (q + 1) := fun q hq => by rw [f3 q hq]; omega
  have mono := fa_mono hm
  -- the throats at a pore, behind the two entries
  let fb : Nat → Nat := fun q => if a < q then fa q + 1 else fa q
  let fc : Nat → Nat := fun q => if b < q then fb q + 1 else fb q
  have hmb : ∀ q, q < K.n → fb q ≤ fb (q + 1) := fun q hq => by
    have := hm q hq
    show (if a < q then fa q + 1 else fa q) ≤ if a < q + 1 then fa (q + 1) + 1 else fa (q + 1)
    split <;> split <;> omega
  have monob := fa_mono hmb
  have fbn : fb K.n = 2 * K.T + 1 := by show (if a < K.n then fa K.n + 1 else fa K.n) = _; rw [if_pos ha, f4]
  unfold f2_addThroat
  simp (disch := omega) only [sr_bnd, sr_put, sr_jn, Option.bind_some, pp_bd2, pp_ld, pp_st, pp_stB, pp_putB, pp_grd, pp_l0, pp_l1, pp_l2, pp_l3, pp_l4, pp_l5, pp_l6, pp_l60, pp_l120, pp_l200, nI_add, pp_sub, pp_dec, pp_le, pp_lt, pp_eq, pp_neg1, pp_neg2, pp_neg3, pp_neg4, pp_neg5, if_pos, if_neg, if_true, if_false, a2]
  have n1 : (sr_wI (sr_wI (sr_wI M 1 3 (nI (K.T + 1))) 4 K.T (nI a)) 5 K.T (nI b)).1 1 0 = nI K.n := by simp (disch := omega) only [pp_wI1, pp_wI2, pp_wI3]; exact a1
  refine wp_bind (wp_mono (XlistAt (fa := fa) (L := 2 * K.T) n1 hn (fun q hq => by simp (disch := omega) only [pp_wI1, pp_wI2, pp_wI3]; exact f1 q hq) hm f4 (by omega) ha) ?_)
  rintro M6 ⟨g2, gk, g9, g10⟩
  have n6 : M6.1 1 0 = nI K.n := by rw [gk 1 (by decide) (by decide)]; exact n1
  refine wp_bind (wp_mono (XlistAt (fa := fb) (L := 2 * K.T + 1) n6 hn g9 hmb fbn (by omega) hb) ?_)
  rintro M7 ⟨k2, kk, k9, k10⟩
  -- the rock as it is now, the new throat not yet open
  let K0 : RK := RK.mk K.n (K.T + 1) K.kd (va_up K.e1 K.T a) (va_up K.e2 K.T b) (va_up K.hd K.T 0) K.il (va_up K.op K.T false) K.tr
  have hW0 : WF K0 := hW.addT ha hb hab hT
  have old : ∀ q, q ≠ 1 → q ≠ 4 → q ≠ 5 → q ≠ 9 → q ≠ 10 → M7.1 q = M.1 q := fun q h1 h4 h5 h9 h10 => by
    rw [kk q h9 h10, gk q h9 h10, pp_wI1 h5, pp_wI1 h4, pp_wI1 h1]
  have old1 : ∀ j, j ≠ 3 → M7.1 1 j = M.1 1 j := fun j hj => by
    rw [kk 1 (by decide) (by decide), gk 1 (by decide) (by decide), pp_wI1 (by decide), pp_wI1 (by decide), pp_wI3 hj]
  have c0 : RXc K0 M7 := by
    refine ⟨(old1 0 (by decide)).trans a1, ?_, fun p hp => by rw [old 2 (by decide) (by decide) (by decide) (by decide) (by decide)]; exact a3 p hp, fun p hp => by rw [old 3 (by decide) (by decide) (by decide) (by decide) (by decide)]; exact a4 p hp, fun t ht => ?_, fun t ht => ?_, fun t ht => ?_, (old1 12 (by decide)).trans a8⟩
    · show _ = nI (K.T + 1)
      rw [kk 1 (by decide) (by decide), gk 1 (by decide) (by decide), pp_wI1 (by decide), pp_wI1 (by decide), pp_wI2]
    · show _ = nI (va_up K.e1 K.T a t)
      have ht : t < K.T + 1 := ht
      rw [kk 4 (by decide) (by decide), gk 4 (by decide) (by decide), pp_wI1 (by decide)]
      by_cases e : t = K.T
      · rw [e, pp_wI2, va_up_s]
      · rw [pp_wI3 e, va_up_n e, pp_wI1 (by decide)]
        exact a5 t (by omega)
    · show _ = nI (va_up K.e2 K.T b t)
      have ht : t < K.T + 1 := ht
      rw [kk 5 (by decide) (by decide), gk 5 (by decide) (by decide)]
      by_cases e : t = K.T
      · rw [e, pp_wI2, va_up_s]
      · rw [pp_wI3 e, va_up_n e, pp_wI1 (by decide), pp_wI1 (by decide)]
        exact a6 t (by omega)
    · show _ = nI (va_up K.hd K.T 0 t)
      have ht : t < K.T + 1 := ht
      rw [old 6 (by decide) (by decide) (by decide) (by decide) (by decide)]
      by_cases e : t = K.T
      · rw [e, va_up_s]
        exact z2 _ (Nat.le_refl _) hT
      · rw [va_up_n e]
        exact a7 t (by omega)
  have ne : ∀ r, r < m → br r ≠ K.T := fun r hr e => by
    have := (rB.1 r hr).1
    omega
  have B0 : Br K0.T K0.op K0.hd m br := by
    refine ⟨fun r hr => ⟨Nat.lt_succ_of_lt (rB.1 r hr).1, ?_⟩, fun t ht hot => ?_, fun r r' hr hr' => ?_⟩
    · show va_up K.op K.T false (br r) = true
      rw [va_up_n (ne r hr)]
      exact (rB.1 r hr).2
    · have ht : t < K.T + 1 := ht
      have hot : va_up K.op K.T false t = true := hot
      have e : t ≠ K.T := fun e => by rw [e, va_up_s] at hot; cases hot
      rw [va_up_n e] at hot
      exact rB.2.1 t (by omega) hot
    · have := rB.2.2 r r' hr hr'
      rw [lsb_iff] at this ⊢
      show va_up K.hd K.T 0 (br r) < va_up K.hd K.T 0 (br r') ∨ (va_up K.hd K.T 0 (br r) = va_up K.hd K.T 0 (br r') ∧ br r < br r')
      rw [va_up_n (ne r (by omega)), va_up_n (ne r' hr')]
      exact this
  refine wp_bind (wp_mono (XrankIn (K := K0) (m := m) (br := br) (t := K.T) hW0 c0 ((old1 9 (by decide)).trans r1) B0 (fun r hr => by rw [old 8 (by decide) (by decide) (by decide) (by decide) (by decide)]; exact r8 r hr) (fun r hr => by rw [old 7 (by decide) (by decide) (by decide) (by decide) (by decide)]; exact r7 r hr) (Nat.lt_succ_self _) va_up_s (fun u hu hut hou => ?_)) ?_)
  · have hu : u < K.T + 1 := hu
    have hou : va_up K.op K.T false u = false := hou
    rw [va_up_n hut] at hou
    rw [old 7 (by decide) (by decide) (by decide) (by decide) (by decide)]
    exact r2 u (by omega) hou
  rintro M8 ⟨hF, br8, q9, q8, q7, q2, qB⟩
  rw [wp_some]
  have c8 := hF.c c0
  have e9 : M8.1 9 = M7.1 9 := hF.2.1 9 (by decide) (by decide) (by decide)
  have e10 : M8.1 10 = M7.1 10 := hF.2.1 10 (by decide) (by decide) (by decide)
  have inc' : ∀ p t, t < K.T → (K.addT a b).inc p t = K.inc p t := fun p t ht => by
    show (decide (va_up K.e1 K.T a t = p) || decide (va_up K.e2 K.T b t = p)) = (decide (K.e1 t = p) || decide (K.e2 t = p))
    rw [va_up_n (by omega), va_up_n (by omega)]
  have incT : ∀ p, (K.addT a b).inc p K.T = (decide (a = p) || decide (b = p)) := fun p => by
    show (decide (va_up K.e1 K.T a K.T = p) || decide (va_up K.e2 K.T b K.T = p)) = _
    rw [va_up_s, va_up_s]
  have deg' : ∀ p, (K.addT a b).deg p = K.deg p + if a = p ∨ b = p then 1 else 0 := fun p => by
    show cn_ ((K.addT a b).inc p) K.T + (if (K.addT a b).inc p K.T = true then 1 else 0) = _
    rw [incT, cn_congr (P' := K.inc p) (fun t ht => inc' p t ht)]
    simp only [Bool.or_eq_true, decide_eq_true_eq]
    rfl
  refine ⟨rfl, hF.1.trans (k2.trans g2), fun q hq => ?_, c8, ⟨m + 1, br8, q9, ?_, q8, q7, fun u hu hou => ?_⟩, ⟨fc, fun i => if i < fb (b + 1) then (if i < fa (a + 1) then aa i else if i = fa (a + 1) then K.T else aa (i - 1)) else if i = fb (b + 1) then K.T else (if i - 1 < fa (a + 1) then aa (i - 1) else if i - 1 = fa (a + 1) then K.T else aa (i - 1 - 1)), fun p hp => ?_, ?_, fun p hp => ?_, ?_, fun i hi => ?_, fun p t hp ht => ?_⟩, fun p hp hp2 => ?_, fun t ht ht2 => ?_⟩
  · rw [hF.2.1 q (by omega) (by omega) (by omega)]
    exact old q (by omega) (by omega) (by omega) (by omega) (by omega)
  · have : va_up K0.op K.T true = va_up K.op K.T true := va_up_up
    rw [this] at qB
    exact qB
  · have hu : u < K.T + 1 := hu
    have hou : va_up K.op K.T true u = false := hou
    have e : u ≠ K.T := fun e => by rw [e, va_up_s] at hou; cases hou
    rw [va_up_n e] at hou
    refine q2 u hu e ?_
    show va_up K.op K.T false u = false
    rw [va_up_n e]
    exact hou
  · rw [e9]; exact k9 p hp
  · show (if b < 0 then _ else if a < 0 then _ else fa 0) = 0
    rw [if_neg (by omega), if_neg (by omega)]
    exact f2
  · have hp : p < K.n := hp
    rw [deg' p]
    have := f3 p hp
    show (if b < p + 1 then (if a < p + 1 then fa (p + 1) + 1 else fa (p + 1)) + 1 else (if a < p + 1 then fa (p + 1) + 1 else fa (p + 1))) = (if b < p then (if a < p then fa p + 1 else fa p) + 1 else (if a < p then fa p + 1 else fa p)) + (K.deg p + if a = p ∨ b = p then 1 else 0)
    rw [this]
    split <;> split <;> split <;> split <;> split <;> omega
  · show (if b < K.n then fb K.n + 1 else fb K.n) = 2 * (K.T + 1)
    rw [if_pos hb, fbn]
    omega
  · have hi : i < 2 * (K.T + 1) := hi
    have v10 : ∀ j, j ≤ 2 * K.T → M6.1 10 j = nI (if j < fa (a + 1) then aa j else if j = fa (a + 1) then K.T else aa (j - 1)) ∧ (if j < fa (a + 1) then aa j else if j = fa (a + 1) then K.T else aa (j - 1)) < K.T + 1 := fun j hj => by
      have l := mono K.n (Nat.le_refl _) (a + 1) (by omega)
      rw [g10 j hj]
      by_cases e1 : j < fa (a + 1)
      · rw [if_pos e1, if_pos e1]
        have := f5 j (by omega)
        simp (disch := omega) only [pp_wI1, pp_wI2, pp_wI3]
        exact ⟨this.1, by omega⟩
      · rw [if_neg e1, if_neg e1]
        by_cases e2 : j = fa (a + 1)
        · rw [if_pos e2, if_pos e2]
          exact ⟨rfl, Nat.lt_succ_self _⟩
        · rw [if_neg e2, if_neg e2]
          have := f5 (j - 1) (by omega)
          simp (disch := omega) only [pp_wI1, pp_wI2, pp_wI3]
          exact ⟨this.1, by omega⟩
    show _ ∧ _ < K.T + 1
    rw [e10, k10 i (by omega)]
    dsimp only
    have l := monob K.n (Nat.le_refl _) (b + 1) (by omega)
    by_cases e1 : i < fb (b + 1)
    · rw [if_pos e1, if_pos e1]
      exact v10 i (by omega)
    · rw [if_neg e1, if_neg e1]
      by_cases e2 : i = fb (b + 1)
      · rw [if_pos e2, if_pos e2]
        exact ⟨rfl, Nat.lt_succ_self _⟩
      · rw [if_neg e2, if_neg e2]
        exact v10 (i - 1) (by omega)
  · have hp : p < K.n := hp
    have ht : t < K.T + 1 := ht
    have A := adj_ins (aa := aa) (t0 := K.T) hm ha hp (t := t)
    have B := adj_ins (fa := fb) (aa := fun i => if i < fa (a + 1) then aa i else if i = fa (a + 1) then K.T else aa (i - 1)) (t0 := K.T) hmb hb hp (t := t)
    refine Iff.trans ?_ B.symm
    show _ ↔ (∃ i, (if a < p then fa p + 1 else fa p) ≤ i ∧ i < (if a < p + 1 then fa (p + 1) + 1 else fa (p + 1)) ∧ _) ∨ _
    rw [A]
    by_cases e : t = K.T
    · subst e
      rw [incT, Bool.or_eq_true, decide_eq_true_eq, decide_eq_true_eq]
      constructor
      · rintro (h | h)
        · exact Or.inl (Or.inr ⟨h.symm, rfl⟩)
        · exact Or.inr ⟨h.symm, rfl⟩
      · rintro ((⟨i, h1, h2, h3⟩ | ⟨h, -⟩) | ⟨h, -⟩)
        · have l := mono K.n (Nat.le_refl _) (p + 1) (by omega)
          have := (f5 i (by omega)).2
          omega
        · exact Or.inl h.symm
        · exact Or.inr h.symm
    · rw [inc' p t (by omega), f6 p t hp (by omega)]
      constructor
      · exact fun h => Or.inl (Or.inl h)
      · rintro ((h | ⟨-, h⟩) | ⟨-, h⟩)
        · exact h
        · exact absurd h e
        · exact absurd h e
  · have hp : K.n ≤ p := hp
    rw [hF.2.1 3 (by decide) (by decide) (by decide), old 3 (by decide) (by decide) (by decide) (by decide) (by decide)]
    exact z1 p hp hp2
  · have ht : K.T + 1 ≤ t := ht
    rw [hF.2.1 6 (by decide) (by decide) (by decide), old 6 (by decide) (by decide) (by decide) (by decide) (by decide)]
    exact z2 t (by omega) ht2
