/-! THE PLAIN RUN, and both in step -/
theorem Ylead {K : RK} {W : FW} {M : sr_M} {i : Nat} (hW : WF K) (hY : RY K M) (hO : WOK K W i) (hA : AY K W M) :
    sr_wp (sr_lp (fun z13 : Int32 × Int32 => f5_plainRun_L47 M z13.1 z13.2) ((-1), 0)) (fun v => ∃ b, v = oI b ∧ Least K.hd (Lead K W) b) := by
  have hn := hW.1
  have hT := hW.2.1
  have hY' := hY
  obtain ⟨yn, y2, y3, y4, y5, y6, y7, y8, y9⟩ := hY
  refine wp_for (τ := Int32) (fun i x => (x, nI i)) K.T (fun i x => ∃ b, x = oI b ∧ Least K.hd (fun t => t < i ∧ Lead K W t) b) ?_ ?_ 0 (-1) (Nat.zero_le _) ⟨none, rfl, fun u hu => absurd hu.1 (Nat.not_lt_zero _)⟩
  · rintro i x hi ⟨b, rfl, g⟩
    have et := hW.2.2.1 i hi
    have bl : ∀ k, b = some k → k < K.T := fun k e => by subst e; have := g.1.1; omega
    have keep : ¬ Lead K W i → sr_wp (some (.inl (oI b, nI i + 1)) : Option ((Int32 × Int32) ⊕ Int32)) (sr_oc (fun t => ∃ x', t = (x', nI (i + 1)) ∧ ∃ b, x' = oI b ∧ Least K.hd (fun t => t < i + 1 ∧ Lead K W t) b) (fun v => ∃ b, v = oI b ∧ Least K.hd (Lead K W) b)) := by
      intro hno
      rw [wp_on]
      refine ⟨oI b, by rw [← nI_1], b, rfl, ?_⟩
      have e : (fun t => t < i + 1 ∧ Lead K W t) = (fun t => t < i ∧ Lead K W t) := funext fun u => propext ⟨fun h => ⟨by
        by_cases e : u = i
        · rw [e] at h; exact absurd h.2 hno
        · have := h.1; omega, h.2⟩, fun h => ⟨by have := h.1; omega, h.2⟩⟩
      rw [e]; exact g
    have grow : Lead K W i → ∀ u, (u < i + 1 ∧ Lead K W u) ↔ (u < i ∧ Lead K W u) ∨ u = i := by
      intro hl u
      constructor
      · rintro ⟨h1, h2⟩
        by_cases e : u = i
        · exact Or.inr e
        · exact Or.inl ⟨by omega, h2⟩
      · rintro (⟨h1, h2⟩ | e)
        · exact ⟨by omega, h2⟩
        · rw [e]; exact ⟨by omega, hl⟩
    have take : Lead K W i → Least K.hd (fun t => t < i + 1 ∧ Lead K W t) (some i) → sr_wp (some (.inl (nI i, nI i + 1)) : Option ((Int32 × Int32) ⊕ Int32)) (sr_oc (fun t => ∃ x', t = (x', nI (i + 1)) ∧ ∃ b, x' = oI b ∧ Least K.hd (fun t => t < i + 1 ∧ Lead K W t) b) (fun v => ∃ b, v = oI b ∧ Least K.hd (Lead K W) b)) := by
      intro _ h
      rw [wp_on]
      exact ⟨nI i, by rw [← nI_1], some i, rfl, h⟩
    have c1 := yv_m2 hW hO et.1
    have c2 := yv_m2 hW hO et.2.1
    unfold f5_plainRun_L47
    simp only [sr_bnd, sr_jn, y2]
    rw [if_neg (by rw [pp_le (by omega) (by omega)]; omega), pp_ld (by omega) (by decide), y8 i hi]
    cases ho : K.op i with
    | false =>
      rw [if_neg (by decide)]
      simp only [if_true]
      exact keep (fun h => by have := h.2.1; rw [ho] at this; cases this)
    | true =>
      rw [if_pos (by decide), pp_ld (by omega) (by decide), y5 i hi, pp_ld (by omega) (by decide), hA _ et.1]
      simp only [pp_ld (show i < 300 by omega) (show 300 < 2147483648 by decide), y6 i hi, pp_ld (show K.e2 i < 120 by omega) (show 120 < 2147483648 by decide), hA _ et.2.1, c1, c2]
      by_cases hl : Lead K W i
      case neg =>
        have e : W.rc (K.e1 i) = W.rc (K.e2 i) := by
          cases d : decide (W.rc (K.e1 i) = W.rc (K.e2 i)) with
          | true => exact of_decide_eq_true d
          | false => exact absurd ⟨hi, ho, of_decide_eq_false d⟩ hl
        rw [e]
        cases d2 : W.rc (K.e2 i) <;> simp only [if_true, if_false] <;> exact keep hl
      have main : sr_wp (if oI b < 0 then some (.inl (nI i, nI i + 1)) else (f5_isLess (nI i) (oI b) M).bind fun v21 => if v21 = 0 then some (.inl (oI b, nI i + 1)) else some (.inl (nI i, nI i + 1)) : Option ((Int32 × Int32) ⊕ Int32)) (sr_oc (fun t => ∃ x', t = (x', nI (i + 1)) ∧ ∃ b, x' = oI b ∧ Least K.hd (fun t => t < i + 1 ∧ Lead K W t) b) (fun v => ∃ b, v = oI b ∧ Least K.hd (Lead K W) b)) := by
        cases b with
        | none =>
          rw [if_pos (by decide)]
          exact take hl (Least.add0 g (grow hl))
        | some b =>
          have := bl b rfl
          rw [if_neg (show ¬ oI (some b) < 0 from Int32.not_lt.mpr (oI_s0 (by omega)))]
          show sr_wp ((f5_isLess (nI i) (nI b) M).bind _) _
          rw [Yless hW hY' hi this, Option.bind_some]
          cases l : lsb K.hd i b with
          | false =>
            rw [if_pos (by rfl), wp_on]
            exact ⟨oI (some b), by rw [← nI_1], some b, rfl, Least.add2 g l (grow hl)⟩
          | true =>
            rw [if_neg (by decide)]
            exact take hl (Least.add1 g l (grow hl))
      have ne := hl.2.2
      cases d1 : W.rc (K.e1 i) <;> cases d2 : W.rc (K.e2 i)
      · rw [d1, d2] at ne; exact absurd rfl ne
      · simp only [n10, if_true, if_false, show ((1 : Int32) = 0) = False from eq_false n10, show (true = false) = False from eq_false (by decide)]
        exact main
      · simp only [n10, if_true, if_false, show ((1 : Int32) = 0) = False from eq_false n10, show ((0 : Int32) = 1) = False from eq_false (by decide), show (true = false) = False from eq_false (by decide)]
        exact main
      · rw [d1, d2] at ne; exact absurd rfl ne
  · rintro x ⟨b, rfl, g⟩
    unfold f5_plainRun_L47
    simp only [sr_bnd, y2]
    rw [if_pos (Int32.le_refl _), wp_out]
    refine ⟨b, rfl, ?_⟩
    have e : (fun t => t < K.T ∧ Lead K W t) = Lead K W := funext fun u => propext ⟨fun h => h.2, fun h => ⟨h.1, h⟩⟩
    rw [e] at g; exact g
theorem cn_full {P : Nat → Bool} {n : Nat} (h : n ≤ cn_ P n) {p : Nat} (hp : p < n) : P p = true := by
  cases e : P p with
  | true => rfl
  | false =>
    have h2 := cn_ins (P := P) (P' := fun i => if i = p then true else P i) hp e (if_pos rfl) (fun i hi => if_neg hi)
    have h3 := cn_le (P := fun i => if i = p then true else P i) (n := n)
    omega
theorem flood_loop {K : RK} (hW : WF K) : ∀ d i Mx My W v, i + d = K.n → RX K Mx → RY K My → WOK K W i → i ≤ cn_ W.rc K.n → AX K W Mx → AY K W My → (0 : Int32) ≤ v →
    ∃ W' Mx' My', sr_lp (fun z12 : Int32 × sr_M => f3_flood_L58 z12.1 z12.2) (nI i, Mx) = some Mx' ∧ sr_lp (fun z10 : Int32 × sr_M => f5_plainRun_L39 z10.1 z10.2) (v, My) = some My' ∧ WOK K W' K.n ∧ AX K W' Mx' ∧ AY K W' My' ∧ XWy Mx Mx' ∧ YWy My My' := by
  have hn := hW.1
  have hT := hW.2.1
  have ydone : ∀ (My : sr_M) (v : Int32), (0 : Int32) ≤ v → sr_lp (fun z13 : Int32 × Int32 => f5_plainRun_L47 My z13.1 z13.2) ((-1), 0) = some (oI none) → sr_lp (fun z10 : Int32 × sr_M => f5_plainRun_L39 z10.1 z10.2) (v, My) = some My := by
    intro My v hv e
    refine sr_lp_step (t := (oI none, My)) ?_ (sr_lp_end ?_)
    · show f5_plainRun_L39 v My = _
      unfold f5_plainRun_L39
      rw [if_neg (Int32.not_lt.mpr hv), e, Option.bind_some, if_pos (by decide)]
    · show f5_plainRun_L39 (oI none) My = _
      unfold f5_plainRun_L39
      rw [if_pos (by decide)]
  intro d
  induction d with
  | zero =>
    intro i Mx My W v hid hX hY hO hc hAX hAY hv
    obtain rfl : i = K.n := by omega
    obtain ⟨w, ew, b, rfl, hb⟩ := Ylead hW hY hO hAY
    have : b = none := by
      cases b with
      | none => rfl
      | some t =>
        obtain ⟨h1, h2, h3⟩ := hb.1
        have et := hW.2.2.1 t h1
        rw [cn_full hc et.1, cn_full hc et.2.1] at h3
        exact absurd rfl h3
    subst this
    refine ⟨W, Mx, My, sr_lp_end ?_, ydone My v hv ew, hO, hAX, hAY, XWy.rf, YWy.rf⟩
    show f3_flood_L58 (nI K.n) Mx = _
    unfold f3_flood_L58
    simp only [sr_bnd, hX.1.1]
    rw [if_pos (Int32.le_refl _)]
  | succ d ih =>
    intro i Mx My W v hid hX hY hO hc hAX hAY hv
    obtain ⟨w, ew, b, rfl, hb⟩ := Ylead hW hY hO hAY
    obtain ⟨x1, x2⟩ := XfillNext hW hX hO (by omega) hAX hb
    cases b with
    | none =>
      refine ⟨W, Mx, My, sr_lp_end ?_, ydone My v hv ew, hO.mono (by omega), hAX, hAY, XWy.rf, YWy.rf⟩
      show f3_flood_L58 (nI i) Mx = _
      unfold f3_flood_L58
      simp only [sr_bnd, hX.1.1]
      rw [if_neg (by rw [pp_le (by omega) (by omega)]; omega), x1 rfl, pp_bd2, if_pos rfl]
    | some t =>
      have hl := hb.1
      have ht := hl.1
      have et := hW.2.2.1 t ht
      obtain ⟨Mx', e1, e2, e3⟩ := x2 t rfl
      obtain ⟨h1, h2, h3, h4, h5, h6, h7⟩ := hl.ok hW
      have hO' := hO.add hW hl
      have ex : f3_flood_L58 (nI i) Mx = some (.inl (nI (i + 1), Mx')) := by
        unfold f3_flood_L58
        simp only [sr_bnd, hX.1.1]
        rw [if_neg (by rw [pp_le (by omega) (by omega)]; omega), e1, pp_bd2, if_neg n10, nI_1]
      have ey : f5_plainRun_L39 v My = some (.inl (nI t, sr_wI My 20 (W.np K t) (nI t))) := by
        have c1 := yv_m2 hW hO et.1
        have ew' : sr_lp (fun z13 : Int32 × Int32 => f5_plainRun_L47 My z13.1 z13.2) ((-1), 0) = some (nI t) := ew
        unfold f5_plainRun_L39
        rw [if_neg (Int32.not_lt.mpr hv), ew', Option.bind_some, if_neg (Int32.not_lt.mpr (show (0 : Int32) ≤ nI t from oI_s0 (by omega))), pp_ld (by omega) (by decide), hY.2.2.2.2.1 t ht, pp_ld (by omega) (by decide), hAY _ et.1]
        simp only [sr_jn, c1]
        unfold FW.np
        cases d1 : W.rc (K.e1 t) with
        | false => rw [if_pos rfl, pp_ld (by omega) (by decide), hY.2.2.2.2.1 t ht, pp_st (by omega) (by decide), if_neg (by decide)]
        | true => rw [if_neg (by decide), pp_ld (by omega) (by decide), hY.2.2.2.2.2.1 t ht, pp_st (by omega) (by decide), if_pos rfl]
      have fy : YWy My (sr_wI My 20 (W.np K t) (nI t)) := ⟨rfl, fun q a b => by rw [pp_wI1 a]⟩
      have ay : AY K (W.add K t) (sr_wI My 20 (W.np K t) (nI t)) := hAY.add (by
        funext j
        by_cases e : j = W.np K t
        · rw [e, pp_wI2, va_up_s]
        · rw [pp_wI3 e, va_up_n e])
      have hc' : i + 1 ≤ cn_ (W.add K t).rc K.n := by
        have := cn_ins (P := W.rc) (P' := (W.add K t).rc) h1 h3 va_up_s (fun i hi => va_up_n hi)
        omega
      obtain ⟨W', M1, M2, g1, g2, g3, g4, g5, g6, g7⟩ := ih (i + 1) Mx' (sr_wI My 20 (W.np K t) (nI t)) (W.add K t) (nI t) (by omega) (e3.rx hX) (fy.ry hY) hO' hc' e2 ay (oI_s0 (by omega))
      exact ⟨W', M1, M2, sr_lp_step ex g1, sr_lp_step ey g2, g3, g4, g5, e3.tr g6, fy.tr g7⟩
theorem flood_start {K : RK} {M : sr_M} (hW : WF K) (hX : RX K M) : ∃ M', sr_lp (fun z1 : Int32 × sr_M => f3_flood_L2 z1.1 z1.2) (0, M) = some M' ∧ AX K (FW.new K) M' ∧ XWy M M' := by
  have hn := hW.1
  obtain ⟨xn, xT, x1, x2, x3, x4, x5⟩ := hX.1
  have key : sr_wp (sr_lp (fun z1 : Int32 × sr_M => f3_flood_L2 z1.1 z1.2) (0, M)) (fun M' => AX K (FW.new K) M' ∧ M'.2 = M.2 ∧ ∀ q, (q < 57 ∨ 59 < q) → M'.1 q = M.1 q) := by
    refine wp_for (τ := sr_M) (fun i x => (nI i, x)) K.n (fun i M1 => (∀ p, p < i → M1.1 57 p = xv (FW.new K) p ∧ M1.1 58 p = oI none) ∧ M1.2 = M.2 ∧ ∀ q, (q < 57 ∨ 59 < q) → M1.1 q = M.1 q) ?_ ?_ 0 M (Nat.zero_le _) ⟨fun p hp => absurd hp (Nat.not_lt_zero _), rfl, fun _ _ => rfl⟩
    · rintro i M1 hi ⟨g1, g2, g3⟩
      have b1 : M1.1 1 0 = nI K.n := by rw [g3 1 (by omega)]; exact xn
      have b3 : M1.1 3 i = pp_bI (K.il i) := by rw [g3 3 (by omega)]; exact x2 i hi
      have put : ∀ v, v = xv (FW.new K) i → sr_wp (sr_st (nI i) 120 M1 57 v fun M8 => sr_st (nI i) 120 M8 58 (-1) fun M9 => sr_st (nI i) 120 M9 59 (-1) fun M10 => some (.inl (nI i + 1, M10)) : Option ((Int32 × sr_M) ⊕ sr_M)) (sr_oc (fun y => ∃ x', y = (nI (i + 1), x') ∧ (∀ p, p < i + 1 → x'.1 57 p = xv (FW.new K) p ∧ x'.1 58 p = oI none) ∧ x'.2 = M.2 ∧ ∀ q, (q < 57 ∨ 59 < q) → x'.1 q = M.1 q) (fun M' => AX K (FW.new K) M' ∧ M'.2 = M.2 ∧ ∀ q, (q < 57 ∨ 59 < q) → M'.1 q = M.1 q)) := by
        intro v hv
        rw [pp_st (by omega) (by decide), pp_st (by omega) (by decide), pp_st (by omega) (by decide), wp_on]
        refine ⟨sr_wI (sr_wI (sr_wI M1 57 i v) 58 i (-1)) 59 i (-1), by rw [nI_1], fun p hp => ?_, g2, fun q hq => by rw [pp_wI1 (by omega), pp_wI1 (by omega), pp_wI1 (by omega)]; exact g3 q hq⟩
        by_cases e : p = i
        · rw [e]
          exact ⟨by rw [pp_wI1 (by omega), pp_wI1 (by omega), pp_wI2]; exact hv, by rw [pp_wI1 (by omega), pp_wI2]; rfl⟩
        · have := g1 p (by omega)
          exact ⟨by rw [pp_wI1 (by omega), pp_wI1 (by omega), pp_wI3 e]; exact this.1, by rw [pp_wI1 (by omega), pp_wI3 e, pp_wI1 (by omega)]; exact this.2⟩
      unfold f3_flood_L2
      simp only [sr_bnd, sr_jn, b1]
      rw [if_neg (by rw [pp_le (by omega) (by omega)]; omega), pp_ld (by omega) (by decide), b3]
      cases e : K.il i with
      | false => rw [if_pos (by rfl)]; exact put _ (xv_f (W := FW.new K) e).symm
      | true => rw [if_neg (by decide)]; exact put _ (xv_t (W := FW.new K) e).symm
    · rintro M1 ⟨g1, g2, g3⟩
      have b1 : M1.1 1 0 = nI K.n := by rw [g3 1 (by omega)]; exact xn
      unfold f3_flood_L2
      simp only [sr_bnd, b1]
      rw [if_pos (Int32.le_refl _), wp_out]
      exact ⟨fun p hp => ⟨(g1 p hp).1, fun _ => (g1 p hp).2, fun _ h => absurd h (Nat.not_lt_zero _)⟩, g2, g3⟩
  obtain ⟨M', e, k1, k2, k3⟩ := key
  exact ⟨M', e, k1, k2, fun r hr => k3 r (by omega)⟩
theorem plain_start {K : RK} {M : sr_M} (hW : WF K) (hY : RY K M) : ∃ M', sr_lp (fun z1 : Int32 × sr_M => f5_plainRun_L2 z1.1 z1.2) (0, M) = some M' ∧ AY K (FW.new K) M' ∧ YWy M M' := by
  have hn := hW.1
  obtain ⟨yn, y2, y3, y4, y5, y6, y7, y8, y9⟩ := hY
  have key : sr_wp (sr_lp (fun z1 : Int32 × sr_M => f5_plainRun_L2 z1.1 z1.2) (0, M)) (fun M' => AY K (FW.new K) M' ∧ M'.2 = M.2 ∧ ∀ q, q ≠ 20 → M'.1 q = M.1 q) := by
    refine wp_for (τ := sr_M) (fun i x => (nI i, x)) K.n (fun i M1 => (∀ p, p < i → M1.1 20 p = yv (FW.new K) p) ∧ M1.2 = M.2 ∧ ∀ q, q ≠ 20 → M1.1 q = M.1 q) ?_ ?_ 0 M (Nat.zero_le _) ⟨fun p hp => absurd hp (Nat.not_lt_zero _), rfl, fun _ _ => rfl⟩
    · rintro i M1 hi ⟨g1, g2, g3⟩
      have b1 : M1.1 0 0 = nI K.n := by rw [g3 0 (by omega)]; exact yn
      have b3 : M1.1 2 i = pp_bI (K.il i) := by rw [g3 2 (by omega)]; exact y4 i hi
      have put : ∀ v, v = yv (FW.new K) i → sr_wp (sr_st (nI i) 120 M1 20 v fun M8 => some (.inl (nI i + 1, M8)) : Option ((Int32 × sr_M) ⊕ sr_M)) (sr_oc (fun y => ∃ x', y = (nI (i + 1), x') ∧ (∀ p, p < i + 1 → x'.1 20 p = yv (FW.new K) p) ∧ x'.2 = M.2 ∧ ∀ q, q ≠ 20 → x'.1 q = M.1 q) (fun M' => AY K (FW.new K) M' ∧ M'.2 = M.2 ∧ ∀ q, q ≠ 20 → M'.1 q = M.1 q)) := by
        intro v hv
        rw [pp_st (by omega) (by decide), wp_on]
        refine ⟨sr_wI M1 20 i v, by rw [nI_1], fun p hp => ?_, g2, fun q hq => by rw [pp_wI1 hq]; exact g3 q hq⟩
        by_cases e : p = i
        · rw [e, pp_wI2]; exact hv
        · rw [pp_wI3 e]; exact g1 p (by omega)
      unfold f5_plainRun_L2
      simp only [sr_bnd, sr_jn, b1]
      rw [if_neg (by rw [pp_le (by omega) (by omega)]; omega), pp_ld (by omega) (by decide), b3]
      cases e : K.il i with
      | false => rw [if_pos (by rfl)]; exact put _ (yv_f (W := FW.new K) e).symm
      | true => rw [if_neg (by decide)]; exact put _ (yv_0 (W := FW.new K) e rfl).symm
    · rintro M1 ⟨g1, g2, g3⟩
      have b1 : M1.1 0 0 = nI K.n := by rw [g3 0 (by omega)]; exact yn
      unfold f5_plainRun_L2
      simp only [sr_bnd, b1]
      rw [if_pos (Int32.le_refl _), wp_out]
      exact ⟨g1, g2, g3⟩
  obtain ⟨M', e, k1, k2, k3⟩ := key
  exact ⟨M', e, k1, k2, fun r h1 h2 => k3 r h1⟩
theorem flood_both {K : RK} {Mx My : sr_M} (hW : WF K) (hX : RX K Mx) (hY : RY K My) : ∃ W Mx' My', f3_flood Mx = some Mx' ∧ f5_plainRun My = some My' ∧ WOK K W K.n ∧ AX K W Mx' ∧ AY K W My' ∧ XWy Mx Mx' ∧ YWy My My' := by
  obtain ⟨M1, e1, e2, e3⟩ := flood_start hW hX
  obtain ⟨M2, g1, g2, g3⟩ := plain_start hW hY
  obtain ⟨W', Mx', My', h1, h2, h3, h4, h5, h6, h7⟩ := flood_loop hW K.n 0 M1 M2 (FW.new K) 0 (by omega) (e3.rx hX) (g3.ry hY) WOK.new (Nat.zero_le _) e2 g2 (by decide)
  refine ⟨W', Mx', My', ?_, ?_, h3, h4, h5, e3.tr h6, g3.tr h7⟩
  · unfold f3_flood
    have h1 : sr_lp (fun z12 : Int32 × sr_M => f3_flood_L58 z12.1 z12.2) (0, M1) = some Mx' := h1
    rw [e1, Option.bind_some, h1, Option.bind_some]
  · unfold f5_plainRun
    rw [g1, Option.bind_some, h2, Option.bind_some]
