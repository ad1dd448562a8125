/-! OPENING on the reference's side; the starts on both sides -/
def YFr (M M' : sr_M) : Prop := M'.2 = M.2 ∧ (∀ q, ((1 ≤ q ∧ q ≤ 10) ∨ (15 ≤ q ∧ q ≠ 18)) → M'.1 q = M.1 q) ∧ ∀ j, j ≠ 14 → M'.1 0 j = M.1 0 j
theorem YFr.rf {M : sr_M} : YFr M M := ⟨rfl, fun _ _ => rfl, fun _ _ => rfl⟩
theorem YFr.tr {M M' M'' : sr_M} (h : YFr M M') (h' : YFr M' M'') : YFr M M'' := ⟨h'.1.trans h.1, fun q hq => (h'.2.1 q hq).trans (h.2.1 q hq), fun j hj => (h'.2.2 j hj).trans (h.2.2 j hj)⟩
theorem YFr.ry {K : RK} {M M' : sr_M} (h : YFr M M') (hY : RY K M) : RY K M' := hY.kept (h.2.2 0 (by omega)) (h.2.2 3 (by omega)) (h.2.2 8 (by omega)) (fun q h1 h2 => h.2.1 q (by omega))
theorem Yopen {K : RK} {S : FS} {M : sr_M} {t : Nat} (hW : WF K) (hY : RY K M) (hS : SOK K S) (hF : FY K S M) (hcd : Cd K S.fl S.ct t) :
    sr_wp (f5_open (nI t) M) (fun M' => FY K (S.go K t) M' ∧ YFr M M') := by
  have hn := hW.1
  have hT := hW.2.1
  have ht := hcd.1
  have et := hW.2.2.1 t ht
  obtain ⟨hx, fx, cx⟩ := nw_ok hW hcd
  have hst := hS.lt hx fx
  have hY' := hY
  obtain ⟨f1, f2, f4, f5, f6⟩ := hF
  obtain ⟨y1, y2, y3, y4, y5, y6, y7, y8, y9⟩ := hY
  unfold f5_open
  rw [pp_ld (by omega) (by decide), y5 t ht, YisFilled hW (hS.bf hW) f4 et.1, Option.bind_some]
  have key : sr_wp (sr_bnd (M.1 0 14) fun v5 => sr_put M 0 14 (v5 + 1) fun M6 => sr_bnd (M6.1 0 14) fun v7 => sr_st v7 121 M6 11 (nI t) fun M8 => sr_bnd (M8.1 0 14) fun v9 => sr_st (nI (nw K S.fl t)) 120 M8 12 v9 fun M10 => sr_st (nI (nw K S.fl t)) 120 M10 13 (nI t) fun M11 => (f5_trap M11).bind fun M12 => some M12) (fun M' => FY K (S.go K t) M' ∧ YFr M M') := by
    have a1 : (sr_wI M 0 14 (nI S.st + 1)).1 0 14 = nI (S.st + 1) := by rw [pp_wI2, ← nI_1]
    simp only [sr_bnd, sr_put, f1, a1]
    rw [pp_st (by omega) (by decide)]
    have a2 : (sr_wI (sr_wI M 0 14 (nI S.st + 1)) 11 (S.st + 1) (nI t)).1 0 14 = nI (S.st + 1) := by rw [pp_wI1 (by omega), a1]
    rw [a2, pp_st (by omega) (by decide), pp_st (by omega) (by decide)]
    generalize hM : sr_wI (sr_wI (sr_wI (sr_wI M 0 14 (nI S.st + 1)) 11 (S.st + 1) (nI t)) 12 (nw K S.fl t) (nI (S.st + 1))) 13 (nw K S.fl t) (nI t) = M11
    have fr : ∀ q, ((1 ≤ q ∧ q ≤ 10) ∨ 14 ≤ q) → M11.1 q = M.1 q := fun q hq => by rw [← hM, pp_wI1 (by omega), pp_wI1 (by omega), pp_wI1 (by omega), pp_wI1 (by omega)]
    have g0 : ∀ j, j ≠ 14 → M11.1 0 j = M.1 0 j := fun j hj => by rw [← hM, pp_wI1 (by omega), pp_wI1 (by omega), pp_wI1 (by omega), pp_wI3 hj]
    have g14 : M11.1 0 14 = nI (S.st + 1) := by rw [← hM, pp_wI1 (by omega), pp_wI1 (by omega), a2]
    have gt : ∀ k, 1 ≤ k → k ≤ S.st + 1 → M11.1 11 k = nI (va_up S.th (S.st + 1) t k) := fun k h1 h2 => by
      rw [← hM, pp_wI1 (by omega), pp_wI1 (by omega)]
      by_cases q : k = S.st + 1
      · rw [q, pp_wI2, va_up_s]
      · rw [pp_wI3 q, va_up_n q, pp_wI1 (by omega)]; exact f2 k h1 (by omega)
    have gf : At K (va_up S.fl (nw K S.fl t) (some (S.st + 1))) 12 M11 := fun p hp => by
      rw [← hM, pp_wI1 (by omega)]
      by_cases q : p = nw K S.fl t
      · rw [q, pp_wI2, va_up_s]; rfl
      · rw [pp_wI3 q, va_up_n q, pp_wI1 (by omega), pp_wI1 (by omega)]; exact f4 p hp
    have gb : At K (va_up S.fb (nw K S.fl t) (some t)) 13 M11 := fun p hp => by
      rw [← hM]
      by_cases q : p = nw K S.fl t
      · rw [q, pp_wI2, va_up_s]; rfl
      · rw [pp_wI3 q, va_up_n q, pp_wI1 (by omega), pp_wI1 (by omega), pp_wI1 (by omega)]; exact f5 p hp
    have gc : At K S.ct 14 M11 := fun p hp => by rw [fr _ (by omega)]; exact f6 p hp
    have hY2 : RY K M11 := hY'.kept (g0 0 (by omega)) (g0 3 (by omega)) (g0 8 (by omega)) (fun q h1 h2 => fr q (by omega))
    have hb' : bnd K (va_up S.fl (nw K S.fl t) (some (S.st + 1))) := (hS.go hW hcd).bf hW
    refine wp_bind (wp_mono (Ytrap (st := S.st + 1) hW hY2 hb' (hS.bc hW) gf gc g14) ?_)
    rintro M' ⟨c1, c2, c3⟩
    rw [wp_some]
    refine ⟨⟨by rw [c3 0 (by omega) (by omega)]; exact g14, fun k h1 h2 => by rw [c3 11 (by omega) (by omega)]; exact gt k h1 h2, fun p hp => by rw [c3 12 (by omega) (by omega)]; exact gf p hp, fun p hp => by rw [c3 13 (by omega) (by omega)]; exact gb p hp, c1⟩, c2.trans (by rw [← hM]; rfl), fun q hq => by rw [c3 q (by omega) (by omega)]; exact fr q (by omega), fun j hj => by rw [c3 0 (by omega) (by omega)]; exact g0 j hj⟩
  unfold sr_jn
  cases hfl : S.fl (K.e1 t) with
  | none =>
    have e : nw K S.fl t = K.e1 t := by unfold nw; rw [hfl]; rfl
    rw [e] at key
    show sr_wp (if pp_bI (none : Option Nat).isSome = 0 then _ else _) _
    rw [if_pos (by rfl), pp_ld (by omega) (by decide), y5 t ht]
    exact key
  | some k =>
    have e : nw K S.fl t = K.e2 t := by unfold nw; rw [hfl]; rfl
    rw [e] at key
    show sr_wp (if pp_bI (some k).isSome = 0 then _ else _) _
    rw [if_neg n_some, pp_ld (by omega) (by decide), y6 t ht]
    exact key
theorem Ystart {K : RK} {M : sr_M} (hW : WF K) (hY : RY K M) : sr_wp (f5_start M) (fun M' => FY K (FS.new K) M' ∧ YFr M M') := by
  have hn := hW.1
  have hT := hW.2.1
  have y1 := hY.1
  have y4 := hY.2.2.2.1
  unfold f5_start
  simp only [sr_put]
  refine wp_bind (wp_mono (Q := fun M1 => At K (FS.new K).fl 12 M1 ∧ At K (fun _ => none) 13 M1 ∧ At K (fun _ => none) 14 M1 ∧ M1.1 0 14 = nI 0 ∧ YFr M M1) ?_ ?_)
  · refine wp_for (τ := sr_M) (fun i x => (nI i, x)) K.n (fun i M1 => (∀ p, p < i → M1.1 12 p = oI ((FS.new K).fl p) ∧ M1.1 13 p = oI none ∧ M1.1 14 p = oI none) ∧ M1.1 0 14 = nI 0 ∧ YFr M M1) ?_ ?_ 0 (sr_wI M 0 14 0) (Nat.zero_le _) ⟨fun p hp => absurd hp (Nat.not_lt_zero _), pp_wI2, rfl, fun q hq => by rw [pp_wI1 (by omega)], fun j hj => by rw [pp_wI3 hj]⟩
    · rintro i M1 hi ⟨r1, r2, r3⟩
      have b1 : M1.1 0 0 = nI K.n := by rw [r3.2.2 0 (by omega)]; exact y1
      have b2 : M1.1 2 i = pp_bI (K.il i) := by rw [r3.2.1 2 (by omega)]; exact y4 i hi
      have key : ∀ v, v = oI ((FS.new K).fl i) → sr_wp (sr_st (nI i) 120 M1 12 v fun M9 => sr_st (nI i) 120 M9 13 (-1) fun M10 => sr_st (nI i) 120 M10 14 (-1) fun M11 => some (.inl (nI i + 1, M11)) : Option ((Int32 × sr_M) ⊕ sr_M)) (sr_oc (fun t => ∃ x', t = (nI (i + 1), x') ∧ (∀ p, p < i + 1 → x'.1 12 p = oI ((FS.new K).fl p) ∧ x'.1 13 p = oI none ∧ x'.1 14 p = oI none) ∧ x'.1 0 14 = nI 0 ∧ YFr M x') (fun M1 => At K (FS.new K).fl 12 M1 ∧ At K (fun _ => none) 13 M1 ∧ At K (fun _ => none) 14 M1 ∧ M1.1 0 14 = nI 0 ∧ YFr M M1)) := by
        intro v hv
        rw [pp_st (by omega) (by decide), pp_st (by omega) (by decide), pp_st (by omega) (by decide), wp_on]
        refine ⟨sr_wI (sr_wI (sr_wI M1 12 i v) 13 i (-1)) 14 i (-1), by rw [← nI_1], fun p hp => ?_, by rw [pp_wI1 (by omega), pp_wI1 (by omega), pp_wI1 (by omega)]; exact r2, r3.1, fun q hq => by rw [pp_wI1 (by omega), pp_wI1 (by omega), pp_wI1 (by omega)]; exact r3.2.1 q hq, fun j hj => by rw [pp_wI1 (by omega), pp_wI1 (by omega), pp_wI1 (by omega)]; exact r3.2.2 j hj⟩
        by_cases e : p = i
        · subst e
          refine ⟨by rw [pp_wI1 (by omega), pp_wI1 (by omega), pp_wI2]; exact hv, by rw [pp_wI1 (by omega), pp_wI2]; rfl, by rw [pp_wI2]; rfl⟩
        · have := r1 p (by omega)
          refine ⟨by rw [pp_wI1 (by omega), pp_wI1 (by omega), pp_wI3 e]; exact this.1, by rw [pp_wI1 (by omega), pp_wI3 e, pp_wI1 (by omega)]; exact this.2.1, by rw [pp_wI3 e, pp_wI1 (by omega), pp_wI1 (by omega)]; exact this.2.2⟩
      unfold f5_start_L7
      simp only [sr_bnd, sr_jn, b1]
      rw [if_neg (by rw [pp_le (by omega) (by omega)]; omega), pp_ld (by omega) (by decide), b2]
      cases hil : K.il i with
      | false =>
        rw [if_pos (by decide)]
        refine key (-1) ?_
        show (-1 : Int32) = oI (if K.il i = true then some 0 else none)
        rw [hil]; rfl
      | true =>
        rw [if_neg (by decide)]
        refine key 0 ?_
        show (0 : Int32) = oI (if K.il i = true then some 0 else none)
        rw [hil]; rfl
    · rintro M1 ⟨r1, r2, r3⟩
      have b1 : M1.1 0 0 = nI K.n := by rw [r3.2.2 0 (by omega)]; exact y1
      unfold f5_start_L7
      simp (disch := omega) only [sr_bnd, sr_put, sr_jn, Option.bind_some, pp_bd2, pp_ld, pp_st, pp_stB, pp_putB, pp_grd, pp_l0, pp_l1, pp_l2, pp_l3, pp_l4, pp_l5, pp_l6, pp_l60, pp_l120, pp_l200, nI_add, pp_sub, pp_dec, pp_le, pp_lt, pp_eq, pp_neg1, pp_neg2, pp_neg3, pp_neg4, pp_neg5, if_pos, if_neg, if_true, if_false, b1, Nat.le_refl]
      rw [wp_out]
      exact ⟨fun p hp => (r1 p hp).1, fun p hp => (r1 p hp).2.1, fun p hp => (r1 p hp).2.2, r2, r3⟩
  · rintro M1 ⟨r1, r2, r3, r4, r5⟩
    refine wp_bind (wp_mono (Ytrap (fl := (FS.new K).fl) (ct := fun _ => none) (st := 0) hW (r5.ry hY) (SOK.new.bf hW) (fun p _ k e => by cases e) r1 r3 r4) ?_)
    rintro M' ⟨c1, c2, c3⟩
    rw [wp_some]
    refine ⟨⟨by rw [c3 0 (by omega) (by omega)]; exact r4, fun k h1 h2 => absurd h2 (by show ¬ k ≤ 0; omega), fun p hp => by rw [c3 12 (by omega) (by omega)]; exact r1 p hp, fun p hp => by rw [c3 13 (by omega) (by omega)]; exact r2 p hp, c1⟩, c2.trans r5.1, fun q hq => by rw [c3 q (by omega) (by omega)]; exact r5.2.1 q hq, fun j hj => by rw [c3 0 (by omega) (by omega)]; exact r5.2.2 j hj⟩
/-- what a run at o of the class leaves alone -/
def XFr (o : Nat) (M M' : sr_M) : Prop := M'.2 = M.2 ∧ (∀ q, (q < o ∨ o + 12 < q) → M'.1 q = M.1 q)
theorem XFr.rf {o : Nat} {M : sr_M} : XFr o M M := ⟨rfl, fun _ _ => rfl⟩
theorem XFr.tr {o : Nat} {M M' M'' : sr_M} (h : XFr o M M') (h' : XFr o M' M'') : XFr o M M'' := ⟨h'.1.trans h.1, fun q hq => (h'.2 q hq).trans (h.2 q hq)⟩
theorem Xstart {K : RK} {o : Nat} {M : sr_M} (hW : WF K) (hX : RX K M) (ho : 30 ≤ o) : sr_wp (f1_start o M) (fun M' => FX K (FS.new K) o M' ∧ XFr o M M' ∧ M'.1 o 1 = 1) := by
  have hn := hW.1
  have hT := hW.2.1
  have x1 := hX.1.1
  have x4 := hX.1.2.2.2.1
  unfold f1_start
  rw [pp_putB (Or.inr rfl)]
  simp only [sr_put]
  generalize hM3 : sr_wI (sr_wI (sr_wI M o 1 1) o 2 0) o 9 0 = M3
  have k1 : M3.1 o 1 = 1 := by rw [← hM3, pp_wI3 (by omega), pp_wI3 (by omega), pp_wI2]
  have k2 : M3.1 o 2 = nI 0 := by rw [← hM3, pp_wI3 (by omega), pp_wI2]; rfl
  have k9 : M3.1 o 9 = nI 0 := by rw [← hM3, pp_wI2]; rfl
  have kf : ∀ q, q ≠ o → M3.1 q = M.1 q := fun q hq => by rw [← hM3, pp_wI1 hq, pp_wI1 hq, pp_wI1 hq]
  have k3 : M3.2 = M.2 := by rw [← hM3]; rfl
  refine wp_bind (wp_mono (Q := fun M1 => At K (FS.new K).fl (o + 3) M1 ∧ At K (fun _ => none) (o + 4) M1 ∧ At K (fun _ => none) (o + 5) M1 ∧ At K (fun _ => none) (o + 6) M1 ∧ M1.2 = M.2 ∧ ∀ q, (q < o + 3 ∨ o + 6 < q) → M1.1 q = M3.1 q) ?_ ?_)
  · refine wp_for (τ := sr_M) (fun i x => (nI i, x)) K.n (fun i M1 => (∀ p, p < i → M1.1 (o + 3) p = oI ((FS.new K).fl p) ∧ M1.1 (o + 4) p = oI none ∧ M1.1 (o + 5) p = oI none ∧ M1.1 (o + 6) p = oI none) ∧ M1.2 = M.2 ∧ ∀ q, (q < o + 3 ∨ o + 6 < q) → M1.1 q = M3.1 q) ?_ ?_ 0 M3 (Nat.zero_le _) ⟨fun p hp => absurd hp (Nat.not_lt_zero _), k3, fun _ _ => rfl⟩
    · rintro i M1 hi ⟨r1, r2, r3⟩
      have b1 : M1.1 1 0 = nI K.n := by rw [r3 1 (by omega), kf 1 (by omega)]; exact x1
      have b2 : M1.1 3 i = pp_bI (K.il i) := by rw [r3 3 (by omega), kf 3 (by omega)]; exact x4 i hi
      have key : ∀ v, v = oI ((FS.new K).fl i) → sr_wp (sr_st (nI i) 120 M1 (o + 3) v fun M9 => sr_st (nI i) 120 M9 (o + 4) (-1) fun M10 => sr_st (nI i) 120 M10 (o + 5) (-1) fun M11 => sr_st (nI i) 120 M11 (o + 6) (-1) fun M12 => some (.inl (nI i + 1, M12)) : Option ((Int32 × sr_M) ⊕ sr_M)) (sr_oc (fun t => ∃ x', t = (nI (i + 1), x') ∧ (∀ p, p < i + 1 → x'.1 (o + 3) p = oI ((FS.new K).fl p) ∧ x'.1 (o + 4) p = oI none ∧ x'.1 (o + 5) p = oI none ∧ x'.1 (o + 6) p = oI none) ∧ x'.2 = M.2 ∧ ∀ q, (q < o + 3 ∨ o + 6 < q) → x'.1 q = M3.1 q) (fun M1 => At K (FS.new K).fl (o + 3) M1 ∧ At K (fun _ => none) (o + 4) M1 ∧ At K (fun _ => none) (o + 5) M1 ∧ At K (fun _ => none) (o + 6) M1 ∧ M1.2 = M.2 ∧ ∀ q, (q < o + 3 ∨ o + 6 < q) → M1.1 q = M3.1 q)) := by
        intro v hv
        rw [pp_st (by omega) (by decide), pp_st (by omega) (by decide), pp_st (by omega) (by decide), pp_st (by omega) (by decide), wp_on]
        refine ⟨sr_wI (sr_wI (sr_wI (sr_wI M1 (o + 3) i v) (o + 4) i (-1)) (o + 5) i (-1)) (o + 6) i (-1), by rw [← nI_1], fun p hp => ?_, r2, fun q hq => by rw [pp_wI1 (by omega), pp_wI1 (by omega), pp_wI1 (by omega), pp_wI1 (by omega)]; exact r3 q hq⟩
        by_cases e : p = i
        · subst e
          refine ⟨by rw [pp_wI1 (by omega), pp_wI1 (by omega), pp_wI1 (by omega), pp_wI2]; exact hv, by rw [pp_wI1 (by omega), pp_wI1 (by omega), pp_wI2]; rfl, by rw [pp_wI1 (by omega), pp_wI2]; rfl, by rw [pp_wI2]; rfl⟩
        · have := r1 p (by omega)
          refine ⟨by rw [pp_wI1 (by omega), pp_wI1 (by omega), pp_wI1 (by omega), pp_wI3 e]; exact this.1, by rw [pp_wI1 (by omega), pp_wI1 (by omega), pp_wI3 e, pp_wI1 (by omega)]; exact this.2.1, by rw [pp_wI1 (by omega), pp_wI3 e, pp_wI1 (by omega), pp_wI1 (by omega)]; exact this.2.2.1, by rw [pp_wI3 e, pp_wI1 (by omega), pp_wI1 (by omega), pp_wI1 (by omega)]; exact this.2.2.2⟩
      unfold f1_start_L17
      simp only [sr_bnd, sr_jn, b1]
      rw [if_neg (by rw [pp_le (by omega) (by omega)]; omega), pp_ld (by omega) (by decide), b2]
      cases hil : K.il i with
      | false =>
        rw [if_pos (by decide)]
        refine key (-1) ?_
        show (-1 : Int32) = oI (if K.il i = true then some 0 else none)
        rw [hil]; rfl
      | true =>
        rw [if_neg (by decide)]
        refine key 0 ?_
        show (0 : Int32) = oI (if K.il i = true then some 0 else none)
        rw [hil]; rfl
    · rintro M1 ⟨r1, r2, r3⟩
      have b1 : M1.1 1 0 = nI K.n := by rw [r3 1 (by omega), kf 1 (by omega)]; exact x1
      unfold f1_start_L17
      simp (disch := omega) only [sr_bnd, sr_put, sr_jn, Option.bind_some, pp_bd2, pp_ld, pp_st, pp_stB, pp_putB, pp_grd, pp_l0, pp_l1, pp_l2, pp_l3, pp_l4, pp_l5, pp_l6, pp_l60, pp_l120, pp_l200, nI_add, pp_sub, pp_dec, pp_le, pp_lt, pp_eq, pp_neg1, pp_neg2, pp_neg3, pp_neg4, pp_neg5, if_pos, if_neg, if_true, if_false, b1, Nat.le_refl]
      rw [wp_out]
      exact ⟨fun p hp => (r1 p hp).1, fun p hp => (r1 p hp).2.1, fun p hp => (r1 p hp).2.2.1, fun p hp => (r1 p hp).2.2.2, r2, r3⟩
  · rintro M1 ⟨r1, r2, r3, r4, r5, r6⟩
    have hX1 : RX K M1 := hX.kept (fun q h1 h2 => by rw [r6 q (by omega), kf q (by omega)])
    have m2 : M1.1 o 2 = nI 0 := by rw [r6 o (by omega)]; exact k2
    have m9 : M1.1 o 9 = nI 0 := by rw [r6 o (by omega)]; exact k9
    refine wp_bind (wp_mono (XcutOff (o := o) (st := 0) (fl := (FS.new K).fl) (ct := fun _ => none) (th := fun _ => 0) hW hX1 ho (SOK.new.bf hW) (fun p k e => by cases e) r1 r3 m2 (Nat.zero_le _) (fun k h1 h2 => absurd h2 (by omega)) ⟨r4, m9, fun l hl => absurd hl (Nat.not_lt_zero _)⟩) ?_)
    rintro M' ⟨c1, c2, c3, c4, c5⟩
    rw [wp_some]
    refine ⟨⟨(c5 2 (by omega)).trans m2, fun k h1 h2 => absurd h2 (by show ¬ k ≤ 0; omega), fun p k hp h1 e => absurd (SOK.new.1 p k e) (by show ¬ k ≤ 0; omega), fun p hp => by rw [c4 _ (by omega) (by omega)]; exact r1 p hp, fun p hp => by rw [c4 _ (by omega) (by omega)]; exact r2 p hp, c1, c2⟩, ⟨c3.trans r5, fun q hq => by rw [c4 _ (by omega) (by omega), r6 q (by omega), kf q (by omega)]⟩, by rw [c5 1 (by omega), r6 o (by omega)]; exact k1⟩
