/-! TAKING STEPS BACK in the class: its lakes -/
theorem lks_back {K : RK} (hW : WF K) {S : FS} (hS : SOK K S) {s : Nat} (hs : s ≤ S.st) :
    lks K (cutb S.ct S.ct s) (s + 1) = lks K S.ct (s + 1) ∧ (lks K S.ct (s + 1)).2 ≤ (lks K S.ct (S.st + 1)).2 ∧
    (∀ x l, (lks K S.ct (s + 1)).1 x = some l → (lks K S.ct (S.st + 1)).1 x = some l) ∧
    (∀ x l, (lks K S.ct (S.st + 1)).1 x = some l → (lks K S.ct (s + 1)).1 x = some l ∨ ((lks K S.ct (s + 1)).2 ≤ l ∧ ∃ k, s + 1 ≤ k ∧ S.ct x = some k)) ∧
    (∀ x l, (lks K S.ct (s + 1)).1 x = some l → l < (lks K S.ct (s + 1)).2 ∧ ∃ k, k ≤ s ∧ S.ct x = some k) ∧
    (∀ p, p < K.n → cutb (lks K S.ct (S.st + 1)).1 S.ct s p = (lks K S.ct (s + 1)).1 p) := by
  have e1 : lks K (cutb S.ct S.ct s) (s + 1) = lks K S.ct (s + 1) := lks_congr hW (s + 1) (fun k hk x => ⟨fun e => (cutb_self.mp e).1, fun e => cutb_self.mpr ⟨e, by omega⟩⟩)
  obtain ⟨o1, o2, o3⟩ := lks_old (K := K) hW (ct := S.ct) (s := s + 1) (S.st - s)
  rw [show s + 1 + (S.st - s) = S.st + 1 by omega] at o1 o2 o3
  have I1 := LI.lks (K := K) hW (ct := S.ct) (s + 1)
  have I2 := LI.lks (K := K) hW (ct := S.ct) (S.st + 1)
  have I3 := LI.lks (K := K) hW (ct := cutb S.ct S.ct s) (s + 1)
  rw [e1] at I3
  have k5 : ∀ x l, (lks K S.ct (s + 1)).1 x = some l → l < (lks K S.ct (s + 1)).2 ∧ ∃ k, k ≤ s ∧ S.ct x = some k := fun x l e => by
    obtain ⟨h1, k, -, h3⟩ := I3.2.1 x l e
    exact ⟨h1, k, (cutb_self.mp h3).2, (cutb_self.mp h3).1⟩
  refine ⟨e1, o1, o2, o3, k5, fun p hp => ?_⟩
  cases ec : S.ct p with
  | none =>
    rw [cutb_le (fun k w => by rw [ec] at w; cases w)]
    have a1 : (lks K S.ct (S.st + 1)).1 p = none := by
      cases q : (lks K S.ct (S.st + 1)).1 p with
      | none => rfl
      | some l => obtain ⟨-, k, -, h⟩ := I2.2.1 p l q; rw [ec] at h; cases h
    have a2 : (lks K S.ct (s + 1)).1 p = none := by
      cases q : (lks K S.ct (s + 1)).1 p with
      | none => rfl
      | some l => obtain ⟨-, k, -, h⟩ := I1.2.1 p l q; rw [ec] at h; cases h
    rw [a1, a2]
  | some k =>
    by_cases hk : k ≤ s
    · rw [cutb_le (fun j w => by rw [ec] at w; cases w; exact hk)]
      cases q : (lks K S.ct (s + 1)).1 p with
      | none => exact absurd q (I1.2.2.2.2.1 p hp k (by omega) ec)
      | some l => exact o2 p l q
    · rw [cutb_gt ec (by omega)]
      cases q : (lks K S.ct (s + 1)).1 p with
      | none => rfl
      | some l =>
        obtain ⟨-, j, hj, h⟩ := k5 p l q
        rw [ec] at h; cases h; exact absurd hj hk
/-- the step of a lake that stays, and of one that goes -/
theorem lake_step {K : RK} (hW : WF K) {S : FS} (hS : SOK K S) {s : Nat} (hs : s ≤ S.st) {p l k : Nat} (hp : (lks K S.ct (S.st + 1)).1 p = some l) (hk : S.ct p = some k) : (l < (lks K S.ct (s + 1)).2 ↔ k ≤ s) := by
  obtain ⟨e1, e2, e3, e4, e5, e6⟩ := lks_back hW hS hs
  have I1 := LI.lks (K := K) hW (ct := S.ct) (s + 1)
  have I2 := LI.lks (K := K) hW (ct := S.ct) (S.st + 1)
  constructor
  · intro hl
    obtain ⟨x, hx, ex, -⟩ := I1.2.2.2.2.2.1 l hl
    obtain ⟨-, j, hj, ej⟩ := e5 x l ex
    have lt : l < (lks K S.ct (S.st + 1)).2 := Nat.lt_of_lt_of_le hl e2
    obtain ⟨p0, -, -, h0⟩ := I2.2.2.2.2.2.1 l lt
    have a := (h0 p hp).2
    have b := (h0 x (e3 x l ex)).2
    rw [hk] at a; rw [ej, ← a] at b; cases b; exact hj
  · intro h
    rcases e4 p l hp with q | ⟨-, j, hj, ej⟩
    · exact (e5 p l q).1
    · rw [hk] at ej; cases ej; omega
theorem LX.back {K : RK} (hW : WF K) {S : FS} (hS : SOK K S) {s o : Nat} (hs : s ≤ S.st) {M M' : sr_M} (h : LX K S.ct S.th (lks K S.ct (S.st + 1)).1 (lks K S.ct (S.st + 1)).2 o M) (h6 : At K (cutb (lks K S.ct (S.st + 1)).1 S.ct s) (o + 6) M') (h9 : M'.1 o 9 = nI (lks K S.ct (s + 1)).2) (hf : ∀ q, o + 7 ≤ q → q ≤ o + 10 → M'.1 q = M.1 q) :
    LX K (cutb S.ct S.ct s) S.th (lks K (cutb S.ct S.ct s) (s + 1)).1 (lks K (cutb S.ct S.ct s) (s + 1)).2 o M' := by
  obtain ⟨e1, e2, e3, e4, e5, e6⟩ := lks_back hW hS hs
  rw [e1]
  refine ⟨fun p hp => by rw [h6 p hp, e6 p hp], h9, fun l hl => ?_⟩
  obtain ⟨p, k, a1, a2, a3, a4, a5, a6, a7, a8⟩ := h.2.2 l (Nat.lt_of_lt_of_le hl e2)
  have hk : k ≤ s := (lake_step hW hS hs a2 a4).mp hl
  have iff : ∀ x, (lks K S.ct (s + 1)).1 x = some l ↔ (lks K S.ct (S.st + 1)).1 x = some l := fun x => by
    refine ⟨e3 x l, fun q => ?_⟩
    rcases e4 x l q with w | ⟨w, -⟩
    · exact w
    · omega
  refine ⟨p, k, a1, (iff p).mpr a2, fun q e => a3 q ((iff q).mp e), cutb_self.mpr ⟨a4, hk⟩, by rw [hf _ (by omega) (by omega)]; exact a5, ?_, by rw [hf _ (by omega) (by omega)]; exact a7, by rw [hf _ (by omega) (by omega)]; exact a8⟩
  rw [hf _ (by omega) (by omega), a6]
  unfold lcnt
  rw [cn_congr (fun i _ => ?_)]
  by_cases q : (lks K S.ct (s + 1)).1 i = some l
  · rw [decide_eq_true q, decide_eq_true ((iff i).mp q)]
  · rw [decide_eq_false q, decide_eq_false (fun w => q ((iff i).mpr w))]
theorem Xback {K : RK} {S : FS} {o s : Nat} {M : sr_M} (hW : WF K) (hX : RX K M) (ho : 30 ≤ o) (hS : SOK K S) (hs : s ≤ S.st) (hF : FX K S o M) :
    sr_wp (f1_takeBackTo o (nI s) M) (fun M' => FX K (S.back s) o M' ∧ XFr o M M' ∧ M'.1 o 1 = M.1 o 1) := by
  have hn := hW.1
  have x1 := hX.1.1
  have hst := hS.le
  have bf := hS.bf hW
  have bc := hS.bc hW
  obtain ⟨f1, f2, f3, f4, f5, f6, f7⟩ := hF
  have I2 := LI.lks (K := K) hW (ct := S.ct) (S.st + 1)
  have hcl := I2.c_le
  obtain ⟨e1, e2, e3, e4, e5, e6⟩ := lks_back hW hS hs
  unfold f1_takeBackTo
  simp only [sr_put]
  generalize hlo : (lks K S.ct (S.st + 1)).1 = lo at f7 e6 e3 e4
  generalize hM0 : sr_wI M o 2 (nI s) = M0
  have z0 : ∀ q, q ≠ o → M0.1 q = M.1 q := fun q hq => by rw [← hM0, pp_wI1 hq]
  have zj : ∀ j, j ≠ 2 → M0.1 o j = M.1 o j := fun j hj => by rw [← hM0, pp_wI3 hj]
  have z2 : M0.1 o 2 = nI s := by rw [← hM0, pp_wI2]
  have zm : M0.2 = M.2 := by rw [← hM0]; rfl
  refine wp_bind (wp_mono (Q := fun M1 => At K (cutb S.fl S.fl s) (o + 3) M1 ∧ At K (cutb S.fb S.fl s) (o + 4) M1 ∧ At K (cutb S.ct S.ct s) (o + 5) M1 ∧ At K (cutb lo S.ct s) (o + 6) M1 ∧ M1.2 = M.2 ∧ ∀ q, (q < o + 3 ∨ o + 6 < q) → M1.1 q = M0.1 q) ?_ ?_)
  · refine wp_for (τ := sr_M) (fun i x => (nI i, x)) K.n (fun i M1 => (∀ p, p < K.n → M1.1 (o + 3) p = oI (if p < i then cutb S.fl S.fl s p else S.fl p) ∧ M1.1 (o + 4) p = oI (if p < i then cutb S.fb S.fl s p else S.fb p) ∧ M1.1 (o + 5) p = oI (if p < i then cutb S.ct S.ct s p else S.ct p) ∧ M1.1 (o + 6) p = oI (if p < i then cutb lo S.ct s p else lo p)) ∧ M1.2 = M.2 ∧ ∀ q, (q < o + 3 ∨ o + 6 < q) → M1.1 q = M0.1 q) ?_ ?_ 0 M0 (Nat.zero_le _) ⟨fun p hp => ⟨by rw [z0 _ (by omega), if_neg (by omega)]; exact f4 p hp, by rw [z0 _ (by omega), if_neg (by omega)]; exact f5 p hp, by rw [z0 _ (by omega), if_neg (by omega)]; exact f6 p hp, by rw [z0 _ (by omega), if_neg (by omega)]; exact f7.1 p hp⟩, zm, fun _ _ => rfl⟩
    · rintro i M1 hi ⟨r1, r2, r3⟩
      have b1 : M1.1 1 0 = nI K.n := by rw [r3 1 (by omega), z0 1 (by omega)]; exact x1
      have ri := r1 i hi
      rw [if_neg (Nat.lt_irrefl i), if_neg (Nat.lt_irrefl i), if_neg (Nat.lt_irrefl i), if_neg (Nat.lt_irrefl i)] at ri
      have fin : ∀ M2, M2.1 (o + 3) i = oI (cutb S.fl S.fl s i) → M2.1 (o + 4) i = oI (cutb S.fb S.fl s i) → M2.1 (o + 5) i = oI (cutb S.ct S.ct s i) → M2.1 (o + 6) i = oI (cutb lo S.ct s i) → (∀ q p, p ≠ i → M2.1 q p = M1.1 q p) → (∀ q, (q < o + 3 ∨ o + 6 < q) → M2.1 q = M1.1 q) → M2.2 = M1.2 → sr_wp (some (.inl (nI i + 1, M2)) : Option ((Int32 × sr_M) ⊕ sr_M)) (sr_oc (fun t => ∃ x', t = (nI (i + 1), x') ∧ (∀ p, p < K.n → x'.1 (o + 3) p = oI (if p < i + 1 then cutb S.fl S.fl s p else S.fl p) ∧ x'.1 (o + 4) p = oI (if p < i + 1 then cutb S.fb S.fl s p else S.fb p) ∧ x'.1 (o + 5) p = oI (if p < i + 1 then cutb S.ct S.ct s p else S.ct p) ∧ x'.1 (o + 6) p = oI (if p < i + 1 then cutb lo S.ct s p else lo p)) ∧ x'.2 = M.2 ∧ ∀ q, (q < o + 3 ∨ o + 6 < q) → x'.1 q = M0.1 q) (fun M1 => At K (cutb S.fl S.fl s) (o + 3) M1 ∧ At K (cutb S.fb S.fl s) (o + 4) M1 ∧ At K (cutb S.ct S.ct s) (o + 5) M1 ∧ At K (cutb lo S.ct s) (o + 6) M1 ∧ M1.2 = M.2 ∧ ∀ q, (q < o + 3 ∨ o + 6 < q) → M1.1 q = M0.1 q)) := by
        intro M2 e1 e2 e3 e4 e5 e6 e7
        rw [wp_on]
        refine ⟨M2, by rw [← nI_1], fun p hp => ?_, e7.trans r2, fun q hq => (e6 q hq).trans (r3 q hq)⟩
        by_cases e : p = i
        · subst e
          rw [if_pos (by omega), if_pos (by omega), if_pos (by omega), if_pos (by omega)]
          exact ⟨e1, e2, e3, e4⟩
        · have rp := r1 p hp
          rw [e5 _ p e, e5 _ p e, e5 _ p e, e5 _ p e]
          by_cases l : p < i
          · rw [if_pos l, if_pos l, if_pos l, if_pos l] at rp
            rw [if_pos (by omega), if_pos (by omega), if_pos (by omega), if_pos (by omega)]
            exact rp
          · rw [if_neg l, if_neg l, if_neg l, if_neg l] at rp
            rw [if_neg (by omega), if_neg (by omega), if_neg (by omega), if_neg (by omega)]
            exact rp
      have key : ∀ M2, M2.1 (o + 3) i = oI (cutb S.fl S.fl s i) → M2.1 (o + 4) i = oI (cutb S.fb S.fl s i) → (∀ q p, p ≠ i → M2.1 q p = M1.1 q p) → (∀ q, q ≠ o + 3 → q ≠ o + 4 → M2.1 q = M1.1 q) → M2.2 = M1.2 → sr_wp (sr_ld (nI i) 120 (M2.1 (o + 5)) fun v9 => if v9 ≤ nI s then (some (.inl ((nI i + 1), M2))) else (sr_st (nI i) 120 M2 (o + 5) (-1) fun M10 => sr_st (nI i) 120 M10 (o + 6) (-1) fun M11 => some (.inl ((nI i + 1), M11))) : Option ((Int32 × sr_M) ⊕ sr_M)) (sr_oc (fun t => ∃ x', t = (nI (i + 1), x') ∧ (∀ p, p < K.n → x'.1 (o + 3) p = oI (if p < i + 1 then cutb S.fl S.fl s p else S.fl p) ∧ x'.1 (o + 4) p = oI (if p < i + 1 then cutb S.fb S.fl s p else S.fb p) ∧ x'.1 (o + 5) p = oI (if p < i + 1 then cutb S.ct S.ct s p else S.ct p) ∧ x'.1 (o + 6) p = oI (if p < i + 1 then cutb lo S.ct s p else lo p)) ∧ x'.2 = M.2 ∧ ∀ q, (q < o + 3 ∨ o + 6 < q) → x'.1 q = M0.1 q) (fun M1 => At K (cutb S.fl S.fl s) (o + 3) M1 ∧ At K (cutb S.fb S.fl s) (o + 4) M1 ∧ At K (cutb S.ct S.ct s) (o + 5) M1 ∧ At K (cutb lo S.ct s) (o + 6) M1 ∧ M1.2 = M.2 ∧ ∀ q, (q < o + 3 ∨ o + 6 < q) → M1.1 q = M0.1 q)) := by
        intro M2 e1 e2 e5 e6 e7
        have c5 : M2.1 (o + 5) i = oI (S.ct i) := by rw [e6 _ (by omega) (by omega)]; exact ri.2.2.1
        have c6 : M2.1 (o + 6) i = oI (lo i) := by rw [e6 _ (by omega) (by omega)]; exact ri.2.2.2
        rw [pp_ld (by omega) (by decide), c5]
        by_cases l : ∀ j, S.ct i = some j → j ≤ s
        · rw [if_pos (by rw [oI_le (bc i hi) (by omega)]; exact l)]
          exact fin M2 e1 e2 (by rw [cutb_le l]; exact c5) (by rw [cutb_le l]; exact c6) e5 (fun q hq => e6 q (by omega) (by omega)) e7
        · rw [if_neg (by rw [oI_le (bc i hi) (by omega)]; exact l), pp_st (by omega) (by decide), pp_st (by omega) (by decide)]
          cases ec : S.ct i with
          | none => exact absurd (fun j w => by rw [ec] at w; cases w) l
          | some k =>
            have : s < k := by
              by_cases q : k ≤ s
              · exact absurd (fun j w => by rw [ec] at w; cases w; exact q) l
              · omega
            refine fin _ (by rw [pp_wI1 (by omega), pp_wI1 (by omega)]; exact e1) (by rw [pp_wI1 (by omega), pp_wI1 (by omega)]; exact e2) (by rw [pp_wI1 (by omega), pp_wI2, cutb_gt ec this]; rfl) (by rw [pp_wI2, cutb_gt ec this]; rfl) (fun q p hp => ?_) (fun q hq => by rw [pp_wI1 (by omega), pp_wI1 (by omega)]; exact e6 q (by omega) (by omega)) e7
            rw [pp_wI, if_neg (fun w => hp w.2), pp_wI, if_neg (fun w => hp w.2)]
            exact e5 q p hp
      unfold f1_takeBackTo_L7
      simp only [sr_bnd, sr_jn, b1]
      rw [if_neg (by rw [pp_le (by omega) (by omega)]; omega), pp_ld (by omega) (by decide), ri.1]
      by_cases l : ∀ j, S.fl i = some j → j ≤ s
      · rw [if_pos (by rw [oI_le (bf i hi) (by omega)]; exact l)]
        exact key M1 (by rw [ri.1, cutb_le l]) (by rw [ri.2.1, cutb_le l]) (fun q p hp => rfl) (fun _ _ _ => rfl) rfl
      · rw [if_neg (by rw [oI_le (bf i hi) (by omega)]; exact l), pp_st (by omega) (by decide), pp_st (by omega) (by decide)]
        cases ec : S.fl i with
        | none => exact absurd (fun j w => by rw [ec] at w; cases w) l
        | some k =>
          have : s < k := by
            by_cases q : k ≤ s
            · exact absurd (fun j w => by rw [ec] at w; cases w; exact q) l
            · omega
          refine key (sr_wI (sr_wI M1 (o + 3) i (-1)) (o + 4) i (-1)) (by rw [pp_wI1 (by omega), pp_wI2, cutb_gt ec this]; rfl) (by rw [pp_wI2, cutb_gt ec this]; rfl) (fun q p hp => ?_) (fun q h1 h2 => by rw [pp_wI1 h2, pp_wI1 h1]) rfl
          rw [pp_wI, if_neg (fun w => hp w.2), pp_wI, if_neg (fun w => hp w.2)]
    · rintro M1 ⟨r1, r2, r3⟩
      have b1 : M1.1 1 0 = nI K.n := by rw [r3 1 (by omega), z0 1 (by omega)]; exact x1
      unfold f1_takeBackTo_L7
      simp only [sr_bnd, b1]
      rw [if_pos (Int32.le_refl _), wp_out]
      refine ⟨fun p hp => ?_, fun p hp => ?_, fun p hp => ?_, fun p hp => ?_, r2, r3⟩
      · have := (r1 p hp).1; rw [if_pos hp] at this; exact this
      · have := (r1 p hp).2.1; rw [if_pos hp] at this; exact this
      · have := (r1 p hp).2.2.1; rw [if_pos hp] at this; exact this
      · have := (r1 p hp).2.2.2; rw [if_pos hp] at this; exact this
  · rintro M1 ⟨g1, g2, g3, g4, g5, g6⟩
    refine wp_bind (wp_mono (Q := fun M' => M'.1 o 9 = nI (lks K S.ct (s + 1)).2 ∧ M'.2 = M1.2 ∧ (∀ q, q ≠ o → M'.1 q = M1.1 q) ∧ ∀ j, j ≠ 9 → M'.1 o j = M1.1 o j) ?_ ?_)
    · refine wp_lp (I := fun M' => ∃ c, (lks K S.ct (s + 1)).2 ≤ c ∧ c ≤ (lks K S.ct (S.st + 1)).2 ∧ M'.1 o 9 = nI c ∧ M'.2 = M1.2 ∧ (∀ q, q ≠ o → M'.1 q = M1.1 q) ∧ ∀ j, j ≠ 9 → M'.1 o j = M1.1 o j) (fun M' => (M'.1 o 9).toInt.toNat) ?_ ⟨(lks K S.ct (S.st + 1)).2, e2, Nat.le_refl _, by rw [g6 o (by omega), zj 9 (by omega)]; exact f7.2.1, rfl, fun _ _ => rfl, fun _ _ => rfl⟩
      rintro M2 ⟨c, c1, c2, c3, c4, c5, c6⟩
      unfold f1_takeBackTo_L72
      simp only [sr_bnd, c3]
      have done : c = (lks K S.ct (s + 1)).2 → sr_wp (some (.inr M2) : Option (sr_M ⊕ sr_M)) (sr_oc (fun t => (∃ c, (lks K S.ct (s + 1)).2 ≤ c ∧ c ≤ (lks K S.ct (S.st + 1)).2 ∧ t.1 o 9 = nI c ∧ t.2 = M1.2 ∧ (∀ q, q ≠ o → t.1 q = M1.1 q) ∧ ∀ j, j ≠ 9 → t.1 o j = M1.1 o j) ∧ (t.1 o 9).toInt.toNat < (nI c).toInt.toNat) (fun M' => M'.1 o 9 = nI (lks K S.ct (s + 1)).2 ∧ M'.2 = M1.2 ∧ (∀ q, q ≠ o → M'.1 q = M1.1 q) ∧ ∀ j, j ≠ 9 → M'.1 o j = M1.1 o j)) := by
        intro e
        rw [wp_out]
        exact ⟨by rw [c3, e], c4, c5, c6⟩
      by_cases c0 : c = 0
      · rw [if_pos (by rw [c0]; exact Int32.le_refl _)]
        exact done (by omega)
      · rw [if_neg (by show ¬ nI c ≤ nI 0; rw [pp_le (by omega) (by omega)]; omega)]
        obtain ⟨p, k, a1, a2, a3, a4, a5, a6, a7, a8⟩ := f7.2.2 (c - 1) (by omega)
        have hk := bc p a1 k a4
        have h7 : M2.1 (o + 7) (c - 1) = nI k := by rw [c5 _ (by omega), g6 _ (by omega), z0 _ (by omega)]; exact a5
        have ls := lake_step hW hS hs (by rw [hlo]; exact a2) a4
        rw [show (1 : Int32) = nI 1 from rfl, pp_sub (by omega), pp_ld (by omega) (by decide), h7]
        by_cases q : k ≤ s
        · rw [if_pos (by rw [pp_le hk (by omega)]; exact q)]
          have := ls.mpr q
          exact done (by omega)
        · rw [if_neg (by rw [pp_le hk (by omega)]; exact q)]
          simp only [sr_put]
          rw [wp_on]
          have : ¬ c - 1 < (lks K S.ct (s + 1)).2 := fun w => q (ls.mp w)
          refine ⟨⟨c - 1, by omega, by omega, pp_wI2, c4, fun q hq => by rw [pp_wI1 hq]; exact c5 q hq, fun j hj => by rw [pp_wI3 hj]; exact c6 j hj⟩, ?_⟩
          rw [pp_wI2, pp_toInt (by omega), pp_toInt (by omega)]
          omega
    · rintro M' ⟨h1, h2, h3, h4⟩
      rw [wp_some]
      have fr : ∀ q, (q < o ∨ o < q) → (q < o + 3 ∨ o + 6 < q) → M'.1 q = M.1 q := fun q hq hr => by rw [h3 q (by omega), g6 q hr, z0 q (by omega)]
      have f7' := f7
      rw [← hlo] at f7' g4
      refine ⟨⟨by rw [h4 2 (by omega), g6 o (by omega)]; exact z2, fun k h1 h2 => by rw [fr _ (by omega) (by omega)]; exact f2 k h1 (Nat.le_trans h2 hs), fun p k hp hk e => by rw [fr _ (by omega) (by omega)]; exact f3 p k hp hk (cutb_some e).1, fun p hp => by rw [h3 _ (by omega)]; exact g1 p hp, fun p hp => by rw [h3 _ (by omega)]; exact g2 p hp, fun p hp => by rw [h3 _ (by omega)]; exact g3 p hp, ?_⟩, ⟨h2.trans g5, fun q hq => fr q (by omega) (by omega)⟩, by rw [h4 1 (by omega), g6 o (by omega)]; exact zj 1 (by omega)⟩
      exact LX.back hW hS hs f7' (fun p hp => by rw [h3 _ (by omega)]; exact g4 p hp) h1 (fun q h1 h2 => fr q (by omega) (by omega))
