/-! JOININGS AND THE TREE -/
theorem FX.kept {K : RK} {S : FS} {o : Nat} {M M' : sr_M} (h : FX K S o M) (e : ∀ q, o ≤ q → q ≤ o + 10 → M'.1 q = M.1 q) : FX K S o M' := by
  obtain ⟨f1, f2, f3, f4, f5, f6, f7⟩ := h
  exact ⟨by rw [e o (by omega) (by omega)]; exact f1, fun k a b => by rw [e _ (by omega) (by omega)]; exact f2 k a b, fun p k a b c => by rw [e _ (by omega) (by omega)]; exact f3 p k a b c, fun p hp => by rw [e _ (by omega) (by omega)]; exact f4 p hp, fun p hp => by rw [e _ (by omega) (by omega)]; exact f5 p hp, fun p hp => by rw [e _ (by omega) (by omega)]; exact f6 p hp, f7.kept (by rw [e o (by omega) (by omega)]) (fun q a b => e q (by omega) (by omega))⟩
theorem FY.kept {K : RK} {S : FS} {M M' : sr_M} (h : FY K S M) (e0 : M'.1 0 14 = M.1 0 14) (e : ∀ q, 11 ≤ q → q ≤ 14 → M'.1 q = M.1 q) : FY K S M' := by
  obtain ⟨f1, f2, f3, f4, f5⟩ := h
  exact ⟨e0.trans f1, fun k a b => by rw [e _ (by omega) (by omega)]; exact f2 k a b, fun p hp => by rw [e _ (by omega) (by omega)]; exact f3 p hp, fun p hp => by rw [e _ (by omega) (by omega)]; exact f4 p hp, fun p hp => by rw [e _ (by omega) (by omega)]; exact f5 p hp⟩
def XWy (M M' : sr_M) : Prop := M'.2 = M.2 ∧ ∀ q, (q < 56 ∨ 60 < q) → M'.1 q = M.1 q
def YWy (M M' : sr_M) : Prop := M'.2 = M.2 ∧ ∀ q, q ≠ 20 → q ≠ 21 → M'.1 q = M.1 q
theorem XWy.rf {M : sr_M} : XWy M M := ⟨rfl, fun _ _ => rfl⟩
theorem YWy.rf {M : sr_M} : YWy M M := ⟨rfl, fun _ _ _ => rfl⟩
theorem XWy.tr {M M' M'' : sr_M} (h : XWy M M') (h' : XWy M' M'') : XWy M M'' := ⟨h'.1.trans h.1, fun q hq => (h'.2 q hq).trans (h.2 q hq)⟩
theorem YWy.tr {M M' M'' : sr_M} (h : YWy M M') (h' : YWy M' M'') : YWy M M'' := ⟨h'.1.trans h.1, fun q a b => (h'.2 q a b).trans (h.2 q a b)⟩
theorem XWy.rx {K : RK} {M M' : sr_M} (h : XWy M M') (hX : RX K M) : RX K M' := hX.kept (fun q a b => h.2 q (by omega))
theorem YWy.ry {K : RK} {M M' : sr_M} (h : YWy M M') (hY : RY K M) : RY K M' := hY.kept (by rw [h.2 0 (by omega) (by omega)]) (by rw [h.2 0 (by omega) (by omega)]) (by rw [h.2 0 (by omega) (by omega)]) (fun q a b => h.2 q (by omega) (by omega))
theorem Rel.wy {Mx My Mx' My' : sr_M} (h : Rel Mx My) (a : XWy Mx Mx') (b : YWy My My') : Rel Mx' My' := by
  obtain ⟨K, hR, hor⟩ := h
  refine ⟨K, hR.keep (fun q h1 h2 => a.2 q (by omega)) a.1 (by rw [a.2 0 (by omega)]) (a.2 61 (by omega)) (fun q h1 h2 => b.2 q (by omega) (by omega)) b.1 (fun j hj => by rw [b.2 0 (by omega) (by omega)]) (b.2 15 (by omega) (by omega)), ?_⟩
  rcases hor with ⟨h1, h2⟩ | ⟨S, o1, o2, o3, o4, o5⟩
  · exact Or.inl ⟨by rw [a.2 30 (by omega)]; exact h1, by rw [b.2 0 (by omega) (by omega)]; exact h2⟩
  · exact Or.inr ⟨S, o1, o2.kept (fun q h1 h2 => a.2 q (by omega)), o3.kept (by rw [b.2 0 (by omega) (by omega)]) (fun q h1 h2 => b.2 q (by omega) (by omega)), by rw [a.2 30 (by omega)]; exact o4, by rw [b.2 0 (by omega) (by omega)]; exact o5⟩
def mrg (s : Nat → Nat) (a b p : Nat) : Nat := if s p = a then b else s p
def PR (n : Nat) (s s' : Nat → Nat) : Prop := ∀ p q, p < n → q < n → (s p = s q ↔ s' p = s' q)
theorem PR.mg {n : Nat} {s s' : Nat → Nat} (h : PR n s s') {a b : Nat} (ha : a < n) (hb : b < n) : PR n (mrg s (s b) (s a)) (mrg s' (s' a) (s' b)) := by
  intro p q hp hq
  have h1 := h p a hp ha
  have h2 := h p b hp hb
  have h3 := h q a hq ha
  have h4 := h q b hq hb
  have h5 := h p q hp hq
  have h6 := h a b ha hb
  unfold mrg
  by_cases c1 : s p = s b <;> by_cases c2 : s q = s b <;> by_cases c3 : s' p = s' a <;> by_cases c4 : s' q = s' a <;> simp only [c1, c2, c3, c4, if_true, if_false] <;> first | omega | exact ⟨fun _ => by omega, fun _ => trivial⟩ | exact ⟨fun _ => trivial, fun _ => by omega⟩
def AtN (K : RK) (s : Nat → Nat) (pl : Nat) (M : sr_M) : Prop := ∀ p, p < K.n → M.1 pl p = nI (s p) ∧ s p < K.n
theorem Xunite {K : RK} {M : sr_M} {s : Nat → Nat} {t : Nat} (hW : WF K) (hX : RX K M) (ht : t < K.T) (hs : AtN K s 60 M) :
    ∃ M', f3_unite (nI t) M = some (pp_bI (!decide (s (K.e1 t) = s (K.e2 t))), M') ∧ AtN K (mrg s (s (K.e2 t)) (s (K.e1 t))) 60 M' ∧ XWy M M' := by
  have hn := hW.1
  have hT := hW.2.1
  have et := hW.2.2.1 t ht
  obtain ⟨xn, xT, x1, x2, x3, x4, x5⟩ := hX.1
  have s1 := hs _ et.1
  have s2 := hs _ et.2.1
  unfold f3_unite
  rw [pp_ld (by omega) (by decide), x3 t ht, pp_ld (by omega) (by decide), s1.1, pp_ld (by omega) (by decide), x4 t ht, pp_ld (by omega) (by decide), s2.1]
  by_cases q : s (K.e1 t) = s (K.e2 t)
  · rw [if_pos (by rw [q]), decide_eq_true q]
    refine ⟨M, rfl, fun p hp => ?_, XWy.rf⟩
    have : mrg s (s (K.e2 t)) (s (K.e1 t)) p = s p := by
      unfold mrg
      by_cases c : s p = s (K.e2 t)
      · rw [if_pos c, c, q]
      · rw [if_neg c]
    rw [this]; exact hs p hp
  · rw [if_neg (by rw [pp_eq (by omega) (by omega)]; exact q), decide_eq_false q]
    have key : sr_wp (sr_lp (fun z5 : Int32 × sr_M => f3_unite_L40 (nI (s (K.e1 t))) (nI (s (K.e2 t))) z5.1 z5.2) (0, M)) (fun M' => AtN K (mrg s (s (K.e2 t)) (s (K.e1 t))) 60 M' ∧ M'.2 = M.2 ∧ ∀ r, r ≠ 60 → M'.1 r = M.1 r) := by
      refine wp_for (τ := sr_M) (fun i x => (nI i, x)) K.n (fun i M1 => (∀ p, p < K.n → M1.1 60 p = nI (if p < i then mrg s (s (K.e2 t)) (s (K.e1 t)) p else s p)) ∧ M1.2 = M.2 ∧ ∀ r, r ≠ 60 → M1.1 r = M.1 r) ?_ ?_ 0 M (Nat.zero_le _) ⟨fun p hp => by rw [if_neg (by omega)]; exact (hs p hp).1, rfl, fun _ _ => rfl⟩
      · rintro i M1 hi ⟨g1, g2, g3⟩
        have b1 : M1.1 1 0 = nI K.n := by rw [g3 1 (by omega)]; exact xn
        have gi := g1 i hi
        rw [if_neg (Nat.lt_irrefl i)] at gi
        have si := (hs i hi).2
        unfold f3_unite_L40
        simp only [sr_bnd, b1]
        rw [if_neg (by rw [pp_le (by omega) (by omega)]; omega), pp_ld (by omega) (by decide), gi]
        by_cases c : s i = s (K.e2 t)
        · rw [if_pos (by rw [c]), pp_st (by omega) (by decide), wp_on]
          refine ⟨sr_wI M1 60 i (nI (s (K.e1 t))), by rw [nI_1], fun p hp => ?_, g2, fun r hr => by rw [pp_wI1 hr]; exact g3 r hr⟩
          by_cases e : p = i
          · rw [e, pp_wI2, if_pos (by omega)]; unfold mrg; rw [if_pos c]
          · rw [pp_wI3 e, g1 p hp]
            by_cases l : p < i
            · rw [if_pos l, if_pos (by omega)]
            · rw [if_neg l, if_neg (by omega)]
        · rw [if_neg (by rw [pp_eq (by omega) (by omega)]; exact c), wp_on]
          refine ⟨M1, by rw [nI_1], fun p hp => ?_, g2, g3⟩
          rw [g1 p hp]
          by_cases e : p = i
          · rw [e, if_neg (Nat.lt_irrefl i), if_pos (by omega)]; unfold mrg; rw [if_neg c]
          · by_cases l : p < i
            · rw [if_pos l, if_pos (by omega)]
            · rw [if_neg l, if_neg (by omega)]
      · rintro M1 ⟨g1, g2, g3⟩
        have b1 : M1.1 1 0 = nI K.n := by rw [g3 1 (by omega)]; exact xn
        unfold f3_unite_L40
        simp only [sr_bnd, b1]
        rw [if_pos (Int32.le_refl _), wp_out]
        refine ⟨fun p hp => ⟨?_, ?_⟩, g2, g3⟩
        · rw [g1 p hp, if_pos hp]
        · unfold mrg
          by_cases c : s p = s (K.e2 t)
          · rw [if_pos c]; exact s1.2
          · rw [if_neg c]; exact (hs p hp).2
    obtain ⟨M', e, k1, k2, k3⟩ := key
    rw [e]
    exact ⟨M', rfl, k1, k2, fun r hr => k3 r (by omega)⟩
theorem Ytie {K : RK} {M : sr_M} {s : Nat → Nat} {t : Nat} (hW : WF K) (hY : RY K M) (ht : t < K.T) (hs : AtN K s 21 M) :
    ∃ M', f5_tie (nI t) M = some (pp_bI (!decide (s (K.e1 t) = s (K.e2 t))), M') ∧ AtN K (mrg s (s (K.e1 t)) (s (K.e2 t))) 21 M' ∧ YWy M M' := by
  have hn := hW.1
  have hT := hW.2.1
  have et := hW.2.2.1 t ht
  obtain ⟨yn, y2, y3, y4, y5, y6, y7, y8, y9⟩ := hY
  have s1 := hs _ et.1
  have s2 := hs _ et.2.1
  unfold f5_tie
  rw [pp_ld (by omega) (by decide), y5 t ht, pp_ld (by omega) (by decide), s1.1, pp_ld (by omega) (by decide), y6 t ht, pp_ld (by omega) (by decide), s2.1]
  have key : sr_wp (sr_lp (fun z5 : Int32 × sr_M => f5_tie_L27 (nI (s (K.e1 t))) (nI (s (K.e2 t))) z5.1 z5.2) (0, M)) (fun M' => AtN K (mrg s (s (K.e1 t)) (s (K.e2 t))) 21 M' ∧ M'.2 = M.2 ∧ ∀ r, r ≠ 21 → M'.1 r = M.1 r) := by
    refine wp_for (τ := sr_M) (fun i x => (nI i, x)) K.n (fun i M1 => (∀ p, p < K.n → M1.1 21 p = nI (if p < i then mrg s (s (K.e1 t)) (s (K.e2 t)) p else s p)) ∧ M1.2 = M.2 ∧ ∀ r, r ≠ 21 → M1.1 r = M.1 r) ?_ ?_ 0 M (Nat.zero_le _) ⟨fun p hp => by rw [if_neg (by omega)]; exact (hs p hp).1, rfl, fun _ _ => rfl⟩
    · rintro i M1 hi ⟨g1, g2, g3⟩
      have b1 : M1.1 0 0 = nI K.n := by rw [g3 0 (by omega)]; exact yn
      have gi := g1 i hi
      rw [if_neg (Nat.lt_irrefl i)] at gi
      have si := (hs i hi).2
      have put : ∀ v, v = mrg s (s (K.e1 t)) (s (K.e2 t)) i → sr_wp (sr_st (nI i) 120 M1 21 (nI v) fun M12 => some (.inl (nI i + 1, M12)) : Option ((Int32 × sr_M) ⊕ sr_M)) (sr_oc (fun y => ∃ x', y = (nI (i + 1), x') ∧ (∀ p, p < K.n → x'.1 21 p = nI (if p < i + 1 then mrg s (s (K.e1 t)) (s (K.e2 t)) p else s p)) ∧ x'.2 = M.2 ∧ ∀ r, r ≠ 21 → x'.1 r = M.1 r) (fun M' => AtN K (mrg s (s (K.e1 t)) (s (K.e2 t))) 21 M' ∧ M'.2 = M.2 ∧ ∀ r, r ≠ 21 → M'.1 r = M.1 r)) := by
        intro v hv
        rw [pp_st (by omega) (by decide), wp_on]
        refine ⟨sr_wI M1 21 i (nI v), by rw [nI_1], fun p hp => ?_, g2, fun r hr => by rw [pp_wI1 hr]; exact g3 r hr⟩
        by_cases e : p = i
        · rw [e, pp_wI2, if_pos (by omega), hv]
        · rw [pp_wI3 e, g1 p hp]
          by_cases l : p < i
          · rw [if_pos l, if_pos (by omega)]
          · rw [if_neg l, if_neg (by omega)]
      unfold f5_tie_L27
      simp only [sr_bnd, sr_jn, b1]
      rw [if_neg (by rw [pp_le (by omega) (by omega)]; omega), pp_ld (by omega) (by decide), gi]
      by_cases c : s i = s (K.e1 t)
      · rw [if_pos (by rw [c])]
        exact put _ (by unfold mrg; rw [if_pos c])
      · rw [if_neg (by rw [pp_eq (by omega) (by omega)]; exact c), pp_ld (by omega) (by decide), gi]
        exact put _ (by unfold mrg; rw [if_neg c])
    · rintro M1 ⟨g1, g2, g3⟩
      have b1 : M1.1 0 0 = nI K.n := by rw [g3 0 (by omega)]; exact yn
      unfold f5_tie_L27
      simp only [sr_bnd, b1]
      rw [if_pos (Int32.le_refl _), wp_out]
      refine ⟨fun p hp => ⟨?_, ?_⟩, g2, g3⟩
      · rw [g1 p hp, if_pos hp]
      · unfold mrg
        by_cases c : s p = s (K.e1 t)
        · rw [if_pos c]; exact s2.2
        · rw [if_neg c]; exact (hs p hp).2
  obtain ⟨M', e, k1, k2, k3⟩ := key
  rw [e, Option.bind_some]
  refine ⟨M', ?_, k1, k2, fun r h1 h2 => k3 r h2⟩
  by_cases q : s (K.e1 t) = s (K.e2 t)
  · rw [if_pos (by rw [q]), decide_eq_true q]; rfl
  · rw [if_neg (by rw [pp_eq (by omega) (by omega)]; exact q), decide_eq_false q]; rfl
theorem Xstand {K : RK} {M : sr_M} (hW : WF K) (hX : RX K M) : ∃ M', f3_stand M = some M' ∧ AtN K (fun p => p) 60 M' ∧ XWy M M' := by
  have hn := hW.1
  have xn := hX.1.1
  have key : sr_wp (f3_stand M) (fun M' => AtN K (fun p => p) 60 M' ∧ M'.2 = M.2 ∧ ∀ r, r ≠ 60 → M'.1 r = M.1 r) := by
    unfold f3_stand
    refine wp_bind (wp_mono (Q := fun M' => AtN K (fun p => p) 60 M' ∧ M'.2 = M.2 ∧ ∀ r, r ≠ 60 → M'.1 r = M.1 r) ?_ (fun M' h => by rw [wp_some]; exact h))
    refine wp_for (τ := sr_M) (fun i x => (nI i, x)) K.n (fun i M1 => (∀ p, p < i → M1.1 60 p = nI p) ∧ M1.2 = M.2 ∧ ∀ r, r ≠ 60 → M1.1 r = M.1 r) ?_ ?_ 0 M (Nat.zero_le _) ⟨fun p hp => absurd hp (Nat.not_lt_zero _), rfl, fun _ _ => rfl⟩
    · rintro i M1 hi ⟨g1, g2, g3⟩
      have b1 : M1.1 1 0 = nI K.n := by rw [g3 1 (by omega)]; exact xn
      unfold f3_stand_L2
      simp only [sr_bnd, b1]
      rw [if_neg (by rw [pp_le (by omega) (by omega)]; omega), pp_st (by omega) (by decide), wp_on]
      refine ⟨sr_wI M1 60 i (nI i), by rw [nI_1], fun p hp => ?_, g2, fun r hr => by rw [pp_wI1 hr]; exact g3 r hr⟩
      by_cases e : p = i
      · rw [e, pp_wI2]
      · rw [pp_wI3 e]; exact g1 p (by omega)
    · rintro M1 ⟨g1, g2, g3⟩
      have b1 : M1.1 1 0 = nI K.n := by rw [g3 1 (by omega)]; exact xn
      unfold f3_stand_L2
      simp only [sr_bnd, b1]
      rw [if_pos (Int32.le_refl _), wp_out]
      exact ⟨fun p hp => ⟨g1 p hp, hp⟩, g2, g3⟩
  obtain ⟨M', e, k1, k2, k3⟩ := key
  exact ⟨M', e, k1, k2, fun r hr => k3 r (by omega)⟩
theorem Yapart {K : RK} {M : sr_M} (hW : WF K) (hY : RY K M) : ∃ M', f5_apart M = some M' ∧ AtN K (fun p => p) 21 M' ∧ YWy M M' := by
  have hn := hW.1
  have yn := hY.1
  have key : sr_wp (f5_apart M) (fun M' => AtN K (fun p => p) 21 M' ∧ M'.2 = M.2 ∧ ∀ r, r ≠ 21 → M'.1 r = M.1 r) := by
    unfold f5_apart
    refine wp_bind (wp_mono (Q := fun M' => AtN K (fun p => p) 21 M' ∧ M'.2 = M.2 ∧ ∀ r, r ≠ 21 → M'.1 r = M.1 r) ?_ (fun M' h => by rw [wp_some]; exact h))
    refine wp_for (τ := sr_M) (fun i x => (nI i, x)) K.n (fun i M1 => (∀ p, p < i → M1.1 21 p = nI p) ∧ M1.2 = M.2 ∧ ∀ r, r ≠ 21 → M1.1 r = M.1 r) ?_ ?_ 0 M (Nat.zero_le _) ⟨fun p hp => absurd hp (Nat.not_lt_zero _), rfl, fun _ _ => rfl⟩
    · rintro i M1 hi ⟨g1, g2, g3⟩
      have b1 : M1.1 0 0 = nI K.n := by rw [g3 0 (by omega)]; exact yn
      unfold f5_apart_L2
      simp only [sr_bnd, b1]
      rw [if_neg (by rw [pp_le (by omega) (by omega)]; omega), pp_st (by omega) (by decide), wp_on]
      refine ⟨sr_wI M1 21 i (nI i), by rw [nI_1], fun p hp => ?_, g2, fun r hr => by rw [pp_wI1 hr]; exact g3 r hr⟩
      by_cases e : p = i
      · rw [e, pp_wI2]
      · rw [pp_wI3 e]; exact g1 p (by omega)
    · rintro M1 ⟨g1, g2, g3⟩
      have b1 : M1.1 0 0 = nI K.n := by rw [g3 0 (by omega)]; exact yn
      unfold f5_apart_L2
      simp only [sr_bnd, b1]
      rw [if_pos (Int32.le_refl _), wp_out]
      exact ⟨fun p hp => ⟨g1 p hp, hp⟩, g2, g3⟩
  obtain ⟨M', e, k1, k2, k3⟩ := key
  exact ⟨M', e, k1, k2, fun r h1 h2 => k3 r h2⟩
