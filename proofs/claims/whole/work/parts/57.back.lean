/-! TAKING STEPS BACK, on both sides -/
def cutb (f g : Nat → Option Nat) (s p : Nat) : Option Nat := match g p with
  | some k => if k ≤ s then f p else none
  | none => f p
theorem cutb_le {f g : Nat → Option Nat} {s p : Nat} (h : ∀ k, g p = some k → k ≤ s) : cutb f g s p = f p := by
  unfold cutb
  cases e : g p with
  | none => rfl
  | some k => exact if_pos (h k e)
theorem cutb_gt {f g : Nat → Option Nat} {s p k : Nat} (h : g p = some k) (hk : s < k) : cutb f g s p = none := by
  unfold cutb
  rw [h]
  exact if_neg (by omega)
theorem cutb_some {f g : Nat → Option Nat} {s p t : Nat} (h : cutb f g s p = some t) : f p = some t ∧ ∀ k, g p = some k → k ≤ s := by
  cases e : g p with
  | none => rw [cutb_le (fun k q => by rw [e] at q; cases q)] at h; exact ⟨h, fun k q => by cases q⟩
  | some k =>
    by_cases q : k ≤ s
    · rw [cutb_le (fun j w => by rw [e] at w; cases w; exact q)] at h
      exact ⟨h, fun j w => by cases w; exact q⟩
    · rw [cutb_gt e (by omega)] at h; cases h
theorem cutb_self {f : Nat → Option Nat} {s p k : Nat} : cutb f f s p = some k ↔ f p = some k ∧ k ≤ s := by
  constructor
  · intro h
    have := cutb_some h
    exact ⟨this.1, this.2 k this.1⟩
  · rintro ⟨h, hk⟩
    rw [cutb_le (fun j w => by rw [h] at w; cases w; exact hk), h]
def FS.back (S : FS) (s : Nat) : FS := (s, S.th, cutb S.fl S.fl s, cutb S.fb S.fl s, cutb S.ct S.ct s)
theorem SOK.back {K : RK} {S : FS} (h : SOK K S) {s : Nat} (hs : s ≤ S.st) : SOK K (S.back s) := by
  refine ⟨fun p k e => (cutb_self.mp e).2, fun p k e => ⟨(cutb_self.mp e).2, ?_⟩, fun k h1 h2 => h.2.2.1 k h1 (Nat.le_trans h2 hs), fun p t e => h.2.2.2.1 p t (cutb_some e).1, fun k h1 h2 => ?_⟩
  · have := (h.2.1 p k (cutb_self.mp e).1).2
    show cutb S.fl S.fl s p = none
    rw [cutb_le (fun j w => by rw [this] at w; cases w), this]
  · have h2 : k ≤ s := h2
    obtain ⟨p, hp, ep, up⟩ := h.2.2.2.2 k h1 (by omega)
    exact ⟨p, hp, cutb_self.mpr ⟨ep, h2⟩, fun q e => up q (cutb_self.mp e).1⟩
theorem Yback {K : RK} {S : FS} {M : sr_M} {s : Nat} (hW : WF K) (hY : RY K M) (hS : SOK K S) (hs : s ≤ S.st) (hF : FY K S M) :
    sr_wp (sr_lp (fun z5 : Int32 × sr_M => f5_undo_L36 z5.1 z5.2) (0, sr_wI M 0 14 (nI s))) (fun M' => FY K (S.back s) M' ∧ YFr M M') := by
  have hn := hW.1
  have y1 := hY.1
  have hst := hS.le
  have bf := hS.bf hW
  have bc := hS.bc hW
  obtain ⟨f1, f2, f4, f5, f6⟩ := hF
  refine wp_for (τ := sr_M) (fun i x => (nI i, x)) K.n (fun i M1 => (∀ p, p < K.n → M1.1 12 p = oI (if p < i then cutb S.fl S.fl s p else S.fl p) ∧ M1.1 13 p = oI (if p < i then cutb S.fb S.fl s p else S.fb p) ∧ M1.1 14 p = oI (if p < i then cutb S.ct S.ct s p else S.ct p)) ∧ M1.1 0 14 = nI s ∧ (∀ k, M1.1 11 k = M.1 11 k) ∧ YFr M M1) ?_ ?_ 0 (sr_wI M 0 14 (nI s)) (Nat.zero_le _) ⟨fun p hp => ⟨by rw [pp_wI1 (by omega), if_neg (by omega)]; exact f4 p hp, by rw [pp_wI1 (by omega), if_neg (by omega)]; exact f5 p hp, by rw [pp_wI1 (by omega), if_neg (by omega)]; exact f6 p hp⟩, pp_wI2, fun k => by rw [pp_wI1 (by omega)], rfl, fun q hq => by rw [pp_wI1 (by omega)], fun j hj => by rw [pp_wI3 hj]⟩
  · rintro i M1 hi ⟨r1, r2, r3, r4⟩
    have b1 : M1.1 0 0 = nI K.n := by rw [r4.2.2 0 (by omega)]; exact y1
    have ri := r1 i hi
    rw [if_neg (Nat.lt_irrefl i), if_neg (Nat.lt_irrefl i), if_neg (Nat.lt_irrefl i)] at ri
    have key2 : ∀ M2 v, M2.1 12 i = oI (cutb S.fl S.fl s i) → M2.1 13 i = oI (cutb S.fb S.fl s i) → v = oI (cutb S.ct S.ct s i) → (∀ p, p ≠ i → M2.1 12 p = M1.1 12 p ∧ M2.1 13 p = M1.1 13 p) → (∀ q, q ≠ 12 → q ≠ 13 → M2.1 q = M1.1 q) → M2.2 = M1.2 → sr_wp (sr_st (nI i) 120 M2 14 v fun M17 => some (.inl (nI i + 1, M17)) : Option ((Int32 × sr_M) ⊕ sr_M)) (sr_oc (fun t => ∃ x', t = (nI (i + 1), x') ∧ (∀ p, p < K.n → x'.1 12 p = oI (if p < i + 1 then cutb S.fl S.fl s p else S.fl p) ∧ x'.1 13 p = oI (if p < i + 1 then cutb S.fb S.fl s p else S.fb p) ∧ x'.1 14 p = oI (if p < i + 1 then cutb S.ct S.ct s p else S.ct p)) ∧ x'.1 0 14 = nI s ∧ (∀ k, x'.1 11 k = M.1 11 k) ∧ YFr M x') (fun M' => FY K (S.back s) M' ∧ YFr M M')) := by
      intro M2 v e1 e2 e3 e4 e5 e6
      rw [pp_st (by omega) (by decide), wp_on]
      refine ⟨sr_wI M2 14 i v, by rw [← nI_1], fun p hp => ?_, by rw [pp_wI1 (by omega), e5 0 (by omega) (by omega)]; exact r2, fun k => by rw [pp_wI1 (by omega), e5 11 (by omega) (by omega)]; exact r3 k, e6.trans r4.1, fun q hq => by rw [pp_wI1 (by omega), e5 q (by omega) (by omega)]; exact r4.2.1 q hq, fun j hj => by rw [pp_wI1 (by omega), e5 0 (by omega) (by omega)]; exact r4.2.2 j hj⟩
      by_cases e : p = i
      · subst e
        rw [if_pos (by omega), if_pos (by omega), if_pos (by omega)]
        exact ⟨by rw [pp_wI1 (by omega)]; exact e1, by rw [pp_wI1 (by omega)]; exact e2, by rw [pp_wI2]; exact e3⟩
      · have rp := r1 p hp
        have e4 := e4 p e
        by_cases l : p < i
        · rw [if_pos l, if_pos l, if_pos l] at rp
          rw [if_pos (by omega), if_pos (by omega), if_pos (by omega)]
          exact ⟨by rw [pp_wI1 (by omega), e4.1]; exact rp.1, by rw [pp_wI1 (by omega), e4.2]; exact rp.2.1, by rw [pp_wI3 e, e5 14 (by omega) (by omega)]; exact rp.2.2⟩
        · rw [if_neg l, if_neg l, if_neg l] at rp
          rw [if_neg (by omega), if_neg (by omega), if_neg (by omega)]
          exact ⟨by rw [pp_wI1 (by omega), e4.1]; exact rp.1, by rw [pp_wI1 (by omega), e4.2]; exact rp.2.1, by rw [pp_wI3 e, e5 14 (by omega) (by omega)]; exact rp.2.2⟩
    have key : ∀ M2, M2.1 12 i = oI (cutb S.fl S.fl s i) → M2.1 13 i = oI (cutb S.fb S.fl s i) → (∀ p, p ≠ i → M2.1 12 p = M1.1 12 p ∧ M2.1 13 p = M1.1 13 p) → (∀ q, q ≠ 12 → q ≠ 13 → M2.1 q = M1.1 q) → M2.2 = M1.2 → sr_wp (sr_ld (nI i) 120 (M2.1 14) fun v13 => sr_bnd (M2.1 0 14) fun v14 => sr_jn (fun (v16 : Int32) => sr_st (nI i) 120 M2 14 v16 fun M17 => some (.inl ((nI i + 1), M17))) fun (K15 : Int32 → Option ((Int32 × sr_M) ⊕ (sr_M))) => if v13 ≤ v14 then (sr_ld (nI i) 120 (M2.1 14) fun v18 => K15 v18) else (K15 (-1))) (sr_oc (fun t => ∃ x', t = (nI (i + 1), x') ∧ (∀ p, p < K.n → x'.1 12 p = oI (if p < i + 1 then cutb S.fl S.fl s p else S.fl p) ∧ x'.1 13 p = oI (if p < i + 1 then cutb S.fb S.fl s p else S.fb p) ∧ x'.1 14 p = oI (if p < i + 1 then cutb S.ct S.ct s p else S.ct p)) ∧ x'.1 0 14 = nI s ∧ (∀ k, x'.1 11 k = M.1 11 k) ∧ YFr M x') (fun M' => FY K (S.back s) M' ∧ YFr M M')) := by
      intro M2 e1 e2 e4 e5 e6
      have c14 : M2.1 14 i = oI (S.ct i) := by rw [e5 14 (by omega) (by omega)]; exact ri.2.2
      have d14 : M2.1 0 14 = nI s := by rw [e5 0 (by omega) (by omega)]; exact r2
      simp only [sr_bnd, sr_jn, d14]
      rw [pp_ld (by omega) (by decide), c14]
      by_cases l : ∀ j, S.ct i = some j → j ≤ s
      · rw [if_pos (by rw [oI_le (bc i hi) (by omega)]; exact l), pp_ld (by omega) (by decide), c14]
        exact key2 M2 _ e1 e2 (by rw [cutb_le l]) e4 e5 e6
      · rw [if_neg (by rw [oI_le (bc i hi) (by omega)]; exact l)]
        refine key2 M2 _ e1 e2 ?_ e4 e5 e6
        cases ec : S.ct i with
        | none => exact absurd (fun j w => by rw [ec] at w; cases w) l
        | some k =>
          have : s < k := by
            by_cases q : k ≤ s
            · exact absurd (fun j w => by rw [ec] at w; cases w; exact q) l
            · omega
          rw [cutb_gt ec this]; rfl
    unfold f5_undo_L36
    simp only [sr_bnd, b1, r2]
    rw [if_neg (by rw [pp_le (by omega) (by omega)]; omega), pp_ld (by omega) (by decide), ri.1]
    show sr_wp (if oI (S.fl i) ≤ nI s then _ else _) _
    by_cases l : ∀ j, S.fl i = some j → j ≤ s
    · rw [if_pos (by rw [oI_le (bf i hi) (by omega)]; exact l)]
      exact key M1 (by rw [ri.1, cutb_le l]) (by rw [ri.2.1, cutb_le l]) (fun p hp => ⟨rfl, rfl⟩) (fun _ _ _ => rfl) rfl
    · rw [if_neg (by rw [oI_le (bf i hi) (by omega)]; exact l), pp_st (by omega) (by decide), pp_st (by omega) (by decide)]
      cases ec : S.fl i with
      | none => exact absurd (fun j w => by rw [ec] at w; cases w) l
      | some k =>
        have : s < k := by
          by_cases q : k ≤ s
          · exact absurd (fun j w => by rw [ec] at w; cases w; exact q) l
          · omega
        refine key (sr_wI (sr_wI M1 12 i (-1)) 13 i (-1)) (by rw [pp_wI1 (by omega), pp_wI2, cutb_gt ec this]; rfl) (by rw [pp_wI2, cutb_gt ec this]; rfl) (fun p hp => ⟨by rw [pp_wI1 (by omega), pp_wI3 hp], by rw [pp_wI3 hp, pp_wI1 (by omega)]⟩) (fun q h1 h2 => by rw [pp_wI1 h2, pp_wI1 h1]) rfl
  · rintro M1 ⟨r1, r2, r3, r4⟩
    have b1 : M1.1 0 0 = nI K.n := by rw [r4.2.2 0 (by omega)]; exact y1
    unfold f5_undo_L36
    simp only [sr_bnd, b1]
    rw [if_pos (Int32.le_refl _), wp_out]
    refine ⟨⟨r2, fun k h1 h2 => by rw [r3 k]; exact f2 k h1 (Nat.le_trans h2 hs), fun p hp => ?_, fun p hp => ?_, fun p hp => ?_⟩, r4⟩
    · have := (r1 p hp).1; rw [if_pos hp] at this; exact this
    · have := (r1 p hp).2.1; rw [if_pos hp] at this; exact this
    · have := (r1 p hp).2.2; rw [if_pos hp] at this; exact this
