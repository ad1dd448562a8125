/-! WHAT IS CUT OFF, on both sides -/
noncomputable def cutF (K : RK) (fl ct : Nat → Option Nat) (st : Nat) (p : Nat) : Option Nat :=
  @ite _ (K.tr = true ∧ fl p = none ∧ ct p = none ∧ ¬ drain K fl p) (Classical.propDecidable _) (some st) (ct p)
theorem cutF_t {K : RK} {fl ct : Nat → Option Nat} {st p : Nat} (h : K.tr = true ∧ fl p = none ∧ ct p = none ∧ ¬ drain K fl p) : cutF K fl ct st p = some st := by
  unfold cutF; rw [if_pos h]
theorem cutF_f {K : RK} {fl ct : Nat → Option Nat} {st p : Nat} (h : ¬ (K.tr = true ∧ fl p = none ∧ ct p = none ∧ ¬ drain K fl p)) : cutF K fl ct st p = ct p := by
  unfold cutF; rw [if_neg h]
theorem n_some {k : Nat} : ¬ pp_bI (some k).isSome = 0 := by show ¬ (1 : Int32) = 0; decide
def At (K : RK) (f : Nat → Option Nat) (pl : Nat) (M : sr_M) : Prop := ∀ p, p < K.n → M.1 pl p = oI (f p)
theorem YisFilled {K : RK} {M : sr_M} {fl : Nat → Option Nat} {p : Nat} (hW : WF K) (hb : bnd K fl) (hf : At K fl 12 M) (hp : p < K.n) : f5_isFilled (nI p) M = some (pp_bI (fl p).isSome) := by
  have hn := hW.1
  unfold f5_isFilled
  simp (disch := omega) only [sr_bnd, sr_put, sr_jn, Option.bind_some, pp_bd2, pp_ld, pp_st, pp_stB, pp_putB, pp_grd, pp_l0, pp_l1, pp_l2, pp_l3, pp_l4, pp_l5, pp_l6, pp_l60, pp_l120, pp_l200, nI_add, pp_sub, pp_dec, pp_le, pp_lt, pp_eq, pp_neg1, pp_neg2, pp_neg3, pp_neg4, pp_neg5, if_pos, if_neg, if_true, if_false, hf p hp, oI_lt0 (hb p hp)]
  cases fl p <;> simp [pp_bI, nI]
theorem YisFree {K : RK} {M : sr_M} {fl ct : Nat → Option Nat} {p : Nat} (hW : WF K) (hb : bnd K fl) (hc : bnd K ct) (hf : At K fl 12 M) (hg : At K ct 14 M) (hp : p < K.n) : f5_isFree (nI p) M = some (pp_bI ((fl p).isNone && (ct p).isNone)) := by
  have hn := hW.1
  unfold f5_isFree
  simp (disch := omega) only [sr_bnd, sr_put, sr_jn, Option.bind_some, pp_bd2, pp_ld, pp_st, pp_stB, pp_putB, pp_grd, pp_l0, pp_l1, pp_l2, pp_l3, pp_l4, pp_l5, pp_l6, pp_l60, pp_l120, pp_l200, nI_add, pp_sub, pp_dec, pp_le, pp_lt, pp_eq, pp_neg1, pp_neg2, pp_neg3, pp_neg4, pp_neg5, if_pos, if_neg, if_true, if_false, hf p hp, hg p hp, oI_ge0 (hb p hp), oI_ge0 (hc p hp)]
  cases fl p <;> cases ct p <;> simp [pp_bI, nI]
def MK1 (K : RK) (pl : Nat) (M : sr_M) (mk : Nat → Prop) : Prop := ∀ x, x < K.n → (M.1 pl x = 0 ∨ M.1 pl x = 1) ∧ (M.1 pl x = 1 ↔ mk x)
theorem MK1.eq {K : RK} {pl : Nat} {M : sr_M} {mk : Nat → Prop} (h : MK1 K pl M mk) {x y : Nat} (hx : x < K.n) (hy : y < K.n) : (M.1 pl x = M.1 pl y) = (mk x ↔ mk y) := by
  have a := h x hx
  have b := h y hy
  apply propext
  rw [← a.2, ← b.2]
  rcases a.1 with e | e <;> rcases b.1 with f | f <;> rw [e, f] <;> decide
theorem Ytrap {K : RK} {M : sr_M} {fl ct : Nat → Option Nat} {st : Nat} (hW : WF K) (hY : RY K M) (hb : bnd K fl) (hc : bnd K ct) (hf : At K fl 12 M) (hg : At K ct 14 M) (h14 : M.1 0 14 = nI st) :
    sr_wp (f5_trap M) (fun M' => At K (cutF K fl ct st) 14 M' ∧ M'.2 = M.2 ∧ ∀ q, q ≠ 14 → q ≠ 18 → M'.1 q = M.1 q) := by
  have hn := hW.1
  have hT := hW.2.1
  obtain ⟨y1, y2, y3, y4, y5, y6, y7, y8, y9⟩ := hY
  unfold f5_trap
  cases htr : K.tr with
  | false =>
    simp only [sr_bnd, sr_put, sr_jn, Option.bind_some, pp_bd2, pp_ld, pp_st, pp_stB, pp_putB, pp_grd, pp_l0, pp_l1, pp_l2, pp_l3, pp_l4, pp_l5, pp_l6, pp_l60, pp_l120, pp_l200, nI_add, pp_sub, pp_dec, pp_le, pp_lt, pp_eq, pp_neg1, pp_neg2, pp_neg3, pp_neg4, pp_neg5, if_pos, if_neg, if_true, if_false, y9, htr]
    rw [if_pos (by decide), wp_some]
    refine ⟨fun p hp => ?_, rfl, fun _ _ _ => rfl⟩
    rw [cutF_f (by rw [htr]; rintro ⟨h, -⟩; cases h)]
    exact hg p hp
  | true =>
    simp only [sr_bnd, sr_put, sr_jn, Option.bind_some, pp_bd2, pp_ld, pp_st, pp_stB, pp_putB, pp_grd, pp_l0, pp_l1, pp_l2, pp_l3, pp_l4, pp_l5, pp_l6, pp_l60, pp_l120, pp_l200, nI_add, pp_sub, pp_dec, pp_le, pp_lt, pp_eq, pp_neg1, pp_neg2, pp_neg3, pp_neg4, pp_neg5, if_pos, if_neg, if_true, if_false, y9, htr]
    rw [if_neg (by decide)]
    refine wp_bind (wp_mono (Q := fun M1 => MK1 K 18 M1 (seed K fl) ∧ M1.2 = M.2 ∧ ∀ q, q ≠ 18 → M1.1 q = M.1 q) ?_ ?_)
    · refine wp_for (τ := sr_M) (fun i x => (nI i, x)) K.n (fun i M1 => (∀ x, x < i → (M1.1 18 x = 0 ∨ M1.1 18 x = 1) ∧ (M1.1 18 x = 1 ↔ seed K fl x)) ∧ M1.2 = M.2 ∧ ∀ q, q ≠ 18 → M1.1 q = M.1 q) ?_ ?_ 0 M (Nat.zero_le _) ⟨fun x hx => absurd hx (Nat.not_lt_zero _), rfl, fun _ _ => rfl⟩
      · rintro i M4 hi ⟨g1, g2, g3⟩
        have b1 : M4.1 0 0 = nI K.n := by rw [g3 0 (by omega)]; exact y1
        have b2 : M4.1 1 i = nI (K.kd i) := by rw [g3 1 (by omega)]; exact y3 i hi
        have bf : At K fl 12 M4 := fun p hp => by rw [g3 12 (by omega)]; exact hf p hp
        have hk := hW.2.2.2.1 i hi
        have key : ∀ (sv : Int32), (sv = 0 ∧ ¬ seed K fl i) ∨ (sv = 1 ∧ seed K fl i) → sr_wp (sr_stB (nI i) 120 M4 18 sv fun M9 => some (.inl (nI i + 1, M9)) : Option ((Int32 × sr_M) ⊕ sr_M)) (sr_oc (fun t => ∃ x', t = (nI (i + 1), x') ∧ (∀ x, x < i + 1 → (x'.1 18 x = 0 ∨ x'.1 18 x = 1) ∧ (x'.1 18 x = 1 ↔ seed K fl x)) ∧ x'.2 = M.2 ∧ ∀ q, q ≠ 18 → x'.1 q = M.1 q) (fun M1 => MK1 K 18 M1 (seed K fl) ∧ M1.2 = M.2 ∧ ∀ q, q ≠ 18 → M1.1 q = M.1 q)) := by
          intro sv hsv
          rw [pp_stB (by omega) (by decide) (by rcases hsv with h | h; exact Or.inl h.1; exact Or.inr h.1), wp_on]
          refine ⟨sr_wI M4 18 i sv, by rw [← nI_1], fun x hx => ?_, g2, fun q hq => by rw [pp_wI1 hq]; exact g3 q hq⟩
          by_cases e : x = i
          · rw [e, pp_wI2]
            rcases hsv with ⟨rfl, h⟩ | ⟨rfl, h⟩
            · exact ⟨Or.inl rfl, fun q => absurd q (by decide), fun q => absurd q h⟩
            · exact ⟨Or.inr rfl, fun _ => h, fun _ => rfl⟩
          · rw [pp_wI3 e]
            exact g1 x (by omega)
        unfold f5_trap_L10
        simp only [sr_bnd, sr_jn, b1]
        rw [if_neg (by rw [pp_le (by omega) (by omega)]; omega), pp_ld (by omega) (by decide), b2]
        by_cases k4 : K.kd i = 4
        · rw [if_pos (by rw [k4]; rfl), YisFilled hW hb bf hi, Option.bind_some]
          cases hfl : fl i with
          | none =>
            rw [if_pos (by rfl)]
            exact key 1 (Or.inr ⟨rfl, k4, hfl⟩)
          | some k =>
            rw [if_neg n_some]
            exact key 0 (Or.inl ⟨rfl, fun h => by have := h.2; rw [hfl] at this; cases this⟩)
        · rw [if_neg (by show ¬ nI (K.kd i) = nI 4; rw [pp_eq (by omega) (by omega)]; exact k4)]
          exact key 0 (Or.inl ⟨rfl, fun h => k4 h.1⟩)
      · rintro M4 ⟨g1, g2, g3⟩
        have b1 : M4.1 0 0 = nI K.n := by rw [g3 0 (by omega)]; exact y1
        unfold f5_trap_L10
        simp (disch := omega) only [sr_bnd, sr_put, sr_jn, Option.bind_some, pp_bd2, pp_ld, pp_st, pp_stB, pp_putB, pp_grd, pp_l0, pp_l1, pp_l2, pp_l3, pp_l4, pp_l5, pp_l6, pp_l60, pp_l120, pp_l200, nI_add, pp_sub, pp_dec, pp_le, pp_lt, pp_eq, pp_neg1, pp_neg2, pp_neg3, pp_neg4, pp_neg5, if_pos, if_neg, if_true, if_false, b1, Nat.le_refl]
        rw [wp_out]
        exact ⟨g1, g2, g3⟩
    · rintro M1 ⟨g1, g2, g3⟩
      refine wp_bind (wp_mono (FIX (om := 18) (M0 := M) (cond := fun x => fl x = none) (MK := MK1 K 18) hW f5_trap_L63 f5_trap_L55 ?_ ?_ ?_ ?_ g2 g3 g1) ?_)
      · intro v M5 k1 k2
        have b1 : M5.1 0 3 = nI K.T := by rw [k2 0 (by omega)]; exact y2
        unfold f5_trap_L63
        simp (disch := omega) only [sr_bnd, sr_put, sr_jn, Option.bind_some, pp_bd2, pp_ld, pp_st, pp_stB, pp_putB, pp_grd, pp_l0, pp_l1, pp_l2, pp_l3, pp_l4, pp_l5, pp_l6, pp_l60, pp_l120, pp_l200, nI_add, pp_sub, pp_dec, pp_le, pp_lt, pp_eq, pp_neg1, pp_neg2, pp_neg3, pp_neg4, pp_neg5, if_pos, if_neg, if_true, if_false, b1, Nat.le_refl]
      · intro v t m5 M5 ht k1 k2 k3
        have b1 : M5.1 0 3 = nI K.T := by rw [k2 0 (by omega)]; exact y2
        have b3 : M5.1 3 t = nI (K.e1 t) := by rw [k2 3 (by omega)]; exact y5 t ht
        have b4 : M5.1 4 t = nI (K.e2 t) := by rw [k2 4 (by omega)]; exact y6 t ht
        have b6 : M5.1 6 t = pp_bI (!K.op t) := by rw [k2 6 (by omega)]; exact y8 t ht
        have bf : At K fl 12 M5 := fun p hp => by rw [k2 12 (by omega)]; exact hf p hp
        have et := hW.2.2.1 t ht
        have no : (¬ FE K (fun x => fl x = none) t) → f5_trap_L63 v (nI t) M5 = some (.inl (v, nI (t + 1), M5)) := by
          intro h
          unfold f5_trap_L63
          simp only [sr_bnd, sr_jn, b1]
          rw [if_neg (by rw [pp_le (by omega) (by omega)]; omega), pp_ld (by omega) (by decide), b6]
          simp only [pp_ld (show t < 300 by omega) (show 300 < 2147483648 by decide), b3, b4]
          cases hop : K.op t with
          | false => rw [if_neg (by decide)]; simp only [if_true]; rw [← nI_1]
          | true =>
            rw [if_pos (by decide), YisFilled hW hb bf et.1, Option.bind_some]
            cases h1 : fl (K.e1 t) with
            | some k => rw [if_neg n_some]; simp only [if_true]; rw [← nI_1]
            | none =>
              rw [if_pos (by rfl), YisFilled hW hb bf et.2.1, Option.bind_some]
              cases h2 : fl (K.e2 t) with
              | some k => rw [if_neg n_some]; simp only [if_true]; rw [← nI_1]
              | none => exact absurd ⟨hop, h1, h2⟩ h
        by_cases hE : FE K (fun x => fl x = none) t
        case neg => exact Or.inl ⟨fun h => absurd h hE, no hE⟩
        have hE' := hE
        obtain ⟨hop, h1, h2⟩ := hE'
        have go : f5_trap_L63 v (nI t) M5 = if M5.1 18 (K.e1 t) = M5.1 18 (K.e2 t) then some (.inl (v, nI (t + 1), M5)) else some (.inl (nI 1, nI (t + 1), sr_wI (sr_wI M5 18 (K.e1 t) 1) 18 (K.e2 t) 1)) := by
          unfold f5_trap_L63
          simp only [sr_bnd, sr_jn, b1]
          rw [if_neg (by rw [pp_le (by omega) (by omega)]; omega), pp_ld (by omega) (by decide), b6]
          simp only [pp_ld (show t < 300 by omega) (show 300 < 2147483648 by decide), b3, b4]
          rw [hop, if_pos (by decide), YisFilled hW hb bf et.1, Option.bind_some, h1, if_pos (by rfl), YisFilled hW hb bf et.2.1, Option.bind_some, h2, if_pos (by rfl)]
          have n1 : ¬ ((1 : Int32) = 0) := by decide
          simp (disch := first | omega | decide) only [sr_bnd, sr_put, sr_jn, Option.bind_some, pp_bd2, pp_ld, pp_st, pp_stB, pp_putB, pp_grd, pp_l0, pp_l1, pp_l2, pp_l3, pp_l4, pp_l5, pp_l6, pp_l60, pp_l120, pp_l200, nI_add, pp_sub, pp_dec, pp_le, pp_lt, pp_eq, pp_neg1, pp_neg2, pp_neg3, pp_neg4, pp_neg5, if_pos, if_neg, if_true, if_false, n1]
          by_cases q : M5.1 18 (K.e1 t) = M5.1 18 (K.e2 t)
          · rw [if_pos q, if_pos q]
          · rw [if_neg q, if_neg q]
            simp (disch := first | omega | decide) only [sr_bnd, sr_put, sr_jn, Option.bind_some, pp_bd2, pp_ld, pp_st, pp_stB, pp_putB, pp_grd, pp_l0, pp_l1, pp_l2, pp_l3, pp_l4, pp_l5, pp_l6, pp_l60, pp_l120, pp_l200, nI_add, pp_sub, pp_dec, pp_le, pp_lt, pp_eq, pp_neg1, pp_neg2, pp_neg3, pp_neg4, pp_neg5, if_pos, if_neg, if_true, if_false, pp_wI1, pp_wI2, pp_wI3, b4]
        have eqm := k3.eq et.1 et.2.1
        by_cases q : M5.1 18 (K.e1 t) = M5.1 18 (K.e2 t)
        · rw [if_pos q] at go
          exact Or.inl ⟨fun _ => eqm ▸ q, go⟩
        · rw [if_neg q] at go
          refine Or.inr ⟨hE, fun h => q (eqm ▸ h), _, go, rfl, fun r hr => by rw [pp_wI1 hr, pp_wI1 hr], fun x hx => ?_⟩
          by_cases x2 : x = K.e2 t
          · rw [x2, pp_wI2]; exact ⟨Or.inr rfl, fun _ => Or.inr (Or.inr rfl), fun _ => rfl⟩
          · rw [pp_wI3 x2]
            by_cases x1 : x = K.e1 t
            · rw [x1, pp_wI2]; exact ⟨Or.inr rfl, fun _ => Or.inr (Or.inl rfl), fun _ => rfl⟩
            · rw [pp_wI3 x1]
              refine ⟨(k3 x hx).1, (k3 x hx).2.trans ⟨Or.inl, fun h => ?_⟩⟩
              rcases h with h | h | h
              · exact h
              · exact absurd h x1
              · exact absurd h x2
      · intro M5
        unfold f5_trap_L55
        rw [if_pos (by rfl)]
      · intro M5 w ew
        unfold f5_trap_L55
        have n1 : ¬ (nI 1 = 0) := by decide
        rw [if_neg n1]
        exact congrArg (fun z : Option (Int32 × sr_M) => z.bind (fun w16 => some (Sum.inl (w16.1, w16.2)))) ew
      · rintro M2 ⟨mk, k1, k2, k3, k4, k5, k6⟩
        have dr : ∀ x, x < K.n → (mk x ↔ drain K fl x) := by
          intro x hx
          constructor
          · intro h
            refine k6 (fun x => x < K.n → drain K fl x) (fun x h hx => ⟨x, hx, h, Rch.rf⟩) (fun t ht hE => ?_) x h hx
            have et := hW.2.2.1 t ht
            constructor
            · intro h _
              obtain ⟨s, s1, s2, s3⟩ := h et.1
              exact ⟨s, s1, s2, s3.step (hE.eg ht)⟩
            · intro h _
              obtain ⟨s, s1, s2, s3⟩ := h et.2.1
              exact ⟨s, s1, s2, s3.step (hE.eg ht).sy⟩
          · rintro ⟨s, s1, s2, s3⟩
            exact s3 mk (k4 s s2) (fun a b ha e => e.fe k5 ha)
        refine wp_bind (wp_mono (Q := fun M' => At K (cutF K fl ct st) 14 M' ∧ M'.2 = M.2 ∧ ∀ q, q ≠ 14 → q ≠ 18 → M'.1 q = M.1 q) ?_ ?_)
        · refine wp_for (τ := sr_M) (fun i x => (nI i, x)) K.n (fun i M3 => (∀ x, x < K.n → M3.1 14 x = if x < i then oI (cutF K fl ct st x) else oI (ct x)) ∧ M3.2 = M.2 ∧ M3.1 18 = M2.1 18 ∧ ∀ q, q ≠ 14 → q ≠ 18 → M3.1 q = M.1 q) ?_ ?_ 0 M2 (Nat.zero_le _) ⟨fun x hx => by rw [if_neg (Nat.not_lt_zero _), k3 14 (by omega)]; exact hg x hx, k2, rfl, fun q h1 h2 => k3 q h2⟩
          · rintro i M3 hi ⟨r1, r2, r3, r4⟩
            have b1 : M3.1 0 0 = nI K.n := by rw [r4 0 (by omega) (by omega)]; exact y1
            have b2 : M3.1 0 14 = nI st := by rw [r4 0 (by omega) (by omega)]; exact h14
            have b3 : M3.1 12 i = oI (fl i) := by rw [r4 12 (by omega) (by omega)]; exact hf i hi
            have b4 : M3.1 14 i = oI (ct i) := by rw [r1 i hi, if_neg (by omega)]
            have fr : f5_isFree (nI i) M3 = some (pp_bI ((fl i).isNone && (ct i).isNone)) := by
              unfold f5_isFree
              simp (disch := omega) only [sr_bnd, sr_put, sr_jn, Option.bind_some, pp_bd2, pp_ld, pp_st, pp_stB, pp_putB, pp_grd, pp_l0, pp_l1, pp_l2, pp_l3, pp_l4, pp_l5, pp_l6, pp_l60, pp_l120, pp_l200, nI_add, pp_sub, pp_dec, pp_le, pp_lt, pp_eq, pp_neg1, pp_neg2, pp_neg3, pp_neg4, pp_neg5, if_pos, if_neg, if_true, if_false, b3, b4, oI_ge0 (hb i hi), oI_ge0 (hc i hi)]
              cases fl i <;> cases ct i <;> simp [pp_bI, nI]
            have key : ∀ sv, sv = oI (cutF K fl ct st i) → sr_wp (sr_st (nI i) 120 M3 14 sv fun M47 => some (.inl (nI i + 1, M47)) : Option ((Int32 × sr_M) ⊕ sr_M)) (sr_oc (fun t => ∃ x', t = (nI (i + 1), x') ∧ (∀ x, x < K.n → x'.1 14 x = if x < i + 1 then oI (cutF K fl ct st x) else oI (ct x)) ∧ x'.2 = M.2 ∧ x'.1 18 = M2.1 18 ∧ ∀ q, q ≠ 14 → q ≠ 18 → x'.1 q = M.1 q) (fun M' => At K (cutF K fl ct st) 14 M' ∧ M'.2 = M.2 ∧ ∀ q, q ≠ 14 → q ≠ 18 → M'.1 q = M.1 q)) := by
              rintro sv rfl
              rw [pp_st (by omega) (by decide), wp_on]
              refine ⟨sr_wI M3 14 i (oI (cutF K fl ct st i)), by rw [← nI_1], fun x hx => ?_, r2, by rw [pp_wI1 (by omega)]; exact r3, fun q h1 h2 => by rw [pp_wI1 h1]; exact r4 q h1 h2⟩
              by_cases e : x = i
              · rw [e, pp_wI2, if_pos (by omega)]
              · rw [pp_wI3 e, r1 x hx]
                by_cases g : x < i
                · rw [if_pos g, if_pos (by omega)]
                · rw [if_neg g, if_neg (by omega)]
            have mi : M3.1 18 i = M2.1 18 i := by rw [r3]
            unfold f5_trap_L178
            simp only [sr_bnd, sr_jn, b1]
            rw [if_neg (by rw [pp_le (by omega) (by omega)]; omega), fr, Option.bind_some]
            simp only [pp_ld (show i < 120 by omega) (show 120 < 2147483648 by decide), mi, b2, b4]
            by_cases hh : fl i = none ∧ ct i = none
            · rw [if_neg (by rw [hh.1, hh.2]; decide)]
              have := (k1 i hi)
              by_cases d : mk i
              · rw [this.2.mpr d, if_neg (by decide)]
                exact key _ (by rw [cutF_f (fun q => q.2.2.2 ((dr i hi).mp d))])
              · have z : M2.1 18 i = 0 := by
                  rcases this.1 with q | q
                  · exact q
                  · exact absurd (this.2.mp q) d
                rw [z, if_pos (by rfl)]
                exact key _ (by rw [cutF_t ⟨htr, hh.1, hh.2, fun q => d ((dr i hi).mpr q)⟩]; rfl)
            · rw [if_pos (by cases e1 : fl i <;> cases e2 : ct i <;> first | rfl | exact absurd ⟨e1, e2⟩ hh)]
              exact key _ (by rw [cutF_f (fun q => hh ⟨q.2.1, q.2.2.1⟩)])
          · rintro M3 ⟨r1, r2, r3, r4⟩
            have b1 : M3.1 0 0 = nI K.n := by rw [r4 0 (by omega) (by omega)]; exact y1
            unfold f5_trap_L178
            simp (disch := omega) only [sr_bnd, sr_put, sr_jn, Option.bind_some, pp_bd2, pp_ld, pp_st, pp_stB, pp_putB, pp_grd, pp_l0, pp_l1, pp_l2, pp_l3, pp_l4, pp_l5, pp_l6, pp_l60, pp_l120, pp_l200, nI_add, pp_sub, pp_dec, pp_le, pp_lt, pp_eq, pp_neg1, pp_neg2, pp_neg3, pp_neg4, pp_neg5, if_pos, if_neg, if_true, if_false, b1, Nat.le_refl]
            rw [wp_out]
            exact ⟨fun p hp => by rw [r1 p hp, if_pos hp], r2, r4⟩
        · intro M3 h
          rw [wp_some]
          exact h
