/-! THE REFERENCE'S FIXPOINTS over the throats -/
theorem wp_lpm {σ ρ : Type} {b : σ → Option (σ ⊕ ρ)} {Q : ρ → Prop} (I : Nat → σ → Prop) (h : ∀ n s, I n s → sr_wp (b s) (sr_oc (fun t => ∃ m, m < n ∧ I m t) Q)) : ∀ n s, I n s → sr_wp (sr_lp b s) Q := by
  have key : ∀ (N n : Nat) (s : σ), n < N → I n s → sr_wp (sr_lp b s) Q := by
    intro N
    induction N with
    | zero => intro n s hn; omega
    | succ N ih =>
      intro n s hn hI
      obtain ⟨y, e, h1, h2⟩ := h n s hI
      cases y with
      | inl t =>
        obtain ⟨m, g1, g2⟩ := h1 t rfl
        obtain ⟨x, hx, hq⟩ := ih m t (by omega) g2
        exact ⟨x, sr_lp_step e hx, hq⟩
      | inr r => exact ⟨r, sr_lp_end e, h2 r rfl⟩
  exact fun n s hI => key (n + 1) n s (by omega) hI
/-- how many aren't marked -/
noncomputable def unm (n : Nat) (mk : Nat → Prop) : Nat := cn_ (fun x => @decide (¬ mk x) (Classical.propDecidable _)) n
theorem cn_lt {P P' : Nat → Bool} {n x : Nat} (hx : x < n) (h0 : P x = false) (h1 : P' x = true) (h : ∀ i, i < n → P i = true → P' i = true) : cn_ P n < cn_ P' n := by
  have := cn_ins (P := P) (P' := fun i => if i = x then true else P i) hx h0 (by simp) (fun i hi => by simp [hi])
  have h2 : cn_ (fun i => if i = x then true else P i) n ≤ cn_ P' n := cn_mono (fun i hi e => by
    by_cases ix : i = x
    · rw [ix]; exact h1
    · rw [if_neg ix] at e; exact h i hi e)
  omega
theorem unm_lt {n x : Nat} {mk mk' : Nat → Prop} (hx : x < n) (h0 : ¬ mk x) (h1 : mk' x) (h : ∀ i, mk i → mk' i) : unm n mk' < unm n mk := by
  unfold unm
  refine cn_lt hx ?_ ?_ ?_
  · simpa using h1
  · simpa using h0
  · intro i _ e
    simp only [decide_eq_true_eq] at e ⊢
    exact fun q => e (h i q)
theorem unm_le {n : Nat} {mk mk' : Nat → Prop} (h : ∀ i, mk i → mk' i) : unm n mk' ≤ unm n mk := by
  unfold unm
  refine cn_mono (fun i _ e => ?_)
  simp only [decide_eq_true_eq] at e ⊢
  exact fun q => e (h i q)
def FE (K : RK) (cond : Nat → Prop) (t : Nat) : Prop := K.op t = true ∧ cond (K.e1 t) ∧ cond (K.e2 t)
theorem FIX {K : RK} {cond : Nat → Prop} {MK : sr_M → (Nat → Prop) → Prop} {om : Nat} {M0 : sr_M} (hW : WF K)
    (b2 : Int32 → Int32 → sr_M → Option ((Int32 × Int32 × sr_M) ⊕ (Int32 × sr_M))) (b1 : Int32 → sr_M → Option ((Int32 × sr_M) ⊕ sr_M))
    (hEnd : ∀ v M5, M5.2 = M0.2 → (∀ q, q ≠ om → M5.1 q = M0.1 q) → b2 v (nI K.T) M5 = some (.inr (v, M5)))
    (hstep : ∀ (v : Int32) (t : Nat) (m5 : Nat → Prop) (M5 : sr_M), t < K.T → M5.2 = M0.2 → (∀ q, q ≠ om → M5.1 q = M0.1 q) → MK M5 m5 →
      ((FE K cond t → (m5 (K.e1 t) ↔ m5 (K.e2 t))) ∧ b2 v (nI t) M5 = some (.inl (v, nI (t + 1), M5))) ∨
      (FE K cond t ∧ ¬ (m5 (K.e1 t) ↔ m5 (K.e2 t)) ∧ ∃ M6, b2 v (nI t) M5 = some (.inl (nI 1, nI (t + 1), M6)) ∧ M6.2 = M5.2 ∧ (∀ q, q ≠ om → M6.1 q = M5.1 q) ∧ MK M6 (fun x => m5 x ∨ x = K.e1 t ∨ x = K.e2 t)))
    (hb0 : ∀ M, b1 (nI 0) M = some (.inr M))
    (hb1 : ∀ M w, sr_lp (fun z : Int32 × Int32 × sr_M => b2 z.1 z.2.1 z.2.2) (nI 0, nI 0, M) = some w → b1 (nI 1) M = some (.inl w))
    {mk0 : Nat → Prop} {M : sr_M} (h2 : M.2 = M0.2) (hf : ∀ q, q ≠ om → M.1 q = M0.1 q) (hM : MK M mk0) :
    sr_wp (sr_lp (fun z : Int32 × sr_M => b1 z.1 z.2) (nI 1, M)) (fun M' => ∃ mk, MK M' mk ∧ M'.2 = M0.2 ∧ (∀ q, q ≠ om → M'.1 q = M0.1 q) ∧ (∀ x, mk0 x → mk x) ∧ (∀ t, t < K.T → FE K cond t → (mk (K.e1 t) ↔ mk (K.e2 t))) ∧ ∀ S : Nat → Prop, (∀ x, mk0 x → S x) → (∀ t, t < K.T → FE K cond t → (S (K.e1 t) ↔ S (K.e2 t))) → ∀ x, mk x → S x) := by
  have hT := hW.2.1
  refine wp_lpm (fun k z => ∃ mk, MK z.2 mk ∧ z.2.2 = M0.2 ∧ (∀ q, q ≠ om → z.2.1 q = M0.1 q) ∧ (∀ x, mk0 x → mk x) ∧ (∀ S : Nat → Prop, (∀ x, mk0 x → S x) → (∀ t, t < K.T → FE K cond t → (S (K.e1 t) ↔ S (K.e2 t))) → ∀ x, mk x → S x) ∧ ((z.1 = nI 0 ∧ k = unm K.n mk ∧ ∀ t, t < K.T → FE K cond t → (mk (K.e1 t) ↔ mk (K.e2 t))) ∨ (z.1 = nI 1 ∧ k = unm K.n mk + 1))) ?_ (unm K.n mk0 + 1) _ ⟨mk0, hM, h2, hf, fun _ h => h, fun S s1 _ x h => s1 x h, Or.inr ⟨rfl, rfl⟩⟩
  rintro k ⟨v, M1⟩ ⟨mk, g1, g2, g3, g4, g5, g6⟩
  dsimp only at g1 g2 g3 g6 ⊢
  rcases g6 with ⟨rfl, rfl, g6⟩ | ⟨rfl, rfl⟩
  · rw [hb0, wp_out]
    exact ⟨mk, g1, g2, g3, g4, g6, g5⟩
  · have inner : sr_wp (sr_lp (fun z : Int32 × Int32 × sr_M => b2 z.1 z.2.1 z.2.2) (nI 0, nI 0, M1)) (fun w => ∃ mk', MK w.2 mk' ∧ w.2.2 = M0.2 ∧ (∀ q, q ≠ om → w.2.1 q = M0.1 q) ∧ (∀ x, mk0 x → mk' x) ∧ (∀ S : Nat → Prop, (∀ x, mk0 x → S x) → (∀ t, t < K.T → FE K cond t → (S (K.e1 t) ↔ S (K.e2 t))) → ∀ x, mk' x → S x) ∧ ((w.1 = nI 0 ∧ mk' = mk ∧ ∀ t, t < K.T → FE K cond t → (mk' (K.e1 t) ↔ mk' (K.e2 t))) ∨ (w.1 = nI 1 ∧ unm K.n mk' < unm K.n mk))) := by
      refine wp_for (τ := Int32 × sr_M) (fun i x => (x.1, nI i, x.2)) K.T (fun i w => ∃ mk', MK w.2 mk' ∧ w.2.2 = M0.2 ∧ (∀ q, q ≠ om → w.2.1 q = M0.1 q) ∧ (∀ x, mk0 x → mk' x) ∧ (∀ S : Nat → Prop, (∀ x, mk0 x → S x) → (∀ t, t < K.T → FE K cond t → (S (K.e1 t) ↔ S (K.e2 t))) → ∀ x, mk' x → S x) ∧ ((w.1 = nI 0 ∧ mk' = mk ∧ ∀ t, t < i → FE K cond t → (mk' (K.e1 t) ↔ mk' (K.e2 t))) ∨ (w.1 = nI 1 ∧ unm K.n mk' < unm K.n mk))) ?_ ?_ 0 (nI 0, M1) (Nat.zero_le _) ⟨mk, g1, g2, g3, g4, g5, Or.inl ⟨rfl, rfl, fun t ht => absurd ht (Nat.not_lt_zero _)⟩⟩
      · rintro i ⟨v, M5⟩ hi ⟨m5, k1, k2, k3, k4, k5, k6⟩
        dsimp only at k1 k2 k3 k6 ⊢
        rcases hstep v i m5 M5 hi k2 k3 k1 with ⟨q1, q2⟩ | ⟨q1, q2, M6, q3, q4, q5, q6⟩
        · rw [q2, wp_on]
          refine ⟨(v, M5), rfl, m5, k1, k2, k3, k4, k5, ?_⟩
          rcases k6 with ⟨r1, r2, r3⟩ | r
          · refine Or.inl ⟨r1, r2, fun t ht => ?_⟩
            by_cases te : t = i
            · rw [te]; exact q1
            · exact r3 t (by omega)
          · exact Or.inr r
        · rw [q3, wp_on]
          have e12 := hW.2.2.1 i hi
          have lt : unm K.n (fun x => m5 x ∨ x = K.e1 i ∨ x = K.e2 i) < unm K.n m5 := by
            by_cases c1 : m5 (K.e1 i)
            · have c2 : ¬ m5 (K.e2 i) := fun c2 => q2 ⟨fun _ => c2, fun _ => c1⟩
              exact unm_lt e12.2.1 c2 (Or.inr (Or.inr rfl)) (fun _ h => Or.inl h)
            · exact unm_lt e12.1 c1 (Or.inr (Or.inl rfl)) (fun _ h => Or.inl h)
          refine ⟨(nI 1, M6), rfl, _, q6, q4.trans k2, fun q hq => (q5 q hq).trans (k3 q hq), fun x h => Or.inl (k4 x h), fun S s1 s2 x hx => ?_, Or.inr ⟨rfl, ?_⟩⟩
          · have se := s2 i hi q1
            have sm : ∀ x, m5 x → S x := k5 S s1 s2
            have one : S (K.e1 i) ∧ S (K.e2 i) := by
              by_cases c1 : m5 (K.e1 i)
              · exact ⟨sm _ c1, se.mp (sm _ c1)⟩
              · by_cases c2 : m5 (K.e2 i)
                · exact ⟨se.mpr (sm _ c2), sm _ c2⟩
                · exact absurd ⟨fun h => absurd h c1, fun h => absurd h c2⟩ q2
            rcases hx with h | h | h
            · exact sm x h
            · rw [h]; exact one.1
            · rw [h]; exact one.2
          · rcases k6 with ⟨-, r2, -⟩ | ⟨-, r⟩
            · rw [r2] at lt ⊢; exact lt
            · omega
      · rintro ⟨v, M5⟩ ⟨m5, k1, k2, k3, k4, k5, k6⟩
        dsimp only at k1 k2 k3 k6 ⊢
        rw [hEnd v M5 k2 k3, wp_out]
        exact ⟨m5, k1, k2, k3, k4, k5, k6⟩
    obtain ⟨w, ew, mk', k1, k2, k3, k4, k5, k6⟩ := inner
    rw [hb1 M1 w ew, wp_on]
    rcases k6 with ⟨r1, r2, r3⟩ | ⟨r1, r2⟩
    · exact ⟨unm K.n mk', by rw [r2]; omega, mk', k1, k2, k3, k4, k5, Or.inl ⟨r1, rfl, r3⟩⟩
    · exact ⟨unm K.n mk' + 1, by omega, mk', k1, k2, k3, k4, k5, Or.inr ⟨r1, rfl⟩⟩
theorem FE.eg {K : RK} {cond : Nat → Prop} {t : Nat} (ht : t < K.T) (h : FE K cond t) : Eg K cond (K.e1 t) (K.e2 t) := ⟨h.2.1, h.2.2, t, ht, h.1, Or.inl ⟨rfl, rfl⟩⟩
theorem Eg.fe {K : RK} {cond : Nat → Prop} {C : Nat → Prop} (hC : ∀ t, t < K.T → FE K cond t → (C (K.e1 t) ↔ C (K.e2 t))) {a b : Nat} (h : Eg K cond a b) (ha : C a) : C b := by
  obtain ⟨h1, h2, t, h3, h4, ⟨h5, h6⟩ | ⟨h5, h6⟩⟩ := h
  · have := hC t h3 ⟨h4, by rw [h5]; exact h1, by rw [h6]; exact h2⟩
    rw [h5, h6] at this
    exact this.mp ha
  · have := hC t h3 ⟨h4, by rw [h5]; exact h2, by rw [h6]; exact h1⟩
    rw [h5, h6] at this
    exact this.mpr ha
