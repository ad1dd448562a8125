/-! RUNS: what hangs together; the breadth-first walks -/
def Eg (K : RK) (P : Nat → Prop) (a b : Nat) : Prop := P a ∧ P b ∧ ∃ t, t < K.T ∧ K.op t = true ∧ ((K.e1 t = a ∧ K.e2 t = b) ∨ (K.e1 t = b ∧ K.e2 t = a))
def Rch (K : RK) (P : Nat → Prop) (a b : Nat) : Prop := ∀ C : Nat → Prop, C a → (∀ x y, C x → Eg K P x y → C y) → C b
theorem Eg.sy {K : RK} {P : Nat → Prop} {a b : Nat} (h : Eg K P a b) : Eg K P b a := by
  obtain ⟨h1, h2, t, h3, h4, h5⟩ := h
  exact ⟨h2, h1, t, h3, h4, h5.symm⟩
theorem Rch.rf {K : RK} {P : Nat → Prop} {a : Nat} : Rch K P a a := fun _ h _ => h
theorem Rch.step {K : RK} {P : Nat → Prop} {a b c : Nat} (h : Rch K P a b) (e : Eg K P b c) : Rch K P a c := fun C h1 h2 => h2 b c (h C h1 h2) e
theorem Rch.tr {K : RK} {P : Nat → Prop} {a b c : Nat} (h : Rch K P a b) (h' : Rch K P b c) : Rch K P a c := fun C h1 h2 => h' C (h C h1 h2) h2
theorem Rch.sy {K : RK} {P : Nat → Prop} {a b : Nat} (h : Rch K P a b) : Rch K P b a :=
  h (fun x => Rch K P x a) Rch.rf (fun x y hx e => fun C h1 h2 => hx C (h2 y x h1 e.sy) h2)
theorem Rch.P {K : RK} {P : Nat → Prop} {a b : Nat} (h : Rch K P a b) (ha : P a) : P b := h P ha (fun _ _ _ e => e.2.1)
theorem Rch.lt {K : RK} (hW : WF K) {P : Nat → Prop} {a b : Nat} (h : Rch K P a b) (ha : a < K.n) : b < K.n := h (fun x => x < K.n) ha (fun x y _ e => by
  obtain ⟨-, -, t, ht, -, e⟩ := e
  have := hW.2.2.1 t ht
  rcases e with ⟨e1, e2⟩ | ⟨e1, e2⟩
  · rw [← e2]; exact this.2.1
  · rw [← e1]; exact this.1)
theorem Rch.congr {K : RK} {P P' : Nat → Prop} (e : ∀ x, P x ↔ P' x) {a b : Nat} : Rch K P a b ↔ Rch K P' a b := by
  have : P = P' := funext fun x => propext (e x)
  rw [this]
/-- the pore behind a throat -/
def RK.nb (K : RK) (t p : Nat) : Nat := if K.e1 t = p then K.e2 t else K.e1 t
theorem nb_lt {K : RK} (hW : WF K) {t p : Nat} (ht : t < K.T) : K.nb t p < K.n := by
  have := hW.2.2.1 t ht
  unfold RK.nb
  split
  · exact this.2.1
  · exact this.1
theorem inc_nb {K : RK} {t p : Nat} (h : K.inc p t = true) : (K.e1 t = p ∧ K.e2 t = K.nb t p) ∨ (K.e1 t = K.nb t p ∧ K.e2 t = p) := by
  unfold RK.inc at h
  rw [Bool.or_eq_true, decide_eq_true_eq, decide_eq_true_eq] at h
  unfold RK.nb
  by_cases e : K.e1 t = p
  · rw [if_pos e]; exact Or.inl ⟨e, rfl⟩
  · rw [if_neg e]; exact Or.inr ⟨rfl, h.resolve_left e⟩
theorem nb_inc {K : RK} (hW : WF K) {t p q : Nat} (ht : t < K.T) (h : (K.e1 t = p ∧ K.e2 t = q) ∨ (K.e1 t = q ∧ K.e2 t = p)) : K.inc p t = true ∧ K.nb t p = q := by
  have := hW.2.2.1 t ht
  unfold RK.inc RK.nb
  rw [Bool.or_eq_true, decide_eq_true_eq, decide_eq_true_eq]
  rcases h with ⟨e1, e2⟩ | ⟨e1, e2⟩
  · exact ⟨Or.inl e1, by rw [if_pos e1]; exact e2⟩
  · exact ⟨Or.inr e2, by rw [if_neg (by omega)]; exact e1⟩
/-- a row of those that are marked -/
def Qu (n cnt : Nat) (qu : Nat → Nat) (mk : Nat → Prop) : Prop := (∀ i, i < cnt → qu i < n) ∧ (∀ i j, i < cnt → j < cnt → qu i = qu j → i = j) ∧ ∀ x, x < n → (mk x ↔ ∃ i, i < cnt ∧ qu i = x)
theorem Qu.le {n cnt : Nat} {qu : Nat → Nat} {mk : Nat → Prop} (h : Qu n cnt qu mk) : cnt ≤ n := by
  have := cn_img (T := n) (m := cnt) h.1 h.2.1 cnt (Nat.le_refl _)
  rw [← this]
  exact cn_le
theorem Qu.push {n cnt : Nat} {qu : Nat → Nat} {mk mk' : Nat → Prop} (h : Qu n cnt qu mk) {q : Nat} (hq : q < n) (h0 : ¬ mk q) (h1 : ∀ x, x < n → (mk' x ↔ mk x ∨ x = q)) : Qu n (cnt + 1) (va_up qu cnt q) mk' := by
  obtain ⟨a, b, c⟩ := h
  have ne : ∀ i, i < cnt → qu i ≠ q := fun i hi e => h0 ((c q hq).mpr ⟨i, hi, e⟩)
  refine ⟨fun i hi => ?_, fun i j hi hj e => ?_, fun x hx => ?_⟩
  · by_cases e : i = cnt
    · rw [e, va_up_s]; exact hq
    · rw [va_up_n e]; exact a i (by omega)
  · by_cases e1 : i = cnt
    · by_cases e2 : j = cnt
      · omega
      · rw [e1, va_up_s, va_up_n e2] at e
        exact absurd e.symm (ne j (by omega))
    · by_cases e2 : j = cnt
      · rw [e2, va_up_s, va_up_n e1] at e
        exact absurd e (ne i (by omega))
      · rw [va_up_n e1, va_up_n e2] at e
        exact b i j (by omega) (by omega) e
  · rw [h1 x hx, c x hx]
    constructor
    · rintro (⟨i, hi, e⟩ | e)
      · exact ⟨i, by omega, by rw [va_up_n (by omega)]; exact e⟩
      · exact ⟨cnt, by omega, by rw [va_up_s]; exact e.symm⟩
    · rintro ⟨i, hi, e⟩
      by_cases e1 : i = cnt
      · rw [e1, va_up_s] at e
        exact Or.inr e.symm
      · rw [va_up_n e1] at e
        exact Or.inl ⟨i, by omega, e⟩
/-- behind a walk round a pore: the row and the marks have grown by its neighbours -/
def BW (K : RK) (cond : Nat → Prop) (MK : sr_M → (Nat → Prop) → Prop) (o om : Nat) (M : sr_M) (cnt : Nat) (qu : Nat → Nat) (mk adj : Nat → Prop) (w : Int32 × sr_M) : Prop :=
  ∃ (cnt' : Nat) (qu' : Nat → Nat) (mk' : Nat → Prop), w.1 = nI cnt' ∧ cnt ≤ cnt' ∧ (∀ i, i < cnt → qu' i = qu i) ∧ Qu K.n cnt' qu' mk' ∧ (∀ i, i < cnt' → w.2.1 (o + 11) i = nI (qu' i)) ∧ MK w.2 mk' ∧ (∀ x, x < K.n → (mk' x ↔ mk x ∨ (cond x ∧ adj x))) ∧ w.2.2 = M.2 ∧ ∀ q, q ≠ o + 11 → q ≠ om → w.2.1 q = M.1 q
theorem BWloop {K : RK} {cond : Nat → Prop} {MK : sr_M → (Nat → Prop) → Prop} {o om : Nat} {M : sr_M} {p cnt : Nat} {qu : Nat → Nat} {mk : Nat → Prop} {fa aa : Nat → Nat} (hW : WF K) (hp : p < K.n) (hm : fa p ≤ fa (p + 1)) (haa : ∀ e, e < fa (p + 1) → aa e < K.T)
    (b : Int32 → Int32 → sr_M → Option ((Int32 × Int32 × sr_M) ⊕ (Int32 × sr_M))) (hQ : Qu K.n cnt qu mk) (hq : ∀ i, i < cnt → M.1 (o + 11) i = nI (qu i)) (hM : MK M mk)
    (hEnd : ∀ v M5, M5.2 = M.2 → (∀ q, q ≠ o + 11 → q ≠ om → M5.1 q = M.1 q) → b v (nI (fa (p + 1))) M5 = some (.inr (v, M5)))
    (hstep : ∀ (e c5 : Nat) (q5 : Nat → Nat) (m5 : Nat → Prop) (M5 : sr_M), fa p ≤ e → e < fa (p + 1) → M5.2 = M.2 → (∀ q, q ≠ o + 11 → q ≠ om → M5.1 q = M.1 q) → Qu K.n c5 q5 m5 → (∀ i, i < c5 → M5.1 (o + 11) i = nI (q5 i)) → MK M5 m5 →
      ((K.op (aa e) = false ∨ ¬ cond (K.nb (aa e) p) ∨ m5 (K.nb (aa e) p)) ∧ b (nI c5) (nI e) M5 = some (.inl (nI c5, nI (e + 1), M5))) ∨
      (K.op (aa e) = true ∧ cond (K.nb (aa e) p) ∧ ¬ m5 (K.nb (aa e) p) ∧ ∃ M6, b (nI c5) (nI e) M5 = some (.inl (nI (c5 + 1), nI (e + 1), M6)) ∧ M6.2 = M5.2 ∧ (∀ q, q ≠ o + 11 → q ≠ om → M6.1 q = M5.1 q) ∧ (∀ i, i ≠ c5 → M6.1 (o + 11) i = M5.1 (o + 11) i) ∧ M6.1 (o + 11) c5 = nI (K.nb (aa e) p) ∧ MK M6 (fun x => m5 x ∨ x = K.nb (aa e) p))) :
    sr_wp (sr_lp (fun z : Int32 × Int32 × sr_M => b z.1 z.2.1 z.2.2) (nI cnt, nI (fa p), M)) (BW K cond MK o om M cnt qu mk (fun x => ∃ i, fa p ≤ i ∧ i < fa (p + 1) ∧ K.op (aa i) = true ∧ K.nb (aa i) p = x)) := by
  refine wp_for (τ := Int32 × sr_M) (fun e x => (x.1, nI e, x.2)) (fa (p + 1)) (fun e w => fa p ≤ e ∧ BW K cond MK o om M cnt qu mk (fun x => ∃ i, fa p ≤ i ∧ i < e ∧ K.op (aa i) = true ∧ K.nb (aa i) p = x) w) ?_ ?_ (fa p) (nI cnt, M) hm ?_
  · rintro e ⟨v, M5⟩ he ⟨g9, c5, q5, m5, e1, g1, g2, g3, g4, g5, g6, g7, g8⟩
    dsimp only at e1 g4 g5 g7 g8 ⊢
    subst e1
    have lq := nb_lt hW (p := p) (haa e he)
    rcases hstep e c5 q5 m5 M5 g9 he g7 g8 g3 g4 g5 with ⟨hs, eb⟩ | ⟨hop, hc, hmk, M6, eb, k1, k2, k3, k4, k5⟩
    · rw [eb, wp_on]
      refine ⟨(nI c5, M5), rfl, by omega, c5, q5, m5, rfl, g1, g2, g3, g4, g5, fun x hx => ?_, g7, g8⟩
      rw [g6 x hx]
      constructor
      · rintro (h | ⟨h1, i, h2, h3, h4⟩)
        · exact Or.inl h
        · exact Or.inr ⟨h1, i, h2, by omega, h4⟩
      · rintro (h | ⟨h1, i, h2, h3, h4, h5⟩)
        · exact Or.inl h
        · by_cases ie : i = e
          · subst ie
            rcases hs with q | q | q
            · rw [q] at h4; cases h4
            · rw [h5] at q; exact absurd h1 q
            · rw [h5] at q
              exact (g6 x hx).mp q
          · exact Or.inr ⟨h1, i, h2, by omega, h4, h5⟩
    · rw [eb, wp_on]
      refine ⟨(nI (c5 + 1), M6), rfl, by omega, c5 + 1, va_up q5 c5 (K.nb (aa e) p), fun x => m5 x ∨ x = K.nb (aa e) p, rfl, by omega, fun i hi => by rw [va_up_n (by omega)]; exact g2 i hi, g3.push lq hmk (fun x _ => Iff.rfl), fun i hi => ?_, k5, fun x hx => ?_, k1.trans g7, fun q h1 h2 => (k2 q h1 h2).trans (g8 q h1 h2)⟩
      · by_cases ie : i = c5
        · rw [ie, va_up_s]; exact k4
        · rw [va_up_n ie, k3 i ie]
          exact g4 i (by omega)
      · show (m5 x ∨ x = K.nb (aa e) p) ↔ _
        rw [g6 x hx]
        constructor
        · rintro ((h | ⟨h1, i, h2, h3, h4⟩) | h)
          · exact Or.inl h
          · exact Or.inr ⟨h1, i, h2, by omega, h4⟩
          · exact Or.inr ⟨by rw [h]; exact hc, e, g9, by omega, hop, h.symm⟩
        · rintro (h | ⟨h1, i, h2, h3, h4, h5⟩)
          · exact Or.inl (Or.inl h)
          · by_cases ie : i = e
            · subst ie; exact Or.inr h5.symm
            · exact Or.inl (Or.inr ⟨h1, i, h2, by omega, h4, h5⟩)
  · rintro ⟨v, M5⟩ ⟨g9, c5, q5, m5, e1, g1, g2, g3, g4, g5, g6, g7, g8⟩
    dsimp only at e1 g4 g5 g7 g8 ⊢
    rw [hEnd v M5 g7 g8, wp_out]
    exact ⟨c5, q5, m5, e1, g1, g2, g3, g4, g5, g6, g7, g8⟩
  · refine ⟨Nat.le_refl _, cnt, qu, mk, rfl, Nat.le_refl _, fun _ _ => rfl, hQ, hq, hM, fun x hx => ?_, rfl, fun _ _ _ => rfl⟩
    constructor
    · exact Or.inl
    · rintro (h | ⟨-, i, h1, h2, -⟩)
      · exact h
      · omega
/-- the neighbours of a pore, by throats -/
def adjT (K : RK) (p x : Nat) : Prop := ∃ t, t < K.T ∧ K.op t = true ∧ ((K.e1 t = p ∧ K.e2 t = x) ∨ (K.e1 t = x ∧ K.e2 t = p))
theorem BW.adj {K : RK} {cond : Nat → Prop} {MK : sr_M → (Nat → Prop) → Prop} {o om : Nat} {M M0 : sr_M} {p cnt : Nat} {qu : Nat → Nat} {mk : Nat → Prop} {fa aa : Nat → Nat} {w : Int32 × sr_M} (hW : WF K) (hp : p < K.n) (ha : RXa K M0 fa aa) (h : BW K cond MK o om M cnt qu mk (fun x => ∃ i, fa p ≤ i ∧ i < fa (p + 1) ∧ K.op (aa i) = true ∧ K.nb (aa i) p = x) w) : BW K cond MK o om M cnt qu mk (adjT K p) w := by
  obtain ⟨f1, f2, f3, f4, f5, f6⟩ := ha
  have hm' : ∀ q, q < K.n → fa q ≤ fa (q + 1) := fun q hq => by rw [f3 q hq]; omega
  have lim : fa (p + 1) ≤ 2 * K.T := by rw [← f4]; exact fa_mono hm' K.n (Nat.le_refl _) (p + 1) (by omega)
  have e : (fun x => ∃ i, fa p ≤ i ∧ i < fa (p + 1) ∧ K.op (aa i) = true ∧ K.nb (aa i) p = x) = adjT K p := by
    funext x
    apply propext
    constructor
    · rintro ⟨i, h2, h3, h4, h5⟩
      have ai := f5 i (by omega)
      have := inc_nb ((f6 p _ hp ai.2).mpr ⟨i, h2, h3, rfl⟩)
      rw [h5] at this
      exact ⟨aa i, ai.2, h4, this⟩
    · rintro ⟨t, h2, h3, h4⟩
      obtain ⟨n1, n2⟩ := nb_inc hW h2 h4
      obtain ⟨i, i1, i2, rfl⟩ := (f6 p t hp h2).mp n1
      exact ⟨i, i1, i2, h3, n2⟩
  rw [e] at h
  exact h
/-- the filled ones, in the memory -/
def FlX (K : RK) (fl : Nat → Option Nat) (o : Nat) (M : sr_M) : Prop := ∀ p, p < K.n → M.1 (o + 3) p = oI (fl p)
def bnd (K : RK) (f : Nat → Option Nat) : Prop := ∀ p, p < K.n → ∀ k, f p = some k → k < 2147483648
def MKr (K : RK) (o : Nat) (M : sr_M) (mk : Nat → Prop) : Prop := ∀ x, x < K.n → (M.1 (o + 12) x = 0 ∨ M.1 (o + 12) x = 1) ∧ (M.1 (o + 12) x = 1 ↔ mk x)
theorem Xreach1 {K : RK} {M : sr_M} {o p cnt : Nat} {qu : Nat → Nat} {fl : Nat → Option Nat} {mk : Nat → Prop} (hW : WF K) (hX : RX K M) (ho : 30 ≤ o) (hp : p < K.n) (hb : bnd K fl) (hf : FlX K fl o M) (hm : MKr K o M mk) (hq : ∀ i, i < cnt → M.1 (o + 11) i = nI (qu i)) (hQ : Qu K.n cnt qu mk) :
    sr_wp (f1_reachAround o (nI p) (nI cnt) M) (BW K (fun x => fl x = none) (MKr K o) o (o + 12) M cnt qu mk (adjT K p)) := by
  have hn := hW.1
  have hT := hW.2.1
  obtain ⟨fa, aa, hA⟩ := hX.2.2.1
  have hA' := hA
  obtain ⟨f1, f2, f3, f4, f5, f6⟩ := hA
  have hm' : ∀ q, q < K.n → fa q ≤ fa (q + 1) := fun q hq => by rw [f3 q hq]; omega
  have lim : fa (p + 1) ≤ 2 * K.T := by rw [← f4]; exact fa_mono hm' K.n (Nat.le_refl _) (p + 1) (by omega)
  unfold f1_reachAround
  simp (disch := omega) only [sr_bnd, sr_put, sr_jn, Option.bind_some, pp_bd2, pp_ld, pp_st, pp_stB, pp_putB, pp_grd, pp_l0, pp_l1, pp_l2, pp_l3, pp_l4, pp_l5, pp_l6, pp_l60, pp_l120, pp_l200, nI_add, pp_sub, pp_dec, pp_le, pp_lt, pp_eq, pp_neg1, pp_neg2, pp_neg3, pp_neg4, pp_neg5, if_pos, if_neg, if_true, if_false, f1 p (by omega)]
  refine wp_bind (wp_mono (BWloop (cond := fun x => fl x = none) (MK := MKr K o) (om := o + 12) hW hp (hm' p hp) (fun e he => (f5 e (by omega)).2) (f1_reachAround_L13 o (nI p)) hQ hq hm ?_ ?_) ?_)
  · intro v M5 g7 g8
    have a9 : M5.1 9 (p + 1) = nI (fa (p + 1)) := by rw [g8 9 (by omega) (by omega)]; exact f1 _ (by omega)
    unfold f1_reachAround_L13
    simp (disch := omega) only [sr_bnd, sr_put, sr_jn, Option.bind_some, pp_bd2, pp_ld, pp_st, pp_stB, pp_putB, pp_grd, pp_l0, pp_l1, pp_l2, pp_l3, pp_l4, pp_l5, pp_l6, pp_l60, pp_l120, pp_l200, nI_add, pp_sub, pp_dec, pp_le, pp_lt, pp_eq, pp_neg1, pp_neg2, pp_neg3, pp_neg4, pp_neg5, if_pos, if_neg, if_true, if_false, a9, Nat.le_refl]
  · intro e c5 q5 m5 M5 g9 he g7 g8 g3 g4 g5
    have hX5 : RX K M5 := hX.kept (fun q h1 h2 => g8 q (by omega) (by omega))
    obtain ⟨m, br, hr⟩ := hX5.2.1
    have ha := f5 e (by omega)
    have a10 : M5.1 10 e = nI (aa e) := by rw [g8 10 (by omega) (by omega)]; exact ha.1
    have a9 : M5.1 9 (p + 1) = nI (fa (p + 1)) := by rw [g8 9 (by omega) (by omega)]; exact f1 _ (by omega)
    have ea := Xacross hW hX5.1 ha.2 hp
    rw [show (if K.e1 (aa e) = p then K.e2 (aa e) else K.e1 (aa e)) = K.nb (aa e) p from rfl] at ea
    have lq := nb_lt hW (p := p) ha.2
    have e3 : M5.1 (o + 3) (K.nb (aa e) p) = oI (fl (K.nb (aa e) p)) := by rw [g8 _ (by omega) (by omega)]; exact hf _ lq
    have ec := g3.le
    unfold f1_reachAround_L13
    simp (disch := omega) only [sr_bnd, sr_put, sr_jn, Option.bind_some, pp_bd2, pp_ld, pp_st, pp_stB, pp_putB, pp_grd, pp_l0, pp_l1, pp_l2, pp_l3, pp_l4, pp_l5, pp_l6, pp_l60, pp_l120, pp_l200, nI_add, pp_sub, pp_dec, pp_le, pp_lt, pp_eq, pp_neg1, pp_neg2, pp_neg3, pp_neg4, pp_neg5, if_pos, if_neg, if_true, if_false, a9, a10, ea, Xopen hW hr ha.2, e3]
    cases hop : K.op (aa e) with
    | false => exact Or.inl ⟨Or.inl rfl, by rw [if_pos (by decide)]⟩
    | true =>
      rw [if_neg (by decide)]
      by_cases hfl : fl (K.nb (aa e) p) = none
      case neg =>
        refine Or.inl ⟨Or.inr (Or.inl hfl), ?_⟩
        rw [if_pos (by rw [oI_ge0 (hb _ lq)]; exact hfl)]
      have nfl : ¬ nI 0 ≤ oI (fl (K.nb (aa e) p)) := by rw [oI_ge0 (hb _ lq)]; exact fun q => q hfl
      by_cases hmk : m5 (K.nb (aa e) p)
      · refine Or.inl ⟨Or.inr (Or.inr hmk), ?_⟩
        have := (g5 _ lq).2.mpr hmk
        rw [if_neg nfl, this, if_neg (by decide)]
      · have z0 : M5.1 (o + 12) (K.nb (aa e) p) = 0 := by
          rcases (g5 _ lq).1 with q | q
          · exact q
          · exact absurd ((g5 _ lq).2.mp q) hmk
        have cl : c5 < K.n := by
          have := (g3.push (mk' := fun x => m5 x ∨ x = K.nb (aa e) p) lq hmk (fun x _ => Iff.rfl)).le
          omega
        refine Or.inr ⟨rfl, hfl, hmk, sr_wI (sr_wI M5 (o + 12) (K.nb (aa e) p) 1) (o + 11) c5 (nI (K.nb (aa e) p)), ?_, rfl, fun q h1 h2 => ?_, fun i hi => ?_, pp_wI2, fun x hx => ?_⟩
        · rw [if_neg nfl, z0, if_pos (by rfl)]
          simp (disch := first | omega | decide) only [sr_bnd, sr_put, sr_jn, Option.bind_some, pp_bd2, pp_ld, pp_st, pp_stB, pp_putB, pp_grd, pp_l0, pp_l1, pp_l2, pp_l3, pp_l4, pp_l5, pp_l6, pp_l60, pp_l120, pp_l200, nI_add, pp_sub, pp_dec, pp_le, pp_lt, pp_eq, pp_neg1, pp_neg2, pp_neg3, pp_neg4, pp_neg5, if_pos, if_neg, if_true, if_false]
        · simp (disch := omega) only [pp_wI1, pp_wI2, pp_wI3]
        · simp (disch := omega) only [pp_wI1, pp_wI2, pp_wI3]
        · by_cases xe : x = K.nb (aa e) p
          · rw [xe]
            simp (disch := omega) only [pp_wI1, pp_wI2, pp_wI3]
            exact ⟨Or.inr (by trivial), fun _ => Or.inr (by trivial), fun _ => by trivial⟩
          · simp (disch := omega) only [pp_wI1, pp_wI2, pp_wI3]
            refine ⟨(g5 x hx).1, ?_⟩
            rw [(g5 x hx).2]
            exact ⟨Or.inl, fun q => q.resolve_right xe⟩
  · rintro ⟨v, M5⟩ h
    rw [wp_some]
    exact h.adj hW hp hA'
