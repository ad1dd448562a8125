/-! LAKES, as a recursion over steps and pores -/
noncomputable def lset (K : RK) (ct : Nat → Option Nat) (s : Nat) (lo : Nat → Option Nat) (c p : Nat) : (Nat → Option Nat) × Nat :=
  @ite _ (ct p = some s ∧ lo p = none) (Classical.propDecidable _) ((fun x => @ite _ (Rch K (fun z => ct z = some s) p x) (Classical.propDecidable _) (some c) (lo x)), c + 1) (lo, c)
noncomputable def lrow (K : RK) (ct : Nat → Option Nat) (s : Nat) (lc : (Nat → Option Nat) × Nat) : Nat → (Nat → Option Nat) × Nat
  | 0 => lc
  | i + 1 => lset K ct s (lrow K ct s lc i).1 (lrow K ct s lc i).2 i
noncomputable def lks (K : RK) (ct : Nat → Option Nat) : Nat → (Nat → Option Nat) × Nat
  | 0 => (fun _ => none, 0)
  | s + 1 => lrow K ct s (lks K ct s) K.n
theorem lset_f {K : RK} {ct lo : Nat → Option Nat} {s c p : Nat} (h : ¬ (ct p = some s ∧ lo p = none)) : lset K ct s lo c p = (lo, c) := by
  unfold lset; rw [if_neg h]
theorem lset_c {K : RK} {ct lo : Nat → Option Nat} {s c p : Nat} (h : ct p = some s ∧ lo p = none) : (lset K ct s lo c p).2 = c + 1 := by
  unfold lset; rw [if_pos h]
theorem lset_y {K : RK} {ct lo : Nat → Option Nat} {s c p x : Nat} (h : ct p = some s ∧ lo p = none) (hx : Rch K (fun z => ct z = some s) p x) : (lset K ct s lo c p).1 x = some c := by
  unfold lset; rw [if_pos h]; dsimp only; rw [if_pos hx]
theorem lset_n {K : RK} {ct lo : Nat → Option Nat} {s c p x : Nat} (h : ct p = some s ∧ lo p = none) (hx : ¬ Rch K (fun z => ct z = some s) p x) : (lset K ct s lo c p).1 x = lo x := by
  unfold lset; rw [if_pos h]; dsimp only; rw [if_neg hx]
/-- what holds of the labels while step s is gone through, pores below i done -/
def LI (K : RK) (ct : Nat → Option Nat) (s i : Nat) (lo : Nat → Option Nat) (c : Nat) : Prop :=
  (∀ a b, Eg K (fun z => ct z = some s) a b → lo a = lo b) ∧
  (∀ x l, lo x = some l → l < c ∧ ∃ k, k ≤ s ∧ ct x = some k) ∧
  (c ≤ cn_ (fun x => (lo x).isSome) K.n) ∧
  (∀ p, p < i → ct p = some s → lo p ≠ none) ∧
  (∀ p, p < K.n → ∀ k, k < s → ct p = some k → lo p ≠ none) ∧
  (∀ l, l < c → ∃ p, p < K.n ∧ lo p = some l ∧ (∀ q, lo q = some l → p ≤ q ∧ ct q = ct p)) ∧
  (∀ p q l m, lo p = some l → lo q = some m → l ≤ m → ∀ a b, ct p = some a → ct q = some b → a ≤ b)
theorem LI.rch {K : RK} {ct lo : Nat → Option Nat} {s i c : Nat} (h : LI K ct s i lo c) {a b : Nat} (r : Rch K (fun z => ct z = some s) a b) : lo a = lo b :=
  r (fun x => lo a = lo x) rfl (fun x y hx e => hx.trans (h.1 x y e))
theorem LI.set {K : RK} (hW : WF K) {ct lo : Nat → Option Nat} {s i c : Nat} (h : LI K ct s i lo c) (hi : i < K.n) : LI K ct s (i + 1) (lset K ct s lo c i).1 (lset K ct s lo c i).2 := by
  by_cases g : ct i = some s ∧ lo i = none
  case neg =>
    rw [lset_f g]
    obtain ⟨a, b, d, e, f⟩ := h
    refine ⟨a, b, d, fun p hp hc => ?_, f⟩
    by_cases pe : p = i
    · rw [pe] at hc ⊢; exact fun q => g ⟨hc, q⟩
    · exact e p (by omega) hc
  have hr : ∀ x, Rch K (fun z => ct z = some s) i x → lo x = none ∧ ct x = some s := fun x r => ⟨by rw [← h.rch r]; exact g.2, r.P g.1⟩
  rw [lset_c g]
  have hy := fun x => lset_y (K := K) (c := c) (x := x) g
  have hn := fun x => lset_n (K := K) (c := c) (x := x) g
  have h' := h
  obtain ⟨h1, h2, h3, h4, h5, h6, h7⟩ := h'
  have old : ∀ x l, lo x = some l → (lset K ct s lo c i).1 x = some l := fun x l e => by
    rw [hn x (fun r => by rw [(hr x r).1] at e; cases e)]; exact e
  have inv : ∀ x l, (lset K ct s lo c i).1 x = some l → (l = c ∧ Rch K (fun z => ct z = some s) i x) ∨ (l < c ∧ lo x = some l) := by
    intro x l e
    by_cases r : Rch K (fun z => ct z = some s) i x
    · rw [hy x r] at e; cases e; exact Or.inl ⟨rfl, r⟩
    · rw [hn x r] at e; exact Or.inr ⟨(h2 x l e).1, e⟩
  refine ⟨fun a b e => ?_, fun x l e => ?_, ?_, fun p hp hc => ?_, fun p hp k hk hc => ?_, fun l hl => ?_, fun p q l m e1 e2 hl a b ha hb => ?_⟩
  · by_cases r : Rch K (fun z => ct z = some s) i a
    · rw [hy a r, hy b (r.step e)]
    · rw [hn a r, hn b (fun r' => r (r'.step e.sy)), h1 a b e]
  · rcases inv x l e with ⟨rfl, r⟩ | ⟨q, e'⟩
    · exact ⟨by omega, s, Nat.le_refl _, (hr x r).2⟩
    · exact ⟨by omega, (h2 x l e').2⟩
  · refine Nat.lt_of_le_of_lt h3 (cn_lt hi (by rw [g.2]; rfl) (by rw [hy i Rch.rf]; rfl) (fun x hx e => ?_))
    cases el : lo x with
    | none => rw [el] at e; cases e
    | some l => rw [old x l el]; rfl
  · by_cases pe : p = i
    · rw [pe, hy i Rch.rf]; simp
    · cases el : lo p with
      | none => exact absurd el (h4 p (by omega) hc)
      | some l => rw [old p l el]; simp
  · cases el : lo p with
    | none => exact absurd el (h5 p hp k hk hc)
    | some l => rw [old p l el]; simp
  · by_cases lc : l = c
    · subst lc
      refine ⟨i, hi, hy i Rch.rf, fun q e => ?_⟩
      rcases inv q l e with ⟨-, r⟩ | ⟨q', -⟩
      · have hq := hr q r
        refine ⟨?_, by rw [hq.2, g.1]⟩
        rcases Nat.lt_or_ge q i with z | z
        · exact absurd hq.1 (h4 q z hq.2)
        · exact z
      · omega
    · obtain ⟨p, p1, p2, p3⟩ := h6 l (by omega)
      refine ⟨p, p1, old p l p2, fun q e => ?_⟩
      rcases inv q l e with ⟨e', -⟩ | ⟨-, e'⟩
      · exact absurd e' lc
      · exact p3 q e'
  · rcases inv p l e1 with ⟨rfl, r⟩ | ⟨q1, e1'⟩
    · rw [(hr p r).2] at ha; cases ha
      rcases inv q m e2 with ⟨rfl, r'⟩ | ⟨q2, e2'⟩
      · rw [(hr q r').2] at hb; cases hb; omega
      · omega
    · rcases inv q m e2 with ⟨rfl, r'⟩ | ⟨q2, e2'⟩
      · rw [(hr q r').2] at hb; cases hb
        obtain ⟨-, k, k1, k2⟩ := h2 p l e1'
        rw [ha] at k2; cases k2; exact k1
      · exact h7 p q l m e1' e2' hl a b ha hb
theorem LI.row {K : RK} (hW : WF K) {ct : Nat → Option Nat} {s : Nat} {lc : (Nat → Option Nat) × Nat} (h : LI K ct s 0 lc.1 lc.2) : ∀ i, i ≤ K.n → LI K ct s i (lrow K ct s lc i).1 (lrow K ct s lc i).2 := by
  intro i
  induction i with
  | zero => intro _; exact h
  | succ i ih => intro hi; exact (ih (by omega)).set hW (by omega)
theorem LI.next {K : RK} {ct lo : Nat → Option Nat} {s c : Nat} (h : LI K ct s K.n lo c) : LI K ct (s + 1) 0 lo c := by
  obtain ⟨h1, h2, h3, h4, h5, h6, h7⟩ := h
  have non : ∀ x, ct x = some (s + 1) → lo x = none := by
    intro x hx
    cases e : lo x with
    | none => rfl
    | some l =>
      obtain ⟨-, k, k1, k2⟩ := h2 x l e
      rw [hx] at k2; cases k2; omega
  refine ⟨fun a b e => by rw [non a e.1, non b e.2.1], fun x l e => ?_, h3, fun p hp => absurd hp (Nat.not_lt_zero _), fun p hp k hk hc => ?_, h6, h7⟩
  · obtain ⟨a, k, k1, k2⟩ := h2 x l e
    exact ⟨a, k, by omega, k2⟩
  · by_cases ks : k = s
    · rw [ks] at hc; exact h4 p hp hc
    · exact h5 p hp k (by omega) hc
theorem LI.lks {K : RK} (hW : WF K) {ct : Nat → Option Nat} : ∀ s, LI K ct s 0 (lks K ct s).1 (lks K ct s).2 := by
  intro s
  induction s with
  | zero => exact ⟨fun _ _ _ => rfl, fun x l e => (by cases e), Nat.zero_le _, fun p hp => absurd hp (Nat.not_lt_zero _), fun p _ k hk => absurd hk (Nat.not_lt_zero _), fun l hl => absurd hl (Nat.not_lt_zero _), fun p q l m e => (by cases e)⟩
  | succ s ih => exact (LI.row hW ih K.n (Nat.le_refl _)).next
theorem LI.c_lt {K : RK} {ct lo : Nat → Option Nat} {s i c : Nat} (h : LI K ct s i lo c) {p : Nat} (hp : p < K.n) (e : lo p = none) : c < K.n := by
  have h3 := h.2.2.1
  have := cn_lt (P := fun x => (lo x).isSome) (P' := fun _ => true) hp (by show (lo p).isSome = false; rw [e]; rfl) rfl (fun _ _ _ => rfl)
  have l2 := cn_le (P := fun _ => true) (n := K.n)
  omega
theorem LI.c_le {K : RK} {ct lo : Nat → Option Nat} {s i c : Nat} (h : LI K ct s i lo c) : c ≤ K.n := Nat.le_trans h.2.2.1 cn_le
/-- only what was cut off up to now counts -/
theorem lks_congr {K : RK} (hW : WF K) {ct ct' : Nat → Option Nat} : ∀ s, (∀ k, k < s → ∀ x, ct x = some k ↔ ct' x = some k) → lks K ct s = lks K ct' s := by
  intro s
  induction s with
  | zero => intro _; rfl
  | succ s ih =>
    intro h
    have e0 := ih (fun k hk => h k (by omega))
    show lrow K ct s (lks K ct s) K.n = lrow K ct' s (lks K ct' s) K.n
    rw [e0]
    have : ∀ i, lrow K ct s (lks K ct' s) i = lrow K ct' s (lks K ct' s) i := by
      intro i
      induction i with
      | zero => rfl
      | succ i ih =>
        show lset K ct s _ _ i = lset K ct' s _ _ i
        rw [ih]
        have es := h s (by omega)
        generalize lrow K ct' s (lks K ct' s) i = lc
        obtain ⟨lo, c⟩ := lc
        have eP : (fun z => ct z = some s) = (fun z => ct' z = some s) := funext fun z => propext (es z)
        unfold lset
        rw [eP, show (ct i = some s) = (ct' i = some s) from propext (es i)]
    exact this K.n
/-- a step at which nothing was cut off -/
theorem lrow_idle {K : RK} {ct : Nat → Option Nat} {s : Nat} {lc : (Nat → Option Nat) × Nat} (h : ∀ p, p < K.n → ct p ≠ some s) : ∀ i, i ≤ K.n → lrow K ct s lc i = lc := by
  intro i
  induction i with
  | zero => intro _; rfl
  | succ i ih =>
    intro hi
    show lset K ct s _ _ i = lc
    rw [ih (by omega), lset_f (fun q => h i (by omega) q.1)]
/-- earlier labels stay -/
theorem lrow_old {K : RK} (hW : WF K) {ct : Nat → Option Nat} {s : Nat} {lc : (Nat → Option Nat) × Nat} (h : LI K ct s 0 lc.1 lc.2) : ∀ i, i ≤ K.n → lc.2 ≤ (lrow K ct s lc i).2 ∧ (∀ x l, lc.1 x = some l → (lrow K ct s lc i).1 x = some l) ∧ ∀ x l, (lrow K ct s lc i).1 x = some l → lc.1 x = some l ∨ (lc.2 ≤ l ∧ ct x = some s) := by
  intro i
  induction i with
  | zero => intro _; exact ⟨Nat.le_refl _, fun _ _ e => e, fun _ _ e => Or.inl e⟩
  | succ i ih =>
    intro hi
    obtain ⟨a, b, d⟩ := ih (by omega)
    have hI := LI.row hW h i (by omega)
    show _ ≤ (lset K ct s (lrow K ct s lc i).1 (lrow K ct s lc i).2 i).2 ∧ (∀ x l, _ → (lset K ct s (lrow K ct s lc i).1 (lrow K ct s lc i).2 i).1 x = _) ∧ ∀ x l, (lset K ct s (lrow K ct s lc i).1 (lrow K ct s lc i).2 i).1 x = _ → _
    generalize lrow K ct s lc i = m at a b d hI ⊢
    obtain ⟨lo, c⟩ := m
    dsimp only at a b d hI ⊢
    by_cases g : ct i = some s ∧ lo i = none
    case neg => rw [lset_f g]; exact ⟨a, b, d⟩
    rw [lset_c g]
    refine ⟨by omega, fun x l e => ?_, fun x l e => ?_⟩
    · have := b x l e
      rw [lset_n g]
      · exact this
      · intro r
        have := hI.rch r
        rw [g.2, b x l e] at this
        cases this
    · by_cases r : Rch K (fun z => ct z = some s) i x
      · rw [lset_y g r] at e
        cases e
        exact Or.inr ⟨a, r.P g.1⟩
      · rw [lset_n g r] at e
        exact d x l e
theorem lks_old {K : RK} (hW : WF K) {ct : Nat → Option Nat} {s : Nat} : ∀ d, (lks K ct s).2 ≤ (lks K ct (s + d)).2 ∧ (∀ x l, (lks K ct s).1 x = some l → (lks K ct (s + d)).1 x = some l) ∧ ∀ x l, (lks K ct (s + d)).1 x = some l → (lks K ct s).1 x = some l ∨ ((lks K ct s).2 ≤ l ∧ ∃ k, s ≤ k ∧ ct x = some k) := by
  intro d
  induction d with
  | zero => exact ⟨Nat.le_refl _, fun _ _ e => e, fun _ _ e => Or.inl e⟩
  | succ d ih =>
    obtain ⟨a, b, c⟩ := ih
    obtain ⟨a', b', c'⟩ := lrow_old hW (LI.lks hW (ct := ct) (s + d)) K.n (Nat.le_refl _)
    refine ⟨Nat.le_trans a a', fun x l e => b' x l (b x l e), fun x l e => ?_⟩
    rcases c' x l e with q | ⟨q1, q2⟩
    · exact c x l q
    · exact Or.inr ⟨Nat.le_trans a q1, s + d, by omega, q2⟩
