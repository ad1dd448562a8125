/-! THE PURE LEVEL: numbers, evaluation, loops -/
theorem pp_l0 : (0 : Int32) = nI 0 := rfl
theorem pp_l1 : (1 : Int32) = nI 1 := rfl
theorem pp_l2 : (2 : Int32) = nI 2 := rfl
theorem pp_l3 : (3 : Int32) = nI 3 := rfl
theorem pp_l4 : (4 : Int32) = nI 4 := rfl
theorem pp_l5 : (5 : Int32) = nI 5 := rfl
theorem pp_l6 : (6 : Int32) = nI 6 := rfl
theorem pp_l30 : (30 : Int32) = nI 30 := rfl
theorem pp_l8 : (8 : Int32) = nI 8 := rfl
theorem pp_l60 : (60 : Int32) = nI 60 := rfl
theorem pp_l120 : (120 : Int32) = nI 120 := rfl
theorem pp_l200 : (200 : Int32) = nI 200 := rfl
theorem pp_l300 : (300 : Int32) = nI 300 := rfl
theorem pp_lG : (1000000000 : Int32) = nI 1000000000 := rfl
theorem pp_le {a b : Nat} (ha : a < 2147483648) (hb : b < 2147483648) : (nI a ≤ nI b) = (a ≤ b) := propext (nI_leI ha hb)
theorem pp_lt {a b : Nat} (ha : a < 2147483648) (hb : b < 2147483648) : (nI a < nI b) = (a < b) := propext (nI_ltI ha hb)
theorem pp_eq {a b : Nat} (ha : a < 2147483648) (hb : b < 2147483648) : (nI a = nI b) = (a = b) := propext (nI_eq ha hb)
theorem pp_sub {a b : Nat} (h : b ≤ a) : nI a - nI b = nI (a - b) := pk_sub h
theorem pp_dec {a : Nat} (h : 1 ≤ a) : nI a + (-nI 1) = nI (a - 1) := by
  obtain ⟨c, rfl⟩ : ∃ c, a = c + 1 := ⟨a - 1, by omega⟩
  exact pk_m1 c
theorem pp_toInt {a : Nat} (h : a < 2147483648) : (nI a).toInt = a := nI_toInt h
/-- nothing counted is below nought -/
theorem pp_neg1 {a : Nat} (h : a < 2147483648) : (nI a ≤ -nI 1) = False := by
  apply propext
  rw [Int32.le_iff_toInt_le, pp_toInt h]
  have e : (-nI 1 : Int32).toInt = -1 := by decide
  rw [e]
  constructor
  · intro; omega
  · intro q; exact q.elim
theorem pp_neg2 {a : Nat} (h : a < 2147483648) : (nI a < -nI 1) = False := by
  apply propext
  rw [Int32.lt_iff_toInt_lt, pp_toInt h]
  have e : (-nI 1 : Int32).toInt = -1 := by decide
  rw [e]
  constructor
  · intro; omega
  · intro q; exact q.elim
theorem pp_neg3 {a : Nat} (h : a < 2147483648) : (nI a = -nI 1) = False := by
  apply propext
  constructor
  · intro q
    have := congrArg Int32.toInt q
    rw [pp_toInt h] at this
    have e : (-nI 1 : Int32).toInt = -1 := by decide
    rw [e] at this
    omega
  · intro q; exact q.elim
theorem pp_neg4 {a : Nat} (h : a < 2147483648) : ((-nI 1 : Int32) < nI a) = True := by
  apply propext
  rw [Int32.lt_iff_toInt_lt, pp_toInt h]
  have e : (-nI 1 : Int32).toInt = -1 := by decide
  rw [e]
  constructor
  · intro; trivial
  · intro; omega
theorem pp_neg5 {a : Nat} (h : a < 2147483648) : ((-nI 1 : Int32) ≤ nI a) = True := by
  apply propext
  rw [Int32.le_iff_toInt_le, pp_toInt h]
  have e : (-nI 1 : Int32).toInt = -1 := by decide
  rw [e]
  constructor
  · intro; trivial
  · intro; omega
theorem pp_ld {α ρ : Type} {j n : Nat} {x : Nat → α} {F : α → Option ρ} (hj : j < n) (hn : n < 2147483648) : sr_ld (nI j) n x F = F (x j) := by
  unfold sr_ld
  rw [sr_grd_t (vp_in_nI hj hn), nI_clamp (by omega)]
theorem pp_st {ρ : Type} {j n k : Nat} {M : sr_M} {v : Int32} {F : sr_M → Option ρ} (hj : j < n) (hn : n < 2147483648) : sr_st (nI j) n M k v F = F (sr_wI M k j v) := by
  unfold sr_st
  rw [sr_grd_t (vp_in_nI hj hn), nI_clamp (by omega)]
def pp_bI (b : Bool) : Int32 := if b = true then 1 else 0
theorem pp_bI_ok (b : Bool) : pp_bI b = 0 ∨ pp_bI b = 1 := by cases b <;> simp [pp_bI]
theorem pp_stB {ρ : Type} {j n k : Nat} {M : sr_M} {v : Int32} {F : sr_M → Option ρ} (hj : j < n) (hn : n < 2147483648) (hv : v = 0 ∨ v = 1) : sr_stB (nI j) n M k v F = F (sr_wI M k j v) := by
  unfold sr_stB
  rw [sr_grd_t ⟨vp_in_nI hj hn, hv⟩, nI_clamp (by omega)]
theorem pp_putB {ρ : Type} {k j : Nat} {M : sr_M} {v : Int32} {F : sr_M → Option ρ} (hv : v = 0 ∨ v = 1) : sr_putB M k j v F = F (sr_wI M k j v) := by
  unfold sr_putB
  rw [sr_grd_t hv]
theorem pp_grd {ρ : Type} {P : Prop} {x : Option ρ} (h : P) : sr_grd P x = x := sr_grd_t h
theorem pp_bd2 {α β ρ : Type} {a : α} {b : β} {F : α → β → Option ρ} : sr_bd2 (some (a, b)) F = F a b := rfl
/-- x gives something, and of that Q -/
def sr_wp {α : Type} (x : Option α) (Q : α → Prop) : Prop := ∃ a, x = some a ∧ Q a
theorem wp_some {α : Type} {a : α} {Q : α → Prop} : sr_wp (some a) Q = Q a := by
  apply propext
  constructor
  · rintro ⟨b, e, h⟩
    cases e
    exact h
  · intro h
    exact ⟨a, rfl, h⟩
theorem wp_bind {α β : Type} {x : Option α} {F : α → Option β} {Q : β → Prop} (h : sr_wp x (fun a => sr_wp (F a) Q)) : sr_wp (x.bind F) Q := by
  obtain ⟨a, rfl, h⟩ := h
  exact h
theorem wp_bd2 {α β γ : Type} {x : Option (α × β)} {F : α → β → Option γ} {Q : γ → Prop} (h : sr_wp x (fun a => sr_wp (F a.1 a.2) Q)) : sr_wp (sr_bd2 x F) Q := by
  obtain ⟨a, rfl, h⟩ := h
  exact h
theorem wp_mono {α : Type} {x : Option α} {Q Q' : α → Prop} (h : sr_wp x Q) (hq : ∀ a, Q a → Q' a) : sr_wp x Q' := by
  obtain ⟨a, e, h⟩ := h
  exact ⟨a, e, hq a h⟩
theorem wp_ite {α : Type} {c : Prop} [Decidable c] {x y : Option α} {Q : α → Prop} : sr_wp (ite c x y) Q = ((c → sr_wp x Q) ∧ (¬ c → sr_wp y Q)) := by
  apply propext
  by_cases h : c <;> simp [h]
theorem wp_ifs {α : Type} {c : Prop} [Decidable c] {x y : Option α} {Q : α → Prop} (h1 : c → sr_wp x Q) (h2 : ¬ c → sr_wp y Q) : sr_wp (ite c x y) Q := by
  rw [wp_ite]
  exact ⟨h1, h2⟩
/-- behind a loop's body: on, or out -/
def sr_oc {σ ρ : Type} (I : σ → Prop) (Q : ρ → Prop) (y : σ ⊕ ρ) : Prop := (∀ s, y = .inl s → I s) ∧ ∀ r, y = .inr r → Q r
theorem wp_on {σ ρ : Type} {s : σ} {I : σ → Prop} {Q : ρ → Prop} : sr_wp (some (.inl s)) (sr_oc I Q) = I s := by
  rw [wp_some]
  apply propext
  constructor
  · intro h; exact h.1 s rfl
  · intro h
    exact ⟨fun t e => (by cases e; exact h), fun r e => (by cases e)⟩
theorem wp_out {σ ρ : Type} {r : ρ} {I : σ → Prop} {Q : ρ → Prop} : sr_wp (some (.inr r)) (sr_oc I Q) = Q r := by
  rw [wp_some]
  apply propext
  constructor
  · intro h; exact h.2 r rfl
  · intro h
    exact ⟨fun t e => (by cases e), fun q e => (by cases e; exact h)⟩
theorem wp_lp {σ ρ : Type} {b : σ → Option (σ ⊕ ρ)} {Q : ρ → Prop} (I : σ → Prop) (μ : σ → Nat) (h : ∀ s, I s → sr_wp (b s) (sr_oc (fun t => I t ∧ μ t < μ s) Q)) {s : σ} (hs : I s) : sr_wp (sr_lp b s) Q := by
  have key : ∀ (n : Nat) (s : σ), μ s < n → I s → sr_wp (sr_lp b s) Q := by
    intro n
    induction n with
    | zero => intro s hn; omega
    | succ n ih =>
      intro s hn hI
      obtain ⟨y, e, h1, h2⟩ := h s hI
      cases y with
      | inl t =>
        obtain ⟨g1, g2⟩ := h1 t rfl
        obtain ⟨x, hx, hq⟩ := ih t (by omega) g1
        exact ⟨x, sr_lp_step e hx, hq⟩
      | inr r => exact ⟨r, sr_lp_end e, h2 r rfl⟩
  exact key (μ s + 1) s (by omega) hs
/-- a loop that counts up to N -/
theorem wp_for {σ τ ρ : Type} {b : σ → Option (σ ⊕ ρ)} {Q : ρ → Prop} (mk : Nat → τ → σ) (N : Nat) (Inv : Nat → τ → Prop)
    (hs : ∀ i x, i < N → Inv i x → sr_wp (b (mk i x)) (sr_oc (fun t => ∃ x', t = mk (i + 1) x' ∧ Inv (i + 1) x') Q))
    (he : ∀ x, Inv N x → sr_wp (b (mk N x)) (sr_oc (fun _ => False) Q)) : ∀ (i : Nat) (x : τ), i ≤ N → Inv i x → sr_wp (sr_lp b (mk i x)) Q := by
  have key : ∀ (d i : Nat) (x : τ), i + d = N → Inv i x → sr_wp (sr_lp b (mk i x)) Q := by
    intro d
    induction d with
    | zero =>
      intro i x hi hI
      have e0 : i = N := by omega
      subst e0
      obtain ⟨y, e, h1, h2⟩ := he x hI
      cases y with
      | inl t => exact (h1 t rfl).elim
      | inr r => exact ⟨r, sr_lp_end e, h2 r rfl⟩
    | succ d ih =>
      intro i x hi hI
      obtain ⟨y, e, h1, h2⟩ := hs i x (by omega) hI
      cases y with
      | inl t =>
        obtain ⟨x', rfl, g⟩ := h1 t rfl
        obtain ⟨r, hr, hq⟩ := ih (i + 1) x' (by omega) g
        exact ⟨r, sr_lp_step e hr, hq⟩
      | inr r => exact ⟨r, sr_lp_end e, h2 r rfl⟩
  intro i x hi hI
  exact key (N - i) i x (by omega) hI
/-- the memory behind a store -/
theorem pp_wI {M : sr_M} {k j k' j' : Nat} {v : Int32} : (sr_wI M k j v).1 k' j' = if k' = k ∧ j' = j then v else M.1 k' j' := by
  unfold sr_wI va_up
  by_cases h : k' = k
  · subst h
    simp [upd]
  · simp [h]
theorem pp_wI1 {M : sr_M} {k j k' : Nat} {v : Int32} (h : k' ≠ k) : (sr_wI M k j v).1 k' = M.1 k' := by
  unfold sr_wI va_up
  simp [h]
theorem pp_wI2 {M : sr_M} {k j : Nat} {v : Int32} : (sr_wI M k j v).1 k j = v := by rw [pp_wI, if_pos ⟨rfl, rfl⟩]
theorem pp_wI3 {M : sr_M} {k j j' : Nat} {v : Int32} (h : j' ≠ j) : (sr_wI M k j v).1 k j' = M.1 k j' := by rw [pp_wI, if_neg (fun q => h q.2)]
theorem pp_wIJ {M : sr_M} {k j : Nat} {v : Int32} : (sr_wI M k j v).2 = M.2 := rfl
/-- how many below N -/
def cn_ (P : Nat → Bool) : Nat → Nat
  | 0 => 0
  | n + 1 => cn_ P n + (if P n = true then 1 else 0)
theorem cn_le {P : Nat → Bool} {n : Nat} : cn_ P n ≤ n := by
  induction n with
  | zero => exact Nat.le_refl _
  | succ n ih =>
    unfold cn_
    split <;> omega
theorem cn_congr {P P' : Nat → Bool} {n : Nat} (h : ∀ i, i < n → P i = P' i) : cn_ P n = cn_ P' n := by
  induction n with
  | zero => rfl
  | succ n ih =>
    unfold cn_
    rw [ih (fun i hi => h i (by omega)), h n (by omega)]
theorem cn_ins {P P' : Nat → Bool} {n x : Nat} (hx : x < n) (h0 : P x = false) (h1 : P' x = true) (h : ∀ i, i ≠ x → P' i = P i) : cn_ P' n = cn_ P n + 1 := by
  induction n with
  | zero => omega
  | succ n ih =>
    unfold cn_
    by_cases e : x = n
    · subst e
      rw [h0, h1, cn_congr (P := P') (P' := P) (fun i hi => h i (by omega))]
      simp
    · rw [ih (by omega), h n (fun q => e q.symm)]
      omega
theorem cn_mono {P P' : Nat → Bool} {n : Nat} (h : ∀ i, i < n → P i = true → P' i = true) : cn_ P n ≤ cn_ P' n := by
  induction n with
  | zero => exact Nat.le_refl _
  | succ n ih =>
    unfold cn_
    have h1 := ih (fun i hi => h i (by omega))
    have h2 := h n (by omega)
    by_cases e : P n = true
    · rw [if_pos e, if_pos (h2 e)]; omega
    · rw [if_neg e]; split <;> omega
theorem cn_zero {P : Nat → Bool} {n : Nat} (h : ∀ i, i < n → P i = false) : cn_ P n = 0 := by
  induction n with
  | zero => rfl
  | succ n ih =>
    unfold cn_
    rw [ih (fun i hi => h i (by omega)), h n (by omega)]
    simp
theorem cn_ext {P : Nat → Bool} {n m : Nat} (hm : n ≤ m) (h : ∀ i, n ≤ i → i < m → P i = false) : cn_ P m = cn_ P n := by
  induction m with
  | zero => have : n = 0 := by omega
            subst this; rfl
  | succ m ih =>
    by_cases e : n = m + 1
    · subst e; rfl
    · show cn_ P m + (if P m = true then 1 else 0) = cn_ P n
      rw [ih (by omega) (fun i h1 h2 => h i h1 (by omega)), h m (by omega) (by omega)]
      simp
