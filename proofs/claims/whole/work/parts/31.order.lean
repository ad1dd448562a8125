/-! THE ROCK as a mathematical value: pores, throats, kinds, ends, hindrances, inlets, open ones, trapping -/
def RK : Type := Nat × Nat × (Nat → Nat) × (Nat → Nat) × (Nat → Nat) × (Nat → Nat) × (Nat → Bool) × (Nat → Bool) × Bool
def RK.n (K : RK) : Nat := K.1
def RK.T (K : RK) : Nat := K.2.1
def RK.kd (K : RK) : Nat → Nat := K.2.2.1
def RK.e1 (K : RK) : Nat → Nat := K.2.2.2.1
def RK.e2 (K : RK) : Nat → Nat := K.2.2.2.2.1
def RK.hd (K : RK) : Nat → Nat := K.2.2.2.2.2.1
def RK.il (K : RK) : Nat → Bool := K.2.2.2.2.2.2.1
def RK.op (K : RK) : Nat → Bool := K.2.2.2.2.2.2.2.1
def RK.tr (K : RK) : Bool := K.2.2.2.2.2.2.2.2
def RK.mk (n T : Nat) (kd e1 e2 hd : Nat → Nat) (il op : Nat → Bool) (tr : Bool) : RK := (n, T, kd, e1, e2, hd, il, op, tr)
/-- the throats' order: hindrance, then number -/
def lsb (hd : Nat → Nat) (t u : Nat) : Bool := decide (hd t < hd u) || (decide (hd t = hd u) && decide (t < u))
theorem lsb_iff {hd : Nat → Nat} {t u : Nat} : lsb hd t u = true ↔ hd t < hd u ∨ (hd t = hd u ∧ t < u) := by
  simp [lsb]
theorem lsb_irr {hd : Nat → Nat} {t : Nat} : lsb hd t t = false := by
  rw [Bool.eq_false_iff]
  intro h
  rw [lsb_iff] at h
  omega
theorem lsb_tr {hd : Nat → Nat} {t u v : Nat} (h1 : lsb hd t u = true) (h2 : lsb hd u v = true) : lsb hd t v = true := by
  rw [lsb_iff] at *
  omega
theorem lsb_tot {hd : Nat → Nat} {t u : Nat} (h : t ≠ u) : lsb hd t u = true ∨ lsb hd u t = true := by
  rw [lsb_iff, lsb_iff]
  omega
theorem lsb_as {hd : Nat → Nat} {t u : Nat} (h : lsb hd t u = true) : lsb hd u t = false := by
  rw [Bool.eq_false_iff]
  intro h2
  rw [lsb_iff] at h h2
  omega
theorem lsb_neg {hd : Nat → Nat} {t u : Nat} (h : lsb hd t u = false) (hn : t ≠ u) : lsb hd u t = true := by
  rcases lsb_tot (hd := hd) hn with q | q
  · rw [q] at h; cases h
  · exact q
/-- RANK: how many open ones are less -/
def RK.rk (K : RK) (t : Nat) : Nat := cn_ (fun u => K.op u && lsb K.hd u t) K.T
/-- br enumerates the m open throats of K in their order -/
def Br (T : Nat) (op : Nat → Bool) (hd : Nat → Nat) (m : Nat) (br : Nat → Nat) : Prop :=
  (∀ r, r < m → br r < T ∧ op (br r) = true) ∧ (∀ t, t < T → op t = true → ∃ r, r < m ∧ br r = t) ∧ ∀ r r', r < r' → r' < m → lsb hd (br r) (br r') = true
theorem Br.inj {T : Nat} {op : Nat → Bool} {hd : Nat → Nat} {m : Nat} {br : Nat → Nat} (h : Br T op hd m br) {r r' : Nat} (h1 : r < m) (h2 : r' < m) (e : br r = br r') : r = r' := by
  rcases Nat.lt_trichotomy r r' with q | q | q
  · have := h.2.2 r r' q h2
    rw [e, lsb_irr] at this
    cases this
  · exact q
  · have := h.2.2 r' r q h1
    rw [e, lsb_irr] at this
    cases this
theorem Br.lt_iff {T : Nat} {op : Nat → Bool} {hd : Nat → Nat} {m : Nat} {br : Nat → Nat} (h : Br T op hd m br) {r r' : Nat} (h1 : r < m) (h2 : r' < m) : lsb hd (br r) (br r') = true ↔ r < r' := by
  constructor
  · intro q
    rcases Nat.lt_or_ge r r' with g | g
    · exact g
    · rcases Nat.lt_or_eq_of_le g with g | g
      · have := lsb_as (h.2.2 r' r g h1)
        rw [q] at this
        cases this
      · subst g
        rw [lsb_irr] at q
        cases q
  · intro q
    exact h.2.2 r r' q h2
theorem cn_img {T : Nat} {br : Nat → Nat} {m : Nat} (hb : ∀ r, r < m → br r < T) (hi : ∀ r r', r < m → r' < m → br r = br r' → r = r') : ∀ r, r ≤ m → cn_ (fun u => decide (∃ i, i < r ∧ br i = u)) T = r := by
  intro r
  induction r with
  | zero =>
    intro _
    refine cn_zero (fun i _ => ?_)
    rw [decide_eq_false_iff_not]
    rintro ⟨j, hj, -⟩
    omega
  | succ r ih =>
    intro hr
    rw [cn_ins (P := fun u => decide (∃ i, i < r ∧ br i = u)) (x := br r) (hb r (by omega)), ih (by omega)]
    · rw [decide_eq_false_iff_not]
      rintro ⟨j, hj, e⟩
      have := hi j r (by omega) (by omega) e
      omega
    · rw [decide_eq_true_eq]
      exact ⟨r, by omega, rfl⟩
    · intro i hne
      have : (∃ j, j < r + 1 ∧ br j = i) ↔ ∃ j, j < r ∧ br j = i := by
        constructor
        · rintro ⟨j, hj, e⟩
          refine ⟨j, ?_, e⟩
          rcases Nat.lt_or_ge j r with q | q
          · exact q
          · have : j = r := by omega
            subst this
            exact absurd e.symm hne
        · rintro ⟨j, hj, e⟩
          exact ⟨j, by omega, e⟩
      simp only [this]
theorem Br.le {T : Nat} {op : Nat → Bool} {hd : Nat → Nat} {m : Nat} {br : Nat → Nat} (h : Br T op hd m br) : m ≤ T := by
  have := cn_img (T := T) (m := m) (fun r hr => (h.1 r hr).1) (fun r r' h1 h2 e => h.inj h1 h2 e) m (Nat.le_refl _)
  rw [← this]
  exact cn_le
theorem Br.rk {T : Nat} {op : Nat → Bool} {hd : Nat → Nat} {m : Nat} {br : Nat → Nat} (h : Br T op hd m br) {r : Nat} (hr : r < m) : cn_ (fun u => op u && lsb hd u (br r)) T = r := by
  have e := cn_img (T := T) (m := m) (fun r hr => (h.1 r hr).1) (fun r r' h1 h2 e => h.inj h1 h2 e) r (Nat.le_of_lt hr)
  refine Eq.trans (cn_congr (fun u hu => ?_)) e
  rw [Bool.eq_iff_iff, decide_eq_true_eq, Bool.and_eq_true]
  constructor
  · rintro ⟨h1, h2⟩
    obtain ⟨i, hi, rfl⟩ := h.2.1 u hu h1
    exact ⟨i, (h.lt_iff hi hr).mp h2, rfl⟩
  · rintro ⟨i, hi, rfl⟩
    exact ⟨(h.1 i (by omega)).2, (h.lt_iff (by omega) hr).mpr hi⟩
/-- ranks keep the order -/
theorem rk_lt {T : Nat} {op : Nat → Bool} {hd : Nat → Nat} {t u : Nat} (ht : t < T) (ho : op t = true) (h : lsb hd t u = true) : cn_ (fun v => op v && lsb hd v t) T < cn_ (fun v => op v && lsb hd v u) T := by
  have e : cn_ (fun v => (op v && lsb hd v t) || decide (v = t)) T = cn_ (fun v => op v && lsb hd v t) T + 1 := by
    refine cn_ins ht ?_ ?_ ?_
    · rw [lsb_irr, Bool.and_false]
    · simp
    · intro i hi
      simp [hi]
  have l := cn_mono (P := fun v => (op v && lsb hd v t) || decide (v = t)) (P' := fun v => op v && lsb hd v u) (n := T) (fun i _ hi => by
    simp only [Bool.or_eq_true, Bool.and_eq_true, decide_eq_true_eq] at hi ⊢
    rcases hi with ⟨h1, h2⟩ | rfl
    · exact ⟨h1, lsb_tr h2 h⟩
    · exact ⟨ho, h⟩)
  omega
theorem rk_iff {T : Nat} {op : Nat → Bool} {hd : Nat → Nat} {t u : Nat} (ht : t < T) (hu : u < T) (h1 : op t = true) (h2 : op u = true) : cn_ (fun v => op v && lsb hd v t) T < cn_ (fun v => op v && lsb hd v u) T ↔ lsb hd t u = true := by
  constructor
  · intro q
    rcases Nat.decEq t u with e | e
    · rcases lsb_tot (hd := hd) e with g | g
      · exact g
      · have := rk_lt hu h2 g
        omega
    · subst e
      omega
  · exact fun q => rk_lt ht h1 q
theorem rk_inj {T : Nat} {op : Nat → Bool} {hd : Nat → Nat} {t u : Nat} (ht : t < T) (hu : u < T) (h1 : op t = true) (h2 : op u = true) (e : cn_ (fun v => op v && lsb hd v t) T = cn_ (fun v => op v && lsb hd v u) T) : t = u := by
  rcases Nat.decEq t u with q | q
  · rcases lsb_tot (hd := hd) q with g | g
    · have := rk_lt (u := u) ht h1 g
      omega
    · have := rk_lt (u := t) hu h2 g
      omega
  · exact q
/-- the one that is least (greatest) of some -/
def Least (hd : Nat → Nat) (P : Nat → Prop) (r : Option Nat) : Prop := match r with
  | some t => P t ∧ ∀ u, P u → u ≠ t → lsb hd t u = true
  | none => ∀ u, ¬ P u
def Most (hd : Nat → Nat) (P : Nat → Prop) (r : Option Nat) : Prop := match r with
  | some t => P t ∧ ∀ u, P u → u ≠ t → lsb hd u t = true
  | none => ∀ u, ¬ P u
theorem Least.uniq {hd : Nat → Nat} {P : Nat → Prop} {r r' : Option Nat} (h : Least hd P r) (h' : Least hd P r') : r = r' := by
  cases r with
  | none =>
    cases r' with
    | none => rfl
    | some t => exact absurd h'.1 (h t)
  | some t =>
    cases r' with
    | none => exact absurd h.1 (h' t)
    | some u =>
      rcases Nat.decEq t u with e | e
      · have a := h.2 u h'.1 (Ne.symm e)
        have b := h'.2 t h.1 e
        rw [lsb_as a] at b
        cases b
      · rw [e]
theorem Most.uniq {hd : Nat → Nat} {P : Nat → Prop} {r r' : Option Nat} (h : Most hd P r) (h' : Most hd P r') : r = r' := by
  cases r with
  | none =>
    cases r' with
    | none => rfl
    | some t => exact absurd h'.1 (h t)
  | some t =>
    cases r' with
    | none => exact absurd h.1 (h' t)
    | some u =>
      rcases Nat.decEq t u with e | e
      · have a := h.2 u h'.1 (Ne.symm e)
        have b := h'.2 t h.1 e
        rw [lsb_as a] at b
        cases b
      · rw [e]
theorem Least.congr {hd : Nat → Nat} {P P' : Nat → Prop} (e : ∀ t, P t ↔ P' t) {r : Option Nat} (h : Least hd P r) : Least hd P' r := by
  have : P = P' := funext fun t => propext (e t)
  rw [← this]; exact h
theorem Most.congr {hd : Nat → Nat} {P P' : Nat → Prop} (e : ∀ t, P t ↔ P' t) {r : Option Nat} (h : Most hd P r) : Most hd P' r := by
  have : P = P' := funext fun t => propext (e t)
  rw [← this]; exact h
/-- what stands for 'none such' -/
def oI (r : Option Nat) : Int32 := match r with
  | none => -nI 1
  | some k => nI k
theorem oI_n : oI none = -nI 1 := rfl
theorem oI_s {k : Nat} : oI (some k) = nI k := rfl
theorem oI_lt0 {r : Option Nat} (h : ∀ k, r = some k → k < 2147483648) : (oI r < nI 0) = (r = none) := by
  cases r with
  | none => exact propext ⟨fun _ => rfl, fun _ => by decide⟩
  | some k =>
    rw [oI_s, pp_lt (h k rfl) (by decide)]
    exact propext ⟨fun q => absurd q (Nat.not_lt_zero _), fun q => by cases q⟩
theorem oI_ge0 {r : Option Nat} (h : ∀ k, r = some k → k < 2147483648) : (nI 0 ≤ oI r) = (r ≠ none) := by
  cases r with
  | none => exact propext ⟨fun q => absurd q (by decide), fun q => absurd rfl q⟩
  | some k =>
    rw [oI_s, pp_le (by decide) (h k rfl)]
    exact propext ⟨fun _ => by simp, fun _ => Nat.zero_le _⟩
theorem oI_eq {r r' : Option Nat} (h : ∀ k, r = some k → k < 2147483648) (h' : ∀ k, r' = some k → k < 2147483648) : (oI r = oI r') = (r = r') := by
  apply propext
  constructor
  · intro e
    cases r with
    | none =>
      cases r' with
      | none => rfl
      | some k =>
        rw [oI_n, oI_s] at e
        have e2 := e.symm
        rw [pp_neg3 (h' k rfl)] at e2
        exact e2.elim
    | some k =>
      cases r' with
      | none =>
        rw [oI_n, oI_s, pp_neg3 (h k rfl)] at e
        exact e.elim
      | some k' =>
        rw [oI_s, oI_s, pp_eq (h k rfl) (h' k' rfl)] at e
        rw [e]
  · intro e; rw [e]
theorem oI_eqs {r : Option Nat} {k : Nat} (h : ∀ k, r = some k → k < 2147483648) (h' : k < 2147483648) : (oI r = nI k) = (r = some k) := by
  rw [← oI_s, oI_eq h (fun j e => by cases e; exact h')]
theorem oI_le {r : Option Nat} {k : Nat} (h : ∀ k, r = some k → k < 2147483648) (h' : k < 2147483648) : (oI r ≤ nI k) = (∀ j, r = some j → j ≤ k) := by
  cases r with
  | none => exact propext ⟨fun _ j e => (by cases e), fun _ => (by rw [oI_n, pp_neg5 h']; trivial)⟩
  | some j =>
    rw [oI_s, pp_le (h j rfl) h']
    exact propext ⟨fun q i e => (by cases e; exact q), fun q => q j rfl⟩
