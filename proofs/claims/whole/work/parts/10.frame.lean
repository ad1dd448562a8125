/-! THE FRAME: a world as a function of a memory; rows that walk the machine in step with a function in Option. -/
abbrev sr_M : Type := (Nat → Nat → Int32) × (Nat → Nat → Int64) × (Nat → Nat → UInt64)
abbrev sr_CF : Type := Nat → (Nat → Int32) → (Nat → Int64) → (Nat → UInt64) → va_E
def sr_w (ad : Nat → Nat) (cf : sr_CF) (N : Nat) (M : sr_M) : va_W := (List.range N).map (fun k => (ad k, cf k (M.1 k) (M.2.1 k) (M.2.2 k)))
def sr_wI (M : sr_M) (k j : Nat) (v : Int32) : sr_M := (va_up M.1 k (upd (M.1 k) j v), M.2.1, M.2.2)
def sr_wJ (M : sr_M) (k j : Nat) (v : Int64) : sr_M := (M.1, va_up M.2.1 k (vp_updL (M.2.1 k) j v), M.2.2)
def sr_wD (M : sr_M) (k j : Nat) (v : UInt64) : sr_M := (M.1, M.2.1, va_up M.2.2 k (vf_upd (M.2.2 k) j v))
def sr_cI (M : sr_M) (k0 k sp dp n : Nat) : sr_M := (va_up M.1 k (va_cpy (M.1 k0) (M.1 k) sp dp n), M.2.1, M.2.2)
def sr_cJ (M : sr_M) (k0 k sp dp n : Nat) : sr_M := (M.1, va_up M.2.1 k (va_cpy (M.2.1 k0) (M.2.1 k) sp dp n), M.2.2)
theorem sr_w_get {ad : Nat → Nat} {cf : sr_CF} {N k : Nat} {M : sr_M} (hk : k < N) : (sr_w ad cf N M)[k]? = some (ad k, cf k (M.1 k) (M.2.1 k) (M.2.2 k)) := by
  simp [sr_w, hk]
theorem sr_w_of {ad : Nat → Nat} {cf : sr_CF} {N k : Nat} {M : sr_M} {q : Nat × va_E} (h : (sr_w ad cf N M)[k]? = some q) : k < N ∧ q = (ad k, cf k (M.1 k) (M.2.1 k) (M.2.2 k)) := by
  have hl := (List.getElem?_eq_some_iff.mp h).1
  have hk : k < N := by simpa [sr_w] using hl
  rw [sr_w_get hk] at h
  exact ⟨hk, (Option.some.inj h).symm⟩
theorem sr_w_set {ad : Nat → Nat} {cf : sr_CF} {N k : Nat} {M M' : sr_M} {e : va_E} (hk : k < N) (h1 : ∀ i, i ≠ k → M'.1 i = M.1 i ∧ M'.2.1 i = M.2.1 i ∧ M'.2.2 i = M.2.2 i) (he : e = cf k (M'.1 k) (M'.2.1 k) (M'.2.2 k)) : (sr_w ad cf N M).set k (ad k, e) = sr_w ad cf N M' := by
  apply List.ext_getElem?
  intro i
  by_cases hi : i = k
  · subst hi
    rw [sr_w_get hk, List.getElem?_set_self (by simpa [sr_w] using hk), he]
  · rw [List.getElem?_set_ne (Ne.symm hi)]
    by_cases h2 : i < N
    · obtain ⟨a, b, c⟩ := h1 i hi
      rw [sr_w_get h2, sr_w_get h2, a, b, c]
    · rw [List.getElem?_eq_none (by simp [sr_w]; omega), List.getElem?_eq_none (by simp [sr_w]; omega)]
def sr_H (D : va_G) (cl : List vw_C) (tys : List (ClassId × FieldType)) (ad : Nat → Nat) (cf : sr_CF) (N : Nat) (A : Nat → Prop) (s : State) (M : sr_M) (H : Heap) (locs : List Loc) : Prop :=
  va_K D cl tys s ∧ va_P D cl (sr_w ad cf N M) H ∧ va_D A (sr_w ad cf N M) ∧ va_S A s.heap H locs
-- the functions' words
noncomputable def sr_grd {ρ : Type} (P : Prop) (x : Option ρ) : Option ρ := @ite _ P (Classical.propDecidable P) x none
def sr_bnd {α β : Type} (x : α) (F : α → β) : β := F x
noncomputable def sr_ld {α ρ : Type} (i : Int32) (n : Nat) (x : Nat → α) (F : α → Option ρ) : Option ρ := sr_grd (vp_in i n) (F (x i.toNatClampNeg))
noncomputable def sr_st {ρ : Type} (i : Int32) (n : Nat) (M : sr_M) (k : Nat) (v : Int32) (F : sr_M → Option ρ) : Option ρ := sr_grd (vp_in i n) (F (sr_wI M k i.toNatClampNeg v))
noncomputable def sr_stB {ρ : Type} (i : Int32) (n : Nat) (M : sr_M) (k : Nat) (v : Int32) (F : sr_M → Option ρ) : Option ρ := sr_grd (vp_in i n ∧ (v = 0 ∨ v = 1)) (F (sr_wI M k i.toNatClampNeg v))
noncomputable def sr_stJ {ρ : Type} (i : Int32) (n : Nat) (M : sr_M) (k : Nat) (v : Int64) (F : sr_M → Option ρ) : Option ρ := sr_grd (vp_in i n) (F (sr_wJ M k i.toNatClampNeg v))
noncomputable def sr_stD {ρ : Type} (i : Int32) (n : Nat) (M : sr_M) (k : Nat) (v : UInt64) (F : sr_M → Option ρ) : Option ρ := sr_grd (vp_in i n) (F (sr_wD M k i.toNatClampNeg v))
def sr_put {ρ : Type} (M : sr_M) (k j : Nat) (v : Int32) (F : sr_M → Option ρ) : Option ρ := F (sr_wI M k j v)
noncomputable def sr_putB {ρ : Type} (M : sr_M) (k j : Nat) (v : Int32) (F : sr_M → Option ρ) : Option ρ := sr_grd (v = 0 ∨ v = 1) (F (sr_wI M k j v))
noncomputable def sr_cpI {ρ : Type} (M : sr_M) (k0 k : Nat) (n0 n1 : Nat) (sp dp n : Int32) (F : sr_M → Option ρ) : Option ρ := sr_grd ((¬ sp < 0 ∧ ¬ dp < 0 ∧ ¬ n < 0) ∧ sp.toNatClampNeg + n.toNatClampNeg ≤ n0 ∧ dp.toNatClampNeg + n.toNatClampNeg ≤ n1 ∧ ∀ i, i < n.toNatClampNeg → (M.1 k0 (sp.toNatClampNeg + i) = 0 ∨ M.1 k0 (sp.toNatClampNeg + i) = 1)) (F (sr_cI M k0 k sp.toNatClampNeg dp.toNatClampNeg n.toNatClampNeg))
noncomputable def sr_cpJ {ρ : Type} (M : sr_M) (k0 k : Nat) (n0 n1 : Nat) (sp dp n : Int32) (F : sr_M → Option ρ) : Option ρ := sr_grd ((¬ sp < 0 ∧ ¬ dp < 0 ∧ ¬ n < 0) ∧ sp.toNatClampNeg + n.toNatClampNeg ≤ n0 ∧ dp.toNatClampNeg + n.toNatClampNeg ≤ n1) (F (sr_cJ M k0 k sp.toNatClampNeg dp.toNatClampNeg n.toNatClampNeg))
def sr_jn {κ ρ : Type} (K : κ) (B : κ → ρ) : ρ := B K
def sr_se {α β ρ : Type} (F : α → ρ) (G : β → ρ) (x : α ⊕ β) : ρ := match x with
  | .inl a => F a
  | .inr b => G b
def sr_it {σ ρ : Type} (b : σ → Option (σ ⊕ ρ)) : Nat → σ → Option ρ
  | 0, _ => none
  | n + 1, s => match b s with
    | none => none
    | some (.inl t) => sr_it b n t
    | some (.inr r) => some r
noncomputable def sr_lp {σ ρ : Type} (b : σ → Option (σ ⊕ ρ)) (s : σ) : Option ρ := @dite _ (∃ r n, sr_it b n s = some r) (Classical.propDecidable _) (fun h => some (Classical.choose h)) (fun _ => none)
theorem sr_grd_some {ρ : Type} {P : Prop} {x : Option ρ} {y : ρ} (h : sr_grd P x = some y) : P ∧ x = some y := by
  unfold sr_grd at h
  by_cases hp : P
  · rw [if_pos hp] at h
    exact ⟨hp, h⟩
  · rw [if_neg hp] at h
    cases h
theorem sr_grd_t {ρ : Type} {P : Prop} {x : Option ρ} (hp : P) : sr_grd P x = x := by
  unfold sr_grd
  exact if_pos hp
theorem sr_it_det {σ ρ : Type} {b : σ → Option (σ ⊕ ρ)} : ∀ (n m : Nat) (s : σ) (x y : ρ), sr_it b n s = some x → sr_it b m s = some y → x = y := by
  intro n
  induction n with
  | zero => intro m s x y h; simp [sr_it] at h
  | succ n ih =>
    intro m s x y h1 h2
    cases m with
    | zero => simp [sr_it] at h2
    | succ m =>
      unfold sr_it at h1 h2
      cases hb : b s with
      | none => rw [hb] at h1; cases h1
      | some w =>
        rw [hb] at h1 h2
        cases w with
        | inl t => exact ih m t x y h1 h2
        | inr r => exact (Option.some.inj h1).symm.trans (Option.some.inj h2)
theorem sr_lp_iff {σ ρ : Type} {b : σ → Option (σ ⊕ ρ)} {s : σ} {x : ρ} : sr_lp b s = some x ↔ ∃ n, sr_it b n s = some x := by
  unfold sr_lp
  by_cases h : ∃ r n, sr_it b n s = some r
  · rw [dif_pos h]
    obtain ⟨n, hn⟩ := Classical.choose_spec h
    constructor
    · intro e
      exact ⟨n, by rw [hn, e]⟩
    · rintro ⟨m, hm⟩
      rw [sr_it_det n m s _ _ hn hm]
  · rw [dif_neg h]
    constructor
    · intro e; cases e
    · rintro ⟨m, hm⟩
      exact absurd ⟨x, m, hm⟩ h
theorem sr_lp_step {σ ρ : Type} {b : σ → Option (σ ⊕ ρ)} {s t : σ} {x : ρ} (h : b s = some (.inl t)) (h2 : sr_lp b t = some x) : sr_lp b s = some x := by
  obtain ⟨n, hn⟩ := sr_lp_iff.mp h2
  exact sr_lp_iff.mpr ⟨n + 1, by unfold sr_it; rw [h]; exact hn⟩
theorem sr_lp_end {σ ρ : Type} {b : σ → Option (σ ⊕ ρ)} {s : σ} {x : ρ} (h : b s = some (.inr x)) : sr_lp b s = some x :=
  sr_lp_iff.mpr ⟨1, by unfold sr_it; rw [h]⟩
theorem sr_lp_rule {σ ρ : Type} {b : σ → Option (σ ⊕ ρ)} {x : ρ} (P : σ → Prop) (hs : ∀ s y, b s = some y → (∀ t, y = .inl t → P t) → (∀ r, y = .inr r → r = x) → P s) {s : σ} (h : sr_lp b s = some x) : P s := by
  obtain ⟨n, hn⟩ := sr_lp_iff.mp h
  clear h
  induction n generalizing s with
  | zero => simp [sr_it] at hn
  | succ n ih =>
    unfold sr_it at hn
    cases hb : b s with
    | none => rw [hb] at hn; cases hn
    | some w =>
      rw [hb] at hn
      refine hs s w hb ?_ ?_
      · intro t e
        subst e
        exact ih hn
      · intro r e
        subst e
        exact Option.some.inj hn
theorem sr_bind {α ρ : Type} {x : Option α} {F : α → Option ρ} {y : ρ} (h : x.bind F = some y) : ∃ a, x = some a ∧ ∀ a', a' = a → F a' = some y := by
  cases x with
  | none => cases h
  | some a => exact ⟨a, rfl, fun a' e => by rw [e]; exact h⟩
theorem sr_jn_rule {κ ρ : Type} {K : κ} {B : κ → Option ρ} {y : ρ} {G : Prop} (T : κ → Prop) (h : sr_jn K B = some y) (hK : T K) (hB : ∀ K', T K' → B K' = some y → G) : G := hB K hK h
theorem sr_ifp {α : Type} {c : Prop} [Decidable c] {A B X : α} (h : ite c A B = X) (hc : c) : A = X := (if_pos hc).symm.trans h
theorem sr_ifn {α : Type} {c : Prop} [Decidable c] {A B X : α} (h : ite c A B = X) (hc : ¬ c) : B = X := (if_neg hc).symm.trans h
-- what a place is
def sr_ia (cf : sr_CF) (tys : List (ClassId × FieldType)) (N k n : Nat) (ty : FieldType) : Prop := k < N ∧ ∃ (cA : ClassId) (t0 : Nat), (∀ R L D, cf k R L D = .inl (cA, n, .inl R)) ∧ tys[t0]? = some (cA, ty)
def sr_ja (cf : sr_CF) (tys : List (ClassId × FieldType)) (N k n : Nat) : Prop := k < N ∧ ∃ (cA : ClassId) (t0 : Nat), (∀ R L D, cf k R L D = .inl (cA, n, .inr (.inl L))) ∧ tys[t0]? = some (cA, .long)
def sr_da (cf : sr_CF) (tys : List (ClassId × FieldType)) (N k n : Nat) : Prop := k < N ∧ ∃ (cA : ClassId) (t0 : Nat), (∀ R L D, cf k R L D = .inl (cA, n, .inr (.inr (.inr (.inl D))))) ∧ tys[t0]? = some (cA, .double)
def sr_qa (cf : sr_CF) (tys : List (ClassId × FieldType)) (N k n : Nat) (C : String) (f : Nat → Option Nat) : Prop := k < N ∧ ∃ (cA : ClassId) (t0 : Nat), (∀ R L D, cf k R L D = .inl (cA, n, .inr (.inr (.inr (.inr f))))) ∧ tys[t0]? = some (cA, .object C)
def sr_ob (cl : List vw_C) (cf : sr_CF) (N k : Nat) (C : String) : Prop := k < N ∧ ∃ (ci : Nat) (q : vw_C) (fs : (Nat → Int32) → List Value), cl[ci]? = some q ∧ q.1 = C ∧ ∀ R L D, cf k R L D = .inr (ci, fs R)
def sr_fi (cl : List vw_C) (cf : sr_CF) (N k : Nat) (C : String) (T : u_T) (N0 j : Nat) : Prop := k < N ∧ j < N0 ∧ (T j).1 = C ∧ ∃ (ci : Nat) (fs : (Nat → Int32) → List Value), cl[ci]? = some (C, T, N0) ∧ (∀ R L D, cf k R L D = .inr (ci, fs R)) ∧ (∀ R, (fs R)[j]? = some (.int (R j))) ∧ ∀ R v, (fs R).set j (.int v) = fs (upd R j v)
def sr_fr (cl : List vw_C) (cf : sr_CF) (N k : Nat) (C : String) (T : u_T) (N0 j a : Nat) : Prop := k < N ∧ j < N0 ∧ (T j).1 = C ∧ ∃ (ci : Nat) (fs : (Nat → Int32) → List Value), cl[ci]? = some (C, T, N0) ∧ (∀ R L D, cf k R L D = .inr (ci, fs R)) ∧ (∀ R, (fs R)[j]? = some (.ref a))
theorem sr_up_self {α : Type} {f : Nat → α} {k : Nat} {v : α} : va_up f k v k = v := by simp [va_up]
theorem sr_up_ne {α : Type} {f : Nat → α} {k i : Nat} {v : α} (h : i ≠ k) : va_up f k v i = f i := by simp [va_up, h]
section SRW
variable {p : Program} {l : Launch} {e : Env} {R : Room} {s : State} {m : MethodId} {args : Array Value} {below : List Frame} {meth : Method} {c : Code} {H : Heap} {locs : List Loc} {Q : State → Prop}
variable {cc : ByteArray} {pc : Nat} {ls : Array Slot} {rest : List Value}
variable {D : va_G} {cl : List vw_C} {tys : List (ClassId × FieldType)} {ad : Nat → Nat} {cf : sr_CF} {N : Nat} {A : Nat → Prop} {M : sr_M} {ρ : Type} {res : ρ}
theorem sr_iald (hx : p.tables.exec = Jvm.exec) (hb : c.code = cc) (hw : sr_H D cl tys ad cf N A s M H locs) {k n : Nat} (hs : sr_ia cf tys N k n .int) {i : Int32} {F : Int32 → Option ρ} (h : sr_ld i n (M.1 k) F = some res) (hdg : decode cc pc = .ok (.iaload, 1))
    (kk : ∀ v : Int32, F v = some res → W p l e R s m args below meth c H locs 0 0 Q (F0 m (pc + 1) ls (.int v :: rest))) : W p l e R s m args below meth c H locs 0 0 Q (F0 m pc ls (.int i :: .ref (ad k) :: rest)) := by
  obtain ⟨hin, h⟩ := sr_grd_some h
  obtain ⟨hk, cA, t0, hs, ht⟩ := hs
  exact va_iald hx hb hw.1 hw.2.1 k t0 (by rw [sr_w_get hk, hs]) ht hin hdg (kk _ h)
theorem sr_zald (hx : p.tables.exec = Jvm.exec) (hb : c.code = cc) (hw : sr_H D cl tys ad cf N A s M H locs) {k n : Nat} (hs : sr_ia cf tys N k n .boolean) {i : Int32} {F : Int32 → Option ρ} (h : sr_ld i n (M.1 k) F = some res) (hdg : decode cc pc = .ok (.baload, 1))
    (kk : ∀ v : Int32, F v = some res → W p l e R s m args below meth c H locs 0 0 Q (F0 m (pc + 1) ls (.int v :: rest))) : W p l e R s m args below meth c H locs 0 0 Q (F0 m pc ls (.int i :: .ref (ad k) :: rest)) := by
  obtain ⟨hin, h⟩ := sr_grd_some h
  obtain ⟨hk, cA, t0, hs, ht⟩ := hs
  exact va_zald hx hb hw.1 hw.2.1 k t0 (by rw [sr_w_get hk, hs]) ht hin hdg (kk _ h)
theorem sr_bald (hx : p.tables.exec = Jvm.exec) (hb : c.code = cc) (hw : sr_H D cl tys ad cf N A s M H locs) {k n : Nat} (hs : sr_ia cf tys N k n .byte) {i : Int32} {F : Int32 → Option ρ} (h : sr_ld i n (M.1 k) F = some res) (hdg : decode cc pc = .ok (.baload, 1))
    (kk : ∀ v : Int32, F v = some res → W p l e R s m args below meth c H locs 0 0 Q (F0 m (pc + 1) ls (.int v :: rest))) : W p l e R s m args below meth c H locs 0 0 Q (F0 m pc ls (.int i :: .ref (ad k) :: rest)) := by
  obtain ⟨hin, h⟩ := sr_grd_some h
  obtain ⟨hk, cA, t0, hs, ht⟩ := hs
  exact va_bald hx hb hw.1 hw.2.1 k t0 (by rw [sr_w_get hk, hs]) ht hin hdg (kk _ h)
theorem sr_lald (hx : p.tables.exec = Jvm.exec) (hb : c.code = cc) (hw : sr_H D cl tys ad cf N A s M H locs) {k n : Nat} (hs : sr_ja cf tys N k n) {i : Int32} {F : Int64 → Option ρ} (h : sr_ld i n (M.2.1 k) F = some res) (hdg : decode cc pc = .ok (.laload, 1))
    (kk : ∀ v : Int64, F v = some res → W p l e R s m args below meth c H locs 0 0 Q (F0 m (pc + 1) ls (.long v :: rest))) : W p l e R s m args below meth c H locs 0 0 Q (F0 m pc ls (.int i :: .ref (ad k) :: rest)) := by
  obtain ⟨hin, h⟩ := sr_grd_some h
  obtain ⟨hk, cA, t0, hs, ht⟩ := hs
  exact va_lald hx hb hw.1 hw.2.1 k t0 (by rw [sr_w_get hk, hs]) ht hin hdg (kk _ h)
theorem sr_dald (hx : p.tables.exec = Jvm.exec) (hb : c.code = cc) (hw : sr_H D cl tys ad cf N A s M H locs) {k n : Nat} (hs : sr_da cf tys N k n) {i : Int32} {F : UInt64 → Option ρ} (h : sr_ld i n (M.2.2 k) F = some res) (hdg : decode cc pc = .ok (.daload, 1))
    (kk : ∀ v : UInt64, F v = some res → W p l e R s m args below meth c H locs 0 0 Q (F0 m (pc + 1) ls (.double v :: rest))) : W p l e R s m args below meth c H locs 0 0 Q (F0 m pc ls (.int i :: .ref (ad k) :: rest)) := by
  obtain ⟨hin, h⟩ := sr_grd_some h
  obtain ⟨hk, cA, t0, hs, ht⟩ := hs
  exact va_dald hx hb hw.1 hw.2.1 k t0 (by rw [sr_w_get hk, hs]) ht hin hdg (kk _ h)
theorem sr_aald (hx : p.tables.exec = Jvm.exec) (hb : c.code = cc) (hw : sr_H D cl tys ad cf N A s M H locs) {k n : Nat} {C : String} {f : Nat → Option Nat} (hs : sr_qa cf tys N k n C f) {i : Int32} {b : Nat} {x : Option ρ} (h : sr_grd (vp_in i n) x = some res) (hf : vp_in i n → f i.toNatClampNeg = some b) (hdg : decode cc pc = .ok (.aaload, 1))
    (kk : vp_in i n → x = some res → W p l e R s m args below meth c H locs 0 0 Q (F0 m (pc + 1) ls (.ref b :: rest))) : W p l e R s m args below meth c H locs 0 0 Q (F0 m pc ls (.int i :: .ref (ad k) :: rest)) := by
  obtain ⟨hin, h⟩ := sr_grd_some h
  obtain ⟨hk, cA, t0, hs, ht⟩ := hs
  refine va_aldq hx hb hw.1 hw.2.1 k t0 (by rw [sr_w_get hk, hs]) ht hin hdg ?_
  rw [hf hin]
  exact kk hin h
theorem sr_H_set (hw : sr_H D cl tys ad cf N A s M H locs) {k : Nat} {M' : sr_M} {e0 : va_E} {H1 : Heap} {locs1 : List Loc} (hk : k < N) (h1 : ∀ i, i ≠ k → M'.1 i = M.1 i ∧ M'.2.1 i = M.2.1 i ∧ M'.2.2 i = M.2.2 i) (he : e0 = cf k (M'.1 k) (M'.2.1 k) (M'.2.2 k)) (hP : va_P D cl ((sr_w ad cf N M).set k (ad k, e0)) H1) (hD : va_D A ((sr_w ad cf N M).set k (ad k, e0))) (hS : va_S A s.heap H1 locs1) : sr_H D cl tys ad cf N A s M' H1 locs1 := by
  rw [sr_w_set hk h1 he] at hP hD
  exact ⟨hw.1, hP, hD, hS⟩
theorem sr_iast (hx : p.tables.exec = Jvm.exec) (hb : c.code = cc) (hw : sr_H D cl tys ad cf N A s M H locs) {k n : Nat} (hs : sr_ia cf tys N k n .int) {i v : Int32} {F : sr_M → Option ρ} (h : sr_st i n M k v F = some res) (hdg : decode cc pc = .ok (.iastore, 1))
    (kk : ∀ (M1 : sr_M) (H1 : Heap) (locs1 : List Loc), F M1 = some res → sr_H D cl tys ad cf N A s M1 H1 locs1 → W p l e R s m args below meth c H1 locs1 0 0 Q (F0 m (pc + 1) ls rest)) : W p l e R s m args below meth c H locs 0 0 Q (F0 m pc ls (.int v :: .int i :: .ref (ad k) :: rest)) := by
  obtain ⟨hin, h⟩ := sr_grd_some h
  obtain ⟨hk, cA, t0, hs, ht⟩ := hs
  refine va_iast hx hb hw.1 hw.2.1 hw.2.2.1 hw.2.2.2 k t0 (by rw [sr_w_get hk, hs]) ht hin hdg (fun H1 locs1 hP hD hS => kk _ H1 locs1 h (sr_H_set hw hk (fun i hi => ⟨sr_up_ne hi, rfl, rfl⟩) ?_ hP hD hS))
  rw [hs]
  simp only [sr_wI, sr_up_self]
theorem sr_zast (hx : p.tables.exec = Jvm.exec) (hb : c.code = cc) (hw : sr_H D cl tys ad cf N A s M H locs) {k n : Nat} (hs : sr_ia cf tys N k n .boolean) {i v : Int32} {F : sr_M → Option ρ} (h : sr_stB i n M k v F = some res) (hdg : decode cc pc = .ok (.bastore, 1))
    (kk : ∀ (M1 : sr_M) (H1 : Heap) (locs1 : List Loc), F M1 = some res → sr_H D cl tys ad cf N A s M1 H1 locs1 → W p l e R s m args below meth c H1 locs1 0 0 Q (F0 m (pc + 1) ls rest)) : W p l e R s m args below meth c H locs 0 0 Q (F0 m pc ls (.int v :: .int i :: .ref (ad k) :: rest)) := by
  obtain ⟨⟨hin, hv⟩, h⟩ := sr_grd_some h
  obtain ⟨hk, cA, t0, hs, ht⟩ := hs
  have hn : vp_nar .boolean v = v := by rcases hv with rfl | rfl <;> rfl
  refine va_zast hx hb hw.1 hw.2.1 hw.2.2.1 hw.2.2.2 k t0 (by rw [sr_w_get hk, hs]) ht hin hdg (fun H1 locs1 hP hD hS => kk _ H1 locs1 h (sr_H_set hw hk (fun i hi => ⟨sr_up_ne hi, rfl, rfl⟩) ?_ hP hD hS))
  rw [hs, hn]
  simp only [sr_wI, sr_up_self]
theorem sr_bast (hx : p.tables.exec = Jvm.exec) (hb : c.code = cc) (hw : sr_H D cl tys ad cf N A s M H locs) {k n : Nat} (hs : sr_ia cf tys N k n .byte) {i v : Int32} {F : sr_M → Option ρ} (h : sr_stB i n M k v F = some res) (hdg : decode cc pc = .ok (.bastore, 1))
    (kk : ∀ (M1 : sr_M) (H1 : Heap) (locs1 : List Loc), F M1 = some res → sr_H D cl tys ad cf N A s M1 H1 locs1 → W p l e R s m args below meth c H1 locs1 0 0 Q (F0 m (pc + 1) ls rest)) : W p l e R s m args below meth c H locs 0 0 Q (F0 m pc ls (.int v :: .int i :: .ref (ad k) :: rest)) := by
  obtain ⟨⟨hin, hv⟩, h⟩ := sr_grd_some h
  obtain ⟨hk, cA, t0, hs, ht⟩ := hs
  have hn : vp_nar .byte v = v := by rcases hv with rfl | rfl <;> rfl
  refine va_bast hx hb hw.1 hw.2.1 hw.2.2.1 hw.2.2.2 k t0 (by rw [sr_w_get hk, hs]) ht hin hdg (fun H1 locs1 hP hD hS => kk _ H1 locs1 h (sr_H_set hw hk (fun i hi => ⟨sr_up_ne hi, rfl, rfl⟩) ?_ hP hD hS))
  rw [hs, hn]
  simp only [sr_wI, sr_up_self]
theorem sr_last (hx : p.tables.exec = Jvm.exec) (hb : c.code = cc) (hw : sr_H D cl tys ad cf N A s M H locs) {k n : Nat} (hs : sr_ja cf tys N k n) {i : Int32} {v : Int64} {F : sr_M → Option ρ} (h : sr_stJ i n M k v F = some res) (hdg : decode cc pc = .ok (.lastore, 1))
    (kk : ∀ (M1 : sr_M) (H1 : Heap) (locs1 : List Loc), F M1 = some res → sr_H D cl tys ad cf N A s M1 H1 locs1 → W p l e R s m args below meth c H1 locs1 0 0 Q (F0 m (pc + 1) ls rest)) : W p l e R s m args below meth c H locs 0 0 Q (F0 m pc ls (.long v :: .int i :: .ref (ad k) :: rest)) := by
  obtain ⟨hin, h⟩ := sr_grd_some h
  obtain ⟨hk, cA, t0, hs, ht⟩ := hs
  refine va_last hx hb hw.1 hw.2.1 hw.2.2.1 hw.2.2.2 k t0 (by rw [sr_w_get hk, hs]) ht hin hdg (fun H1 locs1 hP hD hS => kk _ H1 locs1 h (sr_H_set hw hk (fun i hi => ⟨rfl, sr_up_ne hi, rfl⟩) ?_ hP hD hS))
  rw [hs]
  simp only [sr_wJ, sr_up_self]
theorem sr_dast (hx : p.tables.exec = Jvm.exec) (hb : c.code = cc) (hw : sr_H D cl tys ad cf N A s M H locs) {k n : Nat} (hs : sr_da cf tys N k n) {i : Int32} {v : UInt64} {F : sr_M → Option ρ} (h : sr_stD i n M k v F = some res) (hdg : decode cc pc = .ok (.dastore, 1))
    (kk : ∀ (M1 : sr_M) (H1 : Heap) (locs1 : List Loc), F M1 = some res → sr_H D cl tys ad cf N A s M1 H1 locs1 → W p l e R s m args below meth c H1 locs1 0 0 Q (F0 m (pc + 1) ls rest)) : W p l e R s m args below meth c H locs 0 0 Q (F0 m pc ls (.double v :: .int i :: .ref (ad k) :: rest)) := by
  obtain ⟨hin, h⟩ := sr_grd_some h
  obtain ⟨hk, cA, t0, hs, ht⟩ := hs
  refine va_dast hx hb hw.1 hw.2.1 hw.2.2.1 hw.2.2.2 k t0 (by rw [sr_w_get hk, hs]) ht hin hdg (fun H1 locs1 hP hD hS => kk _ H1 locs1 h (sr_H_set hw hk (fun i hi => ⟨rfl, rfl, sr_up_ne hi⟩) ?_ hP hD hS))
  rw [hs]
  simp only [sr_wD, sr_up_self]
theorem sr_geti (hx : p.tables.exec = Jvm.exec) (hb : c.code = cc) {own C : String} {T : u_T} {N0 index j k : Nat} {Ts : List Cond} (hts : ∀ w ∈ Ts, w.before args s = true) (hin : ∀ w ∈ u_ws C T N0, w ∈ Ts) (hown : s.vm.findClass own = some m.cls) (hw : sr_H D cl tys ad cf N A s M H locs) (hf : sr_fi cl cf N k C T N0 j) (hlink : (Cond.fieldLink own index C (T j).2.1 (T j).2.2.1).before args s = true) {F : Int32 → Option ρ} (h : sr_bnd (M.1 k j) F = some res) (hdg : decode cc pc = .ok (.getfield index, 3))
    (kk : ∀ v : Int32, F v = some res → W p l e R s m args below meth c H locs 0 0 Q (F0 m (pc + 3) ls (.int v :: rest))) : W p l e R s m args below meth c H locs 0 0 Q (F0 m pc ls (.ref (ad k) :: rest)) := by
  obtain ⟨hk, hj, hC, ci, fs, hc, hs, hv, -⟩ := hf
  exact va_get hx hb hts hin hown hw.1 hw.2.1 k (by rw [sr_w_get hk, hs]) hc j hj hlink (fun x hx => by rw [hC] at hx; exact hx) (hv _) hdg (kk _ h)
theorem sr_getr (hx : p.tables.exec = Jvm.exec) (hb : c.code = cc) {own C : String} {T : u_T} {N0 index j k a : Nat} {Ts : List Cond} (hts : ∀ w ∈ Ts, w.before args s = true) (hin : ∀ w ∈ u_ws C T N0, w ∈ Ts) (hown : s.vm.findClass own = some m.cls) (hw : sr_H D cl tys ad cf N A s M H locs) (hf : sr_fr cl cf N k C T N0 j a) (hlink : (Cond.fieldLink own index C (T j).2.1 (T j).2.2.1).before args s = true) (hdg : decode cc pc = .ok (.getfield index, 3))
    (kk : W p l e R s m args below meth c H locs 0 0 Q (F0 m (pc + 3) ls (.ref a :: rest))) : W p l e R s m args below meth c H locs 0 0 Q (F0 m pc ls (.ref (ad k) :: rest)) := by
  obtain ⟨hk, hj, hC, ci, fs, hc, hs, hv⟩ := hf
  exact va_get hx hb hts hin hown hw.1 hw.2.1 k (by rw [sr_w_get hk, hs]) hc j hj hlink (fun x hx => by rw [hC] at hx; exact hx) (hv _) hdg kk
theorem sr_puti (hx : p.tables.exec = Jvm.exec) (hb : c.code = cc) {own C : String} {T : u_T} {N0 index j k : Nat} {Ts : List Cond} (hts : ∀ w ∈ Ts, w.before args s = true) (hin : ∀ w ∈ u_ws C T N0, w ∈ Ts) (ty0 : Nat → FieldType) (hty : ∀ k, k < N0 → parseFieldDescriptor (T k).2.2.1 = some (ty0 k)) (hnm : ∀ a, a < N0 → ∀ b, b < N0 → a ≠ b → (T a).2.1 ≠ (T b).2.1) (hown : s.vm.findClass own = some m.cls) (hw : sr_H D cl tys ad cf N A s M H locs) (hf : sr_fi cl cf N k C T N0 j) (hfin : (T j).2.2.2 = false) (hd : ty0 j = .int) (hlink : (Cond.fieldLink own index C (T j).2.1 (T j).2.2.1).before args s = true) {v : Int32} {F : sr_M → Option ρ} (h : sr_put M k j v F = some res) (hdg : decode cc pc = .ok (.putfield index, 3))
    (kk : ∀ (M1 : sr_M) (H1 : Heap) (locs1 : List Loc), F M1 = some res → sr_H D cl tys ad cf N A s M1 H1 locs1 → W p l e R s m args below meth c H1 locs1 0 0 Q (F0 m (pc + 3) ls rest)) : W p l e R s m args below meth c H locs 0 0 Q (F0 m pc ls (.int v :: .ref (ad k) :: rest)) := by
  obtain ⟨hk, hj, hC, ci, fs, hc, hs, hv, hset⟩ := hf
  refine va_put hx hb hts hin ty0 hty hnm hown hw.1 hw.2.1 hw.2.2.1 hw.2.2.2 k (by rw [sr_w_get hk, hs]) hc j hj hlink (fun x hx => by rw [hC] at hx; exact hx) hfin (by rw [hty j hj, hd]) (ty := .int) (v := .int v) rfl rfl ((List.getElem?_eq_some_iff.mp (hv _)).1) hdg (fun H1 locs1 hP hD hS => kk _ H1 locs1 h (sr_H_set hw hk (fun i hi => ⟨sr_up_ne hi, rfl, rfl⟩) ?_ hP hD hS))
  rw [hs, hset]
  simp only [sr_wI, sr_up_self]
theorem sr_putz (hx : p.tables.exec = Jvm.exec) (hb : c.code = cc) {own C : String} {T : u_T} {N0 index j k : Nat} {Ts : List Cond} (hts : ∀ w ∈ Ts, w.before args s = true) (hin : ∀ w ∈ u_ws C T N0, w ∈ Ts) (ty0 : Nat → FieldType) (hty : ∀ k, k < N0 → parseFieldDescriptor (T k).2.2.1 = some (ty0 k)) (hnm : ∀ a, a < N0 → ∀ b, b < N0 → a ≠ b → (T a).2.1 ≠ (T b).2.1) (hown : s.vm.findClass own = some m.cls) (hw : sr_H D cl tys ad cf N A s M H locs) (hf : sr_fi cl cf N k C T N0 j) (hfin : (T j).2.2.2 = false) (hd : ty0 j = .boolean) (hlink : (Cond.fieldLink own index C (T j).2.1 (T j).2.2.1).before args s = true) {v : Int32} {F : sr_M → Option ρ} (h : sr_putB M k j v F = some res) (hdg : decode cc pc = .ok (.putfield index, 3))
    (kk : ∀ (M1 : sr_M) (H1 : Heap) (locs1 : List Loc), F M1 = some res → sr_H D cl tys ad cf N A s M1 H1 locs1 → W p l e R s m args below meth c H1 locs1 0 0 Q (F0 m (pc + 3) ls rest)) : W p l e R s m args below meth c H locs 0 0 Q (F0 m pc ls (.int v :: .ref (ad k) :: rest)) := by
  obtain ⟨hv1, h⟩ := sr_grd_some h
  obtain ⟨hk, hj, hC, ci, fs, hc, hs, hv, hset⟩ := hf
  refine va_put hx hb hts hin ty0 hty hnm hown hw.1 hw.2.1 hw.2.2.1 hw.2.2.2 k (by rw [sr_w_get hk, hs]) hc j hj hlink (fun x hx => by rw [hC] at hx; exact hx) hfin (by rw [hty j hj, hd]) (ty := .boolean) (v := .int v) (by rcases hv1 with rfl | rfl <;> rfl) (by rcases hv1 with rfl | rfl <;> rfl) ((List.getElem?_eq_some_iff.mp (hv _)).1) hdg (fun H1 locs1 hP hD hS => kk _ H1 locs1 h (sr_H_set hw hk (fun i hi => ⟨sr_up_ne hi, rfl, rfl⟩) ?_ hP hD hS))
  rw [hs, hset]
  simp only [sr_wI, sr_up_self]
end SRW
-- contracts
def sr_Pc (D : va_G) (cl : List vw_C) (tys : List (ClassId × FieldType)) (ad : Nat → Nat) (cf : sr_CF) (N : Nat) (as : List Value) (M : sr_M) (sz : Nat) : Array Value → State → Prop := va_Pc as (fun U => U.heap.size = sz ∧ va_P D cl (sr_w ad cf N M) U.heap ∧ va_K D cl tys U ∧ va_D (fun _ => True) (sr_w ad cf N M))
def sr_B (D : va_G) (cl : List vw_C) (tys : List (ClassId × FieldType)) (ad : Nat → Nat) (cf : sr_CF) (N : Nat) (A : Nat → Prop) (u : sr_M) (t : State) : Prop := va_P D cl (sr_w ad cf N u) t.heap ∧ va_K D cl tys t ∧ va_D A (sr_w ad cf N u)
def sr_Mi (l : Launch) (D : va_G) (cl : List vw_C) (tys : List (ClassId × FieldType)) (ad : Nat → Nat) (cf : sr_CF) (N : Nat) (y : MethodName) (ws : List Cond) (rm : Room) (as : List Value) (M : sr_M) (r : Int32) (M' : sr_M) : Prop :=
  ∀ sz : Nat, Met l y ws rm (sr_Pc D cl tys ad cf N as M sz) (va_Qi (fun (r2 : Int32) (u : sr_M) => r2 = r ∧ u = M') (sr_B D cl tys ad cf N (va_A (sr_w ad cf N M) sz)) (va_A (sr_w ad cf N M) sz)) 0 0 (va_A (sr_w ad cf N M) sz)
def sr_Ml (l : Launch) (D : va_G) (cl : List vw_C) (tys : List (ClassId × FieldType)) (ad : Nat → Nat) (cf : sr_CF) (N : Nat) (y : MethodName) (ws : List Cond) (rm : Room) (as : List Value) (M : sr_M) (r : Int64) (M' : sr_M) : Prop :=
  ∀ sz : Nat, Met l y ws rm (sr_Pc D cl tys ad cf N as M sz) (va_Ql (fun (r2 : Int64) (u : sr_M) => r2 = r ∧ u = M') (sr_B D cl tys ad cf N (va_A (sr_w ad cf N M) sz)) (va_A (sr_w ad cf N M) sz)) 0 0 (va_A (sr_w ad cf N M) sz)
def sr_Mv (l : Launch) (D : va_G) (cl : List vw_C) (tys : List (ClassId × FieldType)) (ad : Nat → Nat) (cf : sr_CF) (N : Nat) (y : MethodName) (ws : List Cond) (rm : Room) (as : List Value) (M : sr_M) (M' : sr_M) : Prop :=
  ∀ sz : Nat, Met l y ws rm (sr_Pc D cl tys ad cf N as M sz) (va_Qv (fun (u : sr_M) => u = M') (sr_B D cl tys ad cf N (va_A (sr_w ad cf N M) sz)) (va_A (sr_w ad cf N M) sz)) 0 0 (va_A (sr_w ad cf N M) sz)
theorem sr_open_i {l : Launch} {D : va_G} {cl : List vw_C} {tys : List (ClassId × FieldType)} {ad : Nat → Nat} {cf : sr_CF} {N : Nat} {y : MethodName} {ws ws' : List Cond} {rm : Room} {cc : ByteArray} {maxL : Nat} {as : List Value} {M M' : sr_M} {r : Int32} {ty : FieldType} (hy : plainName y.cls = true) (hws : ws = .code y cc maxL (some ty) :: ws') (hlen : (lg_sl as).length ≤ maxL)
    (body : ∀ (p : Program) (e : Env) (s : State) (m : MethodId) (args : Array Value) (below : List Frame) (meth : Method) (c : Code) (A : Nat → Prop) (Q : State → Prop) (ls : Array Slot), p.tables.exec = Jvm.exec → c.code = cc → c.maxLocals = maxL → (∀ w ∈ ws, w.before args s = true) → s.vm.findClass y.cls = some m.cls → (∀ q : Nat, s.heap.size ≤ q → A q) → sr_H D cl tys ad cf N A s M s.heap [] → lv_has ls maxL (lv_args 0 as) →
      (∀ (H : Heap) (locs : List Loc) (ls : Array Slot) (pc : Nat), sr_H D cl tys ad cf N A s M' H locs → narrow ty (.int r) = .int r → decode cc pc = .ok (.ireturn, 1) → W p l e rm s m args below meth c H locs 0 0 Q (F0 m pc ls [.int r])) → W p l e rm s m args below meth c s.heap [] 0 0 Q (F0 m 0 ls [])) : sr_Mi l D cl tys ad cf N y ws rm as M r M' := by
  intro sz
  refine Met.ofW (cc := cc) (maxL := maxL) (ret := some ty) hy hws ?_
  intro p e s m args below meth c s₁ B hml hv
  obtain ⟨rfl, hsz, hP, hK, hD0⟩ := hv
  subst hsz
  rw [lg_entry_eq]
  refine body p e s m _ below meth c (va_A (sr_w ad cf N M) s.heap.size) _ _ B.exec B.bytes hml (atoms_spec (ws := ws) B.pre) (findClass_of_methodNamed B.named) (fun q h => Or.inr h) ⟨hK, hP, hD0.self, va_S.rf⟩ (lv_entry as hlen) ?_
  intro H locs ls pc hw hn hdg
  exact W.zret B.exec B.bytes B.returns hn (fun t ht hW => ⟨⟨r, M', rfl, ⟨rfl, rfl⟩, by rw [ht]; exact hw.2.1, va_K.moved hW.alike hw.1, hw.2.2.1⟩, hw.2.2.2.F ht⟩) hw.2.2.2.2.2 hdg B.notSynchronized
theorem sr_open_l {l : Launch} {D : va_G} {cl : List vw_C} {tys : List (ClassId × FieldType)} {ad : Nat → Nat} {cf : sr_CF} {N : Nat} {y : MethodName} {ws ws' : List Cond} {rm : Room} {cc : ByteArray} {maxL : Nat} {as : List Value} {M M' : sr_M} {r : Int64} (hy : plainName y.cls = true) (hws : ws = .code y cc maxL (some .long) :: ws') (hlen : (lg_sl as).length ≤ maxL)
    (body : ∀ (p : Program) (e : Env) (s : State) (m : MethodId) (args : Array Value) (below : List Frame) (meth : Method) (c : Code) (A : Nat → Prop) (Q : State → Prop) (ls : Array Slot), p.tables.exec = Jvm.exec → c.code = cc → c.maxLocals = maxL → (∀ w ∈ ws, w.before args s = true) → s.vm.findClass y.cls = some m.cls → (∀ q : Nat, s.heap.size ≤ q → A q) → sr_H D cl tys ad cf N A s M s.heap [] → lv_has ls maxL (lv_args 0 as) →
      (∀ (H : Heap) (locs : List Loc) (ls : Array Slot) (pc : Nat), sr_H D cl tys ad cf N A s M' H locs → decode cc pc = .ok (.lreturn, 1) → W p l e rm s m args below meth c H locs 0 0 Q (F0 m pc ls [.long r])) → W p l e rm s m args below meth c s.heap [] 0 0 Q (F0 m 0 ls [])) : sr_Ml l D cl tys ad cf N y ws rm as M r M' := by
  intro sz
  refine Met.ofW (cc := cc) (maxL := maxL) (ret := some .long) hy hws ?_
  intro p e s m args below meth c s₁ B hml hv
  obtain ⟨rfl, hsz, hP, hK, hD0⟩ := hv
  subst hsz
  rw [lg_entry_eq]
  refine body p e s m _ below meth c (va_A (sr_w ad cf N M) s.heap.size) _ _ B.exec B.bytes hml (atoms_spec (ws := ws) B.pre) (findClass_of_methodNamed B.named) (fun q h => Or.inr h) ⟨hK, hP, hD0.self, va_S.rf⟩ (lv_entry as hlen) ?_
  intro H locs ls pc hw hdg
  exact W.lret B.exec B.bytes B.returns (fun t ht hW => ⟨⟨r, M', rfl, ⟨rfl, rfl⟩, by rw [ht]; exact hw.2.1, va_K.moved hW.alike hw.1, hw.2.2.1⟩, hw.2.2.2.F ht⟩) hw.2.2.2.2.2 hdg B.notSynchronized
theorem sr_open_v {l : Launch} {D : va_G} {cl : List vw_C} {tys : List (ClassId × FieldType)} {ad : Nat → Nat} {cf : sr_CF} {N : Nat} {y : MethodName} {ws ws' : List Cond} {rm : Room} {cc : ByteArray} {maxL : Nat} {as : List Value} {M M' : sr_M} (hy : plainName y.cls = true) (hws : ws = .code y cc maxL none :: ws') (hlen : (lg_sl as).length ≤ maxL)
    (body : ∀ (p : Program) (e : Env) (s : State) (m : MethodId) (args : Array Value) (below : List Frame) (meth : Method) (c : Code) (A : Nat → Prop) (Q : State → Prop) (ls : Array Slot), p.tables.exec = Jvm.exec → c.code = cc → c.maxLocals = maxL → (∀ w ∈ ws, w.before args s = true) → s.vm.findClass y.cls = some m.cls → (∀ q : Nat, s.heap.size ≤ q → A q) → sr_H D cl tys ad cf N A s M s.heap [] → lv_has ls maxL (lv_args 0 as) →
      (∀ (H : Heap) (locs : List Loc) (ls : Array Slot) (pc : Nat), sr_H D cl tys ad cf N A s M' H locs → decode cc pc = .ok (.return_, 1) → W p l e rm s m args below meth c H locs 0 0 Q (F0 m pc ls [])) → W p l e rm s m args below meth c s.heap [] 0 0 Q (F0 m 0 ls [])) : sr_Mv l D cl tys ad cf N y ws rm as M M' := by
  intro sz
  refine Met.ofW (cc := cc) (maxL := maxL) (ret := none) hy hws ?_
  intro p e s m args below meth c s₁ B hml hv
  obtain ⟨rfl, hsz, hP, hK, hD0⟩ := hv
  subst hsz
  rw [lg_entry_eq]
  refine body p e s m _ below meth c (va_A (sr_w ad cf N M) s.heap.size) _ _ B.exec B.bytes hml (atoms_spec (ws := ws) B.pre) (findClass_of_methodNamed B.named) (fun q h => Or.inr h) ⟨hK, hP, hD0.self, va_S.rf⟩ (lv_entry as hlen) ?_
  intro H locs ls pc hw hdg
  exact W.vret B.exec B.bytes B.returns (fun t ht hW => ⟨⟨M', rfl, rfl, by rw [ht]; exact hw.2.1, va_K.moved hW.alike hw.1, hw.2.2.1⟩, hw.2.2.2.F ht⟩) hw.2.2.2.2.2 hdg B.notSynchronized
theorem sr_blind {D : va_G} {cl : List vw_C} {tys : List (ClassId × FieldType)} {ad : Nat → Nat} {cf : sr_CF} {N : Nat} {as : List Value} {M : sr_M} {sz : Nat} : FrameBlind (sr_Pc D cl tys ad cf N as M sz) := by
  intro a U g mk q
  obtain ⟨q0, q1, qP, qK, qD⟩ := q
  exact ⟨q0, q1, qP, va_K.moved (u := U) (U := U.calling g mk a) (Vm.Alike.refl U.vm) qK, qD⟩
theorem sr_free {ad : Nat → Nat} {cf : sr_CF} {N : Nat} {M : sr_M} {A : Nat → Prop} {H0 H : Heap} {locs : List Loc} (hD : va_D A (sr_w ad cf N M)) (hS : va_S A H0 H locs) (hA : ∀ q : Nat, H0.size ≤ q → A q) : ∀ q, va_A (sr_w ad cf N M) H.size q → A q := by
  intro q h
  rcases h with ⟨k, e, h⟩ | h
  · exact hD.2 k (q, e) h
  · exact hA q (Nat.le_trans hS.1 h)
section SRC
variable {p : Program} {l : Launch} {e : Env} {R : Room} {s : State} {m : MethodId} {args : Array Value} {below : List Frame} {meth : Method} {c : Code} {H : Heap} {locs : List Loc} {Q : State → Prop}
variable {cc : ByteArray} {pc nL : Nat} {ls : Array Slot} {rest st0 : List Value}
variable {D : va_G} {cl : List vw_C} {tys : List (ClassId × FieldType)} {ad : Nat → Nat} {cf : sr_CF} {N : Nat} {A : Nat → Prop} {M M1 : sr_M}
variable {y : MethodName} {bytes : ByteArray} {maxL n index : Nat} {ret : Option FieldType} {ws : List Cond} {rm : Room} {Ts : List Cond} {own C : String} {As : List Value}
theorem sr_cVi {r : Int32} {k : Nat} (S : CallFix p m c cc nL s args Ts own) (hM : sr_Mi l D cl tys ad cf N y ws rm (.ref (ad k) :: As) M r M1) (cw : CallW R s args own C index y bytes maxL ret ws rm 0 0 n) (hw : sr_H D cl tys ad cf N A s M H locs) (hA : ∀ q : Nat, s.heap.size ≤ q → A q) (hob : sr_ob cl cf N k C) (hn : As.length = n) (hls : ls.size = nL) (hst : st0 = As.reverse ++ .ref (ad k) :: rest) (hW : (rest.map fun v => v.category).sum ≤ 8) (hdg : decode cc pc = .ok (.invokevirtual index, 3))
    (kk : ∀ (H1 : Heap) (locs1 : List Loc), sr_H D cl tys ad cf N A s M1 H1 locs1 → W p l e R s m args below meth c H1 locs1 0 0 Q (F0 m (pc + 3) ls (.int r :: rest))) : W p l e R s m args below meth c H locs 0 0 Q (F0 m pc ls st0) := by
  obtain ⟨hk, ci, q, fs, hc, hqC, hs⟩ := hob
  have hF := sr_free hw.2.2.1 hw.2.2.2 hA
  refine va_calli (va_runV (As := As) (rest := rest) S (hM H.size) cw ⟨sr_blind, ?_, fun U hU hW => ⟨rfl, by rw [hU], by rw [hU]; exact hw.2.1, va_K.moved hW.alike hw.1, hw.2.2.1.weaken (fun _ _ _ _ => trivial)⟩⟩ rfl hn hls hst (lv_room hW) hdg ⟨Nat.zero_le _, Nat.zero_le _⟩) hw.2.2.2 (fun q _ h => hF q h) hF (fun r2 u t H1 locs1 ht hvm hr hB hz hk1 hS => ?_)
  · have h := va_recv hw.1 hw.2.1 hc (q0 := k) (by rw [sr_w_get hk, hs])
    rw [hqC] at h
    exact h
  · obtain ⟨rfl, rfl⟩ := hr
    obtain ⟨hP1, hK1, hD1⟩ := hB
    rw [ht] at hP1
    exact kk H1 locs1 ⟨va_K.moved hvm.symm hK1, hP1, hD1.weaken (fun _ q _ h => hF q.1 h), hS⟩
theorem sr_cVl {r : Int64} {k : Nat} (S : CallFix p m c cc nL s args Ts own) (hM : sr_Ml l D cl tys ad cf N y ws rm (.ref (ad k) :: As) M r M1) (cw : CallW R s args own C index y bytes maxL ret ws rm 0 0 n) (hw : sr_H D cl tys ad cf N A s M H locs) (hA : ∀ q : Nat, s.heap.size ≤ q → A q) (hob : sr_ob cl cf N k C) (hn : As.length = n) (hls : ls.size = nL) (hst : st0 = As.reverse ++ .ref (ad k) :: rest) (hW : (rest.map fun v => v.category).sum ≤ 8) (hdg : decode cc pc = .ok (.invokevirtual index, 3))
    (kk : ∀ (H1 : Heap) (locs1 : List Loc), sr_H D cl tys ad cf N A s M1 H1 locs1 → W p l e R s m args below meth c H1 locs1 0 0 Q (F0 m (pc + 3) ls (.long r :: rest))) : W p l e R s m args below meth c H locs 0 0 Q (F0 m pc ls st0) := by
  obtain ⟨hk, ci, q, fs, hc, hqC, hs⟩ := hob
  have hF := sr_free hw.2.2.1 hw.2.2.2 hA
  refine va_calll (va_runV (As := As) (rest := rest) S (hM H.size) cw ⟨sr_blind, ?_, fun U hU hW => ⟨rfl, by rw [hU], by rw [hU]; exact hw.2.1, va_K.moved hW.alike hw.1, hw.2.2.1.weaken (fun _ _ _ _ => trivial)⟩⟩ rfl hn hls hst (lv_room hW) hdg ⟨Nat.zero_le _, Nat.zero_le _⟩) hw.2.2.2 (fun q _ h => hF q h) hF (fun r2 u t H1 locs1 ht hvm hr hB hz hk1 hS => ?_)
  · have h := va_recv hw.1 hw.2.1 hc (q0 := k) (by rw [sr_w_get hk, hs])
    rw [hqC] at h
    exact h
  · obtain ⟨rfl, rfl⟩ := hr
    obtain ⟨hP1, hK1, hD1⟩ := hB
    rw [ht] at hP1
    exact kk H1 locs1 ⟨va_K.moved hvm.symm hK1, hP1, hD1.weaken (fun _ q _ h => hF q.1 h), hS⟩
theorem sr_cVv {k : Nat} (S : CallFix p m c cc nL s args Ts own) (hM : sr_Mv l D cl tys ad cf N y ws rm (.ref (ad k) :: As) M M1) (cw : CallW R s args own C index y bytes maxL ret ws rm 0 0 n) (hw : sr_H D cl tys ad cf N A s M H locs) (hA : ∀ q : Nat, s.heap.size ≤ q → A q) (hob : sr_ob cl cf N k C) (hn : As.length = n) (hls : ls.size = nL) (hst : st0 = As.reverse ++ .ref (ad k) :: rest) (hW : (rest.map fun v => v.category).sum ≤ 8) (hdg : decode cc pc = .ok (.invokevirtual index, 3))
    (kk : ∀ (H1 : Heap) (locs1 : List Loc), sr_H D cl tys ad cf N A s M1 H1 locs1 → W p l e R s m args below meth c H1 locs1 0 0 Q (F0 m (pc + 3) ls rest)) : W p l e R s m args below meth c H locs 0 0 Q (F0 m pc ls st0) := by
  obtain ⟨hk, ci, q, fs, hc, hqC, hs⟩ := hob
  have hF := sr_free hw.2.2.1 hw.2.2.2 hA
  refine va_callv (va_runV (As := As) (rest := rest) S (hM H.size) cw ⟨sr_blind, ?_, fun U hU hW => ⟨rfl, by rw [hU], by rw [hU]; exact hw.2.1, va_K.moved hW.alike hw.1, hw.2.2.1.weaken (fun _ _ _ _ => trivial)⟩⟩ rfl hn hls hst (lv_room hW) hdg ⟨Nat.zero_le _, Nat.zero_le _⟩) hw.2.2.2 (fun q _ h => hF q h) hF (fun u t H1 locs1 ht hvm hr hB hz hk1 hS => ?_)
  · have h := va_recv hw.1 hw.2.1 hc (q0 := k) (by rw [sr_w_get hk, hs])
    rw [hqC] at h
    exact h
  · subst hr
    obtain ⟨hP1, hK1, hD1⟩ := hB
    rw [ht] at hP1
    exact kk H1 locs1 ⟨va_K.moved hvm.symm hK1, hP1, hD1.weaken (fun _ q _ h => hF q.1 h), hS⟩
theorem sr_cSi {r : Int32} (S : CallFix p m c cc nL s args Ts own) (hM : sr_Mi l D cl tys ad cf N y ws rm As M r M1) (cw : CallB R s args own index y bytes maxL ret ws rm 0 0 n ∧ (Cond.static y).before args s = true) (hw : sr_H D cl tys ad cf N A s M H locs) (hA : ∀ q : Nat, s.heap.size ≤ q → A q) (hn : As.length = n) (hls : ls.size = nL) (hst : st0 = As.reverse ++ rest) (hW : (rest.map fun v => v.category).sum ≤ 8) (hdg : decode cc pc = .ok (.invokestatic index, 3))
    (kk : ∀ (H1 : Heap) (locs1 : List Loc), sr_H D cl tys ad cf N A s M1 H1 locs1 → W p l e R s m args below meth c H1 locs1 0 0 Q (F0 m (pc + 3) ls (.int r :: rest))) : W p l e R s m args below meth c H locs 0 0 Q (F0 m pc ls st0) := by
  have hF := sr_free hw.2.2.1 hw.2.2.2 hA
  refine va_calli (va_runS (As := As) (rest := rest) S (hM H.size) cw ⟨sr_blind, fun U hU hW => ⟨rfl, by rw [hU], by rw [hU]; exact hw.2.1, va_K.moved hW.alike hw.1, hw.2.2.1.weaken (fun _ _ _ _ => trivial)⟩⟩ rfl hn hls hst (lv_room hW) hdg ⟨Nat.zero_le _, Nat.zero_le _⟩) hw.2.2.2 (fun q _ h => hF q h) hF (fun r2 u t H1 locs1 ht hvm hr hB hz hk1 hS => ?_)
  obtain ⟨rfl, rfl⟩ := hr
  obtain ⟨hP1, hK1, hD1⟩ := hB
  rw [ht] at hP1
  exact kk H1 locs1 ⟨va_K.moved hvm.symm hK1, hP1, hD1.weaken (fun _ q _ h => hF q.1 h), hS⟩
end SRC
theorem sr_bind1 {α ρ : Type} {x : Option α} {F : α → Option ρ} {y : ρ} (h : x.bind F = some y) : ∃ a, x = some a ∧ F a = some y := by
  cases x with
  | none => cases h
  | some a => exact ⟨a, rfl, h⟩
def sr_bd2 {α β ρ : Type} (x : Option (α × β)) (F : α → β → Option ρ) : Option ρ := x.bind (fun q => F q.1 q.2)
theorem sr_bind2 {α β ρ : Type} {x : Option (α × β)} {F : α → β → Option ρ} {y : ρ} (h : sr_bd2 x F = some y) : ∃ a b, x = some (a, b) ∧ F a b = some y := by
  cases x with
  | none => cases h
  | some a => exact ⟨a.1, a.2, rfl, h⟩
theorem sr_bnde {α ρ : Type} {x : α} {F : α → Option ρ} {y : ρ} (h : sr_bnd x F = some y) (v : α) (e : v = x) : F v = some y := by
  subst e
  exact h
theorem sr_sel {α β ρ : Type} {F : α → ρ} {G : β → ρ} {a : α} {y : ρ} (h : sr_se F G (.inl a) = y) : F a = y := h
theorem sr_ser {α β ρ : Type} {F : α → ρ} {G : β → ρ} {b : β} {y : ρ} (h : sr_se F G (.inr b) = y) : G b = y := h
theorem sr_tout0_4 {x : Int32} (h0 : ¬ x = 0) (h1 : ¬ x = 1) (h2 : ¬ x = 2) (h3 : ¬ x = 3) (h4 : ¬ x = 4) : x.toInt < 0 ∨ 4 < x.toInt := by
  have key : ∀ k : Int, x.toInt = k → x = Int32.ofInt k := fun k e => by rw [← e, Int32.ofInt_toInt]
  rcases Int.lt_or_le x.toInt 0 with q | q
  · exact Or.inl q
  · rcases Int.lt_or_le 4 x.toInt with q2 | q2
    · exact Or.inr q2
    · exfalso
      have h : x.toInt = 0 ∨ x.toInt = 1 ∨ x.toInt = 2 ∨ x.toInt = 3 ∨ x.toInt = 4 := by omega
      rcases h with h | h | h | h | h
      · exact h0 (key _ h)
      · exact h1 (key _ h)
      · exact h2 (key _ h)
      · exact h3 (key _ h)
      · exact h4 (key _ h)
theorem sr_tout0_2 {x : Int32} (h0 : ¬ x = 0) (h1 : ¬ x = 1) (h2 : ¬ x = 2) : x.toInt < 0 ∨ 2 < x.toInt := by
  have key : ∀ k : Int, x.toInt = k → x = Int32.ofInt k := fun k e => by rw [← e, Int32.ofInt_toInt]
  rcases Int.lt_or_le x.toInt 0 with q | q
  · exact Or.inl q
  · rcases Int.lt_or_le 2 x.toInt with q2 | q2
    · exact Or.inr q2
    · exfalso
      have h : x.toInt = 0 ∨ x.toInt = 1 ∨ x.toInt = 2 := by omega
      rcases h with h | h | h
      · exact h0 (key _ h)
      · exact h1 (key _ h)
      · exact h2 (key _ h)
theorem sr_tout0_3 {x : Int32} (h0 : ¬ x = 0) (h1 : ¬ x = 1) (h2 : ¬ x = 2) (h3 : ¬ x = 3) : x.toInt < 0 ∨ 3 < x.toInt := by
  have key : ∀ k : Int, x.toInt = k → x = Int32.ofInt k := fun k e => by rw [← e, Int32.ofInt_toInt]
  rcases Int.lt_or_le x.toInt 0 with q | q
  · exact Or.inl q
  · rcases Int.lt_or_le 3 x.toInt with q2 | q2
    · exact Or.inr q2
    · exfalso
      have h : x.toInt = 0 ∨ x.toInt = 1 ∨ x.toInt = 2 ∨ x.toInt = 3 := by omega
      rcases h with h | h | h | h
      · exact h0 (key _ h)
      · exact h1 (key _ h)
      · exact h2 (key _ h)
      · exact h3 (key _ h)
theorem sr_tout2_6 {x : Int32} (h2 : ¬ x = 2) (h3 : ¬ x = 3) (h4 : ¬ x = 4) (h5 : ¬ x = 5) (h6 : ¬ x = 6) : x.toInt < 2 ∨ 6 < x.toInt := by
  have key : ∀ k : Int, x.toInt = k → x = Int32.ofInt k := fun k e => by rw [← e, Int32.ofInt_toInt]
  rcases Int.lt_or_le x.toInt 2 with q | q
  · exact Or.inl q
  · rcases Int.lt_or_le 6 x.toInt with q2 | q2
    · exact Or.inr q2
    · exfalso
      have h : x.toInt = 2 ∨ x.toInt = 3 ∨ x.toInt = 4 ∨ x.toInt = 5 ∨ x.toInt = 6 := by omega
      rcases h with h | h | h | h | h
      · exact h2 (key _ h)
      · exact h3 (key _ h)
      · exact h4 (key _ h)
      · exact h5 (key _ h)
      · exact h6 (key _ h)
theorem sr_tout0_5 {x : Int32} (h0 : ¬ x = 0) (h1 : ¬ x = 1) (h2 : ¬ x = 2) (h3 : ¬ x = 3) (h4 : ¬ x = 4) (h5 : ¬ x = 5) : x.toInt < 0 ∨ 5 < x.toInt := by
  have key : ∀ k : Int, x.toInt = k → x = Int32.ofInt k := fun k e => by rw [← e, Int32.ofInt_toInt]
  rcases Int.lt_or_le x.toInt 0 with q | q
  · exact Or.inl q
  · rcases Int.lt_or_le 5 x.toInt with q2 | q2
    · exact Or.inr q2
    · exfalso
      have h : x.toInt = 0 ∨ x.toInt = 1 ∨ x.toInt = 2 ∨ x.toInt = 3 ∨ x.toInt = 4 ∨ x.toInt = 5 := by omega
      rcases h with h | h | h | h | h | h
      · exact h0 (key _ h)
      · exact h1 (key _ h)
      · exact h2 (key _ h)
      · exact h3 (key _ h)
      · exact h4 (key _ h)
      · exact h5 (key _ h)
