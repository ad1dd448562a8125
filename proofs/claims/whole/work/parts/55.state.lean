/-! THE STATE OF A RUN -/
def FS : Type := Nat × (Nat → Nat) × (Nat → Option Nat) × (Nat → Option Nat) × (Nat → Option Nat)
def FS.st (S : FS) : Nat := S.1
def FS.th (S : FS) : Nat → Nat := S.2.1
def FS.fl (S : FS) : Nat → Option Nat := S.2.2.1
def FS.fb (S : FS) : Nat → Option Nat := S.2.2.2.1
def FS.ct (S : FS) : Nat → Option Nat := S.2.2.2.2
def SOK (K : RK) (S : FS) : Prop := (∀ p k, S.fl p = some k → k ≤ S.st) ∧ (∀ p k, S.ct p = some k → k ≤ S.st ∧ S.fl p = none) ∧ (∀ k, 1 ≤ k → k ≤ S.st → S.th k < K.T ∧ K.op (S.th k) = true) ∧ (∀ p t, S.fb p = some t → t < K.T) ∧ ∀ k, 1 ≤ k → k ≤ S.st → ∃ p, p < K.n ∧ S.fl p = some k ∧ ∀ q, S.fl q = some k → q = p
def fin_ (fl : Nat → Option Nat) (s p : Nat) : Bool := match fl p with
  | some k => decide (1 ≤ k) && decide (k ≤ s)
  | none => false
theorem fin_t {fl : Nat → Option Nat} {s p k : Nat} (h : fl p = some k) : fin_ fl s p = (decide (1 ≤ k) && decide (k ≤ s)) := by
  unfold fin_; rw [h]
theorem fin_n {fl : Nat → Option Nat} {s p : Nat} (h : fl p = none) : fin_ fl s p = false := by
  unfold fin_; rw [h]
theorem SOK.cnt {K : RK} {S : FS} (h : SOK K S) : ∀ s, s ≤ S.st → cn_ (fin_ S.fl s) K.n = s := by
  intro s
  induction s with
  | zero =>
    intro _
    refine cn_zero (fun i _ => ?_)
    cases e : S.fl i with
    | none => exact fin_n e
    | some k =>
      rw [fin_t e]
      by_cases q : 1 ≤ k
      · rw [decide_eq_false (show ¬ k ≤ 0 by omega), Bool.and_false]
      · rw [decide_eq_false q, Bool.false_and]
  | succ s ih =>
    intro hs
    obtain ⟨x, hx, ex, ux⟩ := h.2.2.2.2 (s + 1) (by omega) hs
    rw [cn_ins (P := fin_ S.fl s) hx (by rw [fin_t ex, decide_eq_false (show ¬ s + 1 ≤ s by omega), Bool.and_false]) (by rw [fin_t ex, decide_eq_true (show 1 ≤ s + 1 by omega), decide_eq_true (Nat.le_refl (s + 1))]; rfl) (fun i hi => ?_), ih (by omega)]
    cases e : S.fl i with
    | none => rw [fin_n e, fin_n e]
    | some k =>
      rw [fin_t e, fin_t e]
      have : k ≠ s + 1 := fun q => hi (ux i (by rw [e, q]))
      by_cases q : k ≤ s
      · rw [decide_eq_true (show k ≤ s + 1 by omega), decide_eq_true q]
      · rw [decide_eq_false (show ¬ k ≤ s + 1 by omega), decide_eq_false q]
theorem SOK.le {K : RK} {S : FS} (h : SOK K S) : S.st ≤ K.n := by
  have := h.cnt S.st (Nat.le_refl _)
  rw [← this]; exact cn_le
theorem SOK.lt {K : RK} {S : FS} (h : SOK K S) {x : Nat} (hx : x < K.n) (e : S.fl x = none) : S.st < K.n := by
  have h1 := h.cnt S.st (Nat.le_refl _)
  have h2 := cn_ins (P := fin_ S.fl S.st) (P' := fun i => if i = x then true else fin_ S.fl S.st i) hx (fin_n e) (if_pos rfl) (fun i hi => if_neg hi)
  have h3 := cn_le (P := fun i => if i = x then true else fin_ S.fl S.st i) (n := K.n)
  omega
theorem SOK.bf {K : RK} {S : FS} (hW : WF K) (h : SOK K S) : bnd K S.fl := fun p _ k e => by
  have := h.1 p k e
  have := h.le
  have := hW.1
  omega
theorem SOK.bc {K : RK} {S : FS} (hW : WF K) (h : SOK K S) : bnd K S.ct := fun p _ k e => by
  have := (h.2.1 p k e).1
  have := h.le
  have := hW.1
  omega
theorem SOK.lp {K : RK} {S : FS} (h : SOK K S) : ∃ lp, Lp K S.st S.fl lp := by
  by_cases q : S.st = 0
  · exact ⟨none, fun _ => rfl, fun h => absurd h (by omega), fun p hp h => absurd h (by omega)⟩
  · obtain ⟨x, hx, ex, ux⟩ := h.2.2.2.2 S.st (by omega) (Nat.le_refl _)
    exact ⟨some x, fun h => absurd h q, fun _ => ⟨x, hx, rfl, ex⟩, fun p hp _ e => by rw [ux p e]⟩
theorem Lp.uniq {K : RK} {st : Nat} {fl : Nat → Option Nat} {lp lp' : Option Nat} (h : Lp K st fl lp) (h' : Lp K st fl lp') : lp = lp' := by
  by_cases q : st = 0
  · rw [h.1 q, h'.1 q]
  · obtain ⟨p, hp, e, e2⟩ := h.2.1 (by omega)
    rw [e, h'.2.2 p hp (by omega) e2]
/-- the next throat of the state -/
def FS.nx (K : RK) (S : FS) (b : Option Nat) : Prop := ∃ lp, Lp K S.st S.fl lp ∧ Nx K S.fl S.ct lp b
theorem FS.nx.uniq {K : RK} {S : FS} {b b' : Option Nat} (h : S.nx K b) (h' : S.nx K b') : b = b' := by
  obtain ⟨lp, l, n⟩ := h
  obtain ⟨lp', l', n'⟩ := h'
  rw [l'.uniq l] at n'
  exact n.uniq n'
def nw (K : RK) (fl : Nat → Option Nat) (t : Nat) : Nat := if (fl (K.e1 t)).isSome = true then K.e2 t else K.e1 t
theorem nw_ok {K : RK} {fl ct : Nat → Option Nat} {t : Nat} (hW : WF K) (h : Cd K fl ct t) : nw K fl t < K.n ∧ fl (nw K fl t) = none ∧ ct (nw K fl t) = none := by
  obtain ⟨ht, ho, hc⟩ := h
  have et := hW.2.2.1 t ht
  unfold cnd ldd at hc
  unfold nw
  cases f1 : fl (K.e1 t) with
  | none =>
    rw [if_neg (by intro q; cases q)]
    rw [f1] at hc
    cases f2 : fl (K.e2 t) with
    | none => rw [f2] at hc; cases hc
    | some k =>
      rw [f2] at hc
      cases c1 : ct (K.e1 t) with
      | none => exact ⟨et.1, f1, rfl⟩
      | some m => rw [c1] at hc; revert hc; cases (decide (K.kd (K.e2 t) = 3)) <;> (intro q; cases q)
  | some k =>
    rw [if_pos (show (some k).isSome = true from rfl)]
    rw [f1] at hc
    cases f2 : fl (K.e2 t) with
    | some m => rw [f2] at hc; revert hc; cases (decide (K.kd (K.e1 t) = 3)) <;> cases (decide (K.kd (K.e2 t) = 3)) <;> (intro q; cases q)
    | none =>
      rw [f2] at hc
      cases c2 : ct (K.e2 t) with
      | none => exact ⟨et.2.1, rfl, rfl⟩
      | some m => rw [c2] at hc; revert hc; cases (decide (K.kd (K.e1 t) = 3)) <;> (intro q; cases q)
noncomputable def FS.go (K : RK) (S : FS) (t : Nat) : FS := (S.st + 1, va_up S.th (S.st + 1) t, va_up S.fl (nw K S.fl t) (some (S.st + 1)), va_up S.fb (nw K S.fl t) (some t), cutF K (va_up S.fl (nw K S.fl t) (some (S.st + 1))) S.ct (S.st + 1))
theorem FS.nx.cd {K : RK} {S : FS} {t : Nat} (h : S.nx K (some t)) : Cd K S.fl S.ct t := by
  obtain ⟨lp, l, n⟩ := h
  exact n.cd
theorem SOK.go {K : RK} {S : FS} {t : Nat} (hW : WF K) (h : SOK K S) (ht : Cd K S.fl S.ct t) : SOK K (S.go K t) := by
  obtain ⟨hx, fx, cx⟩ := nw_ok hW ht
  refine ⟨fun p k e => ?_, fun p k e => ?_, fun k h1 h2 => ?_, fun p u e => ?_, fun k h1 h2 => ?_⟩
  · show k ≤ S.st + 1
    have e : va_up S.fl (nw K S.fl t) (some (S.st + 1)) p = some k := e
    by_cases q : p = nw K S.fl t
    · rw [q, va_up_s] at e; cases e; exact Nat.le_refl _
    · rw [va_up_n q] at e; have := h.1 p k e; omega
  · show k ≤ S.st + 1 ∧ va_up S.fl (nw K S.fl t) (some (S.st + 1)) p = none
    have e : cutF K (va_up S.fl (nw K S.fl t) (some (S.st + 1))) S.ct (S.st + 1) p = some k := e
    rcases cutF_new e with e | ⟨e, -, e2, -⟩
    · have := h.2.1 p k e
      by_cases q : p = nw K S.fl t
      · rw [q, cx] at e; cases e
      · rw [va_up_n q]; exact ⟨by omega, this.2⟩
    · exact ⟨by omega, e2⟩
  · show va_up S.th (S.st + 1) t k < K.T ∧ K.op (va_up S.th (S.st + 1) t k) = true
    have h2 : k ≤ S.st + 1 := h2
    by_cases q : k = S.st + 1
    · rw [q, va_up_s]; exact ⟨ht.1, ht.2.1⟩
    · rw [va_up_n q]; exact h.2.2.1 k h1 (by omega)
  · have e : va_up S.fb (nw K S.fl t) (some t) p = some u := e
    by_cases q : p = nw K S.fl t
    · rw [q, va_up_s] at e; cases e; exact ht.1
    · rw [va_up_n q] at e; exact h.2.2.2.1 p u e
  · show ∃ p, p < K.n ∧ va_up S.fl (nw K S.fl t) (some (S.st + 1)) p = some k ∧ ∀ q, va_up S.fl (nw K S.fl t) (some (S.st + 1)) q = some k → q = p
    have h2 : k ≤ S.st + 1 := h2
    by_cases q : k = S.st + 1
    · refine ⟨nw K S.fl t, hx, by rw [va_up_s, q], fun y ey => ?_⟩
      by_cases r : y = nw K S.fl t
      · exact r
      · rw [va_up_n r] at ey; have := h.1 y k ey; omega
    · obtain ⟨p, hp, ep, up⟩ := h.2.2.2.2 k h1 (by omega)
      refine ⟨p, hp, ?_, fun y ey => ?_⟩
      · rw [va_up_n (fun r => by rw [r, fx] at ep; cases ep)]; exact ep
      · by_cases r : y = nw K S.fl t
        · rw [r, va_up_s] at ey; cases ey; exact absurd rfl q
        · rw [va_up_n r] at ey; exact up y ey
noncomputable def FS.new (K : RK) : FS := (0, fun _ => 0, fun p => if K.il p = true then some 0 else none, fun _ => none, cutF K (fun p => if K.il p = true then some 0 else none) (fun _ => none) 0)
theorem SOK.new {K : RK} : SOK K (FS.new K) := by
  refine ⟨fun p k e => ?_, fun p k e => ?_, fun k h1 h2 => ?_, fun p u e => ?_, fun k h1 h2 => ?_⟩
  · have e : (if K.il p = true then some 0 else none) = some k := e
    by_cases q : K.il p = true
    · rw [if_pos q] at e; cases e; exact Nat.le_refl _
    · rw [if_neg q] at e; cases e
  · have e : cutF K (fun p => if K.il p = true then some 0 else none) (fun _ => none) 0 p = some k := e
    rcases cutF_new e with e | ⟨e, -, e2, -⟩
    · cases e
    · exact ⟨Nat.le_of_eq e, e2⟩
  · have h2 : k ≤ 0 := h2
    omega
  · cases e
  · have h2 : k ≤ 0 := h2
    omega
/-- the state in the class's memory, flow at o -/
def FX (K : RK) (S : FS) (o : Nat) (M : sr_M) : Prop := M.1 o 2 = nI S.st ∧ (∀ k, 1 ≤ k → k ≤ S.st → M.1 (o + 1) k = nI (S.th k)) ∧ (∀ p k, p < K.n → 1 ≤ k → S.fl p = some k → M.1 (o + 2) k = nI p) ∧ At K S.fl (o + 3) M ∧ At K S.fb (o + 4) M ∧ At K S.ct (o + 5) M ∧ LX K S.ct S.th (lks K S.ct (S.st + 1)).1 (lks K S.ct (S.st + 1)).2 o M
/-- the state in the reference's memory -/
def FY (K : RK) (S : FS) (M : sr_M) : Prop := M.1 0 14 = nI S.st ∧ (∀ k, 1 ≤ k → k ≤ S.st → M.1 11 k = nI (S.th k)) ∧ At K S.fl 12 M ∧ At K S.fb 13 M ∧ At K S.ct 14 M
theorem Xnext {K : RK} {S : FS} {o : Nat} {M : sr_M} (hW : WF K) (hX : RX K M) (hS : SOK K S) (hF : FX K S o M) : sr_wp (f1_nextThroat o M) (fun r => ∃ b, r = oI b ∧ S.nx K b) := by
  obtain ⟨f1, f2, f3, f4, f5, f6, f7⟩ := hF
  obtain ⟨lp, hl⟩ := hS.lp
  exact wp_mono (XnextThroat hW hX (hS.bf hW) (hS.bc hW) f4 f6 hS.le f1 (fun p hp h0 e => f3 p S.st hp (by omega) e) hl) (fun r ⟨b, e, hb⟩ => ⟨b, e, lp, hl, hb⟩)
theorem Ynext {K : RK} {S : FS} {M : sr_M} (hW : WF K) (hY : RY K M) (hS : SOK K S) (hF : FY K S M) : sr_wp (f5_nextThroat M) (fun r => ∃ b, r = oI b ∧ S.nx K b) := by
  obtain ⟨f1, f2, f4, f5, f6⟩ := hF
  obtain ⟨lp, hl⟩ := hS.lp
  exact wp_mono (YnextThroat hW hY (hS.bf hW) (hS.bc hW) f4 f6 hS.le f1 hl) (fun r ⟨b, e, hb⟩ => ⟨b, e, lp, hl, hb⟩)
theorem oI_n0 : ¬ (0 : Int32) ≤ oI none := by decide
theorem oI_s0 {k : Nat} (h : k < 2147483648) : (0 : Int32) ≤ oI (some k) := by
  show nI 0 ≤ nI k
  rw [pp_le (by omega) h]; exact Nat.zero_le _
theorem mxr_up {K : RK} {th : Nat → Nat} {s t : Nat} : ∀ k, k ≤ s → mxr K (va_up th (s + 1) t) k = mxr K th k := fun k hk => mxr_congr k (fun j _ h2 => va_up_n (by omega))
theorem LX.th {K : RK} {ct lo : Nat → Option Nat} {th : Nat → Nat} {c o s t : Nat} {M : sr_M} (h : LX K ct th lo c o M) (hc : ∀ p k, ct p = some k → k ≤ s) : LX K ct (va_up th (s + 1) t) lo c o M := by
  refine ⟨h.1, h.2.1, fun l hl => ?_⟩
  obtain ⟨p, k, h1, h2, h3, h4, h5, h6, h7, h8⟩ := h.2.2 l hl
  exact ⟨p, k, h1, h2, h3, h4, h5, h6, h7, by rw [mxr_up k (hc p k h4)]; exact h8⟩
theorem Xadvance {K : RK} {S : FS} {o : Nat} {M : sr_M} (hW : WF K) (hX : RX K M) (ho : 30 ≤ o) (hS : SOK K S) (hF : FX K S o M) :
    sr_wp (f1_advance o M) (fun r => ∃ b, r.1 = oI b ∧ S.nx K b ∧ (b = none → r.2 = M) ∧ ∀ t, b = some t → FX K (S.go K t) o r.2 ∧ r.2.2 = M.2 ∧ (∀ q, (q < o ∨ o + 12 < q) → r.2.1 q = M.1 q) ∧ ∀ j, j ≠ 2 → j ≠ 9 → r.2.1 o j = M.1 o j) := by
  have hn := hW.1
  have hT := hW.2.1
  unfold f1_advance
  refine wp_bind (wp_mono (Xnext hW hX hS hF) ?_)
  rintro r ⟨b, rfl, hb⟩
  cases b with
  | none =>
    rw [if_neg oI_n0, wp_some]
    exact ⟨none, rfl, hb, fun _ => rfl, fun t e => by cases e⟩
  | some t =>
    have hcd := hb.cd
    have ht := hcd.1
    have et := hW.2.2.1 t ht
    obtain ⟨hx, fx, cx⟩ := nw_ok hW hcd
    have hst := hS.lt hx fx
    obtain ⟨f1, f2, f3, f4, f5, f6, f7⟩ := hF
    obtain ⟨xn, xT, x1, x2, x3, x4, x5⟩ := hX.1
    rw [if_pos (oI_s0 (by omega))]
    show sr_wp (sr_ld (nI t) 300 (M.1 4) _) _
    rw [pp_ld (by omega) (by omega), x3 t ht, pp_ld (by omega) (by omega), f4 _ et.1]
    have key : sr_wp (sr_bnd (M.1 o 2) fun v6 => sr_put M o 2 (v6 + 1) fun M7 => sr_bnd (M7.1 o 2) fun v8 => sr_st v8 121 M7 (o + 1) (oI (some t)) fun M9 => sr_bnd (M9.1 o 2) fun v10 => sr_st v10 121 M9 (o + 2) (nI (nw K S.fl t)) fun M11 => sr_bnd (M11.1 o 2) fun v12 => sr_st (nI (nw K S.fl t)) 120 M11 (o + 3) v12 fun M13 => sr_st (nI (nw K S.fl t)) 120 M13 (o + 4) (oI (some t)) fun M14 => (f1_cutOff o M14).bind fun M15 => some (oI (some t), M15)) (fun r => ∃ b, r.1 = oI b ∧ S.nx K b ∧ (b = none → r.2 = M) ∧ ∀ t, b = some t → FX K (S.go K t) o r.2 ∧ r.2.2 = M.2 ∧ (∀ q, (q < o ∨ o + 12 < q) → r.2.1 q = M.1 q) ∧ ∀ j, j ≠ 2 → j ≠ 9 → r.2.1 o j = M.1 o j) := by
      have a1 : (sr_wI M o 2 (nI S.st + 1)).1 o 2 = nI (S.st + 1) := by rw [pp_wI2, ← nI_1]
      simp only [sr_bnd, sr_put, f1, a1]
      rw [pp_st (by omega) (by decide)]
      have a2 : (sr_wI (sr_wI M o 2 (nI S.st + 1)) (o + 1) (S.st + 1) (oI (some t))).1 o 2 = nI (S.st + 1) := by rw [pp_wI1 (by omega), a1]
      rw [a2, pp_st (by omega) (by decide)]
      have a3 : (sr_wI (sr_wI (sr_wI M o 2 (nI S.st + 1)) (o + 1) (S.st + 1) (oI (some t))) (o + 2) (S.st + 1) (nI (nw K S.fl t))).1 o 2 = nI (S.st + 1) := by rw [pp_wI1 (by omega), a2]
      rw [a3, pp_st (by omega) (by decide), pp_st (by omega) (by decide)]
      generalize hM : sr_wI (sr_wI (sr_wI (sr_wI (sr_wI M o 2 (nI S.st + 1)) (o + 1) (S.st + 1) (oI (some t))) (o + 2) (S.st + 1) (nI (nw K S.fl t))) (o + 3) (nw K S.fl t) (nI (S.st + 1))) (o + 4) (nw K S.fl t) (oI (some t)) = M14
      have fr : ∀ q, (q < o ∨ o + 4 < q) → M14.1 q = M.1 q := fun q hq => by rw [← hM, pp_wI1 (by omega), pp_wI1 (by omega), pp_wI1 (by omega), pp_wI1 (by omega), pp_wI1 (by omega)]
      have g0 : ∀ j, j ≠ 2 → M14.1 o j = M.1 o j := fun j hj => by rw [← hM, pp_wI1 (by omega), pp_wI1 (by omega), pp_wI1 (by omega), pp_wI1 (by omega), pp_wI3 hj]
      have g2 : M14.1 o 2 = nI (S.st + 1) := by rw [← hM, pp_wI1 (by omega), pp_wI1 (by omega), a3]
      have gt : ∀ k, 1 ≤ k → k ≤ S.st + 1 → M14.1 (o + 1) k = nI (va_up S.th (S.st + 1) t k) := fun k h1 h2 => by
        rw [← hM, pp_wI1 (by omega), pp_wI1 (by omega), pp_wI1 (by omega)]
        by_cases q : k = S.st + 1
        · rw [q, pp_wI2, va_up_s]; rfl
        · rw [pp_wI3 q, va_up_n q, pp_wI1 (by omega)]; exact f2 k h1 (by omega)
      have gp : ∀ p k, p < K.n → 1 ≤ k → va_up S.fl (nw K S.fl t) (some (S.st + 1)) p = some k → M14.1 (o + 2) k = nI p := fun p k hp h1 e => by
        rw [← hM, pp_wI1 (by omega), pp_wI1 (by omega)]
        by_cases q : p = nw K S.fl t
        · rw [q, va_up_s] at e; cases e; rw [q, pp_wI2]
        · rw [va_up_n q] at e
          have := hS.1 p k e
          rw [pp_wI3 (by omega), pp_wI1 (by omega), pp_wI1 (by omega)]; exact f3 p k hp h1 e
      have gf : At K (va_up S.fl (nw K S.fl t) (some (S.st + 1))) (o + 3) M14 := fun p hp => by
        rw [← hM, pp_wI1 (by omega)]
        by_cases q : p = nw K S.fl t
        · rw [q, pp_wI2, va_up_s]; rfl
        · rw [pp_wI3 q, va_up_n q, pp_wI1 (by omega), pp_wI1 (by omega), pp_wI1 (by omega)]; exact f4 p hp
      have gb : At K (va_up S.fb (nw K S.fl t) (some t)) (o + 4) M14 := fun p hp => by
        rw [← hM]
        by_cases q : p = nw K S.fl t
        · rw [q, pp_wI2, va_up_s]
        · rw [pp_wI3 q, va_up_n q, pp_wI1 (by omega), pp_wI1 (by omega), pp_wI1 (by omega), pp_wI1 (by omega)]; exact f5 p hp
      have gc : At K S.ct (o + 5) M14 := fun p hp => by rw [fr _ (by omega)]; exact f6 p hp
      have hX' : RX K M14 := hX.kept (fun q h1 h2 => fr q (by omega))
      have hb' : bnd K (va_up S.fl (nw K S.fl t) (some (S.st + 1))) := (hS.go hW hcd).bf hW
      have hg := (hS.go hW hcd).2.2.1
      refine wp_bind (wp_mono (XcutOff (o := o) (st := S.st + 1) (th := va_up S.th (S.st + 1) t) hW hX' ho hb' (fun p k e => by have := (hS.2.1 p k e).1; omega) gf gc g2 (by omega) (fun k h1 h2 => ⟨gt k h1 h2, hg k h1 h2⟩) ((f7.kept (g0 9 (by omega)) (fun q h1 h2 => fr q (by omega))).th (fun p k e => (hS.2.1 p k e).1))) ?_)
      rintro M' ⟨c1, c2, c3, c4, c5⟩
      rw [wp_some]
      refine ⟨some t, rfl, hb, fun e => (by cases e), fun u e => ?_⟩
      cases e
      refine ⟨⟨(c5 2 (by omega)).trans g2, fun k h1 h2 => by rw [c4 _ (by omega) (by omega)]; exact gt k h1 h2, fun p k hp h1 e => by rw [c4 _ (by omega) (by omega)]; exact gp p k hp h1 e, fun p hp => by rw [c4 _ (by omega) (by omega)]; exact gf p hp, fun p hp => by rw [c4 _ (by omega) (by omega)]; exact gb p hp, c1, c2⟩, c3.trans (by rw [← hM]; rfl), fun q hq => by rw [c4 _ (by omega) (by omega)]; exact fr q (by omega), fun j h1 h2 => (c5 j h2).trans (g0 j h1)⟩
    unfold sr_jn
    cases hfl : S.fl (K.e1 t) with
    | none =>
      have e : nw K S.fl t = K.e1 t := by unfold nw; rw [hfl]; rfl
      rw [e] at key
      show sr_wp (if oI none < 0 then _ else _) _
      rw [if_pos (by decide)]
      exact key
    | some k =>
      have e : nw K S.fl t = K.e2 t := by unfold nw; rw [hfl]; rfl
      have hk := (hS.bf hW) _ et.1 k hfl
      rw [e] at key
      show sr_wp (if oI (some k) < 0 then _ else _) _
      rw [if_neg (by show ¬ nI k < nI 0; rw [pp_lt hk (by omega)]; omega)]
      show sr_wp (sr_ld (nI t) 300 (M.1 5) _) _
      rw [pp_ld (by omega) (by decide), x4 t ht]
      exact key
