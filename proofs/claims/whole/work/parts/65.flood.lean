/-! THE FLOOD and THE PLAIN RUN -/
theorem i32_nn {a : Int32} (h : ¬ a < 0) : ∃ j, j < 2147483648 ∧ a = nI j := by
  rcases pk_ix a (n := 2147483647) (by decide) with q | q | ⟨j, hj, e⟩
  · exact absurd q h
  · refine ⟨2147483647, by decide, Int32.le_antisymm ?_ q⟩
    rw [Int32.le_iff_toInt_le]
    have := Int32.toInt_lt a
    have e : (nI 2147483647).toInt = 2147483647 := by decide
    omega
  · exact ⟨j, by omega, e⟩
def FW : Type := (Nat → Bool) × (Nat → Nat) × (Nat → Nat) × (Nat → Option Nat)
def FW.rc (W : FW) : Nat → Bool := W.1
def FW.ln (W : FW) : Nat → Nat := W.2.1
def FW.bt (W : FW) : Nat → Nat := W.2.2.1
def FW.wr (W : FW) : Nat → Option Nat := W.2.2.2
def wmx (a : Option Nat) (r : Nat) : Nat := match a with
  | none => r
  | some m => max m r
def omx (a b : Option Nat) : Option Nat := match a with
  | none => b
  | some m => some (match b with
    | none => m
    | some k => max m k)
theorem omx_step {a w : Option Nat} {r : Nat} : omx a (some (wmx w r)) = omx (some (wmx a r)) w := by
  cases a <;> cases w <;> unfold omx wmx <;> dsimp only <;> congr 1 <;> omega
def WOK (K : RK) (W : FW) (i : Nat) : Prop := (∀ p, p < K.n → W.rc p = true → W.ln p ≤ i ∧ (W.ln p = 0 → W.wr p = none) ∧ ∀ k, W.ln p = k + 1 → W.bt p < K.T ∧ K.op (W.bt p) = true ∧ K.nb (W.bt p) p < K.n ∧ W.rc (K.nb (W.bt p) p) = true ∧ W.ln (K.nb (W.bt p) p) = k ∧ W.wr p = some (wmx (W.wr (K.nb (W.bt p) p)) (K.rk (W.bt p)))) ∧ ∀ p k, W.wr p = some k → k ≤ K.T
theorem WOK.mono {K : RK} {W : FW} {i j : Nat} (h : WOK K W i) (hj : i ≤ j) : WOK K W j :=
  ⟨fun p hp hr => ⟨Nat.le_trans (h.1 p hp hr).1 hj, (h.1 p hp hr).2⟩, h.2⟩
def FW.new (K : RK) : FW := (K.il, fun _ => 0, fun _ => 0, fun _ => none)
theorem WOK.new {K : RK} : WOK K (FW.new K) 0 := ⟨fun p _ _ => ⟨Nat.le_refl _, fun _ => rfl, fun k e => by cases e⟩, fun p k e => by cases e⟩
def FW.np (K : RK) (W : FW) (t : Nat) : Nat := if W.rc (K.e1 t) = true then K.e2 t else K.e1 t
def FW.op (K : RK) (W : FW) (t : Nat) : Nat := if W.rc (K.e1 t) = true then K.e1 t else K.e2 t
def FW.add (K : RK) (W : FW) (t : Nat) : FW := (va_up W.rc (W.np K t) true, va_up W.ln (W.np K t) (W.ln (W.op K t) + 1), va_up W.bt (W.np K t) t, va_up W.wr (W.np K t) (some (wmx (W.wr (W.op K t)) (K.rk t))))
/-- the throats that lead on -/
def Lead (K : RK) (W : FW) (t : Nat) : Prop := t < K.T ∧ K.op t = true ∧ W.rc (K.e1 t) ≠ W.rc (K.e2 t)
theorem Lead.ok {K : RK} {W : FW} {t : Nat} (hW : WF K) (h : Lead K W t) : W.np K t < K.n ∧ W.op K t < K.n ∧ W.rc (W.np K t) = false ∧ W.rc (W.op K t) = true ∧ K.nb t (W.np K t) = W.op K t ∧ K.nb t (W.op K t) = W.np K t ∧ W.np K t ≠ W.op K t := by
  obtain ⟨ht, ho, hx⟩ := h
  have et := hW.2.2.1 t ht
  unfold FW.np FW.op RK.nb
  cases c : W.rc (K.e1 t) with
  | true =>
    rw [c] at hx
    rw [if_pos rfl, if_pos rfl, if_neg et.2.2, if_pos rfl]
    refine ⟨et.2.1, et.1, ?_, c, rfl, rfl, fun e => et.2.2 e.symm⟩
    cases d : W.rc (K.e2 t) with
    | false => rfl
    | true => rw [d] at hx; exact absurd rfl hx
  | false =>
    rw [c] at hx
    rw [if_neg (by decide), if_neg (by decide), if_pos rfl, if_neg et.2.2]
    refine ⟨et.1, et.2.1, c, ?_, rfl, rfl, et.2.2⟩
    cases d : W.rc (K.e2 t) with
    | true => rfl
    | false => rw [d] at hx; exact absurd rfl hx
theorem wmx_le {a : Option Nat} {r n : Nat} (h : ∀ k, a = some k → k ≤ n) (hr : r ≤ n) : wmx a r ≤ n := by
  cases a with
  | none => exact hr
  | some m => have := h m rfl; show max m r ≤ n; omega
theorem WOK.add {K : RK} {W : FW} {t i : Nat} (hW : WF K) (h : WOK K W i) (hl : Lead K W t) : WOK K (W.add K t) (i + 1) := by
  obtain ⟨h1, h2, h3, h4, h5, h6, h7⟩ := hl.ok hW
  refine ⟨fun p hp hr => ?_, fun p k e => ?_⟩
  · have hr : va_up W.rc (W.np K t) true p = true := hr
    show va_up W.ln (W.np K t) (W.ln (W.op K t) + 1) p ≤ i + 1 ∧ (va_up W.ln (W.np K t) (W.ln (W.op K t) + 1) p = 0 → va_up W.wr (W.np K t) (some (wmx (W.wr (W.op K t)) (K.rk t))) p = none) ∧ ∀ k, va_up W.ln (W.np K t) (W.ln (W.op K t) + 1) p = k + 1 → va_up W.bt (W.np K t) t p < K.T ∧ K.op (va_up W.bt (W.np K t) t p) = true ∧ K.nb (va_up W.bt (W.np K t) t p) p < K.n ∧ va_up W.rc (W.np K t) true (K.nb (va_up W.bt (W.np K t) t p) p) = true ∧ va_up W.ln (W.np K t) (W.ln (W.op K t) + 1) (K.nb (va_up W.bt (W.np K t) t p) p) = k ∧ va_up W.wr (W.np K t) (some (wmx (W.wr (W.op K t)) (K.rk t))) p = some (wmx (va_up W.wr (W.np K t) (some (wmx (W.wr (W.op K t)) (K.rk t))) (K.nb (va_up W.bt (W.np K t) t p) p)) (K.rk (va_up W.bt (W.np K t) t p)))
    by_cases e : p = W.np K t
    · rw [e]
      rw [va_up_s, va_up_s, va_up_s, h5, va_up_n h7.symm, va_up_n h7.symm, va_up_n h7.symm]
      refine ⟨by have := (h.1 _ h2 h4).1; omega, fun z => by omega, fun k z => ⟨hl.1, hl.2.1, h2, h4, by omega, rfl⟩⟩
    · rw [va_up_n e] at hr
      obtain ⟨g1, g2, g3⟩ := h.1 p hp hr
      rw [va_up_n e, va_up_n e, va_up_n e]
      refine ⟨by omega, g2, fun k z => ?_⟩
      obtain ⟨a1, a2, a3, a4, a5, a6⟩ := g3 k z
      have ne : K.nb (W.bt p) p ≠ W.np K t := fun q => by rw [q, h3] at a4; cases a4
      rw [va_up_n ne, va_up_n ne, va_up_n ne]
      exact ⟨a1, a2, a3, a4, a5, a6⟩
  · have e : va_up W.wr (W.np K t) (some (wmx (W.wr (W.op K t)) (K.rk t))) p = some k := e
    by_cases q : p = W.np K t
    · rw [q, va_up_s] at e
      cases e
      exact wmx_le (fun k e => h.2 _ k e) rk_le
    · rw [va_up_n q] at e; exact h.2 p k e
def xv (W : FW) (p : Nat) : Int32 := if W.rc p = true then nI (W.ln p) else -1
def yv (W : FW) (p : Nat) : Int32 := if W.rc p = true then (if W.ln p = 0 then -1 else nI (W.bt p)) else -2
def AX (K : RK) (W : FW) (M : sr_M) : Prop := ∀ p, p < K.n → M.1 57 p = xv W p ∧ (W.rc p = true → M.1 58 p = oI (W.wr p)) ∧ (W.rc p = true → 0 < W.ln p → M.1 59 p = nI (W.bt p))
def AY (K : RK) (W : FW) (M : sr_M) : Prop := ∀ p, p < K.n → M.1 20 p = yv W p
theorem xv_t {W : FW} {p : Nat} (h : W.rc p = true) : xv W p = nI (W.ln p) := by unfold xv; rw [if_pos h]
theorem xv_f {W : FW} {p : Nat} (h : W.rc p = false) : xv W p = -1 := by unfold xv; rw [if_neg (by rw [h]; decide)]
theorem yv_f {W : FW} {p : Nat} (h : W.rc p = false) : yv W p = -2 := by unfold yv; rw [if_neg (by rw [h]; decide)]
theorem yv_0 {W : FW} {p : Nat} (h : W.rc p = true) (h0 : W.ln p = 0) : yv W p = -1 := by unfold yv; rw [if_pos h, if_pos h0]
theorem yv_s {W : FW} {p : Nat} (h : W.rc p = true) (h0 : W.ln p ≠ 0) : yv W p = nI (W.bt p) := by unfold yv; rw [if_pos h, if_neg h0]
theorem xv_lt {K : RK} {W : FW} {i p : Nat} (h : WOK K W i) (hi : i ≤ 120) (hp : p < K.n) : (xv W p < 0) ↔ W.rc p = false := by
  cases e : W.rc p with
  | false => rw [xv_f e]; exact ⟨fun _ => rfl, fun _ => by decide⟩
  | true =>
    have := (h.1 p hp e).1
    rw [xv_t e]
    exact ⟨fun q => absurd q (fun z => nI_pos (n := W.ln p) (by omega) z), fun q => by cases q⟩
theorem nI_ne2 {a : Nat} (h : a < 2147483648) : ¬ nI a = -2 := fun e => by
  have h0 : (0 : Int32) ≤ nI a := oI_s0 h
  rw [e] at h0
  exact absurd h0 (by decide)
theorem yv_m2 {K : RK} {W : FW} {i p : Nat} (hW : WF K) (h : WOK K W i) (hp : p < K.n) : (yv W p = -2) ↔ W.rc p = false := by
  have hT := hW.2.1
  cases e : W.rc p with
  | false => rw [yv_f e]; exact ⟨fun _ => rfl, fun _ => rfl⟩
  | true =>
    by_cases z : W.ln p = 0
    · rw [yv_0 e z]; exact ⟨fun q => absurd q (by decide), fun q => by cases q⟩
    · obtain ⟨k, hk⟩ : ∃ k, W.ln p = k + 1 := ⟨W.ln p - 1, by omega⟩
      have := ((h.1 p hp e).2.2 k hk).1
      rw [yv_s e z]
      exact ⟨fun q => absurd q (nI_ne2 (by omega)), fun q => by cases q⟩
theorem AX.add {K : RK} {W : FW} {M M' : sr_M} {t : Nat} (h : AX K W M) (h1 : M'.1 57 = va_up (M.1 57) (W.np K t) (nI (W.ln (W.op K t) + 1))) (h2 : M'.1 58 = va_up (M.1 58) (W.np K t) (nI (wmx (W.wr (W.op K t)) (K.rk t)))) (h3 : M'.1 59 = va_up (M.1 59) (W.np K t) (nI t)) : AX K (W.add K t) M' := by
  intro p hp
  obtain ⟨g1, g2, g3⟩ := h p hp
  rw [h1, h2, h3]
  by_cases e : p = W.np K t
  · rw [e, va_up_s, va_up_s, va_up_s]
    have r : (W.add K t).rc (W.np K t) = true := va_up_s
    refine ⟨?_, fun _ => ?_, fun _ _ => ?_⟩
    · rw [xv_t r]; show _ = nI (va_up W.ln (W.np K t) (W.ln (W.op K t) + 1) (W.np K t)); rw [va_up_s]
    · show _ = oI (va_up W.wr (W.np K t) (some (wmx (W.wr (W.op K t)) (K.rk t))) (W.np K t)); rw [va_up_s]; rfl
    · show _ = nI (va_up W.bt (W.np K t) t (W.np K t)); rw [va_up_s]
  · rw [va_up_n e, va_up_n e, va_up_n e]
    have r : (W.add K t).rc p = W.rc p := va_up_n e
    have r2 : (W.add K t).ln p = W.ln p := va_up_n e
    have r3 : (W.add K t).bt p = W.bt p := va_up_n e
    have r4 : (W.add K t).wr p = W.wr p := va_up_n e
    unfold xv at g1 ⊢
    rw [r, r2, r3, r4]
    exact ⟨g1, g2, g3⟩
theorem AY.add {K : RK} {W : FW} {M M' : sr_M} {t : Nat} (h : AY K W M) (h1 : M'.1 20 = va_up (M.1 20) (W.np K t) (nI t)) : AY K (W.add K t) M' := by
  intro p hp
  have g1 := h p hp
  rw [h1]
  by_cases e : p = W.np K t
  · rw [e, va_up_s]
    have r : (W.add K t).rc (W.np K t) = true := va_up_s
    have r2 : (W.add K t).ln (W.np K t) = W.ln (W.op K t) + 1 := va_up_s
    rw [yv_s r (by rw [r2]; omega)]
    show _ = nI (va_up W.bt (W.np K t) t (W.np K t)); rw [va_up_s]
  · rw [va_up_n e]
    have r : (W.add K t).rc p = W.rc p := va_up_n e
    have r2 : (W.add K t).ln p = W.ln p := va_up_n e
    have r3 : (W.add K t).bt p = W.bt p := va_up_n e
    unfold yv at g1 ⊢
    rw [r, r2, r3]
    exact g1
theorem Xfill {K : RK} {W : FW} {M : sr_M} {t i : Nat} (hW : WF K) (hX : RX K M) (hO : WOK K W i) (hi : i ≤ 120) (hA : AX K W M) (hl : Lead K W t) :
    ∃ M', f3_fill (nI t) (nI (W.op K t)) M = some M' ∧ AX K (W.add K t) M' ∧ XWy M M' := by
  have hn := hW.1
  have hT := hW.2.1
  have ht := hl.1
  obtain ⟨h1, h2, h3, h4, h5, h6, h7⟩ := hl.ok hW
  obtain ⟨a1, a2, a3⟩ := hA _ h2
  have a2 := a2 h4
  have hln := (hO.1 _ h2 h4).1
  have hrk := rk_le (K := K) (t := t)
  obtain ⟨m, br, hr⟩ := hX.2.1
  have b7 : M.1 7 t = nI (K.rk t) := by rw [hr.rank ht, if_pos hl.2.1]
  unfold f3_fill
  rw [Xacross hW hX.1 ht h2, Option.bind_some, show (if K.e1 t = W.op K t then K.e2 t else K.e1 t) = W.np K t from h6, pp_ld (by omega) (by decide), a1, xv_t h4, pp_st (by omega) (by decide), pp_ld (by omega) (by decide), pp_ld (by omega) (by decide), pp_wI1 (by omega), a2, pp_wI1 (by omega), b7]
  have e6 : (if oI (W.wr (W.op K t)) < nI (K.rk t) then nI (K.rk t) else oI (W.wr (W.op K t))) = nI (wmx (W.wr (W.op K t)) (K.rk t)) := by
    cases e : W.wr (W.op K t) with
    | none => rw [if_pos (show oI none < nI (K.rk t) from (show (-nI 1 : Int32) < nI (K.rk t) by rw [pp_neg4 (by omega)]; trivial))]; rfl
    | some m =>
      have := hO.2 _ m e
      by_cases q : m < K.rk t
      · rw [if_pos (show oI (some m) < nI (K.rk t) from (show nI m < nI (K.rk t) by rw [pp_lt (by omega) (by omega)]; exact q))]
        unfold wmx; dsimp only; rw [show max m (K.rk t) = K.rk t by omega]
      · rw [if_neg (show ¬ oI (some m) < nI (K.rk t) from (show ¬ nI m < nI (K.rk t) by rw [pp_lt (by omega) (by omega)]; exact q))]
        unfold wmx; dsimp only; rw [show max m (K.rk t) = m by omega]; rfl
  simp only [sr_bnd, e6]
  rw [pp_st (by omega) (by decide), pp_st (by omega) (by decide), nI_1]
  refine ⟨_, rfl, hA.add ?_ ?_ ?_, rfl, fun q hq => by rw [pp_wI1 (by omega), pp_wI1 (by omega), pp_wI1 (by omega)]⟩
  · rw [pp_wI1 (by omega), pp_wI1 (by omega)]
    funext j
    by_cases e : j = W.np K t
    · rw [e, pp_wI2, va_up_s]
    · rw [pp_wI3 e, va_up_n e]
  · rw [pp_wI1 (by omega)]
    funext j
    by_cases e : j = W.np K t
    · rw [e, pp_wI2, va_up_s]
    · rw [pp_wI3 e, va_up_n e, pp_wI1 (by omega)]
  · funext j
    by_cases e : j = W.np K t
    · rw [e, pp_wI2, va_up_s]
    · rw [pp_wI3 e, va_up_n e, pp_wI1 (by omega), pp_wI1 (by omega)]
theorem XfillNext {K : RK} {W : FW} {M : sr_M} {i : Nat} (hW : WF K) (hX : RX K M) (hO : WOK K W i) (hi : i ≤ 120) (hA : AX K W M) {b : Option Nat} (hb : Least K.hd (Lead K W) b) :
    (b = none → f3_fillNext M = some (0, M)) ∧ ∀ t, b = some t → ∃ M', f3_fillNext M = some (1, M') ∧ AX K (W.add K t) M' ∧ XWy M M' := by
  have hn := hW.1
  have hT := hW.2.1
  obtain ⟨m, br, hr⟩ := hX.2.1
  have hB := hr.2.1
  have hm := hB.le
  obtain ⟨xn, xT, x1, x2, x3, x4, x5⟩ := hX.1
  have step : ∀ r, r < m → f3_fillNext_L2 (nI r) M = if W.rc (K.e1 (br r)) = W.rc (K.e2 (br r)) then some (.inl (nI (r + 1), M)) else (f3_fill (nI (br r)) (nI (W.op K (br r))) M).bind fun M17 => some (.inr (.inr (1, M17))) := by
    intro r hr'
    have hbr := hB.1 r hr'
    have et := hW.2.2.1 _ hbr.1
    have c1 := xv_lt hO hi et.1
    have c2 := xv_lt hO hi et.2.1
    unfold f3_fillNext_L2
    simp only [sr_bnd, sr_jn, hr.1]
    rw [if_neg (by rw [pp_le (by omega) (by omega)]; omega), pp_ld (by omega) (by decide), hr.2.2.1 r hr', pp_ld (by omega) (by decide), x3 _ hbr.1, pp_ld (by omega) (by decide), x4 _ hbr.1]
    simp only [pp_ld (show K.e1 (br r) < 120 by omega) (show 120 < 2147483648 by decide), pp_ld (show K.e2 (br r) < 120 by omega) (show 120 < 2147483648 by decide), (hA _ et.1).1, (hA _ et.2.1).1, c1, c2]
    unfold FW.op
    cases d1 : W.rc (K.e1 (br r)) <;> cases d2 : W.rc (K.e2 (br r)) <;> simp only [if_true, if_false, nI_1] <;> rfl
  unfold f3_fillNext
  refine ⟨fun e => ?_, fun t e => ?_⟩
  · subst e
    have key : sr_wp (sr_lp (fun z1 : Int32 × sr_M => f3_fillNext_L2 z1.1 z1.2) (nI 0, M)) (fun x => x = .inl M) := by
      refine wp_for (fun i (_ : Unit) => (nI i, M)) m (fun _ _ => True) ?_ ?_ 0 () (Nat.zero_le _) trivial
      · intro r _ hr' _
        show sr_wp (f3_fillNext_L2 (nI r) M) _
        rw [step r hr']
        have : W.rc (K.e1 (br r)) = W.rc (K.e2 (br r)) := by
          cases d : decide (W.rc (K.e1 (br r)) = W.rc (K.e2 (br r))) with
          | true => exact of_decide_eq_true d
          | false => exact absurd ⟨(hB.1 r hr').1, (hB.1 r hr').2, of_decide_eq_false d⟩ (hb (br r))
        rw [if_pos this, wp_on]
        exact ⟨(), rfl, trivial⟩
      · intro _ _
        show sr_wp (f3_fillNext_L2 (nI m) M) _
        unfold f3_fillNext_L2
        simp only [sr_bnd, hr.1]
        rw [if_pos (Int32.le_refl _), wp_out]
    obtain ⟨x, e, rfl⟩ := key
    simp only [pp_l0, e, Option.bind_some]
    rfl
  · subst e
    obtain ⟨hl, hmin⟩ := hb
    obtain ⟨k, hk, rfl⟩ := hB.2.1 t hl.1 hl.2.1
    obtain ⟨M', e1, e2, e3⟩ := Xfill hW hX hO hi hA hl
    have key : sr_wp (sr_lp (fun z1 : Int32 × sr_M => f3_fillNext_L2 z1.1 z1.2) (nI 0, M)) (fun x => x = .inr (1, M')) := by
      refine wp_for (fun i (_ : Unit) => (nI i, M)) k (fun _ _ => True) ?_ ?_ 0 () (Nat.zero_le _) trivial
      · intro r _ hr' _
        show sr_wp (f3_fillNext_L2 (nI r) M) _
        rw [step r (by omega)]
        have : W.rc (K.e1 (br r)) = W.rc (K.e2 (br r)) := by
          cases d : decide (W.rc (K.e1 (br r)) = W.rc (K.e2 (br r))) with
          | true => exact of_decide_eq_true d
          | false =>
            have hl' : Lead K W (br r) := ⟨(hB.1 r (by omega)).1, (hB.1 r (by omega)).2, of_decide_eq_false d⟩
            have := hmin (br r) hl' (fun q => by have := hB.inj (by omega) hk q; omega)
            have := (hB.lt_iff hk (by omega)).mp this
            omega
        rw [if_pos this, wp_on]
        exact ⟨(), rfl, trivial⟩
      · intro _ _
        show sr_wp (f3_fillNext_L2 (nI k) M) _
        rw [step k hk, if_neg hl.2.2, e1, Option.bind_some, wp_out]
    obtain ⟨x, e, rfl⟩ := key
    refine ⟨M', ?_, e2, e3⟩
    simp only [pp_l0, e, Option.bind_some]
    rfl
