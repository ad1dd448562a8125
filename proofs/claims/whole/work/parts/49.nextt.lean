/-! THE NEXT THROAT, out of the last step -/
def Lp (K : RK) (st : Nat) (fl : Nat → Option Nat) (lp : Option Nat) : Prop := (st = 0 → lp = none) ∧ (0 < st → ∃ p, p < K.n ∧ lp = some p ∧ fl p = some st) ∧ ∀ p, p < K.n → 0 < st → fl p = some st → lp = some p
theorem Lp.lt {K : RK} {st : Nat} {fl : Nat → Option Nat} {lp : Option Nat} (h : Lp K st fl lp) : ∀ p, lp = some p → p < K.n := by
  intro p e
  by_cases q : st = 0
  · rw [h.1 q] at e; cases e
  · obtain ⟨p', h1, h2, -⟩ := h.2.1 (by omega)
    rw [e] at h2; cases h2; exact h1
theorem XnextThroat {K : RK} {M : sr_M} {o st : Nat} {fl ct : Nat → Option Nat} {lp : Option Nat} (hW : WF K) (hX : RX K M) (hb : bnd K fl) (hc : bnd K ct) (hf : At K fl (o + 3) M) (hg : At K ct (o + 5) M) (hs : st ≤ K.n) (h2 : M.1 o 2 = nI st) (hp : ∀ p, p < K.n → 0 < st → fl p = some st → M.1 (o + 2) st = nI p) (hl : Lp K st fl lp) :
    sr_wp (f1_nextThroat o M) (fun r => ∃ b, r = oI b ∧ Nx K fl ct lp b) := by
  have hn := hW.1
  have hT := hW.2.1
  obtain ⟨m, br, hr⟩ := hX.2.1
  have cand : ∀ r1 : Option Nat, (∀ t, r1 = some t → t < K.T) → (lp = none → r1 = none) → (∀ p, lp = some p → NxAt K (Cd K fl ct) p r1) → sr_wp (if oI r1 < 0 then (f1_candidate o 0 M).bind fun v4 => some v4 else some (oI r1)) (fun r => ∃ b, r = oI b ∧ Nx K fl ct lp b) := by
    intro r1 hlt q1 q2
    cases r1 with
    | none =>
      rw [if_pos (by decide)]
      refine wp_bind (wp_mono (Xcandidate hW hX.1 hr hb hc hf hg (j := 0) (by decide)) ?_)
      rintro r ⟨b, rfl, h⟩
      rw [wp_some]
      exact ⟨b, rfl, none, q1, q2, fun t e => (by cases e), fun _ => h.first hr.2.1⟩
    | some t =>
      have := hlt t rfl
      rw [if_neg (by show ¬ nI t < nI 0; rw [pp_lt (by omega) (by omega)]; omega), wp_some]
      exact ⟨some t, rfl, some t, q1, q2, fun _ e => e, fun e => by cases e⟩
  unfold f1_nextThroat
  simp only [sr_bnd, sr_jn, h2]
  by_cases q : st = 0
  · rw [if_pos (by show nI st ≤ nI 0; rw [pp_le (by omega) (by omega)]; omega)]
    have := cand none (fun t e => by cases e) (fun _ => rfl) (fun p e => by rw [hl.1 q] at e; cases e)
    rw [if_pos (show oI none < 0 by decide)] at this
    rw [if_pos (by decide)]
    exact this
  · obtain ⟨p, p1, p2, p3⟩ := hl.2.1 (by omega)
    rw [if_neg (by show ¬ nI st ≤ nI 0; rw [pp_le (by omega) (by omega)]; omega), pp_ld (by omega) (by decide), hp p p1 (by omega) p3]
    refine wp_bind (wp_mono (XprefAt hW hX hb hc hf hg p1) ?_)
    rintro r ⟨b, rfl, h⟩
    refine cand b (fun t e => ?_) (fun e => by rw [p2] at e; cases e) (fun p' e => by rw [p2] at e; cases e; exact h)
    rw [e] at h
    by_cases k1 : K.kd p = 1
    · exact (h.1 k1).sm.1.1
    · by_cases k2 : K.kd p = 2
      · exact (h.2.1 k2).sm.1.1
      · exact absurd (h.2.2 k1 k2) (by simp)
theorem YnextThroat {K : RK} {M : sr_M} {st : Nat} {fl ct : Nat → Option Nat} {lp : Option Nat} (hW : WF K) (hy : RY K M) (hb : bnd K fl) (hc : bnd K ct) (hf : At K fl 12 M) (hg : At K ct 14 M) (hs : st ≤ K.n) (h14 : M.1 0 14 = nI st) (hl : Lp K st fl lp) :
    sr_wp (f5_nextThroat M) (fun r => ∃ b, r = oI b ∧ Nx K fl ct lp b) := by
  have hn := hW.1
  have hT := hW.2.1
  have cand : ∀ r1 : Option Nat, (∀ t, r1 = some t → t < K.T) → (lp = none → r1 = none) → (∀ p, lp = some p → NxAt K (Cd K fl ct) p r1) → sr_wp (if oI r1 < 0 then (f5_bestAt (-1) 0 M).bind fun v4 => some v4 else some (oI r1)) (fun r => ∃ b, r = oI b ∧ Nx K fl ct lp b) := by
    intro r1 hlt q1 q2
    cases r1 with
    | none =>
      rw [if_pos (by decide)]
      refine wp_bind (wp_mono (YbestAt hW hy hb hc hf hg none (fun p e => by cases e) false (fun _ => rfl)) ?_)
      rintro r ⟨b, rfl, h⟩
      rw [wp_some]
      exact ⟨b, rfl, none, q1, q2, fun t e => (by cases e), fun _ => h.congr (fun u => ⟨fun h => h.1, fun h => ⟨h, fun p e => by cases e⟩⟩)⟩
    | some t =>
      have := hlt t rfl
      rw [if_neg (by show ¬ nI t < nI 0; rw [pp_lt (by omega) (by omega)]; omega), wp_some]
      exact ⟨some t, rfl, some t, q1, q2, fun _ e => e, fun e => by cases e⟩
  unfold f5_nextThroat
  refine wp_bind (wp_mono (Q := fun r => r = oI lp) ?_ ?_)
  · refine wp_for (τ := Int32) (fun i x => (x, nI i)) K.n (fun i x => ∃ b, x = oI b ∧ (∀ p, b = some p → lp = some p) ∧ ∀ p, p < i → lp = some p → b = some p) ?_ ?_ 0 (-1) (Nat.zero_le _) ⟨none, rfl, fun p e => (by cases e), fun p hp => absurd hp (Nat.not_lt_zero _)⟩
    · rintro i x hi ⟨b, rfl, g1, g2⟩
      unfold f5_nextThroat_L4
      simp (disch := omega) only [sr_bnd, sr_put, sr_jn, Option.bind_some, pp_bd2, pp_ld, pp_st, pp_stB, pp_putB, pp_grd, pp_l0, pp_l1, pp_l2, pp_l3, pp_l4, pp_l5, pp_l6, pp_l60, pp_l120, pp_l200, nI_add, pp_sub, pp_dec, pp_le, pp_lt, pp_eq, pp_neg1, pp_neg2, pp_neg3, pp_neg4, pp_neg5, if_pos, if_neg, if_true, if_false, hy.1, h14, hf i hi]
      by_cases q : st ≤ 0
      · rw [if_pos q, wp_on]
        refine ⟨oI b, rfl, b, rfl, g1, fun p hp e => ?_⟩
        rw [hl.1 (by omega)] at e; cases e
      · rw [if_neg q]
        by_cases z : fl i = some st
        · rw [if_pos (by rw [z]; rfl), wp_on]
          have := hl.2.2 i hi (by omega) z
          refine ⟨nI i, rfl, some i, rfl, fun p e => by cases e; exact this, fun p hp e => by rw [this] at e; exact e⟩
        · rw [if_neg (by rw [oI_eqs (hb i hi) (by omega)]; exact z), wp_on]
          refine ⟨oI b, rfl, b, rfl, g1, fun p hp e => ?_⟩
          by_cases pe : p = i
          · obtain ⟨p', _, a2, a3⟩ := hl.2.1 (by omega)
            rw [e] at a2; cases a2
            rw [pe] at a3; exact absurd a3 z
          · exact g2 p (by omega) e
    · rintro x ⟨b, rfl, g1, g2⟩
      unfold f5_nextThroat_L4
      simp (disch := omega) only [sr_bnd, sr_put, sr_jn, Option.bind_some, pp_bd2, pp_ld, pp_st, pp_stB, pp_putB, pp_grd, pp_l0, pp_l1, pp_l2, pp_l3, pp_l4, pp_l5, pp_l6, pp_l60, pp_l120, pp_l200, nI_add, pp_sub, pp_dec, pp_le, pp_lt, pp_eq, pp_neg1, pp_neg2, pp_neg3, pp_neg4, pp_neg5, if_pos, if_neg, if_true, if_false, hy.1, Nat.le_refl, wp_out]
      refine congrArg oI ?_
      cases b with
      | some p => rw [g1 p rfl]
      | none =>
        cases e : lp with
        | none => rfl
        | some p => exact g2 p (hl.lt p e) e
  · rintro r rfl
    simp only [sr_jn]
    cases e : lp with
    | none =>
      rw [if_pos (by decide)]
      have := cand none (fun t e => by cases e) (fun _ => rfl) (fun p e' => by rw [e] at e'; cases e')
      rw [if_pos (show oI none < 0 by decide)] at this
      rw [if_pos (by decide), ← e]
      exact this
    | some p =>
      have hp := hl.lt p e
      have hk := hW.2.2.2.1 p hp
      rw [if_neg (by show ¬ nI p < nI 0; rw [pp_lt (by omega) (by omega)]; omega), oI_s, pp_ld (by omega) (by decide), pp_ld (by omega) (by decide), hy.2.2.1 p hp]
      have best : ∀ md : Bool, (∀ b, Best K.hd md (fun t => Cd K fl ct t ∧ K.inc p t = true) b → NxAt K (Cd K fl ct) p b) → sr_wp ((f5_bestAt (nI p) (pp_bI md) M).bind fun v17 => if v17 < 0 then (f5_bestAt (-1) 0 M).bind fun v11 => some v11 else some v17) (fun r => ∃ b, r = oI b ∧ Nx K fl ct (some p) b) := by
        intro md hb'
        refine wp_bind (wp_mono (YbestAt hW hy hb hc hf hg (some p) (fun p' e' => by cases e'; exact hp) md (fun e' => by cases e')) ?_)
        rintro r ⟨b, rfl, h⟩
        have h' : Best K.hd md (fun t => Cd K fl ct t ∧ K.inc p t = true) b := h.congr (fun u => ⟨fun ⟨a, c⟩ => ⟨a, c p rfl⟩, fun ⟨a, c⟩ => ⟨a, fun p' e' => by cases e'; exact c⟩⟩)
        have := cand b (fun t e' => by rw [e'] at h'; exact h'.sm.1.1) (fun e' => by rw [e] at e'; cases e') (fun p' e' => by rw [e] at e'; cases e'; exact hb' b h')
        rw [e] at this
        exact this
      by_cases k1 : K.kd p = 1
      · rw [k1, if_pos (by decide), if_neg (by decide)]
        exact best false (fun b h => ⟨fun _ => h, fun h2 => by omega, fun h _ => absurd k1 h⟩)
      · rw [if_neg (by show ¬ nI (K.kd p) = nI 1; rw [pp_eq (by omega) (by omega)]; exact k1)]
        by_cases k2 : K.kd p = 2
        · rw [pp_ld (by omega) (by decide), hy.2.2.1 p hp, k2, if_pos (by decide), if_pos (by decide)]
          exact best true (fun b h => ⟨fun h2 => by omega, fun _ => h, fun _ h => absurd k2 h⟩)
        · have n2 : ¬ nI (K.kd p) = 2 := by show ¬ nI (K.kd p) = nI 2; rw [pp_eq (by omega) (by omega)]; exact k2
          rw [pp_ld (by omega) (by decide), hy.2.2.1 p hp, if_neg n2]
          have := cand none (fun t e => by cases e) (fun _ => rfl) (fun p' e' => ⟨fun h => by rw [e] at e'; cases e'; exact absurd h k1, fun h => by rw [e] at e'; cases e'; exact absurd h k2, fun _ _ => rfl⟩)
          rw [e] at this
          exact this
