/-! THE NEXT THROAT, on both sides -/
theorem cn_pos {P : Nat → Bool} {n i : Nat} (hi : i < n) (h : P i = true) : 0 < cn_ P n := by
  have := cn_lt (P := fun _ => false) (P' := P) hi rfl h (fun _ _ e => by cases e)
  omega
def FrX (m : Nat) (br : Nat → Nat) (C : Nat → Bool) (j : Nat) (r : Option Nat) : Prop := match r with
  | some t => ∃ k, k < m ∧ t = br k ∧ C (br k) = true ∧ cn_ (fun i => C (br i)) k = j
  | none => cn_ (fun i => C (br i)) m ≤ j
theorem Xcandidate {K : RK} {M : sr_M} {o m : Nat} {br : Nat → Nat} {fl ct : Nat → Option Nat} (hW : WF K) (hx : RXc K M) (hr : RXr K M m br) (hb : bnd K fl) (hc : bnd K ct) (hf : At K fl (o + 3) M) (hg : At K ct (o + 5) M) {j : Nat} (hj : j < 2147483648) :
    sr_wp (f1_candidate o (nI j) M) (fun r => ∃ b, r = oI b ∧ FrX m br (cnd K fl ct) j b) := by
  have hT := hW.2.1
  obtain ⟨r1, r2, r3, r4, r5⟩ := hr
  have hm := r2.le
  unfold f1_candidate
  refine wp_bind (wp_mono (Q := fun r => (r = .inl () ∧ cn_ (fun i => cnd K fl ct (br i)) m ≤ j) ∨ ∃ t, r = .inr (nI t) ∧ FrX m br (cnd K fl ct) j (some t)) ?_ ?_)
  · refine wp_for (τ := Unit) (fun i _ => (nI (cn_ (fun i => cnd K fl ct (br i)) i), nI i)) m (fun i _ => cn_ (fun i => cnd K fl ct (br i)) i ≤ j) ?_ ?_ 0 () (Nat.zero_le _) (Nat.zero_le _)
    · rintro i _ hi g
      have bi := r2.1 i hi
      have ci : cn_ (fun i => cnd K fl ct (br i)) i ≤ i := cn_le
      unfold f1_candidate_L4
      simp (disch := omega) only [sr_bnd, sr_put, sr_jn, Option.bind_some, pp_bd2, pp_ld, pp_st, pp_stB, pp_putB, pp_grd, pp_l0, pp_l1, pp_l2, pp_l3, pp_l4, pp_l5, pp_l6, pp_l60, pp_l120, pp_l200, nI_add, pp_sub, pp_dec, pp_le, pp_lt, pp_eq, pp_neg1, pp_neg2, pp_neg3, pp_neg4, pp_neg5, if_pos, if_neg, if_true, if_false, r1, r3 i hi, Xcand hW hx hb hc hf hg bi.1]
      cases hcd : cnd K fl ct (br i) with
      | false =>
        rw [if_pos (by decide), wp_on]
        refine ⟨(), ?_, ?_⟩
        · show _ = (nI (cn_ _ i + (if cnd K fl ct (br i) = true then 1 else 0)), nI (i + 1))
          rw [hcd]; rfl
        · show cn_ _ i + (if cnd K fl ct (br i) = true then 1 else 0) ≤ j
          rw [hcd]; exact g
      | true =>
        rw [if_neg (by decide)]
        by_cases e : cn_ (fun i => cnd K fl ct (br i)) i = j
        · rw [if_pos e, wp_out]
          exact Or.inr ⟨br i, rfl, i, hi, rfl, hcd, e⟩
        · rw [if_neg e, wp_on]
          refine ⟨(), ?_, ?_⟩
          · show _ = (nI (cn_ _ i + (if cnd K fl ct (br i) = true then 1 else 0)), nI (i + 1))
            rw [hcd]; rfl
          · show cn_ _ i + (if cnd K fl ct (br i) = true then 1 else 0) ≤ j
            rw [hcd, if_pos rfl]; omega
    · rintro _ g
      unfold f1_candidate_L4
      simp (disch := omega) only [sr_bnd, sr_put, sr_jn, Option.bind_some, pp_bd2, pp_ld, pp_st, pp_stB, pp_putB, pp_grd, pp_l0, pp_l1, pp_l2, pp_l3, pp_l4, pp_l5, pp_l6, pp_l60, pp_l120, pp_l200, nI_add, pp_sub, pp_dec, pp_le, pp_lt, pp_eq, pp_neg1, pp_neg2, pp_neg3, pp_neg4, pp_neg5, if_pos, if_neg, if_true, if_false, r1, Nat.le_refl, wp_out]
      exact Or.inl ⟨by trivial, g⟩
  · rintro r (⟨rfl, h⟩ | ⟨t, rfl, h⟩)
    · show sr_wp (some (-1)) _
      rw [wp_some]
      exact ⟨none, rfl, h⟩
    · show sr_wp (some (nI t)) _
      rw [wp_some]
      exact ⟨some t, rfl, h⟩
theorem FrX.first {K : RK} {m : Nat} {br : Nat → Nat} {fl ct : Nat → Option Nat} (hB : Br K.T K.op K.hd m br) {r : Option Nat} (h : FrX m br (cnd K fl ct) 0 r) : Best K.hd false (Cd K fl ct) r := by
  cases r with
  | none =>
    refine Best.nn (fun u ⟨h1, h2, h3⟩ => ?_)
    obtain ⟨k, hk, rfl⟩ := hB.2.1 u h1 h2
    have := cn_pos (P := fun i => cnd K fl ct (br i)) hk h3
    have h' : cn_ (fun i => cnd K fl ct (br i)) m ≤ 0 := h
    omega
  | some t =>
    obtain ⟨k, hk, rfl, h3, h4⟩ := h
    have bk := hB.1 k hk
    refine ⟨⟨bk.1, bk.2, h3⟩, fun u ⟨g1, g2, g3⟩ ne => ?_⟩
    obtain ⟨l, hl, rfl⟩ := hB.2.1 u g1 g2
    rcases Nat.lt_trichotomy l k with q | q | q
    · have := cn_pos (P := fun i => cnd K fl ct (br i)) q g3
      omega
    · rw [q] at ne; exact absurd rfl ne
    · exact hB.2.2 k l q hl
def NxAt (K : RK) (C : Nat → Prop) (p : Nat) (r : Option Nat) : Prop := (K.kd p = 1 → Best K.hd false (fun t => C t ∧ K.inc p t = true) r) ∧ (K.kd p = 2 → Best K.hd true (fun t => C t ∧ K.inc p t = true) r) ∧ (K.kd p ≠ 1 → K.kd p ≠ 2 → r = none)
theorem NxAt.uniq {K : RK} {C : Nat → Prop} {p : Nat} {r r' : Option Nat} (h : NxAt K C p r) (h' : NxAt K C p r') : r = r' := by
  by_cases k1 : K.kd p = 1
  · exact Best.uniq (h.1 k1) (h'.1 k1)
  · by_cases k2 : K.kd p = 2
    · exact Best.uniq (h.2.1 k2) (h'.2.1 k2)
    · rw [h.2.2 k1 k2, h'.2.2 k1 k2]
def Nx (K : RK) (fl ct : Nat → Option Nat) (lp : Option Nat) (r : Option Nat) : Prop := ∃ r1, (lp = none → r1 = none) ∧ (∀ p, lp = some p → NxAt K (Cd K fl ct) p r1) ∧ (∀ t, r1 = some t → r = some t) ∧ (r1 = none → Best K.hd false (Cd K fl ct) r)
theorem Nx.uniq {K : RK} {fl ct : Nat → Option Nat} {lp r r' : Option Nat} (h : Nx K fl ct lp r) (h' : Nx K fl ct lp r') : r = r' := by
  obtain ⟨r1, a, b, c, d⟩ := h
  obtain ⟨r2, a', b', c', d'⟩ := h'
  have e : r1 = r2 := by
    cases lp with
    | none => rw [a rfl, a' rfl]
    | some p => exact (b p rfl).uniq (b' p rfl)
  subst e
  cases r1 with
  | none => exact Best.uniq (d rfl) (d' rfl)
  | some t => rw [c t rfl, c' t rfl]
theorem Nx.cd {K : RK} {fl ct : Nat → Option Nat} {lp : Option Nat} {t : Nat} (h : Nx K fl ct lp (some t)) : Cd K fl ct t := by
  obtain ⟨r1, a, b, c, d⟩ := h
  cases r1 with
  | none => exact (d rfl).sm
  | some u =>
    have e := c u rfl
    cases e
    cases lp with
    | none => exact absurd (a rfl) (by simp)
    | some p =>
      have hp := b p rfl
      by_cases k1 : K.kd p = 1
      · exact (hp.1 k1).sm.1
      · by_cases k2 : K.kd p = 2
        · exact (hp.2.1 k2).sm.1
        · exact absurd (hp.2.2 k1 k2) (by simp)
theorem Xpreferred {K : RK} {M : sr_M} {o m : Nat} {br : Nat → Nat} {t b : Nat} (hW : WF K) (hr : RXr K M m br) (ht : t < K.T) (hb : b < K.T) (ot : K.op t = true) (ob : K.op b = true) (md : Bool) : f1_isPreferred o (nI t) (nI b) (pp_bI md) M = some (pp_bI (prf K.hd md t b)) := by
  have hT := hW.2.1
  have l1 := rk_le (K := K) (t := t)
  have l2 := rk_le (K := K) (t := b)
  have e1 := hr.rank ht
  have e2 := hr.rank hb
  rw [if_pos ot] at e1
  rw [if_pos ob] at e2
  have i1 : K.rk t < K.rk b ↔ lsb K.hd t b = true := rk_iff ht hb ot ob
  have i2 : K.rk b < K.rk t ↔ lsb K.hd b t = true := rk_iff hb ht ob ot
  unfold f1_isPreferred prf
  simp (disch := omega) only [sr_bnd, sr_put, sr_jn, Option.bind_some, pp_bd2, pp_ld, pp_st, pp_stB, pp_putB, pp_grd, pp_l0, pp_l1, pp_l2, pp_l3, pp_l4, pp_l5, pp_l6, pp_l60, pp_l120, pp_l200, nI_add, pp_sub, pp_dec, pp_le, pp_lt, pp_eq, pp_neg1, pp_neg2, pp_neg3, pp_neg4, pp_neg5, if_pos, if_neg, if_true, if_false, e1, e2]
  cases md with
  | false =>
    rw [if_pos (by decide), show (if false = true then lsb K.hd b t else lsb K.hd t b) = lsb K.hd t b from rfl]
    by_cases q : K.rk b ≤ K.rk t
    · rw [if_pos q]
      cases h : lsb K.hd t b with
      | false => rfl
      | true => rw [h] at i1; have := i1.mpr rfl; omega
    · rw [if_neg q, i1.mp (by omega)]; rfl
  | true =>
    rw [if_neg (by decide), show (if true = true then lsb K.hd b t else lsb K.hd t b) = lsb K.hd b t from rfl]
    by_cases q : K.rk t ≤ K.rk b
    · rw [if_pos q]
      cases h : lsb K.hd b t with
      | false => rfl
      | true => rw [h] at i2; have := i2.mpr rfl; omega
    · rw [if_neg q, i2.mp (by omega)]; rfl
theorem XprefAt {K : RK} {M : sr_M} {o : Nat} {fl ct : Nat → Option Nat} (hW : WF K) (hX : RX K M) (hb : bnd K fl) (hc : bnd K ct) (hf : At K fl (o + 3) M) (hg : At K ct (o + 5) M) {p : Nat} (hp : p < K.n) :
    sr_wp (f1_preferredAt o (nI p) M) (fun r => ∃ b, r = oI b ∧ NxAt K (Cd K fl ct) p b) := by
  have hn := hW.1
  have hT := hW.2.1
  obtain ⟨hx, ⟨m, br, hr⟩, ⟨fa, aa, f1, f2, f3, f4, f5, f6⟩, -⟩ := hX
  have hk := hW.2.2.2.1 p hp
  have b2 := hx.2.2.1 p hp
  have hm' : ∀ q, q < K.n → fa q ≤ fa (q + 1) := fun q hq => by rw [f3 q hq]; omega
  have lim : fa (p + 1) ≤ 2 * K.T := by rw [← f4]; exact fa_mono hm' K.n (Nat.le_refl _) (p + 1) (by omega)
  have key : ∀ md : Bool, sr_wp (sr_ld (nI p) 121 (M.1 9) fun v5 => (sr_lp (fun z6 : Int32 × Int32 => f1_preferredAt_L51 o (nI p) M (pp_bI md) z6.1 z6.2) ((-1), v5)).bind fun w6 => some w6) (fun r => ∃ b, r = oI b ∧ Best K.hd md (fun t => Cd K fl ct t ∧ K.inc p t = true) b) := by
    intro md
    rw [pp_ld (by omega) (by decide), f1 p (by omega)]
    refine wp_bind (wp_mono (Q := fun r => ∃ b, r = oI b ∧ Best K.hd md (fun t => Cd K fl ct t ∧ K.inc p t = true) b) ?_ (fun r h => by rw [wp_some]; exact h))
    refine wp_for (τ := Int32) (fun i x => (x, nI i)) (fa (p + 1)) (fun i x => fa p ≤ i ∧ ∃ b, x = oI b ∧ Best K.hd md (fun t => Cd K fl ct t ∧ ∃ e, fa p ≤ e ∧ e < i ∧ aa e = t) b) ?_ ?_ (fa p) (-1) (hm' p hp) ⟨Nat.le_refl _, none, rfl, Best.nn (fun u ⟨_, e, h1, h2, _⟩ => by omega)⟩
    · rintro i x hi ⟨gi, b, rfl, g⟩
      have ai := f5 i (by omega)
      have bl := g.lt (N := K.T) (fun u hu => hu.1.1)
      have keep : (¬ Cd K fl ct (aa i)) → sr_wp (some (.inl (oI b, nI i + 1)) : Option ((Int32 × Int32) ⊕ Int32)) (sr_oc (fun t => ∃ x', t = (x', nI (i + 1)) ∧ fa p ≤ i + 1 ∧ ∃ b, x' = oI b ∧ Best K.hd md (fun t => Cd K fl ct t ∧ ∃ e, fa p ≤ e ∧ e < i + 1 ∧ aa e = t) b) (fun r => ∃ b, r = oI b ∧ Best K.hd md (fun t => Cd K fl ct t ∧ K.inc p t = true) b)) := by
        intro hno
        rw [wp_on]
        refine ⟨oI b, by rw [← nI_1], by omega, b, rfl, g.congr (fun u => ⟨fun ⟨h1, e, h2, h3, h4⟩ => ⟨h1, e, h2, by omega, h4⟩, fun ⟨h1, e, h2, h3, h4⟩ => ⟨h1, e, h2, ?_, h4⟩⟩)⟩
        by_cases ie : e = i
        · rw [ie] at h4; rw [← h4] at h1; exact absurd h1 hno
        · omega
      unfold f1_preferredAt_L51
      rw [nI_1, pp_ld (by omega) (by decide), f1 (p + 1) (by omega), if_neg (by rw [pp_le (by omega) (by omega)]; omega), pp_ld (by omega) (by decide), ai.1, Xopen hW hr ai.2, Option.bind_some]
      cases hop : K.op (aa i) with
      | false =>
        rw [if_pos (by decide)]
        exact keep (fun h => by have := h.2.1; rw [hop] at this; cases this)
      | true =>
        rw [if_neg (by decide), Xcand hW hx hb hc hf hg ai.2, Option.bind_some]
        cases hcd : cnd K fl ct (aa i) with
        | false =>
          rw [if_pos (by decide)]
          exact keep (fun h => by have := h.2.2; rw [hcd] at this; cases this)
        | true =>
          rw [if_neg (by decide)]
          have grow : ∀ u, (Cd K fl ct u ∧ ∃ e, fa p ≤ e ∧ e < i + 1 ∧ aa e = u) ↔ (Cd K fl ct u ∧ ∃ e, fa p ≤ e ∧ e < i ∧ aa e = u) ∨ u = aa i := by
            intro u
            constructor
            · rintro ⟨h1, e, h2, h3, h4⟩
              by_cases ie : e = i
              · rw [ie] at h4; exact Or.inr h4.symm
              · exact Or.inl ⟨h1, e, h2, by omega, h4⟩
            · rintro (⟨h1, e, h2, h3, h4⟩ | h)
              · exact ⟨h1, e, h2, by omega, h4⟩
              · rw [h]; exact ⟨⟨ai.2, hop, hcd⟩, i, gi, by omega, rfl⟩
          cases b with
          | none =>
            rw [if_pos (show oI none < 0 by decide), wp_on]
            exact ⟨nI (aa i), by rw [← nI_1], by omega, some (aa i), rfl, g.add0 grow⟩
          | some b =>
            have bT := bl b rfl
            have bC := g.sm.1
            rw [if_neg (by show ¬ nI b < nI 0; rw [pp_lt (by omega) (by omega)]; omega), oI_s, Xpreferred hW hr ai.2 bT hop bC.2.1 md, Option.bind_some]
            cases q : prf K.hd md (aa i) b with
            | true =>
              rw [if_neg (by decide), wp_on]
              exact ⟨nI (aa i), by rw [← nI_1], by omega, some (aa i), rfl, g.add1 q grow⟩
            | false =>
              rw [if_pos (by decide), wp_on]
              exact ⟨nI b, by rw [← nI_1], by omega, some b, rfl, g.add2 q grow⟩
    · rintro x ⟨gi, b, rfl, g⟩
      unfold f1_preferredAt_L51
      rw [nI_1, pp_ld (by omega) (by decide), f1 (p + 1) (by omega), if_pos (by rw [pp_le (by omega) (by omega)]; omega), wp_out]
      refine ⟨b, rfl, g.congr (fun u => ?_)⟩
      constructor
      · rintro ⟨h1, h2⟩
        exact ⟨h1, (f6 p u hp h1.1).mpr h2⟩
      · rintro ⟨h1, h2⟩
        exact ⟨h1, (f6 p u hp h1.1).mp h2⟩
  unfold f1_preferredAt
  simp only [sr_jn]
  rw [pp_ld (by omega) (by decide), b2]
  by_cases k2 : K.kd p = 2
  · rw [k2, if_pos (by decide)]
    have n1 : ¬ ((1 : Int32) = 0) := by decide
    simp only [if_neg n1]
    exact wp_mono (key true) (fun r ⟨b, h1, h2⟩ => ⟨b, h1, fun h => by omega, fun _ => h2, fun _ h => absurd k2 h⟩)
  · rw [if_neg (by show ¬ nI (K.kd p) = nI 2; rw [pp_eq (by omega) (by omega)]; exact k2)]
    simp only [if_true]
    rw [pp_ld (by omega) (by decide), b2]
    by_cases k1 : K.kd p = 1
    · rw [k1, if_pos (by decide)]
      exact wp_mono (key false) (fun r ⟨b, h1, h2⟩ => ⟨b, h1, fun _ => h2, fun h => by omega, fun h _ => absurd k1 h⟩)
    · rw [if_neg (by show ¬ nI (K.kd p) = nI 1; rw [pp_eq (by omega) (by omega)]; exact k1), wp_some]
      exact ⟨none, rfl, fun h => absurd h k1, fun h => absurd h k2, fun _ _ => rfl⟩
