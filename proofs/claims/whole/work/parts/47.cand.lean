/-! CANDIDATES and the best of them -/
def ldd (K : RK) (fl ct : Nat → Option Nat) (a b : Nat) : Bool := (fl a).isSome && !decide (K.kd a = 3) && (fl b).isNone && (ct b).isNone
def cnd (K : RK) (fl ct : Nat → Option Nat) (t : Nat) : Bool := ldd K fl ct (K.e1 t) (K.e2 t) || ldd K fl ct (K.e2 t) (K.e1 t)
theorem Xleads {K : RK} {M : sr_M} {o : Nat} {fl ct : Nat → Option Nat} {a b : Nat} (hW : WF K) (hx : RXc K M) (hb : bnd K fl) (hc : bnd K ct) (hf : At K fl (o + 3) M) (hg : At K ct (o + 5) M) (ha : a < K.n) (hb' : b < K.n) : f1_leads o (nI a) (nI b) M = some (pp_bI (ldd K fl ct a b)) := by
  have hn := hW.1
  have hk := hW.2.2.2.1 a ha
  unfold f1_leads ldd
  simp (disch := omega) only [sr_bnd, sr_put, sr_jn, Option.bind_some, pp_bd2, pp_ld, pp_st, pp_stB, pp_putB, pp_grd, pp_l0, pp_l1, pp_l2, pp_l3, pp_l4, pp_l5, pp_l6, pp_l60, pp_l120, pp_l200, nI_add, pp_sub, pp_dec, pp_le, pp_lt, pp_eq, pp_neg1, pp_neg2, pp_neg3, pp_neg4, pp_neg5, if_pos, if_neg, if_true, if_false, pp_l3, hf a ha, hf b hb', hg b hb', hx.2.2.1 a ha, oI_lt0 (hb a ha), oI_ge0 (hb b hb'), oI_ge0 (hc b hb')]
  by_cases k3 : K.kd a = 3 <;> cases fl a <;> cases fl b <;> cases ct b <;> simp [pp_bI, nI, k3]
theorem Xcand {K : RK} {M : sr_M} {o : Nat} {fl ct : Nat → Option Nat} {t : Nat} (hW : WF K) (hx : RXc K M) (hb : bnd K fl) (hc : bnd K ct) (hf : At K fl (o + 3) M) (hg : At K ct (o + 5) M) (ht : t < K.T) : f1_isCandidate o (nI t) M = some (pp_bI (cnd K fl ct t)) := by
  have hT := hW.2.1
  have et := hW.2.2.1 t ht
  unfold f1_isCandidate cnd
  simp (disch := omega) only [sr_bnd, sr_put, sr_jn, Option.bind_some, pp_bd2, pp_ld, pp_st, pp_stB, pp_putB, pp_grd, pp_l0, pp_l1, pp_l2, pp_l3, pp_l4, pp_l5, pp_l6, pp_l60, pp_l120, pp_l200, nI_add, pp_sub, pp_dec, pp_le, pp_lt, pp_eq, pp_neg1, pp_neg2, pp_neg3, pp_neg4, pp_neg5, if_pos, if_neg, if_true, if_false, hx.2.2.2.2.1 t ht, hx.2.2.2.2.2.1 t ht, Xleads hW hx hb hc hf hg et.1 et.2.1, Xleads hW hx hb hc hf hg et.2.1 et.1]
  cases ldd K fl ct (K.e1 t) (K.e2 t) <;> cases ldd K fl ct (K.e2 t) (K.e1 t) <;> simp [pp_bI, nI]
theorem Yleads {K : RK} {M : sr_M} {fl ct : Nat → Option Nat} {a b : Nat} (hW : WF K) (hy : RY K M) (hb : bnd K fl) (hc : bnd K ct) (hf : At K fl 12 M) (hg : At K ct 14 M) (ha : a < K.n) (hb' : b < K.n) : f5_leads (nI a) (nI b) M = some (pp_bI (ldd K fl ct a b)) := by
  have hn := hW.1
  have hk := hW.2.2.2.1 a ha
  unfold f5_leads ldd
  simp (disch := omega) only [sr_bnd, sr_put, sr_jn, Option.bind_some, pp_bd2, pp_ld, pp_st, pp_stB, pp_putB, pp_grd, pp_l0, pp_l1, pp_l2, pp_l3, pp_l4, pp_l5, pp_l6, pp_l60, pp_l120, pp_l200, nI_add, pp_sub, pp_dec, pp_le, pp_lt, pp_eq, pp_neg1, pp_neg2, pp_neg3, pp_neg4, pp_neg5, if_pos, if_neg, if_true, if_false, pp_l3, YisFilled hW hb hf ha, YisFree hW hb hc hf hg hb', hy.2.2.1 a ha]
  by_cases k3 : K.kd a = 3 <;> cases fl a <;> cases fl b <;> cases ct b <;> simp [pp_bI, nI, k3]
theorem Ycand {K : RK} {M : sr_M} {fl ct : Nat → Option Nat} {t : Nat} (hW : WF K) (hy : RY K M) (hb : bnd K fl) (hc : bnd K ct) (hf : At K fl 12 M) (hg : At K ct 14 M) (ht : t < K.T) : f5_isCandidate (nI t) M = some (pp_bI (K.op t && cnd K fl ct t)) := by
  have hT := hW.2.1
  have et := hW.2.2.1 t ht
  unfold f5_isCandidate cnd
  simp (disch := omega) only [sr_bnd, sr_put, sr_jn, Option.bind_some, pp_bd2, pp_ld, pp_st, pp_stB, pp_putB, pp_grd, pp_l0, pp_l1, pp_l2, pp_l3, pp_l4, pp_l5, pp_l6, pp_l60, pp_l120, pp_l200, nI_add, pp_sub, pp_dec, pp_le, pp_lt, pp_eq, pp_neg1, pp_neg2, pp_neg3, pp_neg4, pp_neg5, if_pos, if_neg, if_true, if_false, hy.2.2.2.2.1 t ht, hy.2.2.2.2.2.1 t ht, hy.2.2.2.2.2.2.2.1 t ht, Yleads hW hy hb hc hf hg et.1 et.2.1, Yleads hW hy hb hc hf hg et.2.1 et.1]
  cases K.op t <;> cases ldd K fl ct (K.e1 t) (K.e2 t) <;> cases ldd K fl ct (K.e2 t) (K.e1 t) <;> simp [pp_bI, nI]
theorem Least.add0 {hd : Nat → Nat} {P P' : Nat → Prop} {t : Nat} (h : Least hd P none) (e : ∀ u, P' u ↔ P u ∨ u = t) : Least hd P' (some t) :=
  ⟨(e t).mpr (Or.inr rfl), fun u hu ne => by
    rcases (e u).mp hu with q | q
    · exact absurd q (h u)
    · exact absurd q ne⟩
theorem Least.add1 {hd : Nat → Nat} {P P' : Nat → Prop} {t b : Nat} (h : Least hd P (some b)) (l : lsb hd t b = true) (e : ∀ u, P' u ↔ P u ∨ u = t) : Least hd P' (some t) :=
  ⟨(e t).mpr (Or.inr rfl), fun u hu ne => by
    rcases (e u).mp hu with q | q
    · by_cases ub : u = b
      · rw [ub]; exact l
      · exact lsb_tr l (h.2 u q ub)
    · exact absurd q ne⟩
theorem Least.add2 {hd : Nat → Nat} {P P' : Nat → Prop} {t b : Nat} (h : Least hd P (some b)) (l : lsb hd t b = false) (e : ∀ u, P' u ↔ P u ∨ u = t) : Least hd P' (some b) :=
  ⟨(e b).mpr (Or.inl h.1), fun u hu ne => by
    rcases (e u).mp hu with q | q
    · exact h.2 u q ne
    · rw [q] at ne ⊢; exact lsb_neg l ne⟩
theorem Most.add0 {hd : Nat → Nat} {P P' : Nat → Prop} {t : Nat} (h : Most hd P none) (e : ∀ u, P' u ↔ P u ∨ u = t) : Most hd P' (some t) :=
  ⟨(e t).mpr (Or.inr rfl), fun u hu ne => by
    rcases (e u).mp hu with q | q
    · exact absurd q (h u)
    · exact absurd q ne⟩
theorem Most.add1 {hd : Nat → Nat} {P P' : Nat → Prop} {t b : Nat} (h : Most hd P (some b)) (l : lsb hd b t = true) (e : ∀ u, P' u ↔ P u ∨ u = t) : Most hd P' (some t) :=
  ⟨(e t).mpr (Or.inr rfl), fun u hu ne => by
    rcases (e u).mp hu with q | q
    · by_cases ub : u = b
      · rw [ub]; exact l
      · exact lsb_tr (h.2 u q ub) l
    · exact absurd q ne⟩
theorem Most.add2 {hd : Nat → Nat} {P P' : Nat → Prop} {t b : Nat} (h : Most hd P (some b)) (l : lsb hd b t = false) (e : ∀ u, P' u ↔ P u ∨ u = t) : Most hd P' (some b) :=
  ⟨(e b).mpr (Or.inl h.1), fun u hu ne => by
    rcases (e u).mp hu with q | q
    · exact h.2 u q ne
    · rw [q] at ne ⊢; exact lsb_neg l (Ne.symm ne)⟩
/-- least or most, by what is asked -/
def Best (hd : Nat → Nat) (most : Bool) (P : Nat → Prop) (r : Option Nat) : Prop := if most = true then Most hd P r else Least hd P r
theorem Best.uniq {hd : Nat → Nat} {m : Bool} {P : Nat → Prop} {r r' : Option Nat} (h : Best hd m P r) (h' : Best hd m P r') : r = r' := by
  cases m
  · exact Least.uniq h h'
  · exact Most.uniq h h'
theorem Best.congr {hd : Nat → Nat} {m : Bool} {P P' : Nat → Prop} (e : ∀ t, P t ↔ P' t) {r : Option Nat} (h : Best hd m P r) : Best hd m P' r := by
  have : P = P' := funext fun t => propext (e t)
  rw [← this]; exact h
theorem Best.nn {hd : Nat → Nat} {m : Bool} {P : Nat → Prop} (h : ∀ u, ¬ P u) : Best hd m P none := by
  cases m
  · exact h
  · exact h
theorem Best.sm {hd : Nat → Nat} {m : Bool} {P : Nat → Prop} {b : Nat} (h : Best hd m P (some b)) : P b := by
  cases m
  · exact h.1
  · exact h.1
theorem Best.add0 {hd : Nat → Nat} {m : Bool} {P P' : Nat → Prop} {t : Nat} (h : Best hd m P .none) (e : ∀ u, P' u ↔ P u ∨ u = t) : Best hd m P' (some t) := by
  cases m
  · exact Least.add0 h e
  · exact Most.add0 h e
/-- is the new one preferred -/
def prf (hd : Nat → Nat) (m : Bool) (t b : Nat) : Bool := if m = true then lsb hd b t else lsb hd t b
theorem Best.add1 {hd : Nat → Nat} {m : Bool} {P P' : Nat → Prop} {t b : Nat} (h : Best hd m P (some b)) (l : prf hd m t b = true) (e : ∀ u, P' u ↔ P u ∨ u = t) : Best hd m P' (some t) := by
  cases m
  · exact Least.add1 h l e
  · exact Most.add1 h l e
theorem Best.add2 {hd : Nat → Nat} {m : Bool} {P P' : Nat → Prop} {t b : Nat} (h : Best hd m P (some b)) (l : prf hd m t b = false) (e : ∀ u, P' u ↔ P u ∨ u = t) : Best hd m P' (some b) := by
  cases m
  · exact Least.add2 h l e
  · exact Most.add2 h l e
theorem Best.lt {hd : Nat → Nat} {m : Bool} {P : Nat → Prop} {r : Option Nat} {N : Nat} (h : Best hd m P r) (hP : ∀ u, P u → u < N) : ∀ k, r = some k → k < N := by
  intro k e
  rw [e] at h
  exact hP k h.sm
def Cd (K : RK) (fl ct : Nat → Option Nat) (t : Nat) : Prop := t < K.T ∧ K.op t = true ∧ cnd K fl ct t = true
/-- the reference's scan -/
theorem YbestAt {K : RK} {M : sr_M} {fl ct : Nat → Option Nat} (hW : WF K) (hy : RY K M) (hb : bnd K fl) (hc : bnd K ct) (hf : At K fl 12 M) (hg : At K ct 14 M) (lp : Option Nat) (hl : ∀ p, lp = some p → p < K.n) (m : Bool) (hm : lp = none → m = false) :
    sr_wp (f5_bestAt (oI lp) (pp_bI m) M) (fun r => ∃ b, r = oI b ∧ Best K.hd m (fun t => Cd K fl ct t ∧ ∀ p, lp = some p → K.inc p t = true) b) := by
  have hn := hW.1
  have hT := hW.2.1
  unfold f5_bestAt
  refine wp_bind (wp_mono (Q := fun r => ∃ b, r = oI b ∧ Best K.hd m (fun t => Cd K fl ct t ∧ ∀ p, lp = some p → K.inc p t = true) b) ?_ (fun r h => by rw [wp_some]; exact h))
  refine wp_for (τ := Int32) (fun i x => (x, nI i)) K.T (fun i x => ∃ b, x = oI b ∧ Best K.hd m (fun t => t < i ∧ Cd K fl ct t ∧ ∀ p, lp = some p → K.inc p t = true) b) ?_ ?_ 0 (-1) (Nat.zero_le _) ⟨none, rfl, Best.nn (fun u hu => absurd hu.1 (Nat.not_lt_zero _))⟩
  · rintro i x hi ⟨b, rfl, g⟩
    have bl := g.lt (N := K.T) (fun u hu => by have := hu.1; omega)
    have et := hW.2.2.1 i hi
    have keep : (¬ (Cd K fl ct i ∧ ∀ p, lp = some p → K.inc p i = true)) → sr_wp (some (.inl (oI b, nI i + 1)) : Option ((Int32 × Int32) ⊕ Int32)) (sr_oc (fun t => ∃ x', t = (x', nI (i + 1)) ∧ ∃ b, x' = oI b ∧ Best K.hd m (fun t => t < i + 1 ∧ Cd K fl ct t ∧ ∀ p, lp = some p → K.inc p t = true) b) (fun r => ∃ b, r = oI b ∧ Best K.hd m (fun t => Cd K fl ct t ∧ ∀ p, lp = some p → K.inc p t = true) b)) := by
      intro hno
      rw [wp_on]
      refine ⟨oI b, by rw [← nI_1], b, rfl, g.congr (fun u => ⟨fun h => ⟨by omega, h.2⟩, fun h => ⟨?_, h.2⟩⟩)⟩
      have := h.1
      by_cases e : u = i
      · rw [e] at h; exact absurd h.2 hno
      · omega
    have main : ((∀ p, lp = some p → K.inc p i = true)) → sr_wp ((f5_isCandidate (nI i) M).bind fun v7 => if v7 = 0 then some (.inl (oI b, nI i + 1)) else if oI b < 0 then some (.inl (nI i, nI i + 1)) else (f5_isLess (nI i) (oI b) M).bind fun v8 => if v8 = pp_bI m then some (.inl (oI b, nI i + 1)) else some (.inl (nI i, nI i + 1)) : Option ((Int32 × Int32) ⊕ Int32)) (sr_oc (fun t => ∃ x', t = (x', nI (i + 1)) ∧ ∃ b, x' = oI b ∧ Best K.hd m (fun t => t < i + 1 ∧ Cd K fl ct t ∧ ∀ p, lp = some p → K.inc p t = true) b) (fun r => ∃ b, r = oI b ∧ Best K.hd m (fun t => Cd K fl ct t ∧ ∀ p, lp = some p → K.inc p t = true) b)) := by
      intro hin
      rw [Ycand hW hy hb hc hf hg hi, Option.bind_some]
      by_cases hcd : K.op i = true ∧ cnd K fl ct i = true
      case neg =>
        have : (K.op i && cnd K fl ct i) = false := by
          rw [Bool.eq_false_iff, ne_eq, Bool.and_eq_true]; exact hcd
        rw [this, if_pos (by decide)]
        exact keep (fun q => hcd q.1.2)
      have : (K.op i && cnd K fl ct i) = true := by rw [Bool.and_eq_true]; exact hcd
      rw [this, if_neg (by decide)]
      have grow : ∀ u, (u < i + 1 ∧ Cd K fl ct u ∧ ∀ p, lp = some p → K.inc p u = true) ↔ (u < i ∧ Cd K fl ct u ∧ ∀ p, lp = some p → K.inc p u = true) ∨ u = i := by
        intro u
        constructor
        · rintro ⟨h1, h2⟩
          by_cases e : u = i
          · exact Or.inr e
          · exact Or.inl ⟨by omega, h2⟩
        · rintro (⟨h1, h2⟩ | e)
          · exact ⟨by omega, h2⟩
          · rw [e]; exact ⟨by omega, ⟨hi, hcd.1, hcd.2⟩, hin⟩
      cases b with
      | none =>
        rw [if_pos (by decide), wp_on]
        exact ⟨nI i, by rw [← nI_1], some i, rfl, g.add0 grow⟩
      | some b =>
        have bT := bl b rfl
        rw [if_neg (by show ¬ nI b < nI 0; rw [pp_lt (by omega) (by omega)]; omega), oI_s, Yless hW hy hi bT, Option.bind_some]
        by_cases q : prf K.hd m i b = true
        · rw [if_neg, wp_on]
          · exact ⟨nI i, by rw [← nI_1], some i, rfl, g.add1 q grow⟩
          · intro z
            rw [bI_eq] at z
            cases m
            · rw [show prf K.hd false i b = lsb K.hd i b from rfl, z] at q; cases q
            · rw [show prf K.hd true i b = lsb K.hd b i from rfl] at q
              rw [lsb_as q] at z; cases z
        · rw [Bool.not_eq_true] at q
          by_cases z : lsb K.hd i b = m
          · rw [if_pos (by rw [z]), wp_on]
            exact ⟨nI b, by rw [← nI_1], some b, rfl, g.add2 q grow⟩
          · exfalso
            cases m
            · exact z q
            · rw [show prf K.hd true i b = lsb K.hd b i from rfl] at q
              have := g.sm.1
              exact z (lsb_neg q (by omega))
    unfold f5_bestAt_L5
    simp only [sr_bnd, sr_jn, hy.2.1]
    rw [if_neg (by rw [pp_le (by omega) (by omega)]; omega)]
    have n1 : ¬ ((1 : Int32) = 0) := by decide
    simp only [if_neg n1, if_true]
    cases lp with
    | none =>
      rw [if_pos (by decide)]
      exact main (fun p e => by cases e)
    | some p =>
      have hp := hl p rfl
      rw [oI_s, if_neg (by show ¬ nI p < nI 0; rw [pp_lt (by omega) (by omega)]; omega), pp_ld (by omega) (by decide), pp_ld (by omega) (by decide), hy.2.2.2.2.1 i hi, hy.2.2.2.2.2.1 i hi]
      by_cases c1 : K.e1 i = p
      · rw [if_pos (by rw [c1])]
        exact main (fun p' e => by cases e; unfold RK.inc; rw [c1]; simp)
      · rw [if_neg (by rw [pp_eq (by omega) (by omega)]; exact c1)]
        by_cases c2 : K.e2 i = p
        · rw [if_pos (by rw [c2])]
          exact main (fun p' e => by cases e; unfold RK.inc; rw [c2]; simp)
        · rw [if_neg (by rw [pp_eq (by omega) (by omega)]; exact c2)]
          exact keep (fun h => by have := h.2 p rfl; unfold RK.inc at this; simp [c1, c2] at this)
  · rintro x ⟨b, rfl, g⟩
    unfold f5_bestAt_L5
    simp (disch := omega) only [sr_bnd, sr_put, sr_jn, Option.bind_some, pp_bd2, pp_ld, pp_st, pp_stB, pp_putB, pp_grd, pp_l0, pp_l1, pp_l2, pp_l3, pp_l4, pp_l5, pp_l6, pp_l60, pp_l120, pp_l200, nI_add, pp_sub, pp_dec, pp_le, pp_lt, pp_eq, pp_neg1, pp_neg2, pp_neg3, pp_neg4, pp_neg5, if_pos, if_neg, if_true, if_false, hy.2.1, Nat.le_refl]
    rw [wp_out]
    exact ⟨b, rfl, g.congr (fun u => ⟨fun h => h.2, fun h => ⟨h.1.1, h⟩⟩)⟩
