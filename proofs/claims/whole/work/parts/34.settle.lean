theorem va_up_s {α : Type} {f : Nat → α} {k : Nat} {v : α} : va_up f k v k = v := by simp [va_up]
theorem va_up_n {α : Type} {f : Nat → α} {k j : Nat} {v : α} (h : j ≠ k) : va_up f k v j = f j := by simp [va_up, h]
theorem va_up_up {α : Type} {f : Nat → α} {k : Nat} {v w : α} : va_up (va_up f k v) k w = va_up f k w := by
  funext j
  by_cases h : j = k <;> simp [va_up, h]
theorem va_up_id {α : Type} {f : Nat → α} {k : Nat} {v : α} (h : f k = v) : va_up f k v = f := by
  funext j
  by_cases e : j = k
  · subst e; rw [va_up_s, h]
  · rw [va_up_n e]
/-- a throat's hindrance is v now, and it is open (or shut) -/
def RK.set (K : RK) (t v : Nat) (b : Bool) : RK := RK.mk K.n K.T K.kd K.e1 K.e2 (va_up K.hd t v) K.il (va_up K.op t b) K.tr
theorem RK.set_n {K : RK} {t v : Nat} {b : Bool} : (K.set t v b).n = K.n := rfl
theorem RK.set_T {K : RK} {t v : Nat} {b : Bool} : (K.set t v b).T = K.T := rfl
theorem RK.set_hd {K : RK} {t v : Nat} {b : Bool} : (K.set t v b).hd = va_up K.hd t v := rfl
theorem RK.set_op {K : RK} {t v : Nat} {b : Bool} : (K.set t v b).op = va_up K.op t b := rfl
theorem WF.set {K : RK} (h : WF K) {t v : Nat} {b : Bool} (hv : v ≤ 1000000000) : WF (K.set t v b) := by
  obtain ⟨h1, h2, h3, h4, h5⟩ := h
  refine ⟨h1, h2, h3, h4, fun u hu => ?_⟩
  rw [RK.set_hd]
  by_cases e : u = t
  · subst e; rw [va_up_s]; exact hv
  · rw [va_up_n e]; exact h5 u hu
/-- what settle changes -/
def Fr6 (M M' : sr_M) : Prop := M'.2 = M.2 ∧ (∀ k, k ≠ 1 → k ≠ 6 → k ≠ 7 → k ≠ 8 → M'.1 k = M.1 k) ∧ ∀ j, j ≠ 9 → M'.1 1 j = M.1 1 j
theorem Fr6.tr {M M1 M2 : sr_M} (h1 : Fr6 M M1) (h2 : Fr6 M1 M2) : Fr6 M M2 :=
  ⟨h2.1.trans h1.1, fun k a b c d => (h2.2.1 k a b c d).trans (h1.2.1 k a b c d), fun j a => (h2.2.2 j a).trans (h1.2.2 j a)⟩
theorem Fr7.to6 {M M' : sr_M} (h : Fr7 M M') : Fr6 M M' := ⟨h.1, fun k a _ c d => h.2.1 k a c d, h.2.2⟩
theorem Fr7.hd {M M' : sr_M} (h : Fr7 M M') : M'.1 6 = M.1 6 := h.2.1 6 (by decide) (by decide) (by decide)
theorem Xsettle {K : RK} {M : sr_M} {m : Nat} {br : Nat → Nat} (hW : WF K) (hc : RXc K M) (hr : RXr K M m br) {t v : Nat} (ht : t < K.T) (hv : v ≤ 1000000000) (b : Bool) :
    sr_wp (f2_settle (nI t) (nI v) (pp_bI b) M) (fun M' => Fr6 M M' ∧ (∀ u, u ≠ t → M'.1 6 u = M.1 6 u) ∧ RXc (K.set t v b) M' ∧ ∃ m' br', RXr (K.set t v b) M' m' br') := by
  have hT := hW.2.1
  -- behind the taking out
  have A : sr_wp (if pp_bI (K.op t) = 0 then some M else (f2_rankOut (nI t) M).bind fun M6 => some M6) (fun M3 => Fr7 M M3 ∧ ∃ m3 br3, M3.1 1 9 = nI m3 ∧ (∀ r, r < m3 → M3.1 8 r = nI (br3 r)) ∧ (∀ r, r < m3 → M3.1 7 (br3 r) = nI r) ∧ (∀ u, u < K.T → va_up K.op t false u = false → M3.1 7 u = -2) ∧ Br K.T (va_up K.op t false) K.hd m3 br3) := by
    cases ho : K.op t with
    | false =>
      obtain ⟨h9, hB, h8, h7, h2⟩ := hr
      rw [if_pos (by rfl), wp_some, va_up_id ho]
      exact ⟨⟨rfl, fun _ _ _ _ => rfl, fun _ _ => rfl⟩, m, br, h9, h8, h7, h2, hB⟩
    | true =>
      rw [if_neg (by decide)]
      refine wp_bind (wp_mono (XrankOut hW hc hr ht ho) ?_)
      rintro M3 ⟨hF, br3, h9, h8, h7, h2, hB⟩
      rw [wp_some]
      refine ⟨hF, m - 1, br3, h9, h8, h7, fun u hu hou => h2 u hu ?_, hB⟩
      by_cases e : u = t
      · exact Or.inl e
      · rw [va_up_n e] at hou
        exact Or.inr hou
  have B : ∀ M3 : sr_M, (Fr7 M M3 ∧ ∃ m3 br3, M3.1 1 9 = nI m3 ∧ (∀ r, r < m3 → M3.1 8 r = nI (br3 r)) ∧ (∀ r, r < m3 → M3.1 7 (br3 r) = nI r) ∧ (∀ u, u < K.T → va_up K.op t false u = false → M3.1 7 u = -2) ∧ Br K.T (va_up K.op t false) K.hd m3 br3) → sr_wp (sr_st (nI t) 300 M3 6 (nI v) fun M4 => if pp_bI b = 0 then some M4 else (f2_rankIn (nI t) M4).bind fun M5 => some M5) (fun M' => Fr6 M M' ∧ (∀ u, u ≠ t → M'.1 6 u = M.1 6 u) ∧ RXc (K.set t v b) M' ∧ ∃ m' br', RXr (K.set t v b) M' m' br') := by
    rintro M3 ⟨hF, m3, br3, h9, h8, h7, h2, hB⟩
    rw [pp_st (by omega) (by decide)]
    have c3 := hF.c hc
    have fr : Fr6 M (sr_wI M3 6 t (nI v)) := hF.to6.tr ⟨rfl, fun k _ h6 _ _ => by rw [pp_wI1 h6], fun j _ => by rw [pp_wI1 (by decide)]⟩
    have f6 : ∀ u, u ≠ t → (sr_wI M3 6 t (nI v)).1 6 u = M.1 6 u := fun u hu => by rw [pp_wI3 hu, hF.hd]
    have c4 : RXc (K.set t v false) (sr_wI M3 6 t (nI v)) := by
      obtain ⟨a1, a2, a3, a4, a5, a6, a7, a8⟩ := c3
      unfold RXc
      refine ⟨by rw [pp_wI1 (by decide)]; exact a1, by rw [pp_wI1 (by decide)]; exact a2, by rw [pp_wI1 (by decide)]; exact a3, by rw [pp_wI1 (by decide)]; exact a4, by rw [pp_wI1 (by decide)]; exact a5, by rw [pp_wI1 (by decide)]; exact a6, fun u hu => ?_, by rw [pp_wI1 (by decide)]; exact a8⟩
      rw [RK.set_hd]
      by_cases e : u = t
      · rw [e, pp_wI2, va_up_s]
      · rw [pp_wI3 e, va_up_n e]
        exact a7 u hu
    have ne : ∀ r, r < m3 → br3 r ≠ t := fun r hr e => by
      have := (hB.1 r hr).2
      rw [e, va_up_s] at this
      cases this
    have r4 : RXr (K.set t v false) (sr_wI M3 6 t (nI v)) m3 br3 := by
      refine ⟨by rw [pp_wI1 (by decide)]; exact h9, hB.hd (fun r hr => va_up_n (ne r hr)), fun r hr => by rw [pp_wI1 (by decide)]; exact h8 r hr, fun r hr => by rw [pp_wI1 (by decide)]; exact h7 r hr, fun u hu hou => by rw [pp_wI1 (by decide)]; exact h2 u hu hou⟩
    cases b with
    | false =>
      rw [if_pos (by rfl), wp_some]
      exact ⟨fr, f6, c4, m3, br3, r4⟩
    | true =>
      rw [if_neg (by decide)]
      refine wp_bind (wp_mono (XrankIn (hW.set hv) c4 r4.1 r4.2.1 r4.2.2.1 r4.2.2.2.1 ht va_up_s (fun u hu _ => r4.2.2.2.2 u hu)) ?_)
      rintro M5 ⟨hF5, br5, g9, g8, g7, g2, gB⟩
      rw [wp_some]
      refine ⟨fr.tr hF5.to6, fun u hu => by rw [hF5.hd]; exact f6 u hu, hF5.c c4, m3 + 1, br5, g9, ?_, g8, g7, fun u hu hou => ?_⟩
      · rw [RK.set_op, va_up_up] at gB
        exact gB
      · rw [RK.set_op] at hou
        have e : u ≠ t := fun e => by rw [e, va_up_s] at hou; cases hou
        refine g2 u hu e ?_
        rw [RK.set_op]
        rw [va_up_n e] at hou ⊢
        exact hou
  unfold f2_settle
  rw [Xopen hW hr ht, Option.bind_some]
  simp only [sr_jn]
  by_cases q : pp_bI (K.op t) = 0
  · rw [if_pos q] at A ⊢
    rw [wp_some] at A
    exact B M A
  · rw [if_neg q] at A ⊢
    obtain ⟨M6, e, hA⟩ := A
    cases hx : f2_rankOut (nI t) M with
    | none => rw [hx] at e; cases e
    | some M7 =>
      rw [hx] at e
      cases e
      exact B _ hA
