/-! THE CLASS'S LAKES IN THE MEMORY; adding one -/
def lcnt (K : RK) (lo : Nat → Option Nat) (l : Nat) : Nat := cn_ (fun x => decide (lo x = some l)) K.n
def RecX (K : RK) (ct : Nat → Option Nat) (th : Nat → Nat) (lo : Nat → Option Nat) (o l : Nat) (M : sr_M) : Prop :=
  ∃ p s, p < K.n ∧ lo p = some l ∧ (∀ q, lo q = some l → p ≤ q) ∧ ct p = some s ∧ M.1 (o + 7) l = nI s ∧ M.1 (o + 8) l = nI (lcnt K lo l) ∧ M.1 (o + 9) l = nI p ∧ M.1 (o + 10) l = oI (mxr K th s)
def LX (K : RK) (ct : Nat → Option Nat) (th : Nat → Nat) (lo : Nat → Option Nat) (c o : Nat) (M : sr_M) : Prop :=
  At K lo (o + 6) M ∧ M.1 o 9 = nI c ∧ ∀ l, l < c → RecX K ct th lo o l M
theorem XaddLake {K : RK} {M : sr_M} {o c st i : Nat} {ct lo : Nat → Option Nat} {th : Nat → Nat} (hW : WF K) (hX : RX K M) (ho : 30 ≤ o) (hI : LI K ct st i lo c) (hi : i < K.n) (g : ct i = some st ∧ lo i = none) (hb : bnd K ct) (hf : At K ct (o + 5) M) (h2 : M.1 o 2 = nI st) (hs : st ≤ K.n) (h1 : ∀ k, 1 ≤ k → k ≤ st → M.1 (o + 1) k = nI (th k) ∧ th k < K.T ∧ K.op (th k) = true) (hL : LX K ct th lo c o M) :
    sr_wp (f1_addLake o (nI i) M) (fun M' => LX K ct th (lset K ct st lo c i).1 (lset K ct st lo c i).2 o M' ∧ M'.2 = M.2 ∧ (∀ q, q ≠ o → (q < o + 6 ∨ o + 11 < q) → M'.1 q = M.1 q) ∧ ∀ j, j ≠ 9 → M'.1 o j = M.1 o j) := by
  have hn := hW.1
  have hT := hW.2.1
  have hc := hI.c_lt hi g.2
  have hlb : bnd K lo := fun p hp k e => by have := (hI.2.1 p k e).1; omega
  obtain ⟨L1, L2, L3⟩ := hL
  unfold f1_addLake
  simp (disch := omega) only [sr_bnd, pp_l0, pp_l1, L2, pp_st]
  generalize hM3 : sr_wI (sr_wI M (o + 6) i (nI c)) (o + 11) 0 (nI i) = M3
  have fr3 : ∀ q, q ≠ o + 11 → q ≠ o + 6 → M3.1 q = M.1 q := fun q a b => by rw [← hM3, pp_wI1 a, pp_wI1 b]
  refine wp_bind (wp_mono (BFS (ρ := Int32 × sr_M) (o := o) (M0 := M3) (cond := fun x => ct x = some st ∧ lo x = none) (MK := MKl K (o + 6) c lo) (ok := fun _ => True) (om := o + 6) (cnt0 := 1) (qu0 := fun _ => i) (mk0 := fun x => x = i) hW (by omega) (fun v M => (v, M)) (f1_drownAround o) (f1_addLake_L21 o) ?_ ?_ ?_ rfl (fun _ _ _ => rfl) ?_ ?_ ?_) ?_)
  · intro p cnt qu mk M2 hp m2 mf mM mq mQ
    have e : ∀ q, q ≠ o + 11 → q ≠ o + 6 → M2.1 q = M.1 q := fun q a b => (mf q a b).trans (fr3 q a b)
    exact Xdrown1 hW (hX.kept (fun q a b => e q (by omega) (by omega))) ho hp hb hlb (fun x hx => by rw [e _ (by omega) (by omega)]; exact hf x hx) (by rw [e _ (by omega) (by omega)]; exact h2) (by rw [e _ (by omega) (by omega)]; exact L2) hs hc mM mq mQ
  · intro cnt M2 hc
    unfold f1_addLake_L21
    simp (disch := omega) only [sr_bnd, sr_put, sr_jn, Option.bind_some, pp_bd2, pp_ld, pp_st, pp_stB, pp_putB, pp_grd, pp_l0, pp_l1, pp_l2, pp_l3, pp_l4, pp_l5, pp_l6, pp_l60, pp_l120, pp_l200, nI_add, pp_sub, pp_dec, pp_le, pp_lt, pp_eq, pp_neg1, pp_neg2, pp_neg3, pp_neg4, pp_neg5, if_pos, if_neg, if_true, if_false, Nat.le_refl]
  · intro cnt k p M2 w hk hc e ew
    unfold f1_addLake_L21
    simp (disch := omega) only [sr_bnd, sr_put, sr_jn, Option.bind_some, pp_bd2, pp_ld, pp_st, pp_stB, pp_putB, pp_grd, pp_l0, pp_l1, pp_l2, pp_l3, pp_l4, pp_l5, pp_l6, pp_l60, pp_l120, pp_l200, nI_add, pp_sub, pp_dec, pp_le, pp_lt, pp_eq, pp_neg1, pp_neg2, pp_neg3, pp_neg4, pp_neg5, if_pos, if_neg, if_true, if_false, e, ew]
    obtain ⟨w1, w2⟩ := w
    simp only [pp_bd2]
  · intro x hx
    rw [← hM3, pp_wI1 (by omega)]
    constructor
    · intro e; rw [e, pp_wI2]
    · intro e; rw [pp_wI3 e]; exact L1 x hx
  · intro j hj
    have : j = 0 := by omega
    subst this
    rw [← hM3, pp_wI2]
  · refine ⟨fun _ _ => hi, fun a b ha hb _ => by omega, fun x hx => ⟨fun e => ⟨0, by omega, e.symm⟩, fun ⟨_, _, e⟩ => e.symm⟩⟩
  · rintro w ⟨cnt, qu, mk, M4, rfl, k1, k2, k3, k4, k5, k6, k7⟩
    have e4 : ∀ q, q ≠ o + 11 → q ≠ o + 6 → M4.1 q = M.1 q := fun q a b => (k4 q a b).trans (fr3 q a b)
    have mkR : ∀ x, x < K.n → (mk x ↔ Rch K (fun z => ct z = some st) i x) := by
      intro x hx
      constructor
      · refine k7 (fun x => Rch K (fun z => ct z = some st) i x) (fun y _ e => by rw [e]; exact Rch.rf) (fun y z hy hz r cz a => ?_) x hx
        obtain ⟨t, t1, t2, t3⟩ := a
        exact r.step ⟨r.P g.1, cz.1, t, t1, t2, t3⟩
      · intro r
        have := r (fun x => x < K.n ∧ mk x ∧ Rch K (fun z => ct z = some st) i x) ⟨hi, k5 i hi rfl, Rch.rf⟩ (fun y z ⟨hy, my, ry⟩ e => by
          have rz := ry.step e
          have hz := rz.lt hW hi
          obtain ⟨e1, e2, t, t1, t2, t3⟩ := e
          exact ⟨hz, k6 y z hy hz my ⟨e2, by rw [← hI.rch rz]; exact g.2⟩ ⟨t, t1, t2, t3⟩, rz⟩)
        exact this.2.1
    have hcnt := k1.le
    have a2 : M4.1 o 2 = nI st := by rw [e4 o (by omega) (by omega)]; exact h2
    have a9 : M4.1 o 9 = nI c := by rw [e4 o (by omega) (by omega)]; exact L2
    have lev : ∀ M19 : sr_M, (∀ q, q ≤ o + 1 → M19.1 q = M4.1 q) → f1_greatestRankOpened o M19 = some (oI (mxr K th st)) := fun M19 e => by
      refine Xlevel hW (hX.kept (fun q a b => by rw [e q (by omega), e4 q (by omega) (by omega)])) hs (by rw [e o (by omega)]; exact a2) (fun k ka kb => ?_)
      rw [e (o + 1) (by omega), e4 (o + 1) (by omega) (by omega)]
      exact h1 k ka kb
    dsimp only
    simp (disch := omega) only [sr_bnd, a2, a9, pp_st, pp_wI1, pp_wI2, pp_wI3]
    rw [lev _ (fun q hq => by rw [pp_wI1 (by omega), pp_wI1 (by omega), pp_wI1 (by omega)]), Option.bind_some]
    simp (disch := omega) only [sr_bnd, a2, a9, pp_st, sr_put, pp_wI1, pp_wI2, pp_wI3]
    rw [wp_some, nI_add]
    have old : ∀ x l, lo x = some l → (lset K ct st lo c i).1 x = some l := fun x l e => by
      rw [lset_n g (fun r => by rw [← hI.rch r, g.2] at e; cases e)]; exact e
    have inv : ∀ x l, l < c → (lset K ct st lo c i).1 x = some l → lo x = some l := fun x l hl e => by
      by_cases r : Rch K (fun z => ct z = some st) i x
      · rw [lset_y g r] at e; cases e; omega
      · rw [lset_n g r] at e; exact e
    refine ⟨⟨fun x hx => ?_, ?_, fun l hl => ?_⟩, k3.trans (by rw [← hM3]; rfl), fun q a b => ?_, fun j hj => ?_⟩
    · simp (disch := omega) only [pp_wI1, pp_wI2, pp_wI3]
      by_cases r : Rch K (fun z => ct z = some st) i x
      · rw [lset_y g r, (k2 x hx).1 ((mkR x hx).mpr r)]; rfl
      · rw [lset_n g r, (k2 x hx).2 (fun m => r ((mkR x hx).mp m))]
    · simp (disch := omega) only [pp_wI1, pp_wI2, pp_wI3]
      rw [lset_c g]
    · rw [lset_c g] at hl
      by_cases lc : l = c
      · subst lc
        have hI' := (LI.set hW hI hi).2.2.2.2.2.1 l (by rw [lset_c g]; omega)
        refine ⟨i, st, hi, lset_y g Rch.rf, fun q e => ?_, g.1, ?_, ?_, ?_, ?_⟩
        · by_cases r : Rch K (fun z => ct z = some st) i q
          · rcases Nat.lt_or_ge q i with z | z
            · have := hI.2.2.2.1 q z (r.P g.1)
              rw [← hI.rch r, g.2] at this
              exact absurd rfl this
            · exact z
          · rw [lset_n g r] at e
            have := (hI.2.1 q l e).1
            omega
        · simp (disch := omega) only [pp_wI1, pp_wI2, pp_wI3]
        · simp (disch := omega) only [pp_wI1, pp_wI2, pp_wI3]
          refine congrArg nI (k1.cn (fun x hx => ?_)).symm
          rw [decide_eq_true_eq, mkR x hx]
          constructor
          · intro e
            by_cases r : Rch K (fun z => ct z = some st) i x
            · exact r
            · rw [lset_n g r] at e
              have := (hI.2.1 x l e).1
              omega
          · exact fun r => lset_y g r
        · simp (disch := omega) only [pp_wI1, pp_wI2, pp_wI3]
        · simp (disch := omega) only [pp_wI1, pp_wI2, pp_wI3]
      · have lc' : l < c := by omega
        obtain ⟨p, s, p1, p2, p3, p4, p5, p6, p7, p8⟩ := L3 l lc'
        refine ⟨p, s, p1, old p l p2, fun q e => p3 q (inv q l lc' e), p4, ?_, ?_, ?_, ?_⟩
        · simp (disch := omega) only [pp_wI1, pp_wI2, pp_wI3]
          rw [e4 _ (by omega) (by omega)]; exact p5
        · simp (disch := omega) only [pp_wI1, pp_wI2, pp_wI3]
          rw [e4 _ (by omega) (by omega), p6]
          refine congrArg nI (cn_congr (fun x _ => ?_))
          rw [decide_eq_decide]
          exact ⟨old x l, inv x l lc'⟩
        · simp (disch := omega) only [pp_wI1, pp_wI2, pp_wI3]
          rw [e4 _ (by omega) (by omega)]; exact p7
        · simp (disch := omega) only [pp_wI1, pp_wI2, pp_wI3]
          rw [e4 _ (by omega) (by omega)]; exact p8
    · simp (disch := omega) only [pp_wI1, pp_wI2, pp_wI3]
      exact e4 q (by omega) (by omega)
    · simp (disch := omega) only [pp_wI1, pp_wI2, pp_wI3]
      rw [e4 o (by omega) (by omega)]
