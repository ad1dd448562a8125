/-! THE CLASS ADDS A LAKE -/
def MKl (K : RK) (pl c : Nat) (lo : Nat → Option Nat) (M : sr_M) (mk : Nat → Prop) : Prop := ∀ x, x < K.n → (mk x → M.1 pl x = nI c) ∧ (¬ mk x → M.1 pl x = oI (lo x))
theorem Xdrown1 {K : RK} {M : sr_M} {o p cnt c st : Nat} {qu : Nat → Nat} {ct lo : Nat → Option Nat} {mk : Nat → Prop} (hW : WF K) (hX : RX K M) (ho : 30 ≤ o) (hp : p < K.n) (hb : bnd K ct) (hl : bnd K lo) (hf : At K ct (o + 5) M) (h2 : M.1 o 2 = nI st) (h9 : M.1 o 9 = nI c) (hs : st ≤ K.n) (hc : c < K.n) (hm : MKl K (o + 6) c lo M mk) (hq : ∀ i, i < cnt → M.1 (o + 11) i = nI (qu i)) (hQ : Qu K.n cnt qu mk) :
    sr_wp (f1_drownAround o (nI p) (nI cnt) M) (BW K (fun x => ct x = some st ∧ lo x = none) (MKl K (o + 6) c lo) o (o + 6) M cnt qu mk (adjT K p)) := by
  have hn := hW.1
  have hT := hW.2.1
  obtain ⟨fa, aa, hA⟩ := hX.2.2.1
  have hA' := hA
  obtain ⟨f1, f2, f3, f4, f5, f6⟩ := hA
  have hm' : ∀ q, q < K.n → fa q ≤ fa (q + 1) := fun q hq => by rw [f3 q hq]; omega
  have lim : fa (p + 1) ≤ 2 * K.T := by rw [← f4]; exact fa_mono hm' K.n (Nat.le_refl _) (p + 1) (by omega)
  unfold f1_drownAround
  simp (disch := omega) only [sr_bnd, sr_put, sr_jn, Option.bind_some, pp_bd2, pp_ld, pp_st, pp_stB, pp_putB, pp_grd, pp_l0, pp_l1, pp_l2, pp_l3, pp_l4, pp_l5, pp_l6, pp_l60, pp_l120, pp_l200, nI_add, pp_sub, pp_dec, pp_le, pp_lt, pp_eq, pp_neg1, pp_neg2, pp_neg3, pp_neg4, pp_neg5, if_pos, if_neg, if_true, if_false, f1 p (by omega)]
  refine wp_bind (wp_mono (BWloop (cond := fun x => ct x = some st ∧ lo x = none) (MK := MKl K (o + 6) c lo) (om := o + 6) hW hp (hm' p hp) (fun e he => (f5 e (by omega)).2) (f1_drownAround_L13 o (nI p)) hQ hq hm ?_ ?_) ?_)
  · intro v M5 g7 g8
    have a9 : M5.1 9 (p + 1) = nI (fa (p + 1)) := by rw [g8 9 (by omega) (by omega)]; exact f1 _ (by omega)
    unfold f1_drownAround_L13
    simp (disch := omega) only [sr_bnd, sr_put, sr_jn, Option.bind_some, pp_bd2, pp_ld, pp_st, pp_stB, pp_putB, pp_grd, pp_l0, pp_l1, pp_l2, pp_l3, pp_l4, pp_l5, pp_l6, pp_l60, pp_l120, pp_l200, nI_add, pp_sub, pp_dec, pp_le, pp_lt, pp_eq, pp_neg1, pp_neg2, pp_neg3, pp_neg4, pp_neg5, if_pos, if_neg, if_true, if_false, a9, Nat.le_refl]
  · intro e c5 q5 m5 M5 g9 he g7 g8 g3 g4 g5
    have hX5 : RX K M5 := hX.kept (fun q h1 h2 => g8 q (by omega) (by omega))
    obtain ⟨m, br, hr⟩ := hX5.2.1
    have ha := f5 e (by omega)
    have a10 : M5.1 10 e = nI (aa e) := by rw [g8 10 (by omega) (by omega)]; exact ha.1
    have a9 : M5.1 9 (p + 1) = nI (fa (p + 1)) := by rw [g8 9 (by omega) (by omega)]; exact f1 _ (by omega)
    have ea := Xacross hW hX5.1 ha.2 hp
    rw [show (if K.e1 (aa e) = p then K.e2 (aa e) else K.e1 (aa e)) = K.nb (aa e) p from rfl] at ea
    have lq := nb_lt hW (p := p) ha.2
    generalize hnb : K.nb (aa e) p = y at *
    have e5 : M5.1 (o + 5) y = oI (ct y) := by rw [g8 _ (by omega) (by omega)]; exact hf _ lq
    have eo2 : M5.1 o 2 = nI st := by rw [g8 o (by omega) (by omega)]; exact h2
    have eo9 : M5.1 o 9 = nI c := by rw [g8 o (by omega) (by omega)]; exact h9
    have ec := g3.le
    unfold f1_drownAround_L13
    simp (disch := omega) only [sr_bnd, sr_put, sr_jn, Option.bind_some, pp_bd2, pp_ld, pp_st, pp_stB, pp_putB, pp_grd, pp_l0, pp_l1, pp_l2, pp_l3, pp_l4, pp_l5, pp_l6, pp_l60, pp_l120, pp_l200, nI_add, pp_sub, pp_dec, pp_le, pp_lt, pp_eq, pp_neg1, pp_neg2, pp_neg3, pp_neg4, pp_neg5, if_pos, if_neg, if_true, if_false, a9, a10, ea, Xopen hW hr ha.2, e5, eo2, eo9]
    cases hop : K.op (aa e) with
    | false => exact Or.inl ⟨Or.inl rfl, by rw [if_pos (by decide)]⟩
    | true =>
      rw [if_neg (by decide)]
      by_cases hct : ct y = some st
      case neg =>
        refine Or.inl ⟨Or.inr (Or.inl (fun h => hct h.1)), ?_⟩
        rw [if_neg (by rw [oI_eqs (hb _ lq) (by omega)]; exact hct)]
      have pct : oI (ct y) = nI st := by rw [hct]; rfl
      by_cases hmk : m5 y
      · refine Or.inl ⟨Or.inr (Or.inr hmk), ?_⟩
        rw [if_pos pct, (g5 y lq).1 hmk, if_pos (by rw [pp_le (by omega) (by omega)]; omega)]
      · have z6 := (g5 y lq).2 hmk
        by_cases hlo : lo y = none
        · have cl : c5 < K.n := by
            have := (g3.push (mk' := fun x => m5 x ∨ x = y) lq hmk (fun x _ => Iff.rfl)).le
            omega
          refine Or.inr ⟨rfl, ⟨hct, hlo⟩, hmk, sr_wI (sr_wI M5 (o + 6) y (nI c)) (o + 11) c5 (nI y), ?_, rfl, fun q h1 h2 => ?_, fun i hi => ?_, pp_wI2, fun x hx => ?_⟩
          · rw [if_pos pct, z6, hlo, if_neg (by decide), pp_st (by omega) (by decide)]
          · simp (disch := omega) only [pp_wI1, pp_wI2, pp_wI3]
          · simp (disch := omega) only [pp_wI1, pp_wI2, pp_wI3]
          · by_cases xe : x = y
            · rw [xe]
              simp (disch := omega) only [pp_wI1, pp_wI2, pp_wI3]
              exact ⟨fun _ => by trivial, fun q => absurd (Or.inr (by trivial)) q⟩
            · simp (disch := omega) only [pp_wI1, pp_wI2, pp_wI3]
              exact ⟨fun q => (g5 x hx).1 (q.resolve_right xe), fun q => (g5 x hx).2 (fun h => q (Or.inl h))⟩
        · refine Or.inl ⟨Or.inr (Or.inl (fun h => hlo h.2)), ?_⟩
          rw [if_pos pct, z6, if_pos (by rw [oI_ge0 (hl _ lq)]; exact hlo)]
  · rintro ⟨v, M5⟩ h
    rw [wp_some]
    exact h.adj hW hp hA'
/-- the greatest rank among the first k opened -/
def mxr (K : RK) (th : Nat → Nat) : Nat → Option Nat
  | 0 => none
  | k + 1 => match mxr K th k with
    | none => some (K.rk (th (k + 1)))
    | some m => some (if m < K.rk (th (k + 1)) then K.rk (th (k + 1)) else m)
theorem mxr_s {K : RK} {th : Nat → Nat} {k : Nat} : mxr K th (k + 1) = (match mxr K th k with | none => some (K.rk (th (k + 1))) | some m => some (if m < K.rk (th (k + 1)) then K.rk (th (k + 1)) else m)) := rfl
theorem mxr_le {K : RK} {th : Nat → Nat} : ∀ k m, mxr K th k = some m → m ≤ K.T := by
  intro k
  induction k with
  | zero => intro m h; cases h
  | succ k ih =>
    intro m h
    have r := rk_le (K := K) (t := th (k + 1))
    unfold mxr at h
    cases e : mxr K th k with
    | none => rw [e] at h; cases h; exact r
    | some j =>
      rw [e] at h
      have := ih j e
      dsimp only at h
      cases h
      split <;> omega
theorem mxr_congr {K : RK} {th th' : Nat → Nat} : ∀ k, (∀ j, 1 ≤ j → j ≤ k → th j = th' j) → mxr K th k = mxr K th' k := by
  intro k
  induction k with
  | zero => intro _; rfl
  | succ k ih =>
    intro h
    unfold mxr
    rw [ih (fun j h1 h2 => h j h1 (by omega)), h (k + 1) (by omega) (by omega)]
theorem Xlevel {K : RK} {M : sr_M} {o st : Nat} {th : Nat → Nat} (hW : WF K) (hX : RX K M) (hs : st ≤ K.n) (h2 : M.1 o 2 = nI st) (h1 : ∀ k, 1 ≤ k → k ≤ st → M.1 (o + 1) k = nI (th k) ∧ th k < K.T ∧ K.op (th k) = true) : f1_greatestRankOpened o M = some (oI (mxr K th st)) := by
  have hn := hW.1
  have hT := hW.2.1
  obtain ⟨m, br, hr⟩ := hX.2.1
  have key : sr_wp (sr_lp (fun z1 : Int32 × Int32 => f1_greatestRankOpened_L4 o M z1.1 z1.2) (-1, 1)) (fun r => r = oI (mxr K th st)) := by
    refine wp_for (fun i (_ : Unit) => (oI (mxr K th i), nI (i + 1))) st (fun _ _ => True) ?_ ?_ 0 () (Nat.zero_le _) trivial
    · intro i _ hi _
      obtain ⟨a, b, d⟩ := h1 (i + 1) (by omega) (by omega)
      have er := hr.rank b
      rw [if_pos d] at er
      have rl := rk_le (K := K) (t := th (i + 1))
      unfold f1_greatestRankOpened_L4
      simp (disch := omega) only [sr_bnd, sr_put, sr_jn, Option.bind_some, pp_bd2, pp_ld, pp_st, pp_stB, pp_putB, pp_grd, pp_l0, pp_l1, pp_l2, pp_l3, pp_l4, pp_l5, pp_l6, pp_l60, pp_l120, pp_l200, nI_add, pp_sub, pp_dec, pp_le, pp_lt, pp_eq, pp_neg1, pp_neg2, pp_neg3, pp_neg4, pp_neg5, if_pos, if_neg, if_true, if_false, h2, a, er]
      rw [wp_on]
      refine ⟨(), ?_, trivial⟩
      rw [mxr_s]
      cases e : mxr K th i with
      | none => rw [if_pos (by rw [oI_n, pp_neg4 (by omega)]; trivial)]; rfl
      | some j =>
        have := mxr_le i j e
        dsimp only
        rw [oI_s]
        by_cases q : j < K.rk (th (i + 1))
        · rw [if_pos q, if_pos (by rw [pp_lt (by omega) (by omega)]; exact q)]; rfl
        · rw [if_neg q, if_neg (by rw [pp_lt (by omega) (by omega)]; exact q)]; rfl
    · intro _ _
      unfold f1_greatestRankOpened_L4
      simp (disch := omega) only [sr_bnd, sr_put, sr_jn, Option.bind_some, pp_bd2, pp_ld, pp_st, pp_stB, pp_putB, pp_grd, pp_l0, pp_l1, pp_l2, pp_l3, pp_l4, pp_l5, pp_l6, pp_l60, pp_l120, pp_l200, nI_add, pp_sub, pp_dec, pp_le, pp_lt, pp_eq, pp_neg1, pp_neg2, pp_neg3, pp_neg4, pp_neg5, if_pos, if_neg, if_true, if_false, h2]
      rw [wp_out]
  obtain ⟨x, e, rfl⟩ := key
  unfold f1_greatestRankOpened
  rw [e]; rfl
theorem Qu.cn {n cnt : Nat} {qu : Nat → Nat} {mk : Nat → Prop} (h : Qu n cnt qu mk) {P : Nat → Bool} (hP : ∀ x, x < n → (P x = true ↔ mk x)) : cn_ P n = cnt := by
  rw [← cn_img (T := n) (m := cnt) h.1 h.2.1 cnt (Nat.le_refl _)]
  refine cn_congr (fun x hx => ?_)
  have a := (hP x hx).trans (h.2.2 x hx)
  by_cases q : ∃ i, i < cnt ∧ qu i = x
  · rw [a.mpr q, decide_eq_true q]
  · rw [decide_eq_false q, Bool.eq_false_iff]
    exact fun z => q (a.mp z)
