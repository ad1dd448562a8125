/-! WHAT A LAKE IS -/
def dI : Nat → Int32
  | 0 => -1
  | i + 1 => nI i
theorem dI_down {i : Nat} : nI i + (-1) = dI i := by
  cases i with
  | zero => rfl
  | succ k => exact pp_dec (by omega)
theorem dI_sub {i : Nat} : nI i - 1 = dI i := by
  cases i with
  | zero => rfl
  | succ k => exact pp_sub (a := k + 1) (b := 1) (by omega)
theorem Ylake1 {K : RK} {M : sr_M} {lo : Nat → Option Nat} {l : Nat} (hW : WF K) (hb : bnd K lo) (hl : l < 2147483648) (hf : At K lo 19 M) :
    sr_wp (sr_lp (fun z5 : Int32 × Int32 × Int32 => f5_lake_L51 (nI l) M z5.1 z5.2.1 z5.2.2) (0, (-1), (nI K.n - 1))) (fun r => r.1 = nI (lcnt K lo l) ∧ ∀ p, p < K.n → lo p = some l → (∀ q, q < K.n → lo q = some l → p ≤ q) → r.2 = nI p) := by
  have hn := hW.1
  refine wp_mono (Q := fun r => r.1 = nI (cn_ (fun x => decide (lo x = some l)) K.n) ∧ ((r.2 = -1 ∧ ∀ x, x < K.n → lo x ≠ some l) ∨ ∃ x, x < K.n ∧ r.2 = nI x ∧ lo x = some l ∧ ∀ y, y < K.n → lo y = some l → x ≤ y)) ?_ ?_
  · refine wp_lp (I := fun s => ∃ i, i ≤ K.n ∧ s.2.2 = dI i ∧ s.1 = nI (cn_ (fun x => decide (lo x = some l)) K.n - cn_ (fun x => decide (lo x = some l)) i) ∧ ((s.2.1 = -1 ∧ ∀ x, i ≤ x → x < K.n → lo x ≠ some l) ∨ ∃ x, i ≤ x ∧ x < K.n ∧ s.2.1 = nI x ∧ lo x = some l ∧ ∀ y, i ≤ y → y < K.n → lo y = some l → x ≤ y)) (fun s => (s.2.2.toInt + 1).toNat) ?_ ⟨K.n, Nat.le_refl _, dI_sub, by rw [Nat.sub_self]; rfl, Or.inl ⟨rfl, fun x h1 h2 => absurd h2 (by omega)⟩⟩
    rintro ⟨v6, v7, v8⟩ ⟨i, hi, f8, f6, f7⟩
    have e8 : v8 = dI i := f8
    have e6 : v6 = nI (cn_ (fun x => decide (lo x = some l)) K.n - cn_ (fun x => decide (lo x = some l)) i) := f6
    have e7 : (v7 = -1 ∧ ∀ x, i ≤ x → x < K.n → lo x ≠ some l) ∨ ∃ x, i ≤ x ∧ x < K.n ∧ v7 = nI x ∧ lo x = some l ∧ ∀ y, i ≤ y → y < K.n → lo y = some l → x ≤ y := f7
    show sr_wp (f5_lake_L51 (nI l) M v6 v7 v8) _
    clear f8 f6 f7
    subst e8
    unfold f5_lake_L51
    cases i with
    | zero =>
      rw [if_pos (by decide), wp_out]
      refine ⟨by rw [e6]; rfl, ?_⟩
      rcases e7 with ⟨a, b⟩ | ⟨x, a, b, c, d, e⟩
      · exact Or.inl ⟨a, fun x hx => b x (Nat.zero_le _) hx⟩
      · exact Or.inr ⟨x, b, c, d, fun y hy => e y (Nat.zero_le _) hy⟩
    | succ i =>
      have cle : cn_ (fun x => decide (lo x = some l)) (i + 1) ≤ cn_ (fun x => decide (lo x = some l)) K.n := by
        have : ∀ d, cn_ (fun x => decide (lo x = some l)) (i + 1) ≤ cn_ (fun x => decide (lo x = some l)) (i + 1 + d) := by
          intro d
          induction d with
          | zero => exact Nat.le_refl _
          | succ d ih => exact Nat.le_trans ih (Nat.le_add_right _ _)
        have := this (K.n - (i + 1))
        rw [show i + 1 + (K.n - (i + 1)) = K.n by omega] at this
        exact this
      have cs : cn_ (fun x => decide (lo x = some l)) (i + 1) = cn_ (fun x => decide (lo x = some l)) i + (if decide (lo i = some l) = true then 1 else 0) := rfl
      have mu : (dI i).toInt + 1 = i := by
        cases i with
        | zero => rfl
        | succ k => show (nI k).toInt + 1 = _; rw [pp_toInt (by omega)]; omega
      have mu2 : ((nI i).toInt + 1).toNat = i + 1 := by rw [pp_toInt (by omega)]; omega
      rw [show dI (i + 1) = nI i from rfl]
      rw [if_neg (show ¬ nI i < 0 from fun q => nI_pos (n := i) (by omega) q), pp_ld (by omega) (by decide), hf i (by omega)]
      simp only [sr_jn]
      rw [pp_ld (by omega) (by decide), hf i (by omega)]
      by_cases q : lo i = some l
      · have q' : oI (lo i) = nI l := by rw [q]; rfl
        rw [if_pos q', if_pos q', wp_on]
        refine ⟨⟨i, by omega, dI_down, ?_, Or.inr ⟨i, Nat.le_refl _, by omega, rfl, q, fun y hy _ _ => hy⟩⟩, ?_⟩
        · show v6 + 1 = _
          rw [if_pos (decide_eq_true q)] at cs
          rw [e6, nI_1]
          congr 1
          omega
        · show ((nI i + (-1)).toInt + 1).toNat < ((nI i).toInt + 1).toNat
          rw [dI_down, mu, mu2]
          omega
      · have q' : ¬ oI (lo i) = nI l := by rw [oI_eqs (hb i (by omega)) hl]; exact q
        rw [if_neg q', pp_ld (by omega) (by decide), hf i (by omega), if_neg q', wp_on]
        refine ⟨⟨i, by omega, dI_down, ?_, ?_⟩, ?_⟩
        · show v6 + 0 = _
          rw [if_neg (by rw [decide_eq_false q]; decide)] at cs
          rw [e6, show ∀ a, nI a + 0 = nI a from fun a => (show nI a + nI 0 = nI a by rw [nI_add]; rfl)]
          congr 1
          omega
        · rcases e7 with ⟨a, b⟩ | ⟨x, a, b, c, d, e⟩
          · refine Or.inl ⟨a, fun x hx hx2 => ?_⟩
            by_cases z : x = i
            · rw [z]; exact q
            · exact b x (by omega) hx2
          · refine Or.inr ⟨x, by omega, b, c, d, fun y hy hy2 hy3 => ?_⟩
            by_cases z : y = i
            · rw [z] at hy3; exact absurd hy3 q
            · exact e y (by omega) hy2 hy3
        · show ((nI i + (-1)).toInt + 1).toNat < ((nI i).toInt + 1).toNat
          rw [dI_down, mu, mu2]
          omega
  · rintro ⟨r1, r2⟩ ⟨a, b⟩
    refine ⟨a, fun p hp h1 h2 => ?_⟩
    rcases b with ⟨-, b⟩ | ⟨x, hx, e1, e2, e3⟩
    · exact absurd h1 (b p hp)
    · have h := h2 x hx e2
      have h' := e3 p hp h1
      rw [show p = x by omega]
      exact e1
theorem Ylake2 {K : RK} {M : sr_M} {st s p : Nat} {th : Nat → Nat} (hW : WF K) (hY : RY K M) (hp : p < K.n) (h14 : M.1 14 p = nI s) (hs : s ≤ st) (hst : st ≤ K.n) (h11 : ∀ k, 1 ≤ k → k ≤ st → M.1 11 k = nI (th k)) (hth : ∀ k, 1 ≤ k → k ≤ st → th k < K.T) :
    sr_lp (fun z15 : Int32 × Int32 => f5_lake_L107 M (nI p) z15.1 z15.2) ((-1), 1) = some (oI (mxr K th s)) := by
  have hn := hW.1
  have hT := hW.2.1
  refine wp_eq ?_
  refine wp_for (fun i (_ : Unit) => (oI (mxr K th i), nI (i + 1))) s (fun _ _ => True) ?_ ?_ 0 () (Nat.zero_le _) trivial
  · intro i _ hi _
    have ht := hth (i + 1) (by omega) (by omega)
    have hr := rk_le (K := K) (t := th (i + 1))
    unfold f5_lake_L107
    rw [pp_ld (by omega) (by decide), h14, if_neg (by rw [pp_lt (by omega) (by omega)]; omega), pp_ld (by omega) (by decide), h11 (i + 1) (by omega) (by omega), Yrank hW hY ht, Option.bind_some]
    have e : nI (i + 1) + 1 = nI (i + 1 + 1) := nI_1 (i + 1)
    rw [e, mxr_s]
    have take : sr_wp (sr_ld (nI (i + 1)) 121 (M.1 11) fun v21 => (f5_rank v21 M).bind fun v22 => some (.inl (v22, nI (i + 1 + 1))) : Option ((Int32 × Int32) ⊕ Int32)) (sr_oc (fun t => ∃ x' : Unit, t = (nI (K.rk (th (i + 1))), nI (i + 1 + 1)) ∧ True) (fun a => a = oI (mxr K th s))) := by
      rw [pp_ld (by omega) (by decide), h11 (i + 1) (by omega) (by omega), Yrank hW hY ht, Option.bind_some, wp_on]
      exact ⟨(), rfl, trivial⟩
    cases em : mxr K th i with
    | none =>
      rw [if_neg (by show ¬ nI _ ≤ -nI 1; rw [pp_neg1 (by omega)]; exact id)]
      exact take
    | some m =>
      have hm := mxr_le i m em
      dsimp only
      by_cases q : m < K.rk (th (i + 1))
      · rw [if_neg (show ¬ nI (K.rk (th (i + 1))) ≤ oI (some m) from (show ¬ nI (K.rk (th (i + 1))) ≤ nI m by rw [pp_le (by omega) (by omega)]; omega)), if_pos q]
        exact take
      · rw [if_pos (show nI (K.rk (th (i + 1))) ≤ oI (some m) from (show nI (K.rk (th (i + 1))) ≤ nI m by rw [pp_le (by omega) (by omega)]; omega)), if_neg q, wp_on]
        exact ⟨(), rfl, trivial⟩
  · intro _ _
    unfold f5_lake_L107
    rw [pp_ld (by omega) (by decide), h14, if_pos (by rw [pp_lt (by omega) (by omega)]; omega), wp_out]
theorem op_lake {Mx My : sr_M} (h : Rel Mx My) (a w : Int32) : ∃ r My', f4_lake a w Mx = some r ∧ f5_lake a w My = some (r, My') ∧ Rel Mx My' := by
  have hh := h
  obtain ⟨K, hR, ⟨h1, h2⟩ | ⟨S, hO⟩⟩ := h
  · unfold f4_lake f5_lake
    simp only [sr_bnd, h1, h2, if_true]
    exact ⟨_, _, rfl, rfl, hh⟩
  · have hW := hR.1
    have hn := hW.1
    obtain ⟨My', et, a1, a2, r1, r2⟩ := hO.tell hR
    have hrel : Rel Mx My' := ⟨K, r1, Or.inr ⟨S, r2⟩⟩
    have I2 := LI.lks (K := K) hW (ct := S.ct) (S.st + 1)
    have hcl := I2.c_le
    have lb : bnd K (lks K S.ct (S.st + 1)).1 := fun p hp k e => by have := (I2.2.1 p k e).1; omega
    have hle := hO.1.le
    obtain ⟨l6, l9, lr⟩ := hO.2.1.2.2.2.2.2.2
    have y1 := r1.2.2.1.1
    unfold f4_lake f5_lake
    simp only [sr_bnd, hO.2.2.2.1, hO.2.2.2.2, l9]
    rw [if_neg n10, if_neg n10, et, Option.bind_some, a2]
    by_cases a0 : a < 0
    · rw [if_pos a0, if_pos a0]
      exact ⟨_, _, rfl, rfl, hrel⟩
    rw [if_neg a0, if_neg a0]
    by_cases ac : a < nI (lks K S.ct (S.st + 1)).2
    case neg =>
      rw [if_neg ac, if_pos (Int32.not_lt.mp ac)]
      exact ⟨_, _, rfl, rfl, hrel⟩
    rw [if_pos ac, if_neg (Int32.not_le.mpr ac)]
    obtain ⟨l, hl, rfl⟩ : ∃ l, l < (lks K S.ct (S.st + 1)).2 ∧ a = nI l := by
      rcases pk_ix a (n := (lks K S.ct (S.st + 1)).2) (by omega) with q | q | q
      · exact absurd q a0
      · exact absurd ac (Int32.not_lt.mpr q)
      · exact q
    obtain ⟨p, s, c1, c2, c3, c4, c5, c6, c7, c8⟩ := lr l hl
    have hs := (hO.1.2.1 p s c4).1
    have y14 : My'.1 14 p = nI s := by rw [r2.2.2.1.2.2.2.2 p c1, c4]; rfl
    rcases pk_ix w (n := 4) (by decide) with q | q | ⟨j, hj, rfl⟩
    · have n0 : ¬ w = 0 := fun e => by subst e; exact absurd q (by decide)
      have n1 : ¬ w = 1 := fun e => by subst e; exact absurd q (by decide)
      have n2 : ¬ w = 2 := fun e => by subst e; exact absurd q (by decide)
      have n3 : ¬ w = 3 := fun e => by subst e; exact absurd q (by decide)
      rw [if_neg n0, if_neg n1, if_neg n2, if_neg n3, if_pos q]
      exact ⟨_, _, rfl, rfl, hrel⟩
    · have n0 : ¬ w = 0 := fun e => by subst e; exact absurd q (by decide)
      have n1 : ¬ w = 1 := fun e => by subst e; exact absurd q (by decide)
      have n2 : ¬ w = 2 := fun e => by subst e; exact absurd q (by decide)
      have n3 : ¬ w = 3 := fun e => by subst e; exact absurd q (by decide)
      have nn : ¬ w ≤ 3 := fun e => absurd (Int32.le_trans q e) (by decide)
      rw [if_neg n0, if_neg n1, if_neg n2, if_neg n3, if_neg nn]
      exact ⟨_, _, rfl, ite_self _, hrel⟩
    · obtain ⟨⟨v1, v2⟩, el, g1, g2⟩ := Ylake1 hW lb (l := l) (by omega) a1
      have g1' : v1 = nI (lcnt K (lks K S.ct (S.st + 1)).1 l) := g1
      have g2' : v2 = nI p := g2 p c1 c2 (fun q _ e => c3 q e)
      subst g1'
      subst g2'
      rw [if_neg (show ¬ nI j < 0 from fun q => nI_pos (n := j) (by omega) q), if_pos (show nI j ≤ 3 from (show nI j ≤ nI 3 by rw [pp_le (by omega) (by omega)]; omega)), y1, el, Option.bind_some]
      rw [Ylake2 (st := S.st) (s := s) (th := S.th) hW r1.2.2.1 c1 y14 hs hle r2.2.2.1.2.1 (fun k h1 h2 => (hO.1.2.2.1 k h1 h2).1), Option.bind_some]
      have c : j = 0 ∨ j = 1 ∨ j = 2 ∨ j = 3 := by omega
      rcases c with rfl | rfl | rfl | rfl
      · rw [if_pos (by rfl), if_pos (by rfl), pp_ld (by omega) (by decide), pp_ld (by omega) (by decide), y14, c5]
        exact ⟨_, _, rfl, rfl, hrel⟩
      · rw [if_neg (by decide), if_pos (by rfl), if_neg (by decide), if_pos (by rfl), pp_ld (by omega) (by decide), c6]
        exact ⟨_, _, rfl, rfl, hrel⟩
      · rw [if_neg (by decide), if_neg (by decide), if_pos (by rfl), if_neg (by decide), if_neg (by decide), if_pos (by rfl), pp_ld (by omega) (by decide), c7]
        exact ⟨_, _, rfl, rfl, hrel⟩
      · rw [if_neg (by decide), if_neg (by decide), if_neg (by decide), if_pos (by rfl), if_neg (by decide), if_neg (by decide), if_neg (by decide), pp_ld (by omega) (by decide), c8]
        exact ⟨_, _, rfl, rfl, hrel⟩
