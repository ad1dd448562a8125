/-! THE CLASS CUTS OFF and tells the lakes of one step -/
theorem cutF_old {K : RK} {fl ct : Nat → Option Nat} {st p k : Nat} (h : ct p = some k) : cutF K fl ct st p = some k := by
  rw [cutF_f (fun q => by rw [h] at q; exact absurd q.2.2.1 (by simp))]; exact h
theorem cutF_new {K : RK} {fl ct : Nat → Option Nat} {st p k : Nat} (h : cutF K fl ct st p = some k) : ct p = some k ∨ (k = st ∧ K.tr = true ∧ fl p = none ∧ ct p = none ∧ ¬ drain K fl p) := by
  by_cases q : K.tr = true ∧ fl p = none ∧ ct p = none ∧ ¬ drain K fl p
  · rw [cutF_t q] at h; cases h; exact Or.inr ⟨rfl, q⟩
  · rw [cutF_f q] at h; exact Or.inl h
theorem cutF_lks {K : RK} (hW : WF K) {fl ct : Nat → Option Nat} {st : Nat} (hlt : ∀ p k, ct p = some k → k < st) : lks K (cutF K fl ct st) st = lks K ct st := by
  refine lks_congr hW st (fun k hk x => ⟨fun h => ?_, fun h => cutF_old h⟩)
  rcases cutF_new h with q | ⟨q, -⟩
  · exact q
  · omega
theorem LX.ct {K : RK} {ct ct' : Nat → Option Nat} {th : Nat → Nat} {lo : Nat → Option Nat} {c o : Nat} {M : sr_M} (h : LX K ct th lo c o M) (e : ∀ p k, ct p = some k → ct' p = some k) : LX K ct' th lo c o M :=
  ⟨h.1, h.2.1, fun l hl => by
    obtain ⟨p, s, p1, p2, p3, p4, p5⟩ := h.2.2 l hl
    exact ⟨p, s, p1, p2, p3, e p s p4, p5⟩⟩
theorem LX.kept {K : RK} {ct : Nat → Option Nat} {th : Nat → Nat} {lo : Nat → Option Nat} {c o : Nat} {M M' : sr_M} (h : LX K ct th lo c o M) (e9 : M'.1 o 9 = M.1 o 9) (e : ∀ q, o + 6 ≤ q → q ≤ o + 10 → M'.1 q = M.1 q) : LX K ct th lo c o M' :=
  ⟨fun p hp => by rw [e _ (by omega) (by omega)]; exact h.1 p hp, by rw [e9]; exact h.2.1, fun l hl => by
    obtain ⟨p, s, p1, p2, p3, p4, p5, p6, p7, p8⟩ := h.2.2 l hl
    exact ⟨p, s, p1, p2, p3, p4, by rw [e _ (by omega) (by omega)]; exact p5, by rw [e _ (by omega) (by omega)]; exact p6, by rw [e _ (by omega) (by omega)]; exact p7, by rw [e _ (by omega) (by omega)]; exact p8⟩⟩
theorem XcutOff {K : RK} {M : sr_M} {o st : Nat} {fl ct : Nat → Option Nat} {th : Nat → Nat} (hW : WF K) (hX : RX K M) (ho : 30 ≤ o) (hb : bnd K fl) (hlt : ∀ p k, ct p = some k → k < st) (hf : At K fl (o + 3) M) (hg : At K ct (o + 5) M) (h2 : M.1 o 2 = nI st) (hs : st ≤ K.n) (h1 : ∀ k, 1 ≤ k → k ≤ st → M.1 (o + 1) k = nI (th k) ∧ th k < K.T ∧ K.op (th k) = true) (hL : LX K ct th (lks K ct st).1 (lks K ct st).2 o M) :
    sr_wp (f1_cutOff o M) (fun M' => At K (cutF K fl ct st) (o + 5) M' ∧ LX K (cutF K fl ct st) th (lks K (cutF K fl ct st) (st + 1)).1 (lks K (cutF K fl ct st) (st + 1)).2 o M' ∧ M'.2 = M.2 ∧ (∀ q, q ≠ o → (q < o + 5 ∨ o + 12 < q) → M'.1 q = M.1 q) ∧ ∀ j, j ≠ 9 → M'.1 o j = M.1 o j) := by
  have hn := hW.1
  have hT := hW.2.1
  have hc : bnd K ct := fun p _ k e => by have := hlt p k e; omega
  unfold f1_cutOff
  simp only [sr_bnd, hX.1.2.2.2.2.2.2.2]
  cases htr : K.tr with
  | false =>
    have e : cutF K fl ct st = ct := funext fun p => cutF_f (by rw [htr]; rintro ⟨h, -⟩; cases h)
    rw [if_pos (by decide), wp_some, e]
    refine ⟨hg, ?_, rfl, fun _ _ _ => rfl, fun _ _ => rfl⟩
    show LX K ct th (lrow K ct st (lks K ct st) K.n).1 (lrow K ct st (lks K ct st) K.n).2 o M
    rw [lrow_idle (fun p _ e => by have := hlt p st e; omega) K.n (Nat.le_refl _)]
    exact hL
  | true =>
    rw [if_neg (by decide)]
    refine wp_bind (wp_mono (XreachFO hW hX ho hb hf) ?_)
    rintro M2 ⟨k1, k2, k3⟩
    refine wp_bind (wp_mono (Q := fun M3 => At K (cutF K fl ct st) (o + 5) M3 ∧ M3.2 = M.2 ∧ ∀ q, q ≠ o + 5 → q ≠ o + 11 → q ≠ o + 12 → M3.1 q = M.1 q) ?_ ?_)
    · refine wp_for (τ := sr_M) (fun i x => (nI i, x)) K.n (fun i M3 => (∀ x, x < K.n → M3.1 (o + 5) x = if x < i then oI (cutF K fl ct st x) else oI (ct x)) ∧ M3.2 = M.2 ∧ M3.1 (o + 12) = M2.1 (o + 12) ∧ ∀ q, q ≠ o + 5 → q ≠ o + 11 → q ≠ o + 12 → M3.1 q = M.1 q) ?_ ?_ 0 M2 (Nat.zero_le _) ⟨fun x hx => by rw [if_neg (Nat.not_lt_zero _), k3 _ (by omega) (by omega)]; exact hg x hx, k2, rfl, fun q _ b c => k3 q b c⟩
      · rintro i M3 hi ⟨r1, r2, r3, r4⟩
        have b1 : M3.1 1 0 = nI K.n := by rw [r4 1 (by omega) (by omega) (by omega)]; exact hX.1.1
        have b2 : M3.1 o 2 = nI st := by rw [r4 o (by omega) (by omega) (by omega)]; exact h2
        have b3 : M3.1 (o + 3) i = oI (fl i) := by rw [r4 _ (by omega) (by omega) (by omega)]; exact hf i hi
        have b4 : M3.1 (o + 5) i = oI (ct i) := by rw [r1 i hi, if_neg (by omega)]
        have b5 : M3.1 (o + 12) i = M2.1 (o + 12) i := by rw [r3]
        have skip : cutF K fl ct st i = ct i → sr_wp (some (.inl (nI (i + 1), M3)) : Option ((Int32 × sr_M) ⊕ sr_M)) (sr_oc (fun t => ∃ x', t = (nI (i + 1), x') ∧ (∀ x, x < K.n → x'.1 (o + 5) x = if x < i + 1 then oI (cutF K fl ct st x) else oI (ct x)) ∧ x'.2 = M.2 ∧ x'.1 (o + 12) = M2.1 (o + 12) ∧ ∀ q, q ≠ o + 5 → q ≠ o + 11 → q ≠ o + 12 → x'.1 q = M.1 q) (fun M3 => At K (cutF K fl ct st) (o + 5) M3 ∧ M3.2 = M.2 ∧ ∀ q, q ≠ o + 5 → q ≠ o + 11 → q ≠ o + 12 → M3.1 q = M.1 q)) := by
          intro e
          rw [wp_on]
          refine ⟨M3, rfl, fun x hx => ?_, r2, r3, r4⟩
          rw [r1 x hx]
          by_cases xi : x = i
          · rw [xi, if_neg (by omega), if_pos (by omega), e]
          · by_cases g : x < i
            · rw [if_pos g, if_pos (by omega)]
            · rw [if_neg g, if_neg (by omega)]
        unfold f1_cutOff_L17
        simp (disch := omega) only [sr_bnd, b1, pp_ld, b3, b4, b5, b2, nI_1]
        rw [if_neg (by rw [pp_le (by omega) (by omega)]; omega)]
        by_cases c1 : fl i = none
        case neg =>
          rw [if_pos (by show nI 0 ≤ oI (fl i); rw [oI_ge0 (hb i hi)]; exact c1)]
          exact skip (cutF_f (fun q => c1 q.2.1))
        rw [if_neg (by show ¬ nI 0 ≤ oI (fl i); rw [oI_ge0 (hb i hi)]; exact fun q => q c1)]
        by_cases c2 : ct i = none
        case neg =>
          rw [if_pos (by show nI 0 ≤ oI (ct i); rw [oI_ge0 (hc i hi)]; exact c2)]
          exact skip (cutF_f (fun q => c2 q.2.2.1))
        rw [if_neg (by show ¬ nI 0 ≤ oI (ct i); rw [oI_ge0 (hc i hi)]; exact fun q => q c2)]
        by_cases c3 : drain K fl i
        · rw [(k1 i hi).2.mpr c3, if_neg (by decide)]
          exact skip (cutF_f (fun q => q.2.2.2 c3))
        · have z : M2.1 (o + 12) i = 0 := by
            rcases (k1 i hi).1 with q | q
            · exact q
            · exact absurd ((k1 i hi).2.mp q) c3
          rw [z, if_pos rfl, pp_st (by omega) (by decide), wp_on]
          refine ⟨sr_wI M3 (o + 5) i (nI st), rfl, fun x hx => ?_, r2, by rw [pp_wI1 (by omega)]; exact r3, fun q a b c => by rw [pp_wI1 a]; exact r4 q a b c⟩
          by_cases xi : x = i
          · rw [xi, pp_wI2, if_pos (by omega), cutF_t ⟨htr, c1, c2, c3⟩]; rfl
          · rw [pp_wI3 xi, r1 x hx]
            by_cases g : x < i
            · rw [if_pos g, if_pos (by omega)]
            · rw [if_neg g, if_neg (by omega)]
      · rintro M3 ⟨r1, r2, r3, r4⟩
        have b1 : M3.1 1 0 = nI K.n := by rw [r4 1 (by omega) (by omega) (by omega)]; exact hX.1.1
        unfold f1_cutOff_L17
        simp (disch := omega) only [sr_bnd, sr_put, sr_jn, Option.bind_some, pp_bd2, pp_ld, pp_st, pp_stB, pp_putB, pp_grd, pp_l0, pp_l1, pp_l2, pp_l3, pp_l4, pp_l5, pp_l6, pp_l60, pp_l120, pp_l200, nI_add, pp_sub, pp_dec, pp_le, pp_lt, pp_eq, pp_neg1, pp_neg2, pp_neg3, pp_neg4, pp_neg5, if_pos, if_neg, if_true, if_false, b1, Nat.le_refl, wp_out]
        exact ⟨fun p hp => by rw [r1 p hp, if_pos hp], r2, r4⟩
    · rintro M3 ⟨r1, r2, r3⟩
      have hW' := hW
      generalize hct : cutF K fl ct st = ct' at *
      have hc' : ∀ p k, ct' p = some k → k ≤ st := by
        intro p k e
        rw [← hct] at e
        rcases cutF_new e with q | ⟨q, -⟩
        · have := hlt p k q; omega
        · omega
      have hbc : bnd K ct' := fun p _ k e => by have := hc' p k e; omega
      have e0 : lks K ct' st = lks K ct st := by rw [← hct]; exact cutF_lks hW hlt
      have hI : LI K ct' st 0 (lks K ct' st).1 (lks K ct' st).2 := LI.lks hW st
      have L0 : LX K ct' th (lks K ct' st).1 (lks K ct' st).2 o M3 := by
        rw [e0]
        refine (hL.ct (fun p k e => by rw [← hct]; exact cutF_old e)).kept (by rw [r3 o (by omega) (by omega) (by omega)]) (fun q a b => r3 q (by omega) (by omega) (by omega))
      show sr_wp _ (fun M' => At K ct' (o + 5) M' ∧ LX K ct' th (lrow K ct' st (lks K ct' st) K.n).1 (lrow K ct' st (lks K ct' st) K.n).2 o M' ∧ M'.2 = M.2 ∧ (∀ q, q ≠ o → (q < o + 5 ∨ o + 12 < q) → M'.1 q = M.1 q) ∧ ∀ j, j ≠ 9 → M'.1 o j = M.1 o j)
      refine wp_bind (wp_mono (Q := fun M' => At K ct' (o + 5) M' ∧ LX K ct' th (lrow K ct' st (lks K ct' st) K.n).1 (lrow K ct' st (lks K ct' st) K.n).2 o M' ∧ M'.2 = M.2 ∧ (∀ q, q ≠ o → (q < o + 5 ∨ o + 12 < q) → M'.1 q = M.1 q) ∧ ∀ j, j ≠ 9 → M'.1 o j = M.1 o j) ?_ (fun M' h => by rw [wp_some]; exact h))
      refine wp_for (τ := sr_M) (fun i x => (nI i, x)) K.n (fun i M' => At K ct' (o + 5) M' ∧ LX K ct' th (lrow K ct' st (lks K ct' st) i).1 (lrow K ct' st (lks K ct' st) i).2 o M' ∧ M'.2 = M.2 ∧ (∀ q, q ≠ o → (q < o + 5 ∨ o + 12 < q) → M'.1 q = M.1 q) ∧ ∀ j, j ≠ 9 → M'.1 o j = M.1 o j) ?_ ?_ 0 M3 (Nat.zero_le _) ⟨r1, L0, r2, fun q a b => r3 q (by omega) (by omega) (by omega), fun j _ => by rw [r3 o (by omega) (by omega) (by omega)]⟩
      · rintro i M5 hi ⟨s1, s2, s3, s4, s5⟩
        have hIi := LI.row hW hI i (by omega)
        have b1 : M5.1 1 0 = nI K.n := by rw [s4 1 (by omega) (by omega)]; exact hX.1.1
        have b2 : M5.1 o 2 = nI st := by rw [s5 2 (by omega)]; exact h2
        have b5 : M5.1 (o + 5) i = oI (ct' i) := s1 i hi
        have b6 := s2.1 i hi
        have hlb : ∀ k, (lrow K ct' st (lks K ct' st) i).1 i = some k → k < 2147483648 := fun k e => by
          have := (hIi.2.1 i k e).1
          have := hIi.c_le
          omega
        show sr_wp _ (sr_oc (fun t => ∃ x', t = (nI (i + 1), x') ∧ At K ct' (o + 5) x' ∧ LX K ct' th (lset K ct' st (lrow K ct' st (lks K ct' st) i).1 (lrow K ct' st (lks K ct' st) i).2 i).1 (lset K ct' st (lrow K ct' st (lks K ct' st) i).1 (lrow K ct' st (lks K ct' st) i).2 i).2 o x' ∧ x'.2 = M.2 ∧ (∀ q, q ≠ o → (q < o + 5 ∨ o + 12 < q) → x'.1 q = M.1 q) ∧ ∀ j, j ≠ 9 → x'.1 o j = M.1 o j) _)
        generalize hlc : lrow K ct' st (lks K ct' st) i = lc at hIi s2 b6 hlb ⊢
        obtain ⟨lo, c⟩ := lc
        dsimp only at hIi s2 b6 hlb ⊢
        unfold f1_cutOff_L73
        simp (disch := omega) only [sr_bnd, b1, pp_ld, b5, b6, b2, nI_1]
        rw [if_neg (by rw [pp_le (by omega) (by omega)]; omega)]
        by_cases c1 : ct' i = some st
        case neg =>
          rw [if_neg (by rw [oI_eqs (hbc i hi) (by omega)]; exact c1), wp_on, lset_f (fun q => c1 q.1)]
          exact ⟨M5, rfl, s1, s2, s3, s4, s5⟩
        rw [if_pos (by rw [c1]; rfl)]
        by_cases c2 : lo i = none
        case neg =>
          rw [if_pos (by show nI 0 ≤ oI (lo i); rw [oI_ge0 hlb]; exact c2), wp_on, lset_f (fun q => c2 q.2)]
          exact ⟨M5, rfl, s1, s2, s3, s4, s5⟩
        rw [if_neg (by show ¬ nI 0 ≤ oI (lo i); rw [oI_ge0 hlb]; exact fun q => q c2)]
        refine wp_bind (wp_mono (XaddLake (th := th) hW (hX.kept (fun q a b => s4 q (by omega) (by omega))) ho hIi hi ⟨c1, c2⟩ hbc s1 b2 hs (fun k a b => by rw [s4 _ (by omega) (by omega)]; exact h1 k a b) s2) ?_)
        rintro M6 ⟨t1, t2, t3, t4⟩
        rw [wp_on]
        exact ⟨M6, rfl, fun p hp => by rw [t3 _ (by omega) (by omega)]; exact s1 p hp, t1, t2.trans s3, fun q a b => (t3 q a (by omega)).trans (s4 q a b), fun j hj => (t4 j hj).trans (s5 j hj)⟩
      · rintro M5 ⟨s1, s2, s3, s4, s5⟩
        have b1 : M5.1 1 0 = nI K.n := by rw [s4 1 (by omega) (by omega)]; exact hX.1.1
        unfold f1_cutOff_L73
        simp (disch := omega) only [sr_bnd, sr_put, sr_jn, Option.bind_some, pp_bd2, pp_ld, pp_st, pp_stB, pp_putB, pp_grd, pp_l0, pp_l1, pp_l2, pp_l3, pp_l4, pp_l5, pp_l6, pp_l60, pp_l120, pp_l200, nI_add, pp_sub, pp_dec, pp_le, pp_lt, pp_eq, pp_neg1, pp_neg2, pp_neg3, pp_neg4, pp_neg5, if_pos, if_neg, if_true, if_false, b1, Nat.le_refl, wp_out]
        exact ⟨s1, s2, s3, s4, s5⟩
