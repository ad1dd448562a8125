/-! THE REFERENCE TELLS ITS LAKES -/
theorem Yspread {K : RK} {M : sr_M} {c s i : Nat} {ct lo : Nat → Option Nat} (hW : WF K) (hY : RY K M) (hI : LI K ct s i lo c) (hi : i < K.n) (g : ct i = some s ∧ lo i = none) (hb : bnd K ct) (hs : s ≤ K.n) (hg : At K ct 14 M) (h25 : M.1 0 25 = nI c) (hl : ∀ x, x < K.n → (x = i → M.1 19 x = nI c) ∧ (x ≠ i → M.1 19 x = oI (lo x))) :
    sr_wp (f5_spreadLake (nI s) M) (fun M' => At K (lset K ct s lo c i).1 19 M' ∧ M'.2 = M.2 ∧ ∀ q, q ≠ 19 → M'.1 q = M.1 q) := by
  have hn := hW.1
  have hT := hW.2.1
  have hc := hI.c_lt hi g.2
  obtain ⟨y1, y2, y3, y4, y5, y6, y7, y8, y9⟩ := hY
  have hlo : ∀ x k, lo x = some k → k < c := fun x k e => (hI.2.1 x k e).1
  have isc : ∀ (M5 : sr_M) (m5 : Nat → Prop), MKl K 19 c lo M5 m5 → ∀ x, x < K.n → (M5.1 19 x = nI c ↔ m5 x) := by
    intro M5 m5 h x hx
    by_cases q : m5 x
    · rw [(h x hx).1 q]; exact ⟨fun _ => q, fun _ => rfl⟩
    · rw [(h x hx).2 q]
      refine ⟨fun e => ?_, fun z => absurd z q⟩
      rw [oI_eqs (fun k e => by have := hlo x k e; omega) (by omega)] at e
      have := hlo x c e
      omega
  unfold f5_spreadLake
  refine wp_bind (wp_mono (FIX (om := 19) (M0 := M) (cond := fun x => ct x = some s) (MK := MKl K 19 c lo) (mk0 := fun x => x = i) hW (f5_spreadLake_L10 (nI s)) (f5_spreadLake_L2 (nI s)) ?_ ?_ ?_ ?_ rfl (fun _ _ => rfl) hl) ?_)
  · intro v M5 k1 k2
    have b1 : M5.1 0 3 = nI K.T := by rw [k2 0 (by omega)]; exact y2
    unfold f5_spreadLake_L10
    simp (disch := omega) only [sr_bnd, sr_put, sr_jn, Option.bind_some, pp_bd2, pp_ld, pp_st, pp_stB, pp_putB, pp_grd, pp_l0, pp_l1, pp_l2, pp_l3, pp_l4, pp_l5, pp_l6, pp_l60, pp_l120, pp_l200, nI_add, pp_sub, pp_dec, pp_le, pp_lt, pp_eq, pp_neg1, pp_neg2, pp_neg3, pp_neg4, pp_neg5, if_pos, if_neg, if_true, if_false, b1, Nat.le_refl]
  · intro v t m5 M5 ht k1 k2 k3
    have b1 : M5.1 0 3 = nI K.T := by rw [k2 0 (by omega)]; exact y2
    have b3 : M5.1 3 t = nI (K.e1 t) := by rw [k2 3 (by omega)]; exact y5 t ht
    have b4 : M5.1 4 t = nI (K.e2 t) := by rw [k2 4 (by omega)]; exact y6 t ht
    have b6 : M5.1 6 t = pp_bI (!K.op t) := by rw [k2 6 (by omega)]; exact y8 t ht
    have b25 : M5.1 0 25 = nI c := by rw [k2 0 (by omega)]; exact h25
    have et := hW.2.2.1 t ht
    have c1 : M5.1 14 (K.e1 t) = oI (ct (K.e1 t)) := by rw [k2 14 (by omega)]; exact hg _ et.1
    have c2 : M5.1 14 (K.e2 t) = oI (ct (K.e2 t)) := by rw [k2 14 (by omega)]; exact hg _ et.2.1
    have i1 := isc M5 m5 k3 _ et.1
    have i2 := isc M5 m5 k3 _ et.2.1
    have q1 : (oI (ct (K.e1 t)) = nI s) = (ct (K.e1 t) = some s) := oI_eqs (hb _ et.1) (by omega)
    have q2 : (oI (ct (K.e2 t)) = nI s) = (ct (K.e2 t) = some s) := oI_eqs (hb _ et.2.1) (by omega)
    have no : (¬ FE K (fun x => ct x = some s) t) → f5_spreadLake_L10 (nI s) v (nI t) M5 = some (.inl (v, nI (t + 1), M5)) := by
      intro h
      unfold f5_spreadLake_L10
      simp only [sr_bnd, sr_jn, b1]
      rw [if_neg (by rw [pp_le (by omega) (by omega)]; omega)]
      simp only [pp_ld (show t < 300 by omega) (show 300 < 2147483648 by decide), b3, b4, b6]
      cases hop : K.op t with
      | false => rw [if_neg (by decide)]; simp only [if_true]; rw [← nI_1]
      | true =>
        rw [if_pos (by decide), pp_ld (show K.e1 t < 120 by omega) (by decide), c1]
        by_cases h1 : ct (K.e1 t) = some s
        · rw [if_pos (by rw [q1]; exact h1), pp_ld (show K.e2 t < 120 by omega) (by decide), c2]
          by_cases h2 : ct (K.e2 t) = some s
          · exact absurd ⟨hop, h1, h2⟩ h
          · rw [if_neg (by rw [q2]; exact h2)]; simp only [if_true]; rw [← nI_1]
        · rw [if_neg (by rw [q1]; exact h1)]; simp only [if_true]; rw [← nI_1]
    by_cases hE : FE K (fun x => ct x = some s) t
    case neg => exact Or.inl ⟨fun h => absurd h hE, no hE⟩
    have hE' := hE
    obtain ⟨hop, h1, h2⟩ := hE'
    have n1 : ¬ ((1 : Int32) = 0) := by decide
    have go : f5_spreadLake_L10 (nI s) v (nI t) M5 = (if (if M5.1 19 (K.e1 t) = nI c then (1 : Int32) else 0) = (if M5.1 19 (K.e2 t) = nI c then (1 : Int32) else 0) then some (.inl (v, nI (t + 1), M5)) else some (.inl (nI 1, nI (t + 1), sr_wI (sr_wI M5 19 (K.e1 t) (nI c)) 19 (K.e2 t) (nI c)))) := by
      unfold f5_spreadLake_L10
      simp only [sr_bnd, sr_jn, b1]
      rw [if_neg (by rw [pp_le (by omega) (by omega)]; omega)]
      simp only [pp_ld (show t < 300 by omega) (show 300 < 2147483648 by decide), b3, b4, b6]
      rw [hop, if_pos (by decide), pp_ld (show K.e1 t < 120 by omega) (by decide), c1, if_pos (by rw [q1]; exact h1), pp_ld (show K.e2 t < 120 by omega) (by decide), c2, if_pos (by rw [q2]; exact h2), if_neg n1]
      simp only [pp_ld (show K.e1 t < 120 by omega) (show 120 < 2147483648 by decide), pp_ld (show K.e2 t < 120 by omega) (show 120 < 2147483648 by decide), b25, pp_st (show K.e1 t < 120 by omega) (show 120 < 2147483648 by decide), pp_st (show K.e2 t < 120 by omega) (show 120 < 2147483648 by decide)]
      rw [show (sr_wI M5 19 (K.e1 t) (nI c)).1 0 25 = nI c from by rw [pp_wI1 (by decide)]; exact b25, ← nI_1]
      by_cases d1 : M5.1 19 (K.e1 t) = nI c
      · by_cases d2 : M5.1 19 (K.e2 t) = nI c
        · rw [if_pos d1, if_pos d1, if_pos d2, if_pos d2, if_pos trivial, if_pos rfl]
        · rw [if_pos d1, if_pos d1, if_neg d2, if_neg d2]; rfl
      · by_cases d2 : M5.1 19 (K.e2 t) = nI c
        · rw [if_neg d1, if_neg d1, if_pos d2, if_pos d2]; rfl
        · rw [if_neg d1, if_neg d1, if_neg d2, if_neg d2, if_pos trivial, if_pos rfl]
    by_cases d1 : m5 (K.e1 t)
    · by_cases d2 : m5 (K.e2 t)
      · refine Or.inl ⟨fun _ => ⟨fun _ => d2, fun _ => d1⟩, ?_⟩
        rw [go, if_pos (by rw [if_pos (i1.mpr d1), if_pos (i2.mpr d2)])]
      · have d2' : ¬ M5.1 19 (K.e2 t) = nI c := fun z => d2 (i2.mp z)
        refine Or.inr ⟨hE, fun z => d2 (z.mp d1), sr_wI (sr_wI M5 19 (K.e1 t) (nI c)) 19 (K.e2 t) (nI c), ?_, rfl, fun r hr => by rw [pp_wI1 hr, pp_wI1 hr], fun x hx => ?_⟩
        · rw [go, if_neg (by rw [if_pos (i1.mpr d1), if_neg d2']; decide)]
        · by_cases x2 : x = K.e2 t
          · rw [x2, pp_wI2]; exact ⟨fun _ => rfl, fun q => absurd (Or.inr (Or.inr rfl)) q⟩
          · rw [pp_wI3 x2]
            by_cases x1 : x = K.e1 t
            · rw [x1, pp_wI2]; exact ⟨fun _ => rfl, fun q => absurd (Or.inr (Or.inl rfl)) q⟩
            · rw [pp_wI3 x1]
              exact ⟨fun q => (k3 x hx).1 (by rcases q with q | q | q; exact q; exact absurd q x1; exact absurd q x2), fun q => (k3 x hx).2 (fun z => q (Or.inl z))⟩
    · by_cases d2 : m5 (K.e2 t)
      · have d1' : ¬ M5.1 19 (K.e1 t) = nI c := fun z => d1 (i1.mp z)
        refine Or.inr ⟨hE, fun z => d1 (z.mpr d2), sr_wI (sr_wI M5 19 (K.e1 t) (nI c)) 19 (K.e2 t) (nI c), ?_, rfl, fun r hr => by rw [pp_wI1 hr, pp_wI1 hr], fun x hx => ?_⟩
        · rw [go, if_neg (by rw [if_pos (i2.mpr d2), if_neg d1']; decide)]
        · by_cases x2 : x = K.e2 t
          · rw [x2, pp_wI2]; exact ⟨fun _ => rfl, fun q => absurd (Or.inr (Or.inr rfl)) q⟩
          · rw [pp_wI3 x2]
            by_cases x1 : x = K.e1 t
            · rw [x1, pp_wI2]; exact ⟨fun _ => rfl, fun q => absurd (Or.inr (Or.inl rfl)) q⟩
            · rw [pp_wI3 x1]
              exact ⟨fun q => (k3 x hx).1 (by rcases q with q | q | q; exact q; exact absurd q x1; exact absurd q x2), fun q => (k3 x hx).2 (fun z => q (Or.inl z))⟩
      · have d1' : ¬ M5.1 19 (K.e1 t) = nI c := fun z => d1 (i1.mp z)
        have d2' : ¬ M5.1 19 (K.e2 t) = nI c := fun z => d2 (i2.mp z)
        refine Or.inl ⟨fun _ => ⟨fun z => absurd z d1, fun z => absurd z d2⟩, ?_⟩
        rw [go, if_pos (by rw [if_neg d1', if_neg d2'])]
  · intro M5
    unfold f5_spreadLake_L2
    rw [if_pos (by rfl)]
  · intro M5 w ew
    unfold f5_spreadLake_L2
    have n1 : ¬ (nI 1 = 0) := by decide
    rw [if_neg n1]
    exact congrArg (fun z : Option (Int32 × sr_M) => z.bind (fun w16 => some (Sum.inl (w16.1, w16.2)))) ew
  · rintro M2 ⟨mk, k1, k2, k3, k4, k5, k6⟩
    rw [wp_some]
    refine ⟨fun x hx => ?_, k2, k3⟩
    have iff : mk x ↔ Rch K (fun z => ct z = some s) i x := by
      constructor
      · refine k6 (fun x => Rch K (fun z => ct z = some s) i x) (fun y e => by rw [e]; exact Rch.rf) (fun t ht hE => ?_) x
        exact ⟨fun r => r.step (hE.eg ht), fun r => r.step (hE.eg ht).sy⟩
      · intro r
        exact r mk (k4 i rfl) (fun a b ha e => e.fe k5 ha)
    by_cases r : Rch K (fun z => ct z = some s) i x
    · rw [lset_y g r, (k1 x hx).1 (iff.mpr r)]; rfl
    · rw [lset_n g r, (k1 x hx).2 (fun m => r (iff.mp m))]
theorem YtellLakes {K : RK} {M : sr_M} {st : Nat} {ct : Nat → Option Nat} (hW : WF K) (hY : RY K M) (hc : ∀ p k, ct p = some k → k ≤ st) (hs : st ≤ K.n) (hg : At K ct 14 M) (h14 : M.1 0 14 = nI st) :
    sr_wp (f5_tellLakes M) (fun M' => At K (lks K ct (st + 1)).1 19 M' ∧ M'.1 0 25 = nI (lks K ct (st + 1)).2 ∧ M'.2 = M.2 ∧ (∀ q, q ≠ 0 → q ≠ 19 → M'.1 q = M.1 q) ∧ ∀ j, j ≠ 25 → M'.1 0 j = M.1 0 j) := by
  have hn := hW.1
  have hT := hW.2.1
  have hb : bnd K ct := fun p _ k e => by have := hc p k e; omega
  have y1 := hY.1
  unfold f5_tellLakes
  simp only [sr_put]
  refine wp_bind (wp_mono (Q := fun M1 => At K (fun _ => none) 19 M1 ∧ M1.1 0 25 = nI 0 ∧ M1.2 = M.2 ∧ (∀ q, q ≠ 0 → q ≠ 19 → M1.1 q = M.1 q) ∧ ∀ j, j ≠ 25 → M1.1 0 j = M.1 0 j) ?_ ?_)
  · refine wp_for (τ := sr_M) (fun i x => (nI i, x)) K.n (fun i M1 => (∀ p, p < i → M1.1 19 p = oI none) ∧ M1.1 0 25 = nI 0 ∧ M1.2 = M.2 ∧ (∀ q, q ≠ 0 → q ≠ 19 → M1.1 q = M.1 q) ∧ ∀ j, j ≠ 25 → M1.1 0 j = M.1 0 j) ?_ ?_ 0 (sr_wI M 0 25 0) (Nat.zero_le _) ⟨fun p hp => absurd hp (Nat.not_lt_zero _), pp_wI2, rfl, fun q a b => by rw [pp_wI1 a], fun j hj => by rw [pp_wI3 hj]⟩
    · rintro i M1 hi ⟨r1, r2, r3, r4, r5⟩
      have b1 : M1.1 0 0 = nI K.n := by rw [r5 0 (by omega)]; exact y1
      unfold f5_tellLakes_L7
      simp (disch := omega) only [sr_bnd, sr_put, sr_jn, Option.bind_some, pp_bd2, pp_ld, pp_st, pp_stB, pp_putB, pp_grd, pp_l0, pp_l1, pp_l2, pp_l3, pp_l4, pp_l5, pp_l6, pp_l60, pp_l120, pp_l200, nI_add, pp_sub, pp_dec, pp_le, pp_lt, pp_eq, pp_neg1, pp_neg2, pp_neg3, pp_neg4, pp_neg5, if_pos, if_neg, if_true, if_false, b1]
      rw [wp_on]
      refine ⟨_, rfl, fun p hp => ?_, by rw [pp_wI1 (by omega)]; exact r2, r3, fun q a b => by rw [pp_wI1 b]; exact r4 q a b, fun j hj => by rw [pp_wI1 (by omega)]; exact r5 j hj⟩
      by_cases pi : p = i
      · rw [pi, pp_wI2]; rfl
      · rw [pp_wI3 pi]; exact r1 p (by omega)
    · rintro M1 ⟨r1, r2, r3, r4, r5⟩
      have b1 : M1.1 0 0 = nI K.n := by rw [r5 0 (by omega)]; exact y1
      unfold f5_tellLakes_L7
      simp (disch := omega) only [sr_bnd, sr_put, sr_jn, Option.bind_some, pp_bd2, pp_ld, pp_st, pp_stB, pp_putB, pp_grd, pp_l0, pp_l1, pp_l2, pp_l3, pp_l4, pp_l5, pp_l6, pp_l60, pp_l120, pp_l200, nI_add, pp_sub, pp_dec, pp_le, pp_lt, pp_eq, pp_neg1, pp_neg2, pp_neg3, pp_neg4, pp_neg5, if_pos, if_neg, if_true, if_false, b1, Nat.le_refl]
      rw [wp_out]
      exact ⟨r1, r2, r3, r4, r5⟩
  · rintro M1 ⟨r1, r2, r3, r4, r5⟩
    refine wp_bind (wp_mono (Q := fun M' => At K (lks K ct (st + 1)).1 19 M' ∧ M'.1 0 25 = nI (lks K ct (st + 1)).2 ∧ M'.2 = M.2 ∧ (∀ q, q ≠ 0 → q ≠ 19 → M'.1 q = M.1 q) ∧ ∀ j, j ≠ 25 → M'.1 0 j = M.1 0 j) ?_ (fun M' h => by rw [wp_some]; exact h))
    refine wp_for (τ := sr_M) (fun i x => (nI i, x)) (st + 1) (fun i M' => At K (lks K ct i).1 19 M' ∧ M'.1 0 25 = nI (lks K ct i).2 ∧ M'.2 = M.2 ∧ (∀ q, q ≠ 0 → q ≠ 19 → M'.1 q = M.1 q) ∧ ∀ j, j ≠ 25 → M'.1 0 j = M.1 0 j) ?_ ?_ 0 M1 (Nat.zero_le _) ⟨r1, r2, r3, r4, r5⟩
    · rintro s M2 hs' ⟨t1, t2, t3, t4, t5⟩
      have hI := LI.lks hW (ct := ct) s
      have b14 : M2.1 0 14 = nI st := by rw [t5 14 (by omega)]; exact h14
      unfold f5_tellLakes_L30
      simp (disch := omega) only [sr_bnd, b14]
      rw [if_neg (by rw [pp_lt (by omega) (by omega)]; omega)]
      refine wp_bind (wp_mono (Q := fun M' => At K (lks K ct (s + 1)).1 19 M' ∧ M'.1 0 25 = nI (lks K ct (s + 1)).2 ∧ M'.2 = M.2 ∧ (∀ q, q ≠ 0 → q ≠ 19 → M'.1 q = M.1 q) ∧ ∀ j, j ≠ 25 → M'.1 0 j = M.1 0 j) ?_ (fun M' h => by rw [wp_on]; exact ⟨M', by rw [← nI_1], h⟩))
      refine wp_for (τ := sr_M) (fun i x => (nI i, x)) K.n (fun i M' => At K (lrow K ct s (lks K ct s) i).1 19 M' ∧ M'.1 0 25 = nI (lrow K ct s (lks K ct s) i).2 ∧ M'.2 = M.2 ∧ (∀ q, q ≠ 0 → q ≠ 19 → M'.1 q = M.1 q) ∧ ∀ j, j ≠ 25 → M'.1 0 j = M.1 0 j) ?_ ?_ 0 M2 (Nat.zero_le _) ⟨t1, t2, t3, t4, t5⟩
      · rintro i M5 hi ⟨u1, u2, u3, u4, u5⟩
        have hIi := LI.row hW hI i (by omega)
        have b1 : M5.1 0 0 = nI K.n := by rw [u5 0 (by omega)]; exact y1
        have b5 : M5.1 14 i = oI (ct i) := by rw [u4 14 (by omega) (by omega)]; exact hg i hi
        have b6 := u1 i hi
        have hcl := hIi.c_le
        have hlb : ∀ k, (lrow K ct s (lks K ct s) i).1 i = some k → k < 2147483648 := fun k e => by
          have := (hIi.2.1 i k e).1
          omega
        show sr_wp _ (sr_oc (fun t => ∃ x', t = (nI (i + 1), x') ∧ At K (lset K ct s (lrow K ct s (lks K ct s) i).1 (lrow K ct s (lks K ct s) i).2 i).1 19 x' ∧ x'.1 0 25 = nI (lset K ct s (lrow K ct s (lks K ct s) i).1 (lrow K ct s (lks K ct s) i).2 i).2 ∧ x'.2 = M.2 ∧ (∀ q, q ≠ 0 → q ≠ 19 → x'.1 q = M.1 q) ∧ ∀ j, j ≠ 25 → x'.1 0 j = M.1 0 j) _)
        generalize hlc : lrow K ct s (lks K ct s) i = lc at hIi u1 u2 b6 hlb hcl ⊢
        obtain ⟨lo, c⟩ := lc
        dsimp only at hIi u1 u2 b6 hlb hcl ⊢
        unfold f5_tellLakes_L40
        simp (disch := omega) only [sr_bnd, b1, pp_ld, b5, b6, u2, nI_1]
        rw [if_neg (by rw [pp_le (by omega) (by omega)]; omega)]
        by_cases c1 : ct i = some s
        case neg =>
          rw [if_neg (by rw [oI_eqs (hb i hi) (by omega)]; exact c1), wp_on, lset_f (fun q => c1 q.1)]
          exact ⟨M5, rfl, u1, u2, u3, u4, u5⟩
        rw [if_pos (by rw [c1]; rfl)]
        by_cases c2 : lo i = none
        case neg =>
          rw [if_pos (by show nI 0 ≤ oI (lo i); rw [oI_ge0 hlb]; exact c2), wp_on, lset_f (fun q => c2 q.2)]
          exact ⟨M5, rfl, u1, u2, u3, u4, u5⟩
        rw [if_neg (by show ¬ nI 0 ≤ oI (lo i); rw [oI_ge0 hlb]; exact fun q => q c2)]
        rw [pp_st (by omega) (by decide)]
        have hY' : RY K (sr_wI M5 19 i (nI c)) := hY.kept (by rw [pp_wI1 (by omega)]; exact u5 0 (by omega)) (by rw [pp_wI1 (by omega)]; exact u5 3 (by omega)) (by rw [pp_wI1 (by omega)]; exact u5 8 (by omega)) (fun q a b => by rw [pp_wI1 (by omega)]; exact u4 q (by omega) (by omega))
        refine wp_bind (wp_mono (Yspread hW hY' hIi hi ⟨c1, c2⟩ hb (by omega) (fun p hp => by rw [pp_wI1 (by omega), u4 14 (by omega) (by omega)]; exact hg p hp) (by rw [pp_wI1 (by omega)]; exact u2) (fun x hx => ⟨fun e => by rw [e, pp_wI2], fun e => by rw [pp_wI3 e]; exact u1 x hx⟩)) ?_)
        rintro M6 ⟨w1, w2, w3⟩
        have b25 : M6.1 0 25 = nI c := by rw [w3 0 (by omega), pp_wI1 (by omega)]; exact u2
        simp only [sr_put, b25]
        rw [wp_on, lset_c ⟨c1, c2⟩]
        refine ⟨_, rfl, fun p hp => by rw [pp_wI1 (by omega)]; exact w1 p hp, by rw [pp_wI2, ← nI_1], w2.trans u3, fun q a b => by rw [pp_wI1 a, w3 q b, pp_wI1 b]; exact u4 q a b, fun j hj => by rw [pp_wI3 hj, w3 0 (by omega), pp_wI1 (by omega)]; exact u5 j hj⟩
      · rintro M5 ⟨u1, u2, u3, u4, u5⟩
        have b1 : M5.1 0 0 = nI K.n := by rw [u5 0 (by omega)]; exact y1
        unfold f5_tellLakes_L40
        simp (disch := omega) only [sr_bnd, sr_put, sr_jn, Option.bind_some, pp_bd2, pp_ld, pp_st, pp_stB, pp_putB, pp_grd, pp_l0, pp_l1, pp_l2, pp_l3, pp_l4, pp_l5, pp_l6, pp_l60, pp_l120, pp_l200, nI_add, pp_sub, pp_dec, pp_le, pp_lt, pp_eq, pp_neg1, pp_neg2, pp_neg3, pp_neg4, pp_neg5, if_pos, if_neg, if_true, if_false, b1, Nat.le_refl]
        rw [wp_out]
        exact ⟨u1, u2, u3, u4, u5⟩
    · rintro M2 ⟨t1, t2, t3, t4, t5⟩
      have b14 : M2.1 0 14 = nI st := by rw [t5 14 (by omega)]; exact h14
      unfold f5_tellLakes_L30
      simp (disch := omega) only [sr_bnd, b14]
      rw [if_pos (by rw [pp_lt (by omega) (by omega)]; omega), wp_out]
      exact ⟨t1, t2, t3, t4, t5⟩
