theorem BFS {K : RK} {cond : Nat → Prop} {MK : sr_M → (Nat → Prop) → Prop} {ok : sr_M → Prop} {o om : Nat} {M0 : sr_M} {ρ : Type} (hW : WF K) (hne : om ≠ o + 11) (ex : Int32 → sr_M → ρ) (inner : Int32 → Int32 → sr_M → Option (Int32 × sr_M)) (b : Int32 → Int32 → sr_M → Option ((Int32 × Int32 × sr_M) ⊕ ρ))
    (hin : ∀ (p cnt : Nat) (qu : Nat → Nat) (mk : Nat → Prop) (M : sr_M), p < K.n → M.2 = M0.2 → (∀ q, q ≠ o + 11 → q ≠ om → M.1 q = M0.1 q) → MK M mk → (∀ i, i < cnt → M.1 (o + 11) i = nI (qu i)) → Qu K.n cnt qu mk → sr_wp (inner (nI p) (nI cnt) M) (BW K cond MK o om M cnt qu mk (adjT K p)))
    (hb1 : ∀ (cnt : Nat) (M : sr_M), cnt ≤ 120 → b (nI cnt) (nI cnt) M = some (.inr (ex (nI cnt) M)))
    (hb2 : ∀ (cnt k p : Nat) (M : sr_M) (w : Int32 × sr_M), k < cnt → cnt ≤ 120 → M.1 (o + 11) k = nI p → inner (nI p) (nI cnt) M = some w → b (nI cnt) (nI k) M = some (.inl (w.1, nI (k + 1), w.2)))
    {cnt0 : Nat} {qu0 : Nat → Nat} {mk0 : Nat → Prop} {M : sr_M} (h2 : M.2 = M0.2) (hf : ∀ q, q ≠ o + 11 → q ≠ om → M.1 q = M0.1 q) (hM : MK M mk0) (hq : ∀ i, i < cnt0 → M.1 (o + 11) i = nI (qu0 i)) (hQ : Qu K.n cnt0 qu0 mk0) :
    sr_wp (sr_lp (fun z : Int32 × Int32 × sr_M => b z.1 z.2.1 z.2.2) (nI cnt0, nI 0, M)) (fun r => ∃ cnt qu mk M', r = ex (nI cnt) M' ∧ Qu K.n cnt qu mk ∧ MK M' mk ∧ M'.2 = M0.2 ∧ (∀ q, q ≠ o + 11 → q ≠ om → M'.1 q = M0.1 q) ∧ (∀ x, x < K.n → mk0 x → mk x) ∧ (∀ x y, x < K.n → y < K.n → mk x → cond y → adjT K x y → mk y) ∧ ∀ S : Nat → Prop, (∀ x, x < K.n → mk0 x → S x) → (∀ x y, x < K.n → y < K.n → S x → cond y → adjT K x y → S y) → ∀ x, x < K.n → mk x → S x) := by
  have hn := hW.1
  refine wp_lp (fun z => ∃ cnt k qu mk, z.1 = nI cnt ∧ z.2.1 = nI k ∧ k ≤ cnt ∧ Qu K.n cnt qu mk ∧ MK z.2.2 mk ∧ (∀ i, i < cnt → z.2.2.1 (o + 11) i = nI (qu i)) ∧ z.2.2.2 = M0.2 ∧ (∀ q, q ≠ o + 11 → q ≠ om → z.2.2.1 q = M0.1 q) ∧ (∀ x, x < K.n → mk0 x → mk x) ∧ (∀ i y, i < k → y < K.n → cond y → adjT K (qu i) y → mk y) ∧ ∀ S : Nat → Prop, (∀ x, x < K.n → mk0 x → S x) → (∀ x y, x < K.n → y < K.n → S x → cond y → adjT K x y → S y) → ∀ x, x < K.n → mk x → S x) (fun z => 200 - z.2.1.toNatClampNeg) ?_ ?_
  · rintro ⟨v, kk, M1⟩ ⟨cnt, k, qu, mk, e1, e2, hk, g1, g2, g3, g4, g5, g6, g7, g8⟩
    dsimp only at e1 e2 g2 g3 g4 g5 ⊢
    subst e1 e2
    have hc := g1.le
    by_cases q : k = cnt
    · subst q
      rw [hb1 k M1 (by omega), wp_out]
      refine ⟨k, qu, mk, M1, rfl, g1, g2, g4, g5, g6, fun x y hx hy mx cy a => ?_, g8⟩
      obtain ⟨i, hi, rfl⟩ := (g1.2.2 x hx).mp mx
      exact g7 i y hi hy cy a
    · have pk := g1.1 k (by omega)
      obtain ⟨w, ew, c', q', m', w1, w2, w3, w4, w5, w6, w7, w8, w9⟩ := hin (qu k) cnt qu mk M1 pk g4 g5 g2 g3 g1
      rw [hb2 cnt k (qu k) M1 w (by omega) (by omega) (g3 k (by omega)) ew, wp_on]
      have hc' := w4.le
      refine ⟨⟨c', k + 1, q', m', w1, rfl, by omega, w4, w6, w5, w8.trans g4, fun q h1 h2 => (w9 q h1 h2).trans (g5 q h1 h2), fun x hx h => (w7 x hx).mpr (Or.inl (g6 x hx h)), fun i y hi hy cy a => ?_, fun S s1 s2 x hx mx => ?_⟩, ?_⟩
      · rw [w3 i (by omega)] at a
        rw [w7 y hy]
        by_cases ik : i = k
        · rw [ik] at a
          exact Or.inr ⟨cy, a⟩
        · exact Or.inl (g7 i y (by omega) hy cy a)
      · rcases (w7 x hx).mp mx with h | ⟨h1, h2⟩
        · exact g8 S s1 s2 x hx h
        · exact s2 (qu k) x pk hx (g8 S s1 s2 _ pk ((g1.2.2 _ pk).mpr ⟨k, by omega, rfl⟩)) h1 h2
      · show 200 - (nI (k + 1)).toNatClampNeg < 200 - (nI k).toNatClampNeg
        rw [nI_clamp (by omega), nI_clamp (by omega)]
        omega
  · exact ⟨cnt0, 0, qu0, mk0, rfl, rfl, Nat.zero_le _, hQ, hM, hq, h2, hf, fun _ _ h => h, fun i y hi => absurd hi (Nat.not_lt_zero _), fun S s1 _ x hx h => s1 x hx h⟩
/-- a pore from which one comes to an outlet that isn't filled -/
def seed (K : RK) (fl : Nat → Option Nat) (x : Nat) : Prop := K.kd x = 4 ∧ fl x = none
def drain (K : RK) (fl : Nat → Option Nat) (x : Nat) : Prop := ∃ s, s < K.n ∧ seed K fl s ∧ Rch K (fun z => fl z = none) s x
theorem XreachFO {K : RK} {M : sr_M} {o : Nat} {fl : Nat → Option Nat} (hW : WF K) (hX : RX K M) (ho : 30 ≤ o) (hb : bnd K fl) (hf : FlX K fl o M) :
    sr_wp (f1_reachFromOutlets o M) (fun M' => MKr K o M' (drain K fl) ∧ M'.2 = M.2 ∧ ∀ q, q ≠ o + 11 → q ≠ o + 12 → M'.1 q = M.1 q) := by
  have hn := hW.1
  obtain ⟨a1, -, a3, -⟩ := hX.1
  unfold f1_reachFromOutlets
  refine wp_bind (wp_mono (Q := fun w => ∃ cnt qu, w.1 = nI cnt ∧ Qu K.n cnt qu (seed K fl) ∧ MKr K o w.2 (seed K fl) ∧ (∀ i, i < cnt → w.2.1 (o + 11) i = nI (qu i)) ∧ w.2.2 = M.2 ∧ ∀ q, q ≠ o + 11 → q ≠ o + 12 → w.2.1 q = M.1 q) ?_ ?_)
  · refine wp_for (τ := Int32 × sr_M) (fun i x => (x.1, nI i, x.2)) K.n (fun i w => ∃ cnt qu, w.1 = nI cnt ∧ Qu K.n cnt qu (fun x => x < i ∧ seed K fl x) ∧ (∀ x, x < i → (w.2.1 (o + 12) x = 0 ∨ w.2.1 (o + 12) x = 1) ∧ (w.2.1 (o + 12) x = 1 ↔ seed K fl x)) ∧ (∀ i, i < cnt → w.2.1 (o + 11) i = nI (qu i)) ∧ w.2.2 = M.2 ∧ ∀ q, q ≠ o + 11 → q ≠ o + 12 → w.2.1 q = M.1 q) ?_ ?_ 0 (nI 0, M) (Nat.zero_le _) ?_
    · rintro i ⟨v, M4⟩ hi ⟨cnt, qu, e1, g1, g2, g3, g4, g5⟩
      dsimp only at e1 g2 g3 g4 g5 ⊢
      subst e1
      have hc := g1.le
      have b1 : M4.1 1 0 = nI K.n := by rw [g5 1 (by omega) (by omega)]; exact a1
      have b2 : M4.1 2 i = nI (K.kd i) := by rw [g5 2 (by omega) (by omega)]; exact a3 i hi
      have b3 : M4.1 (o + 3) i = oI (fl i) := by rw [g5 (o + 3) (by omega) (by omega)]; exact hf i hi
      have hk := hW.2.2.2.1 i hi
      unfold f1_reachFromOutlets_L4
      have key : ∀ (sv : Int32), (sv = 0 ∧ ¬ seed K fl i) ∨ (sv = 1 ∧ seed K fl i) → sr_wp (sr_stB (nI i) 120 M4 (o + 12) sv fun M9 => sr_ld (nI i) 120 (M9.1 (o + 12)) fun v10 => if v10 = 0 then some (.inl (nI cnt, nI i + 1, M9)) else sr_st (nI cnt) 120 M9 (o + 11) (nI i) fun M11 => some (.inl (nI cnt + 1, nI i + 1, M11)) : Option ((Int32 × Int32 × sr_M) ⊕ (Int32 × sr_M))) (sr_oc (fun t => ∃ x' : Int32 × sr_M, t = (x'.1, nI (i + 1), x'.2) ∧ ∃ cnt qu, x'.1 = nI cnt ∧ Qu K.n cnt qu (fun x => x < i + 1 ∧ seed K fl x) ∧ (∀ x, x < i + 1 → (x'.2.1 (o + 12) x = 0 ∨ x'.2.1 (o + 12) x = 1) ∧ (x'.2.1 (o + 12) x = 1 ↔ seed K fl x)) ∧ (∀ i, i < cnt → x'.2.1 (o + 11) i = nI (qu i)) ∧ x'.2.2 = M.2 ∧ ∀ q, q ≠ o + 11 → q ≠ o + 12 → x'.2.1 q = M.1 q) (fun w => ∃ cnt qu, w.1 = nI cnt ∧ Qu K.n cnt qu (seed K fl) ∧ MKr K o w.2 (seed K fl) ∧ (∀ i, i < cnt → w.2.1 (o + 11) i = nI (qu i)) ∧ w.2.2 = M.2 ∧ ∀ q, q ≠ o + 11 → q ≠ o + 12 → w.2.1 q = M.1 q)) := by
        rintro sv (⟨rfl, hs⟩ | ⟨rfl, hs⟩)
        · rw [pp_stB (by omega) (by decide) (Or.inl rfl), pp_ld (by omega) (by decide), pp_wI2, if_pos rfl, wp_on]
          refine ⟨(nI cnt, sr_wI M4 (o + 12) i 0), by rw [← nI_1], cnt, qu, rfl, ⟨g1.1, g1.2.1, fun x hx => ?_⟩, fun x hx => ?_, fun j hj => ?_, g4, fun q h1 h2 => ?_⟩
          · rw [← g1.2.2 x hx]
            constructor
            · rintro ⟨h1, h2⟩
              refine ⟨?_, h2⟩
              by_cases e : x = i
              · rw [e] at h2; exact absurd h2 hs
              · omega
            · rintro ⟨h1, h2⟩
              exact ⟨by omega, h2⟩
          · by_cases e : x = i
            · subst e
              rw [pp_wI2]
              exact ⟨Or.inl rfl, fun h => absurd h (by decide), fun h => absurd h hs⟩
            · rw [pp_wI3 e]
              exact g2 x (by omega)
          · rw [pp_wI1 (by omega)]
            exact g3 j hj
          · rw [pp_wI1 h2]
            exact g5 q h1 h2
        · have nm : ¬ (i < i ∧ seed K fl i) := fun h => by omega
          have pu := g1.push (mk' := fun x => x < i + 1 ∧ seed K fl x) hi nm (fun x hx => by
            constructor
            · rintro ⟨h1, h2⟩
              by_cases e : x = i
              · exact Or.inr e
              · exact Or.inl ⟨by omega, h2⟩
            · rintro (⟨h1, h2⟩ | e)
              · exact ⟨by omega, h2⟩
              · rw [e]; exact ⟨by omega, hs⟩)
          have cl := pu.le
          rw [pp_stB (by omega) (by decide) (Or.inr rfl), pp_ld (by omega) (by decide), pp_wI2, if_neg (by decide), pp_st (by omega) (by decide), wp_on]
          refine ⟨(nI (cnt + 1), sr_wI (sr_wI M4 (o + 12) i 1) (o + 11) cnt (nI i)), by rw [← nI_1, ← nI_1], cnt + 1, va_up qu cnt i, rfl, pu, fun x hx => ?_, fun j hj => ?_, g4, fun q h1 h2 => ?_⟩
          · rw [pp_wI1 (by omega)]
            by_cases e : x = i
            · subst e
              rw [pp_wI2]
              exact ⟨Or.inr rfl, fun _ => hs, fun _ => rfl⟩
            · rw [pp_wI3 e]
              exact g2 x (by omega)
          · by_cases e : j = cnt
            · rw [e, va_up_s, pp_wI2]
            · rw [va_up_n e, pp_wI3 e, pp_wI1 (by omega)]
              exact g3 j (by omega)
          · rw [pp_wI1 h1, pp_wI1 h2]
            exact g5 q h1 h2
      simp only [sr_bnd, sr_jn, b1]
      rw [if_neg (by rw [pp_le (by omega) (by omega)]; omega), pp_ld (by omega) (by decide), b2]
      by_cases k4 : K.kd i = 4
      · rw [if_pos (by rw [k4]; rfl), pp_ld (by omega) (by decide), b3]
        by_cases hfl : fl i = none
        · rw [if_neg (by show ¬ nI 0 ≤ oI (fl i); rw [oI_ge0 (hb i hi)]; exact fun q => q hfl)]
          exact key 1 (Or.inr ⟨rfl, k4, hfl⟩)
        · rw [if_pos (by show nI 0 ≤ oI (fl i); rw [oI_ge0 (hb i hi)]; exact hfl)]
          exact key 0 (Or.inl ⟨rfl, fun h => hfl h.2⟩)
      · rw [if_neg (by show ¬ nI (K.kd i) = nI 4; rw [pp_eq (by omega) (by omega)]; exact k4)]
        exact key 0 (Or.inl ⟨rfl, fun h => k4 h.1⟩)
    · rintro ⟨v, M4⟩ ⟨cnt, qu, e1, g1, g2, g3, g4, g5⟩
      dsimp only at e1 g2 g3 g4 g5 ⊢
      have b1 : M4.1 1 0 = nI K.n := by rw [g5 1 (by omega) (by omega)]; exact a1
      unfold f1_reachFromOutlets_L4
      simp only [sr_bnd, b1]
      rw [if_pos (by rw [pp_le (by omega) (by omega)]; omega), wp_out]
      refine ⟨cnt, qu, e1, ⟨g1.1, g1.2.1, fun x hx => ?_⟩, g2, g3, g4, g5⟩
      rw [← g1.2.2 x hx]
      exact ⟨fun h => ⟨hx, h⟩, fun h => h.2⟩
    · refine ⟨0, fun _ => 0, rfl, ⟨fun i hi => absurd hi (Nat.not_lt_zero _), fun i j hi => absurd hi (Nat.not_lt_zero _), fun x hx => ⟨fun h => absurd h.1 (Nat.not_lt_zero _), fun ⟨i, hi, _⟩ => absurd hi (Nat.not_lt_zero _)⟩⟩, fun x hx => absurd hx (Nat.not_lt_zero _), fun i hi => absurd hi (Nat.not_lt_zero _), rfl, fun _ _ _ => rfl⟩
  · rintro ⟨v, M1⟩ ⟨cnt, qu, e1, g1, g2, g3, g4, g5⟩
    dsimp only at e1 g2 g3 g4 g5 ⊢
    subst e1
    refine wp_bind (wp_mono (BFS (ρ := sr_M) (M0 := M) (cond := fun x => fl x = none) (MK := MKr K o) (ok := fun _ => True) (om := o + 12) hW (by omega) (fun _ M => M) (f1_reachAround o) (f1_reachFromOutlets_L75 o) ?_ ?_ ?_ g4 g5 g2 g3 g1) ?_)
    · intro p cnt qu mk M2 hp m2 mf mM mq mQ
      exact Xreach1 hW (hX.kept (fun q h1 h2 => mf q (by omega) (by omega))) ho hp hb (fun x hx => by rw [mf _ (by omega) (by omega)]; exact hf x hx) mM mq mQ
    · intro cnt M2 hc
      unfold f1_reachFromOutlets_L75
      simp (disch := omega) only [sr_bnd, sr_put, sr_jn, Option.bind_some, pp_bd2, pp_ld, pp_st, pp_stB, pp_putB, pp_grd, pp_l0, pp_l1, pp_l2, pp_l3, pp_l4, pp_l5, pp_l6, pp_l60, pp_l120, pp_l200, nI_add, pp_sub, pp_dec, pp_le, pp_lt, pp_eq, pp_neg1, pp_neg2, pp_neg3, pp_neg4, pp_neg5, if_pos, if_neg, if_true, if_false, Nat.le_refl]
    · intro cnt k p M2 w hk hc e ew
      unfold f1_reachFromOutlets_L75
      simp (disch := omega) only [sr_bnd, sr_put, sr_jn, Option.bind_some, pp_bd2, pp_ld, pp_st, pp_stB, pp_putB, pp_grd, pp_l0, pp_l1, pp_l2, pp_l3, pp_l4, pp_l5, pp_l6, pp_l60, pp_l120, pp_l200, nI_add, pp_sub, pp_dec, pp_le, pp_lt, pp_eq, pp_neg1, pp_neg2, pp_neg3, pp_neg4, pp_neg5, if_pos, if_neg, if_true, if_false, e, ew]
      obtain ⟨w1, w2⟩ := w
      simp only [pp_bd2]
    · rintro M2 ⟨c2, q2, m2, M3, rfl, k1, k2, k3, k4, k5, k6, k7⟩
      rw [wp_some]
      refine ⟨fun x hx => ⟨(k2 x hx).1, (k2 x hx).2.trans ⟨fun h => ?_, fun h => ?_⟩⟩, k3, k4⟩
      · refine k7 (fun y => drain K fl y ∧ fl y = none) (fun y hy h => ⟨⟨y, hy, h, Rch.rf⟩, h.2⟩) (fun y z hy hz ⟨⟨s, s1, s2, s3⟩, fy⟩ c ⟨t, t1, t2, t3⟩ => ⟨⟨s, s1, s2, s3.step ⟨fy, c, t, t1, t2, t3⟩⟩, c⟩) x hx h |>.1
      · obtain ⟨s, s1, s2, s3⟩ := h
        have := s3 (fun y => y < K.n ∧ m2 y) ⟨s1, k5 s s1 s2⟩ (fun y z hy e => by
          obtain ⟨e1, e2, t, t1, t2, t3⟩ := e
          have hz : z < K.n := by
            have := hW.2.2.1 t t1
            rcases t3 with ⟨q1, q2⟩ | ⟨q1, q2⟩
            · rw [← q2]; exact this.2.1
            · rw [← q1]; exact this.1
          exact ⟨hz, k6 y z hy.1 hz hy.2 e2 ⟨t, t1, t2, t3⟩⟩)
        exact this.2
