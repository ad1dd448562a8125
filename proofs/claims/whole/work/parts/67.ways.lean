/-! WORST AND WAY -/
theorem Ybehind {K : RK} {W : FW} {M : sr_M} {i p k : Nat} (hW : WF K) (hY : RY K M) (hO : WOK K W i) (hA : AY K W M) (hp : p < K.n) (hr : W.rc p = true) (hk : W.ln p = k + 1) : f5_behind (nI p) M = some (nI (K.nb (W.bt p) p)) := by
  have hn := hW.1
  have hT := hW.2.1
  obtain ⟨a1, a2, a3, a4, a5, a6⟩ := (hO.1 p hp hr).2.2 k hk
  have et := hW.2.2.1 _ a1
  have y5 := hY.2.2.2.2.1
  have y6 := hY.2.2.2.2.2.1
  unfold f5_behind RK.nb
  rw [pp_ld (by omega) (by decide), hA p hp, yv_s hr (by omega), pp_ld (by omega) (by decide), y5 _ a1]
  by_cases e : K.e1 (W.bt p) = p
  · rw [if_pos (by rw [e]), if_pos e, pp_ld (by omega) (by decide), y6 _ a1]
  · rw [if_neg (by rw [pp_eq (by omega) (by omega)]; exact e), if_neg e, pp_ld (by omega) (by decide), y5 _ a1]
theorem worst_loop {K : RK} {W : FW} {M : sr_M} {i : Nat} (hW : WF K) (hY : RY K M) (hO : WOK K W i) (hA : AY K W M) : ∀ k p acc, p < K.n → W.rc p = true → W.ln p = k → (∀ m, acc = some m → m ≤ K.T) → sr_lp (fun z4 : Int32 × Int32 => f5_worst_L33 M z4.1 z4.2) (oI acc, nI p) = some (oI (omx acc (W.wr p))) := by
  have hn := hW.1
  have hT := hW.2.1
  intro k
  induction k with
  | zero =>
    intro p acc hp hr hk ha
    refine sr_lp_end ?_
    show f5_worst_L33 M (oI acc) (nI p) = _
    unfold f5_worst_L33
    rw [pp_ld (by omega) (by decide), hA p hp, yv_0 hr hk, if_pos (by decide), ((hO.1 p hp hr).2.1 hk)]
    cases acc <;> rfl
  | succ k ih =>
    intro p acc hp hr hk ha
    obtain ⟨a1, a2, a3, a4, a5, a6⟩ := (hO.1 p hp hr).2.2 k hk
    have hrk := rk_le (K := K) (t := W.bt p)
    rw [a6, omx_step]
    refine sr_lp_step (t := (oI (some (wmx acc (K.rk (W.bt p)))), nI (K.nb (W.bt p) p))) ?_ (ih (K.nb (W.bt p) p) (some (wmx acc (K.rk (W.bt p)))) a3 a4 a5 (fun m e => by cases e; exact wmx_le ha hrk))
    show f5_worst_L33 M (oI acc) (nI p) = _
    unfold f5_worst_L33
    rw [pp_ld (by omega) (by decide), hA p hp, yv_s hr (by omega), if_neg (Int32.not_lt.mpr (show (0 : Int32) ≤ nI (W.bt p) from oI_s0 (by omega))), pp_ld (by omega) (by decide), hA p hp, yv_s hr (by omega), Yrank hW hY a1, Option.bind_some]
    simp only [sr_jn]
    rw [Ybehind hW hY hO hA hp hr hk, Option.bind_some]
    cases acc with
    | none =>
      rw [if_neg (show ¬ nI (K.rk (W.bt p)) ≤ oI none from (show ¬ nI (K.rk (W.bt p)) ≤ -nI 1 by rw [pp_neg1 (by omega)]; exact id))]
      rfl
    | some m =>
      have hm := ha m rfl
      by_cases q : K.rk (W.bt p) ≤ m
      · rw [if_pos (show nI (K.rk (W.bt p)) ≤ oI (some m) from (show nI (K.rk (W.bt p)) ≤ nI m by rw [pp_le (by omega) (by omega)]; exact q))]
        rw [show wmx (some m) (K.rk (W.bt p)) = m from (show max m (K.rk (W.bt p)) = m by omega)]
      · rw [if_neg (show ¬ nI (K.rk (W.bt p)) ≤ oI (some m) from (show ¬ nI (K.rk (W.bt p)) ≤ nI m by rw [pp_le (by omega) (by omega)]; exact q))]
        rw [show wmx (some m) (K.rk (W.bt p)) = K.rk (W.bt p) from (show max m (K.rk (W.bt p)) = K.rk (W.bt p) by omega)]
        rfl
theorem op_worst {Mx My : sr_M} (h : Rel Mx My) (a : Int32) : Bth (f4_worst a Mx) (f5_worst a My) := by
  have hh := h
  obtain ⟨K, hR, -⟩ := h
  have hW := hR.1
  have hn := hW.1
  unfold f4_worst f5_worst
  rcases hasP hW hR.2.1.1.1 hR.2.2.1.1 a with ⟨p, hp, rfl, e1, e2⟩ | ⟨-, e1, e2⟩
  case inr =>
    rw [e1, e2, Option.bind_some, Option.bind_some, if_pos (by rfl), if_pos (by rfl)]
    exact ⟨_, _, _, rfl, rfl, hh⟩
  rw [e1, e2, Option.bind_some, Option.bind_some, if_neg n10', if_neg n10']
  obtain ⟨W, Mx', My', f1, f2, f3, f4, f5, f6, f7⟩ := flood_both hW hR.2.1 hR.2.2.1
  have hrel : Rel Mx' My' := hh.wy f6 f7
  rw [f1, f2, Option.bind_some, Option.bind_some]
  simp only [pp_ld (show p < 120 by omega) (show 120 < 2147483648 by decide), (f4 p hp).1, f5 p hp]
  cases hr : W.rc p with
  | false =>
    rw [xv_f hr, yv_f hr, if_neg (by decide), if_pos rfl]
    exact ⟨_, _, _, rfl, rfl, hrel⟩
  | true =>
    have hln := (f3.1 p hp hr).1
    rw [xv_t hr, if_pos (show (0 : Int32) ≤ nI (W.ln p) from oI_s0 (by omega)), if_neg (fun e => by have := (yv_m2 hW f3 hp).mp e; rw [hr] at this; cases this), (f4 p hp).2.1 hr]
    have w := worst_loop hW (f7.ry hR.2.2.1) f3 f5 (W.ln p) p none hp hr rfl (fun m e => by cases e)
    have w' : sr_lp (fun z4 : Int32 × Int32 => f5_worst_L33 My' z4.1 z4.2) ((-1), nI p) = some (oI (W.wr p)) := w
    rw [w']
    exact ⟨_, _, _, rfl, rfl, hrel⟩
theorem way_count {K : RK} {W : FW} {M : sr_M} {i : Nat} (hW : WF K) (hY : RY K M) (hO : WOK K W i) (hA : AY K W M) : ∀ k p c, p < K.n → W.rc p = true → W.ln p = k → sr_lp (fun z3 : Int32 × Int32 => f5_way_L23 M z3.1 z3.2) (nI c, nI p) = some (nI (c + k)) := by
  have hn := hW.1
  have hT := hW.2.1
  intro k
  induction k with
  | zero =>
    intro p c hp hr hk
    refine sr_lp_end ?_
    show f5_way_L23 M (nI c) (nI p) = _
    unfold f5_way_L23
    rw [pp_ld (by omega) (by decide), hA p hp, yv_0 hr hk, if_pos (by decide)]
    rfl
  | succ k ih =>
    intro p c hp hr hk
    obtain ⟨a1, a2, a3, a4, a5, a6⟩ := (hO.1 p hp hr).2.2 k hk
    have := ih (K.nb (W.bt p) p) (c + 1) a3 a4 a5
    rw [show c + 1 + k = c + (k + 1) by omega] at this
    refine sr_lp_step (t := (nI (c + 1), nI (K.nb (W.bt p) p))) ?_ this
    show f5_way_L23 M (nI c) (nI p) = _
    unfold f5_way_L23
    rw [pp_ld (by omega) (by decide), hA p hp, yv_s hr (by omega), if_neg (Int32.not_lt.mpr (show (0 : Int32) ≤ nI (W.bt p) from oI_s0 (by omega))), Ybehind hW hY hO hA hp hr hk, Option.bind_some, nI_1]
theorem way_walk {K : RK} {W : FW} {Mx My : sr_M} {i w : Nat} (hW : WF K) (hX : RX K Mx) (hY : RY K My) (hO : WOK K W i) (hi : i ≤ 120) (hAX : AX K W Mx) (hA : AY K W My) : ∀ d j p, j = w + d → p < K.n → W.rc p = true → W.ln p = j + 1 → ∃ p', p' < K.n ∧ W.rc p' = true ∧ W.ln p' = w + 1 ∧ sr_lp (fun z2 : Int32 × Int32 => f3_throatOnWay_L12 (nI w) Mx z2.1 z2.2) (nI p, nI j) = some (nI p') ∧ sr_lp (fun z9 : Int32 × Int32 => f5_way_L62 (nI w) My z9.1 z9.2) (nI p, nI j) = some (nI p') := by
  have hn := hW.1
  have hT := hW.2.1
  intro d
  induction d with
  | zero =>
    intro j p hj hp hr hk
    have hln := (hO.1 p hp hr).1
    have hle : nI j ≤ nI w := by rw [pp_le (by omega) (by omega)]; omega
    refine ⟨p, hp, hr, by omega, sr_lp_end ?_, sr_lp_end ?_⟩
    · show f3_throatOnWay_L12 (nI w) Mx (nI p) (nI j) = _
      unfold f3_throatOnWay_L12
      rw [if_pos hle]
    · show f5_way_L62 (nI w) My (nI p) (nI j) = _
      unfold f5_way_L62
      rw [if_pos hle]
  | succ d ih =>
    intro j p hj hp hr hk
    have hln := (hO.1 p hp hr).1
    obtain ⟨a1, a2, a3, a4, a5, a6⟩ := (hO.1 p hp hr).2.2 j hk
    have hle : ¬ nI j ≤ nI w := by rw [pp_le (by omega) (by omega)]; omega
    obtain ⟨p', h1, h2, h3, h4, h5⟩ := ih (j - 1) (K.nb (W.bt p) p) (by omega) a3 a4 (by omega)
    have dj : nI j + (-1) = nI (j - 1) := pp_dec (by omega)
    refine ⟨p', h1, h2, h3, sr_lp_step ?_ h4, sr_lp_step ?_ h5⟩
    · show f3_throatOnWay_L12 (nI w) Mx (nI p) (nI j) = _
      unfold f3_throatOnWay_L12
      rw [if_neg hle, pp_ld (by omega) (by decide), (hAX p hp).2.2 hr (by omega), Xacross hW hX.1 a1 hp, Option.bind_some, dj]
      rfl
    · show f5_way_L62 (nI w) My (nI p) (nI j) = _
      unfold f5_way_L62
      rw [if_neg hle, Ybehind hW hY hO hA hp hr hk, Option.bind_some, dj]
theorem op_way {Mx My : sr_M} (h : Rel Mx My) (a b : Int32) : Bth (f4_way a b Mx) (f5_way a b My) := by
  have hh := h
  obtain ⟨K, hR, -⟩ := h
  have hW := hR.1
  have hn := hW.1
  unfold f4_way f5_way
  rcases hasP hW hR.2.1.1.1 hR.2.2.1.1 a with ⟨p, hp, rfl, e1, e2⟩ | ⟨-, e1, e2⟩
  case inr =>
    rw [e1, e2, Option.bind_some, Option.bind_some, if_pos (by rfl), if_pos (by rfl)]
    exact ⟨_, _, _, rfl, rfl, hh⟩
  rw [e1, e2, Option.bind_some, Option.bind_some, if_neg n10', if_neg n10']
  obtain ⟨W, Mx', My', f1, f2, f3, f4, f5, f6, f7⟩ := flood_both hW hR.2.1 hR.2.2.1
  have hrel : Rel Mx' My' := hh.wy f6 f7
  rw [f1, Option.bind_some]
  by_cases b0 : b < 0
  · rw [if_pos b0, if_neg (Int32.not_le.mpr b0)]
    exact ⟨_, _, _, rfl, rfl, hh.wy f6 YWy.rf⟩
  rw [if_neg b0, if_pos (Int32.not_lt.mp b0)]
  obtain ⟨w, hw, rfl⟩ := i32_nn b0
  rw [pp_ld (by omega) (by decide), (f4 p hp).1, f2, Option.bind_some]
  cases hr : W.rc p with
  | false =>
    have c0 : sr_lp (fun z3 : Int32 × Int32 => f5_way_L23 My' z3.1 z3.2) (0, nI p) = some (nI 0) := by
      refine sr_lp_end ?_
      show f5_way_L23 My' (nI 0) (nI p) = _
      unfold f5_way_L23
      rw [pp_ld (by omega) (by decide), f5 p hp, yv_f hr, if_pos (by decide)]
    rw [xv_f hr, if_pos (show (-1 : Int32) ≤ nI w from (show (-nI 1 : Int32) ≤ nI w by rw [pp_neg5 hw]; trivial)), c0, Option.bind_some, if_neg (by rw [pp_lt hw (by omega)]; omega)]
    exact ⟨_, _, _, rfl, rfl, hrel⟩
  | true =>
    have hln := (f3.1 p hp hr).1
    have hY' := f7.ry hR.2.2.1
    have hX' := f6.rx hR.2.1
    have c0 := way_count hW hY' f3 f5 (W.ln p) p 0 hp hr rfl
    rw [Nat.zero_add] at c0
    have c0 : sr_lp (fun z3 : Int32 × Int32 => f5_way_L23 My' z3.1 z3.2) (0, nI p) = some (nI (W.ln p)) := c0
    rw [xv_t hr, c0, Option.bind_some]
    by_cases q : W.ln p ≤ w
    · rw [if_pos (by rw [pp_le (by omega) hw]; exact q), if_neg (by rw [pp_lt hw (by omega)]; omega)]
      exact ⟨_, _, _, rfl, rfl, hrel⟩
    · rw [if_neg (by rw [pp_le (by omega) hw]; exact q), if_pos (by rw [pp_lt hw (by omega)]; omega)]
      obtain ⟨p', h1, h2, h3, h4, h5⟩ := way_walk (w := w) hW hX' hY' f3 hn f4 f5 (W.ln p - 1 - w) (W.ln p - 1) p (by omega) hp hr (by omega)
      have sj : nI (W.ln p) - 1 = nI (W.ln p - 1) := pp_sub (b := 1) (by omega)
      unfold f3_throatOnWay
      rw [pp_ld (by omega) (by decide), (f4 p hp).1, xv_t hr, sj, h4, h5, Option.bind_some, Option.bind_some, pp_ld (by omega) (by decide), pp_ld (by omega) (by decide), (f4 p' h1).2.2 h2 (by omega), f5 p' h1, yv_s h2 (by omega)]
      exact ⟨_, _, _, rfl, rfl, hrel⟩
