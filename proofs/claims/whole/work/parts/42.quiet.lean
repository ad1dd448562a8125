theorem bI_t {b : Bool} : (if pp_bI b = nI 0 then some (nI 0) else some (nI 1) : Option Int32) = some (pp_bI b) := by
  cases b <;> decide
theorem op_about {K : RK} {Mx My : sr_M} (h : Rest K Mx My) (a w : Int32) : ∃ r, f4_about a w Mx = some r ∧ f5_about a w My = some r := by
  obtain ⟨hW, hX, hY, hC, hT⟩ := h
  have xt := hX.1.2.1
  have yt := hY.2.1
  have hTT := hW.2.1
  unfold f4_about f5_about
  rcases hasT hW xt yt a with ⟨t, ht, rfl, e1, e2⟩ | ⟨-, e1, e2⟩
  case inr =>
    rw [e1, e2]
    exact ⟨_, rfl, rfl⟩
  obtain ⟨a1, a2, a3, a4, a5, a6, a7, a8⟩ := hX.1
  obtain ⟨b1, b2, b3, b4, b5, b6, b7, b8, b9⟩ := hY
  obtain ⟨m, br, hr⟩ := hX.2.1
  have rk := hr.rank ht
  have hY : RY K My := ⟨b1, b2, b3, b4, b5, b6, b7, b8, b9⟩
  simp (disch := omega) only [e1, e2, ↓reduceIte, sr_bnd, sr_put, Option.bind_some, pp_bd2, pp_ld, pp_st, pp_stB, pp_putB, pp_grd, pp_l0, pp_l1, pp_l2, pp_l3, pp_l4, pp_l5, pp_l6, pp_l60, pp_l120, pp_l200, nI_add, pp_sub, pp_dec, pp_le, pp_lt, pp_eq, pp_neg1, pp_neg2, pp_neg3, pp_neg4, pp_neg5, if_pos, if_neg, if_true, if_false, pp_gv, nI_clamp, pp_stJ, pp_stD, pk_mul, a5 t ht, a6 t ht, a7 t ht, b5 t ht, b6 t ht, b7 t ht, b8 t ht, Xopen hW hr ht, Yrank hW hY ht, rk]
  by_cases w0 : w = nI 0
  · subst w0; simp (disch := omega) only [pp_eq, if_pos, if_neg, if_true, if_false]; exact ⟨_, rfl, rfl⟩
  by_cases w1 : w = nI 1
  · subst w1; simp (disch := omega) only [pp_eq, if_pos, if_neg, if_true, if_false]; exact ⟨_, rfl, rfl⟩
  by_cases w2 : w = nI 2
  · subst w2; simp (disch := omega) only [pp_eq, if_pos, if_neg, if_true, if_false]; exact ⟨_, rfl, rfl⟩
  by_cases w3 : w = nI 3
  · subst w3; simp (disch := omega) only [pp_eq, if_pos, if_neg, if_true, if_false]
    cases K.op t
    · exact ⟨nI 0, by decide, by decide⟩
    · exact ⟨nI 1, by decide, by decide⟩
  by_cases w4 : w = nI 4
  · subst w4; simp (disch := omega) only [pp_eq, if_pos, if_neg, if_true, if_false]
    cases ho : K.op t
    · refine ⟨-nI 2, ?_, ?_⟩
      · simp only [Bool.false_eq_true, if_false] <;> rfl
      · rw [if_neg (by decide)]
    · refine ⟨nI (K.rk t), ?_, ?_⟩
      · simp only [if_true]
      · rw [if_pos (by decide)]
  · simp only [w0, w1, w2, w3, w4, if_false]
    exact ⟨_, rfl, rfl⟩
theorem Yof {K : RK} {M : sr_M} (hW : WF K) (h : RY K M) {p : Nat} (hp : p < K.n) : sr_lp (fun z2 : Int32 × Int32 => f5_of_L15 (nI p) M z2.1 z2.2) (nI 0, nI 0) = some (nI (K.deg p)) := by
  have hn := hW.1
  have hT := hW.2.1
  have hE := hW.2.2.1
  obtain ⟨b1, b2, b3, b4, b5, b6, b7, b8, b9⟩ := h
  have key : sr_wp (sr_lp (fun z2 : Int32 × Int32 => f5_of_L15 (nI p) M z2.1 z2.2) (nI 0, nI 0)) (fun r => r = nI (K.deg p)) := by
    refine wp_for (fun i (_ : Unit) => (nI (cn_ (K.inc p) i), nI i)) K.T (fun _ _ => True) ?_ ?_ 0 () (Nat.zero_le _) trivial
    · intro i _ hi _
      have l : cn_ (K.inc p) i ≤ i := cn_le
      have e := hE i hi
      unfold f5_of_L15
      simp (disch := omega) only [sr_bnd, sr_put, sr_jn, Option.bind_some, pp_bd2, pp_ld, pp_st, pp_stB, pp_putB, pp_grd, pp_l0, pp_l1, pp_l2, pp_l3, pp_l4, pp_l5, pp_l6, pp_l60, pp_l120, pp_l200, nI_add, pp_sub, pp_dec, pp_le, pp_lt, pp_eq, pp_neg1, pp_neg2, pp_neg3, pp_neg4, pp_neg5, if_pos, if_neg, if_true, if_false, b2, b5 i hi, b6 i hi]
      have ei : K.inc p i = (decide (K.e1 i = p) || decide (K.e2 i = p)) := rfl
      by_cases q1 : K.e1 i = p
      · rw [if_pos q1, wp_on]
        exact ⟨(), by simp [cn_, ei, q1], trivial⟩
      · rw [if_neg q1]
        by_cases q2 : K.e2 i = p
        · rw [if_pos q2, wp_on]
          exact ⟨(), by simp [cn_, ei, q2], trivial⟩
        · rw [if_neg q2, wp_on]
          exact ⟨(), by simp [cn_, ei, q1, q2], trivial⟩
    · intro _ _
      unfold f5_of_L15
      simp (disch := omega) only [sr_bnd, sr_put, sr_jn, Option.bind_some, pp_bd2, pp_ld, pp_st, pp_stB, pp_putB, pp_grd, pp_l0, pp_l1, pp_l2, pp_l3, pp_l4, pp_l5, pp_l6, pp_l60, pp_l120, pp_l200, nI_add, pp_sub, pp_dec, pp_le, pp_lt, pp_eq, pp_neg1, pp_neg2, pp_neg3, pp_neg4, pp_neg5, if_pos, if_neg, if_true, if_false, b2, wp_out, Nat.le_refl]
      rfl
  obtain ⟨r, e, rfl⟩ := key
  exact e
theorem op_of {K : RK} {Mx My : sr_M} (h : Rest K Mx My) (a w : Int32) : ∃ r, f4_of a w Mx = some r ∧ f5_of a w My = some r := by
  obtain ⟨hW, hX, hY, hC, hT⟩ := h
  have xn := hX.1.1
  have yn := hY.1
  have hn := hW.1
  unfold f4_of f5_of
  rcases hasP hW xn yn a with ⟨p, hp, rfl, e1, e2⟩ | ⟨-, e1, e2⟩
  case inr =>
    rw [e1, e2]
    exact ⟨_, rfl, rfl⟩
  have ey := Yof hW hY hp
  obtain ⟨a1, a2, a3, a4, a5, a6, a7, a8⟩ := hX.1
  obtain ⟨b1, b2, b3, b4, b5, b6, b7, b8, b9⟩ := hY
  obtain ⟨fa, aa, f1, f2, f3, f4, f5, f6⟩ := hX.2.2.1
  simp (disch := omega) only [e1, e2, ↓reduceIte, sr_bnd, sr_put, Option.bind_some, pp_bd2, pp_ld, pp_st, pp_stB, pp_putB, pp_grd, pp_l0, pp_l1, pp_l2, pp_l3, pp_l4, pp_l5, pp_l6, pp_l60, pp_l120, pp_l200, nI_add, pp_sub, pp_dec, pp_le, pp_lt, pp_eq, pp_neg1, pp_neg2, pp_neg3, pp_neg4, pp_neg5, if_pos, if_neg, if_true, if_false, pp_gv, nI_clamp, pp_stJ, pp_stD, pk_mul, a3 p hp, a4 p hp, b3 p hp, b4 p hp, f1 p (by omega), f1 (p + 1) (by omega), ey]
  by_cases w0 : w = nI 0
  · subst w0; simp (disch := omega) only [pp_eq, if_pos, if_neg, if_true, if_false]; exact ⟨_, rfl, rfl⟩
  by_cases w1 : w = nI 1
  · subst w1; simp (disch := omega) only [pp_eq, if_pos, if_neg, if_true, if_false, bI_t]; exact ⟨_, rfl, rfl⟩
  by_cases w2 : w = nI 2
  · subst w2; simp (disch := omega) only [pp_eq, if_pos, if_neg, if_true, if_false, f3 p hp]
    refine ⟨nI (K.deg p), ?_, rfl⟩
    rw [pp_sub (by omega), Nat.add_sub_cancel_left]
  · simp only [w0, w1, w2, if_false]
    exact ⟨_, rfl, rfl⟩
/-- the reference's ranked, by the order br -/
theorem Yranked {K : RK} {M : sr_M} {m : Nat} {br : Nat → Nat} (hW : WF K) (h : RY K M) (hB : Br K.T K.op K.hd m br) (a : Int32) :
    (∀ r, r < m → a = nI r → f5_ranked a M = some (nI (br r))) ∧ ((∀ r, r < m → a ≠ nI r) → f5_ranked a M = some (-nI 1)) := by
  have hT := hW.2.1
  have b6 := h.2.2.2.2.2.2.2.1
  have step : ∀ i, i < K.T → f5_ranked_L2 a M (nI i) = if K.op i = true ∧ nI (K.rk i) = a then some (.inr (.inr (nI i))) else some (.inl (nI (i + 1))) := by
    intro i hi
    unfold f5_ranked_L2
    simp (disch := omega) only [↓reduceIte, sr_bnd, sr_put, Option.bind_some, pp_bd2, pp_ld, pp_st, pp_stB, pp_putB, pp_grd, pp_l0, pp_l1, pp_l2, pp_l3, pp_l4, pp_l5, pp_l6, pp_l60, pp_l120, pp_l200, nI_add, pp_sub, pp_dec, pp_le, pp_lt, pp_eq, pp_neg1, pp_neg2, pp_neg3, pp_neg4, pp_neg5, if_pos, if_neg, if_true, if_false, pp_gv, nI_clamp, pp_stJ, pp_stD, pk_mul, h.2.1, b6 i hi, Yrank hW h hi]
    cases ho : K.op i
    · rw [if_neg (by decide), if_neg (by simp)]
    · rw [if_pos (by decide)]
      by_cases q : nI (K.rk i) = a
      · rw [if_pos q, if_pos ⟨rfl, q⟩]
      · rw [if_neg q, if_neg (fun z => q z.2)]
  constructor
  · rintro r hr rfl
    have hb := hB.1 r hr
    have key : sr_wp (sr_lp (fun z1 : Int32 => f5_ranked_L2 (nI r) M z1) (nI 0)) (fun x => x = .inr (nI (br r))) := by
      refine wp_for (fun i (_ : Unit) => nI i) (br r) (fun _ _ => True) ?_ ?_ 0 () (Nat.zero_le _) trivial
      · intro i _ hi _
        rw [step i (by omega)]
        by_cases q : K.op i = true ∧ nI (K.rk i) = nI r
        · exfalso
          obtain ⟨j, hj, rfl⟩ := hB.2.1 i (by omega) q.1
          have e : K.rk (br j) = j := hB.rk hj
          have l := hB.le
          rw [e, pp_eq (by omega) (by omega)] at q
          rw [q.2] at hi
          omega
        · rw [if_neg q, wp_on]
          exact ⟨(), rfl, trivial⟩
      · intro _ _
        have e : K.rk (br r) = r := hB.rk hr
        rw [step _ hb.1, if_pos ⟨hb.2, by rw [e]⟩, wp_out]
    obtain ⟨x, e, rfl⟩ := key
    unfold f5_ranked
    simp only [pp_l0, e, Option.bind_some]
    rfl
  · intro hne
    have key : sr_wp (sr_lp (fun z1 : Int32 => f5_ranked_L2 a M z1) (nI 0)) (fun x => x = .inl ()) := by
      refine wp_for (fun i (_ : Unit) => nI i) K.T (fun _ _ => True) ?_ ?_ 0 () (Nat.zero_le _) trivial
      · intro i _ hi _
        rw [step i hi, if_neg, wp_on]
        · exact ⟨(), rfl, trivial⟩
        · rintro ⟨q1, q2⟩
          obtain ⟨j, hj, rfl⟩ := hB.2.1 i hi q1
          have e : K.rk (br j) = j := hB.rk hj
          rw [e] at q2
          exact hne j hj q2.symm
      · intro _ _
        unfold f5_ranked_L2
        simp (disch := omega) only [↓reduceIte, sr_bnd, sr_put, Option.bind_some, pp_bd2, pp_ld, pp_st, pp_stB, pp_putB, pp_grd, pp_l0, pp_l1, pp_l2, pp_l3, pp_l4, pp_l5, pp_l6, pp_l60, pp_l120, pp_l200, nI_add, pp_sub, pp_dec, pp_le, pp_lt, pp_eq, pp_neg1, pp_neg2, pp_neg3, pp_neg4, pp_neg5, if_pos, if_neg, if_true, if_false, pp_gv, nI_clamp, pp_stJ, pp_stD, pk_mul, h.2.1, Nat.le_refl, wp_out]
    obtain ⟨x, e, rfl⟩ := key
    unfold f5_ranked
    simp only [pp_l0, e, Option.bind_some]
    rfl
theorem op_ranked {K : RK} {Mx My : sr_M} (h : Rest K Mx My) (a : Int32) : ∃ r, f4_ranked a Mx = some r ∧ f5_ranked a My = some r := by
  obtain ⟨hW, hX, hY, hC, hT⟩ := h
  have hTT := hW.2.1
  obtain ⟨m, br, r1, rB, r8, r7, r2⟩ := hX.2.1
  have hm := rB.le
  obtain ⟨y1, y2⟩ := Yranked hW hY rB a
  unfold f4_ranked
  simp only [sr_bnd, r1]
  rcases pk_ix a (n := m) (by omega) with q | q | ⟨j, hj, rfl⟩
  · refine ⟨-nI 1, by rw [if_pos q]; rfl, y2 (fun r hr e => ?_)⟩
    rw [e] at q
    exact nI_pos (n := r) (by omega) q
  · refine ⟨-nI 1, ?_, y2 (fun r hr e => ?_)⟩
    · by_cases z : a < 0
      · rw [if_pos z]; rfl
      · rw [if_neg z, if_pos q]; rfl
    · rw [e, pp_le (by omega) (by omega)] at q
      omega
  · refine ⟨nI (br j), ?_, y1 j hj rfl⟩
    simp (disch := omega) only [↓reduceIte, sr_bnd, sr_put, Option.bind_some, pp_bd2, pp_ld, pp_st, pp_stB, pp_putB, pp_grd, pp_l0, pp_l1, pp_l2, pp_l3, pp_l4, pp_l5, pp_l6, pp_l60, pp_l120, pp_l200, nI_add, pp_sub, pp_dec, pp_le, pp_lt, pp_eq, pp_neg1, pp_neg2, pp_neg3, pp_neg4, pp_neg5, if_pos, if_neg, if_true, if_false, pp_gv, nI_clamp, pp_stJ, pp_stD, pk_mul, r8 j hj]
theorem op_claim {K : RK} {Mx My : sr_M} (h : Rest K Mx My) (a : Int32) : ∃ r Mx' My', f4_claim a Mx = some (r, Mx') ∧ f5_claim a My = some (r, My') ∧ Rest K Mx' My' ∧ (∀ q, 30 ≤ q → q ≤ 42 → Mx'.1 q = Mx.1 q) ∧ (∀ q, q ≠ 0 → q ≠ 15 → My'.1 q = My.1 q) ∧ ∀ j, j ≠ 19 → My'.1 0 j = My.1 0 j := by
  have hR := h
  obtain ⟨hW, hX, hY, hC, hT⟩ := h
  have xt := hX.1.2.1
  have yt := hY.2.1
  have hTT := hW.2.1
  obtain ⟨m, m200, t1, t2, t3⟩ := hT
  unfold f4_claim f5_claim
  rcases hasT hW xt yt a with ⟨t, ht, rfl, e1, e2⟩ | ⟨-, e1, e2⟩
  case inr =>
    rw [e1, e2]
    exact ⟨_, _, _, rfl, rfl, hR, fun _ _ _ => rfl, fun _ _ _ => rfl, fun _ _ => rfl⟩
  simp (disch := omega) only [e1, e2, ↓reduceIte, sr_bnd, sr_put, Option.bind_some, pp_bd2, pp_ld, pp_st, pp_stB, pp_putB, pp_grd, pp_l0, pp_l1, pp_l2, pp_l3, pp_l4, pp_l5, pp_l6, pp_l60, pp_l120, pp_l200, nI_add, pp_sub, pp_dec, pp_le, pp_lt, pp_eq, pp_neg1, pp_neg2, pp_neg3, pp_neg4, pp_neg5, if_pos, if_neg, if_true, if_false, pp_gv, nI_clamp, pp_stJ, pp_stD, pk_mul, t1, t2]
  by_cases q : m = 200
  · simp (disch := omega) only [q, ↓reduceIte, sr_bnd, sr_put, Option.bind_some, pp_bd2, pp_ld, pp_st, pp_stB, pp_putB, pp_grd, pp_l0, pp_l1, pp_l2, pp_l3, pp_l4, pp_l5, pp_l6, pp_l60, pp_l120, pp_l200, nI_add, pp_sub, pp_dec, pp_le, pp_lt, pp_eq, pp_neg1, pp_neg2, pp_neg3, pp_neg4, pp_neg5, if_pos, if_neg, if_true, if_false, pp_gv, nI_clamp, pp_stJ, pp_stD, pk_mul]
    exact ⟨_, _, _, rfl, rfl, hR, fun _ _ _ => rfl, fun _ _ _ => rfl, fun _ _ => rfl⟩
  simp (disch := omega) only [if_pos, if_neg, ↓reduceIte, sr_bnd, sr_put, Option.bind_some, pp_bd2, pp_ld, pp_st, pp_stB, pp_putB, pp_grd, pp_l0, pp_l1, pp_l2, pp_l3, pp_l4, pp_l5, pp_l6, pp_l60, pp_l120, pp_l200, nI_add, pp_sub, pp_dec, pp_le, pp_lt, pp_eq, pp_neg1, pp_neg2, pp_neg3, pp_neg4, pp_neg5, if_pos, if_neg, if_true, if_false, pp_gv, nI_clamp, pp_stJ, pp_stD, pk_mul, pp_wI1, pp_wI2, pp_wI3, t1, t2]
  refine ⟨_, _, _, rfl, rfl, ⟨hW, hX.kept (fun q h1 h2 => by rw [pp_wI1 (by omega), pp_wI1 (by omega)]), hY.kept ?_ ?_ ?_ (fun q h1 h2 => ?_), hC.keep (fun q h1 h2 => by rw [pp_wI1 (by omega), pp_wI1 (by omega)]) rfl ?_ ?_ rfl, m + 1, by omega, pp_wI2, pp_wI2, fun k hk => ?_⟩, fun q h1 h2 => by rw [pp_wI1 (by omega), pp_wI1 (by omega)], fun q h1 h2 => ?_, fun j hj => ?_⟩
  all_goals try simp (disch := omega) only [pp_wI1, pp_wI2, pp_wI3]
  by_cases e : k = m
  · rw [e, pp_wI2, pp_wI2]
    exact ⟨rfl, by rw [pp_le (by omega) (by omega)]; exact Nat.zero_le _⟩
  · rw [pp_wI3 e, pp_wI3 e]
    exact t3 k (by omega)
theorem op_alter {K : RK} {Mx My : sr_M} (h : Rest K Mx My) (a b : Int32) : ∃ r Mx' My', f4_alter a b Mx = some (r, Mx') ∧ f5_alter a b My = some (r, My') ∧ Rest K Mx' My' ∧ (∀ q, 30 ≤ q → q ≤ 42 → Mx'.1 q = Mx.1 q) ∧ (∀ q, q ≠ 0 → q ≠ 15 → My'.1 q = My.1 q) ∧ ∀ j, j ≠ 19 → My'.1 0 j = My.1 0 j := by
  have hR := h
  obtain ⟨hW, hX, hY, hC, hT⟩ := h
  have xt := hX.1.2.1
  have yt := hY.2.1
  have hTT := hW.2.1
  obtain ⟨m, m200, t1, t2, t3⟩ := hT
  unfold f4_alter f5_alter
  simp only [sr_bnd, t1, t2]
  by_cases a0 : a < 0
  · simp only [if_pos a0]
    exact ⟨_, _, _, rfl, rfl, hR, fun _ _ _ => rfl, fun _ _ _ => rfl, fun _ _ => rfl⟩
  simp only [if_neg a0]
  by_cases am : nI m ≤ a
  · simp only [if_pos am]
    exact ⟨_, _, _, rfl, rfl, hR, fun _ _ _ => rfl, fun _ _ _ => rfl, fun _ _ => rfl⟩
  simp only [if_neg am]
  rcases pk_ix a (n := m) (by omega) with q | q | ⟨k, hk, rfl⟩
  · exact absurd q a0
  · exact absurd q am
  rcases hasT hW xt yt b with ⟨t, ht, rfl, e1, e2⟩ | ⟨-, e1, e2⟩
  case inr =>
    rw [e1, e2]
    exact ⟨_, _, _, rfl, rfl, hR, fun _ _ _ => rfl, fun _ _ _ => rfl, fun _ _ => rfl⟩
  simp (disch := omega) only [e1, e2, ↓reduceIte, sr_bnd, sr_put, Option.bind_some, pp_bd2, pp_ld, pp_st, pp_stB, pp_putB, pp_grd, pp_l0, pp_l1, pp_l2, pp_l3, pp_l4, pp_l5, pp_l6, pp_l60, pp_l120, pp_l200, nI_add, pp_sub, pp_dec, pp_le, pp_lt, pp_eq, pp_neg1, pp_neg2, pp_neg3, pp_neg4, pp_neg5, if_pos, if_neg, if_true, if_false, pp_gv, nI_clamp, pp_stJ, pp_stD, pk_mul]
  refine ⟨_, _, _, rfl, rfl, ⟨hW, hX.kept (fun q h1 h2 => by rw [pp_wI1 (by omega)]), hY.kept ?_ ?_ ?_ (fun q h1 h2 => ?_), hC.keep (fun q h1 h2 => by rw [pp_wI1 (by omega)]) rfl ?_ ?_ rfl, m, by omega, ?_, ?_, fun i hi => ?_⟩, fun q h1 h2 => by rw [pp_wI1 (by omega)], fun q h1 h2 => ?_, fun j hj => ?_⟩
  · simp (disch := omega) only [pp_wI1, pp_wI2, pp_wI3]
  · simp (disch := omega) only [pp_wI1, pp_wI2, pp_wI3]
  · simp (disch := omega) only [pp_wI1, pp_wI2, pp_wI3]
  · simp (disch := omega) only [pp_wI1, pp_wI2, pp_wI3]
  · simp (disch := omega) only [pp_wI1, pp_wI2, pp_wI3]
  · simp (disch := omega) only [pp_wI1, pp_wI2, pp_wI3]
  · simp (disch := omega) only [pp_wI1, pp_wI2, pp_wI3]; exact t1
  · simp (disch := omega) only [pp_wI1, pp_wI2, pp_wI3]; exact t2
  · by_cases e : i = k
    · rw [e, pp_wI2, pp_wI2]
      exact ⟨rfl, by rw [pp_le (by omega) (by omega)]; exact Nat.zero_le _⟩
    · rw [pp_wI3 e, pp_wI3 e]
      exact t3 i hi
  · simp (disch := omega) only [pp_wI1, pp_wI2, pp_wI3]
  · simp (disch := omega) only [pp_wI1, pp_wI2, pp_wI3]
theorem op_unclaim {K : RK} {Mx My : sr_M} (h : Rest K Mx My) : ∃ r Mx' My', f4_unclaim Mx = some (r, Mx') ∧ f5_unclaim My = some (r, My') ∧ Rest K Mx' My' ∧ (∀ q, 30 ≤ q → q ≤ 42 → Mx'.1 q = Mx.1 q) ∧ (∀ q, q ≠ 0 → q ≠ 15 → My'.1 q = My.1 q) ∧ ∀ j, j ≠ 19 → My'.1 0 j = My.1 0 j := by
  have hR := h
  obtain ⟨hW, hX, hY, hC, hT⟩ := h
  obtain ⟨m, m200, t1, t2, t3⟩ := hT
  unfold f4_unclaim f5_unclaim
  simp only [sr_bnd, sr_put, t1, t2]
  refine ⟨_, _, _, rfl, rfl, ⟨hW, hX.kept (fun q h1 h2 => by rw [pp_wI1 (by omega)]), hY.kept ?_ ?_ ?_ (fun q h1 h2 => ?_), hC.keep (fun q h1 h2 => by rw [pp_wI1 (by omega)]) rfl ?_ ?_ rfl, 0, by omega, pp_wI2, pp_wI2, fun i hi => absurd hi (Nat.not_lt_zero _)⟩, fun q h1 h2 => by rw [pp_wI1 (by omega)], fun q h1 h2 => ?_, fun j hj => ?_⟩
  all_goals simp (disch := omega) only [pp_wI1, pp_wI2, pp_wI3]
