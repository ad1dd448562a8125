/-! what both sides have in common: the relation, and what keeps its parts -/
theorem RX.kept {K : RK} {M M' : sr_M} (h : RX K M) (e : ∀ q, 1 ≤ q → q ≤ 10 → M'.1 q = M.1 q) : RX K M' := by
  obtain ⟨⟨a1, a2, a3, a4, a5, a6, a7, a8⟩, ⟨m, br, r1, rB, r8, r7, r2⟩, ⟨fa, aa, f1, f2, f3, f4, f5, f6⟩, z1, z2⟩ := h
  have e1 := e 1 (by decide) (by decide)
  have e2 := e 2 (by decide) (by decide)
  have e3 := e 3 (by decide) (by decide)
  have e4 := e 4 (by decide) (by decide)
  have e5 := e 5 (by decide) (by decide)
  have e6 := e 6 (by decide) (by decide)
  have e7 := e 7 (by decide) (by decide)
  have e8 := e 8 (by decide) (by decide)
  have e9 := e 9 (by decide) (by decide)
  have e10 := e 10 (by decide) (by decide)
  refine ⟨⟨?_, ?_, ?_, ?_, ?_, ?_, ?_, ?_⟩, ⟨m, br, ?_, rB, ?_, ?_, ?_⟩, ⟨fa, aa, ?_, f2, f3, f4, ?_, f6⟩, ?_, ?_⟩
  · rw [e1]; exact a1
  · rw [e1]; exact a2
  · rw [e2]; exact a3
  · rw [e3]; exact a4
  · rw [e4]; exact a5
  · rw [e5]; exact a6
  · rw [e6]; exact a7
  · rw [e1]; exact a8
  · rw [e1]; exact r1
  · rw [e8]; exact r8
  · rw [e7]; exact r7
  · rw [e7]; exact r2
  · rw [e9]; exact f1
  · rw [e10]; exact f5
  · rw [e3]; exact z1
  · rw [e6]; exact z2
theorem RY.kept {K : RK} {M M' : sr_M} (h : RY K M) (e0 : M'.1 0 0 = M.1 0 0) (e3 : M'.1 0 3 = M.1 0 3) (e8 : M'.1 0 8 = M.1 0 8) (e : ∀ q, 1 ≤ q → q ≤ 6 → M'.1 q = M.1 q) : RY K M' := by
  obtain ⟨a1, a2, a3, a4, a5, a6, a7, a8, a9⟩ := h
  refine ⟨e0.trans a1, e3.trans a2, ?_, ?_, ?_, ?_, ?_, ?_, e8.trans a9⟩
  · rw [e 1 (by decide) (by decide)]; exact a3
  · rw [e 2 (by decide) (by decide)]; exact a4
  · rw [e 3 (by decide) (by decide)]; exact a5
  · rw [e 4 (by decide) (by decide)]; exact a6
  · rw [e 5 (by decide) (by decide)]; exact a7
  · rw [e 6 (by decide) (by decide)]; exact a8
def Told (Mx My : sr_M) : Prop := ∃ m, m ≤ 200 ∧ Mx.1 0 6 = nI m ∧ My.1 0 19 = nI m ∧ ∀ k, k < m → Mx.1 61 k = My.1 15 k ∧ nI 0 ≤ Mx.1 61 k
theorem Told.kept {Mx My Mx' My' : sr_M} (h : Told Mx My) (e0 : Mx'.1 0 6 = Mx.1 0 6) (e1 : Mx'.1 61 = Mx.1 61) (e2 : My'.1 0 19 = My.1 0 19) (e3 : My'.1 15 = My.1 15) : Told Mx' My' := by
  obtain ⟨m, h1, h2, h3, h4⟩ := h
  exact ⟨m, h1, e0.trans h2, e2.trans h3, fun k hk => by rw [e1, e3]; exact h4 k hk⟩
theorem Cores.keep {Mx My Mx' My' : sr_M} (h : Cores Mx My) (e1 : ∀ q, 12 ≤ q → q ≤ 29 → Mx'.1 q = Mx.1 q) (e2 : Mx'.2 = Mx.2) (e7 : My'.1 7 = My.1 7) (e8 : My'.1 8 = My.1 8) (e3 : My'.2 = My.2) : Cores Mx' My' := fun c hc =>
  (h c hc).kept (fun j => by rw [e1 _ (by omega) (by omega)]) (fun j => by rw [e2]) (fun j => by rw [e1 _ (by omega) (by omega)]) (by rw [e7]) (by rw [e8]) (fun i hi => by rw [e3]) (fun i hi => by rw [e3])
/-- all but the run -/
def Rest (K : RK) (Mx My : sr_M) : Prop := WF K ∧ RX K Mx ∧ RY K My ∧ Cores Mx My ∧ Told Mx My
theorem Rest.keep {K : RK} {Mx My Mx' My' : sr_M} (h : Rest K Mx My) (ex : ∀ q, 1 ≤ q → q ≤ 29 → Mx'.1 q = Mx.1 q) (ex2 : Mx'.2 = Mx.2) (ex0 : Mx'.1 0 6 = Mx.1 0 6) (ex61 : Mx'.1 61 = Mx.1 61) (ey : ∀ q, 1 ≤ q → q ≤ 8 → My'.1 q = My.1 q) (ey2 : My'.2 = My.2) (ey0 : ∀ j, j = 0 ∨ j = 3 ∨ j = 8 ∨ j = 19 → My'.1 0 j = My.1 0 j) (ey15 : My'.1 15 = My.1 15) : Rest K Mx' My' := by
  obtain ⟨h1, h2, h3, h4, h5⟩ := h
  exact ⟨h1, h2.kept (fun q a b => ex q a (by omega)), h3.kept (ey0 0 (by omega)) (ey0 3 (by omega)) (ey0 8 (by omega)) (fun q a b => ey q a (by omega)), h4.keep (fun q a b => ex q (by omega) b) ex2 (ey 7 (by decide) (by decide)) (ey 8 (by decide) (by decide)) ey2, h5.kept ex0 ex61 (ey0 19 (by omega)) ey15⟩
theorem hasP {K : RK} {Mx My : sr_M} (hW : WF K) (hx : Mx.1 1 0 = nI K.n) (hy : My.1 0 0 = nI K.n) (a : Int32) : (∃ p, p < K.n ∧ a = nI p ∧ f2_hasPore a Mx = some (nI 1) ∧ f5_isPore a My = some (nI 1)) ∨ ((a < nI 0 ∨ nI K.n ≤ a) ∧ f2_hasPore a Mx = some (nI 0) ∧ f5_isPore a My = some (nI 0)) := by
  have hn := hW.1
  unfold f2_hasPore f5_isPore
  simp only [sr_bnd, hx, hy]
  rcases rng a K.n (by omega) with ⟨j, hj, e, h⟩ | ⟨q, h⟩
  · exact Or.inl ⟨j, hj, e, h, h⟩
  · exact Or.inr ⟨q, h, h⟩
theorem hasT {K : RK} {Mx My : sr_M} (hW : WF K) (hx : Mx.1 1 3 = nI K.T) (hy : My.1 0 3 = nI K.T) (a : Int32) : (∃ t, t < K.T ∧ a = nI t ∧ f2_hasThroat a Mx = some (nI 1) ∧ f5_isThroat a My = some (nI 1)) ∨ ((a < nI 0 ∨ nI K.T ≤ a) ∧ f2_hasThroat a Mx = some (nI 0) ∧ f5_isThroat a My = some (nI 0)) := by
  have hn := hW.2.1
  unfold f2_hasThroat f5_isThroat
  simp only [sr_bnd, hx, hy]
  rcases rng a K.T (by omega) with ⟨j, hj, e, h⟩ | ⟨q, h⟩
  · exact Or.inl ⟨j, hj, e, h, h⟩
  · exact Or.inr ⟨q, h, h⟩
/-- a call answers alike, and is refused (nothing changed) or ends the run -/
def Ends (K : RK) (fx fy : sr_M → Option (Int32 × sr_M)) (Mx My : sr_M) : Prop := ∃ r, (fx Mx = some (r, Mx) ∧ fy My = some (r, My)) ∨ ∃ K' Mx' My', fx Mx = some (r, Mx') ∧ fy My = some (r, My') ∧ Rest K' Mx' My' ∧ Mx'.1 30 1 = 0 ∧ My'.1 0 13 = 0
theorem op_pore {K : RK} {Mx My : sr_M} (h : Rest K Mx My) (a : Int32) : Ends K (f4_pore a) (f5_pore a) Mx My := by
  obtain ⟨hW, hX, hY, hC, hT⟩ := h
  have xn := hX.1.1
  have yn := hY.1
  have hn := hW.1
  unfold Ends f4_pore f5_pore
  simp (disch := omega) only [xn, yn, ↓reduceIte, sr_bnd, sr_put, Option.bind_some, pp_bd2, pp_ld, pp_st, pp_stB, pp_putB, pp_grd, pp_l0, pp_l1, pp_l2, pp_l3, pp_l4, pp_l5, pp_l6, pp_l60, pp_l120, pp_l200, nI_add, pp_sub, pp_dec, pp_le, pp_lt, pp_eq, pp_neg1, pp_neg2, pp_neg3, pp_neg4, pp_neg5, if_pos, if_neg, if_true, if_false, pp_gv, nI_clamp, pp_stJ, pp_stD, pk_mul]
  by_cases a0 : a < nI 0
  · simp only [if_pos a0]
    exact ⟨_, Or.inl ⟨rfl, rfl⟩⟩
  simp only [if_neg a0]
  by_cases a4 : a ≤ nI 4
  case neg =>
    simp only [if_neg a4]
    exact ⟨_, Or.inl ⟨rfl, rfl⟩⟩
  simp only [if_pos a4]
  obtain ⟨k, hk, rfl⟩ := nI_of2 (M := nI 4) (n := 4) (by decide) a0 a4
  by_cases n120 : K.n = 120
  · simp (disch := omega) only [if_pos, if_neg, n120]
    exact ⟨_, Or.inl ⟨rfl, rfl⟩⟩
  have hn2 : K.n < 120 := by omega
  simp (disch := first | omega | decide) only [if_pos, if_neg, ↓reduceIte, sr_bnd, sr_put, Option.bind_some, pp_bd2, pp_ld, pp_st, pp_stB, pp_putB, pp_grd, pp_l0, pp_l1, pp_l2, pp_l3, pp_l4, pp_l5, pp_l6, pp_l60, pp_l120, pp_l200, nI_add, pp_sub, pp_dec, pp_le, pp_lt, pp_eq, pp_neg1, pp_neg2, pp_neg3, pp_neg4, pp_neg5, if_pos, if_neg, if_true, if_false, pp_gv, nI_clamp, pp_stJ, pp_stD, pk_mul, pp_wI1, pp_wI2, pp_wI3, yn, Nat.add_sub_cancel]
  have hX0 : RX K (sr_wI Mx 30 1 (nI 0)) := hX.kept (fun q _ _ => by rw [pp_wI1 (by omega)])
  obtain ⟨⟨r, Mx'⟩, ex, x1, x2, x3, x4⟩ := XaddPore hW hX0 hk hn2
  dsimp only at x1 x2 x3 x4
  subst x1
  rw [ex]
  refine ⟨nI K.n, Or.inr ⟨K.addP k, Mx', _, by simp only [pp_bd2], rfl, ⟨hW.addP hk hn2, x4, ?_, ?_, ?_⟩, ?_, ?_⟩⟩
  · obtain ⟨a1, a2, a3, a4', a5, a6, a7, a8, a9⟩ := hY
    refine ⟨?_, ?_, fun p hp => ?_, fun p hp => ?_, fun t ht => ?_, fun t ht => ?_, fun t ht => ?_, fun t ht => ?_, ?_⟩
    · simp (disch := omega) only [pp_wI1, pp_wI2, pp_wI3]; rfl
    · simp (disch := omega) only [pp_wI1, pp_wI2, pp_wI3]; exact a2
    · have hp : p < K.n + 1 := hp
      show _ = nI (va_up K.kd K.n k p)
      by_cases e : p = K.n
      · subst e
        rw [va_up_s]
        simp (disch := omega) only [pp_wI1, pp_wI2, pp_wI3]
      · rw [va_up_n e]
        simp (disch := omega) only [pp_wI1, pp_wI2, pp_wI3]
        exact a3 p (by omega)
    · have hp : p < K.n + 1 := hp
      show _ = pp_bI (va_up K.il K.n false p)
      by_cases e : p = K.n
      · subst e
        rw [va_up_s]
        simp (disch := omega) only [pp_wI1, pp_wI2, pp_wI3]
        rfl
      · rw [va_up_n e]
        simp (disch := omega) only [pp_wI1, pp_wI2, pp_wI3]
        exact a4' p (by omega)
    · simp (disch := omega) only [pp_wI1, pp_wI2, pp_wI3]; exact a5 t ht
    · simp (disch := omega) only [pp_wI1, pp_wI2, pp_wI3]; exact a6 t ht
    · simp (disch := omega) only [pp_wI1, pp_wI2, pp_wI3]; exact a7 t ht
    · simp (disch := omega) only [pp_wI1, pp_wI2, pp_wI3]; exact a8 t ht
    · simp (disch := omega) only [pp_wI1, pp_wI2, pp_wI3]; exact a9
  · refine hC.keep (fun q hq hq2 => ?_) x2 ?_ ?_ rfl
    · rw [x3 q (by omega), pp_wI1 (by omega)]
    · simp (disch := omega) only [pp_wI1, pp_wI2, pp_wI3]
    · simp (disch := omega) only [pp_wI1, pp_wI2, pp_wI3]
  · refine hT.kept ?_ ?_ ?_ ?_
    · rw [x3 0 (by omega), pp_wI1 (by omega)]
    · rw [x3 61 (by omega), pp_wI1 (by omega)]
    · simp (disch := omega) only [pp_wI1, pp_wI2, pp_wI3]
    · simp (disch := omega) only [pp_wI1, pp_wI2, pp_wI3]
  · rw [x3 30 (by omega), pp_wI2]
  · simp (disch := omega) only [pp_wI1, pp_wI2, pp_wI3]
