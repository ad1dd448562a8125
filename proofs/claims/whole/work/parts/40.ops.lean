theorem op_throat {K : RK} {Mx My : sr_M} (h : Rest K Mx My) (a b : Int32) : Ends K (f4_throat a b) (f5_throat a b) Mx My := by
  obtain ⟨hW, hX, hY, hC, hT⟩ := h
  have xn := hX.1.1
  have yn := hY.1
  have xt := hX.1.2.1
  have yt := hY.2.1
  have hn := hW.1
  have hTT := hW.2.1
  unfold Ends f4_throat f5_throat
  rcases hasP hW xn yn a with ⟨p, hp, rfl, e1, e2⟩ | ⟨-, e1, e2⟩
  case inr =>
    rw [e1, e2]
    exact ⟨_, Or.inl ⟨rfl, rfl⟩⟩
  rcases hasP hW xn yn b with ⟨q, hq, rfl, e3, e4⟩ | ⟨-, e3, e4⟩
  case inr =>
    simp (disch := omega) only [e1, e2, e3, e4, ↓reduceIte, sr_bnd, sr_put, Option.bind_some, pp_bd2, pp_ld, pp_st, pp_stB, pp_putB, pp_grd, pp_l0, pp_l1, pp_l2, pp_l3, pp_l4, pp_l5, pp_l6, pp_l60, pp_l120, pp_l200, nI_add, pp_sub, pp_dec, pp_le, pp_lt, pp_eq, pp_neg1, pp_neg2, pp_neg3, pp_neg4, pp_neg5, if_pos, if_neg, if_true, if_false, pp_gv, nI_clamp, pp_stJ, pp_stD, pk_mul]
    exact ⟨_, Or.inl ⟨rfl, rfl⟩⟩
  simp (disch := omega) only [e1, e2, e3, e4, ↓reduceIte, sr_bnd, sr_put, Option.bind_some, pp_bd2, pp_ld, pp_st, pp_stB, pp_putB, pp_grd, pp_l0, pp_l1, pp_l2, pp_l3, pp_l4, pp_l5, pp_l6, pp_l60, pp_l120, pp_l200, nI_add, pp_sub, pp_dec, pp_le, pp_lt, pp_eq, pp_neg1, pp_neg2, pp_neg3, pp_neg4, pp_neg5, if_pos, if_neg, if_true, if_false, pp_gv, nI_clamp, pp_stJ, pp_stD, pk_mul, xt, yt, pp_l300]
  by_cases epq : p = q
  · simp only [epq, if_true]
    exact ⟨_, Or.inl ⟨rfl, rfl⟩⟩
  by_cases n300 : K.T = 300
  · simp (disch := omega) only [if_pos, if_neg, n300]
    exact ⟨_, Or.inl ⟨rfl, rfl⟩⟩
  have hT2 : K.T < 300 := by omega
  simp (disch := first | omega | decide) only [if_pos, if_neg, ↓reduceIte, sr_bnd, sr_put, Option.bind_some, pp_bd2, pp_ld, pp_st, pp_stB, pp_putB, pp_grd, pp_l0, pp_l1, pp_l2, pp_l3, pp_l4, pp_l5, pp_l6, pp_l60, pp_l120, pp_l200, nI_add, pp_sub, pp_dec, pp_le, pp_lt, pp_eq, pp_neg1, pp_neg2, pp_neg3, pp_neg4, pp_neg5, if_pos, if_neg, if_true, if_false, pp_gv, nI_clamp, pp_stJ, pp_stD, pk_mul, pp_wI1, pp_wI2, pp_wI3, yt, Nat.add_sub_cancel]
  have hX0 : RX K (sr_wI Mx 30 1 (nI 0)) := hX.kept (fun q _ _ => by rw [pp_wI1 (by omega)])
  obtain ⟨⟨r, Mx'⟩, ex, x1, x2, x3, x4⟩ := XaddThroat hW hX0 hp hq epq hT2
  dsimp only at x1 x2 x3 x4
  subst x1
  rw [ex]
  refine ⟨nI K.T, Or.inr ⟨K.addT p q, Mx', _, by simp only [pp_bd2], rfl, ⟨hW.addT hp hq epq hT2, x4, ?_, ?_, ?_⟩, ?_, ?_⟩⟩
  · obtain ⟨a1, a2, a3, a4', a5, a6, a7, a8, a9⟩ := hY
    refine ⟨?_, ?_, fun p' hp' => ?_, fun p' hp' => ?_, fun t ht => ?_, fun t ht => ?_, fun t ht => ?_, fun t ht => ?_, ?_⟩
    · simp (disch := omega) only [pp_wI1, pp_wI2, pp_wI3]; exact a1
    · simp (disch := omega) only [pp_wI1, pp_wI2, pp_wI3]; rfl
    · simp (disch := omega) only [pp_wI1, pp_wI2, pp_wI3]; exact a3 p' hp'
    · simp (disch := omega) only [pp_wI1, pp_wI2, pp_wI3]; exact a4' p' hp'
    · have ht : t < K.T + 1 := ht
      show _ = nI (va_up K.e1 K.T p t)
      by_cases e : t = K.T
      · subst e
        rw [va_up_s]
        simp (disch := omega) only [pp_wI1, pp_wI2, pp_wI3]
      · rw [va_up_n e]
        simp (disch := omega) only [pp_wI1, pp_wI2, pp_wI3]
        exact a5 t (by omega)
    · have ht : t < K.T + 1 := ht
      show _ = nI (va_up K.e2 K.T q t)
      by_cases e : t = K.T
      · subst e
        rw [va_up_s]
        simp (disch := omega) only [pp_wI1, pp_wI2, pp_wI3]
      · rw [va_up_n e]
        simp (disch := omega) only [pp_wI1, pp_wI2, pp_wI3]
        exact a6 t (by omega)
    · have ht : t < K.T + 1 := ht
      show _ = nI (va_up K.hd K.T 0 t)
      by_cases e : t = K.T
      · subst e
        rw [va_up_s]
        simp (disch := omega) only [pp_wI1, pp_wI2, pp_wI3]
      · rw [va_up_n e]
        simp (disch := omega) only [pp_wI1, pp_wI2, pp_wI3]
        exact a7 t (by omega)
    · have ht : t < K.T + 1 := ht
      show _ = pp_bI (!va_up K.op K.T true t)
      by_cases e : t = K.T
      · subst e
        rw [va_up_s]
        simp (disch := omega) only [pp_wI1, pp_wI2, pp_wI3]
        rfl
      · rw [va_up_n e]
        simp (disch := omega) only [pp_wI1, pp_wI2, pp_wI3]
        exact a8 t (by omega)
    · simp (disch := omega) only [pp_wI1, pp_wI2, pp_wI3]; exact a9
  · refine hC.keep (fun q hq hq2 => ?_) x2 ?_ ?_ rfl
    · rw [x3 q (by omega), pp_wI1 (by omega)]
    · simp (disch := omega) only [pp_wI1, pp_wI2, pp_wI3]
    · simp (disch := omega) only [pp_wI1, pp_wI2, pp_wI3]
  · refine hT.kept ?_ ?_ ?_ ?_
    · rw [x3 0 (by omega), pp_wI1 (by omega)]
    · rw [x3 61 (by omega), pp_wI1 (by omega)]
    · simp (disch := omega) only [pp_wI1, pp_wI2, pp_wI3]
    · simp (disch := omega) only [pp_wI1, pp_wI2, pp_wI3]
  · rw [x3 30 (by omega), pp_wI2]
  · simp (disch := omega) only [pp_wI1, pp_wI2, pp_wI3]
/-- settle, as both sides see it -/
theorem RXa.set {K : RK} {M M' : sr_M} {t v : Nat} {b : Bool} {fa aa : Nat → Nat} (h : RXa K M fa aa) (e9 : M'.1 9 = M.1 9) (e10 : M'.1 10 = M.1 10) : RXa (K.set t v b) M' fa aa := by
  obtain ⟨f1, f2, f3, f4, f5, f6⟩ := h
  exact ⟨fun p hp => by rw [e9]; exact f1 p hp, f2, f3, f4, fun i hi => by rw [e10]; exact f5 i hi, f6⟩
theorem RX_settle {K : RK} {M : sr_M} (hW : WF K) (hX : RX K M) {t v : Nat} (ht : t < K.T) (hv : v ≤ 1000000000) (b : Bool) : sr_wp (f2_settle (nI t) (nI v) (pp_bI b) M) (fun M' => M'.2 = M.2 ∧ (∀ q, q = 0 ∨ 10 < q → M'.1 q = M.1 q) ∧ RX (K.set t v b) M') := by
  obtain ⟨hc, ⟨m, br, hr⟩, ⟨fa, aa, ha⟩, z1, z2⟩ := hX
  refine wp_mono (Xsettle hW hc hr ht hv b) ?_
  rintro M' ⟨⟨f1, f2, f3⟩, f6, c', m', br', r'⟩
  refine ⟨f1, fun q hq => f2 q (by omega) (by omega) (by omega) (by omega), c', ⟨m', br', r'⟩, ⟨fa, aa, ha.set (f2 9 (by decide) (by decide) (by decide) (by decide)) (f2 10 (by decide) (by decide) (by decide) (by decide))⟩, fun p hp hp2 => ?_, fun u hu hu2 => ?_⟩
  · rw [f2 3 (by decide) (by decide) (by decide) (by decide)]
    exact z1 p hp hp2
  · rw [f6 u (by have : K.T ≤ u := hu; omega)]
    exact z2 u hu hu2
theorem RY.setv {K : RK} {M M' : sr_M} (h : RY K M) {t v : Nat} {b : Bool} (e0 : M'.1 0 0 = M.1 0 0) (e3 : M'.1 0 3 = M.1 0 3) (e8 : M'.1 0 8 = M.1 0 8) (e : ∀ q, 1 ≤ q → q ≤ 4 → M'.1 q = M.1 q) (e5 : ∀ u, M'.1 5 u = if u = t then nI v else M.1 5 u) (e6 : ∀ u, M'.1 6 u = if u = t then pp_bI (!b) else M.1 6 u) : RY (K.set t v b) M' := by
  obtain ⟨a1, a2, a3, a4, a5, a6, a7, a8, a9⟩ := h
  refine ⟨e0.trans a1, e3.trans a2, ?_, ?_, ?_, ?_, fun u hu => ?_, fun u hu => ?_, e8.trans a9⟩
  · rw [e 1 (by decide) (by decide)]; exact a3
  · rw [e 2 (by decide) (by decide)]; exact a4
  · rw [e 3 (by decide) (by decide)]; exact a5
  · rw [e 4 (by decide) (by decide)]; exact a6
  · rw [e5, RK.set_hd]
    by_cases q : u = t
    · rw [if_pos q, q, va_up_s]
    · rw [if_neg q, va_up_n q]
      exact a7 u hu
  · rw [e6, RK.set_op]
    by_cases q : u = t
    · rw [if_pos q, q, va_up_s]
    · rw [if_neg q, va_up_n q]
      exact a8 u hu
theorem RK.set_id {K : RK} {t : Nat} : K.set t (K.hd t) (K.op t) = K := by
  unfold RK.set
  rw [va_up_id rfl, va_up_id rfl]
  rfl
theorem mayH (x : Int64) (M : sr_M) : f4_mayHinder x M = some (if x < 0 ∨ 1000000000 < x then nI 0 else nI 1) := by
  unfold f4_mayHinder
  simp only [lg_cmp_lt, lg_cmp_gt]
  by_cases h : x < 0
  · simp only [h, if_true, true_or]
    rfl
  · by_cases h2 : 1000000000 < x
    · simp only [h, h2, if_true, or_true, if_false]
      rfl
    · simp only [h, h2, if_false, or_self]
      rfl
theorem i64_lt0 {v : Int32} : v.toInt64 < 0 ↔ v < nI 0 := by
  rw [Int64.lt_iff_toInt_lt, Int32.lt_iff_toInt_lt, Int32.toInt_toInt64]
  rfl
theorem i64_gtG {v : Int32} : 1000000000 < v.toInt64 ↔ nI 1000000000 < v := by
  rw [Int64.lt_iff_toInt_lt, Int32.lt_iff_toInt_lt, Int32.toInt_toInt64]
  rfl
theorem gtG {v : Int32} : nI 1000000000 < v ↔ ¬ v ≤ nI 1000000000 := by
  rw [Int32.lt_iff_toInt_lt, Int32.le_iff_toInt_le]
  omega
theorem op_hinder {K : RK} {Mx My : sr_M} (h : Rest K Mx My) (a v : Int32) : Ends K (f4_hinder a v) (f5_hinder a v) Mx My := by
  obtain ⟨hW, hX, hY, hC, hT⟩ := h
  have xt := hX.1.2.1
  have yt := hY.2.1
  have hTT := hW.2.1
  unfold Ends f4_hinder f5_hinder
  rcases hasT hW xt yt a with ⟨t, ht, rfl, e1, e2⟩ | ⟨-, e1, e2⟩
  case inr =>
    rw [e1, e2]
    exact ⟨_, Or.inl ⟨rfl, rfl⟩⟩
  simp (disch := omega) only [e1, e2, mayH, i64_lt0, i64_gtG, ↓reduceIte, sr_bnd, sr_put, Option.bind_some, pp_bd2, pp_ld, pp_st, pp_stB, pp_putB, pp_grd, pp_l0, pp_l1, pp_l2, pp_l3, pp_l4, pp_l5, pp_l6, pp_l60, pp_l120, pp_l200, nI_add, pp_sub, pp_dec, pp_le, pp_lt, pp_eq, pp_neg1, pp_neg2, pp_neg3, pp_neg4, pp_neg5, if_pos, if_neg, if_true, if_false, pp_gv, nI_clamp, pp_stJ, pp_stD, pk_mul, pp_lG]
  by_cases v0 : v < nI 0
  · simp (disch := omega) only [v0, true_or, ↓reduceIte, sr_bnd, sr_put, Option.bind_some, pp_bd2, pp_ld, pp_st, pp_stB, pp_putB, pp_grd, pp_l0, pp_l1, pp_l2, pp_l3, pp_l4, pp_l5, pp_l6, pp_l60, pp_l120, pp_l200, nI_add, pp_sub, pp_dec, pp_le, pp_lt, pp_eq, pp_neg1, pp_neg2, pp_neg3, pp_neg4, pp_neg5, if_pos, if_neg, if_true, if_false, pp_gv, nI_clamp, pp_stJ, pp_stD, pk_mul]
    exact ⟨_, Or.inl ⟨rfl, rfl⟩⟩
  by_cases v1 : v ≤ nI 1000000000
  case neg =>
    simp (disch := omega) only [gtG.mpr v1, v0, v1, or_true, ↓reduceIte, sr_bnd, sr_put, Option.bind_some, pp_bd2, pp_ld, pp_st, pp_stB, pp_putB, pp_grd, pp_l0, pp_l1, pp_l2, pp_l3, pp_l4, pp_l5, pp_l6, pp_l60, pp_l120, pp_l200, nI_add, pp_sub, pp_dec, pp_le, pp_lt, pp_eq, pp_neg1, pp_neg2, pp_neg3, pp_neg4, pp_neg5, if_pos, if_neg, if_true, if_false, pp_gv, nI_clamp, pp_stJ, pp_stD, pk_mul]
    exact ⟨_, Or.inl ⟨rfl, rfl⟩⟩
  have v2 : ¬ nI 1000000000 < v := fun q => gtG.mp q v1
  simp only [v0, v1, v2, or_self, if_false, if_true]
  obtain ⟨w, hw, rfl⟩ := nI_of2 (M := nI 1000000000) (n := 1000000000) (by decide) v0 v1
  have hX0 : RX K (sr_wI Mx 30 1 (nI 0)) := hX.kept (fun q _ _ => by rw [pp_wI1 (by omega)])
  obtain ⟨m, br, hr⟩ := hX0.2.1
  have eo := Xopen hW hr ht
  obtain ⟨Mx', ex, x2, x3, x4⟩ := RX_settle hW hX0 ht hw (K.op t)
  simp (disch := first | omega | decide) only [↓reduceIte, sr_bnd, sr_put, Option.bind_some, pp_bd2, pp_ld, pp_st, pp_stB, pp_putB, pp_grd, pp_l0, pp_l1, pp_l2, pp_l3, pp_l4, pp_l5, pp_l6, pp_l60, pp_l120, pp_l200, nI_add, pp_sub, pp_dec, pp_le, pp_lt, pp_eq, pp_neg1, pp_neg2, pp_neg3, pp_neg4, pp_neg5, if_pos, if_neg, if_true, if_false, pp_gv, nI_clamp, pp_stJ, pp_stD, pk_mul, eo, ex]
  refine ⟨_, Or.inr ⟨K.set t w (K.op t), Mx', _, rfl, rfl, ⟨hW.set hw, x4, ?_, ?_, ?_⟩, ?_, ?_⟩⟩
  · refine hY.setv ?_ ?_ ?_ (fun q h1 h2 => ?_) (fun u => ?_) (fun u => ?_)
    · simp (disch := omega) only [pp_wI1, pp_wI2, pp_wI3]
    · simp (disch := omega) only [pp_wI1, pp_wI2, pp_wI3]
    · simp (disch := omega) only [pp_wI1, pp_wI2, pp_wI3]
    · simp (disch := omega) only [pp_wI1, pp_wI2, pp_wI3]
    · rw [pp_wI1 (by decide), pp_wI]
      simp
    · simp (disch := omega) only [pp_wI1, pp_wI2, pp_wI3]
      by_cases q : u = t
      · rw [if_pos q, q]; exact hY.2.2.2.2.2.2.2.1 t ht
      · rw [if_neg q]
  · refine hC.keep (fun q hq hq2 => ?_) x2 ?_ ?_ rfl
    · rw [x3 q (by omega), pp_wI1 (by omega)]
    · simp (disch := omega) only [pp_wI1, pp_wI2, pp_wI3]
    · simp (disch := omega) only [pp_wI1, pp_wI2, pp_wI3]
  · refine hT.kept ?_ ?_ ?_ ?_
    · rw [x3 0 (by omega), pp_wI1 (by omega)]
    · rw [x3 61 (by omega), pp_wI1 (by omega)]
    · simp (disch := omega) only [pp_wI1, pp_wI2, pp_wI3]
    · simp (disch := omega) only [pp_wI1, pp_wI2, pp_wI3]
  · rw [x3 30 (by omega), pp_wI2]
  · simp (disch := omega) only [pp_wI1, pp_wI2, pp_wI3]
theorem bI_eq {a b : Bool} : (pp_bI a = pp_bI b) = (a = b) := by
  cases a <;> cases b <;> simp [pp_bI]
theorem bI_0 {a : Bool} : (pp_bI a = nI 0) = (a = false) := by
  cases a <;> simp [pp_bI]
  · rfl
  · decide
theorem op_shut {K : RK} {Mx My : sr_M} (h : Rest K Mx My) (a : Int32) (b : Bool) : Ends K (f4_shut a (pp_bI b)) (f5_shut a (pp_bI b)) Mx My := by
  obtain ⟨hW, hX, hY, hC, hT⟩ := h
  have xt := hX.1.2.1
  have yt := hY.2.1
  have hTT := hW.2.1
  unfold Ends f4_shut f5_shut
  rcases hasT hW xt yt a with ⟨t, ht, rfl, e1, e2⟩ | ⟨-, e1, e2⟩
  case inr =>
    rw [e1, e2]
    exact ⟨_, Or.inl ⟨rfl, rfl⟩⟩
  have hX0 : RX K (sr_wI Mx 30 1 (nI 0)) := hX.kept (fun q _ _ => by rw [pp_wI1 (by omega)])
  obtain ⟨m, br, hr⟩ := hX0.2.1
  have eo := Xopen hW hr ht
  have h6 := hX.1.2.2.2.2.2.2.1 t ht
  have g6 := hY.2.2.2.2.2.2.2.1 t ht
  have hv := hW.2.2.2.2 t ht
  have ey : ∀ r : Int32, (sr_stB (nI t) 300 My 6 (pp_bI b) fun M5 => some (r, sr_wI M5 0 13 (nI 0))) = some (r, sr_wI (sr_wI My 6 t (pp_bI b)) 0 13 (nI 0)) := fun r => by
    rw [pp_stB (by omega) (by decide) (pp_bI_ok b)]
  have fin : ∀ (r : Int32) (Mx' : sr_M) (nb : Bool), (nb = !b) → Mx'.2 = Mx.2 → (∀ q, q = 0 ∨ 10 < q → Mx'.1 q = (sr_wI Mx 30 1 (nI 0)).1 q) → RX (K.set t (K.hd t) nb) Mx' → ∃ K' Mx'' My', some (r, Mx') = some (r, Mx'') ∧ some (r, sr_wI (sr_wI My 6 t (pp_bI b)) 0 13 (nI 0)) = some (r, My') ∧ Rest K' Mx'' My' ∧ Mx''.1 30 1 = 0 ∧ My'.1 0 13 = 0 := by
    intro r Mx' nb hnb x2 x3 x4
    refine ⟨K.set t (K.hd t) nb, Mx', _, rfl, rfl, ⟨hW.set hv, x4, ?_, ?_, ?_⟩, ?_, ?_⟩
    · refine hY.setv ?_ ?_ ?_ (fun q h1 h2 => ?_) (fun u => ?_) (fun u => ?_)
      · simp (disch := omega) only [pp_wI1, pp_wI2, pp_wI3]
      · simp (disch := omega) only [pp_wI1, pp_wI2, pp_wI3]
      · simp (disch := omega) only [pp_wI1, pp_wI2, pp_wI3]
      · simp (disch := omega) only [pp_wI1, pp_wI2, pp_wI3]
      · simp (disch := omega) only [pp_wI1, pp_wI2, pp_wI3]
        by_cases q : u = t
        · rw [if_pos q, q]; exact hY.2.2.2.2.2.2.1 t ht
        · rw [if_neg q]
      · rw [pp_wI1 (by decide), pp_wI, hnb, Bool.not_not]
        simp
    · refine hC.keep (fun q hq hq2 => ?_) x2 ?_ ?_ rfl
      · rw [x3 q (by omega), pp_wI1 (by omega)]
      · simp (disch := omega) only [pp_wI1, pp_wI2, pp_wI3]
      · simp (disch := omega) only [pp_wI1, pp_wI2, pp_wI3]
    · refine hT.kept ?_ ?_ ?_ ?_
      · rw [x3 0 (by omega), pp_wI1 (by omega)]
      · rw [x3 61 (by omega), pp_wI1 (by omega)]
      · simp (disch := omega) only [pp_wI1, pp_wI2, pp_wI3]
      · simp (disch := omega) only [pp_wI1, pp_wI2, pp_wI3]
    · rw [x3 30 (by omega), pp_wI2]; rfl
    · simp (disch := omega) only [pp_wI1, pp_wI2, pp_wI3]; rfl
  have h6' : (sr_wI Mx 30 1 (nI 0)).1 6 t = nI (K.hd t) := by rw [pp_wI1 (by decide)]; exact h6
  simp (disch := first | omega | decide) only [e1, e2, ↓reduceIte, sr_bnd, sr_put, Option.bind_some, pp_bd2, pp_ld, pp_st, pp_stB, pp_putB, pp_grd, pp_l0, pp_l1, pp_l2, pp_l3, pp_l4, pp_l5, pp_l6, pp_l60, pp_l120, pp_l200, nI_add, pp_sub, pp_dec, pp_le, pp_lt, pp_eq, pp_neg1, pp_neg2, pp_neg3, pp_neg4, pp_neg5, if_pos, if_neg, if_true, if_false, pp_gv, nI_clamp, pp_stJ, pp_stD, pk_mul, eo, g6, h6', bI_eq, bI_0]
  by_cases q : K.op t = b
  · obtain ⟨Mx', ex, x2, x3, x4⟩ := RX_settle hW hX0 ht hv (!b)
    have q2 : ¬ (!K.op t) = b := by rw [q]; cases b <;> decide
    simp only [if_pos q, if_neg q2, sr_jn, ey]
    refine ⟨nI 1, Or.inr ?_⟩
    have ex' : (if b = false then (f2_settle (nI t) (nI (K.hd t)) (nI 1) (sr_wI Mx 30 1 (nI 0))).bind fun M7 => some (nI 1, M7) else (f2_settle (nI t) (nI (K.hd t)) (nI 0) (sr_wI Mx 30 1 (nI 0))).bind fun M7 => some (nI 1, M7)) = some (nI 1, Mx') := by
      cases b with
      | false =>
        rw [if_pos rfl]
        have : f2_settle (nI t) (nI (K.hd t)) (nI 1) (sr_wI Mx 30 1 (nI 0)) = some Mx' := ex
        rw [this]; rfl
      | true =>
        rw [if_neg (by decide)]
        have : f2_settle (nI t) (nI (K.hd t)) (nI 0) (sr_wI Mx 30 1 (nI 0)) = some Mx' := ex
        rw [this]; rfl
    simp only [ex']
    exact fin _ Mx' (!b) rfl x2 x3 x4
  · have q2 : (!K.op t) = b := by revert q; cases K.op t <;> cases b <;> simp
    simp only [if_neg q, if_pos q2, sr_jn, ey]
    refine ⟨nI 0, Or.inr ?_⟩
    refine fin _ (sr_wI Mx 30 1 (nI 0)) (K.op t) (by rw [← q2, Bool.not_not]) rfl (fun _ _ => rfl) ?_
    rw [RK.set_id]
    exact hX0
/-- a pore is an inlet or not -/
def RK.setI (K : RK) (p : Nat) (b : Bool) : RK := RK.mk K.n K.T K.kd K.e1 K.e2 K.hd (va_up K.il p b) K.op K.tr
def RK.setTr (K : RK) (b : Bool) : RK := RK.mk K.n K.T K.kd K.e1 K.e2 K.hd K.il K.op b
theorem op_inlet {K : RK} {Mx My : sr_M} (h : Rest K Mx My) (a : Int32) (b : Bool) : Ends K (f4_inlet a (pp_bI b)) (f5_inlet a (pp_bI b)) Mx My := by
  obtain ⟨hW, hX, hY, hC, hT⟩ := h
  have xn := hX.1.1
  have yn := hY.1
  have hn := hW.1
  unfold Ends f4_inlet f5_inlet
  rcases hasP hW xn yn a with ⟨p, hp, rfl, e1, e2⟩ | ⟨-, e1, e2⟩
  case inr =>
    rw [e1, e2]
    exact ⟨_, Or.inl ⟨rfl, rfl⟩⟩
  have g3 := hX.1.2.2.2.1 p hp
  have g2 := hY.2.2.2.1 p hp
  have h3 : (sr_wI Mx 30 1 (nI 0)).1 3 p = pp_bI (K.il p) := by rw [pp_wI1 (by decide)]; exact g3
  have hX0 : RX K (sr_wI Mx 30 1 (nI 0)) := hX.kept (fun q _ _ => by rw [pp_wI1 (by omega)])
  have hb := pp_bI_ok b
  have fin : ∀ (r : Int32) (Mx' : sr_M), Mx'.2 = Mx.2 → (∀ q, q ≠ 3 → Mx'.1 q = (sr_wI Mx 30 1 (nI 0)).1 q) → (∀ u, Mx'.1 3 u = if u = p then pp_bI b else Mx.1 3 u) → ∃ K' Mx'' My', some (r, Mx') = some (r, Mx'') ∧ some (r, sr_wI (sr_wI My 2 p (pp_bI b)) 0 13 (nI 0)) = some (r, My') ∧ Rest K' Mx'' My' ∧ Mx''.1 30 1 = 0 ∧ My'.1 0 13 = 0 := by
    intro r Mx' x2 x3 x4
    refine ⟨K.setI p b, Mx', _, rfl, rfl, ⟨hW, ?_, ?_, ?_, ?_⟩, ?_, ?_⟩
    · obtain ⟨⟨a1, a2, a3, a4, a5, a6, a7, a8⟩, ⟨m, br, r1, rB, r8, r7, r2⟩, ⟨fa, aa, f1, f2, f3, f4, f5, f6⟩, z1, z2⟩ := hX0
      refine ⟨⟨?_, ?_, ?_, fun u hu => ?_, ?_, ?_, ?_, ?_⟩, ⟨m, br, ?_, rB, ?_, ?_, ?_⟩, ⟨fa, aa, ?_, f2, f3, f4, ?_, f6⟩, fun u hu hu2 => ?_, ?_⟩
      · rw [x3 1 (by decide)]; exact a1
      · rw [x3 1 (by decide)]; exact a2
      · rw [x3 2 (by decide)]; exact a3
      · rw [x4 u]
        show _ = pp_bI (va_up K.il p b u)
        by_cases e : u = p
        · rw [if_pos e, e, va_up_s]
        · rw [if_neg e, va_up_n e]
          have := a4 u hu
          rw [pp_wI1 (by decide)] at this
          exact this
      · rw [x3 4 (by decide)]; exact a5
      · rw [x3 5 (by decide)]; exact a6
      · rw [x3 6 (by decide)]; exact a7
      · rw [x3 1 (by decide)]; exact a8
      · rw [x3 1 (by decide)]; exact r1
      · rw [x3 8 (by decide)]; exact r8
      · rw [x3 7 (by decide)]; exact r7
      · rw [x3 7 (by decide)]; exact r2
      · rw [x3 9 (by decide)]; exact f1
      · rw [x3 10 (by decide)]; exact f5
      · have hu : K.n ≤ u := hu
        rw [x4 u, if_neg (by omega)]
        have := z1 u hu hu2
        rw [pp_wI1 (by decide)] at this
        exact this
      · rw [x3 6 (by decide)]; exact z2
    · obtain ⟨a1, a2, a3, a4, a5, a6, a7, a8, a9⟩ := hY
      refine ⟨?_, ?_, fun u hu => ?_, fun u hu => ?_, fun u hu => ?_, fun u hu => ?_, fun u hu => ?_, fun u hu => ?_, ?_⟩
      · simp (disch := omega) only [pp_wI1, pp_wI2, pp_wI3]; exact a1
      · simp (disch := omega) only [pp_wI1, pp_wI2, pp_wI3]; exact a2
      · simp (disch := omega) only [pp_wI1, pp_wI2, pp_wI3]; exact a3 u hu
      · rw [pp_wI1 (by decide)]
        show _ = pp_bI (va_up K.il p b u)
        by_cases e : u = p
        · rw [e, pp_wI2, va_up_s]
        · rw [pp_wI3 e, va_up_n e]
          exact a4 u hu
      · simp (disch := omega) only [pp_wI1, pp_wI2, pp_wI3]; exact a5 u hu
      · simp (disch := omega) only [pp_wI1, pp_wI2, pp_wI3]; exact a6 u hu
      · simp (disch := omega) only [pp_wI1, pp_wI2, pp_wI3]; exact a7 u hu
      · simp (disch := omega) only [pp_wI1, pp_wI2, pp_wI3]; exact a8 u hu
      · simp (disch := omega) only [pp_wI1, pp_wI2, pp_wI3]; exact a9
    · refine hC.keep (fun q hq hq2 => ?_) x2 ?_ ?_ rfl
      · rw [x3 q (by omega), pp_wI1 (by omega)]
      · simp (disch := omega) only [pp_wI1, pp_wI2, pp_wI3]
      · simp (disch := omega) only [pp_wI1, pp_wI2, pp_wI3]
    · refine hT.kept ?_ ?_ ?_ ?_
      · rw [x3 0 (by omega), pp_wI1 (by omega)]
      · rw [x3 61 (by omega), pp_wI1 (by omega)]
      · simp (disch := omega) only [pp_wI1, pp_wI2, pp_wI3]
      · simp (disch := omega) only [pp_wI1, pp_wI2, pp_wI3]
    · rw [x3 30 (by omega), pp_wI2]; rfl
    · simp (disch := omega) only [pp_wI1, pp_wI2, pp_wI3]; rfl
  simp (disch := first | omega | assumption | decide) only [e1, e2, ↓reduceIte, sr_bnd, sr_put, Option.bind_some, pp_bd2, pp_ld, pp_st, pp_stB, pp_putB, pp_grd, pp_l0, pp_l1, pp_l2, pp_l3, pp_l4, pp_l5, pp_l6, pp_l60, pp_l120, pp_l200, nI_add, pp_sub, pp_dec, pp_le, pp_lt, pp_eq, pp_neg1, pp_neg2, pp_neg3, pp_neg4, pp_neg5, if_pos, if_neg, if_true, if_false, pp_gv, nI_clamp, pp_stJ, pp_stD, pk_mul, h3, g2, bI_eq, sr_jn]
  by_cases q : K.il p = b
  · simp only [q, if_true]
    exact ⟨nI 0, Or.inr (fin _ _ rfl (fun _ _ => rfl) (fun u => by
      rw [pp_wI1 (by decide)]
      by_cases e : u = p
      · rw [if_pos e, e, g3, q]
      · rw [if_neg e]))⟩
  · simp only [q, if_false]
    exact ⟨nI 1, Or.inr (fin _ _ rfl (fun u hu => by rw [pp_wI1 hu]) (fun u => by
      rw [pp_wI]
      by_cases e : u = p
      · rw [if_pos ⟨rfl, e⟩, if_pos e]
      · rw [if_neg (fun z => e z.2), if_neg e, pp_wI1 (by decide)]))⟩
theorem op_trapping {K : RK} {Mx My : sr_M} (h : Rest K Mx My) (b : Bool) : Ends K (f4_trapping (pp_bI b)) (f5_trapping (pp_bI b)) Mx My := by
  obtain ⟨hW, hX, hY, hC, hT⟩ := h
  unfold Ends f4_trapping f5_trapping
  have g3 := hX.1.2.2.2.2.2.2.2
  have g2 := hY.2.2.2.2.2.2.2.2
  have h3 : (sr_wI Mx 30 1 (nI 0)).1 1 12 = pp_bI K.tr := by rw [pp_wI1 (by decide)]; exact g3
  have hb := pp_bI_ok b
  have fin : ∀ (r : Int32) (Mx' : sr_M), Mx'.2 = Mx.2 → (∀ q, q ≠ 1 → Mx'.1 q = (sr_wI Mx 30 1 (nI 0)).1 q) → (∀ u, Mx'.1 1 u = if u = 12 then pp_bI b else Mx.1 1 u) → ∃ K' Mx'' My', some (r, Mx') = some (r, Mx'') ∧ some (r, sr_wI (sr_wI My 0 8 (pp_bI b)) 0 13 (nI 0)) = some (r, My') ∧ Rest K' Mx'' My' ∧ Mx''.1 30 1 = 0 ∧ My'.1 0 13 = 0 := by
    intro r Mx' x2 x3 x4
    refine ⟨K.setTr b, Mx', _, rfl, rfl, ⟨hW, ?_, ?_, ?_, ?_⟩, ?_, ?_⟩
    · obtain ⟨⟨a1, a2, a3, a4, a5, a6, a7, a8⟩, ⟨m, br, r1, rB, r8, r7, r2⟩, ⟨fa, aa, f1, f2, f3, f4, f5, f6⟩, z1, z2⟩ := hX
      have x : ∀ q, q ≠ 1 → q ≠ 30 → Mx'.1 q = Mx.1 q := fun q h1 h2 => by rw [x3 q h1, pp_wI1 h2]
      refine ⟨⟨?_, ?_, ?_, ?_, ?_, ?_, ?_, ?_⟩, ⟨m, br, ?_, rB, ?_, ?_, ?_⟩, ⟨fa, aa, ?_, f2, f3, f4, ?_, f6⟩, ?_, ?_⟩
      · rw [x4, if_neg (by decide)]; exact a1
      · rw [x4, if_neg (by decide)]; exact a2
      · rw [x 2 (by decide) (by decide)]; exact a3
      · rw [x 3 (by decide) (by decide)]; exact a4
      · rw [x 4 (by decide) (by decide)]; exact a5
      · rw [x 5 (by decide) (by decide)]; exact a6
      · rw [x 6 (by decide) (by decide)]; exact a7
      · rw [x4, if_pos rfl]; rfl
      · rw [x4, if_neg (by decide)]; exact r1
      · rw [x 8 (by decide) (by decide)]; exact r8
      · rw [x 7 (by decide) (by decide)]; exact r7
      · rw [x 7 (by decide) (by decide)]; exact r2
      · rw [x 9 (by decide) (by decide)]; exact f1
      · rw [x 10 (by decide) (by decide)]; exact f5
      · rw [x 3 (by decide) (by decide)]; exact z1
      · rw [x 6 (by decide) (by decide)]; exact z2
    · obtain ⟨a1, a2, a3, a4, a5, a6, a7, a8, a9⟩ := hY
      refine ⟨?_, ?_, fun u hu => ?_, fun u hu => ?_, fun u hu => ?_, fun u hu => ?_, fun u hu => ?_, fun u hu => ?_, ?_⟩
      · simp (disch := omega) only [pp_wI1, pp_wI2, pp_wI3]; exact a1
      · simp (disch := omega) only [pp_wI1, pp_wI2, pp_wI3]; exact a2
      · simp (disch := omega) only [pp_wI1, pp_wI2, pp_wI3]; exact a3 u hu
      · simp (disch := omega) only [pp_wI1, pp_wI2, pp_wI3]; exact a4 u hu
      · simp (disch := omega) only [pp_wI1, pp_wI2, pp_wI3]; exact a5 u hu
      · simp (disch := omega) only [pp_wI1, pp_wI2, pp_wI3]; exact a6 u hu
      · simp (disch := omega) only [pp_wI1, pp_wI2, pp_wI3]; exact a7 u hu
      · simp (disch := omega) only [pp_wI1, pp_wI2, pp_wI3]; exact a8 u hu
      · simp (disch := omega) only [pp_wI1, pp_wI2, pp_wI3]; rfl
    · refine hC.keep (fun q hq hq2 => ?_) x2 ?_ ?_ rfl
      · rw [x3 q (by omega), pp_wI1 (by omega)]
      · simp (disch := omega) only [pp_wI1, pp_wI2, pp_wI3]
      · simp (disch := omega) only [pp_wI1, pp_wI2, pp_wI3]
    · refine hT.kept ?_ ?_ ?_ ?_
      · rw [x3 0 (by omega), pp_wI1 (by omega)]
      · rw [x3 61 (by omega), pp_wI1 (by omega)]
      · simp (disch := omega) only [pp_wI1, pp_wI2, pp_wI3]
      · simp (disch := omega) only [pp_wI1, pp_wI2, pp_wI3]
    · rw [x3 30 (by omega), pp_wI2]; rfl
    · simp (disch := omega) only [pp_wI1, pp_wI2, pp_wI3]; rfl
  simp (disch := first | omega | assumption | decide) only [↓reduceIte, sr_bnd, sr_put, Option.bind_some, pp_bd2, pp_ld, pp_st, pp_stB, pp_putB, pp_grd, pp_l0, pp_l1, pp_l2, pp_l3, pp_l4, pp_l5, pp_l6, pp_l60, pp_l120, pp_l200, nI_add, pp_sub, pp_dec, pp_le, pp_lt, pp_eq, pp_neg1, pp_neg2, pp_neg3, pp_neg4, pp_neg5, if_pos, if_neg, if_true, if_false, pp_gv, nI_clamp, pp_stJ, pp_stD, pk_mul, h3, g2, bI_eq, sr_jn]
  by_cases q : K.tr = b
  · simp only [q, if_true]
    exact ⟨nI 0, Or.inr (fin _ _ rfl (fun _ _ => rfl) (fun u => by
      rw [pp_wI1 (by decide)]
      by_cases e : u = 12
      · rw [if_pos e, e, g3, q]
      · rw [if_neg e]))⟩
  · simp only [q, if_false]
    exact ⟨nI 1, Or.inr (fin _ _ rfl (fun u hu => by rw [pp_wI1 hu]) (fun u => by
      rw [pp_wI]
      by_cases e : u = 12
      · rw [if_pos ⟨rfl, e⟩, if_pos e]
      · rw [if_neg (fun z => e z.2), if_neg e, pp_wI1 (by decide)]))⟩
