/-! JOININGS AND THE TREE: the calls -/
theorem bI_dec {p : Prop} [Decidable p] : (pp_bI (!decide p) = 0) ↔ p := by
  by_cases h : p
  · rw [decide_eq_true h]; exact ⟨fun _ => h, fun _ => rfl⟩
  · rw [decide_eq_false h]; exact ⟨fun q => absurd q (by decide), fun q => absurd q h⟩
theorem join_idle {K : RK} {M : sr_M} {m : Nat} {br : Nat → Nat} (hW : WF K) (hY : RY K M) (hB : Br K.T K.op K.hd m br) (a b : Int32) {r : Nat} (hr : m ≤ r) (hrT : r ≤ K.T) : sr_lp (fun z4 : Int32 × sr_M => f5_join_L32 a b z4.1 z4.2) (nI r, M) = some (.inl M) := by
  have hT := hW.2.1
  have y2 := hY.2.1
  refine wp_eq ?_
  refine wp_for (fun i (_ : Unit) => (nI i, M)) K.T (fun i _ => m ≤ i) ?_ ?_ r () hrT hr
  · intro i _ hi hmi
    show sr_wp (f5_join_L32 a b (nI i) M) _
    unfold f5_join_L32
    simp only [sr_bnd, y2]
    rw [if_neg (by rw [pp_le (by omega) (by omega)]; omega), (Yranked hW hY hB (nI i)).2 (fun r hr => by rw [Ne, pp_eq (by omega) (by omega)]; omega), Option.bind_some, if_pos (by decide), wp_on]
    exact ⟨(), by rw [nI_1], by omega⟩
  · intro _ _
    show sr_wp (f5_join_L32 a b (nI K.T) M) _
    unfold f5_join_L32
    simp only [sr_bnd, y2]
    rw [if_pos (Int32.le_refl _), wp_out]
theorem tree_idle {K : RK} {M : sr_M} {m : Nat} {br : Nat → Nat} (hW : WF K) (hY : RY K M) (hB : Br K.T K.op K.hd m br) (a c : Int32) {r : Nat} (hr : m ≤ r) (hrT : r ≤ K.T) : sr_lp (fun z2 : Int32 × Int32 × sr_M => f5_tree_L8 a z2.1 z2.2.1 z2.2.2) (c, nI r, M) = some (.inl M) := by
  have hT := hW.2.1
  have y2 := hY.2.1
  refine wp_eq ?_
  refine wp_for (fun i (_ : Unit) => (c, nI i, M)) K.T (fun i _ => m ≤ i) ?_ ?_ r () hrT hr
  · intro i _ hi hmi
    show sr_wp (f5_tree_L8 a c (nI i) M) _
    unfold f5_tree_L8
    simp only [sr_bnd, y2]
    rw [if_neg (by rw [pp_le (by omega) (by omega)]; omega), (Yranked hW hY hB (nI i)).2 (fun r hr => by rw [Ne, pp_eq (by omega) (by omega)]; omega), Option.bind_some, if_pos (by decide), wp_on]
    exact ⟨(), by rw [nI_1], by omega⟩
  · intro _ _
    show sr_wp (f5_tree_L8 a c (nI K.T) M) _
    unfold f5_tree_L8
    simp only [sr_bnd, y2]
    rw [if_pos (Int32.le_refl _), wp_out]
/-- both loops end alike -/
def Alk (Mx My : sr_M) (rx ry : Option (sr_M ⊕ (Int32 × sr_M))) (ok : Int32 → Prop) : Prop := ∃ Mx' My', XWy Mx Mx' ∧ YWy My My' ∧ ((rx = some (.inl Mx') ∧ ry = some (.inl My')) ∨ ∃ v, ok v ∧ rx = some (.inr (v, Mx')) ∧ ry = some (.inr (v, My')))
theorem Alk.step {Mx My Mx' My' : sr_M} {rx ry rx' ry' : Option (sr_M ⊕ (Int32 × sr_M))} {ok : Int32 → Prop} (h : Alk Mx' My' rx' ry' ok) (a : XWy Mx Mx') (b : YWy My My') (ex : ∀ y, rx' = some y → rx = some y) (ey : ∀ y, ry' = some y → ry = some y) : Alk Mx My rx ry ok := by
  obtain ⟨M1, M2, h1, h2, h3⟩ := h
  refine ⟨M1, M2, a.tr h1, b.tr h2, ?_⟩
  rcases h3 with ⟨e1, e2⟩ | ⟨v, hv, e1, e2⟩
  · exact Or.inl ⟨ex _ e1, ey _ e2⟩
  · exact Or.inr ⟨v, hv, ex _ e1, ey _ e2⟩
theorem join_loop {K : RK} {m a b : Nat} {br : Nat → Nat} (hW : WF K) (ha : a < K.n) (hb : b < K.n) : ∀ d r Mx My s s', r + d = m → RX K Mx → RXr K Mx m br → RY K My → AtN K s 60 Mx → AtN K s' 21 My → PR K.n s s' → s a ≠ s b →
    Alk Mx My (sr_lp (fun z2 : Int32 × sr_M => f3_rankJoining_L6 (nI a) (nI b) z2.1 z2.2) (nI r, Mx)) (sr_lp (fun z4 : Int32 × sr_M => f5_join_L32 (nI a) (nI b) z4.1 z4.2) (nI r, My)) (fun _ => True) := by
  have hn := hW.1
  have hT := hW.2.1
  intro d
  induction d with
  | zero =>
    intro r Mx My s s' hr hX hXr hY hs hs' hP hab
    have hm := hXr.2.1.le
    refine ⟨Mx, My, XWy.rf, YWy.rf, Or.inl ⟨sr_lp_end ?_, join_idle hW hY hXr.2.1 _ _ (by omega) (by omega)⟩⟩
    show f3_rankJoining_L6 (nI a) (nI b) (nI r) Mx = _
    unfold f3_rankJoining_L6
    simp only [sr_bnd, hXr.1]
    rw [if_pos (by rw [pp_le (by omega) (by omega)]; omega)]
  | succ d ih =>
    intro r Mx My s s' hr hX hXr hY hs hs' hP hab
    have hB := hXr.2.1
    have hm := hB.le
    have hbr := hB.1 r (by omega)
    have et := hW.2.2.1 _ hbr.1
    obtain ⟨Mx', e1, e2, e3⟩ := Xunite hW hX hbr.1 hs
    obtain ⟨My', g1, g2, g3⟩ := Ytie hW hY hbr.1 hs'
    have hP' := hP.mg et.1 et.2.1
    have iff := hP _ _ et.1 et.2.1
    have a1 := e2 a ha
    have b1 := e2 b hb
    have a2 := g2 a ha
    have b2 := g2 b hb
    have hXr' : RXr K Mx' m br := by
      obtain ⟨r1, r2, r3, r4, r5⟩ := hXr
      exact ⟨by rw [e3.2 1 (by omega)]; exact r1, r2, fun q hq => by rw [e3.2 8 (by omega)]; exact r3 q hq, fun q hq => by rw [e3.2 7 (by omega)]; exact r4 q hq, fun q h1 h2 => by rw [e3.2 7 (by omega)]; exact r5 q h1 h2⟩
    have ex : f3_rankJoining_L6 (nI a) (nI b) (nI r) Mx = if mrg s (s (K.e2 (br r))) (s (K.e1 (br r))) a = mrg s (s (K.e2 (br r))) (s (K.e1 (br r))) b then some (.inr (.inr (nI r, Mx'))) else some (.inl (nI (r + 1), Mx')) := by
      unfold f3_rankJoining_L6
      simp only [sr_bnd, hXr.1]
      rw [if_neg (by rw [pp_le (by omega) (by omega)]; omega), pp_ld (by omega) (by decide), hXr.2.2.1 r (by omega), e1, pp_bd2, pp_ld (by omega) (by decide), a1.1, pp_ld (by omega) (by decide), b1.1]
      by_cases q : mrg s (s (K.e2 (br r))) (s (K.e1 (br r))) a = mrg s (s (K.e2 (br r))) (s (K.e1 (br r))) b
      · rw [if_pos (by rw [q]), if_pos q]
      · rw [if_neg (by rw [pp_eq (by omega) (by omega)]; exact q), if_neg q, nI_1]
    have same : s (K.e1 (br r)) = s (K.e2 (br r)) → mrg s (s (K.e2 (br r))) (s (K.e1 (br r))) = s := fun q => by
      funext p
      unfold mrg
      by_cases c : s p = s (K.e2 (br r))
      · rw [if_pos c, c, q]
      · rw [if_neg c]
    have ey : f5_join_L32 (nI a) (nI b) (nI r) My = if mrg s (s (K.e2 (br r))) (s (K.e1 (br r))) a = mrg s (s (K.e2 (br r))) (s (K.e1 (br r))) b then some (.inr (.inr (nI r, My'))) else some (.inl (nI (r + 1), My')) := by
      unfold f5_join_L32
      simp only [sr_bnd, hY.2.1]
      rw [if_neg (by rw [pp_le (by omega) (by omega)]; omega), (Yranked hW hY hB (nI r)).1 r (by omega) rfl, Option.bind_some, if_neg (Int32.not_lt.mpr (show (0 : Int32) ≤ nI (br r) from oI_s0 (by omega))), g1, pp_bd2]
      by_cases q : s' (K.e1 (br r)) = s' (K.e2 (br r))
      · rw [if_pos (bI_dec.mpr q), if_neg (by rw [same (iff.mpr q)]; exact hab), nI_1]
      · rw [if_neg (fun z => q (bI_dec.mp z)), pp_ld (by omega) (by decide), a2.1, pp_ld (by omega) (by decide), b2.1]
        have i2 := hP' a b ha hb
        by_cases z : mrg s (s (K.e2 (br r))) (s (K.e1 (br r))) a = mrg s (s (K.e2 (br r))) (s (K.e1 (br r))) b
        · rw [if_pos (by rw [i2.mp z]), if_pos z]
        · rw [if_neg (by rw [pp_eq (by omega) (by omega)]; exact fun y => z (i2.mpr y)), if_neg z, nI_1]
    by_cases q : mrg s (s (K.e2 (br r))) (s (K.e1 (br r))) a = mrg s (s (K.e2 (br r))) (s (K.e1 (br r))) b
    · rw [if_pos q] at ex ey
      exact ⟨Mx', My', e3, g3, Or.inr ⟨_, trivial, sr_lp_end ex, sr_lp_end ey⟩⟩
    · rw [if_neg q] at ex ey
      exact (ih (r + 1) Mx' My' _ _ (by omega) (e3.rx hX) hXr' (g3.ry hY) e2 g2 hP' q).step e3 g3 (fun y e => sr_lp_step ex e) (fun y e => sr_lp_step ey e)
theorem op_join {Mx My : sr_M} (h : Rel Mx My) (a b : Int32) : Bth (f4_join a b Mx) (f5_join a b My) := by
  have hh := h
  obtain ⟨K, hR, -⟩ := h
  have hW := hR.1
  have hn := hW.1
  unfold f4_join f5_join
  rcases hasP hW hR.2.1.1.1 hR.2.2.1.1 a with ⟨p, hp, rfl, e1, e2⟩ | ⟨-, e1, e2⟩
  case inr =>
    rw [e1, e2, Option.bind_some, Option.bind_some, if_pos (by rfl), if_pos (by rfl)]
    exact ⟨_, _, _, rfl, rfl, hh⟩
  rw [e1, e2, Option.bind_some, Option.bind_some, if_neg n10', if_neg n10']
  rcases hasP hW hR.2.1.1.1 hR.2.2.1.1 b with ⟨q, hq, rfl, e1, e2⟩ | ⟨-, e1, e2⟩
  case inr =>
    rw [e1, e2, Option.bind_some, Option.bind_some, if_pos (by rfl), if_pos (by rfl)]
    exact ⟨_, _, _, rfl, rfl, hh⟩
  rw [e1, e2, Option.bind_some, Option.bind_some, if_neg n10', if_neg n10']
  by_cases e : nI p = nI q
  · rw [if_pos e, if_pos e]
    exact ⟨_, _, _, rfl, rfl, hh⟩
  rw [if_neg e, if_neg e]
  rw [pp_eq (by omega) (by omega)] at e
  obtain ⟨Mx1, x1, x2, x3⟩ := Xstand hW hR.2.1
  obtain ⟨My1, y1, y2, y3⟩ := Yapart hW hR.2.2.1
  obtain ⟨m, br, hr⟩ := (x3.rx hR.2.1).2.1
  obtain ⟨Mx', My', f1, f2, f3⟩ := join_loop (m := m) (br := br) hW hp hq m 0 Mx1 My1 _ _ (by omega) (x3.rx hR.2.1) hr (y3.ry hR.2.2.1) x2 y2 (fun _ _ _ _ => Iff.rfl) e
  have hrel : Rel Mx' My' := hh.wy (x3.tr f1) (y3.tr f2)
  unfold f3_rankJoining
  rw [x1, y1, Option.bind_some, Option.bind_some]
  rcases f3 with ⟨g1, g2⟩ | ⟨v, -, g1, g2⟩
  · have g1 : sr_lp (fun z2 : Int32 × sr_M => f3_rankJoining_L6 (nI p) (nI q) z2.1 z2.2) (0, Mx1) = _ := g1
    have g2 : sr_lp (fun z4 : Int32 × sr_M => f5_join_L32 (nI p) (nI q) z4.1 z4.2) (0, My1) = _ := g2
    rw [g1, g2]
    exact ⟨_, _, _, rfl, rfl, hrel⟩
  · have g1 : sr_lp (fun z2 : Int32 × sr_M => f3_rankJoining_L6 (nI p) (nI q) z2.1 z2.2) (0, Mx1) = _ := g1
    have g2 : sr_lp (fun z4 : Int32 × sr_M => f5_join_L32 (nI p) (nI q) z4.1 z4.2) (0, My1) = _ := g2
    rw [g1, g2]
    exact ⟨_, _, _, rfl, rfl, hrel⟩
theorem tree_loop {K : RK} {m : Nat} {br : Nat → Nat} (hW : WF K) (a : Int32) : ∀ d r c Mx My s s', r + d = m → c ≤ r → RX K Mx → RXr K Mx m br → RY K My → AtN K s 60 Mx → AtN K s' 21 My → PR K.n s s' →
    Alk Mx My (sr_lp (fun z2 : Int32 × Int32 × sr_M => f3_branch_L8 a z2.1 z2.2.1 z2.2.2) (nI c, nI r, Mx)) (sr_lp (fun z2 : Int32 × Int32 × sr_M => f5_tree_L8 a z2.1 z2.2.1 z2.2.2) (nI c, nI r, My)) (fun _ => (0 : Int32) ≤ a) := by
  have hn := hW.1
  have hT := hW.2.1
  intro d
  induction d with
  | zero =>
    intro r c Mx My s s' hr hc hX hXr hY hs hs' hP
    have hm := hXr.2.1.le
    refine ⟨Mx, My, XWy.rf, YWy.rf, Or.inl ⟨sr_lp_end ?_, tree_idle hW hY hXr.2.1 _ _ (by omega) (by omega)⟩⟩
    show f3_branch_L8 a (nI c) (nI r) Mx = _
    unfold f3_branch_L8
    simp only [sr_bnd, hXr.1]
    rw [if_pos (by rw [pp_le (by omega) (by omega)]; omega)]
  | succ d ih =>
    intro r c Mx My s s' hr hc hX hXr hY hs hs' hP
    have hB := hXr.2.1
    have hm := hB.le
    have hbr := hB.1 r (by omega)
    have et := hW.2.2.1 _ hbr.1
    obtain ⟨Mx', e1, e2, e3⟩ := Xunite hW hX hbr.1 hs
    obtain ⟨My', g1, g2, g3⟩ := Ytie hW hY hbr.1 hs'
    have hP' := hP.mg et.1 et.2.1
    have iff := hP _ _ et.1 et.2.1
    have hXr' : RXr K Mx' m br := by
      obtain ⟨r1, r2, r3, r4, r5⟩ := hXr
      exact ⟨by rw [e3.2 1 (by omega)]; exact r1, r2, fun q hq => by rw [e3.2 8 (by omega)]; exact r3 q hq, fun q hq => by rw [e3.2 7 (by omega)]; exact r4 q hq, fun q h1 h2 => by rw [e3.2 7 (by omega)]; exact r5 q h1 h2⟩
    have ex : f3_branch_L8 a (nI c) (nI r) Mx = if s (K.e1 (br r)) = s (K.e2 (br r)) then some (.inl (nI c, nI (r + 1), Mx')) else if nI c = a then some (.inr (.inr (nI (br r), Mx'))) else some (.inl (nI (c + 1), nI (r + 1), Mx')) := by
      unfold f3_branch_L8
      simp only [sr_bnd, hXr.1]
      rw [if_neg (by rw [pp_le (by omega) (by omega)]; omega), pp_ld (by omega) (by decide), hXr.2.2.1 r (by omega), e1, pp_bd2]
      by_cases q : s (K.e1 (br r)) = s (K.e2 (br r))
      · rw [if_pos (bI_dec.mpr q), if_pos q, nI_1]
      · rw [if_neg (fun z => q (bI_dec.mp z)), if_neg q]
        by_cases z : nI c = a
        · rw [if_pos z, if_pos z, pp_ld (by omega) (by decide), hXr'.2.2.1 r (by omega)]
        · rw [if_neg z, if_neg z, nI_1, nI_1]
    have ey : f5_tree_L8 a (nI c) (nI r) My = if s (K.e1 (br r)) = s (K.e2 (br r)) then some (.inl (nI c, nI (r + 1), My')) else if nI c = a then some (.inr (.inr (nI (br r), My'))) else some (.inl (nI (c + 1), nI (r + 1), My')) := by
      unfold f5_tree_L8
      simp only [sr_bnd, hY.2.1]
      rw [if_neg (by rw [pp_le (by omega) (by omega)]; omega), (Yranked hW hY hB (nI r)).1 r (by omega) rfl, Option.bind_some, if_neg (Int32.not_lt.mpr (show (0 : Int32) ≤ nI (br r) from oI_s0 (by omega))), g1, pp_bd2]
      by_cases q : s (K.e1 (br r)) = s (K.e2 (br r))
      · rw [if_pos (bI_dec.mpr (iff.mp q)), if_pos q, nI_1]
      · rw [if_neg (fun z => q (iff.mpr (bI_dec.mp z))), if_neg q]
        by_cases z : nI c = a
        · rw [if_pos z, if_pos z]
        · rw [if_neg z, if_neg z, nI_1, nI_1]
    by_cases q : s (K.e1 (br r)) = s (K.e2 (br r))
    · rw [if_pos q] at ex ey
      exact (ih (r + 1) c Mx' My' _ _ (by omega) (by omega) (e3.rx hX) hXr' (g3.ry hY) e2 g2 hP').step e3 g3 (fun y e => sr_lp_step ex e) (fun y e => sr_lp_step ey e)
    · rw [if_neg q] at ex ey
      by_cases z : nI c = a
      · rw [if_pos z] at ex ey
        exact ⟨Mx', My', e3, g3, Or.inr ⟨_, by rw [← z]; exact oI_s0 (by omega), sr_lp_end ex, sr_lp_end ey⟩⟩
      · rw [if_neg z] at ex ey
        exact (ih (r + 1) (c + 1) Mx' My' _ _ (by omega) (by omega) (e3.rx hX) hXr' (g3.ry hY) e2 g2 hP').step e3 g3 (fun y e => sr_lp_step ex e) (fun y e => sr_lp_step ey e)
theorem op_tree {Mx My : sr_M} (h : Rel Mx My) (a : Int32) : Bth (f4_tree a Mx) (f5_tree a My) := by
  have hh := h
  obtain ⟨K, hR, -⟩ := h
  have hW := hR.1
  obtain ⟨Mx1, x1, x2, x3⟩ := Xstand hW hR.2.1
  obtain ⟨My1, y1, y2, y3⟩ := Yapart hW hR.2.2.1
  obtain ⟨m, br, hr⟩ := (x3.rx hR.2.1).2.1
  obtain ⟨Mx', My', f1, f2, f3⟩ := tree_loop (m := m) (br := br) hW a m 0 0 Mx1 My1 _ _ (by omega) (Nat.le_refl _) (x3.rx hR.2.1) hr (y3.ry hR.2.2.1) x2 y2 (fun _ _ _ _ => Iff.rfl)
  have hrel : Rel Mx' My' := hh.wy (x3.tr f1) (y3.tr f2)
  have hrel2 : Rel Mx My' := hh.wy XWy.rf (y3.tr f2)
  unfold f4_tree f5_tree f3_branch
  rw [x1, y1, Option.bind_some, Option.bind_some]
  rcases f3 with ⟨g1, g2⟩ | ⟨v, ok, g1, g2⟩
  · have g1 : sr_lp (fun z2 : Int32 × Int32 × sr_M => f3_branch_L8 a z2.1 z2.2.1 z2.2.2) (0, 0, Mx1) = _ := g1
    have g2 : sr_lp (fun z2 : Int32 × Int32 × sr_M => f5_tree_L8 a z2.1 z2.2.1 z2.2.2) (0, 0, My1) = _ := g2
    rw [g1, g2]
    by_cases a0 : a < 0
    · rw [if_pos a0]
      exact ⟨_, _, _, rfl, rfl, hrel2⟩
    · rw [if_neg a0]
      exact ⟨_, _, _, rfl, rfl, hrel⟩
  · have g1 : sr_lp (fun z2 : Int32 × Int32 × sr_M => f3_branch_L8 a z2.1 z2.2.1 z2.2.2) (0, 0, Mx1) = _ := g1
    have g2 : sr_lp (fun z2 : Int32 × Int32 × sr_M => f5_tree_L8 a z2.1 z2.2.1 z2.2.2) (0, 0, My1) = _ := g2
    rw [g1, g2, if_neg (Int32.not_lt.mpr ok)]
    exact ⟨_, _, _, rfl, rfl, hrel⟩
