/-! THE CALLS OF A RUN -/
def On (K : RK) (S : FS) (Mx My : sr_M) : Prop := SOK K S ∧ FX K S 30 Mx ∧ FY K S My ∧ Mx.1 30 1 = 1 ∧ My.1 0 13 = 1
def Rel (Mx My : sr_M) : Prop := ∃ K, Rest K Mx My ∧ ((Mx.1 30 1 = 0 ∧ My.1 0 13 = 0) ∨ ∃ S, On K S Mx My)
def Bth (fx fy : Option (Int32 × sr_M)) : Prop := ∃ r Mx' My', fx = some (r, Mx') ∧ fy = some (r, My') ∧ Rel Mx' My'
theorem Rest.fr {K : RK} {Mx My Mx' My' : sr_M} (h : Rest K Mx My) (a : XFr 30 Mx Mx') (b : YFr My My') : Rest K Mx' My' :=
  h.keep (fun q h1 h2 => a.2 q (by omega)) a.1 (by rw [a.2 0 (by omega)]) (a.2 61 (by omega)) (fun q h1 h2 => b.2.1 q (by omega)) b.1 (fun j hj => b.2.2 j (by omega)) (b.2.1 15 (by omega))
theorem XFr.rx {K : RK} {o : Nat} {M M' : sr_M} (h : XFr o M M') (ho : 30 ≤ o) (hX : RX K M) : RX K M' := hX.kept (fun q h1 h2 => h.2 q (by omega))
theorem adv_o {K : RK} {S : FS} {o : Nat} {Mx My : sr_M} (ho : 30 ≤ o) (hW : WF K) (hX : RX K Mx) (hY : RY K My) (hS : SOK K S) (hFX : FX K S o Mx) (hFY : FY K S My) :
    ∃ b, S.nx K b ∧ f5_nextThroat My = some (oI b) ∧ (b = none → f1_advance o Mx = some (oI none, Mx)) ∧ ∀ t, b = some t → t < K.T ∧ ∃ Mx' My', f1_advance o Mx = some (nI t, Mx') ∧ f5_open (nI t) My = some My' ∧ SOK K (S.go K t) ∧ FX K (S.go K t) o Mx' ∧ FY K (S.go K t) My' ∧ XFr o Mx Mx' ∧ Mx'.1 o 1 = Mx.1 o 1 ∧ YFr My My' := by
  obtain ⟨r, ey, b, rfl, hb⟩ := Ynext hW hY hS hFY
  obtain ⟨⟨v, Mx'⟩, ex, b', e1, hb', h1, h2⟩ := Xadvance hW hX ho hS hFX
  have e1 : v = oI b' := e1
  have h1 : b' = none → Mx' = Mx := h1
  obtain rfl := hb.uniq hb'
  refine ⟨b, hb, ey, fun e => ?_, fun t e => ?_⟩
  · subst e; rw [ex, e1, h1 rfl]
  · subst e
    have hcd := hb.cd
    obtain ⟨a1, a2, a3, a4⟩ := h2 t rfl
    obtain ⟨My', ey', c1, c2⟩ := Yopen hW hY hS hFY hcd
    exact ⟨hcd.1, Mx', My', by rw [ex, e1]; rfl, ey', hS.go hW hcd, a1, c1, ⟨a2, a3⟩, a4 1 (by omega) (by omega), c2⟩
theorem On.adv {K : RK} {S : FS} {Mx My : sr_M} (hR : Rest K Mx My) (hO : On K S Mx My) :
    ∃ b, S.nx K b ∧ f5_nextThroat My = some (oI b) ∧ (b = none → f1_advance 30 Mx = some (oI none, Mx)) ∧ ∀ t, b = some t → t < K.T ∧ ∃ Mx' My', f1_advance 30 Mx = some (nI t, Mx') ∧ f5_open (nI t) My = some My' ∧ Rest K Mx' My' ∧ On K (S.go K t) Mx' My' := by
  obtain ⟨hS, hFX, hFY, o1, o2⟩ := hO
  obtain ⟨b, b1, b2, b3, b4⟩ := adv_o (o := 30) (Nat.le_refl _) hR.1 hR.2.1 hR.2.2.1 hS hFX hFY
  refine ⟨b, b1, b2, b3, fun t e => ?_⟩
  obtain ⟨ht, Mx', My', c1, c2, c3, c4, c5, c6, c7, c8⟩ := b4 t e
  exact ⟨ht, Mx', My', c1, c2, hR.fr c6 c8, c3, c4, c5, c7.trans o1, (c8.2.2 13 (by omega)).trans o2⟩
theorem sr_jn_ {α β : Type} {x : α} {F : α → β} : sr_jn x F = F x := rfl
theorem Ymany3 {K : RK} {M : sr_M} {fl : Nat → Option Nat} (hW : WF K) (hY : RY K M) (hb : bnd K fl) (hf : At K fl 12 M) (h13 : M.1 0 13 = 1) : f5_many 3 M = some (nI (cn_ (fun p => (fl p).isSome) K.n), M) := by
  unfold f5_many
  simp only [sr_jn, sr_bnd, h13]
  rw [if_neg (by decide), if_pos (by decide), if_neg (by decide), if_neg (by decide), if_neg (by decide), if_neg (by decide), if_neg (by decide)]
  rw [show f5_countPores 3 M = _ from Ycnt3 hW hY hb hf]
  rfl
theorem op_begin {Mx My : sr_M} (h : Rel Mx My) : Bth (f4_begin Mx) (f5_begin My) := by
  obtain ⟨K, hR, -⟩ := h
  obtain ⟨hW, hX, hY, hC, hT⟩ := hR
  obtain ⟨Mx', ex, fx, frx, x1⟩ := Xstart (o := 30) hW hX (Nat.le_refl _)
  have hY1 : RY K (sr_wI My 0 13 1) := hY.kept (by rw [pp_wI3 (by omega)]) (by rw [pp_wI3 (by omega)]) (by rw [pp_wI3 (by omega)]) (fun q h1 h2 => by rw [pp_wI1 (by omega)])
  obtain ⟨My', ey, fy, fry⟩ := Ystart hW hY1
  have h13 : My'.1 0 13 = 1 := by rw [fry.2.2 13 (by omega), pp_wI2]
  unfold f4_begin f5_begin
  rw [ex, Option.bind_some, XcntF hW (frx.rx (Nat.le_refl _) hX).1 (SOK.new.bf hW) fx.2.2.2.1, Option.bind_some, pp_putB (Or.inr rfl), ey, Option.bind_some, Ymany3 hW (fry.ry hY1) (SOK.new.bf hW) fy.2.2.1 h13]
  refine ⟨_, Mx', My', rfl, rfl, K, ?_, Or.inr ⟨_, SOK.new, fx, fy, x1, h13⟩⟩
  refine Rest.keep (Mx := Mx) (My := My) ⟨hW, hX, hY, hC, hT⟩ (fun q h1 h2 => frx.2 q (by omega)) frx.1 (by rw [frx.2 0 (by omega)]) (frx.2 61 (by omega)) (fun q h1 h2 => by rw [fry.2.1 q (by omega), pp_wI1 (by omega)]) fry.1 (fun j hj => by rw [fry.2.2 j (by omega), pp_wI3 (by omega)]) (by rw [fry.2.1 15 (by omega), pp_wI1 (by omega)])
theorem n10 : ¬ ((1 : Int32) = 0) := by decide
theorem n10' : ¬ (nI 1 = 0) := by decide
theorem op_step {Mx My : sr_M} (h : Rel Mx My) : Bth (f4_step Mx) (f5_step My) := by
  have hh := h
  obtain ⟨K, hR, ⟨h1, h2⟩ | ⟨S, hO⟩⟩ := h
  · unfold f4_step f5_step
    simp only [sr_bnd, h1, h2, if_true]
    exact ⟨_, _, _, rfl, rfl, hh⟩
  · obtain ⟨b, b1, b2, b3, b4⟩ := hO.adv hR
    have hT := hR.1.2.1
    unfold f4_step f5_step
    simp only [sr_bnd, hO.2.2.2.1, hO.2.2.2.2]
    rw [if_neg n10, if_neg n10, b2, Option.bind_some]
    cases b with
    | none =>
      rw [b3 rfl, pp_bd2, if_neg oI_n0, if_neg oI_n0]
      exact ⟨_, _, _, rfl, rfl, hh⟩
    | some t =>
      obtain ⟨ht, Mx', My', c1, c2, c3, c4⟩ := b4 t rfl
      have p : (0 : Int32) ≤ nI t := oI_s0 (by omega)
      have p' : (0 : Int32) ≤ oI (some t) := oI_s0 (by omega)
      have c2' : f5_open (oI (some t)) My = some My' := c2
      rw [c1, pp_bd2, if_pos p, if_pos p', c2']
      exact ⟨_, _, _, rfl, rfl, K, c3, Or.inr ⟨_, c4⟩⟩
theorem run_loop {K : RK} {a st0 : Nat} (ha : a ≤ 200) : ∀ (n : Nat) (s : Int32 × sr_M) (t : Int32 × Int32 × sr_M), (∃ k S b, k + n = a ∧ s.1 = nI k ∧ t.1 = nI k ∧ t.2.1 = oI b ∧ S.nx K b ∧ Rest K s.2 t.2.2 ∧ On K S s.2 t.2.2 ∧ S.st = st0 + k) →
    ∃ r r', sr_lp (fun z3 : Int32 × sr_M => f4_run_L36 (nI a) z3.1 z3.2) s = some r ∧ sr_lp (fun z3 : Int32 × Int32 × sr_M => f5_run_L30 (nI a) z3.1 z3.2.1 z3.2.2) t = some r' ∧ ∃ k S, r'.1 = nI k ∧ k ≤ a ∧ Rest K r r'.2 ∧ On K S r r'.2 ∧ S.st = st0 + k := by
  refine lpp_ (R := fun n (s : Int32 × sr_M) (t : Int32 × Int32 × sr_M) => ∃ k S b, k + n = a ∧ s.1 = nI k ∧ t.1 = nI k ∧ t.2.1 = oI b ∧ S.nx K b ∧ Rest K s.2 t.2.2 ∧ On K S s.2 t.2.2 ∧ S.st = st0 + k) (Q := fun (r : sr_M) (r' : Int32 × sr_M) => ∃ k S, r'.1 = nI k ∧ k ≤ a ∧ Rest K r r'.2 ∧ On K S r r'.2 ∧ S.st = st0 + k) ?_ ?_
  · rintro n ⟨s1, Mx⟩ ⟨t1, t2, My⟩ ⟨k, S, b, h1, h2, h3, h4, h5, h6, h7, h8⟩
    have h2 : s1 = nI k := h2
    have h3 : t1 = nI k := h3
    have h4 : t2 = oI b := h4
    have h6 : Rest K Mx My := h6
    have h7 : On K S Mx My := h7
    subst h2 h3 h4
    have hT := h6.1.2.1
    obtain ⟨b', b1, b2, b3, b4⟩ := h7.adv h6
    obtain rfl := h5.uniq b1
    have ka : ¬ nI a ≤ nI k := by rw [pp_le (by omega) (by omega)]; omega
    cases b with
    | none =>
      have ex : f4_run_L36 (nI a) (nI k) Mx = some (.inr Mx) := by
        unfold f4_run_L36
        rw [if_neg ka, b3 rfl, pp_bd2, if_neg oI_n0]
      have ey : f5_run_L30 (nI a) (nI k) (oI none) My = some (.inr (nI k, My)) := by
        unfold f5_run_L30
        rw [if_neg ka, if_pos (by decide)]
      exact Or.inr ⟨Mx, (nI k, My), ex, ey, k, S, rfl, by omega, h6, h7, h8⟩
    | some t =>
      obtain ⟨ht, Mx', My', c1, c2, c3, c4⟩ := b4 t rfl
      have p : (0 : Int32) ≤ nI t := oI_s0 (by omega)
      obtain ⟨b', d1, d2, -, -⟩ := c4.adv c3
      have ex : f4_run_L36 (nI a) (nI k) Mx = some (.inl (nI (k + 1), Mx')) := by
        unfold f4_run_L36
        rw [if_neg ka, c1, pp_bd2, if_pos p, nI_1]
      have ey : f5_run_L30 (nI a) (nI k) (nI t) My = some (.inl (nI (k + 1), oI b', My')) := by
        unfold f5_run_L30
        rw [if_neg ka, if_neg (Int32.not_lt.mpr p), c2, Option.bind_some, d2, Option.bind_some, nI_1]
      refine Or.inl ⟨(nI (k + 1), Mx'), (nI (k + 1), oI b', My'), ex, ey, k + 1, S.go K t, b', by omega, rfl, rfl, rfl, d1, c3, c4, ?_⟩
      show S.st + 1 = st0 + (k + 1)
      omega
  · rintro ⟨s1, Mx⟩ ⟨t1, t2, My⟩ ⟨k, S, b, h1, h2, h3, h4, h5, h6, h7, h8⟩
    have h2 : s1 = nI k := h2
    have h3 : t1 = nI k := h3
    have h4 : t2 = oI b := h4
    have h6 : Rest K Mx My := h6
    have h7 : On K S Mx My := h7
    subst h2 h3 h4
    obtain rfl : k = a := by omega
    have ex : f4_run_L36 (nI k) (nI k) Mx = some (.inr Mx) := by
      unfold f4_run_L36
      rw [if_pos (Int32.le_refl _)]
    have ey : f5_run_L30 (nI k) (nI k) (oI b) My = some (.inr (nI k, My)) := by
      unfold f5_run_L30
      rw [if_pos (Int32.le_refl _)]
    exact ⟨Mx, (nI k, My), ex, ey, k, S, rfl, by omega, h6, h7, h8⟩
theorem op_run {Mx My : sr_M} (h : Rel Mx My) (a : Int32) : Bth (f4_run a Mx) (f5_run a My) := by
  have hh := h
  obtain ⟨K, hR, ⟨h1, h2⟩ | ⟨S, hO⟩⟩ := h
  · unfold f4_run f5_run
    simp only [sr_bnd, h1, h2, if_true]
    exact ⟨_, _, _, rfl, rfl, hh⟩
  · unfold f4_run f5_run
    simp only [sr_bnd, hO.2.2.2.1, hO.2.2.2.2]
    rw [if_neg n10, if_neg n10]
    by_cases a0 : a < 0
    · rw [if_pos a0, if_pos a0]
      exact ⟨_, _, _, rfl, rfl, hh⟩
    rw [if_neg a0, if_neg a0]
    by_cases a2 : a ≤ 200
    case neg =>
      rw [if_neg a2, if_neg a2]
      exact ⟨_, _, _, rfl, rfl, hh⟩
    rw [if_pos a2, if_pos a2]
    rcases pk_ix a (n := 201) (by decide) with q | q | ⟨j, hj, rfl⟩
    · exact absurd q a0
    · exact absurd (Int32.le_trans q a2) (by decide)
    obtain ⟨b, b1, b2, -, -⟩ := hO.adv hR
    obtain ⟨Mx', ⟨r1, My'⟩, e1, e2, k, S', g1, g2, g3, g4, g5⟩ := run_loop (K := K) (a := j) (st0 := S.st) (by omega) j (0, Mx) (0, oI b, My) ⟨0, S, b, by omega, rfl, rfl, rfl, b1, hR, hO, rfl⟩
    have g1 : r1 = nI k := g1
    rw [e1, b2, Option.bind_some, Option.bind_some, e2, Option.bind_some, g4.2.1.1, hO.2.1.1, g5, pp_sub (by omega), g1, show S.st + k - S.st = k by omega]
    exact ⟨_, _, _, rfl, rfl, K, g3, Or.inr ⟨S', g4⟩⟩
theorem op_undo {Mx My : sr_M} (h : Rel Mx My) (a : Int32) : Bth (f4_undo a Mx) (f5_undo a My) := by
  have hh := h
  obtain ⟨K, hR, ⟨h1, h2⟩ | ⟨S, hO⟩⟩ := h
  · unfold f4_undo f5_undo
    simp only [sr_bnd, h1, h2, if_true]
    exact ⟨_, _, _, rfl, rfl, hh⟩
  · have hle := hO.1.le
    have hn := hR.1.1
    unfold f4_undo f5_undo
    simp only [sr_bnd, hO.2.2.2.1, hO.2.2.2.2, hO.2.1.1, hO.2.2.1.1]
    rw [if_neg n10, if_neg n10]
    by_cases a0 : a < 0
    · rw [if_pos a0, if_pos a0]
      exact ⟨_, _, _, rfl, rfl, hh⟩
    rw [if_neg a0, if_neg a0]
    by_cases a2 : a ≤ nI S.st
    case neg =>
      rw [if_neg a2, if_neg a2]
      exact ⟨_, _, _, rfl, rfl, hh⟩
    rw [if_pos a2, if_pos a2]
    rcases pk_ix a (n := S.st + 1) (by omega) with q | q | ⟨j, hj, rfl⟩
    · exact absurd q a0
    · have := Int32.le_trans q a2
      rw [pp_le (by omega) (by omega)] at this
      omega
    obtain ⟨Mx', ex, fx, frx, x1⟩ := Xback (s := S.st - j) hR.1 hR.2.1 (Nat.le_refl 30) hO.1 (by omega) hO.2.1
    obtain ⟨My', ey, fy, fry⟩ := Yback (s := S.st - j) hR.1 hR.2.2.1 hO.1 (by omega) hO.2.2.1
    simp only [sr_put]
    rw [pp_sub (by omega), ex, Option.bind_some, ey, Option.bind_some, fx.1, fy.1]
    exact ⟨_, _, _, rfl, rfl, K, hR.fr frx fry, Or.inr ⟨_, hO.1.back (by omega), fx, fy, x1.trans hO.2.2.2.1, (fry.2.2 13 (by omega)).trans hO.2.2.2.2⟩⟩
theorem op_opened {Mx My : sr_M} (h : Rel Mx My) (a : Int32) : ∃ r, f4_opened a Mx = some r ∧ f5_opened a My = some r := by
  obtain ⟨K, hR, ⟨h1, h2⟩ | ⟨S, hO⟩⟩ := h
  · unfold f4_opened f5_opened
    simp only [sr_bnd, h1, h2, if_true]
    exact ⟨_, rfl, rfl⟩
  · have hle := hO.1.le
    have hn := hR.1.1
    unfold f4_opened f5_opened
    simp only [sr_bnd, hO.2.2.2.1, hO.2.2.2.2, hO.2.1.1, hO.2.2.1.1]
    rw [if_neg n10, if_neg n10]
    by_cases a0 : a < 1
    · rw [if_pos a0, if_pos a0]
      exact ⟨_, rfl, rfl⟩
    rw [if_neg a0, if_neg a0]
    by_cases a2 : a ≤ nI S.st
    case neg =>
      rw [if_neg a2, if_pos (Int32.not_le.mp a2)]
      exact ⟨_, rfl, rfl⟩
    rw [if_pos a2, if_neg (Int32.not_lt.mpr a2)]
    rcases pk_ix a (n := S.st + 1) (by omega) with q | q | ⟨j, hj, rfl⟩
    · refine absurd (Int32.lt_trans q ?_) a0
      decide
    · have := Int32.le_trans q a2
      rw [pp_le (by omega) (by omega)] at this
      omega
    · have j1 : 1 ≤ j := by
        rcases Nat.eq_zero_or_pos j with q | q
        · subst q; exact absurd (by decide) a0
        · exact q
      rw [pp_ld (by omega) (by decide), pp_ld (by omega) (by decide), hO.2.1.2.1 j j1 (by omega), hO.2.2.1.2.1 j j1 (by omega)]
      exact ⟨_, rfl, rfl⟩
/-- what telling the lakes leaves alone -/
def YTl (M M' : sr_M) : Prop := M'.2 = M.2 ∧ (∀ q, q ≠ 0 → q ≠ 19 → M'.1 q = M.1 q) ∧ ∀ j, j ≠ 25 → M'.1 0 j = M.1 0 j
theorem Rel.tell {K : RK} {S : FS} {Mx My My' : sr_M} (hR : Rest K Mx My) (hO : On K S Mx My) (h : YTl My My') : Rest K Mx My' ∧ On K S Mx My' := by
  obtain ⟨h1, h2, h3⟩ := h
  obtain ⟨o1, o2, ⟨f1, f2, f3, f4, f5⟩, o4, o5⟩ := hO
  refine ⟨hR.keep (fun _ _ _ => rfl) rfl rfl rfl (fun q a b => h2 q (by omega) (by omega)) h1 (fun j hj => h3 j (by omega)) (h2 15 (by omega) (by omega)), o1, o2, ⟨by rw [h3 14 (by omega)]; exact f1, fun k a b => by rw [h2 11 (by omega) (by omega)]; exact f2 k a b, fun p hp => by rw [h2 12 (by omega) (by omega)]; exact f3 p hp, fun p hp => by rw [h2 13 (by omega) (by omega)]; exact f4 p hp, fun p hp => by rw [h2 14 (by omega) (by omega)]; exact f5 p hp⟩, o4, by rw [h3 13 (by omega)]; exact o5⟩
theorem On.tell {K : RK} {S : FS} {Mx My : sr_M} (hR : Rest K Mx My) (hO : On K S Mx My) : ∃ My', f5_tellLakes My = some My' ∧ At K (lks K S.ct (S.st + 1)).1 19 My' ∧ My'.1 0 25 = nI (lks K S.ct (S.st + 1)).2 ∧ Rest K Mx My' ∧ On K S Mx My' := by
  obtain ⟨My', e, a1, a2, a3, a4, a5⟩ := YtellLakes (st := S.st) (ct := S.ct) hR.1 hR.2.2.1 (fun p k e => (hO.1.2.1 p k e).1) hO.1.le hO.2.2.1.2.2.2.2 hO.2.2.1.1
  obtain ⟨r1, r2⟩ := Rel.tell hR hO ⟨a3, a4, a5⟩
  exact ⟨My', e, a1, a2, r1, r2⟩
theorem op_now {Mx My : sr_M} (h : Rel Mx My) (a w : Int32) : ∃ r My', f4_now a w Mx = some r ∧ f5_now a w My = some (r, My') ∧ Rel Mx My' := by
  have hh := h
  obtain ⟨K, hR, ⟨h1, h2⟩ | ⟨S, hO⟩⟩ := h
  · unfold f4_now f5_now
    simp only [sr_bnd, h1, h2, if_true]
    exact ⟨_, _, rfl, rfl, hh⟩
  · have hn := hR.1.1
    unfold f4_now f5_now
    simp only [sr_bnd, hO.2.2.2.1, hO.2.2.2.2]
    rw [if_neg n10, if_neg n10]
    rcases hasP hR.1 hR.2.1.1.1 hR.2.2.1.1 a with ⟨p, hp, rfl, e1, e2⟩ | ⟨-, e1, e2⟩
    case inr =>
      rw [e1, e2, Option.bind_some, Option.bind_some, if_pos (by rfl), if_pos (by rfl)]
      exact ⟨_, _, rfl, rfl, hh⟩
    rw [e1, e2, Option.bind_some, Option.bind_some, if_neg n10', if_neg n10']
    rcases pk_ix w (n := 4) (by decide) with q | q | ⟨j, hj, rfl⟩
    · have n0 : ¬ w = 0 := fun e => by subst e; exact absurd q (by decide)
      have n1 : ¬ w = 1 := fun e => by subst e; exact absurd q (by decide)
      have n2 : ¬ w = 2 := fun e => by subst e; exact absurd q (by decide)
      have n3 : ¬ w = 3 := fun e => by subst e; exact absurd q (by decide)
      rw [if_neg n0, if_neg n1, if_neg n2, if_neg n3, if_pos q]
      exact ⟨_, _, rfl, rfl, hh⟩
    · have n0 : ¬ w = 0 := fun e => by subst e; exact absurd q (by decide)
      have n1 : ¬ w = 1 := fun e => by subst e; exact absurd q (by decide)
      have n2 : ¬ w = 2 := fun e => by subst e; exact absurd q (by decide)
      have n3 : ¬ w = 3 := fun e => by subst e; exact absurd q (by decide)
      have nn : ¬ w ≤ 3 := fun e => absurd (Int32.le_trans q e) (by decide)
      rw [if_neg n0, if_neg n1, if_neg n2, if_neg n3, if_neg nn]
      refine ⟨_, _, rfl, ?_, hh⟩
      exact ite_self _
    · obtain ⟨My', et, a1, a2, r1, r2⟩ := hO.tell hR
      rw [if_neg (show ¬ nI j < 0 from fun q => nI_pos (n := j) (by omega) q), if_pos (show nI j ≤ 3 from (show nI j ≤ nI 3 by rw [pp_le (by omega) (by omega)]; omega)), et, Option.bind_some]
      have c : j = 0 ∨ j = 1 ∨ j = 2 ∨ j = 3 := by omega
      rcases c with rfl | rfl | rfl | rfl
      · rw [if_pos (by rfl), if_pos (by rfl), pp_ld (by omega) (by decide), pp_ld (by omega) (by decide), r2.2.1.2.2.2.1 p hp, r2.2.2.1.2.2.1 p hp]
        exact ⟨_, _, rfl, rfl, K, r1, Or.inr ⟨S, r2⟩⟩
      · rw [if_neg (by decide), if_pos (by rfl), if_neg (by decide), if_pos (by rfl), pp_ld (by omega) (by decide), pp_ld (by omega) (by decide), r2.2.1.2.2.2.2.1 p hp, r2.2.2.1.2.2.2.1 p hp]
        exact ⟨_, _, rfl, rfl, K, r1, Or.inr ⟨S, r2⟩⟩
      · rw [if_neg (by decide), if_neg (by decide), if_pos (by rfl), if_neg (by decide), if_neg (by decide), if_pos (by rfl), pp_ld (by omega) (by decide), pp_ld (by omega) (by decide), r2.2.1.2.2.2.2.2.1 p hp, r2.2.2.1.2.2.2.2 p hp]
        exact ⟨_, _, rfl, rfl, K, r1, Or.inr ⟨S, r2⟩⟩
      · rw [if_neg (by decide), if_neg (by decide), if_neg (by decide), if_pos (by rfl), if_neg (by decide), if_neg (by decide), if_neg (by decide), pp_ld (by omega) (by decide), pp_ld (by omega) (by decide), r2.2.1.2.2.2.2.2.2.1 p hp, a1 p hp]
        exact ⟨_, _, rfl, rfl, K, r1, Or.inr ⟨S, r2⟩⟩
theorem op_many {Mx My : sr_M} (h : Rel Mx My) (a : Int32) : ∃ r My', f4_many a Mx = some r ∧ f5_many a My = some (r, My') ∧ Rel Mx My' := by
  have hh := h
  obtain ⟨K, hR, hor⟩ := h
  have hT' := hR.2.2.2.2
  obtain ⟨m, m200, t1, t2, -⟩ := hT'
  have x1 := hR.2.1.1.1
  have x2 := hR.2.1.1.2.1
  have y1 := hR.2.2.1.1
  have y2 := hR.2.2.1.2.1
  unfold f4_many f5_many
  simp only [sr_jn, sr_bnd]
  rcases pk_ix a (n := 9) (by decide) with q | q | ⟨j, hj, rfl⟩
  · have q : a < 0 := q
    rw [if_pos q, if_pos q]
    exact ⟨_, _, rfl, rfl, hh⟩
  · have nn : ¬ a ≤ 8 := fun e => absurd (Int32.le_trans q e) (by decide)
    by_cases a0 : a < 0
    · rw [if_pos a0, if_pos a0]; exact ⟨_, _, rfl, rfl, hh⟩
    · rw [if_neg a0, if_neg a0, if_neg nn, if_neg nn]; exact ⟨_, _, rfl, rfl, hh⟩
  · have c : j = 0 ∨ j = 1 ∨ j = 8 ∨ (2 ≤ j ∧ j ≤ 7) := by omega
    rw [if_neg (show ¬ nI j < 0 from fun q => nI_pos (n := j) (by omega) q), if_neg (show ¬ nI j < 0 from fun q => nI_pos (n := j) (by omega) q), if_pos (show nI j ≤ 8 from (show nI j ≤ nI 8 by rw [pp_le (by omega) (by omega)]; omega)), if_pos (show nI j ≤ 8 from (show nI j ≤ nI 8 by rw [pp_le (by omega) (by omega)]; omega))]
    rcases c with rfl | rfl | rfl | c
    · rw [if_pos (by rfl), if_pos (by decide), if_pos (by rfl), x1, y1]
      exact ⟨_, _, rfl, rfl, hh⟩
    · rw [if_neg (by decide), if_pos (by rfl), if_pos (by decide), if_neg (by decide), if_pos (by rfl), x2, y2]
      exact ⟨_, _, rfl, rfl, hh⟩
    · rw [if_neg (by decide), if_neg (by decide), if_pos (by rfl), if_neg (by decide), if_pos (by rfl), if_neg (by decide), if_neg (by decide), t1, t2]
      exact ⟨_, _, rfl, rfl, hh⟩
    · rw [if_neg (show ¬ nI j = 0 from (show ¬ nI j = nI 0 by rw [pp_eq (by omega) (by omega)]; omega)), if_neg (show ¬ nI j = 1 from (show ¬ nI j = nI 1 by rw [pp_eq (by omega) (by omega)]; omega)), if_neg (show ¬ nI j = 8 from (show ¬ nI j = nI 8 by rw [pp_eq (by omega) (by omega)]; omega)), if_neg (show ¬ nI j ≤ 1 from (show ¬ nI j ≤ nI 1 by rw [pp_le (by omega) (by omega)]; omega)), if_neg (show ¬ nI j = 8 from (show ¬ nI j = nI 8 by rw [pp_eq (by omega) (by omega)]; omega))]
      rcases hor with ⟨h1, h2⟩ | ⟨S, hO⟩
      · rw [h1, h2, if_pos rfl, if_pos rfl]
        exact ⟨_, _, rfl, rfl, hh⟩
      · have hW := hR.1
        have bf := hO.1.bf hW
        have bc := hO.1.bc hW
        have hle := hO.1.le
        rw [hO.2.2.2.1, hO.2.2.2.2, if_neg n10, if_neg n10]
        unfold f4_manyInRun
        simp only [sr_bnd]
        have c : j = 2 ∨ j = 3 ∨ j = 4 ∨ j = 5 ∨ j = 6 ∨ j = 7 := by omega
        rcases c with rfl | rfl | rfl | rfl | rfl | rfl
        · rw [if_pos (by rfl), if_pos (by rfl), hO.2.1.1, hO.2.2.1.1]
          exact ⟨_, _, rfl, rfl, hh⟩
        · rw [if_neg (by decide), if_pos (by rfl), if_neg (by decide), if_neg (by decide), XcntF hW hR.2.1.1 bf hO.2.1.2.2.2.1, Ycnt3 hW hR.2.2.1 bf hO.2.2.1.2.2.1]
          exact ⟨_, _, rfl, rfl, hh⟩
        · rw [if_neg (by decide), if_neg (by decide), if_pos (by rfl), if_neg (by decide), if_neg (by decide), XcntC hW hR.2.1.1 bc hO.2.1.2.2.2.2.2.1, Ycnt4 hW hR.2.2.1 bc hO.2.2.1.2.2.2.2]
          exact ⟨_, _, rfl, rfl, hh⟩
        · have e3 := cn_three (n := K.n) (P := fun p => (S.fl p).isSome) (Q := fun p => (S.ct p).isSome) (fun i _ e => by
            cases ec : S.ct i with
            | none => rfl
            | some k => have := (hO.1.2.1 i k ec).2; rw [this] at e; cases e)
          rw [if_neg (by decide), if_neg (by decide), if_neg (by decide), if_pos (by rfl), if_neg (by decide), if_neg (by decide), XcntF hW hR.2.1.1 bf hO.2.1.2.2.2.1, XcntC hW hR.2.1.1 bc hO.2.1.2.2.2.2.2.1, Ycnt5 hW hR.2.2.1 bf bc hO.2.2.1.2.2.1 hO.2.2.1.2.2.2.2, x1]
          simp only [Option.bind_some]
          rw [pp_sub (by omega), pp_sub (by omega)]
          refine ⟨_, _, rfl, ?_, hh⟩
          rw [show K.n - cn_ (fun p => (S.fl p).isSome) K.n - cn_ (fun p => (S.ct p).isSome) K.n = cn_ (fun i => !(S.fl i).isSome && !(S.ct i).isSome) K.n by omega]
        · obtain ⟨My', et, a1, a2, r1, r2⟩ := hO.tell hR
          rw [if_neg (by decide), if_neg (by decide), if_neg (by decide), if_neg (by decide), if_pos (by rfl), if_neg (by decide), if_pos (by decide), if_pos (by rfl), et, Option.bind_some, Option.bind_some, a2, hO.2.1.2.2.2.2.2.2.2.1]
          exact ⟨_, _, rfl, rfl, K, r1, Or.inr ⟨S, r2⟩⟩
        · rw [if_neg (by decide), if_neg (by decide), if_neg (by decide), if_neg (by decide), if_neg (by decide), if_neg (by decide), if_pos (by decide), if_neg (by decide), XcntD hW hR.2.1 bf bc hO.2.1.2.2.2.1 hO.2.1.2.2.2.2.2.1, YcntD hW hR.2.2.1 bf bc hO.2.2.1.2.2.1 hO.2.2.1.2.2.2.2]
          exact ⟨_, _, rfl, rfl, hh⟩
