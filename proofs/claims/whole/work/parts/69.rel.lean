/-! EVERY CALL KEEPS THE RELATION AND ANSWERS ALIKE -/
theorem Ends.bth {K : RK} {fx fy : sr_M → Option (Int32 × sr_M)} {Mx My : sr_M} (h : Rel Mx My) (hE : Ends K fx fy Mx My) : Bth (fx Mx) (fy My) := by
  obtain ⟨r, ⟨e1, e2⟩ | ⟨K', Mx', My', e1, e2, hR, o1, o2⟩⟩ := hE
  · exact ⟨r, Mx, My, e1, e2, h⟩
  · exact ⟨r, Mx', My', e1, e2, K', hR, Or.inl ⟨o1, o2⟩⟩
theorem Rel.cores {Mx My Mx' My' : sr_M} (h : Rel Mx My) (hC : Cores Mx' My') (a : FrCX Mx Mx') (b : FrCY My My') : Rel Mx' My' := by
  obtain ⟨K, ⟨hW, hX, hY, -, hT⟩, hor⟩ := h
  refine ⟨K, ⟨hW, hX.kept (fun q h1 h2 => a q (by omega)), hY.kept (by rw [b 0 (by omega) (by omega)]) (by rw [b 0 (by omega) (by omega)]) (by rw [b 0 (by omega) (by omega)]) (fun q h1 h2 => b q (by omega) (by omega)), hC, hT.kept (by rw [a 0 (by omega)]) (a 61 (by omega)) (by rw [b 0 (by omega) (by omega)]) (b 15 (by omega) (by omega))⟩, ?_⟩
  rcases hor with ⟨h1, h2⟩ | ⟨S, o1, o2, o3, o4, o5⟩
  · exact Or.inl ⟨by rw [a 30 (by omega)]; exact h1, by rw [b 0 (by omega) (by omega)]; exact h2⟩
  · exact Or.inr ⟨S, o1, o2.kept (fun q h1 h2 => a q (by omega)), o3.kept (by rw [b 0 (by omega) (by omega)]) (fun q h1 h2 => b q (by omega) (by omega)), by rw [a 30 (by omega)]; exact o4, by rw [b 0 (by omega) (by omega)]; exact o5⟩
theorem Rel.told {Mx My Mx' My' : sr_M} (h : Rel Mx My) (hR' : ∀ K, Rest K Mx My → Rest K Mx' My') (a : ∀ q, 30 ≤ q → q ≤ 42 → Mx'.1 q = Mx.1 q) (b : ∀ q, q ≠ 0 → q ≠ 15 → My'.1 q = My.1 q) (c : ∀ j, j ≠ 19 → My'.1 0 j = My.1 0 j) : Rel Mx' My' := by
  obtain ⟨K, hR, hor⟩ := h
  refine ⟨K, hR' K hR, ?_⟩
  rcases hor with ⟨h1, h2⟩ | ⟨S, o1, o2, o3, o4, o5⟩
  · exact Or.inl ⟨by rw [a 30 (by omega) (by omega)]; exact h1, by rw [c 13 (by omega)]; exact h2⟩
  · exact Or.inr ⟨S, o1, o2.kept (fun q h1 h2 => a q (by omega) (by omega)), o3.kept (c 14 (by omega)) (fun q h1 h2 => b q (by omega) (by omega)), by rw [a 30 (by omega) (by omega)]; exact o4, by rw [c 13 (by omega)]; exact o5⟩
theorem Cores.bth {Mx My : sr_M} {fx fy : Option (Int32 × sr_M)} (h : Rel Mx My) (hc : ∃ r Mx' My', fx = some (r, Mx') ∧ fy = some (r, My') ∧ Cores Mx' My' ∧ FrCX Mx Mx' ∧ FrCY My My') : Bth fx fy := by
  obtain ⟨r, Mx', My', e1, e2, hC, a, b⟩ := hc
  exact ⟨r, Mx', My', e1, e2, h.cores hC a b⟩
theorem al_pore {Mx My : sr_M} (h : Rel Mx My) (a : Int32) : Bth (f4_pore a Mx) (f5_pore a My) := Ends.bth h (op_pore h.choose_spec.1 a)
theorem al_throat {Mx My : sr_M} (h : Rel Mx My) (a b : Int32) : Bth (f4_throat a b Mx) (f5_throat a b My) := Ends.bth h (op_throat h.choose_spec.1 a b)
theorem al_hinder {Mx My : sr_M} (h : Rel Mx My) (a b : Int32) : Bth (f4_hinder a b Mx) (f5_hinder a b My) := Ends.bth h (op_hinder h.choose_spec.1 a b)
theorem al_shut {Mx My : sr_M} (h : Rel Mx My) (a : Int32) (b : Bool) : Bth (f4_shut a (pp_bI b) Mx) (f5_shut a (pp_bI b) My) := Ends.bth h (op_shut h.choose_spec.1 a b)
theorem al_inlet {Mx My : sr_M} (h : Rel Mx My) (a : Int32) (b : Bool) : Bth (f4_inlet a (pp_bI b) Mx) (f5_inlet a (pp_bI b) My) := Ends.bth h (op_inlet h.choose_spec.1 a b)
theorem al_trapping {Mx My : sr_M} (h : Rel Mx My) (b : Bool) : Bth (f4_trapping (pp_bI b) Mx) (f5_trapping (pp_bI b) My) := Ends.bth h (op_trapping h.choose_spec.1 b)
theorem al_about {Mx My : sr_M} (h : Rel Mx My) (a b : Int32) : ∃ r, f4_about a b Mx = some r ∧ f5_about a b My = some r := op_about h.choose_spec.1 a b
theorem al_of {Mx My : sr_M} (h : Rel Mx My) (a b : Int32) : ∃ r, f4_of a b Mx = some r ∧ f5_of a b My = some r := op_of h.choose_spec.1 a b
theorem al_ranked {Mx My : sr_M} (h : Rel Mx My) (a : Int32) : ∃ r, f4_ranked a Mx = some r ∧ f5_ranked a My = some r := op_ranked h.choose_spec.1 a
theorem al_core {Mx My : sr_M} (h : Rel Mx My) (a b c : Int32) : Bth (f4_core a b c Mx) (f5_core a b c My) := Cores.bth h (core_core h.choose_spec.1.2.2.2.1 a b c)
theorem al_cell {Mx My : sr_M} (h : Rel Mx My) (a b : Int32) (v : Int64) (c : Int32) : Bth (f4_cell a b v c Mx) (f5_cell a b v c My) := Cores.bth h (core_cell h.choose_spec.1.2.2.2.1 a b v c)
theorem al_wild {Mx My : sr_M} (h : Rel Mx My) (a b c : Int32) : Bth (f4_wild a b c Mx) (f5_wild a b c My) := Cores.bth h (core_wild h.choose_spec.1.2.2.2.1 a b c)
theorem al_splice {Mx My : sr_M} (h : Rel Mx My) (a b c d e : Int32) : Bth (f4_splice a b c d e Mx) (f5_splice a b c d e My) := Cores.bth h (core_splice h.choose_spec.1.2.2.2.1 a b c d e)
theorem al_lose {Mx My : sr_M} (h : Rel Mx My) (a : Int32) : Bth (f4_lose a Mx) (f5_lose a My) := Cores.bth h (core_lose h.choose_spec.1.2.2.2.1 a)
theorem al_told {Mx My : sr_M} (h : Rel Mx My) (a b : Int32) : ∃ r, f4_told a b Mx = some r ∧ f5_told a b My = some r := core_told h.choose_spec.1.2.2.2.1 a b
theorem al_pour {Mx My : sr_M} (h : Rel Mx My) (a b c d : Int32) : Bth (f4_pour a b c d Mx) (f5_pour a b c d My) := Ends.bth h (op_pour h.choose_spec.1 a b c d)
theorem Told.bth {Mx My : sr_M} {fx fy : Option (Int32 × sr_M)} (h : Rel Mx My) (hc : ∀ K, Rest K Mx My → ∃ r Mx' My', fx = some (r, Mx') ∧ fy = some (r, My') ∧ Rest K Mx' My' ∧ (∀ q, 30 ≤ q → q ≤ 42 → Mx'.1 q = Mx.1 q) ∧ (∀ q, q ≠ 0 → q ≠ 15 → My'.1 q = My.1 q) ∧ ∀ j, j ≠ 19 → My'.1 0 j = My.1 0 j) : Bth fx fy := by
  obtain ⟨K, hR, -⟩ := id h
  obtain ⟨r, Mx', My', e1, e2, -, a, b, c⟩ := hc K hR
  refine ⟨r, Mx', My', e1, e2, h.told (fun K hR => ?_) a b c⟩
  obtain ⟨r2, M1, M2, g1, g2, g3, -⟩ := hc K hR
  rw [e1] at g1
  rw [e2] at g2
  cases g1
  cases g2
  exact g3
theorem al_claim {Mx My : sr_M} (h : Rel Mx My) (a : Int32) : Bth (f4_claim a Mx) (f5_claim a My) := Told.bth h (fun K hR => op_claim hR a)
theorem al_alter {Mx My : sr_M} (h : Rel Mx My) (a b : Int32) : Bth (f4_alter a b Mx) (f5_alter a b My) := Told.bth h (fun K hR => op_alter hR a b)
theorem al_unclaim {Mx My : sr_M} (h : Rel Mx My) : Bth (f4_unclaim Mx) (f5_unclaim My) := Told.bth h (fun K hR => op_unclaim hR)
/-- an empty world -/
def sr_0 : sr_M := (fun _ _ => 0, fun _ _ => 0, fun _ _ => 0)
def sr_0y : sr_M := (fun k _ => if k = 8 then -1 else 0, fun _ _ => 0, fun _ _ => 0)
theorem Rel.start {My : sr_M} (h8 : ∀ c, c < 6 → My.1 8 c = -1) (h : ∀ q, q ≠ 8 → My.1 q = fun _ => 0) : Rel sr_0 My := by
  have z : ∀ k j, sr_0.1 k j = 0 := fun _ _ => rfl
  have zy : ∀ j, My.1 0 j = 0 := fun j => by rw [h 0 (by omega)]
  refine ⟨RK.mk 0 0 (fun _ => 0) (fun _ => 0) (fun _ => 0) (fun _ => 0) (fun _ => false) (fun _ => false) false, ⟨⟨by decide, by decide, fun t ht => absurd ht (Nat.not_lt_zero _), fun p hp => absurd hp (Nat.not_lt_zero _), fun p hp => absurd hp (Nat.not_lt_zero _)⟩, ⟨?_, ⟨0, fun _ => 0, ?_⟩, ⟨fun _ => 0, fun _ => 0, ?_⟩, ⟨fun _ _ _ => rfl, fun _ _ _ => rfl⟩⟩, ?_, fun c hc => Or.inl ⟨rfl, h8 c hc⟩, ⟨0, by decide, rfl, zy 19, fun k hk => absurd hk (Nat.not_lt_zero _)⟩⟩, Or.inl ⟨rfl, zy 13⟩⟩
  · exact ⟨rfl, rfl, fun p hp => absurd hp (Nat.not_lt_zero _), fun p hp => absurd hp (Nat.not_lt_zero _), fun p hp => absurd hp (Nat.not_lt_zero _), fun p hp => absurd hp (Nat.not_lt_zero _), fun p hp => absurd hp (Nat.not_lt_zero _), rfl⟩
  · exact ⟨rfl, ⟨fun r hr => absurd hr (Nat.not_lt_zero _), fun t ht => absurd ht (Nat.not_lt_zero _), fun r r' _ hr => absurd hr (Nat.not_lt_zero _)⟩, fun r hr => absurd hr (Nat.not_lt_zero _), fun r hr => absurd hr (Nat.not_lt_zero _), fun t ht => absurd ht (Nat.not_lt_zero _)⟩
  · refine ⟨fun p hp => rfl, rfl, fun p hp => absurd hp (Nat.not_lt_zero _), rfl, fun i hi => absurd hi (Nat.not_lt_zero _), ?_⟩
    exact fun p t hp => absurd hp (Nat.not_lt_zero _)
  · exact ⟨zy 0, zy 3, fun p hp => absurd hp (Nat.not_lt_zero _), fun p hp => absurd hp (Nat.not_lt_zero _), fun p hp => absurd hp (Nat.not_lt_zero _), fun p hp => absurd hp (Nat.not_lt_zero _), fun p hp => absurd hp (Nat.not_lt_zero _), fun p hp => absurd hp (Nat.not_lt_zero _), zy 8⟩
