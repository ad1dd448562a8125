/-! THE CONSTRUCTORS that make arrays alone -/
def sr_pk {α : Type} (d : α) : List α → Nat → α
  | [], _ => d
  | a :: _, 0 => a
  | _ :: l, k + 1 => sr_pk d l k
set_option maxRecDepth 20000 in
theorem qoX0 : (.methodLink RX0 3 objectInit : Cond) ∈ sr_tbl := sr_in 237 rfl rfl
set_option maxRecDepth 20000 in
theorem qoX1 : (.methodLink RX1 3 objectInit : Cond) ∈ sr_tbl := sr_in 147 rfl rfl
set_option maxRecDepth 20000 in
theorem qoX2 : (.methodLink RX2 3 objectInit : Cond) ∈ sr_tbl := sr_in 68 rfl rfl
set_option maxRecDepth 20000 in
theorem qoX3 : (.methodLink RX3 3 objectInit : Cond) ∈ sr_tbl := sr_in 214 rfl rfl
set_option maxRecDepth 20000 in
theorem qoX4 : (.methodLink RX4 1 objectInit : Cond) ∈ sr_tbl := sr_in 60 rfl rfl
set_option maxRecDepth 20000 in
theorem qoX5 : (.methodLink RX5 1 objectInit : Cond) ∈ sr_tbl := sr_in 643 rfl rfl
set_option maxRecDepth 20000 in
theorem qoI : (.instanceMethod objectInit : Cond) ∈ sr_tbl := sr_in 61 rfl rfl
set_option maxRecDepth 20000 in
theorem qoC : (.code objectInit ⟨#[0xb1]⟩ 1 none : Cond) ∈ sr_tbl := sr_in 62 rfl rfl
def iw0 (h0 : Nat) (a : Nat → Nat) (t : Nat → ClassId) : va_W := [(h0, .inr (0, [.int 0, .int 0, .int 0, .ref (a 0), .ref (a 1)])), (a 0, .inl (t 0, 60, .inr (.inl (fun _ => 0)))), (a 1, .inl (t 1, 60, .inl (fun _ => 0)))]
def it0 (t : Nat → ClassId) : List (ClassId × FieldType) := [(t 0, .long), (t 1, .byte)]
set_option maxHeartbeats 4000000 in
set_option maxRecDepth 100000 in
theorem kI0 (l : Launch) (D : va_G) (h0 : Nat) (sz : Nat) : Met l yX0_init (.code yX0_init cX0_init 1 none :: sr_tbl) ({ frames := 1, cells := 2, slots := 120, locals := 12 }) (va_Pc [.ref h0] (fun U => U.heap.size = sz ∧ va_P D vwCl [(h0, .inr (0, [.int 0, .int 0, .int 0, .null, .null]))] U.heap ∧ va_K D vwCl [] U ∧ va_D (fun _ => True) [(h0, .inr (0, [.int 0, .int 0, .int 0, .null, .null]))])) (va_Qv (fun _ : (Nat → Nat) × (Nat → ClassId) => True) (fun u t => va_P D vwCl (iw0 h0 u.1 u.2) t.heap ∧ va_K D vwCl (it0 u.2) t ∧ va_D (va_A [(h0, .inr (0, [.int 0, .int 0, .int 0, .null, .null]))] sz) (iw0 h0 u.1 u.2)) (va_A [(h0, .inr (0, [.int 0, .int 0, .int 0, .null, .null]))] sz)) 2 120 (va_A [(h0, .inr (0, [.int 0, .int 0, .int 0, .null, .null]))] sz) := by
  refine Met.ofW (cc := cX0_init) (maxL := 1) (ret := none) (by decide) rfl ?_
  intro p e s m args below meth c s₁ B hml hv
  obtain ⟨rfl, hsz, hP, hK, hD0⟩ := hv
  have hx := B.exec
  have hb := B.bytes
  have hr := B.returns
  have hts0 := atoms_spec (ws := .code yX0_init cX0_init 1 none :: sr_tbl) B.pre
  have hts : ∀ w ∈ sr_tbl, w.before ([.ref h0] : List Value).toArray s = true := fun w hw => hts0 w (List.mem_cons_of_mem _ hw)
  have hown : s.vm.findClass RX0 = some m.cls := findClass_of_methodNamed B.named
  have hlocks := B.notSynchronized
  have hin : meth.name = "<init>" := (name_of_methodNamed B.named B.method).1
  subst hsz
  have hD := hD0.self (sz := s.heap.size)
  generalize hAe : va_A [(h0, .inr (0, [.int 0, .int 0, .int 0, .null, .null]))] s.heap.size = A at hD ⊢
  have hA : ∀ q : Nat, s.heap.size ≤ q → A q := fun q h => by rw [← hAe]; exact Or.inr h
  have hS : va_S A s.heap s.heap [] := va_S.rf
  have hl := lv_entry ([.ref h0]) (n := 1) (Nat.le_of_ble_eq_true rfl)
  rw [lg_entry_eq]
  generalize (lg_sl ([.ref h0]) ++ List.replicate (1 - (lg_sl ([.ref h0])).length) Slot.unset).toArray = ls at hl ⊢
  have hl : lv_has ls 1 [(0, .ref h0)] := hl
  refine lv_aload_n hx hb dX0_init_0 rfl (lv_at hl 0 rfl) ?_
  refine W.objInit hx hb hown (hts _ qoX0) (hts _ qoI) (hts _ qoC) rfl (by rw [hml]; exact hl.1) rfl dX0_init_1 (Nat.le_of_ble_eq_true rfl) (Nat.le_of_ble_eq_true rfl) ?_
  refine W.eq (g2 := F0 m 4 ls []) rfl ?_
  refine lv_aload_n hx hb dX0_init_4 rfl (lv_at hl 0 rfl) ?_
  refine lv_bipush (v := 60) hx hb dX0_init_5 (by decide) ?_
  refine va_newa (atype := .long) (ty := .long) (a0 := (60, .inr (.inl (fun _ => 0)))) (N' := 60) hx hb (hts _ qa_long) rfl hK hP hD hS hA (fun cA => rfl) (by decide) (by decide) (by decide) (Nat.le_of_ble_eq_true rfl) (Nat.le_of_ble_eq_true rfl) dX0_init_7 (fun q0 t0 H hK hP hD hS => ?_)
  refine W.widen (k := 1) (n := 60) (Nat.le_of_ble_eq_true rfl) (Nat.le_of_ble_eq_true rfl) ?_
  have hP : va_P D vwCl [(h0, .inr (0, [.int 0, .int 0, .int 0, .null, .null])), (q0, .inl (t0, 60, .inr (.inl (fun _ => 0))))] H := hP
  have hD : va_D A [(h0, .inr (0, [.int 0, .int 0, .int 0, .null, .null])), (q0, .inl (t0, 60, .inr (.inl (fun _ => 0))))] := hD
  have hK : va_K D vwCl [(t0, .long)] s := hK
  refine va_putF (D := D) (ci := 0) (v := .ref q0) (ty := .array .long) (C := RX0) (T := TX0) (N := 5) hx hb hts qzX0 tyX0 tyX0_ok nmX0 hown hK hP hD hS 0 rfl rfl 3 (by decide) (hts _ qfX0_9) (fun _ h9 => h9) rfl hin rfl (by decide +kernel) rfl rfl (Nat.le_of_ble_eq_true rfl) dX0_init_9 (fun H locs hP hD hS => ?_)
  have hP : va_P D vwCl [(h0, .inr (0, [.int 0, .int 0, .int 0, .ref q0, .null])), (q0, .inl (t0, 60, .inr (.inl (fun _ => 0))))] H := hP
  have hD : va_D A [(h0, .inr (0, [.int 0, .int 0, .int 0, .ref q0, .null])), (q0, .inl (t0, 60, .inr (.inl (fun _ => 0))))] := hD
  refine lv_aload_n hx hb dX0_init_12 rfl (lv_at hl 0 rfl) ?_
  refine lv_bipush (v := 60) hx hb dX0_init_13 (by decide) ?_
  refine va_newa (atype := .byte) (ty := .byte) (a0 := (60, .inl (fun _ => 0))) (N' := 60) hx hb (hts _ qa_byte) rfl hK hP hD hS hA (fun cA => rfl) (by decide) (by decide) (by decide) (Nat.le_of_ble_eq_true rfl) (Nat.le_of_ble_eq_true rfl) dX0_init_15 (fun q1 t1 H hK hP hD hS => ?_)
  refine W.widen (k := 2) (n := 120) (Nat.le_of_ble_eq_true rfl) (Nat.le_of_ble_eq_true rfl) ?_
  have hP : va_P D vwCl [(h0, .inr (0, [.int 0, .int 0, .int 0, .ref q0, .null])), (q0, .inl (t0, 60, .inr (.inl (fun _ => 0)))), (q1, .inl (t1, 60, .inl (fun _ => 0)))] H := hP
  have hD : va_D A [(h0, .inr (0, [.int 0, .int 0, .int 0, .ref q0, .null])), (q0, .inl (t0, 60, .inr (.inl (fun _ => 0)))), (q1, .inl (t1, 60, .inl (fun _ => 0)))] := hD
  have hK : va_K D vwCl [(t0, .long), (t1, .byte)] s := hK
  refine va_putF (D := D) (ci := 0) (v := .ref q1) (ty := .array .byte) (C := RX0) (T := TX0) (N := 5) hx hb hts qzX0 tyX0 tyX0_ok nmX0 hown hK hP hD hS 0 rfl rfl 4 (by decide) (hts _ qfX0_15) (fun _ h9 => h9) rfl hin rfl (by decide +kernel) rfl rfl (Nat.le_of_ble_eq_true rfl) dX0_init_17 (fun H locs hP hD hS => ?_)
  have hP : va_P D vwCl [(h0, .inr (0, [.int 0, .int 0, .int 0, .ref q0, .ref q1])), (q0, .inl (t0, 60, .inr (.inl (fun _ => 0)))), (q1, .inl (t1, 60, .inl (fun _ => 0)))] H := hP
  have hD : va_D A [(h0, .inr (0, [.int 0, .int 0, .int 0, .ref q0, .ref q1])), (q0, .inl (t0, 60, .inr (.inl (fun _ => 0)))), (q1, .inl (t1, 60, .inl (fun _ => 0)))] := hD
  exact W.vret hx hb hr (fun t ht hW => ⟨⟨(sr_pk 0 [q0, q1], sr_pk t0 [t0, t1]), rfl, trivial, by rw [ht]; exact hP, va_K.moved hW.alike hK, hD⟩, hS.F ht⟩) hS.2.2 dX0_init_20
def iw1 (h0 : Nat) (r : Nat) (a : Nat → Nat) (t : Nat → ClassId) : va_W := [(h0, .inr (1, [.ref r, .int 0, .int 0, .ref (a 0), .ref (a 1), .ref (a 2), .ref (a 3), .ref (a 4), .ref (a 5), .int 0, .ref (a 6), .ref (a 7), .ref (a 8), .ref (a 9), .ref (a 10), .ref (a 11)])), (a 0, .inl (t 0, 121, .inl (fun _ => 0))), (a 1, .inl (t 1, 121, .inl (fun _ => 0))), (a 2, .inl (t 2, 120, .inl (fun _ => 0))), (a 3, .inl (t 3, 120, .inl (fun _ => 0))), (a 4, .inl (t 4, 120, .inl (fun _ => 0))), (a 5, .inl (t 5, 120, .inl (fun _ => 0))), (a 6, .inl (t 6, 120, .inl (fun _ => 0))), (a 7, .inl (t 7, 120, .inl (fun _ => 0))), (a 8, .inl (t 8, 120, .inl (fun _ => 0))), (a 9, .inl (t 9, 120, .inl (fun _ => 0))), (a 10, .inl (t 10, 120, .inl (fun _ => 0))), (a 11, .inl (t 11, 120, .inl (fun _ => 0)))]
def it1 (t : Nat → ClassId) : List (ClassId × FieldType) := [(t 0, .int), (t 1, .int), (t 2, .int), (t 3, .int), (t 4, .int), (t 5, .int), (t 6, .int), (t 7, .int), (t 8, .int), (t 9, .int), (t 10, .int), (t 11, .boolean)]
set_option maxHeartbeats 4000000 in
set_option maxRecDepth 100000 in
theorem kI1 (l : Launch) (D : va_G) (h0 : Nat) (r : Nat) (sz : Nat) : Met l yX1_init (.code yX1_init cX1_init 2 none :: sr_tbl) ({ frames := 1, cells := 12, slots := 1442, locals := 12 }) (va_Pc [.ref h0, .ref r] (fun U => U.heap.size = sz ∧ va_P D vwCl [(h0, .inr (1, [.null, .int 0, .int 0, .null, .null, .null, .null, .null, .null, .int 0, .null, .null, .null, .null, .null, .null]))] U.heap ∧ va_K D vwCl [] U ∧ va_D (fun _ => True) [(h0, .inr (1, [.null, .int 0, .int 0, .null, .null, .null, .null, .null, .null, .int 0, .null, .null, .null, .null, .null, .null]))])) (va_Qv (fun _ : (Nat → Nat) × (Nat → ClassId) => True) (fun u t => va_P D vwCl (iw1 h0 r u.1 u.2) t.heap ∧ va_K D vwCl (it1 u.2) t ∧ va_D (va_A [(h0, .inr (1, [.null, .int 0, .int 0, .null, .null, .null, .null, .null, .null, .int 0, .null, .null, .null, .null, .null, .null]))] sz) (iw1 h0 r u.1 u.2)) (va_A [(h0, .inr (1, [.null, .int 0, .int 0, .null, .null, .null, .null, .null, .null, .int 0, .null, .null, .null, .null, .null, .null]))] sz)) 12 1442 (va_A [(h0, .inr (1, [.null, .int 0, .int 0, .null, .null, .null, .null, .null, .null, .int 0, .null, .null, .null, .null, .null, .null]))] sz) := by
  refine Met.ofW (cc := cX1_init) (maxL := 2) (ret := none) (by decide) rfl ?_
  intro p e s m args below meth c s₁ B hml hv
  obtain ⟨rfl, hsz, hP, hK, hD0⟩ := hv
  have hx := B.exec
  have hb := B.bytes
  have hr := B.returns
  have hts0 := atoms_spec (ws := .code yX1_init cX1_init 2 none :: sr_tbl) B.pre
  have hts : ∀ w ∈ sr_tbl, w.before ([.ref h0, .ref r] : List Value).toArray s = true := fun w hw => hts0 w (List.mem_cons_of_mem _ hw)
  have hown : s.vm.findClass RX1 = some m.cls := findClass_of_methodNamed B.named
  have hlocks := B.notSynchronized
  have hin : meth.name = "<init>" := (name_of_methodNamed B.named B.method).1
  subst hsz
  have hD := hD0.self (sz := s.heap.size)
  generalize hAe : va_A [(h0, .inr (1, [.null, .int 0, .int 0, .null, .null, .null, .null, .null, .null, .int 0, .null, .null, .null, .null, .null, .null]))] s.heap.size = A at hD ⊢
  have hA : ∀ q : Nat, s.heap.size ≤ q → A q := fun q h => by rw [← hAe]; exact Or.inr h
  have hS : va_S A s.heap s.heap [] := va_S.rf
  have hl := lv_entry ([.ref h0, .ref r]) (n := 2) (Nat.le_of_ble_eq_true rfl)
  rw [lg_entry_eq]
  generalize (lg_sl ([.ref h0, .ref r]) ++ List.replicate (2 - (lg_sl ([.ref h0, .ref r])).length) Slot.unset).toArray = ls at hl ⊢
  have hl : lv_has ls 2 [(0, .ref h0), (1, .ref r)] := hl
  refine lv_aload_n hx hb dX1_init_0 rfl (lv_at hl 0 rfl) ?_
  refine W.objInit hx hb hown (hts _ qoX1) (hts _ qoI) (hts _ qoC) rfl (by rw [hml]; exact hl.1) rfl dX1_init_1 (Nat.le_of_ble_eq_true rfl) (Nat.le_of_ble_eq_true rfl) ?_
  refine W.eq (g2 := F0 m 4 ls []) rfl ?_
  refine lv_aload_n hx hb dX1_init_4 rfl (lv_at hl 0 rfl) ?_
  refine lv_bipush (v := 121) hx hb dX1_init_5 (by decide) ?_
  refine va_newa (atype := .int) (ty := .int) (a0 := (121, .inl (fun _ => 0))) (N' := 121) hx hb (hts _ qa_int) rfl hK hP hD hS hA (fun cA => rfl) (by decide) (by decide) (by decide) (Nat.le_of_ble_eq_true rfl) (Nat.le_of_ble_eq_true rfl) dX1_init_7 (fun q0 t0 H hK hP hD hS => ?_)
  refine W.widen (k := 1) (n := 121) (Nat.le_of_ble_eq_true rfl) (Nat.le_of_ble_eq_true rfl) ?_
  have hP : va_P D vwCl [(h0, .inr (1, [.null, .int 0, .int 0, .null, .null, .null, .null, .null, .null, .int 0, .null, .null, .null, .null, .null, .null])), (q0, .inl (t0, 121, .inl (fun _ => 0)))] H := hP
  have hD : va_D A [(h0, .inr (1, [.null, .int 0, .int 0, .null, .null, .null, .null, .null, .null, .int 0, .null, .null, .null, .null, .null, .null])), (q0, .inl (t0, 121, .inl (fun _ => 0)))] := hD
  have hK : va_K D vwCl [(t0, .int)] s := hK
  refine va_putF (D := D) (ci := 1) (v := .ref q0) (ty := .array .int) (C := RX1) (T := TX1) (N := 16) hx hb hts qzX1 tyX1 tyX1_ok nmX1 hown hK hP hD hS 0 rfl rfl 3 (by decide) (hts _ qfX1_9) (fun _ h9 => h9) rfl hin rfl (by decide +kernel) rfl rfl (Nat.le_of_ble_eq_true rfl) dX1_init_9 (fun H locs hP hD hS => ?_)
  have hP : va_P D vwCl [(h0, .inr (1, [.null, .int 0, .int 0, .ref q0, .null, .null, .null, .null, .null, .int 0, .null, .null, .null, .null, .null, .null])), (q0, .inl (t0, 121, .inl (fun _ => 0)))] H := hP
  have hD : va_D A [(h0, .inr (1, [.null, .int 0, .int 0, .ref q0, .null, .null, .null, .null, .null, .int 0, .null, .null, .null, .null, .null, .null])), (q0, .inl (t0, 121, .inl (fun _ => 0)))] := hD
  refine lv_aload_n hx hb dX1_init_12 rfl (lv_at hl 0 rfl) ?_
  refine lv_bipush (v := 121) hx hb dX1_init_13 (by decide) ?_
  refine va_newa (atype := .int) (ty := .int) (a0 := (121, .inl (fun _ => 0))) (N' := 121) hx hb (hts _ qa_int) rfl hK hP hD hS hA (fun cA => rfl) (by decide) (by decide) (by decide) (Nat.le_of_ble_eq_true rfl) (Nat.le_of_ble_eq_true rfl) dX1_init_15 (fun q1 t1 H hK hP hD hS => ?_)
  refine W.widen (k := 2) (n := 242) (Nat.le_of_ble_eq_true rfl) (Nat.le_of_ble_eq_true rfl) ?_
  have hP : va_P D vwCl [(h0, .inr (1, [.null, .int 0, .int 0, .ref q0, .null, .null, .null, .null, .null, .int 0, .null, .null, .null, .null, .null, .null])), (q0, .inl (t0, 121, .inl (fun _ => 0))), (q1, .inl (t1, 121, .inl (fun _ => 0)))] H := hP
  have hD : va_D A [(h0, .inr (1, [.null, .int 0, .int 0, .ref q0, .null, .null, .null, .null, .null, .int 0, .null, .null, .null, .null, .null, .null])), (q0, .inl (t0, 121, .inl (fun _ => 0))), (q1, .inl (t1, 121, .inl (fun _ => 0)))] := hD
  have hK : va_K D vwCl [(t0, .int), (t1, .int)] s := hK
  refine va_putF (D := D) (ci := 1) (v := .ref q1) (ty := .array .int) (C := RX1) (T := TX1) (N := 16) hx hb hts qzX1 tyX1 tyX1_ok nmX1 hown hK hP hD hS 0 rfl rfl 4 (by decide) (hts _ qfX1_15) (fun _ h9 => h9) rfl hin rfl (by decide +kernel) rfl rfl (Nat.le_of_ble_eq_true rfl) dX1_init_17 (fun H locs hP hD hS => ?_)
  have hP : va_P D vwCl [(h0, .inr (1, [.null, .int 0, .int 0, .ref q0, .ref q1, .null, .null, .null, .null, .int 0, .null, .null, .null, .null, .null, .null])), (q0, .inl (t0, 121, .inl (fun _ => 0))), (q1, .inl (t1, 121, .inl (fun _ => 0)))] H := hP
  have hD : va_D A [(h0, .inr (1, [.null, .int 0, .int 0, .ref q0, .ref q1, .null, .null, .null, .null, .int 0, .null, .null, .null, .null, .null, .null])), (q0, .inl (t0, 121, .inl (fun _ => 0))), (q1, .inl (t1, 121, .inl (fun _ => 0)))] := hD
  refine lv_aload_n hx hb dX1_init_20 rfl (lv_at hl 0 rfl) ?_
  refine lv_bipush (v := 120) hx hb dX1_init_21 (by decide) ?_
  refine va_newa (atype := .int) (ty := .int) (a0 := (120, .inl (fun _ => 0))) (N' := 120) hx hb (hts _ qa_int) rfl hK hP hD hS hA (fun cA => rfl) (by decide) (by decide) (by decide) (Nat.le_of_ble_eq_true rfl) (Nat.le_of_ble_eq_true rfl) dX1_init_23 (fun q2 t2 H hK hP hD hS => ?_)
  refine W.widen (k := 3) (n := 362) (Nat.le_of_ble_eq_true rfl) (Nat.le_of_ble_eq_true rfl) ?_
  have hP : va_P D vwCl [(h0, .inr (1, [.null, .int 0, .int 0, .ref q0, .ref q1, .null, .null, .null, .null, .int 0, .null, .null, .null, .null, .null, .null])), (q0, .inl (t0, 121, .inl (fun _ => 0))), (q1, .inl (t1, 121, .inl (fun _ => 0))), (q2, .inl (t2, 120, .inl (fun _ => 0)))] H := hP
  have hD : va_D A [(h0, .inr (1, [.null, .int 0, .int 0, .ref q0, .ref q1, .null, .null, .null, .null, .int 0, .null, .null, .null, .null, .null, .null])), (q0, .inl (t0, 121, .inl (fun _ => 0))), (q1, .inl (t1, 121, .inl (fun _ => 0))), (q2, .inl (t2, 120, .inl (fun _ => 0)))] := hD
  have hK : va_K D vwCl [(t0, .int), (t1, .int), (t2, .int)] s := hK
  refine va_putF (D := D) (ci := 1) (v := .ref q2) (ty := .array .int) (C := RX1) (T := TX1) (N := 16) hx hb hts qzX1 tyX1 tyX1_ok nmX1 hown hK hP hD hS 0 rfl rfl 5 (by decide) (hts _ qfX1_18) (fun _ h9 => h9) rfl hin rfl (by decide +kernel) rfl rfl (Nat.le_of_ble_eq_true rfl) dX1_init_25 (fun H locs hP hD hS => ?_)
  have hP : va_P D vwCl [(h0, .inr (1, [.null, .int 0, .int 0, .ref q0, .ref q1, .ref q2, .null, .null, .null, .int 0, .null, .null, .null, .null, .null, .null])), (q0, .inl (t0, 121, .inl (fun _ => 0))), (q1, .inl (t1, 121, .inl (fun _ => 0))), (q2, .inl (t2, 120, .inl (fun _ => 0)))] H := hP
  have hD : va_D A [(h0, .inr (1, [.null, .int 0, .int 0, .ref q0, .ref q1, .ref q2, .null, .null, .null, .int 0, .null, .null, .null, .null, .null, .null])), (q0, .inl (t0, 121, .inl (fun _ => 0))), (q1, .inl (t1, 121, .inl (fun _ => 0))), (q2, .inl (t2, 120, .inl (fun _ => 0)))] := hD
  refine lv_aload_n hx hb dX1_init_28 rfl (lv_at hl 0 rfl) ?_
  refine lv_bipush (v := 120) hx hb dX1_init_29 (by decide) ?_
  refine va_newa (atype := .int) (ty := .int) (a0 := (120, .inl (fun _ => 0))) (N' := 120) hx hb (hts _ qa_int) rfl hK hP hD hS hA (fun cA => rfl) (by decide) (by decide) (by decide) (Nat.le_of_ble_eq_true rfl) (Nat.le_of_ble_eq_true rfl) dX1_init_31 (fun q3 t3 H hK hP hD hS => ?_)
  refine W.widen (k := 4) (n := 482) (Nat.le_of_ble_eq_true rfl) (Nat.le_of_ble_eq_true rfl) ?_
  have hP : va_P D vwCl [(h0, .inr (1, [.null, .int 0, .int 0, .ref q0, .ref q1, .ref q2, .null, .null, .null, .int 0, .null, .null, .null, .null, .null, .null])), (q0, .inl (t0, 121, .inl (fun _ => 0))), (q1, .inl (t1, 121, .inl (fun _ => 0))), (q2, .inl (t2, 120, .inl (fun _ => 0))), (q3, .inl (t3, 120, .inl (fun _ => 0)))] H := hP
  have hD : va_D A [(h0, .inr (1, [.null, .int 0, .int 0, .ref q0, .ref q1, .ref q2, .null, .null, .null, .int 0, .null, .null, .null, .null, .null, .null])), (q0, .inl (t0, 121, .inl (fun _ => 0))), (q1, .inl (t1, 121, .inl (fun _ => 0))), (q2, .inl (t2, 120, .inl (fun _ => 0))), (q3, .inl (t3, 120, .inl (fun _ => 0)))] := hD
  have hK : va_K D vwCl [(t0, .int), (t1, .int), (t2, .int), (t3, .int)] s := hK
  refine va_putF (D := D) (ci := 1) (v := .ref q3) (ty := .array .int) (C := RX1) (T := TX1) (N := 16) hx hb hts qzX1 tyX1 tyX1_ok nmX1 hown hK hP hD hS 0 rfl rfl 6 (by decide) (hts _ qfX1_21) (fun _ h9 => h9) rfl hin rfl (by decide +kernel) rfl rfl (Nat.le_of_ble_eq_true rfl) dX1_init_33 (fun H locs hP hD hS => ?_)
  have hP : va_P D vwCl [(h0, .inr (1, [.null, .int 0, .int 0, .ref q0, .ref q1, .ref q2, .ref q3, .null, .null, .int 0, .null, .null, .null, .null, .null, .null])), (q0, .inl (t0, 121, .inl (fun _ => 0))), (q1, .inl (t1, 121, .inl (fun _ => 0))), (q2, .inl (t2, 120, .inl (fun _ => 0))), (q3, .inl (t3, 120, .inl (fun _ => 0)))] H := hP
  have hD : va_D A [(h0, .inr (1, [.null, .int 0, .int 0, .ref q0, .ref q1, .ref q2, .ref q3, .null, .null, .int 0, .null, .null, .null, .null, .null, .null])), (q0, .inl (t0, 121, .inl (fun _ => 0))), (q1, .inl (t1, 121, .inl (fun _ => 0))), (q2, .inl (t2, 120, .inl (fun _ => 0))), (q3, .inl (t3, 120, .inl (fun _ => 0)))] := hD
  refine lv_aload_n hx hb dX1_init_36 rfl (lv_at hl 0 rfl) ?_
  refine lv_bipush (v := 120) hx hb dX1_init_37 (by decide) ?_
  refine va_newa (atype := .int) (ty := .int) (a0 := (120, .inl (fun _ => 0))) (N' := 120) hx hb (hts _ qa_int) rfl hK hP hD hS hA (fun cA => rfl) (by decide) (by decide) (by decide) (Nat.le_of_ble_eq_true rfl) (Nat.le_of_ble_eq_true rfl) dX1_init_39 (fun q4 t4 H hK hP hD hS => ?_)
  refine W.widen (k := 5) (n := 602) (Nat.le_of_ble_eq_true rfl) (Nat.le_of_ble_eq_true rfl) ?_
  have hP : va_P D vwCl [(h0, .inr (1, [.null, .int 0, .int 0, .ref q0, .ref q1, .ref q2, .ref q3, .null, .null, .int 0, .null, .null, .null, .null, .null, .null])), (q0, .inl (t0, 121, .inl (fun _ => 0))), (q1, .inl (t1, 121, .inl (fun _ => 0))), (q2, .inl (t2, 120, .inl (fun _ => 0))), (q3, .inl (t3, 120, .inl (fun _ => 0))), (q4, .inl (t4, 120, .inl (fun _ => 0)))] H := hP
  have hD : va_D A [(h0, .inr (1, [.null, .int 0, .int 0, .ref q0, .ref q1, .ref q2, .ref q3, .null, .null, .int 0, .null, .null, .null, .null, .null, .null])), (q0, .inl (t0, 121, .inl (fun _ => 0))), (q1, .inl (t1, 121, .inl (fun _ => 0))), (q2, .inl (t2, 120, .inl (fun _ => 0))), (q3, .inl (t3, 120, .inl (fun _ => 0))), (q4, .inl (t4, 120, .inl (fun _ => 0)))] := hD
  have hK : va_K D vwCl [(t0, .int), (t1, .int), (t2, .int), (t3, .int), (t4, .int)] s := hK
  refine va_putF (D := D) (ci := 1) (v := .ref q4) (ty := .array .int) (C := RX1) (T := TX1) (N := 16) hx hb hts qzX1 tyX1 tyX1_ok nmX1 hown hK hP hD hS 0 rfl rfl 7 (by decide) (hts _ qfX1_24) (fun _ h9 => h9) rfl hin rfl (by decide +kernel) rfl rfl (Nat.le_of_ble_eq_true rfl) dX1_init_41 (fun H locs hP hD hS => ?_)
  have hP : va_P D vwCl [(h0, .inr (1, [.null, .int 0, .int 0, .ref q0, .ref q1, .ref q2, .ref q3, .ref q4, .null, .int 0, .null, .null, .null, .null, .null, .null])), (q0, .inl (t0, 121, .inl (fun _ => 0))), (q1, .inl (t1, 121, .inl (fun _ => 0))), (q2, .inl (t2, 120, .inl (fun _ => 0))), (q3, .inl (t3, 120, .inl (fun _ => 0))), (q4, .inl (t4, 120, .inl (fun _ => 0)))] H := hP
  have hD : va_D A [(h0, .inr (1, [.null, .int 0, .int 0, .ref q0, .ref q1, .ref q2, .ref q3, .ref q4, .null, .int 0, .null, .null, .null, .null, .null, .null])), (q0, .inl (t0, 121, .inl (fun _ => 0))), (q1, .inl (t1, 121, .inl (fun _ => 0))), (q2, .inl (t2, 120, .inl (fun _ => 0))), (q3, .inl (t3, 120, .inl (fun _ => 0))), (q4, .inl (t4, 120, .inl (fun _ => 0)))] := hD
  refine lv_aload_n hx hb dX1_init_44 rfl (lv_at hl 0 rfl) ?_
  refine lv_bipush (v := 120) hx hb dX1_init_45 (by decide) ?_
  refine va_newa (atype := .int) (ty := .int) (a0 := (120, .inl (fun _ => 0))) (N' := 120) hx hb (hts _ qa_int) rfl hK hP hD hS hA (fun cA => rfl) (by decide) (by decide) (by decide) (Nat.le_of_ble_eq_true rfl) (Nat.le_of_ble_eq_true rfl) dX1_init_47 (fun q5 t5 H hK hP hD hS => ?_)
  refine W.widen (k := 6) (n := 722) (Nat.le_of_ble_eq_true rfl) (Nat.le_of_ble_eq_true rfl) ?_
  have hP : va_P D vwCl [(h0, .inr (1, [.null, .int 0, .int 0, .ref q0, .ref q1, .ref q2, .ref q3, .ref q4, .null, .int 0, .null, .null, .null, .null, .null, .null])), (q0, .inl (t0, 121, .inl (fun _ => 0))), (q1, .inl (t1, 121, .inl (fun _ => 0))), (q2, .inl (t2, 120, .inl (fun _ => 0))), (q3, .inl (t3, 120, .inl (fun _ => 0))), (q4, .inl (t4, 120, .inl (fun _ => 0))), (q5, .inl (t5, 120, .inl (fun _ => 0)))] H := hP
  have hD : va_D A [(h0, .inr (1, [.null, .int 0, .int 0, .ref q0, .ref q1, .ref q2, .ref q3, .ref q4, .null, .int 0, .null, .null, .null, .null, .null, .null])), (q0, .inl (t0, 121, .inl (fun _ => 0))), (q1, .inl (t1, 121, .inl (fun _ => 0))), (q2, .inl (t2, 120, .inl (fun _ => 0))), (q3, .inl (t3, 120, .inl (fun _ => 0))), (q4, .inl (t4, 120, .inl (fun _ => 0))), (q5, .inl (t5, 120, .inl (fun _ => 0)))] := hD
  have hK : va_K D vwCl [(t0, .int), (t1, .int), (t2, .int), (t3, .int), (t4, .int), (t5, .int)] s := hK
  refine va_putF (D := D) (ci := 1) (v := .ref q5) (ty := .array .int) (C := RX1) (T := TX1) (N := 16) hx hb hts qzX1 tyX1 tyX1_ok nmX1 hown hK hP hD hS 0 rfl rfl 8 (by decide) (hts _ qfX1_27) (fun _ h9 => h9) rfl hin rfl (by decide +kernel) rfl rfl (Nat.le_of_ble_eq_true rfl) dX1_init_49 (fun H locs hP hD hS => ?_)
  have hP : va_P D vwCl [(h0, .inr (1, [.null, .int 0, .int 0, .ref q0, .ref q1, .ref q2, .ref q3, .ref q4, .ref q5, .int 0, .null, .null, .null, .null, .null, .null])), (q0, .inl (t0, 121, .inl (fun _ => 0))), (q1, .inl (t1, 121, .inl (fun _ => 0))), (q2, .inl (t2, 120, .inl (fun _ => 0))), (q3, .inl (t3, 120, .inl (fun _ => 0))), (q4, .inl (t4, 120, .inl (fun _ => 0))), (q5, .inl (t5, 120, .inl (fun _ => 0)))] H := hP
  have hD : va_D A [(h0, .inr (1, [.null, .int 0, .int 0, .ref q0, .ref q1, .ref q2, .ref q3, .ref q4, .ref q5, .int 0, .null, .null, .null, .null, .null, .null])), (q0, .inl (t0, 121, .inl (fun _ => 0))), (q1, .inl (t1, 121, .inl (fun _ => 0))), (q2, .inl (t2, 120, .inl (fun _ => 0))), (q3, .inl (t3, 120, .inl (fun _ => 0))), (q4, .inl (t4, 120, .inl (fun _ => 0))), (q5, .inl (t5, 120, .inl (fun _ => 0)))] := hD
  refine lv_aload_n hx hb dX1_init_52 rfl (lv_at hl 0 rfl) ?_
  refine lv_bipush (v := 120) hx hb dX1_init_53 (by decide) ?_
  refine va_newa (atype := .int) (ty := .int) (a0 := (120, .inl (fun _ => 0))) (N' := 120) hx hb (hts _ qa_int) rfl hK hP hD hS hA (fun cA => rfl) (by decide) (by decide) (by decide) (Nat.le_of_ble_eq_true rfl) (Nat.le_of_ble_eq_true rfl) dX1_init_55 (fun q6 t6 H hK hP hD hS => ?_)
  refine W.widen (k := 7) (n := 842) (Nat.le_of_ble_eq_true rfl) (Nat.le_of_ble_eq_true rfl) ?_
  have hP : va_P D vwCl [(h0, .inr (1, [.null, .int 0, .int 0, .ref q0, .ref q1, .ref q2, .ref q3, .ref q4, .ref q5, .int 0, .null, .null, .null, .null, .null, .null])), (q0, .inl (t0, 121, .inl (fun _ => 0))), (q1, .inl (t1, 121, .inl (fun _ => 0))), (q2, .inl (t2, 120, .inl (fun _ => 0))), (q3, .inl (t3, 120, .inl (fun _ => 0))), (q4, .inl (t4, 120, .inl (fun _ => 0))), (q5, .inl (t5, 120, .inl (fun _ => 0))), (q6, .inl (t6, 120, .inl (fun _ => 0)))] H := hP
  have hD : va_D A [(h0, .inr (1, [.null, .int 0, .int 0, .ref q0, .ref q1, .ref q2, .ref q3, .ref q4, .ref q5, .int 0, .null, .null, .null, .null, .null, .null])), (q0, .inl (t0, 121, .inl (fun _ => 0))), (q1, .inl (t1, 121, .inl (fun _ => 0))), (q2, .inl (t2, 120, .inl (fun _ => 0))), (q3, .inl (t3, 120, .inl (fun _ => 0))), (q4, .inl (t4, 120, .inl (fun _ => 0))), (q5, .inl (t5, 120, .inl (fun _ => 0))), (q6, .inl (t6, 120, .inl (fun _ => 0)))] := hD
  have hK : va_K D vwCl [(t0, .int), (t1, .int), (t2, .int), (t3, .int), (t4, .int), (t5, .int), (t6, .int)] s := hK
  refine va_putF (D := D) (ci := 1) (v := .ref q6) (ty := .array .int) (C := RX1) (T := TX1) (N := 16) hx hb hts qzX1 tyX1 tyX1_ok nmX1 hown hK hP hD hS 0 rfl rfl 10 (by decide) (hts _ qfX1_30) (fun _ h9 => h9) rfl hin rfl (by decide +kernel) rfl rfl (Nat.le_of_ble_eq_true rfl) dX1_init_57 (fun H locs hP hD hS => ?_)
  have hP : va_P D vwCl [(h0, .inr (1, [.null, .int 0, .int 0, .ref q0, .ref q1, .ref q2, .ref q3, .ref q4, .ref q5, .int 0, .ref q6, .null, .null, .null, .null, .null])), (q0, .inl (t0, 121, .inl (fun _ => 0))), (q1, .inl (t1, 121, .inl (fun _ => 0))), (q2, .inl (t2, 120, .inl (fun _ => 0))), (q3, .inl (t3, 120, .inl (fun _ => 0))), (q4, .inl (t4, 120, .inl (fun _ => 0))), (q5, .inl (t5, 120, .inl (fun _ => 0))), (q6, .inl (t6, 120, .inl (fun _ => 0)))] H := hP
  have hD : va_D A [(h0, .inr (1, [.null, .int 0, .int 0, .ref q0, .ref q1, .ref q2, .ref q3, .ref q4, .ref q5, .int 0, .ref q6, .null, .null, .null, .null, .null])), (q0, .inl (t0, 121, .inl (fun _ => 0))), (q1, .inl (t1, 121, .inl (fun _ => 0))), (q2, .inl (t2, 120, .inl (fun _ => 0))), (q3, .inl (t3, 120, .inl (fun _ => 0))), (q4, .inl (t4, 120, .inl (fun _ => 0))), (q5, .inl (t5, 120, .inl (fun _ => 0))), (q6, .inl (t6, 120, .inl (fun _ => 0)))] := hD
  refine lv_aload_n hx hb dX1_init_60 rfl (lv_at hl 0 rfl) ?_
  refine lv_bipush (v := 120) hx hb dX1_init_61 (by decide) ?_
  refine va_newa (atype := .int) (ty := .int) (a0 := (120, .inl (fun _ => 0))) (N' := 120) hx hb (hts _ qa_int) rfl hK hP hD hS hA (fun cA => rfl) (by decide) (by decide) (by decide) (Nat.le_of_ble_eq_true rfl) (Nat.le_of_ble_eq_true rfl) dX1_init_63 (fun q7 t7 H hK hP hD hS => ?_)
  refine W.widen (k := 8) (n := 962) (Nat.le_of_ble_eq_true rfl) (Nat.le_of_ble_eq_true rfl) ?_
  have hP : va_P D vwCl [(h0, .inr (1, [.null, .int 0, .int 0, .ref q0, .ref q1, .ref q2, .ref q3, .ref q4, .ref q5, .int 0, .ref q6, .null, .null, .null, .null, .null])), (q0, .inl (t0, 121, .inl (fun _ => 0))), (q1, .inl (t1, 121, .inl (fun _ => 0))), (q2, .inl (t2, 120, .inl (fun _ => 0))), (q3, .inl (t3, 120, .inl (fun _ => 0))), (q4, .inl (t4, 120, .inl (fun _ => 0))), (q5, .inl (t5, 120, .inl (fun _ => 0))), (q6, .inl (t6, 120, .inl (fun _ => 0))), (q7, .inl (t7, 120, .inl (fun _ => 0)))] H := hP
  have hD : va_D A [(h0, .inr (1, [.null, .int 0, .int 0, .ref q0, .ref q1, .ref q2, .ref q3, .ref q4, .ref q5, .int 0, .ref q6, .null, .null, .null, .null, .null])), (q0, .inl (t0, 121, .inl (fun _ => 0))), (q1, .inl (t1, 121, .inl (fun _ => 0))), (q2, .inl (t2, 120, .inl (fun _ => 0))), (q3, .inl (t3, 120, .inl (fun _ => 0))), (q4, .inl (t4, 120, .inl (fun _ => 0))), (q5, .inl (t5, 120, .inl (fun _ => 0))), (q6, .inl (t6, 120, .inl (fun _ => 0))), (q7, .inl (t7, 120, .inl (fun _ => 0)))] := hD
  have hK : va_K D vwCl [(t0, .int), (t1, .int), (t2, .int), (t3, .int), (t4, .int), (t5, .int), (t6, .int), (t7, .int)] s := hK
  refine va_putF (D := D) (ci := 1) (v := .ref q7) (ty := .array .int) (C := RX1) (T := TX1) (N := 16) hx hb hts qzX1 tyX1 tyX1_ok nmX1 hown hK hP hD hS 0 rfl rfl 11 (by decide) (hts _ qfX1_33) (fun _ h9 => h9) rfl hin rfl (by decide +kernel) rfl rfl (Nat.le_of_ble_eq_true rfl) dX1_init_65 (fun H locs hP hD hS => ?_)
  have hP : va_P D vwCl [(h0, .inr (1, [.null, .int 0, .int 0, .ref q0, .ref q1, .ref q2, .ref q3, .ref q4, .ref q5, .int 0, .ref q6, .ref q7, .null, .null, .null, .null])), (q0, .inl (t0, 121, .inl (fun _ => 0))), (q1, .inl (t1, 121, .inl (fun _ => 0))), (q2, .inl (t2, 120, .inl (fun _ => 0))), (q3, .inl (t3, 120, .inl (fun _ => 0))), (q4, .inl (t4, 120, .inl (fun _ => 0))), (q5, .inl (t5, 120, .inl (fun _ => 0))), (q6, .inl (t6, 120, .inl (fun _ => 0))), (q7, .inl (t7, 120, .inl (fun _ => 0)))] H := hP
  have hD : va_D A [(h0, .inr (1, [.null, .int 0, .int 0, .ref q0, .ref q1, .ref q2, .ref q3, .ref q4, .ref q5, .int 0, .ref q6, .ref q7, .null, .null, .null, .null])), (q0, .inl (t0, 121, .inl (fun _ => 0))), (q1, .inl (t1, 121, .inl (fun _ => 0))), (q2, .inl (t2, 120, .inl (fun _ => 0))), (q3, .inl (t3, 120, .inl (fun _ => 0))), (q4, .inl (t4, 120, .inl (fun _ => 0))), (q5, .inl (t5, 120, .inl (fun _ => 0))), (q6, .inl (t6, 120, .inl (fun _ => 0))), (q7, .inl (t7, 120, .inl (fun _ => 0)))] := hD
  refine lv_aload_n hx hb dX1_init_68 rfl (lv_at hl 0 rfl) ?_
  refine lv_bipush (v := 120) hx hb dX1_init_69 (by decide) ?_
  refine va_newa (atype := .int) (ty := .int) (a0 := (120, .inl (fun _ => 0))) (N' := 120) hx hb (hts _ qa_int) rfl hK hP hD hS hA (fun cA => rfl) (by decide) (by decide) (by decide) (Nat.le_of_ble_eq_true rfl) (Nat.le_of_ble_eq_true rfl) dX1_init_71 (fun q8 t8 H hK hP hD hS => ?_)
  refine W.widen (k := 9) (n := 1082) (Nat.le_of_ble_eq_true rfl) (Nat.le_of_ble_eq_true rfl) ?_
  have hP : va_P D vwCl [(h0, .inr (1, [.null, .int 0, .int 0, .ref q0, .ref q1, .ref q2, .ref q3, .ref q4, .ref q5, .int 0, .ref q6, .ref q7, .null, .null, .null, .null])), (q0, .inl (t0, 121, .inl (fun _ => 0))), (q1, .inl (t1, 121, .inl (fun _ => 0))), (q2, .inl (t2, 120, .inl (fun _ => 0))), (q3, .inl (t3, 120, .inl (fun _ => 0))), (q4, .inl (t4, 120, .inl (fun _ => 0))), (q5, .inl (t5, 120, .inl (fun _ => 0))), (q6, .inl (t6, 120, .inl (fun _ => 0))), (q7, .inl (t7, 120, .inl (fun _ => 0))), (q8, .inl (t8, 120, .inl (fun _ => 0)))] H := hP
  have hD : va_D A [(h0, .inr (1, [.null, .int 0, .int 0, .ref q0, .ref q1, .ref q2, .ref q3, .ref q4, .ref q5, .int 0, .ref q6, .ref q7, .null, .null, .null, .null])), (q0, .inl (t0, 121, .inl (fun _ => 0))), (q1, .inl (t1, 121, .inl (fun _ => 0))), (q2, .inl (t2, 120, .inl (fun _ => 0))), (q3, .inl (t3, 120, .inl (fun _ => 0))), (q4, .inl (t4, 120, .inl (fun _ => 0))), (q5, .inl (t5, 120, .inl (fun _ => 0))), (q6, .inl (t6, 120, .inl (fun _ => 0))), (q7, .inl (t7, 120, .inl (fun _ => 0))), (q8, .inl (t8, 120, .inl (fun _ => 0)))] := hD
  have hK : va_K D vwCl [(t0, .int), (t1, .int), (t2, .int), (t3, .int), (t4, .int), (t5, .int), (t6, .int), (t7, .int), (t8, .int)] s := hK
  refine va_putF (D := D) (ci := 1) (v := .ref q8) (ty := .array .int) (C := RX1) (T := TX1) (N := 16) hx hb hts qzX1 tyX1 tyX1_ok nmX1 hown hK hP hD hS 0 rfl rfl 12 (by decide) (hts _ qfX1_36) (fun _ h9 => h9) rfl hin rfl (by decide +kernel) rfl rfl (Nat.le_of_ble_eq_true rfl) dX1_init_73 (fun H locs hP hD hS => ?_)
  have hP : va_P D vwCl [(h0, .inr (1, [.null, .int 0, .int 0, .ref q0, .ref q1, .ref q2, .ref q3, .ref q4, .ref q5, .int 0, .ref q6, .ref q7, .ref q8, .null, .null, .null])), (q0, .inl (t0, 121, .inl (fun _ => 0))), (q1, .inl (t1, 121, .inl (fun _ => 0))), (q2, .inl (t2, 120, .inl (fun _ => 0))), (q3, .inl (t3, 120, .inl (fun _ => 0))), (q4, .inl (t4, 120, .inl (fun _ => 0))), (q5, .inl (t5, 120, .inl (fun _ => 0))), (q6, .inl (t6, 120, .inl (fun _ => 0))), (q7, .inl (t7, 120, .inl (fun _ => 0))), (q8, .inl (t8, 120, .inl (fun _ => 0)))] H := hP
  have hD : va_D A [(h0, .inr (1, [.null, .int 0, .int 0, .ref q0, .ref q1, .ref q2, .ref q3, .ref q4, .ref q5, .int 0, .ref q6, .ref q7, .ref q8, .null, .null, .null])), (q0, .inl (t0, 121, .inl (fun _ => 0))), (q1, .inl (t1, 121, .inl (fun _ => 0))), (q2, .inl (t2, 120, .inl (fun _ => 0))), (q3, .inl (t3, 120, .inl (fun _ => 0))), (q4, .inl (t4, 120, .inl (fun _ => 0))), (q5, .inl (t5, 120, .inl (fun _ => 0))), (q6, .inl (t6, 120, .inl (fun _ => 0))), (q7, .inl (t7, 120, .inl (fun _ => 0))), (q8, .inl (t8, 120, .inl (fun _ => 0)))] := hD
  refine lv_aload_n hx hb dX1_init_76 rfl (lv_at hl 0 rfl) ?_
  refine lv_bipush (v := 120) hx hb dX1_init_77 (by decide) ?_
  refine va_newa (atype := .int) (ty := .int) (a0 := (120, .inl (fun _ => 0))) (N' := 120) hx hb (hts _ qa_int) rfl hK hP hD hS hA (fun cA => rfl) (by decide) (by decide) (by decide) (Nat.le_of_ble_eq_true rfl) (Nat.le_of_ble_eq_true rfl) dX1_init_79 (fun q9 t9 H hK hP hD hS => ?_)
  refine W.widen (k := 10) (n := 1202) (Nat.le_of_ble_eq_true rfl) (Nat.le_of_ble_eq_true rfl) ?_
  have hP : va_P D vwCl [(h0, .inr (1, [.null, .int 0, .int 0, .ref q0, .ref q1, .ref q2, .ref q3, .ref q4, .ref q5, .int 0, .ref q6, .ref q7, .ref q8, .null, .null, .null])), (q0, .inl (t0, 121, .inl (fun _ => 0))), (q1, .inl (t1, 121, .inl (fun _ => 0))), (q2, .inl (t2, 120, .inl (fun _ => 0))), (q3, .inl (t3, 120, .inl (fun _ => 0))), (q4, .inl (t4, 120, .inl (fun _ => 0))), (q5, .inl (t5, 120, .inl (fun _ => 0))), (q6, .inl (t6, 120, .inl (fun _ => 0))), (q7, .inl (t7, 120, .inl (fun _ => 0))), (q8, .inl (t8, 120, .inl (fun _ => 0))), (q9, .inl (t9, 120, .inl (fun _ => 0)))] H := hP
  have hD : va_D A [(h0, .inr (1, [.null, .int 0, .int 0, .ref q0, .ref q1, .ref q2, .ref q3, .ref q4, .ref q5, .int 0, .ref q6, .ref q7, .ref q8, .null, .null, .null])), (q0, .inl (t0, 121, .inl (fun _ => 0))), (q1, .inl (t1, 121, .inl (fun _ => 0))), (q2, .inl (t2, 120, .inl (fun _ => 0))), (q3, .inl (t3, 120, .inl (fun _ => 0))), (q4, .inl (t4, 120, .inl (fun _ => 0))), (q5, .inl (t5, 120, .inl (fun _ => 0))), (q6, .inl (t6, 120, .inl (fun _ => 0))), (q7, .inl (t7, 120, .inl (fun _ => 0))), (q8, .inl (t8, 120, .inl (fun _ => 0))), (q9, .inl (t9, 120, .inl (fun _ => 0)))] := hD
  have hK : va_K D vwCl [(t0, .int), (t1, .int), (t2, .int), (t3, .int), (t4, .int), (t5, .int), (t6, .int), (t7, .int), (t8, .int), (t9, .int)] s := hK
  refine va_putF (D := D) (ci := 1) (v := .ref q9) (ty := .array .int) (C := RX1) (T := TX1) (N := 16) hx hb hts qzX1 tyX1 tyX1_ok nmX1 hown hK hP hD hS 0 rfl rfl 13 (by decide) (hts _ qfX1_39) (fun _ h9 => h9) rfl hin rfl (by decide +kernel) rfl rfl (Nat.le_of_ble_eq_true rfl) dX1_init_81 (fun H locs hP hD hS => ?_)
  have hP : va_P D vwCl [(h0, .inr (1, [.null, .int 0, .int 0, .ref q0, .ref q1, .ref q2, .ref q3, .ref q4, .ref q5, .int 0, .ref q6, .ref q7, .ref q8, .ref q9, .null, .null])), (q0, .inl (t0, 121, .inl (fun _ => 0))), (q1, .inl (t1, 121, .inl (fun _ => 0))), (q2, .inl (t2, 120, .inl (fun _ => 0))), (q3, .inl (t3, 120, .inl (fun _ => 0))), (q4, .inl (t4, 120, .inl (fun _ => 0))), (q5, .inl (t5, 120, .inl (fun _ => 0))), (q6, .inl (t6, 120, .inl (fun _ => 0))), (q7, .inl (t7, 120, .inl (fun _ => 0))), (q8, .inl (t8, 120, .inl (fun _ => 0))), (q9, .inl (t9, 120, .inl (fun _ => 0)))] H := hP
  have hD : va_D A [(h0, .inr (1, [.null, .int 0, .int 0, .ref q0, .ref q1, .ref q2, .ref q3, .ref q4, .ref q5, .int 0, .ref q6, .ref q7, .ref q8, .ref q9, .null, .null])), (q0, .inl (t0, 121, .inl (fun _ => 0))), (q1, .inl (t1, 121, .inl (fun _ => 0))), (q2, .inl (t2, 120, .inl (fun _ => 0))), (q3, .inl (t3, 120, .inl (fun _ => 0))), (q4, .inl (t4, 120, .inl (fun _ => 0))), (q5, .inl (t5, 120, .inl (fun _ => 0))), (q6, .inl (t6, 120, .inl (fun _ => 0))), (q7, .inl (t7, 120, .inl (fun _ => 0))), (q8, .inl (t8, 120, .inl (fun _ => 0))), (q9, .inl (t9, 120, .inl (fun _ => 0)))] := hD
  refine lv_aload_n hx hb dX1_init_84 rfl (lv_at hl 0 rfl) ?_
  refine lv_bipush (v := 120) hx hb dX1_init_85 (by decide) ?_
  refine va_newa (atype := .int) (ty := .int) (a0 := (120, .inl (fun _ => 0))) (N' := 120) hx hb (hts _ qa_int) rfl hK hP hD hS hA (fun cA => rfl) (by decide) (by decide) (by decide) (Nat.le_of_ble_eq_true rfl) (Nat.le_of_ble_eq_true rfl) dX1_init_87 (fun q10 t10 H hK hP hD hS => ?_)
  refine W.widen (k := 11) (n := 1322) (Nat.le_of_ble_eq_true rfl) (Nat.le_of_ble_eq_true rfl) ?_
  have hP : va_P D vwCl [(h0, .inr (1, [.null, .int 0, .int 0, .ref q0, .ref q1, .ref q2, .ref q3, .ref q4, .ref q5, .int 0, .ref q6, .ref q7, .ref q8, .ref q9, .null, .null])), (q0, .inl (t0, 121, .inl (fun _ => 0))), (q1, .inl (t1, 121, .inl (fun _ => 0))), (q2, .inl (t2, 120, .inl (fun _ => 0))), (q3, .inl (t3, 120, .inl (fun _ => 0))), (q4, .inl (t4, 120, .inl (fun _ => 0))), (q5, .inl (t5, 120, .inl (fun _ => 0))), (q6, .inl (t6, 120, .inl (fun _ => 0))), (q7, .inl (t7, 120, .inl (fun _ => 0))), (q8, .inl (t8, 120, .inl (fun _ => 0))), (q9, .inl (t9, 120, .inl (fun _ => 0))), (q10, .inl (t10, 120, .inl (fun _ => 0)))] H := hP
  have hD : va_D A [(h0, .inr (1, [.null, .int 0, .int 0, .ref q0, .ref q1, .ref q2, .ref q3, .ref q4, .ref q5, .int 0, .ref q6, .ref q7, .ref q8, .ref q9, .null, .null])), (q0, .inl (t0, 121, .inl (fun _ => 0))), (q1, .inl (t1, 121, .inl (fun _ => 0))), (q2, .inl (t2, 120, .inl (fun _ => 0))), (q3, .inl (t3, 120, .inl (fun _ => 0))), (q4, .inl (t4, 120, .inl (fun _ => 0))), (q5, .inl (t5, 120, .inl (fun _ => 0))), (q6, .inl (t6, 120, .inl (fun _ => 0))), (q7, .inl (t7, 120, .inl (fun _ => 0))), (q8, .inl (t8, 120, .inl (fun _ => 0))), (q9, .inl (t9, 120, .inl (fun _ => 0))), (q10, .inl (t10, 120, .inl (fun _ => 0)))] := hD
  have hK : va_K D vwCl [(t0, .int), (t1, .int), (t2, .int), (t3, .int), (t4, .int), (t5, .int), (t6, .int), (t7, .int), (t8, .int), (t9, .int), (t10, .int)] s := hK
  refine va_putF (D := D) (ci := 1) (v := .ref q10) (ty := .array .int) (C := RX1) (T := TX1) (N := 16) hx hb hts qzX1 tyX1 tyX1_ok nmX1 hown hK hP hD hS 0 rfl rfl 14 (by decide) (hts _ qfX1_42) (fun _ h9 => h9) rfl hin rfl (by decide +kernel) rfl rfl (Nat.le_of_ble_eq_true rfl) dX1_init_89 (fun H locs hP hD hS => ?_)
  have hP : va_P D vwCl [(h0, .inr (1, [.null, .int 0, .int 0, .ref q0, .ref q1, .ref q2, .ref q3, .ref q4, .ref q5, .int 0, .ref q6, .ref q7, .ref q8, .ref q9, .ref q10, .null])), (q0, .inl (t0, 121, .inl (fun _ => 0))), (q1, .inl (t1, 121, .inl (fun _ => 0))), (q2, .inl (t2, 120, .inl (fun _ => 0))), (q3, .inl (t3, 120, .inl (fun _ => 0))), (q4, .inl (t4, 120, .inl (fun _ => 0))), (q5, .inl (t5, 120, .inl (fun _ => 0))), (q6, .inl (t6, 120, .inl (fun _ => 0))), (q7, .inl (t7, 120, .inl (fun _ => 0))), (q8, .inl (t8, 120, .inl (fun _ => 0))), (q9, .inl (t9, 120, .inl (fun _ => 0))), (q10, .inl (t10, 120, .inl (fun _ => 0)))] H := hP
  have hD : va_D A [(h0, .inr (1, [.null, .int 0, .int 0, .ref q0, .ref q1, .ref q2, .ref q3, .ref q4, .ref q5, .int 0, .ref q6, .ref q7, .ref q8, .ref q9, .ref q10, .null])), (q0, .inl (t0, 121, .inl (fun _ => 0))), (q1, .inl (t1, 121, .inl (fun _ => 0))), (q2, .inl (t2, 120, .inl (fun _ => 0))), (q3, .inl (t3, 120, .inl (fun _ => 0))), (q4, .inl (t4, 120, .inl (fun _ => 0))), (q5, .inl (t5, 120, .inl (fun _ => 0))), (q6, .inl (t6, 120, .inl (fun _ => 0))), (q7, .inl (t7, 120, .inl (fun _ => 0))), (q8, .inl (t8, 120, .inl (fun _ => 0))), (q9, .inl (t9, 120, .inl (fun _ => 0))), (q10, .inl (t10, 120, .inl (fun _ => 0)))] := hD
  refine lv_aload_n hx hb dX1_init_92 rfl (lv_at hl 0 rfl) ?_
  refine lv_bipush (v := 120) hx hb dX1_init_93 (by decide) ?_
  refine va_newa (atype := .boolean) (ty := .boolean) (a0 := (120, .inl (fun _ => 0))) (N' := 120) hx hb (hts _ qa_boolean) rfl hK hP hD hS hA (fun cA => rfl) (by decide) (by decide) (by decide) (Nat.le_of_ble_eq_true rfl) (Nat.le_of_ble_eq_true rfl) dX1_init_95 (fun q11 t11 H hK hP hD hS => ?_)
  refine W.widen (k := 12) (n := 1442) (Nat.le_of_ble_eq_true rfl) (Nat.le_of_ble_eq_true rfl) ?_
  have hP : va_P D vwCl [(h0, .inr (1, [.null, .int 0, .int 0, .ref q0, .ref q1, .ref q2, .ref q3, .ref q4, .ref q5, .int 0, .ref q6, .ref q7, .ref q8, .ref q9, .ref q10, .null])), (q0, .inl (t0, 121, .inl (fun _ => 0))), (q1, .inl (t1, 121, .inl (fun _ => 0))), (q2, .inl (t2, 120, .inl (fun _ => 0))), (q3, .inl (t3, 120, .inl (fun _ => 0))), (q4, .inl (t4, 120, .inl (fun _ => 0))), (q5, .inl (t5, 120, .inl (fun _ => 0))), (q6, .inl (t6, 120, .inl (fun _ => 0))), (q7, .inl (t7, 120, .inl (fun _ => 0))), (q8, .inl (t8, 120, .inl (fun _ => 0))), (q9, .inl (t9, 120, .inl (fun _ => 0))), (q10, .inl (t10, 120, .inl (fun _ => 0))), (q11, .inl (t11, 120, .inl (fun _ => 0)))] H := hP
  have hD : va_D A [(h0, .inr (1, [.null, .int 0, .int 0, .ref q0, .ref q1, .ref q2, .ref q3, .ref q4, .ref q5, .int 0, .ref q6, .ref q7, .ref q8, .ref q9, .ref q10, .null])), (q0, .inl (t0, 121, .inl (fun _ => 0))), (q1, .inl (t1, 121, .inl (fun _ => 0))), (q2, .inl (t2, 120, .inl (fun _ => 0))), (q3, .inl (t3, 120, .inl (fun _ => 0))), (q4, .inl (t4, 120, .inl (fun _ => 0))), (q5, .inl (t5, 120, .inl (fun _ => 0))), (q6, .inl (t6, 120, .inl (fun _ => 0))), (q7, .inl (t7, 120, .inl (fun _ => 0))), (q8, .inl (t8, 120, .inl (fun _ => 0))), (q9, .inl (t9, 120, .inl (fun _ => 0))), (q10, .inl (t10, 120, .inl (fun _ => 0))), (q11, .inl (t11, 120, .inl (fun _ => 0)))] := hD
  have hK : va_K D vwCl [(t0, .int), (t1, .int), (t2, .int), (t3, .int), (t4, .int), (t5, .int), (t6, .int), (t7, .int), (t8, .int), (t9, .int), (t10, .int), (t11, .boolean)] s := hK
  refine va_putF (D := D) (ci := 1) (v := .ref q11) (ty := .array .boolean) (C := RX1) (T := TX1) (N := 16) hx hb hts qzX1 tyX1 tyX1_ok nmX1 hown hK hP hD hS 0 rfl rfl 15 (by decide) (hts _ qfX1_45) (fun _ h9 => h9) rfl hin rfl (by decide +kernel) rfl rfl (Nat.le_of_ble_eq_true rfl) dX1_init_97 (fun H locs hP hD hS => ?_)
  have hP : va_P D vwCl [(h0, .inr (1, [.null, .int 0, .int 0, .ref q0, .ref q1, .ref q2, .ref q3, .ref q4, .ref q5, .int 0, .ref q6, .ref q7, .ref q8, .ref q9, .ref q10, .ref q11])), (q0, .inl (t0, 121, .inl (fun _ => 0))), (q1, .inl (t1, 121, .inl (fun _ => 0))), (q2, .inl (t2, 120, .inl (fun _ => 0))), (q3, .inl (t3, 120, .inl (fun _ => 0))), (q4, .inl (t4, 120, .inl (fun _ => 0))), (q5, .inl (t5, 120, .inl (fun _ => 0))), (q6, .inl (t6, 120, .inl (fun _ => 0))), (q7, .inl (t7, 120, .inl (fun _ => 0))), (q8, .inl (t8, 120, .inl (fun _ => 0))), (q9, .inl (t9, 120, .inl (fun _ => 0))), (q10, .inl (t10, 120, .inl (fun _ => 0))), (q11, .inl (t11, 120, .inl (fun _ => 0)))] H := hP
  have hD : va_D A [(h0, .inr (1, [.null, .int 0, .int 0, .ref q0, .ref q1, .ref q2, .ref q3, .ref q4, .ref q5, .int 0, .ref q6, .ref q7, .ref q8, .ref q9, .ref q10, .ref q11])), (q0, .inl (t0, 121, .inl (fun _ => 0))), (q1, .inl (t1, 121, .inl (fun _ => 0))), (q2, .inl (t2, 120, .inl (fun _ => 0))), (q3, .inl (t3, 120, .inl (fun _ => 0))), (q4, .inl (t4, 120, .inl (fun _ => 0))), (q5, .inl (t5, 120, .inl (fun _ => 0))), (q6, .inl (t6, 120, .inl (fun _ => 0))), (q7, .inl (t7, 120, .inl (fun _ => 0))), (q8, .inl (t8, 120, .inl (fun _ => 0))), (q9, .inl (t9, 120, .inl (fun _ => 0))), (q10, .inl (t10, 120, .inl (fun _ => 0))), (q11, .inl (t11, 120, .inl (fun _ => 0)))] := hD
  refine lv_aload_n hx hb dX1_init_100 rfl (lv_at hl 0 rfl) ?_
  refine lv_aload_n hx hb dX1_init_101 rfl (lv_at hl 1 rfl) ?_
  refine va_putF (D := D) (ci := 1) (v := .ref r) (ty := .object "SeepingRock$Rock") (C := RX1) (T := TX1) (N := 16) hx hb hts qzX1 tyX1 tyX1_ok nmX1 hown hK hP hD hS 0 rfl rfl 0 (by decide) (hts _ qfX1_49) (fun _ h9 => h9) rfl hin rfl (by decide +kernel) rfl rfl (Nat.le_of_ble_eq_true rfl) dX1_init_102 (fun H locs hP hD hS => ?_)
  have hP : va_P D vwCl [(h0, .inr (1, [.ref r, .int 0, .int 0, .ref q0, .ref q1, .ref q2, .ref q3, .ref q4, .ref q5, .int 0, .ref q6, .ref q7, .ref q8, .ref q9, .ref q10, .ref q11])), (q0, .inl (t0, 121, .inl (fun _ => 0))), (q1, .inl (t1, 121, .inl (fun _ => 0))), (q2, .inl (t2, 120, .inl (fun _ => 0))), (q3, .inl (t3, 120, .inl (fun _ => 0))), (q4, .inl (t4, 120, .inl (fun _ => 0))), (q5, .inl (t5, 120, .inl (fun _ => 0))), (q6, .inl (t6, 120, .inl (fun _ => 0))), (q7, .inl (t7, 120, .inl (fun _ => 0))), (q8, .inl (t8, 120, .inl (fun _ => 0))), (q9, .inl (t9, 120, .inl (fun _ => 0))), (q10, .inl (t10, 120, .inl (fun _ => 0))), (q11, .inl (t11, 120, .inl (fun _ => 0)))] H := hP
  have hD : va_D A [(h0, .inr (1, [.ref r, .int 0, .int 0, .ref q0, .ref q1, .ref q2, .ref q3, .ref q4, .ref q5, .int 0, .ref q6, .ref q7, .ref q8, .ref q9, .ref q10, .ref q11])), (q0, .inl (t0, 121, .inl (fun _ => 0))), (q1, .inl (t1, 121, .inl (fun _ => 0))), (q2, .inl (t2, 120, .inl (fun _ => 0))), (q3, .inl (t3, 120, .inl (fun _ => 0))), (q4, .inl (t4, 120, .inl (fun _ => 0))), (q5, .inl (t5, 120, .inl (fun _ => 0))), (q6, .inl (t6, 120, .inl (fun _ => 0))), (q7, .inl (t7, 120, .inl (fun _ => 0))), (q8, .inl (t8, 120, .inl (fun _ => 0))), (q9, .inl (t9, 120, .inl (fun _ => 0))), (q10, .inl (t10, 120, .inl (fun _ => 0))), (q11, .inl (t11, 120, .inl (fun _ => 0)))] := hD
  exact W.vret hx hb hr (fun t ht hW => ⟨⟨(sr_pk 0 [q0, q1, q2, q3, q4, q5, q6, q7, q8, q9, q10, q11], sr_pk t0 [t0, t1, t2, t3, t4, t5, t6, t7, t8, t9, t10, t11]), rfl, trivial, by rw [ht]; exact hP, va_K.moved hW.alike hK, hD⟩, hS.F ht⟩) hS.2.2 dX1_init_105
def iw2 (h0 : Nat) (a : Nat → Nat) (t : Nat → ClassId) : va_W := [(h0, .inr (2, [.int 0, .ref (a 0), .ref (a 1), .int 0, .ref (a 2), .ref (a 3), .ref (a 4), .ref (a 5), .ref (a 6), .int 0, .ref (a 7), .ref (a 8), .int 0])), (a 0, .inl (t 0, 120, .inl (fun _ => 0))), (a 1, .inl (t 1, 120, .inl (fun _ => 0))), (a 2, .inl (t 2, 300, .inl (fun _ => 0))), (a 3, .inl (t 3, 300, .inl (fun _ => 0))), (a 4, .inl (t 4, 300, .inl (fun _ => 0))), (a 5, .inl (t 5, 300, .inl (fun _ => 0))), (a 6, .inl (t 6, 300, .inl (fun _ => 0))), (a 7, .inl (t 7, 121, .inl (fun _ => 0))), (a 8, .inl (t 8, 600, .inl (fun _ => 0)))]
def it2 (t : Nat → ClassId) : List (ClassId × FieldType) := [(t 0, .int), (t 1, .boolean), (t 2, .int), (t 3, .int), (t 4, .int), (t 5, .int), (t 6, .int), (t 7, .int), (t 8, .int)]
set_option maxHeartbeats 4000000 in
set_option maxRecDepth 100000 in
theorem kI2 (l : Launch) (D : va_G) (h0 : Nat) (sz : Nat) : Met l yX2_init (.code yX2_init cX2_init 1 none :: sr_tbl) ({ frames := 1, cells := 9, slots := 2461, locals := 12 }) (va_Pc [.ref h0] (fun U => U.heap.size = sz ∧ va_P D vwCl [(h0, .inr (2, [.int 0, .null, .null, .int 0, .null, .null, .null, .null, .null, .int 0, .null, .null, .int 0]))] U.heap ∧ va_K D vwCl [] U ∧ va_D (fun _ => True) [(h0, .inr (2, [.int 0, .null, .null, .int 0, .null, .null, .null, .null, .null, .int 0, .null, .null, .int 0]))])) (va_Qv (fun _ : (Nat → Nat) × (Nat → ClassId) => True) (fun u t => va_P D vwCl (iw2 h0 u.1 u.2) t.heap ∧ va_K D vwCl (it2 u.2) t ∧ va_D (va_A [(h0, .inr (2, [.int 0, .null, .null, .int 0, .null, .null, .null, .null, .null, .int 0, .null, .null, .int 0]))] sz) (iw2 h0 u.1 u.2)) (va_A [(h0, .inr (2, [.int 0, .null, .null, .int 0, .null, .null, .null, .null, .null, .int 0, .null, .null, .int 0]))] sz)) 9 2461 (va_A [(h0, .inr (2, [.int 0, .null, .null, .int 0, .null, .null, .null, .null, .null, .int 0, .null, .null, .int 0]))] sz) := by
  refine Met.ofW (cc := cX2_init) (maxL := 1) (ret := none) (by decide) rfl ?_
  intro p e s m args below meth c s₁ B hml hv
  obtain ⟨rfl, hsz, hP, hK, hD0⟩ := hv
  have hx := B.exec
  have hb := B.bytes
  have hr := B.returns
  have hts0 := atoms_spec (ws := .code yX2_init cX2_init 1 none :: sr_tbl) B.pre
  have hts : ∀ w ∈ sr_tbl, w.before ([.ref h0] : List Value).toArray s = true := fun w hw => hts0 w (List.mem_cons_of_mem _ hw)
  have hown : s.vm.findClass RX2 = some m.cls := findClass_of_methodNamed B.named
  have hlocks := B.notSynchronized
  have hin : meth.name = "<init>" := (name_of_methodNamed B.named B.method).1
  subst hsz
  have hD := hD0.self (sz := s.heap.size)
  generalize hAe : va_A [(h0, .inr (2, [.int 0, .null, .null, .int 0, .null, .null, .null, .null, .null, .int 0, .null, .null, .int 0]))] s.heap.size = A at hD ⊢
  have hA : ∀ q : Nat, s.heap.size ≤ q → A q := fun q h => by rw [← hAe]; exact Or.inr h
  have hS : va_S A s.heap s.heap [] := va_S.rf
  have hl := lv_entry ([.ref h0]) (n := 1) (Nat.le_of_ble_eq_true rfl)
  rw [lg_entry_eq]
  generalize (lg_sl ([.ref h0]) ++ List.replicate (1 - (lg_sl ([.ref h0])).length) Slot.unset).toArray = ls at hl ⊢
  have hl : lv_has ls 1 [(0, .ref h0)] := hl
  refine lv_aload_n hx hb dX2_init_0 rfl (lv_at hl 0 rfl) ?_
  refine W.objInit hx hb hown (hts _ qoX2) (hts _ qoI) (hts _ qoC) rfl (by rw [hml]; exact hl.1) rfl dX2_init_1 (Nat.le_of_ble_eq_true rfl) (Nat.le_of_ble_eq_true rfl) ?_
  refine W.eq (g2 := F0 m 4 ls []) rfl ?_
  refine lv_aload_n hx hb dX2_init_4 rfl (lv_at hl 0 rfl) ?_
  refine lv_bipush (v := 120) hx hb dX2_init_5 (by decide) ?_
  refine va_newa (atype := .int) (ty := .int) (a0 := (120, .inl (fun _ => 0))) (N' := 120) hx hb (hts _ qa_int) rfl hK hP hD hS hA (fun cA => rfl) (by decide) (by decide) (by decide) (Nat.le_of_ble_eq_true rfl) (Nat.le_of_ble_eq_true rfl) dX2_init_7 (fun q0 t0 H hK hP hD hS => ?_)
  refine W.widen (k := 1) (n := 120) (Nat.le_of_ble_eq_true rfl) (Nat.le_of_ble_eq_true rfl) ?_
  have hP : va_P D vwCl [(h0, .inr (2, [.int 0, .null, .null, .int 0, .null, .null, .null, .null, .null, .int 0, .null, .null, .int 0])), (q0, .inl (t0, 120, .inl (fun _ => 0)))] H := hP
  have hD : va_D A [(h0, .inr (2, [.int 0, .null, .null, .int 0, .null, .null, .null, .null, .null, .int 0, .null, .null, .int 0])), (q0, .inl (t0, 120, .inl (fun _ => 0)))] := hD
  have hK : va_K D vwCl [(t0, .int)] s := hK
  refine va_putF (D := D) (ci := 2) (v := .ref q0) (ty := .array .int) (C := RX2) (T := TX2) (N := 13) hx hb hts qzX2 tyX2 tyX2_ok nmX2 hown hK hP hD hS 0 rfl rfl 1 (by decide) (hts _ qfX2_9) (fun _ h9 => h9) rfl hin rfl (by decide +kernel) rfl rfl (Nat.le_of_ble_eq_true rfl) dX2_init_9 (fun H locs hP hD hS => ?_)
  have hP : va_P D vwCl [(h0, .inr (2, [.int 0, .ref q0, .null, .int 0, .null, .null, .null, .null, .null, .int 0, .null, .null, .int 0])), (q0, .inl (t0, 120, .inl (fun _ => 0)))] H := hP
  have hD : va_D A [(h0, .inr (2, [.int 0, .ref q0, .null, .int 0, .null, .null, .null, .null, .null, .int 0, .null, .null, .int 0])), (q0, .inl (t0, 120, .inl (fun _ => 0)))] := hD
  refine lv_aload_n hx hb dX2_init_12 rfl (lv_at hl 0 rfl) ?_
  refine lv_bipush (v := 120) hx hb dX2_init_13 (by decide) ?_
  refine va_newa (atype := .boolean) (ty := .boolean) (a0 := (120, .inl (fun _ => 0))) (N' := 120) hx hb (hts _ qa_boolean) rfl hK hP hD hS hA (fun cA => rfl) (by decide) (by decide) (by decide) (Nat.le_of_ble_eq_true rfl) (Nat.le_of_ble_eq_true rfl) dX2_init_15 (fun q1 t1 H hK hP hD hS => ?_)
  refine W.widen (k := 2) (n := 240) (Nat.le_of_ble_eq_true rfl) (Nat.le_of_ble_eq_true rfl) ?_
  have hP : va_P D vwCl [(h0, .inr (2, [.int 0, .ref q0, .null, .int 0, .null, .null, .null, .null, .null, .int 0, .null, .null, .int 0])), (q0, .inl (t0, 120, .inl (fun _ => 0))), (q1, .inl (t1, 120, .inl (fun _ => 0)))] H := hP
  have hD : va_D A [(h0, .inr (2, [.int 0, .ref q0, .null, .int 0, .null, .null, .null, .null, .null, .int 0, .null, .null, .int 0])), (q0, .inl (t0, 120, .inl (fun _ => 0))), (q1, .inl (t1, 120, .inl (fun _ => 0)))] := hD
  have hK : va_K D vwCl [(t0, .int), (t1, .boolean)] s := hK
  refine va_putF (D := D) (ci := 2) (v := .ref q1) (ty := .array .boolean) (C := RX2) (T := TX2) (N := 13) hx hb hts qzX2 tyX2 tyX2_ok nmX2 hown hK hP hD hS 0 rfl rfl 2 (by decide) (hts _ qfX2_15) (fun _ h9 => h9) rfl hin rfl (by decide +kernel) rfl rfl (Nat.le_of_ble_eq_true rfl) dX2_init_17 (fun H locs hP hD hS => ?_)
  have hP : va_P D vwCl [(h0, .inr (2, [.int 0, .ref q0, .ref q1, .int 0, .null, .null, .null, .null, .null, .int 0, .null, .null, .int 0])), (q0, .inl (t0, 120, .inl (fun _ => 0))), (q1, .inl (t1, 120, .inl (fun _ => 0)))] H := hP
  have hD : va_D A [(h0, .inr (2, [.int 0, .ref q0, .ref q1, .int 0, .null, .null, .null, .null, .null, .int 0, .null, .null, .int 0])), (q0, .inl (t0, 120, .inl (fun _ => 0))), (q1, .inl (t1, 120, .inl (fun _ => 0)))] := hD
  refine lv_aload_n hx hb dX2_init_20 rfl (lv_at hl 0 rfl) ?_
  refine lv_sipush (v := 300) hx hb dX2_init_21 (by decide) ?_
  refine va_newa (atype := .int) (ty := .int) (a0 := (300, .inl (fun _ => 0))) (N' := 300) hx hb (hts _ qa_int) rfl hK hP hD hS hA (fun cA => rfl) (by decide) (by decide) (by decide) (Nat.le_of_ble_eq_true rfl) (Nat.le_of_ble_eq_true rfl) dX2_init_24 (fun q2 t2 H hK hP hD hS => ?_)
  refine W.widen (k := 3) (n := 540) (Nat.le_of_ble_eq_true rfl) (Nat.le_of_ble_eq_true rfl) ?_
  have hP : va_P D vwCl [(h0, .inr (2, [.int 0, .ref q0, .ref q1, .int 0, .null, .null, .null, .null, .null, .int 0, .null, .null, .int 0])), (q0, .inl (t0, 120, .inl (fun _ => 0))), (q1, .inl (t1, 120, .inl (fun _ => 0))), (q2, .inl (t2, 300, .inl (fun _ => 0)))] H := hP
  have hD : va_D A [(h0, .inr (2, [.int 0, .ref q0, .ref q1, .int 0, .null, .null, .null, .null, .null, .int 0, .null, .null, .int 0])), (q0, .inl (t0, 120, .inl (fun _ => 0))), (q1, .inl (t1, 120, .inl (fun _ => 0))), (q2, .inl (t2, 300, .inl (fun _ => 0)))] := hD
  have hK : va_K D vwCl [(t0, .int), (t1, .boolean), (t2, .int)] s := hK
  refine va_putF (D := D) (ci := 2) (v := .ref q2) (ty := .array .int) (C := RX2) (T := TX2) (N := 13) hx hb hts qzX2 tyX2 tyX2_ok nmX2 hown hK hP hD hS 0 rfl rfl 4 (by decide) (hts _ qfX2_19) (fun _ h9 => h9) rfl hin rfl (by decide +kernel) rfl rfl (Nat.le_of_ble_eq_true rfl) dX2_init_26 (fun H locs hP hD hS => ?_)
  have hP : va_P D vwCl [(h0, .inr (2, [.int 0, .ref q0, .ref q1, .int 0, .ref q2, .null, .null, .null, .null, .int 0, .null, .null, .int 0])), (q0, .inl (t0, 120, .inl (fun _ => 0))), (q1, .inl (t1, 120, .inl (fun _ => 0))), (q2, .inl (t2, 300, .inl (fun _ => 0)))] H := hP
  have hD : va_D A [(h0, .inr (2, [.int 0, .ref q0, .ref q1, .int 0, .ref q2, .null, .null, .null, .null, .int 0, .null, .null, .int 0])), (q0, .inl (t0, 120, .inl (fun _ => 0))), (q1, .inl (t1, 120, .inl (fun _ => 0))), (q2, .inl (t2, 300, .inl (fun _ => 0)))] := hD
  refine lv_aload_n hx hb dX2_init_29 rfl (lv_at hl 0 rfl) ?_
  refine lv_sipush (v := 300) hx hb dX2_init_30 (by decide) ?_
  refine va_newa (atype := .int) (ty := .int) (a0 := (300, .inl (fun _ => 0))) (N' := 300) hx hb (hts _ qa_int) rfl hK hP hD hS hA (fun cA => rfl) (by decide) (by decide) (by decide) (Nat.le_of_ble_eq_true rfl) (Nat.le_of_ble_eq_true rfl) dX2_init_33 (fun q3 t3 H hK hP hD hS => ?_)
  refine W.widen (k := 4) (n := 840) (Nat.le_of_ble_eq_true rfl) (Nat.le_of_ble_eq_true rfl) ?_
  have hP : va_P D vwCl [(h0, .inr (2, [.int 0, .ref q0, .ref q1, .int 0, .ref q2, .null, .null, .null, .null, .int 0, .null, .null, .int 0])), (q0, .inl (t0, 120, .inl (fun _ => 0))), (q1, .inl (t1, 120, .inl (fun _ => 0))), (q2, .inl (t2, 300, .inl (fun _ => 0))), (q3, .inl (t3, 300, .inl (fun _ => 0)))] H := hP
  have hD : va_D A [(h0, .inr (2, [.int 0, .ref q0, .ref q1, .int 0, .ref q2, .null, .null, .null, .null, .int 0, .null, .null, .int 0])), (q0, .inl (t0, 120, .inl (fun _ => 0))), (q1, .inl (t1, 120, .inl (fun _ => 0))), (q2, .inl (t2, 300, .inl (fun _ => 0))), (q3, .inl (t3, 300, .inl (fun _ => 0)))] := hD
  have hK : va_K D vwCl [(t0, .int), (t1, .boolean), (t2, .int), (t3, .int)] s := hK
  refine va_putF (D := D) (ci := 2) (v := .ref q3) (ty := .array .int) (C := RX2) (T := TX2) (N := 13) hx hb hts qzX2 tyX2 tyX2_ok nmX2 hown hK hP hD hS 0 rfl rfl 5 (by decide) (hts _ qfX2_22) (fun _ h9 => h9) rfl hin rfl (by decide +kernel) rfl rfl (Nat.le_of_ble_eq_true rfl) dX2_init_35 (fun H locs hP hD hS => ?_)
  have hP : va_P D vwCl [(h0, .inr (2, [.int 0, .ref q0, .ref q1, .int 0, .ref q2, .ref q3, .null, .null, .null, .int 0, .null, .null, .int 0])), (q0, .inl (t0, 120, .inl (fun _ => 0))), (q1, .inl (t1, 120, .inl (fun _ => 0))), (q2, .inl (t2, 300, .inl (fun _ => 0))), (q3, .inl (t3, 300, .inl (fun _ => 0)))] H := hP
  have hD : va_D A [(h0, .inr (2, [.int 0, .ref q0, .ref q1, .int 0, .ref q2, .ref q3, .null, .null, .null, .int 0, .null, .null, .int 0])), (q0, .inl (t0, 120, .inl (fun _ => 0))), (q1, .inl (t1, 120, .inl (fun _ => 0))), (q2, .inl (t2, 300, .inl (fun _ => 0))), (q3, .inl (t3, 300, .inl (fun _ => 0)))] := hD
  refine lv_aload_n hx hb dX2_init_38 rfl (lv_at hl 0 rfl) ?_
  refine lv_sipush (v := 300) hx hb dX2_init_39 (by decide) ?_
  refine va_newa (atype := .int) (ty := .int) (a0 := (300, .inl (fun _ => 0))) (N' := 300) hx hb (hts _ qa_int) rfl hK hP hD hS hA (fun cA => rfl) (by decide) (by decide) (by decide) (Nat.le_of_ble_eq_true rfl) (Nat.le_of_ble_eq_true rfl) dX2_init_42 (fun q4 t4 H hK hP hD hS => ?_)
  refine W.widen (k := 5) (n := 1140) (Nat.le_of_ble_eq_true rfl) (Nat.le_of_ble_eq_true rfl) ?_
  have hP : va_P D vwCl [(h0, .inr (2, [.int 0, .ref q0, .ref q1, .int 0, .ref q2, .ref q3, .null, .null, .null, .int 0, .null, .null, .int 0])), (q0, .inl (t0, 120, .inl (fun _ => 0))), (q1, .inl (t1, 120, .inl (fun _ => 0))), (q2, .inl (t2, 300, .inl (fun _ => 0))), (q3, .inl (t3, 300, .inl (fun _ => 0))), (q4, .inl (t4, 300, .inl (fun _ => 0)))] H := hP
  have hD : va_D A [(h0, .inr (2, [.int 0, .ref q0, .ref q1, .int 0, .ref q2, .ref q3, .null, .null, .null, .int 0, .null, .null, .int 0])), (q0, .inl (t0, 120, .inl (fun _ => 0))), (q1, .inl (t1, 120, .inl (fun _ => 0))), (q2, .inl (t2, 300, .inl (fun _ => 0))), (q3, .inl (t3, 300, .inl (fun _ => 0))), (q4, .inl (t4, 300, .inl (fun _ => 0)))] := hD
  have hK : va_K D vwCl [(t0, .int), (t1, .boolean), (t2, .int), (t3, .int), (t4, .int)] s := hK
  refine va_putF (D := D) (ci := 2) (v := .ref q4) (ty := .array .int) (C := RX2) (T := TX2) (N := 13) hx hb hts qzX2 tyX2 tyX2_ok nmX2 hown hK hP hD hS 0 rfl rfl 6 (by decide) (hts _ qfX2_25) (fun _ h9 => h9) rfl hin rfl (by decide +kernel) rfl rfl (Nat.le_of_ble_eq_true rfl) dX2_init_44 (fun H locs hP hD hS => ?_)
  have hP : va_P D vwCl [(h0, .inr (2, [.int 0, .ref q0, .ref q1, .int 0, .ref q2, .ref q3, .ref q4, .null, .null, .int 0, .null, .null, .int 0])), (q0, .inl (t0, 120, .inl (fun _ => 0))), (q1, .inl (t1, 120, .inl (fun _ => 0))), (q2, .inl (t2, 300, .inl (fun _ => 0))), (q3, .inl (t3, 300, .inl (fun _ => 0))), (q4, .inl (t4, 300, .inl (fun _ => 0)))] H := hP
  have hD : va_D A [(h0, .inr (2, [.int 0, .ref q0, .ref q1, .int 0, .ref q2, .ref q3, .ref q4, .null, .null, .int 0, .null, .null, .int 0])), (q0, .inl (t0, 120, .inl (fun _ => 0))), (q1, .inl (t1, 120, .inl (fun _ => 0))), (q2, .inl (t2, 300, .inl (fun _ => 0))), (q3, .inl (t3, 300, .inl (fun _ => 0))), (q4, .inl (t4, 300, .inl (fun _ => 0)))] := hD
  refine lv_aload_n hx hb dX2_init_47 rfl (lv_at hl 0 rfl) ?_
  refine lv_sipush (v := 300) hx hb dX2_init_48 (by decide) ?_
  refine va_newa (atype := .int) (ty := .int) (a0 := (300, .inl (fun _ => 0))) (N' := 300) hx hb (hts _ qa_int) rfl hK hP hD hS hA (fun cA => rfl) (by decide) (by decide) (by decide) (Nat.le_of_ble_eq_true rfl) (Nat.le_of_ble_eq_true rfl) dX2_init_51 (fun q5 t5 H hK hP hD hS => ?_)
  refine W.widen (k := 6) (n := 1440) (Nat.le_of_ble_eq_true rfl) (Nat.le_of_ble_eq_true rfl) ?_
  have hP : va_P D vwCl [(h0, .inr (2, [.int 0, .ref q0, .ref q1, .int 0, .ref q2, .ref q3, .ref q4, .null, .null, .int 0, .null, .null, .int 0])), (q0, .inl (t0, 120, .inl (fun _ => 0))), (q1, .inl (t1, 120, .inl (fun _ => 0))), (q2, .inl (t2, 300, .inl (fun _ => 0))), (q3, .inl (t3, 300, .inl (fun _ => 0))), (q4, .inl (t4, 300, .inl (fun _ => 0))), (q5, .inl (t5, 300, .inl (fun _ => 0)))] H := hP
  have hD : va_D A [(h0, .inr (2, [.int 0, .ref q0, .ref q1, .int 0, .ref q2, .ref q3, .ref q4, .null, .null, .int 0, .null, .null, .int 0])), (q0, .inl (t0, 120, .inl (fun _ => 0))), (q1, .inl (t1, 120, .inl (fun _ => 0))), (q2, .inl (t2, 300, .inl (fun _ => 0))), (q3, .inl (t3, 300, .inl (fun _ => 0))), (q4, .inl (t4, 300, .inl (fun _ => 0))), (q5, .inl (t5, 300, .inl (fun _ => 0)))] := hD
  have hK : va_K D vwCl [(t0, .int), (t1, .boolean), (t2, .int), (t3, .int), (t4, .int), (t5, .int)] s := hK
  refine va_putF (D := D) (ci := 2) (v := .ref q5) (ty := .array .int) (C := RX2) (T := TX2) (N := 13) hx hb hts qzX2 tyX2 tyX2_ok nmX2 hown hK hP hD hS 0 rfl rfl 7 (by decide) (hts _ qfX2_28) (fun _ h9 => h9) rfl hin rfl (by decide +kernel) rfl rfl (Nat.le_of_ble_eq_true rfl) dX2_init_53 (fun H locs hP hD hS => ?_)
  have hP : va_P D vwCl [(h0, .inr (2, [.int 0, .ref q0, .ref q1, .int 0, .ref q2, .ref q3, .ref q4, .ref q5, .null, .int 0, .null, .null, .int 0])), (q0, .inl (t0, 120, .inl (fun _ => 0))), (q1, .inl (t1, 120, .inl (fun _ => 0))), (q2, .inl (t2, 300, .inl (fun _ => 0))), (q3, .inl (t3, 300, .inl (fun _ => 0))), (q4, .inl (t4, 300, .inl (fun _ => 0))), (q5, .inl (t5, 300, .inl (fun _ => 0)))] H := hP
  have hD : va_D A [(h0, .inr (2, [.int 0, .ref q0, .ref q1, .int 0, .ref q2, .ref q3, .ref q4, .ref q5, .null, .int 0, .null, .null, .int 0])), (q0, .inl (t0, 120, .inl (fun _ => 0))), (q1, .inl (t1, 120, .inl (fun _ => 0))), (q2, .inl (t2, 300, .inl (fun _ => 0))), (q3, .inl (t3, 300, .inl (fun _ => 0))), (q4, .inl (t4, 300, .inl (fun _ => 0))), (q5, .inl (t5, 300, .inl (fun _ => 0)))] := hD
  refine lv_aload_n hx hb dX2_init_56 rfl (lv_at hl 0 rfl) ?_
  refine lv_sipush (v := 300) hx hb dX2_init_57 (by decide) ?_
  refine va_newa (atype := .int) (ty := .int) (a0 := (300, .inl (fun _ => 0))) (N' := 300) hx hb (hts _ qa_int) rfl hK hP hD hS hA (fun cA => rfl) (by decide) (by decide) (by decide) (Nat.le_of_ble_eq_true rfl) (Nat.le_of_ble_eq_true rfl) dX2_init_60 (fun q6 t6 H hK hP hD hS => ?_)
  refine W.widen (k := 7) (n := 1740) (Nat.le_of_ble_eq_true rfl) (Nat.le_of_ble_eq_true rfl) ?_
  have hP : va_P D vwCl [(h0, .inr (2, [.int 0, .ref q0, .ref q1, .int 0, .ref q2, .ref q3, .ref q4, .ref q5, .null, .int 0, .null, .null, .int 0])), (q0, .inl (t0, 120, .inl (fun _ => 0))), (q1, .inl (t1, 120, .inl (fun _ => 0))), (q2, .inl (t2, 300, .inl (fun _ => 0))), (q3, .inl (t3, 300, .inl (fun _ => 0))), (q4, .inl (t4, 300, .inl (fun _ => 0))), (q5, .inl (t5, 300, .inl (fun _ => 0))), (q6, .inl (t6, 300, .inl (fun _ => 0)))] H := hP
  have hD : va_D A [(h0, .inr (2, [.int 0, .ref q0, .ref q1, .int 0, .ref q2, .ref q3, .ref q4, .ref q5, .null, .int 0, .null, .null, .int 0])), (q0, .inl (t0, 120, .inl (fun _ => 0))), (q1, .inl (t1, 120, .inl (fun _ => 0))), (q2, .inl (t2, 300, .inl (fun _ => 0))), (q3, .inl (t3, 300, .inl (fun _ => 0))), (q4, .inl (t4, 300, .inl (fun _ => 0))), (q5, .inl (t5, 300, .inl (fun _ => 0))), (q6, .inl (t6, 300, .inl (fun _ => 0)))] := hD
  have hK : va_K D vwCl [(t0, .int), (t1, .boolean), (t2, .int), (t3, .int), (t4, .int), (t5, .int), (t6, .int)] s := hK
  refine va_putF (D := D) (ci := 2) (v := .ref q6) (ty := .array .int) (C := RX2) (T := TX2) (N := 13) hx hb hts qzX2 tyX2 tyX2_ok nmX2 hown hK hP hD hS 0 rfl rfl 8 (by decide) (hts _ qfX2_31) (fun _ h9 => h9) rfl hin rfl (by decide +kernel) rfl rfl (Nat.le_of_ble_eq_true rfl) dX2_init_62 (fun H locs hP hD hS => ?_)
  have hP : va_P D vwCl [(h0, .inr (2, [.int 0, .ref q0, .ref q1, .int 0, .ref q2, .ref q3, .ref q4, .ref q5, .ref q6, .int 0, .null, .null, .int 0])), (q0, .inl (t0, 120, .inl (fun _ => 0))), (q1, .inl (t1, 120, .inl (fun _ => 0))), (q2, .inl (t2, 300, .inl (fun _ => 0))), (q3, .inl (t3, 300, .inl (fun _ => 0))), (q4, .inl (t4, 300, .inl (fun _ => 0))), (q5, .inl (t5, 300, .inl (fun _ => 0))), (q6, .inl (t6, 300, .inl (fun _ => 0)))] H := hP
  have hD : va_D A [(h0, .inr (2, [.int 0, .ref q0, .ref q1, .int 0, .ref q2, .ref q3, .ref q4, .ref q5, .ref q6, .int 0, .null, .null, .int 0])), (q0, .inl (t0, 120, .inl (fun _ => 0))), (q1, .inl (t1, 120, .inl (fun _ => 0))), (q2, .inl (t2, 300, .inl (fun _ => 0))), (q3, .inl (t3, 300, .inl (fun _ => 0))), (q4, .inl (t4, 300, .inl (fun _ => 0))), (q5, .inl (t5, 300, .inl (fun _ => 0))), (q6, .inl (t6, 300, .inl (fun _ => 0)))] := hD
  refine lv_aload_n hx hb dX2_init_65 rfl (lv_at hl 0 rfl) ?_
  refine lv_bipush (v := 121) hx hb dX2_init_66 (by decide) ?_
  refine va_newa (atype := .int) (ty := .int) (a0 := (121, .inl (fun _ => 0))) (N' := 121) hx hb (hts _ qa_int) rfl hK hP hD hS hA (fun cA => rfl) (by decide) (by decide) (by decide) (Nat.le_of_ble_eq_true rfl) (Nat.le_of_ble_eq_true rfl) dX2_init_68 (fun q7 t7 H hK hP hD hS => ?_)
  refine W.widen (k := 8) (n := 1861) (Nat.le_of_ble_eq_true rfl) (Nat.le_of_ble_eq_true rfl) ?_
  have hP : va_P D vwCl [(h0, .inr (2, [.int 0, .ref q0, .ref q1, .int 0, .ref q2, .ref q3, .ref q4, .ref q5, .ref q6, .int 0, .null, .null, .int 0])), (q0, .inl (t0, 120, .inl (fun _ => 0))), (q1, .inl (t1, 120, .inl (fun _ => 0))), (q2, .inl (t2, 300, .inl (fun _ => 0))), (q3, .inl (t3, 300, .inl (fun _ => 0))), (q4, .inl (t4, 300, .inl (fun _ => 0))), (q5, .inl (t5, 300, .inl (fun _ => 0))), (q6, .inl (t6, 300, .inl (fun _ => 0))), (q7, .inl (t7, 121, .inl (fun _ => 0)))] H := hP
  have hD : va_D A [(h0, .inr (2, [.int 0, .ref q0, .ref q1, .int 0, .ref q2, .ref q3, .ref q4, .ref q5, .ref q6, .int 0, .null, .null, .int 0])), (q0, .inl (t0, 120, .inl (fun _ => 0))), (q1, .inl (t1, 120, .inl (fun _ => 0))), (q2, .inl (t2, 300, .inl (fun _ => 0))), (q3, .inl (t3, 300, .inl (fun _ => 0))), (q4, .inl (t4, 300, .inl (fun _ => 0))), (q5, .inl (t5, 300, .inl (fun _ => 0))), (q6, .inl (t6, 300, .inl (fun _ => 0))), (q7, .inl (t7, 121, .inl (fun _ => 0)))] := hD
  have hK : va_K D vwCl [(t0, .int), (t1, .boolean), (t2, .int), (t3, .int), (t4, .int), (t5, .int), (t6, .int), (t7, .int)] s := hK
  refine va_putF (D := D) (ci := 2) (v := .ref q7) (ty := .array .int) (C := RX2) (T := TX2) (N := 13) hx hb hts qzX2 tyX2 tyX2_ok nmX2 hown hK hP hD hS 0 rfl rfl 10 (by decide) (hts _ qfX2_34) (fun _ h9 => h9) rfl hin rfl (by decide +kernel) rfl rfl (Nat.le_of_ble_eq_true rfl) dX2_init_70 (fun H locs hP hD hS => ?_)
  have hP : va_P D vwCl [(h0, .inr (2, [.int 0, .ref q0, .ref q1, .int 0, .ref q2, .ref q3, .ref q4, .ref q5, .ref q6, .int 0, .ref q7, .null, .int 0])), (q0, .inl (t0, 120, .inl (fun _ => 0))), (q1, .inl (t1, 120, .inl (fun _ => 0))), (q2, .inl (t2, 300, .inl (fun _ => 0))), (q3, .inl (t3, 300, .inl (fun _ => 0))), (q4, .inl (t4, 300, .inl (fun _ => 0))), (q5, .inl (t5, 300, .inl (fun _ => 0))), (q6, .inl (t6, 300, .inl (fun _ => 0))), (q7, .inl (t7, 121, .inl (fun _ => 0)))] H := hP
  have hD : va_D A [(h0, .inr (2, [.int 0, .ref q0, .ref q1, .int 0, .ref q2, .ref q3, .ref q4, .ref q5, .ref q6, .int 0, .ref q7, .null, .int 0])), (q0, .inl (t0, 120, .inl (fun _ => 0))), (q1, .inl (t1, 120, .inl (fun _ => 0))), (q2, .inl (t2, 300, .inl (fun _ => 0))), (q3, .inl (t3, 300, .inl (fun _ => 0))), (q4, .inl (t4, 300, .inl (fun _ => 0))), (q5, .inl (t5, 300, .inl (fun _ => 0))), (q6, .inl (t6, 300, .inl (fun _ => 0))), (q7, .inl (t7, 121, .inl (fun _ => 0)))] := hD
  refine lv_aload_n hx hb dX2_init_73 rfl (lv_at hl 0 rfl) ?_
  refine lv_sipush (v := 600) hx hb dX2_init_74 (by decide) ?_
  refine va_newa (atype := .int) (ty := .int) (a0 := (600, .inl (fun _ => 0))) (N' := 600) hx hb (hts _ qa_int) rfl hK hP hD hS hA (fun cA => rfl) (by decide) (by decide) (by decide) (Nat.le_of_ble_eq_true rfl) (Nat.le_of_ble_eq_true rfl) dX2_init_77 (fun q8 t8 H hK hP hD hS => ?_)
  refine W.widen (k := 9) (n := 2461) (Nat.le_of_ble_eq_true rfl) (Nat.le_of_ble_eq_true rfl) ?_
  have hP : va_P D vwCl [(h0, .inr (2, [.int 0, .ref q0, .ref q1, .int 0, .ref q2, .ref q3, .ref q4, .ref q5, .ref q6, .int 0, .ref q7, .null, .int 0])), (q0, .inl (t0, 120, .inl (fun _ => 0))), (q1, .inl (t1, 120, .inl (fun _ => 0))), (q2, .inl (t2, 300, .inl (fun _ => 0))), (q3, .inl (t3, 300, .inl (fun _ => 0))), (q4, .inl (t4, 300, .inl (fun _ => 0))), (q5, .inl (t5, 300, .inl (fun _ => 0))), (q6, .inl (t6, 300, .inl (fun _ => 0))), (q7, .inl (t7, 121, .inl (fun _ => 0))), (q8, .inl (t8, 600, .inl (fun _ => 0)))] H := hP
  have hD : va_D A [(h0, .inr (2, [.int 0, .ref q0, .ref q1, .int 0, .ref q2, .ref q3, .ref q4, .ref q5, .ref q6, .int 0, .ref q7, .null, .int 0])), (q0, .inl (t0, 120, .inl (fun _ => 0))), (q1, .inl (t1, 120, .inl (fun _ => 0))), (q2, .inl (t2, 300, .inl (fun _ => 0))), (q3, .inl (t3, 300, .inl (fun _ => 0))), (q4, .inl (t4, 300, .inl (fun _ => 0))), (q5, .inl (t5, 300, .inl (fun _ => 0))), (q6, .inl (t6, 300, .inl (fun _ => 0))), (q7, .inl (t7, 121, .inl (fun _ => 0))), (q8, .inl (t8, 600, .inl (fun _ => 0)))] := hD
  have hK : va_K D vwCl [(t0, .int), (t1, .boolean), (t2, .int), (t3, .int), (t4, .int), (t5, .int), (t6, .int), (t7, .int), (t8, .int)] s := hK
  refine va_putF (D := D) (ci := 2) (v := .ref q8) (ty := .array .int) (C := RX2) (T := TX2) (N := 13) hx hb hts qzX2 tyX2 tyX2_ok nmX2 hown hK hP hD hS 0 rfl rfl 11 (by decide) (hts _ qfX2_37) (fun _ h9 => h9) rfl hin rfl (by decide +kernel) rfl rfl (Nat.le_of_ble_eq_true rfl) dX2_init_79 (fun H locs hP hD hS => ?_)
  have hP : va_P D vwCl [(h0, .inr (2, [.int 0, .ref q0, .ref q1, .int 0, .ref q2, .ref q3, .ref q4, .ref q5, .ref q6, .int 0, .ref q7, .ref q8, .int 0])), (q0, .inl (t0, 120, .inl (fun _ => 0))), (q1, .inl (t1, 120, .inl (fun _ => 0))), (q2, .inl (t2, 300, .inl (fun _ => 0))), (q3, .inl (t3, 300, .inl (fun _ => 0))), (q4, .inl (t4, 300, .inl (fun _ => 0))), (q5, .inl (t5, 300, .inl (fun _ => 0))), (q6, .inl (t6, 300, .inl (fun _ => 0))), (q7, .inl (t7, 121, .inl (fun _ => 0))), (q8, .inl (t8, 600, .inl (fun _ => 0)))] H := hP
  have hD : va_D A [(h0, .inr (2, [.int 0, .ref q0, .ref q1, .int 0, .ref q2, .ref q3, .ref q4, .ref q5, .ref q6, .int 0, .ref q7, .ref q8, .int 0])), (q0, .inl (t0, 120, .inl (fun _ => 0))), (q1, .inl (t1, 120, .inl (fun _ => 0))), (q2, .inl (t2, 300, .inl (fun _ => 0))), (q3, .inl (t3, 300, .inl (fun _ => 0))), (q4, .inl (t4, 300, .inl (fun _ => 0))), (q5, .inl (t5, 300, .inl (fun _ => 0))), (q6, .inl (t6, 300, .inl (fun _ => 0))), (q7, .inl (t7, 121, .inl (fun _ => 0))), (q8, .inl (t8, 600, .inl (fun _ => 0)))] := hD
  exact W.vret hx hb hr (fun t ht hW => ⟨⟨(sr_pk 0 [q0, q1, q2, q3, q4, q5, q6, q7, q8], sr_pk t0 [t0, t1, t2, t3, t4, t5, t6, t7, t8]), rfl, trivial, by rw [ht]; exact hP, va_K.moved hW.alike hK, hD⟩, hS.F ht⟩) hS.2.2 dX2_init_82
def iw3 (h0 : Nat) (r : Nat) (a : Nat → Nat) (t : Nat → ClassId) : va_W := [(h0, .inr (3, [.ref r, .ref (a 0), .ref (a 1), .ref (a 2), .ref (a 3)])), (a 0, .inl (t 0, 120, .inl (fun _ => 0))), (a 1, .inl (t 1, 120, .inl (fun _ => 0))), (a 2, .inl (t 2, 120, .inl (fun _ => 0))), (a 3, .inl (t 3, 120, .inl (fun _ => 0)))]
def it3 (t : Nat → ClassId) : List (ClassId × FieldType) := [(t 0, .int), (t 1, .int), (t 2, .int), (t 3, .int)]
set_option maxHeartbeats 4000000 in
set_option maxRecDepth 100000 in
theorem kI3 (l : Launch) (D : va_G) (h0 : Nat) (r : Nat) (sz : Nat) : Met l yX3_init (.code yX3_init cX3_init 2 none :: sr_tbl) ({ frames := 1, cells := 4, slots := 480, locals := 12 }) (va_Pc [.ref h0, .ref r] (fun U => U.heap.size = sz ∧ va_P D vwCl [(h0, .inr (3, [.null, .null, .null, .null, .null]))] U.heap ∧ va_K D vwCl [] U ∧ va_D (fun _ => True) [(h0, .inr (3, [.null, .null, .null, .null, .null]))])) (va_Qv (fun _ : (Nat → Nat) × (Nat → ClassId) => True) (fun u t => va_P D vwCl (iw3 h0 r u.1 u.2) t.heap ∧ va_K D vwCl (it3 u.2) t ∧ va_D (va_A [(h0, .inr (3, [.null, .null, .null, .null, .null]))] sz) (iw3 h0 r u.1 u.2)) (va_A [(h0, .inr (3, [.null, .null, .null, .null, .null]))] sz)) 4 480 (va_A [(h0, .inr (3, [.null, .null, .null, .null, .null]))] sz) := by
  refine Met.ofW (cc := cX3_init) (maxL := 2) (ret := none) (by decide) rfl ?_
  intro p e s m args below meth c s₁ B hml hv
  obtain ⟨rfl, hsz, hP, hK, hD0⟩ := hv
  have hx := B.exec
  have hb := B.bytes
  have hr := B.returns
  have hts0 := atoms_spec (ws := .code yX3_init cX3_init 2 none :: sr_tbl) B.pre
  have hts : ∀ w ∈ sr_tbl, w.before ([.ref h0, .ref r] : List Value).toArray s = true := fun w hw => hts0 w (List.mem_cons_of_mem _ hw)
  have hown : s.vm.findClass RX3 = some m.cls := findClass_of_methodNamed B.named
  have hlocks := B.notSynchronized
  have hin : meth.name = "<init>" := (name_of_methodNamed B.named B.method).1
  subst hsz
  have hD := hD0.self (sz := s.heap.size)
  generalize hAe : va_A [(h0, .inr (3, [.null, .null, .null, .null, .null]))] s.heap.size = A at hD ⊢
  have hA : ∀ q : Nat, s.heap.size ≤ q → A q := fun q h => by rw [← hAe]; exact Or.inr h
  have hS : va_S A s.heap s.heap [] := va_S.rf
  have hl := lv_entry ([.ref h0, .ref r]) (n := 2) (Nat.le_of_ble_eq_true rfl)
  rw [lg_entry_eq]
  generalize (lg_sl ([.ref h0, .ref r]) ++ List.replicate (2 - (lg_sl ([.ref h0, .ref r])).length) Slot.unset).toArray = ls at hl ⊢
  have hl : lv_has ls 2 [(0, .ref h0), (1, .ref r)] := hl
  refine lv_aload_n hx hb dX3_init_0 rfl (lv_at hl 0 rfl) ?_
  refine W.objInit hx hb hown (hts _ qoX3) (hts _ qoI) (hts _ qoC) rfl (by rw [hml]; exact hl.1) rfl dX3_init_1 (Nat.le_of_ble_eq_true rfl) (Nat.le_of_ble_eq_true rfl) ?_
  refine W.eq (g2 := F0 m 4 ls []) rfl ?_
  refine lv_aload_n hx hb dX3_init_4 rfl (lv_at hl 0 rfl) ?_
  refine lv_bipush (v := 120) hx hb dX3_init_5 (by decide) ?_
  refine va_newa (atype := .int) (ty := .int) (a0 := (120, .inl (fun _ => 0))) (N' := 120) hx hb (hts _ qa_int) rfl hK hP hD hS hA (fun cA => rfl) (by decide) (by decide) (by decide) (Nat.le_of_ble_eq_true rfl) (Nat.le_of_ble_eq_true rfl) dX3_init_7 (fun q0 t0 H hK hP hD hS => ?_)
  refine W.widen (k := 1) (n := 120) (Nat.le_of_ble_eq_true rfl) (Nat.le_of_ble_eq_true rfl) ?_
  have hP : va_P D vwCl [(h0, .inr (3, [.null, .null, .null, .null, .null])), (q0, .inl (t0, 120, .inl (fun _ => 0)))] H := hP
  have hD : va_D A [(h0, .inr (3, [.null, .null, .null, .null, .null])), (q0, .inl (t0, 120, .inl (fun _ => 0)))] := hD
  have hK : va_K D vwCl [(t0, .int)] s := hK
  refine va_putF (D := D) (ci := 3) (v := .ref q0) (ty := .array .int) (C := RX3) (T := TX3) (N := 5) hx hb hts qzX3 tyX3 tyX3_ok nmX3 hown hK hP hD hS 0 rfl rfl 1 (by decide) (hts _ qfX3_9) (fun _ h9 => h9) rfl hin rfl (by decide +kernel) rfl rfl (Nat.le_of_ble_eq_true rfl) dX3_init_9 (fun H locs hP hD hS => ?_)
  have hP : va_P D vwCl [(h0, .inr (3, [.null, .ref q0, .null, .null, .null])), (q0, .inl (t0, 120, .inl (fun _ => 0)))] H := hP
  have hD : va_D A [(h0, .inr (3, [.null, .ref q0, .null, .null, .null])), (q0, .inl (t0, 120, .inl (fun _ => 0)))] := hD
  refine lv_aload_n hx hb dX3_init_12 rfl (lv_at hl 0 rfl) ?_
  refine lv_bipush (v := 120) hx hb dX3_init_13 (by decide) ?_
  refine va_newa (atype := .int) (ty := .int) (a0 := (120, .inl (fun _ => 0))) (N' := 120) hx hb (hts _ qa_int) rfl hK hP hD hS hA (fun cA => rfl) (by decide) (by decide) (by decide) (Nat.le_of_ble_eq_true rfl) (Nat.le_of_ble_eq_true rfl) dX3_init_15 (fun q1 t1 H hK hP hD hS => ?_)
  refine W.widen (k := 2) (n := 240) (Nat.le_of_ble_eq_true rfl) (Nat.le_of_ble_eq_true rfl) ?_
  have hP : va_P D vwCl [(h0, .inr (3, [.null, .ref q0, .null, .null, .null])), (q0, .inl (t0, 120, .inl (fun _ => 0))), (q1, .inl (t1, 120, .inl (fun _ => 0)))] H := hP
  have hD : va_D A [(h0, .inr (3, [.null, .ref q0, .null, .null, .null])), (q0, .inl (t0, 120, .inl (fun _ => 0))), (q1, .inl (t1, 120, .inl (fun _ => 0)))] := hD
  have hK : va_K D vwCl [(t0, .int), (t1, .int)] s := hK
  refine va_putF (D := D) (ci := 3) (v := .ref q1) (ty := .array .int) (C := RX3) (T := TX3) (N := 5) hx hb hts qzX3 tyX3 tyX3_ok nmX3 hown hK hP hD hS 0 rfl rfl 2 (by decide) (hts _ qfX3_15) (fun _ h9 => h9) rfl hin rfl (by decide +kernel) rfl rfl (Nat.le_of_ble_eq_true rfl) dX3_init_17 (fun H locs hP hD hS => ?_)
  have hP : va_P D vwCl [(h0, .inr (3, [.null, .ref q0, .ref q1, .null, .null])), (q0, .inl (t0, 120, .inl (fun _ => 0))), (q1, .inl (t1, 120, .inl (fun _ => 0)))] H := hP
  have hD : va_D A [(h0, .inr (3, [.null, .ref q0, .ref q1, .null, .null])), (q0, .inl (t0, 120, .inl (fun _ => 0))), (q1, .inl (t1, 120, .inl (fun _ => 0)))] := hD
  refine lv_aload_n hx hb dX3_init_20 rfl (lv_at hl 0 rfl) ?_
  refine lv_bipush (v := 120) hx hb dX3_init_21 (by decide) ?_
  refine va_newa (atype := .int) (ty := .int) (a0 := (120, .inl (fun _ => 0))) (N' := 120) hx hb (hts _ qa_int) rfl hK hP hD hS hA (fun cA => rfl) (by decide) (by decide) (by decide) (Nat.le_of_ble_eq_true rfl) (Nat.le_of_ble_eq_true rfl) dX3_init_23 (fun q2 t2 H hK hP hD hS => ?_)
  refine W.widen (k := 3) (n := 360) (Nat.le_of_ble_eq_true rfl) (Nat.le_of_ble_eq_true rfl) ?_
  have hP : va_P D vwCl [(h0, .inr (3, [.null, .ref q0, .ref q1, .null, .null])), (q0, .inl (t0, 120, .inl (fun _ => 0))), (q1, .inl (t1, 120, .inl (fun _ => 0))), (q2, .inl (t2, 120, .inl (fun _ => 0)))] H := hP
  have hD : va_D A [(h0, .inr (3, [.null, .ref q0, .ref q1, .null, .null])), (q0, .inl (t0, 120, .inl (fun _ => 0))), (q1, .inl (t1, 120, .inl (fun _ => 0))), (q2, .inl (t2, 120, .inl (fun _ => 0)))] := hD
  have hK : va_K D vwCl [(t0, .int), (t1, .int), (t2, .int)] s := hK
  refine va_putF (D := D) (ci := 3) (v := .ref q2) (ty := .array .int) (C := RX3) (T := TX3) (N := 5) hx hb hts qzX3 tyX3 tyX3_ok nmX3 hown hK hP hD hS 0 rfl rfl 3 (by decide) (hts _ qfX3_18) (fun _ h9 => h9) rfl hin rfl (by decide +kernel) rfl rfl (Nat.le_of_ble_eq_true rfl) dX3_init_25 (fun H locs hP hD hS => ?_)
  have hP : va_P D vwCl [(h0, .inr (3, [.null, .ref q0, .ref q1, .ref q2, .null])), (q0, .inl (t0, 120, .inl (fun _ => 0))), (q1, .inl (t1, 120, .inl (fun _ => 0))), (q2, .inl (t2, 120, .inl (fun _ => 0)))] H := hP
  have hD : va_D A [(h0, .inr (3, [.null, .ref q0, .ref q1, .ref q2, .null])), (q0, .inl (t0, 120, .inl (fun _ => 0))), (q1, .inl (t1, 120, .inl (fun _ => 0))), (q2, .inl (t2, 120, .inl (fun _ => 0)))] := hD
  refine lv_aload_n hx hb dX3_init_28 rfl (lv_at hl 0 rfl) ?_
  refine lv_bipush (v := 120) hx hb dX3_init_29 (by decide) ?_
  refine va_newa (atype := .int) (ty := .int) (a0 := (120, .inl (fun _ => 0))) (N' := 120) hx hb (hts _ qa_int) rfl hK hP hD hS hA (fun cA => rfl) (by decide) (by decide) (by decide) (Nat.le_of_ble_eq_true rfl) (Nat.le_of_ble_eq_true rfl) dX3_init_31 (fun q3 t3 H hK hP hD hS => ?_)
  refine W.widen (k := 4) (n := 480) (Nat.le_of_ble_eq_true rfl) (Nat.le_of_ble_eq_true rfl) ?_
  have hP : va_P D vwCl [(h0, .inr (3, [.null, .ref q0, .ref q1, .ref q2, .null])), (q0, .inl (t0, 120, .inl (fun _ => 0))), (q1, .inl (t1, 120, .inl (fun _ => 0))), (q2, .inl (t2, 120, .inl (fun _ => 0))), (q3, .inl (t3, 120, .inl (fun _ => 0)))] H := hP
  have hD : va_D A [(h0, .inr (3, [.null, .ref q0, .ref q1, .ref q2, .null])), (q0, .inl (t0, 120, .inl (fun _ => 0))), (q1, .inl (t1, 120, .inl (fun _ => 0))), (q2, .inl (t2, 120, .inl (fun _ => 0))), (q3, .inl (t3, 120, .inl (fun _ => 0)))] := hD
  have hK : va_K D vwCl [(t0, .int), (t1, .int), (t2, .int), (t3, .int)] s := hK
  refine va_putF (D := D) (ci := 3) (v := .ref q3) (ty := .array .int) (C := RX3) (T := TX3) (N := 5) hx hb hts qzX3 tyX3 tyX3_ok nmX3 hown hK hP hD hS 0 rfl rfl 4 (by decide) (hts _ qfX3_21) (fun _ h9 => h9) rfl hin rfl (by decide +kernel) rfl rfl (Nat.le_of_ble_eq_true rfl) dX3_init_33 (fun H locs hP hD hS => ?_)
  have hP : va_P D vwCl [(h0, .inr (3, [.null, .ref q0, .ref q1, .ref q2, .ref q3])), (q0, .inl (t0, 120, .inl (fun _ => 0))), (q1, .inl (t1, 120, .inl (fun _ => 0))), (q2, .inl (t2, 120, .inl (fun _ => 0))), (q3, .inl (t3, 120, .inl (fun _ => 0)))] H := hP
  have hD : va_D A [(h0, .inr (3, [.null, .ref q0, .ref q1, .ref q2, .ref q3])), (q0, .inl (t0, 120, .inl (fun _ => 0))), (q1, .inl (t1, 120, .inl (fun _ => 0))), (q2, .inl (t2, 120, .inl (fun _ => 0))), (q3, .inl (t3, 120, .inl (fun _ => 0)))] := hD
  refine lv_aload_n hx hb dX3_init_36 rfl (lv_at hl 0 rfl) ?_
  refine lv_aload_n hx hb dX3_init_37 rfl (lv_at hl 1 rfl) ?_
  refine va_putF (D := D) (ci := 3) (v := .ref r) (ty := .object "SeepingRock$Rock") (C := RX3) (T := TX3) (N := 5) hx hb hts qzX3 tyX3 tyX3_ok nmX3 hown hK hP hD hS 0 rfl rfl 0 (by decide) (hts _ qfX3_24) (fun _ h9 => h9) rfl hin rfl (by decide +kernel) rfl rfl (Nat.le_of_ble_eq_true rfl) dX3_init_38 (fun H locs hP hD hS => ?_)
  have hP : va_P D vwCl [(h0, .inr (3, [.ref r, .ref q0, .ref q1, .ref q2, .ref q3])), (q0, .inl (t0, 120, .inl (fun _ => 0))), (q1, .inl (t1, 120, .inl (fun _ => 0))), (q2, .inl (t2, 120, .inl (fun _ => 0))), (q3, .inl (t3, 120, .inl (fun _ => 0)))] H := hP
  have hD : va_D A [(h0, .inr (3, [.ref r, .ref q0, .ref q1, .ref q2, .ref q3])), (q0, .inl (t0, 120, .inl (fun _ => 0))), (q1, .inl (t1, 120, .inl (fun _ => 0))), (q2, .inl (t2, 120, .inl (fun _ => 0))), (q3, .inl (t3, 120, .inl (fun _ => 0)))] := hD
  exact W.vret hx hb hr (fun t ht hW => ⟨⟨(sr_pk 0 [q0, q1, q2, q3], sr_pk t0 [t0, t1, t2, t3]), rfl, trivial, by rw [ht]; exact hP, va_K.moved hW.alike hK, hD⟩, hS.F ht⟩) hS.2.2 dX3_init_41
