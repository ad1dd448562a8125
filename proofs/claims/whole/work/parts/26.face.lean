noncomputable def f4_pore (a1 : Int32) (M : sr_M) : Option (Int32 × sr_M) :=
if a1 < 0 then
(some ((-1), M))
else
(if a1 ≤ 4 then
(sr_bnd (M.1 1 0) fun v1 =>
if v1 < 120 then
(sr_putB M 30 1 0 fun M2 =>
sr_bd2 (f2_addPore a1 M2) fun v3 M4 =>
some (v3, M4))
else
(some ((-2), M)))
else
(some ((-1), M)))
set_option maxHeartbeats 4000000 in
set_option maxRecDepth 100000 in
theorem k4_pore (l : Launch) (D : va_G) (t : Nat → ClassId) (ad : Nat → Nat) (a1 : Int32) (M : sr_M) (r : Int32) (M' : sr_M) (h : f4_pore a1 M = some (r, M')) : sr_Mi l D vwCl (xty t) ad (xcf t ad) 62 yX4_pore (.code yX4_pore cX4_pore 2 (some .int) :: sr_tbl) ({ frames := 1, cells := 0, slots := 0, locals := 22 }) [.ref (ad 0), .int a1] M r M' := by
  refine sr_open_i (cc := cX4_pore) (maxL := 2) (by decide) rfl (Nat.le_of_ble_eq_true rfl) ?_
  intro p e s m args below meth c A Q ls hx hb hml hts0 hown hA hw hl ret
  have hts : ∀ w ∈ sr_tbl, w.before args s = true := fun w hw => hts0 w (List.mem_cons_of_mem _ hw)
  have hown : s.vm.findClass RX4 = some m.cls := hown
  have hl : lv_has ls 2 [(0, .ref (ad 0)), (1, .int a1)] := hl
  have hw : xH D t ad A s M s.heap [] := hw
  unfold f4_pore at h
  refine lv_iload_n hx hb dX4_pore_0 rfl (lv_at hl 1 rfl) ?_
  refine lv_if_lt (tgt := 9) hx hb dX4_pore_1 (by decide) (fun hc => ?_) (fun hc => ?_)
  · have h := sr_ifp h hc
    refine lv_iconst (v := (-1)) hx hb dX4_pore_9 (by decide) ?_
    obtain ⟨rfl, rfl⟩ := Prod.mk.inj (Option.some.inj h)
    exact ret _ _ _ _ hw rfl dX4_pore_10
  · have h := sr_ifn h hc
    refine lv_iload_n hx hb dX4_pore_4 rfl (lv_at hl 1 rfl) ?_
    refine lv_iconst (v := 4) hx hb dX4_pore_5 (by decide) ?_
    refine lv_icmp_le (tgt := 11) hx hb dX4_pore_6 (by decide) (fun hc => ?_) (fun hc => ?_)
    · have h := sr_ifp h hc
      refine lv_aload_n hx hb dX4_pore_11 rfl (lv_at hl 0 rfl) ?_
      refine sr_getr hx hb hts qzX4 hown hw (xf_0_0 t ad) (hts _ qfX4_10) dX4_pore_12 ?_
      refine sr_geti hx hb hts qzX2 hown hw (xf_1_0 t ad) (hts _ qfX4_46) h dX4_pore_15 (fun v1 h => ?_)
      refine lv_bipush (v := 120) hx hb dX4_pore_18 (by decide) ?_
      refine lv_icmp_lt (tgt := 26) hx hb dX4_pore_20 (by decide) (fun hc => ?_) (fun hc => ?_)
      · have h := sr_ifp h hc
        refine lv_aload_n hx hb dX4_pore_26 rfl (lv_at hl 0 rfl) ?_
        refine sr_getr hx hb hts qzX4 hown hw (xf_0_2 t ad) (hts _ qfX4_27) dX4_pore_27 ?_
        refine lv_iconst (v := 0) hx hb dX4_pore_30 (by decide) ?_
        refine sr_putz hx hb hts qzX1 tyX1 tyX1_ok nmX1 hown hw (xf_30_1 t ad) rfl rfl (hts _ qfX4_50) h dX4_pore_31 (fun M2 H locs h hw => ?_)
        refine lv_aload_n hx hb dX4_pore_34 rfl (lv_at hl 0 rfl) ?_
        refine sr_getr hx hb hts qzX4 hown hw (xf_0_0 t ad) (hts _ qfX4_10) dX4_pore_35 ?_
        refine lv_iload_n hx hb dX4_pore_38 rfl (lv_at hl 1 rfl) ?_
        obtain ⟨v3, M4, hc, h⟩ := sr_bind2 h
        refine sr_cVi (As := [.int a1]) (rest := []) ⟨hx, hb, hml, hown, hts⟩ (k2_addPore l D t ad a1 M2 _ _ hc) (cwV 1 hts (sr_goodV qmX4_54 qiX2_addPore qsX2_addPore qnX2 qcX2_addPore) rfl rfl rfl qdX2_addPore ⟨Nat.le_of_ble_eq_true rfl, Nat.le_of_ble_eq_true rfl⟩) hw hA (xo_1 t ad) rfl hl.1 rfl (Nat.le_of_ble_eq_true rfl) dX4_pore_39 (fun H locs hw => ?_)
        obtain ⟨rfl, rfl⟩ := Prod.mk.inj (Option.some.inj h)
        exact ret _ _ _ _ hw rfl dX4_pore_42
      · have h := sr_ifn h hc
        refine lv_bipush (v := (-2)) hx hb dX4_pore_23 (by decide) ?_
        obtain ⟨rfl, rfl⟩ := Prod.mk.inj (Option.some.inj h)
        exact ret _ _ _ _ hw rfl dX4_pore_25
    · have h := sr_ifn h hc
      refine lv_iconst (v := (-1)) hx hb dX4_pore_9 (by decide) ?_
      obtain ⟨rfl, rfl⟩ := Prod.mk.inj (Option.some.inj h)
      exact ret _ _ _ _ hw rfl dX4_pore_10

noncomputable def f4_throat (a1 : Int32) (a2 : Int32) (M : sr_M) : Option (Int32 × sr_M) :=
(f2_hasPore a1 M).bind fun v1 =>
if v1 = 0 then
(some ((-1), M))
else
((f2_hasPore a2 M).bind fun v2 =>
if v2 = 0 then
(some ((-1), M))
else
(if a1 = a2 then
(some ((-1), M))
else
(sr_bnd (M.1 1 3) fun v3 =>
if v3 < 300 then
(sr_putB M 30 1 0 fun M4 =>
sr_bd2 (f2_addThroat a1 a2 M4) fun v5 M6 =>
some (v5, M6))
else
(some ((-2), M)))))
set_option maxHeartbeats 4000000 in
set_option maxRecDepth 100000 in
theorem k4_throat (l : Launch) (D : va_G) (t : Nat → ClassId) (ad : Nat → Nat) (a1 : Int32) (a2 : Int32) (M : sr_M) (r : Int32) (M' : sr_M) (h : f4_throat a1 a2 M = some (r, M')) : sr_Mi l D vwCl (xty t) ad (xcf t ad) 62 yX4_throat (.code yX4_throat cX4_throat 3 (some .int) :: sr_tbl) ({ frames := 3, cells := 0, slots := 0, locals := 67 }) [.ref (ad 0), .int a1, .int a2] M r M' := by
  refine sr_open_i (cc := cX4_throat) (maxL := 3) (by decide) rfl (Nat.le_of_ble_eq_true rfl) ?_
  intro p e s m args below meth c A Q ls hx hb hml hts0 hown hA hw hl ret
  have hts : ∀ w ∈ sr_tbl, w.before args s = true := fun w hw => hts0 w (List.mem_cons_of_mem _ hw)
  have hown : s.vm.findClass RX4 = some m.cls := hown
  have hl : lv_has ls 3 [(0, .ref (ad 0)), (1, .int a1), (2, .int a2)] := hl
  have hw : xH D t ad A s M s.heap [] := hw
  unfold f4_throat at h
  refine lv_aload_n hx hb dX4_throat_0 rfl (lv_at hl 0 rfl) ?_
  refine sr_getr hx hb hts qzX4 hown hw (xf_0_0 t ad) (hts _ qfX4_10) dX4_throat_1 ?_
  refine lv_iload_n hx hb dX4_throat_4 rfl (lv_at hl 1 rfl) ?_
  obtain ⟨v1, hc, h⟩ := sr_bind1 h
  refine sr_cVi (As := [.int a1]) (rest := []) ⟨hx, hb, hml, hown, hts⟩ (k2_hasPore l D t ad a1 M _ hc) (cwV 1 hts (sr_goodV qmX4_58 qiX2_hasPore qsX2_hasPore qnX2 qcX2_hasPore) rfl rfl rfl qdX2_hasPore ⟨Nat.le_of_ble_eq_true rfl, Nat.le_of_ble_eq_true rfl⟩) hw hA (xo_1 t ad) rfl hl.1 rfl (Nat.le_of_ble_eq_true rfl) dX4_throat_5 (fun H locs hw => ?_)
  refine lv_if_eq (tgt := 27) hx hb dX4_throat_8 (by decide) (fun hc => ?_) (fun hc => ?_)
  · have h := sr_ifp h hc
    refine lv_iconst (v := (-1)) hx hb dX4_throat_27 (by decide) ?_
    obtain ⟨rfl, rfl⟩ := Prod.mk.inj (Option.some.inj h)
    exact ret _ _ _ _ hw rfl dX4_throat_28
  · have h := sr_ifn h hc
    refine lv_aload_n hx hb dX4_throat_11 rfl (lv_at hl 0 rfl) ?_
    refine sr_getr hx hb hts qzX4 hown hw (xf_0_0 t ad) (hts _ qfX4_10) dX4_throat_12 ?_
    refine lv_iload_n hx hb dX4_throat_15 rfl (lv_at hl 2 rfl) ?_
    obtain ⟨v2, hc, h⟩ := sr_bind1 h
    refine sr_cVi (As := [.int a2]) (rest := []) ⟨hx, hb, hml, hown, hts⟩ (k2_hasPore l D t ad a2 M _ hc) (cwV 1 hts (sr_goodV qmX4_58 qiX2_hasPore qsX2_hasPore qnX2 qcX2_hasPore) rfl rfl rfl qdX2_hasPore ⟨Nat.le_of_ble_eq_true rfl, Nat.le_of_ble_eq_true rfl⟩) hw hA (xo_1 t ad) rfl hl.1 rfl (Nat.le_of_ble_eq_true rfl) dX4_throat_16 (fun H locs hw => ?_)
    refine lv_if_eq (tgt := 27) hx hb dX4_throat_19 (by decide) (fun hc => ?_) (fun hc => ?_)
    · have h := sr_ifp h hc
      refine lv_iconst (v := (-1)) hx hb dX4_throat_27 (by decide) ?_
      obtain ⟨rfl, rfl⟩ := Prod.mk.inj (Option.some.inj h)
      exact ret _ _ _ _ hw rfl dX4_throat_28
    · have h := sr_ifn h hc
      refine lv_iload_n hx hb dX4_throat_22 rfl (lv_at hl 1 rfl) ?_
      refine lv_iload_n hx hb dX4_throat_23 rfl (lv_at hl 2 rfl) ?_
      refine lv_icmp_ne (tgt := 29) hx hb dX4_throat_24 (by decide) (fun hc => ?_) (fun hc => ?_)
      · have h := sr_ifn h hc
        refine lv_aload_n hx hb dX4_throat_29 rfl (lv_at hl 0 rfl) ?_
        refine sr_getr hx hb hts qzX4 hown hw (xf_0_0 t ad) (hts _ qfX4_10) dX4_throat_30 ?_
        refine sr_geti hx hb hts qzX2 hown hw (xf_1_3 t ad) (hts _ qfX4_62) h dX4_throat_33 (fun v3 h => ?_)
        refine lv_sipush (v := 300) hx hb dX4_throat_36 (by decide) ?_
        refine lv_icmp_lt (tgt := 45) hx hb dX4_throat_39 (by decide) (fun hc => ?_) (fun hc => ?_)
        · have h := sr_ifp h hc
          refine lv_aload_n hx hb dX4_throat_45 rfl (lv_at hl 0 rfl) ?_
          refine sr_getr hx hb hts qzX4 hown hw (xf_0_2 t ad) (hts _ qfX4_27) dX4_throat_46 ?_
          refine lv_iconst (v := 0) hx hb dX4_throat_49 (by decide) ?_
          refine sr_putz hx hb hts qzX1 tyX1 tyX1_ok nmX1 hown hw (xf_30_1 t ad) rfl rfl (hts _ qfX4_50) h dX4_throat_50 (fun M4 H locs h hw => ?_)
          refine lv_aload_n hx hb dX4_throat_53 rfl (lv_at hl 0 rfl) ?_
          refine sr_getr hx hb hts qzX4 hown hw (xf_0_0 t ad) (hts _ qfX4_10) dX4_throat_54 ?_
          refine lv_iload_n hx hb dX4_throat_57 rfl (lv_at hl 1 rfl) ?_
          refine lv_iload_n hx hb dX4_throat_58 rfl (lv_at hl 2 rfl) ?_
          obtain ⟨v5, M6, hc, h⟩ := sr_bind2 h
          refine sr_cVi (As := [.int a1, .int a2]) (rest := []) ⟨hx, hb, hml, hown, hts⟩ (k2_addThroat l D t ad a1 a2 M4 _ _ hc) (cwV 2 hts (sr_goodV qmX4_65 qiX2_addThroat qsX2_addThroat qnX2 qcX2_addThroat) rfl rfl rfl qdX2_addThroat ⟨Nat.le_of_ble_eq_true rfl, Nat.le_of_ble_eq_true rfl⟩) hw hA (xo_1 t ad) rfl hl.1 rfl (Nat.le_of_ble_eq_true rfl) dX4_throat_59 (fun H locs hw => ?_)
          obtain ⟨rfl, rfl⟩ := Prod.mk.inj (Option.some.inj h)
          exact ret _ _ _ _ hw rfl dX4_throat_62
        · have h := sr_ifn h hc
          refine lv_bipush (v := (-2)) hx hb dX4_throat_42 (by decide) ?_
          obtain ⟨rfl, rfl⟩ := Prod.mk.inj (Option.some.inj h)
          exact ret _ _ _ _ hw rfl dX4_throat_44
      · have h := sr_ifp h hc
        refine lv_iconst (v := (-1)) hx hb dX4_throat_27 (by decide) ?_
        obtain ⟨rfl, rfl⟩ := Prod.mk.inj (Option.some.inj h)
        exact ret _ _ _ _ hw rfl dX4_throat_28

noncomputable def f4_mayHinder (a1 : Int64) (M : sr_M) : Option (Int32) :=
if (lg_cmp a1 0) < 0 then
(some 0)
else
(if 0 < (lg_cmp a1 1000000000) then
(some 0)
else
(some 1))
set_option maxHeartbeats 4000000 in
set_option maxRecDepth 100000 in
theorem k4_mayHinder (l : Launch) (D : va_G) (t : Nat → ClassId) (ad : Nat → Nat) (a1 : Int64) (M : sr_M) (r : Int32) (h : f4_mayHinder a1 M = some r) : sr_Mi l D vwCl (xty t) ad (xcf t ad) 62 yX4_mayHinder (.code yX4_mayHinder cX4_mayHinder 2 (some .boolean) :: sr_tbl) ({ frames := 0, cells := 0, slots := 0, locals := 0 }) [.long a1] M r M := by
  refine sr_open_i (cc := cX4_mayHinder) (maxL := 2) (by decide) rfl (Nat.le_of_ble_eq_true rfl) ?_
  intro p e s m args below meth c A Q ls hx hb hml hts0 hown hA hw hl ret
  have hts : ∀ w ∈ sr_tbl, w.before args s = true := fun w hw => hts0 w (List.mem_cons_of_mem _ hw)
  have hown : s.vm.findClass RX4 = some m.cls := hown
  have hl : lv_has ls 2 [(0, .long a1)] := hl
  have hw : xH D t ad A s M s.heap [] := hw
  unfold f4_mayHinder at h
  refine lv_lload_n hx hb dX4_mayHinder_0 rfl (lv_at hl 0 rfl) ?_
  refine lv_lconst (v := 0) hx hb dX4_mayHinder_1 (by decide) ?_
  refine W.lcmp hx hb dX4_mayHinder_2 ?_
  refine lv_if_lt (tgt := 18) hx hb dX4_mayHinder_3 (by decide) (fun hc => ?_) (fun hc => ?_)
  · have h := sr_ifp h hc
    refine lv_iconst (v := 0) hx hb dX4_mayHinder_18 (by decide) ?_
    obtain rfl := Option.some.inj h
    exact ret _ _ _ _ hw rfl dX4_mayHinder_19
  · have h := sr_ifn h hc
    refine lv_lload_n hx hb dX4_mayHinder_6 rfl (lv_at hl 0 rfl) ?_
    refine lv_ldc2 (v := 1000000000) hx hb hown (hts _ qkX4_231) dX4_mayHinder_7 ?_
    refine W.lcmp hx hb dX4_mayHinder_10 ?_
    refine lv_if_gt (tgt := 18) hx hb dX4_mayHinder_11 (by decide) (fun hc => ?_) (fun hc => ?_)
    · have h := sr_ifp h hc
      refine lv_iconst (v := 0) hx hb dX4_mayHinder_18 (by decide) ?_
      obtain rfl := Option.some.inj h
      exact ret _ _ _ _ hw rfl dX4_mayHinder_19
    · have h := sr_ifn h hc
      refine lv_iconst (v := 1) hx hb dX4_mayHinder_14 (by decide) ?_
      refine lv_goto (tgt := 19) hx hb dX4_mayHinder_15 (by decide) ?_
      obtain rfl := Option.some.inj h
      exact ret _ _ _ _ hw rfl dX4_mayHinder_19

noncomputable def f4_hinder (a1 : Int32) (a2 : Int32) (M : sr_M) : Option (Int32 × sr_M) :=
(f2_hasThroat a1 M).bind fun v1 =>
if v1 = 0 then
(some ((-1), M))
else
((f4_mayHinder a2.toInt64 M).bind fun v2 =>
if v2 = 0 then
(some ((-1), M))
else
(sr_putB M 30 1 0 fun M3 =>
(f2_isOpen a1 M3).bind fun v4 =>
(f2_settle a1 a2 v4 M3).bind fun M5 =>
some (1, M5)))
set_option maxHeartbeats 4000000 in
set_option maxRecDepth 100000 in
theorem k4_hinder (l : Launch) (D : va_G) (t : Nat → ClassId) (ad : Nat → Nat) (a1 : Int32) (a2 : Int32) (M : sr_M) (r : Int32) (M' : sr_M) (h : f4_hinder a1 a2 M = some (r, M')) : sr_Mi l D vwCl (xty t) ad (xcf t ad) 62 yX4_hinder (.code yX4_hinder cX4_hinder 3 (some .int) :: sr_tbl) ({ frames := 3, cells := 0, slots := 0, locals := 67 }) [.ref (ad 0), .int a1, .int a2] M r M' := by
  refine sr_open_i (cc := cX4_hinder) (maxL := 3) (by decide) rfl (Nat.le_of_ble_eq_true rfl) ?_
  intro p e s m args below meth c A Q ls hx hb hml hts0 hown hA hw hl ret
  have hts : ∀ w ∈ sr_tbl, w.before args s = true := fun w hw => hts0 w (List.mem_cons_of_mem _ hw)
  have hown : s.vm.findClass RX4 = some m.cls := hown
  have hl : lv_has ls 3 [(0, .ref (ad 0)), (1, .int a1), (2, .int a2)] := hl
  have hw : xH D t ad A s M s.heap [] := hw
  unfold f4_hinder at h
  refine lv_aload_n hx hb dX4_hinder_0 rfl (lv_at hl 0 rfl) ?_
  refine sr_getr hx hb hts qzX4 hown hw (xf_0_0 t ad) (hts _ qfX4_10) dX4_hinder_1 ?_
  refine lv_iload_n hx hb dX4_hinder_4 rfl (lv_at hl 1 rfl) ?_
  obtain ⟨v1, hc, h⟩ := sr_bind1 h
  refine sr_cVi (As := [.int a1]) (rest := []) ⟨hx, hb, hml, hown, hts⟩ (k2_hasThroat l D t ad a1 M _ hc) (cwV 1 hts (sr_goodV qmX4_69 qiX2_hasThroat qsX2_hasThroat qnX2 qcX2_hasThroat) rfl rfl rfl qdX2_hasThroat ⟨Nat.le_of_ble_eq_true rfl, Nat.le_of_ble_eq_true rfl⟩) hw hA (xo_1 t ad) rfl hl.1 rfl (Nat.le_of_ble_eq_true rfl) dX4_hinder_5 (fun H locs hw => ?_)
  refine lv_if_eq (tgt := 19) hx hb dX4_hinder_8 (by decide) (fun hc => ?_) (fun hc => ?_)
  · have h := sr_ifp h hc
    refine lv_iconst (v := (-1)) hx hb dX4_hinder_19 (by decide) ?_
    obtain ⟨rfl, rfl⟩ := Prod.mk.inj (Option.some.inj h)
    exact ret _ _ _ _ hw rfl dX4_hinder_20
  · have h := sr_ifn h hc
    refine lv_iload_n hx hb dX4_hinder_11 rfl (lv_at hl 2 rfl) ?_
    refine lv_i2l (v := a2.toInt64) hx hb dX4_hinder_12 rfl ?_
    obtain ⟨v2, hc, h⟩ := sr_bind1 h
    refine sr_cSi (As := [.long a2.toInt64]) (rest := []) ⟨hx, hb, hml, hown, hts⟩ (k4_mayHinder l D t ad a2.toInt64 M _ hc) (cwS 1 hts (sr_goodS qmX4_72 qtX4_mayHinder qnX4 qcX4_mayHinder) rfl rfl rfl qdX4_mayHinder ⟨Nat.le_of_ble_eq_true rfl, Nat.le_of_ble_eq_true rfl⟩) hw hA rfl hl.1 rfl (Nat.le_of_ble_eq_true rfl) dX4_hinder_13 (fun H locs hw => ?_)
    refine lv_if_ne (tgt := 21) hx hb dX4_hinder_16 (by decide) (fun hc => ?_) (fun hc => ?_)
    · have h := sr_ifn h hc
      refine lv_aload_n hx hb dX4_hinder_21 rfl (lv_at hl 0 rfl) ?_
      refine sr_getr hx hb hts qzX4 hown hw (xf_0_2 t ad) (hts _ qfX4_27) dX4_hinder_22 ?_
      refine lv_iconst (v := 0) hx hb dX4_hinder_25 (by decide) ?_
      refine sr_putz hx hb hts qzX1 tyX1 tyX1_ok nmX1 hown hw (xf_30_1 t ad) rfl rfl (hts _ qfX4_50) h dX4_hinder_26 (fun M3 H locs h hw => ?_)
      refine lv_aload_n hx hb dX4_hinder_29 rfl (lv_at hl 0 rfl) ?_
      refine sr_getr hx hb hts qzX4 hown hw (xf_0_0 t ad) (hts _ qfX4_10) dX4_hinder_30 ?_
      refine lv_iload_n hx hb dX4_hinder_33 rfl (lv_at hl 1 rfl) ?_
      refine lv_iload_n hx hb dX4_hinder_34 rfl (lv_at hl 2 rfl) ?_
      refine lv_aload_n hx hb dX4_hinder_35 rfl (lv_at hl 0 rfl) ?_
      refine sr_getr hx hb hts qzX4 hown hw (xf_0_0 t ad) (hts _ qfX4_10) dX4_hinder_36 ?_
      refine lv_iload_n hx hb dX4_hinder_39 rfl (lv_at hl 1 rfl) ?_
      obtain ⟨v4, hc, h⟩ := sr_bind1 h
      refine sr_cVi (As := [.int a1]) (rest := [.int a2, .int a1, .ref (ad 1)]) ⟨hx, hb, hml, hown, hts⟩ (k2_isOpen l D t ad a1 M3 _ hc) (cwV 1 hts (sr_goodV qmX4_76 qiX2_isOpen qsX2_isOpen qnX2 qcX2_isOpen) rfl rfl rfl qdX2_isOpen ⟨Nat.le_of_ble_eq_true rfl, Nat.le_of_ble_eq_true rfl⟩) hw hA (xo_1 t ad) rfl hl.1 rfl (Nat.le_of_ble_eq_true rfl) dX4_hinder_40 (fun H locs hw => ?_)
      obtain ⟨M5, hc, h⟩ := sr_bind1 h
      refine sr_cVv (As := [.int a1, .int a2, .int v4]) (rest := []) ⟨hx, hb, hml, hown, hts⟩ (k2_settle l D t ad a1 a2 v4 M3 _ hc) (cwV 3 hts (sr_goodV qmX4_79 qiX2_settle qsX2_settle qnX2 qcX2_settle) rfl rfl rfl qdX2_settle ⟨Nat.le_of_ble_eq_true rfl, Nat.le_of_ble_eq_true rfl⟩) hw hA (xo_1 t ad) rfl hl.1 rfl (Nat.le_of_ble_eq_true rfl) dX4_hinder_43 (fun H locs hw => ?_)
      refine lv_iconst (v := 1) hx hb dX4_hinder_46 (by decide) ?_
      obtain ⟨rfl, rfl⟩ := Prod.mk.inj (Option.some.inj h)
      exact ret _ _ _ _ hw rfl dX4_hinder_47
    · have h := sr_ifp h hc
      refine lv_iconst (v := (-1)) hx hb dX4_hinder_19 (by decide) ?_
      obtain ⟨rfl, rfl⟩ := Prod.mk.inj (Option.some.inj h)
      exact ret _ _ _ _ hw rfl dX4_hinder_20

noncomputable def f4_shut (a1 : Int32) (a2 : Int32) (M : sr_M) : Option (Int32 × sr_M) :=
(f2_hasThroat a1 M).bind fun v1 =>
if v1 = 0 then
(some ((-1), M))
else
(sr_putB M 30 1 0 fun M2 =>
(f2_isOpen a1 M2).bind fun v3 =>
if v3 = a2 then
(sr_ld a1 300 (M2.1 6) fun v4 =>
sr_jn (fun (v6 : Int32) =>
(f2_settle a1 v4 v6 M2).bind fun M7 =>
some (1, M7)) fun (K5 : Int32 → Option (Int32 × sr_M)) =>
if a2 = 0 then
(K5 1)
else
(K5 0))
else
(some (0, M2)))
set_option maxHeartbeats 4000000 in
set_option maxRecDepth 100000 in
theorem k4_shut (l : Launch) (D : va_G) (t : Nat → ClassId) (ad : Nat → Nat) (a1 : Int32) (a2 : Int32) (M : sr_M) (r : Int32) (M' : sr_M) (h : f4_shut a1 a2 M = some (r, M')) : sr_Mi l D vwCl (xty t) ad (xcf t ad) 62 yX4_shut (.code yX4_shut cX4_shut 3 (some .int) :: sr_tbl) ({ frames := 3, cells := 0, slots := 0, locals := 67 }) [.ref (ad 0), .int a1, .int a2] M r M' := by
  refine sr_open_i (cc := cX4_shut) (maxL := 3) (by decide) rfl (Nat.le_of_ble_eq_true rfl) ?_
  intro p e s m args below meth c A Q ls hx hb hml hts0 hown hA hw hl ret
  have hts : ∀ w ∈ sr_tbl, w.before args s = true := fun w hw => hts0 w (List.mem_cons_of_mem _ hw)
  have hown : s.vm.findClass RX4 = some m.cls := hown
  have hl : lv_has ls 3 [(0, .ref (ad 0)), (1, .int a1), (2, .int a2)] := hl
  have hw : xH D t ad A s M s.heap [] := hw
  unfold f4_shut at h
  refine lv_aload_n hx hb dX4_shut_0 rfl (lv_at hl 0 rfl) ?_
  refine sr_getr hx hb hts qzX4 hown hw (xf_0_0 t ad) (hts _ qfX4_10) dX4_shut_1 ?_
  refine lv_iload_n hx hb dX4_shut_4 rfl (lv_at hl 1 rfl) ?_
  obtain ⟨v1, hc, h⟩ := sr_bind1 h
  refine sr_cVi (As := [.int a1]) (rest := []) ⟨hx, hb, hml, hown, hts⟩ (k2_hasThroat l D t ad a1 M _ hc) (cwV 1 hts (sr_goodV qmX4_69 qiX2_hasThroat qsX2_hasThroat qnX2 qcX2_hasThroat) rfl rfl rfl qdX2_hasThroat ⟨Nat.le_of_ble_eq_true rfl, Nat.le_of_ble_eq_true rfl⟩) hw hA (xo_1 t ad) rfl hl.1 rfl (Nat.le_of_ble_eq_true rfl) dX4_shut_5 (fun H locs hw => ?_)
  refine lv_if_ne (tgt := 13) hx hb dX4_shut_8 (by decide) (fun hc => ?_) (fun hc => ?_)
  · have h := sr_ifn h hc
    refine lv_aload_n hx hb dX4_shut_13 rfl (lv_at hl 0 rfl) ?_
    refine sr_getr hx hb hts qzX4 hown hw (xf_0_2 t ad) (hts _ qfX4_27) dX4_shut_14 ?_
    refine lv_iconst (v := 0) hx hb dX4_shut_17 (by decide) ?_
    refine sr_putz hx hb hts qzX1 tyX1 tyX1_ok nmX1 hown hw (xf_30_1 t ad) rfl rfl (hts _ qfX4_50) h dX4_shut_18 (fun M2 H locs h hw => ?_)
    refine lv_aload_n hx hb dX4_shut_21 rfl (lv_at hl 0 rfl) ?_
    refine sr_getr hx hb hts qzX4 hown hw (xf_0_0 t ad) (hts _ qfX4_10) dX4_shut_22 ?_
    refine lv_iload_n hx hb dX4_shut_25 rfl (lv_at hl 1 rfl) ?_
    obtain ⟨v3, hc, h⟩ := sr_bind1 h
    refine sr_cVi (As := [.int a1]) (rest := []) ⟨hx, hb, hml, hown, hts⟩ (k2_isOpen l D t ad a1 M2 _ hc) (cwV 1 hts (sr_goodV qmX4_76 qiX2_isOpen qsX2_isOpen qnX2 qcX2_isOpen) rfl rfl rfl qdX2_isOpen ⟨Nat.le_of_ble_eq_true rfl, Nat.le_of_ble_eq_true rfl⟩) hw hA (xo_1 t ad) rfl hl.1 rfl (Nat.le_of_ble_eq_true rfl) dX4_shut_26 (fun H locs hw => ?_)
    refine lv_iload_n hx hb dX4_shut_29 rfl (lv_at hl 2 rfl) ?_
    refine lv_icmp_eq (tgt := 35) hx hb dX4_shut_30 (by decide) (fun hc => ?_) (fun hc => ?_)
    · have h := sr_ifp h hc
      refine lv_aload_n hx hb dX4_shut_35 rfl (lv_at hl 0 rfl) ?_
      refine sr_getr hx hb hts qzX4 hown hw (xf_0_0 t ad) (hts _ qfX4_10) dX4_shut_36 ?_
      refine lv_iload_n hx hb dX4_shut_39 rfl (lv_at hl 1 rfl) ?_
      refine lv_aload_n hx hb dX4_shut_40 rfl (lv_at hl 0 rfl) ?_
      refine sr_getr hx hb hts qzX4 hown hw (xf_0_0 t ad) (hts _ qfX4_10) dX4_shut_41 ?_
      refine sr_getr hx hb hts qzX2 hown hw (xf_1_6 t ad) (hts _ qfX4_83) dX4_shut_44 ?_
      refine lv_iload_n hx hb dX4_shut_47 rfl (lv_at hl 1 rfl) ?_
      refine sr_iald hx hb hw (xa_6 t ad) h dX4_shut_48 (fun v4 h => ?_)
      refine lv_iload_n hx hb dX4_shut_49 rfl (lv_at hl 2 rfl) ?_
      refine sr_jn_rule (fun (K5 : Int32 → Option (Int32 × sr_M)) => ∀ (v6 : Int32), K5 v6 = some (r, M') → ∀ (H : Heap) (locs : List Loc) (ls : Array Slot), xH D t ad A s M2 H locs → lv_has ls 3 [] → W p l e ({ frames := 3, cells := 0, slots := 0, locals := 67 }) s m args below meth c H locs 0 0 Q (F0 m 58 ls [.int v6, .int v4, .int a1, .ref (ad 1)])) h ?_ (fun K5 hK5 h => ?_)
      · intro v6 h H locs ls hw hl
        obtain ⟨M7, hc, h⟩ := sr_bind1 h
        refine sr_cVv (As := [.int a1, .int v4, .int v6]) (rest := []) ⟨hx, hb, hml, hown, hts⟩ (k2_settle l D t ad a1 v4 v6 M2 _ hc) (cwV 3 hts (sr_goodV qmX4_79 qiX2_settle qsX2_settle qnX2 qcX2_settle) rfl rfl rfl qdX2_settle ⟨Nat.le_of_ble_eq_true rfl, Nat.le_of_ble_eq_true rfl⟩) hw hA (xo_1 t ad) rfl hl.1 rfl (Nat.le_of_ble_eq_true rfl) dX4_shut_58 (fun H locs hw => ?_)
        refine lv_iconst (v := 1) hx hb dX4_shut_61 (by decide) ?_
        obtain ⟨rfl, rfl⟩ := Prod.mk.inj (Option.some.inj h)
        exact ret _ _ _ _ hw rfl dX4_shut_62
      · refine lv_if_ne (tgt := 57) hx hb dX4_shut_50 (by decide) (fun hc => ?_) (fun hc => ?_)
        · have h := sr_ifn h hc
          refine lv_iconst (v := 0) hx hb dX4_shut_57 (by decide) ?_
          exact hK5 0 h _ _ _ hw (lv_sub hl [] rfl)
        · have h := sr_ifp h hc
          refine lv_iconst (v := 1) hx hb dX4_shut_53 (by decide) ?_
          refine lv_goto (tgt := 58) hx hb dX4_shut_54 (by decide) ?_
          exact hK5 1 h _ _ _ hw (lv_sub hl [] rfl)
    · have h := sr_ifn h hc
      refine lv_iconst (v := 0) hx hb dX4_shut_33 (by decide) ?_
      obtain ⟨rfl, rfl⟩ := Prod.mk.inj (Option.some.inj h)
      exact ret _ _ _ _ hw rfl dX4_shut_34
  · have h := sr_ifp h hc
    refine lv_iconst (v := (-1)) hx hb dX4_shut_11 (by decide) ?_
    obtain ⟨rfl, rfl⟩ := Prod.mk.inj (Option.some.inj h)
    exact ret _ _ _ _ hw rfl dX4_shut_12

noncomputable def f4_inlet (a1 : Int32) (a2 : Int32) (M : sr_M) : Option (Int32 × sr_M) :=
(f2_hasPore a1 M).bind fun v1 =>
if v1 = 0 then
(some ((-1), M))
else
(sr_putB M 30 1 0 fun M2 =>
sr_ld a1 120 (M2.1 3) fun v3 =>
if v3 = a2 then
(some (0, M2))
else
(sr_stB a1 120 M2 3 a2 fun M4 =>
some (1, M4)))
set_option maxHeartbeats 4000000 in
set_option maxRecDepth 100000 in
theorem k4_inlet (l : Launch) (D : va_G) (t : Nat → ClassId) (ad : Nat → Nat) (a1 : Int32) (a2 : Int32) (M : sr_M) (r : Int32) (M' : sr_M) (h : f4_inlet a1 a2 M = some (r, M')) : sr_Mi l D vwCl (xty t) ad (xcf t ad) 62 yX4_inlet (.code yX4_inlet cX4_inlet 3 (some .int) :: sr_tbl) ({ frames := 1, cells := 0, slots := 0, locals := 21 }) [.ref (ad 0), .int a1, .int a2] M r M' := by
  refine sr_open_i (cc := cX4_inlet) (maxL := 3) (by decide) rfl (Nat.le_of_ble_eq_true rfl) ?_
  intro p e s m args below meth c A Q ls hx hb hml hts0 hown hA hw hl ret
  have hts : ∀ w ∈ sr_tbl, w.before args s = true := fun w hw => hts0 w (List.mem_cons_of_mem _ hw)
  have hown : s.vm.findClass RX4 = some m.cls := hown
  have hl : lv_has ls 3 [(0, .ref (ad 0)), (1, .int a1), (2, .int a2)] := hl
  have hw : xH D t ad A s M s.heap [] := hw
  unfold f4_inlet at h
  refine lv_aload_n hx hb dX4_inlet_0 rfl (lv_at hl 0 rfl) ?_
  refine sr_getr hx hb hts qzX4 hown hw (xf_0_0 t ad) (hts _ qfX4_10) dX4_inlet_1 ?_
  refine lv_iload_n hx hb dX4_inlet_4 rfl (lv_at hl 1 rfl) ?_
  obtain ⟨v1, hc, h⟩ := sr_bind1 h
  refine sr_cVi (As := [.int a1]) (rest := []) ⟨hx, hb, hml, hown, hts⟩ (k2_hasPore l D t ad a1 M _ hc) (cwV 1 hts (sr_goodV qmX4_58 qiX2_hasPore qsX2_hasPore qnX2 qcX2_hasPore) rfl rfl rfl qdX2_hasPore ⟨Nat.le_of_ble_eq_true rfl, Nat.le_of_ble_eq_true rfl⟩) hw hA (xo_1 t ad) rfl hl.1 rfl (Nat.le_of_ble_eq_true rfl) dX4_inlet_5 (fun H locs hw => ?_)
  refine lv_if_ne (tgt := 13) hx hb dX4_inlet_8 (by decide) (fun hc => ?_) (fun hc => ?_)
  · have h := sr_ifn h hc
    refine lv_aload_n hx hb dX4_inlet_13 rfl (lv_at hl 0 rfl) ?_
    refine sr_getr hx hb hts qzX4 hown hw (xf_0_2 t ad) (hts _ qfX4_27) dX4_inlet_14 ?_
    refine lv_iconst (v := 0) hx hb dX4_inlet_17 (by decide) ?_
    refine sr_putz hx hb hts qzX1 tyX1 tyX1_ok nmX1 hown hw (xf_30_1 t ad) rfl rfl (hts _ qfX4_50) h dX4_inlet_18 (fun M2 H locs h hw => ?_)
    refine lv_aload_n hx hb dX4_inlet_21 rfl (lv_at hl 0 rfl) ?_
    refine sr_getr hx hb hts qzX4 hown hw (xf_0_0 t ad) (hts _ qfX4_10) dX4_inlet_22 ?_
    refine sr_getr hx hb hts qzX2 hown hw (xf_1_2 t ad) (hts _ qfX4_86) dX4_inlet_25 ?_
    refine lv_iload_n hx hb dX4_inlet_28 rfl (lv_at hl 1 rfl) ?_
    refine sr_zald hx hb hw (xa_3 t ad) h dX4_inlet_29 (fun v3 h => ?_)
    refine lv_iload_n hx hb dX4_inlet_30 rfl (lv_at hl 2 rfl) ?_
    refine lv_icmp_ne (tgt := 36) hx hb dX4_inlet_31 (by decide) (fun hc => ?_) (fun hc => ?_)
    · have h := sr_ifn h hc
      refine lv_aload_n hx hb dX4_inlet_36 rfl (lv_at hl 0 rfl) ?_
      refine sr_getr hx hb hts qzX4 hown hw (xf_0_0 t ad) (hts _ qfX4_10) dX4_inlet_37 ?_
      refine sr_getr hx hb hts qzX2 hown hw (xf_1_2 t ad) (hts _ qfX4_86) dX4_inlet_40 ?_
      refine lv_iload_n hx hb dX4_inlet_43 rfl (lv_at hl 1 rfl) ?_
      refine lv_iload_n hx hb dX4_inlet_44 rfl (lv_at hl 2 rfl) ?_
      refine sr_zast hx hb hw (xa_3 t ad) h dX4_inlet_45 (fun M4 H locs h hw => ?_)
      refine lv_iconst (v := 1) hx hb dX4_inlet_46 (by decide) ?_
      obtain ⟨rfl, rfl⟩ := Prod.mk.inj (Option.some.inj h)
      exact ret _ _ _ _ hw rfl dX4_inlet_47
    · have h := sr_ifp h hc
      refine lv_iconst (v := 0) hx hb dX4_inlet_34 (by decide) ?_
      obtain ⟨rfl, rfl⟩ := Prod.mk.inj (Option.some.inj h)
      exact ret _ _ _ _ hw rfl dX4_inlet_35
  · have h := sr_ifp h hc
    refine lv_iconst (v := (-1)) hx hb dX4_inlet_11 (by decide) ?_
    obtain ⟨rfl, rfl⟩ := Prod.mk.inj (Option.some.inj h)
    exact ret _ _ _ _ hw rfl dX4_inlet_12

noncomputable def f4_trapping (a1 : Int32) (M : sr_M) : Option (Int32 × sr_M) :=
sr_putB M 30 1 0 fun M1 =>
sr_bnd (M1.1 1 12) fun v2 =>
if v2 = a1 then
(some (0, M1))
else
(sr_putB M1 1 12 a1 fun M3 =>
some (1, M3))
set_option maxHeartbeats 4000000 in
set_option maxRecDepth 100000 in
theorem k4_trapping (l : Launch) (D : va_G) (t : Nat → ClassId) (ad : Nat → Nat) (a1 : Int32) (M : sr_M) (r : Int32) (M' : sr_M) (h : f4_trapping a1 M = some (r, M')) : sr_Mi l D vwCl (xty t) ad (xcf t ad) 62 yX4_trapping (.code yX4_trapping cX4_trapping 2 (some .int) :: sr_tbl) ({ frames := 0, cells := 0, slots := 0, locals := 0 }) [.ref (ad 0), .int a1] M r M' := by
  refine sr_open_i (cc := cX4_trapping) (maxL := 2) (by decide) rfl (Nat.le_of_ble_eq_true rfl) ?_
  intro p e s m args below meth c A Q ls hx hb hml hts0 hown hA hw hl ret
  have hts : ∀ w ∈ sr_tbl, w.before args s = true := fun w hw => hts0 w (List.mem_cons_of_mem _ hw)
  have hown : s.vm.findClass RX4 = some m.cls := hown
  have hl : lv_has ls 2 [(0, .ref (ad 0)), (1, .int a1)] := hl
  have hw : xH D t ad A s M s.heap [] := hw
  unfold f4_trapping at h
  refine lv_aload_n hx hb dX4_trapping_0 rfl (lv_at hl 0 rfl) ?_
  refine sr_getr hx hb hts qzX4 hown hw (xf_0_2 t ad) (hts _ qfX4_27) dX4_trapping_1 ?_
  refine lv_iconst (v := 0) hx hb dX4_trapping_4 (by decide) ?_
  refine sr_putz hx hb hts qzX1 tyX1 tyX1_ok nmX1 hown hw (xf_30_1 t ad) rfl rfl (hts _ qfX4_50) h dX4_trapping_5 (fun M1 H locs h hw => ?_)
  refine lv_aload_n hx hb dX4_trapping_8 rfl (lv_at hl 0 rfl) ?_
  refine sr_getr hx hb hts qzX4 hown hw (xf_0_0 t ad) (hts _ qfX4_10) dX4_trapping_9 ?_
  refine sr_geti hx hb hts qzX2 hown hw (xf_1_12 t ad) (hts _ qfX4_90) h dX4_trapping_12 (fun v2 h => ?_)
  refine lv_iload_n hx hb dX4_trapping_15 rfl (lv_at hl 1 rfl) ?_
  refine lv_icmp_ne (tgt := 21) hx hb dX4_trapping_16 (by decide) (fun hc => ?_) (fun hc => ?_)
  · have h := sr_ifn h hc
    refine lv_aload_n hx hb dX4_trapping_21 rfl (lv_at hl 0 rfl) ?_
    refine sr_getr hx hb hts qzX4 hown hw (xf_0_0 t ad) (hts _ qfX4_10) dX4_trapping_22 ?_
    refine lv_iload_n hx hb dX4_trapping_25 rfl (lv_at hl 1 rfl) ?_
    refine sr_putz hx hb hts qzX2 tyX2 tyX2_ok nmX2 hown hw (xf_1_12 t ad) rfl rfl (hts _ qfX4_90) h dX4_trapping_26 (fun M3 H locs h hw => ?_)
    refine lv_iconst (v := 1) hx hb dX4_trapping_29 (by decide) ?_
    obtain ⟨rfl, rfl⟩ := Prod.mk.inj (Option.some.inj h)
    exact ret _ _ _ _ hw rfl dX4_trapping_30
  · have h := sr_ifp h hc
    refine lv_iconst (v := 0) hx hb dX4_trapping_19 (by decide) ?_
    obtain ⟨rfl, rfl⟩ := Prod.mk.inj (Option.some.inj h)
    exact ret _ _ _ _ hw rfl dX4_trapping_20

noncomputable def f4_about (a1 : Int32) (a2 : Int32) (M : sr_M) : Option (Int32) :=
(f2_hasThroat a1 M).bind fun v1 =>
if v1 = 0 then
(some (-1))
else
((if a2 = 0 then
(sr_ld a1 300 (M.1 4) fun v6 =>
some v6)
else
(if a2 = 1 then
(sr_ld a1 300 (M.1 5) fun v5 =>
some v5)
else
(if a2 = 2 then
(sr_ld a1 300 (M.1 6) fun v4 =>
some v4)
else
(if a2 = 3 then
((f2_isOpen a1 M).bind fun v3 =>
if v3 = 0 then
(some 0)
else
(some 1))
else
(if a2 = 4 then
(sr_ld a1 300 (M.1 7) fun v2 =>
some v2)
else
(some (-1))))))))
set_option maxHeartbeats 4000000 in
set_option maxRecDepth 100000 in
theorem k4_about (l : Launch) (D : va_G) (t : Nat → ClassId) (ad : Nat → Nat) (a1 : Int32) (a2 : Int32) (M : sr_M) (r : Int32) (h : f4_about a1 a2 M = some r) : sr_Mi l D vwCl (xty t) ad (xcf t ad) 62 yX4_about (.code yX4_about cX4_about 3 (some .int) :: sr_tbl) ({ frames := 1, cells := 0, slots := 0, locals := 21 }) [.ref (ad 0), .int a1, .int a2] M r M := by
  refine sr_open_i (cc := cX4_about) (maxL := 3) (by decide) rfl (Nat.le_of_ble_eq_true rfl) ?_
  intro p e s m args below meth c A Q ls hx hb hml hts0 hown hA hw hl ret
  have hts : ∀ w ∈ sr_tbl, w.before args s = true := fun w hw => hts0 w (List.mem_cons_of_mem _ hw)
  have hown : s.vm.findClass RX4 = some m.cls := hown
  have hl : lv_has ls 3 [(0, .ref (ad 0)), (1, .int a1), (2, .int a2)] := hl
  have hw : xH D t ad A s M s.heap [] := hw
  unfold f4_about at h
  refine lv_aload_n hx hb dX4_about_0 rfl (lv_at hl 0 rfl) ?_
  refine sr_getr hx hb hts qzX4 hown hw (xf_0_0 t ad) (hts _ qfX4_10) dX4_about_1 ?_
  refine lv_iload_n hx hb dX4_about_4 rfl (lv_at hl 1 rfl) ?_
  obtain ⟨v1, hc, h⟩ := sr_bind1 h
  refine sr_cVi (As := [.int a1]) (rest := []) ⟨hx, hb, hml, hown, hts⟩ (k2_hasThroat l D t ad a1 M _ hc) (cwV 1 hts (sr_goodV qmX4_69 qiX2_hasThroat qsX2_hasThroat qnX2 qcX2_hasThroat) rfl rfl rfl qdX2_hasThroat ⟨Nat.le_of_ble_eq_true rfl, Nat.le_of_ble_eq_true rfl⟩) hw hA (xo_1 t ad) rfl hl.1 rfl (Nat.le_of_ble_eq_true rfl) dX4_about_5 (fun H locs hw => ?_)
  refine lv_if_ne (tgt := 13) hx hb dX4_about_8 (by decide) (fun hc => ?_) (fun hc => ?_)
  · have h := sr_ifn h hc
    refine lv_iload_n hx hb dX4_about_13 rfl (lv_at hl 2 rfl) ?_
    rcases Classical.em (a2 = 0) with hc0 | hc0
    · have h := sr_ifp h hc0
      have ex := hc0
      refine lv_tableIn (off := 34) (tgt := 48) hx hb dX4_about_14 (by rw [ex]; decide) (by rw [ex]; decide) (by rw [ex]; decide) (by decide) ?_
      refine lv_aload_n hx hb dX4_about_48 rfl (lv_at hl 0 rfl) ?_
      refine sr_getr hx hb hts qzX4 hown hw (xf_0_0 t ad) (hts _ qfX4_10) dX4_about_49 ?_
      refine sr_getr hx hb hts qzX2 hown hw (xf_1_4 t ad) (hts _ qfX4_93) dX4_about_52 ?_
      refine lv_iload_n hx hb dX4_about_55 rfl (lv_at hl 1 rfl) ?_
      refine sr_iald hx hb hw (xa_4 t ad) h dX4_about_56 (fun v6 h => ?_)
      obtain rfl := Option.some.inj h
      exact ret _ _ _ _ hw rfl dX4_about_57
    · have h := sr_ifn h hc0
      rcases Classical.em (a2 = 1) with hc1 | hc1
      · have h := sr_ifp h hc1
        have ex := hc1
        refine lv_tableIn (off := 44) (tgt := 58) hx hb dX4_about_14 (by rw [ex]; decide) (by rw [ex]; decide) (by rw [ex]; decide) (by decide) ?_
        refine lv_aload_n hx hb dX4_about_58 rfl (lv_at hl 0 rfl) ?_
        refine sr_getr hx hb hts qzX4 hown hw (xf_0_0 t ad) (hts _ qfX4_10) dX4_about_59 ?_
        refine sr_getr hx hb hts qzX2 hown hw (xf_1_5 t ad) (hts _ qfX4_96) dX4_about_62 ?_
        refine lv_iload_n hx hb dX4_about_65 rfl (lv_at hl 1 rfl) ?_
        refine sr_iald hx hb hw (xa_5 t ad) h dX4_about_66 (fun v5 h => ?_)
        obtain rfl := Option.some.inj h
        exact ret _ _ _ _ hw rfl dX4_about_67
      · have h := sr_ifn h hc1
        rcases Classical.em (a2 = 2) with hc2 | hc2
        · have h := sr_ifp h hc2
          have ex := hc2
          refine lv_tableIn (off := 54) (tgt := 68) hx hb dX4_about_14 (by rw [ex]; decide) (by rw [ex]; decide) (by rw [ex]; decide) (by decide) ?_
          refine lv_aload_n hx hb dX4_about_68 rfl (lv_at hl 0 rfl) ?_
          refine sr_getr hx hb hts qzX4 hown hw (xf_0_0 t ad) (hts _ qfX4_10) dX4_about_69 ?_
          refine sr_getr hx hb hts qzX2 hown hw (xf_1_6 t ad) (hts _ qfX4_83) dX4_about_72 ?_
          refine lv_iload_n hx hb dX4_about_75 rfl (lv_at hl 1 rfl) ?_
          refine sr_iald hx hb hw (xa_6 t ad) h dX4_about_76 (fun v4 h => ?_)
          obtain rfl := Option.some.inj h
          exact ret _ _ _ _ hw rfl dX4_about_77
        · have h := sr_ifn h hc2
          rcases Classical.em (a2 = 3) with hc3 | hc3
          · have h := sr_ifp h hc3
            have ex := hc3
            refine lv_tableIn (off := 64) (tgt := 78) hx hb dX4_about_14 (by rw [ex]; decide) (by rw [ex]; decide) (by rw [ex]; decide) (by decide) ?_
            refine lv_aload_n hx hb dX4_about_78 rfl (lv_at hl 0 rfl) ?_
            refine sr_getr hx hb hts qzX4 hown hw (xf_0_0 t ad) (hts _ qfX4_10) dX4_about_79 ?_
            refine lv_iload_n hx hb dX4_about_82 rfl (lv_at hl 1 rfl) ?_
            obtain ⟨v3, hc, h⟩ := sr_bind1 h
            refine sr_cVi (As := [.int a1]) (rest := []) ⟨hx, hb, hml, hown, hts⟩ (k2_isOpen l D t ad a1 M _ hc) (cwV 1 hts (sr_goodV qmX4_76 qiX2_isOpen qsX2_isOpen qnX2 qcX2_isOpen) rfl rfl rfl qdX2_isOpen ⟨Nat.le_of_ble_eq_true rfl, Nat.le_of_ble_eq_true rfl⟩) hw hA (xo_1 t ad) rfl hl.1 rfl (Nat.le_of_ble_eq_true rfl) dX4_about_83 (fun H locs hw => ?_)
            refine lv_if_eq (tgt := 93) hx hb dX4_about_86 (by decide) (fun hc => ?_) (fun hc => ?_)
            · have h := sr_ifp h hc
              refine lv_iconst (v := 0) hx hb dX4_about_93 (by decide) ?_
              obtain rfl := Option.some.inj h
              exact ret _ _ _ _ hw rfl dX4_about_94
            · have h := sr_ifn h hc
              refine lv_iconst (v := 1) hx hb dX4_about_89 (by decide) ?_
              refine lv_goto (tgt := 94) hx hb dX4_about_90 (by decide) ?_
              obtain rfl := Option.some.inj h
              exact ret _ _ _ _ hw rfl dX4_about_94
          · have h := sr_ifn h hc3
            rcases Classical.em (a2 = 4) with hc4 | hc4
            · have h := sr_ifp h hc4
              have ex := hc4
              refine lv_tableIn (off := 81) (tgt := 95) hx hb dX4_about_14 (by rw [ex]; decide) (by rw [ex]; decide) (by rw [ex]; decide) (by decide) ?_
              refine lv_aload_n hx hb dX4_about_95 rfl (lv_at hl 0 rfl) ?_
              refine sr_getr hx hb hts qzX4 hown hw (xf_0_0 t ad) (hts _ qfX4_10) dX4_about_96 ?_
              refine sr_getr hx hb hts qzX2 hown hw (xf_1_7 t ad) (hts _ qfX4_99) dX4_about_99 ?_
              refine lv_iload_n hx hb dX4_about_102 rfl (lv_at hl 1 rfl) ?_
              refine sr_iald hx hb hw (xa_7 t ad) h dX4_about_103 (fun v2 h => ?_)
              obtain rfl := Option.some.inj h
              exact ret _ _ _ _ hw rfl dX4_about_104
            · have h := sr_ifn h hc4
              refine lv_tableOut (tgt := 105) hx hb dX4_about_14 (sr_tout0_4 hc0 hc1 hc2 hc3 hc4) (by decide) ?_
              refine lv_iconst (v := (-1)) hx hb dX4_about_105 (by decide) ?_
              obtain rfl := Option.some.inj h
              exact ret _ _ _ _ hw rfl dX4_about_106
  · have h := sr_ifp h hc
    refine lv_iconst (v := (-1)) hx hb dX4_about_11 (by decide) ?_
    obtain rfl := Option.some.inj h
    exact ret _ _ _ _ hw rfl dX4_about_12

noncomputable def f4_of (a1 : Int32) (a2 : Int32) (M : sr_M) : Option (Int32) :=
(f2_hasPore a1 M).bind fun v1 =>
if v1 = 0 then
(some (-1))
else
((if a2 = 0 then
(sr_ld a1 120 (M.1 2) fun v5 =>
some v5)
else
(if a2 = 1 then
(sr_ld a1 120 (M.1 3) fun v4 =>
if v4 = 0 then
(some 0)
else
(some 1))
else
(if a2 = 2 then
(sr_ld (a1 + 1) 121 (M.1 9) fun v2 =>
sr_ld a1 121 (M.1 9) fun v3 =>
some (v2 - v3))
else
(some (-1))))))
set_option maxHeartbeats 4000000 in
set_option maxRecDepth 100000 in
theorem k4_of (l : Launch) (D : va_G) (t : Nat → ClassId) (ad : Nat → Nat) (a1 : Int32) (a2 : Int32) (M : sr_M) (r : Int32) (h : f4_of a1 a2 M = some r) : sr_Mi l D vwCl (xty t) ad (xcf t ad) 62 yX4_of (.code yX4_of cX4_of 3 (some .int) :: sr_tbl) ({ frames := 1, cells := 0, slots := 0, locals := 21 }) [.ref (ad 0), .int a1, .int a2] M r M := by
  refine sr_open_i (cc := cX4_of) (maxL := 3) (by decide) rfl (Nat.le_of_ble_eq_true rfl) ?_
  intro p e s m args below meth c A Q ls hx hb hml hts0 hown hA hw hl ret
  have hts : ∀ w ∈ sr_tbl, w.before args s = true := fun w hw => hts0 w (List.mem_cons_of_mem _ hw)
  have hown : s.vm.findClass RX4 = some m.cls := hown
  have hl : lv_has ls 3 [(0, .ref (ad 0)), (1, .int a1), (2, .int a2)] := hl
  have hw : xH D t ad A s M s.heap [] := hw
  unfold f4_of at h
  refine lv_aload_n hx hb dX4_of_0 rfl (lv_at hl 0 rfl) ?_
  refine sr_getr hx hb hts qzX4 hown hw (xf_0_0 t ad) (hts _ qfX4_10) dX4_of_1 ?_
  refine lv_iload_n hx hb dX4_of_4 rfl (lv_at hl 1 rfl) ?_
  obtain ⟨v1, hc, h⟩ := sr_bind1 h
  refine sr_cVi (As := [.int a1]) (rest := []) ⟨hx, hb, hml, hown, hts⟩ (k2_hasPore l D t ad a1 M _ hc) (cwV 1 hts (sr_goodV qmX4_58 qiX2_hasPore qsX2_hasPore qnX2 qcX2_hasPore) rfl rfl rfl qdX2_hasPore ⟨Nat.le_of_ble_eq_true rfl, Nat.le_of_ble_eq_true rfl⟩) hw hA (xo_1 t ad) rfl hl.1 rfl (Nat.le_of_ble_eq_true rfl) dX4_of_5 (fun H locs hw => ?_)
  refine lv_if_ne (tgt := 13) hx hb dX4_of_8 (by decide) (fun hc => ?_) (fun hc => ?_)
  · have h := sr_ifn h hc
    refine lv_iload_n hx hb dX4_of_13 rfl (lv_at hl 2 rfl) ?_
    rcases Classical.em (a2 = 0) with hc0 | hc0
    · have h := sr_ifp h hc0
      have ex := hc0
      refine lv_tableIn (off := 26) (tgt := 40) hx hb dX4_of_14 (by rw [ex]; decide) (by rw [ex]; decide) (by rw [ex]; decide) (by decide) ?_
      refine lv_aload_n hx hb dX4_of_40 rfl (lv_at hl 0 rfl) ?_
      refine sr_getr hx hb hts qzX4 hown hw (xf_0_0 t ad) (hts _ qfX4_10) dX4_of_41 ?_
      refine sr_getr hx hb hts qzX2 hown hw (xf_1_1 t ad) (hts _ qfX4_102) dX4_of_44 ?_
      refine lv_iload_n hx hb dX4_of_47 rfl (lv_at hl 1 rfl) ?_
      refine sr_iald hx hb hw (xa_2 t ad) h dX4_of_48 (fun v5 h => ?_)
      obtain rfl := Option.some.inj h
      exact ret _ _ _ _ hw rfl dX4_of_49
    · have h := sr_ifn h hc0
      rcases Classical.em (a2 = 1) with hc1 | hc1
      · have h := sr_ifp h hc1
        have ex := hc1
        refine lv_tableIn (off := 36) (tgt := 50) hx hb dX4_of_14 (by rw [ex]; decide) (by rw [ex]; decide) (by rw [ex]; decide) (by decide) ?_
        refine lv_aload_n hx hb dX4_of_50 rfl (lv_at hl 0 rfl) ?_
        refine sr_getr hx hb hts qzX4 hown hw (xf_0_0 t ad) (hts _ qfX4_10) dX4_of_51 ?_
        refine sr_getr hx hb hts qzX2 hown hw (xf_1_2 t ad) (hts _ qfX4_86) dX4_of_54 ?_
        refine lv_iload_n hx hb dX4_of_57 rfl (lv_at hl 1 rfl) ?_
        refine sr_zald hx hb hw (xa_3 t ad) h dX4_of_58 (fun v4 h => ?_)
        refine lv_if_eq (tgt := 66) hx hb dX4_of_59 (by decide) (fun hc => ?_) (fun hc => ?_)
        · have h := sr_ifp h hc
          refine lv_iconst (v := 0) hx hb dX4_of_66 (by decide) ?_
          obtain rfl := Option.some.inj h
          exact ret _ _ _ _ hw rfl dX4_of_67
        · have h := sr_ifn h hc
          refine lv_iconst (v := 1) hx hb dX4_of_62 (by decide) ?_
          refine lv_goto (tgt := 67) hx hb dX4_of_63 (by decide) ?_
          obtain rfl := Option.some.inj h
          exact ret _ _ _ _ hw rfl dX4_of_67
      · have h := sr_ifn h hc1
        rcases Classical.em (a2 = 2) with hc2 | hc2
        · have h := sr_ifp h hc2
          have ex := hc2
          refine lv_tableIn (off := 54) (tgt := 68) hx hb dX4_of_14 (by rw [ex]; decide) (by rw [ex]; decide) (by rw [ex]; decide) (by decide) ?_
          refine lv_aload_n hx hb dX4_of_68 rfl (lv_at hl 0 rfl) ?_
          refine sr_getr hx hb hts qzX4 hown hw (xf_0_0 t ad) (hts _ qfX4_10) dX4_of_69 ?_
          refine sr_getr hx hb hts qzX2 hown hw (xf_1_10 t ad) (hts _ qfX4_105) dX4_of_72 ?_
          refine lv_iload_n hx hb dX4_of_75 rfl (lv_at hl 1 rfl) ?_
          refine lv_iconst (v := 1) hx hb dX4_of_76 (by decide) ?_
          refine lv_iadd hx hb dX4_of_77 ?_
          refine sr_iald hx hb hw (xa_9 t ad) h dX4_of_78 (fun v2 h => ?_)
          refine lv_aload_n hx hb dX4_of_79 rfl (lv_at hl 0 rfl) ?_
          refine sr_getr hx hb hts qzX4 hown hw (xf_0_0 t ad) (hts _ qfX4_10) dX4_of_80 ?_
          refine sr_getr hx hb hts qzX2 hown hw (xf_1_10 t ad) (hts _ qfX4_105) dX4_of_83 ?_
          refine lv_iload_n hx hb dX4_of_86 rfl (lv_at hl 1 rfl) ?_
          refine sr_iald hx hb hw (xa_9 t ad) h dX4_of_87 (fun v3 h => ?_)
          refine lv_isub hx hb dX4_of_88 ?_
          obtain rfl := Option.some.inj h
          exact ret _ _ _ _ hw rfl dX4_of_89
        · have h := sr_ifn h hc2
          refine lv_tableOut (tgt := 90) hx hb dX4_of_14 (sr_tout0_2 hc0 hc1 hc2) (by decide) ?_
          refine lv_iconst (v := (-1)) hx hb dX4_of_90 (by decide) ?_
          obtain rfl := Option.some.inj h
          exact ret _ _ _ _ hw rfl dX4_of_91
  · have h := sr_ifp h hc
    refine lv_iconst (v := (-1)) hx hb dX4_of_11 (by decide) ?_
    obtain rfl := Option.some.inj h
    exact ret _ _ _ _ hw rfl dX4_of_12

noncomputable def f4_ranked (a1 : Int32) (M : sr_M) : Option (Int32) :=
if a1 < 0 then
(some (-1))
else
(sr_bnd (M.1 1 9) fun v1 =>
if v1 ≤ a1 then
(some (-1))
else
(sr_ld a1 300 (M.1 8) fun v2 =>
some v2))
set_option maxHeartbeats 4000000 in
set_option maxRecDepth 100000 in
theorem k4_ranked (l : Launch) (D : va_G) (t : Nat → ClassId) (ad : Nat → Nat) (a1 : Int32) (M : sr_M) (r : Int32) (h : f4_ranked a1 M = some r) : sr_Mi l D vwCl (xty t) ad (xcf t ad) 62 yX4_ranked (.code yX4_ranked cX4_ranked 2 (some .int) :: sr_tbl) ({ frames := 0, cells := 0, slots := 0, locals := 0 }) [.ref (ad 0), .int a1] M r M := by
  refine sr_open_i (cc := cX4_ranked) (maxL := 2) (by decide) rfl (Nat.le_of_ble_eq_true rfl) ?_
  intro p e s m args below meth c A Q ls hx hb hml hts0 hown hA hw hl ret
  have hts : ∀ w ∈ sr_tbl, w.before args s = true := fun w hw => hts0 w (List.mem_cons_of_mem _ hw)
  have hown : s.vm.findClass RX4 = some m.cls := hown
  have hl : lv_has ls 2 [(0, .ref (ad 0)), (1, .int a1)] := hl
  have hw : xH D t ad A s M s.heap [] := hw
  unfold f4_ranked at h
  refine lv_iload_n hx hb dX4_ranked_0 rfl (lv_at hl 1 rfl) ?_
  refine lv_if_lt (tgt := 27) hx hb dX4_ranked_1 (by decide) (fun hc => ?_) (fun hc => ?_)
  · have h := sr_ifp h hc
    refine lv_iconst (v := (-1)) hx hb dX4_ranked_27 (by decide) ?_
    obtain rfl := Option.some.inj h
    exact ret _ _ _ _ hw rfl dX4_ranked_28
  · have h := sr_ifn h hc
    refine lv_iload_n hx hb dX4_ranked_4 rfl (lv_at hl 1 rfl) ?_
    refine lv_aload_n hx hb dX4_ranked_5 rfl (lv_at hl 0 rfl) ?_
    refine sr_getr hx hb hts qzX4 hown hw (xf_0_0 t ad) (hts _ qfX4_10) dX4_ranked_6 ?_
    refine sr_geti hx hb hts qzX2 hown hw (xf_1_9 t ad) (hts _ qfX4_108) h dX4_ranked_9 (fun v1 h => ?_)
    refine lv_icmp_ge (tgt := 27) hx hb dX4_ranked_12 (by decide) (fun hc => ?_) (fun hc => ?_)
    · have h := sr_ifp h hc
      refine lv_iconst (v := (-1)) hx hb dX4_ranked_27 (by decide) ?_
      obtain rfl := Option.some.inj h
      exact ret _ _ _ _ hw rfl dX4_ranked_28
    · have h := sr_ifn h hc
      refine lv_aload_n hx hb dX4_ranked_15 rfl (lv_at hl 0 rfl) ?_
      refine sr_getr hx hb hts qzX4 hown hw (xf_0_0 t ad) (hts _ qfX4_10) dX4_ranked_16 ?_
      refine sr_getr hx hb hts qzX2 hown hw (xf_1_8 t ad) (hts _ qfX4_111) dX4_ranked_19 ?_
      refine lv_iload_n hx hb dX4_ranked_22 rfl (lv_at hl 1 rfl) ?_
      refine sr_iald hx hb hw (xa_8 t ad) h dX4_ranked_23 (fun v2 h => ?_)
      refine lv_goto (tgt := 28) hx hb dX4_ranked_24 (by decide) ?_
      obtain rfl := Option.some.inj h
      exact ret _ _ _ _ hw rfl dX4_ranked_28

noncomputable def f4_hasPlace (a1 : Int32) (M : sr_M) : Option (Int32) :=
if a1 < 0 then
(some 0)
else
(if 6 ≤ a1 then
(some 0)
else
(some 1))
set_option maxHeartbeats 4000000 in
set_option maxRecDepth 100000 in
theorem k4_hasPlace (l : Launch) (D : va_G) (t : Nat → ClassId) (ad : Nat → Nat) (a1 : Int32) (M : sr_M) (r : Int32) (h : f4_hasPlace a1 M = some r) : sr_Mi l D vwCl (xty t) ad (xcf t ad) 62 yX4_hasPlace (.code yX4_hasPlace cX4_hasPlace 1 (some .boolean) :: sr_tbl) ({ frames := 0, cells := 0, slots := 0, locals := 0 }) [.int a1] M r M := by
  refine sr_open_i (cc := cX4_hasPlace) (maxL := 1) (by decide) rfl (Nat.le_of_ble_eq_true rfl) ?_
  intro p e s m args below meth c A Q ls hx hb hml hts0 hown hA hw hl ret
  have hts : ∀ w ∈ sr_tbl, w.before args s = true := fun w hw => hts0 w (List.mem_cons_of_mem _ hw)
  have hown : s.vm.findClass RX4 = some m.cls := hown
  have hl : lv_has ls 1 [(0, .int a1)] := hl
  have hw : xH D t ad A s M s.heap [] := hw
  unfold f4_hasPlace at h
  refine lv_iload_n hx hb dX4_hasPlace_0 rfl (lv_at hl 0 rfl) ?_
  refine lv_if_lt (tgt := 14) hx hb dX4_hasPlace_1 (by decide) (fun hc => ?_) (fun hc => ?_)
  · have h := sr_ifp h hc
    refine lv_iconst (v := 0) hx hb dX4_hasPlace_14 (by decide) ?_
    obtain rfl := Option.some.inj h
    exact ret _ _ _ _ hw rfl dX4_hasPlace_15
  · have h := sr_ifn h hc
    refine lv_iload_n hx hb dX4_hasPlace_4 rfl (lv_at hl 0 rfl) ?_
    refine lv_bipush (v := 6) hx hb dX4_hasPlace_5 (by decide) ?_
    refine lv_icmp_ge (tgt := 14) hx hb dX4_hasPlace_7 (by decide) (fun hc => ?_) (fun hc => ?_)
    · have h := sr_ifp h hc
      refine lv_iconst (v := 0) hx hb dX4_hasPlace_14 (by decide) ?_
      obtain rfl := Option.some.inj h
      exact ret _ _ _ _ hw rfl dX4_hasPlace_15
    · have h := sr_ifn h hc
      refine lv_iconst (v := 1) hx hb dX4_hasPlace_10 (by decide) ?_
      refine lv_goto (tgt := 15) hx hb dX4_hasPlace_11 (by decide) ?_
      obtain rfl := Option.some.inj h
      exact ret _ _ _ _ hw rfl dX4_hasPlace_15

noncomputable def f4_core (a1 : Int32) (a2 : Int32) (a3 : Int32) (M : sr_M) : Option (Int32 × sr_M) :=
(f4_hasPlace a1 M).bind fun v1 =>
if v1 = 0 then
(some ((-1), M))
else
(if a2 < 0 then
(some ((-1), M))
else
(if a2 ≤ 5 then
(if 0 ≤ a3 then
(if a3 ≤ 60 then
(sr_grd (vp_in a1 6) <|
(f0_renew (12 + 3 * a1.toNatClampNeg) a2 a3 M).bind fun M3 =>
some (1, M3))
else
(some ((-1), M)))
else
(some ((-5), M)))
else
(some ((-1), M))))
set_option maxHeartbeats 4000000 in
set_option maxRecDepth 100000 in
theorem k4_core (l : Launch) (D : va_G) (t : Nat → ClassId) (ad : Nat → Nat) (a1 : Int32) (a2 : Int32) (a3 : Int32) (M : sr_M) (r : Int32) (M' : sr_M) (h : f4_core a1 a2 a3 M = some (r, M')) : sr_Mi l D vwCl (xty t) ad (xcf t ad) 62 yX4_core (.code yX4_core cX4_core 4 (some .int) :: sr_tbl) ({ frames := 1, cells := 0, slots := 0, locals := 23 }) [.ref (ad 0), .int a1, .int a2, .int a3] M r M' := by
  refine sr_open_i (cc := cX4_core) (maxL := 4) (by decide) rfl (Nat.le_of_ble_eq_true rfl) ?_
  intro p e s m args below meth c A Q ls hx hb hml hts0 hown hA hw hl ret
  have hts : ∀ w ∈ sr_tbl, w.before args s = true := fun w hw => hts0 w (List.mem_cons_of_mem _ hw)
  have hown : s.vm.findClass RX4 = some m.cls := hown
  have hl : lv_has ls 4 [(0, .ref (ad 0)), (1, .int a1), (2, .int a2), (3, .int a3)] := hl
  have hw : xH D t ad A s M s.heap [] := hw
  unfold f4_core at h
  refine lv_iload_n hx hb dX4_core_0 rfl (lv_at hl 1 rfl) ?_
  obtain ⟨v1, hc, h⟩ := sr_bind1 h
  refine sr_cSi (As := [.int a1]) (rest := []) ⟨hx, hb, hml, hown, hts⟩ (k4_hasPlace l D t ad a1 M _ hc) (cwS 1 hts (sr_goodS qmX4_114 qtX4_hasPlace qnX4 qcX4_hasPlace) rfl rfl rfl qdX4_hasPlace ⟨Nat.le_of_ble_eq_true rfl, Nat.le_of_ble_eq_true rfl⟩) hw hA rfl hl.1 rfl (Nat.le_of_ble_eq_true rfl) dX4_core_1 (fun H locs hw => ?_)
  refine lv_if_eq (tgt := 16) hx hb dX4_core_4 (by decide) (fun hc => ?_) (fun hc => ?_)
  · have h := sr_ifp h hc
    refine lv_iconst (v := (-1)) hx hb dX4_core_16 (by decide) ?_
    obtain ⟨rfl, rfl⟩ := Prod.mk.inj (Option.some.inj h)
    exact ret _ _ _ _ hw rfl dX4_core_17
  · have h := sr_ifn h hc
    refine lv_iload_n hx hb dX4_core_7 rfl (lv_at hl 2 rfl) ?_
    refine lv_if_lt (tgt := 16) hx hb dX4_core_8 (by decide) (fun hc => ?_) (fun hc => ?_)
    · have h := sr_ifp h hc
      refine lv_iconst (v := (-1)) hx hb dX4_core_16 (by decide) ?_
      obtain ⟨rfl, rfl⟩ := Prod.mk.inj (Option.some.inj h)
      exact ret _ _ _ _ hw rfl dX4_core_17
    · have h := sr_ifn h hc
      refine lv_iload_n hx hb dX4_core_11 rfl (lv_at hl 2 rfl) ?_
      refine lv_iconst (v := 5) hx hb dX4_core_12 (by decide) ?_
      refine lv_icmp_le (tgt := 18) hx hb dX4_core_13 (by decide) (fun hc => ?_) (fun hc => ?_)
      · have h := sr_ifp h hc
        refine lv_iload_n hx hb dX4_core_18 rfl (lv_at hl 3 rfl) ?_
        refine lv_if_ge (tgt := 25) hx hb dX4_core_19 (by decide) (fun hc => ?_) (fun hc => ?_)
        · have h := sr_ifp h hc
          refine lv_iload_n hx hb dX4_core_25 rfl (lv_at hl 3 rfl) ?_
          refine lv_bipush (v := 60) hx hb dX4_core_26 (by decide) ?_
          refine lv_icmp_le (tgt := 33) hx hb dX4_core_28 (by decide) (fun hc => ?_) (fun hc => ?_)
          · have h := sr_ifp h hc
            refine lv_aload_n hx hb dX4_core_33 rfl (lv_at hl 0 rfl) ?_
            refine sr_getr hx hb hts qzX4 hown hw (xf_0_1 t ad) (hts _ qfX4_18) dX4_core_34 ?_
            refine lv_iload_n hx hb dX4_core_37 rfl (lv_at hl 1 rfl) ?_
            refine sr_aald hx hb hw (xq_11 t ad) h xq_at dX4_core_38 (fun hin2 h => ?_)
            refine lv_iload_n hx hb dX4_core_39 rfl (lv_at hl 2 rfl) ?_
            refine lv_iload_n hx hb dX4_core_40 rfl (lv_at hl 3 rfl) ?_
            obtain ⟨M3, hc, h⟩ := sr_bind1 h
            refine sr_cVv (As := [.int a2, .int a3]) (rest := []) ⟨hx, hb, hml, hown, hts⟩ (k0_renew l D t ad (12 + 3 * a1.toNatClampNeg) (xoC_of hin2) a2 a3 M _ hc) (cwV 2 hts (sr_goodV qmX4_117 qiX0_renew qsX0_renew qnX0 qcX0_renew) rfl rfl rfl qdX0_renew ⟨Nat.le_of_ble_eq_true rfl, Nat.le_of_ble_eq_true rfl⟩) hw hA (xobC t ad (xoC_of hin2)) rfl hl.1 rfl (Nat.le_of_ble_eq_true rfl) dX4_core_41 (fun H locs hw => ?_)
            refine lv_iconst (v := 1) hx hb dX4_core_44 (by decide) ?_
            obtain ⟨rfl, rfl⟩ := Prod.mk.inj (Option.some.inj h)
            exact ret _ _ _ _ hw rfl dX4_core_45
          · have h := sr_ifn h hc
            refine lv_iconst (v := (-1)) hx hb dX4_core_31 (by decide) ?_
            obtain ⟨rfl, rfl⟩ := Prod.mk.inj (Option.some.inj h)
            exact ret _ _ _ _ hw rfl dX4_core_32
        · have h := sr_ifn h hc
          refine lv_bipush (v := (-5)) hx hb dX4_core_22 (by decide) ?_
          obtain ⟨rfl, rfl⟩ := Prod.mk.inj (Option.some.inj h)
          exact ret _ _ _ _ hw rfl dX4_core_24
      · have h := sr_ifn h hc
        refine lv_iconst (v := (-1)) hx hb dX4_core_16 (by decide) ?_
        obtain ⟨rfl, rfl⟩ := Prod.mk.inj (Option.some.inj h)
        exact ret _ _ _ _ hw rfl dX4_core_17

noncomputable def f4_cell (a1 : Int32) (a2 : Int32) (a3 : Int64) (a4 : Int32) (M : sr_M) : Option (Int32 × sr_M) :=
(f4_hasPlace a1 M).bind fun v1 =>
if v1 = 0 then
(some ((-1), M))
else
(if a4 < 0 then
(some ((-1), M))
else
(if a4 ≤ 30 then
(sr_grd (vp_in a1 6) <|
sr_bnd (M.1 (12 + 3 * a1.toNatClampNeg) 0) fun v3 =>
if v3 = 0 then
(some ((-3), M))
else
(sr_grd (vp_in a1 6) <|
(f0_hasNumber (12 + 3 * a1.toNatClampNeg) a2 M).bind fun v5 =>
if v5 = 0 then
(some ((-1), M))
else
(sr_grd (vp_in a1 6) <|
(f0_put (12 + 3 * a1.toNatClampNeg) a2 a3 a4 M).bind fun M7 =>
some (1, M7))))
else
(some ((-1), M))))
set_option maxHeartbeats 4000000 in
set_option maxRecDepth 100000 in
theorem k4_cell (l : Launch) (D : va_G) (t : Nat → ClassId) (ad : Nat → Nat) (a1 : Int32) (a2 : Int32) (a3 : Int64) (a4 : Int32) (M : sr_M) (r : Int32) (M' : sr_M) (h : f4_cell a1 a2 a3 a4 M = some (r, M')) : sr_Mi l D vwCl (xty t) ad (xcf t ad) 62 yX4_cell (.code yX4_cell cX4_cell 6 (some .int) :: sr_tbl) ({ frames := 2, cells := 0, slots := 0, locals := 47 }) [.ref (ad 0), .int a1, .int a2, .long a3, .int a4] M r M' := by
  refine sr_open_i (cc := cX4_cell) (maxL := 6) (by decide) rfl (Nat.le_of_ble_eq_true rfl) ?_
  intro p e s m args below meth c A Q ls hx hb hml hts0 hown hA hw hl ret
  have hts : ∀ w ∈ sr_tbl, w.before args s = true := fun w hw => hts0 w (List.mem_cons_of_mem _ hw)
  have hown : s.vm.findClass RX4 = some m.cls := hown
  have hl : lv_has ls 6 [(0, .ref (ad 0)), (1, .int a1), (2, .int a2), (3, .long a3), (5, .int a4)] := hl
  have hw : xH D t ad A s M s.heap [] := hw
  unfold f4_cell at h
  refine lv_iload_n hx hb dX4_cell_0 rfl (lv_at hl 1 rfl) ?_
  obtain ⟨v1, hc, h⟩ := sr_bind1 h
  refine sr_cSi (As := [.int a1]) (rest := []) ⟨hx, hb, hml, hown, hts⟩ (k4_hasPlace l D t ad a1 M _ hc) (cwS 1 hts (sr_goodS qmX4_114 qtX4_hasPlace qnX4 qcX4_hasPlace) rfl rfl rfl qdX4_hasPlace ⟨Nat.le_of_ble_eq_true rfl, Nat.le_of_ble_eq_true rfl⟩) hw hA rfl hl.1 rfl (Nat.le_of_ble_eq_true rfl) dX4_cell_1 (fun H locs hw => ?_)
  refine lv_if_eq (tgt := 19) hx hb dX4_cell_4 (by decide) (fun hc => ?_) (fun hc => ?_)
  · have h := sr_ifp h hc
    refine lv_iconst (v := (-1)) hx hb dX4_cell_19 (by decide) ?_
    obtain ⟨rfl, rfl⟩ := Prod.mk.inj (Option.some.inj h)
    exact ret _ _ _ _ hw rfl dX4_cell_20
  · have h := sr_ifn h hc
    refine lv_iload hx hb dX4_cell_7 (lv_at hl 4 rfl) ?_
    refine lv_if_lt (tgt := 19) hx hb dX4_cell_9 (by decide) (fun hc => ?_) (fun hc => ?_)
    · have h := sr_ifp h hc
      refine lv_iconst (v := (-1)) hx hb dX4_cell_19 (by decide) ?_
      obtain ⟨rfl, rfl⟩ := Prod.mk.inj (Option.some.inj h)
      exact ret _ _ _ _ hw rfl dX4_cell_20
    · have h := sr_ifn h hc
      refine lv_iload hx hb dX4_cell_12 (lv_at hl 4 rfl) ?_
      refine lv_bipush (v := 30) hx hb dX4_cell_14 (by decide) ?_
      refine lv_icmp_le (tgt := 21) hx hb dX4_cell_16 (by decide) (fun hc => ?_) (fun hc => ?_)
      · have h := sr_ifp h hc
        refine lv_aload_n hx hb dX4_cell_21 rfl (lv_at hl 0 rfl) ?_
        refine sr_getr hx hb hts qzX4 hown hw (xf_0_1 t ad) (hts _ qfX4_18) dX4_cell_22 ?_
        refine lv_iload_n hx hb dX4_cell_25 rfl (lv_at hl 1 rfl) ?_
        refine sr_aald hx hb hw (xq_11 t ad) h xq_at dX4_cell_26 (fun hin2 h => ?_)
        refine sr_geti hx hb hts qzX0 hown hw (xfC_0 t ad (xoC_of hin2)) (hts _ qfX4_121) h dX4_cell_27 (fun v3 h => ?_)
        refine lv_if_ne (tgt := 36) hx hb dX4_cell_30 (by decide) (fun hc => ?_) (fun hc => ?_)
        · have h := sr_ifn h hc
          refine lv_aload_n hx hb dX4_cell_36 rfl (lv_at hl 0 rfl) ?_
          refine sr_getr hx hb hts qzX4 hown hw (xf_0_1 t ad) (hts _ qfX4_18) dX4_cell_37 ?_
          refine lv_iload_n hx hb dX4_cell_40 rfl (lv_at hl 1 rfl) ?_
          refine sr_aald hx hb hw (xq_11 t ad) h xq_at dX4_cell_41 (fun hin4 h => ?_)
          refine lv_iload_n hx hb dX4_cell_42 rfl (lv_at hl 2 rfl) ?_
          obtain ⟨v5, hc, h⟩ := sr_bind1 h
          refine sr_cVi (As := [.int a2]) (rest := []) ⟨hx, hb, hml, hown, hts⟩ (k0_hasNumber l D t ad (12 + 3 * a1.toNatClampNeg) (xoC_of hin4) a2 M _ hc) (cwV 1 hts (sr_goodV qmX4_124 qiX0_hasNumber qsX0_hasNumber qnX0 qcX0_hasNumber) rfl rfl rfl qdX0_hasNumber ⟨Nat.le_of_ble_eq_true rfl, Nat.le_of_ble_eq_true rfl⟩) hw hA (xobC t ad (xoC_of hin4)) rfl hl.1 rfl (Nat.le_of_ble_eq_true rfl) dX4_cell_43 (fun H locs hw => ?_)
          refine lv_if_ne (tgt := 51) hx hb dX4_cell_46 (by decide) (fun hc => ?_) (fun hc => ?_)
          · have h := sr_ifn h hc
            refine lv_aload_n hx hb dX4_cell_51 rfl (lv_at hl 0 rfl) ?_
            refine sr_getr hx hb hts qzX4 hown hw (xf_0_1 t ad) (hts _ qfX4_18) dX4_cell_52 ?_
            refine lv_iload_n hx hb dX4_cell_55 rfl (lv_at hl 1 rfl) ?_
            refine sr_aald hx hb hw (xq_11 t ad) h xq_at dX4_cell_56 (fun hin6 h => ?_)
            refine lv_iload_n hx hb dX4_cell_57 rfl (lv_at hl 2 rfl) ?_
            refine lv_lload_n hx hb dX4_cell_58 rfl (lv_at hl 3 rfl) ?_
            refine lv_iload hx hb dX4_cell_59 (lv_at hl 4 rfl) ?_
            obtain ⟨M7, hc, h⟩ := sr_bind1 h
            refine sr_cVv (As := [.int a2, .long a3, .int a4]) (rest := []) ⟨hx, hb, hml, hown, hts⟩ (k0_put l D t ad (12 + 3 * a1.toNatClampNeg) (xoC_of hin6) a2 a3 a4 M _ hc) (cwV 3 hts (sr_goodV qmX4_127 qiX0_put qsX0_put qnX0 qcX0_put) rfl rfl rfl qdX0_put ⟨Nat.le_of_ble_eq_true rfl, Nat.le_of_ble_eq_true rfl⟩) hw hA (xobC t ad (xoC_of hin6)) rfl hl.1 rfl (Nat.le_of_ble_eq_true rfl) dX4_cell_61 (fun H locs hw => ?_)
            refine lv_iconst (v := 1) hx hb dX4_cell_64 (by decide) ?_
            obtain ⟨rfl, rfl⟩ := Prod.mk.inj (Option.some.inj h)
            exact ret _ _ _ _ hw rfl dX4_cell_65
          · have h := sr_ifp h hc
            refine lv_iconst (v := (-1)) hx hb dX4_cell_49 (by decide) ?_
            obtain ⟨rfl, rfl⟩ := Prod.mk.inj (Option.some.inj h)
            exact ret _ _ _ _ hw rfl dX4_cell_50
        · have h := sr_ifp h hc
          refine lv_bipush (v := (-3)) hx hb dX4_cell_33 (by decide) ?_
          obtain ⟨rfl, rfl⟩ := Prod.mk.inj (Option.some.inj h)
          exact ret _ _ _ _ hw rfl dX4_cell_35
      · have h := sr_ifn h hc
        refine lv_iconst (v := (-1)) hx hb dX4_cell_19 (by decide) ?_
        obtain ⟨rfl, rfl⟩ := Prod.mk.inj (Option.some.inj h)
        exact ret _ _ _ _ hw rfl dX4_cell_20

noncomputable def f4_wild (a1 : Int32) (a2 : Int32) (a3 : Int32) (M : sr_M) : Option (Int32 × sr_M) :=
(f4_hasPlace a1 M).bind fun v1 =>
if v1 = 0 then
(some ((-1), M))
else
(if a3 < 0 then
(some ((-1), M))
else
(if a3 ≤ 3 then
(sr_grd (vp_in a1 6) <|
sr_bnd (M.1 (12 + 3 * a1.toNatClampNeg) 0) fun v3 =>
if v3 = 0 then
(some ((-3), M))
else
(sr_grd (vp_in a1 6) <|
sr_bnd (M.1 (12 + 3 * a1.toNatClampNeg) 1) fun v5 =>
sr_jn (sr_grd (vp_in a1 6) <|
(f0_hasNumber (12 + 3 * a1.toNatClampNeg) a2 M).bind fun v8 =>
if v8 = 0 then
(some ((-1), M))
else
(sr_grd (vp_in a1 6) <|
(f0_putWild (12 + 3 * a1.toNatClampNeg) a2 a3 M).bind fun M10 =>
some (1, M10))) fun (K6 : Option (Int32 × sr_M)) =>
if v5 = 4 then
(K6)
else
(sr_grd (vp_in a1 6) <|
sr_bnd (M.1 (12 + 3 * a1.toNatClampNeg) 1) fun v12 =>
if v12 = 5 then
(K6)
else
(some ((-4), M)))))
else
(some ((-1), M))))
set_option maxHeartbeats 4000000 in
set_option maxRecDepth 100000 in
theorem k4_wild (l : Launch) (D : va_G) (t : Nat → ClassId) (ad : Nat → Nat) (a1 : Int32) (a2 : Int32) (a3 : Int32) (M : sr_M) (r : Int32) (M' : sr_M) (h : f4_wild a1 a2 a3 M = some (r, M')) : sr_Mi l D vwCl (xty t) ad (xcf t ad) 62 yX4_wild (.code yX4_wild cX4_wild 4 (some .int) :: sr_tbl) ({ frames := 1, cells := 0, slots := 0, locals := 22 }) [.ref (ad 0), .int a1, .int a2, .int a3] M r M' := by
  refine sr_open_i (cc := cX4_wild) (maxL := 4) (by decide) rfl (Nat.le_of_ble_eq_true rfl) ?_
  intro p e s m args below meth c A Q ls hx hb hml hts0 hown hA hw hl ret
  have hts : ∀ w ∈ sr_tbl, w.before args s = true := fun w hw => hts0 w (List.mem_cons_of_mem _ hw)
  have hown : s.vm.findClass RX4 = some m.cls := hown
  have hl : lv_has ls 4 [(0, .ref (ad 0)), (1, .int a1), (2, .int a2), (3, .int a3)] := hl
  have hw : xH D t ad A s M s.heap [] := hw
  unfold f4_wild at h
  refine lv_iload_n hx hb dX4_wild_0 rfl (lv_at hl 1 rfl) ?_
  obtain ⟨v1, hc, h⟩ := sr_bind1 h
  refine sr_cSi (As := [.int a1]) (rest := []) ⟨hx, hb, hml, hown, hts⟩ (k4_hasPlace l D t ad a1 M _ hc) (cwS 1 hts (sr_goodS qmX4_114 qtX4_hasPlace qnX4 qcX4_hasPlace) rfl rfl rfl qdX4_hasPlace ⟨Nat.le_of_ble_eq_true rfl, Nat.le_of_ble_eq_true rfl⟩) hw hA rfl hl.1 rfl (Nat.le_of_ble_eq_true rfl) dX4_wild_1 (fun H locs hw => ?_)
  refine lv_if_eq (tgt := 16) hx hb dX4_wild_4 (by decide) (fun hc => ?_) (fun hc => ?_)
  · have h := sr_ifp h hc
    refine lv_iconst (v := (-1)) hx hb dX4_wild_16 (by decide) ?_
    obtain ⟨rfl, rfl⟩ := Prod.mk.inj (Option.some.inj h)
    exact ret _ _ _ _ hw rfl dX4_wild_17
  · have h := sr_ifn h hc
    refine lv_iload_n hx hb dX4_wild_7 rfl (lv_at hl 3 rfl) ?_
    refine lv_if_lt (tgt := 16) hx hb dX4_wild_8 (by decide) (fun hc => ?_) (fun hc => ?_)
    · have h := sr_ifp h hc
      refine lv_iconst (v := (-1)) hx hb dX4_wild_16 (by decide) ?_
      obtain ⟨rfl, rfl⟩ := Prod.mk.inj (Option.some.inj h)
      exact ret _ _ _ _ hw rfl dX4_wild_17
    · have h := sr_ifn h hc
      refine lv_iload_n hx hb dX4_wild_11 rfl (lv_at hl 3 rfl) ?_
      refine lv_iconst (v := 3) hx hb dX4_wild_12 (by decide) ?_
      refine lv_icmp_le (tgt := 18) hx hb dX4_wild_13 (by decide) (fun hc => ?_) (fun hc => ?_)
      · have h := sr_ifp h hc
        refine lv_aload_n hx hb dX4_wild_18 rfl (lv_at hl 0 rfl) ?_
        refine sr_getr hx hb hts qzX4 hown hw (xf_0_1 t ad) (hts _ qfX4_18) dX4_wild_19 ?_
        refine lv_iload_n hx hb dX4_wild_22 rfl (lv_at hl 1 rfl) ?_
        refine sr_aald hx hb hw (xq_11 t ad) h xq_at dX4_wild_23 (fun hin2 h => ?_)
        refine sr_geti hx hb hts qzX0 hown hw (xfC_0 t ad (xoC_of hin2)) (hts _ qfX4_121) h dX4_wild_24 (fun v3 h => ?_)
        refine lv_if_ne (tgt := 33) hx hb dX4_wild_27 (by decide) (fun hc => ?_) (fun hc => ?_)
        · have h := sr_ifn h hc
          refine lv_aload_n hx hb dX4_wild_33 rfl (lv_at hl 0 rfl) ?_
          refine sr_getr hx hb hts qzX4 hown hw (xf_0_1 t ad) (hts _ qfX4_18) dX4_wild_34 ?_
          refine lv_iload_n hx hb dX4_wild_37 rfl (lv_at hl 1 rfl) ?_
          refine sr_aald hx hb hw (xq_11 t ad) h xq_at dX4_wild_38 (fun hin4 h => ?_)
          refine sr_geti hx hb hts qzX0 hown hw (xfC_1 t ad (xoC_of hin4)) (hts _ qfX4_131) h dX4_wild_39 (fun v5 h => ?_)
          refine lv_iconst (v := 4) hx hb dX4_wild_42 (by decide) ?_
          refine sr_jn_rule (fun (K6 : Option (Int32 × sr_M)) => K6 = some (r, M') → ∀ (H : Heap) (locs : List Loc) (ls : Array Slot), xH D t ad A s M H locs → lv_has ls 4 [(0, .ref (ad 0)), (1, .int a1), (2, .int a2), (3, .int a3)] → W p l e ({ frames := 1, cells := 0, slots := 0, locals := 22 }) s m args below meth c H locs 0 0 Q (F0 m 62 ls [])) h ?_ (fun K6 hK6 h => ?_)
          · intro  h H locs ls hw hl
            refine lv_aload_n hx hb dX4_wild_62 rfl (lv_at hl 0 rfl) ?_
            refine sr_getr hx hb hts qzX4 hown hw (xf_0_1 t ad) (hts _ qfX4_18) dX4_wild_63 ?_
            refine lv_iload_n hx hb dX4_wild_66 rfl (lv_at hl 1 rfl) ?_
            refine sr_aald hx hb hw (xq_11 t ad) h xq_at dX4_wild_67 (fun hin7 h => ?_)
            refine lv_iload_n hx hb dX4_wild_68 rfl (lv_at hl 2 rfl) ?_
            obtain ⟨v8, hc, h⟩ := sr_bind1 h
            refine sr_cVi (As := [.int a2]) (rest := []) ⟨hx, hb, hml, hown, hts⟩ (k0_hasNumber l D t ad (12 + 3 * a1.toNatClampNeg) (xoC_of hin7) a2 M _ hc) (cwV 1 hts (sr_goodV qmX4_124 qiX0_hasNumber qsX0_hasNumber qnX0 qcX0_hasNumber) rfl rfl rfl qdX0_hasNumber ⟨Nat.le_of_ble_eq_true rfl, Nat.le_of_ble_eq_true rfl⟩) hw hA (xobC t ad (xoC_of hin7)) rfl hl.1 rfl (Nat.le_of_ble_eq_true rfl) dX4_wild_69 (fun H locs hw => ?_)
            refine lv_if_ne (tgt := 77) hx hb dX4_wild_72 (by decide) (fun hc => ?_) (fun hc => ?_)
            · have h := sr_ifn h hc
              refine lv_aload_n hx hb dX4_wild_77 rfl (lv_at hl 0 rfl) ?_
              refine sr_getr hx hb hts qzX4 hown hw (xf_0_1 t ad) (hts _ qfX4_18) dX4_wild_78 ?_
              refine lv_iload_n hx hb dX4_wild_81 rfl (lv_at hl 1 rfl) ?_
              refine sr_aald hx hb hw (xq_11 t ad) h xq_at dX4_wild_82 (fun hin9 h => ?_)
              refine lv_iload_n hx hb dX4_wild_83 rfl (lv_at hl 2 rfl) ?_
              refine lv_iload_n hx hb dX4_wild_84 rfl (lv_at hl 3 rfl) ?_
              obtain ⟨M10, hc, h⟩ := sr_bind1 h
              refine sr_cVv (As := [.int a2, .int a3]) (rest := []) ⟨hx, hb, hml, hown, hts⟩ (k0_putWild l D t ad (12 + 3 * a1.toNatClampNeg) (xoC_of hin9) a2 a3 M _ hc) (cwV 2 hts (sr_goodV qmX4_133 qiX0_putWild qsX0_putWild qnX0 qcX0_putWild) rfl rfl rfl qdX0_putWild ⟨Nat.le_of_ble_eq_true rfl, Nat.le_of_ble_eq_true rfl⟩) hw hA (xobC t ad (xoC_of hin9)) rfl hl.1 rfl (Nat.le_of_ble_eq_true rfl) dX4_wild_85 (fun H locs hw => ?_)
              refine lv_iconst (v := 1) hx hb dX4_wild_88 (by decide) ?_
              obtain ⟨rfl, rfl⟩ := Prod.mk.inj (Option.some.inj h)
              exact ret _ _ _ _ hw rfl dX4_wild_89
            · have h := sr_ifp h hc
              refine lv_iconst (v := (-1)) hx hb dX4_wild_75 (by decide) ?_
              obtain ⟨rfl, rfl⟩ := Prod.mk.inj (Option.some.inj h)
              exact ret _ _ _ _ hw rfl dX4_wild_76
          · refine lv_icmp_eq (tgt := 62) hx hb dX4_wild_43 (by decide) (fun hc => ?_) (fun hc => ?_)
            · have h := sr_ifp h hc
              exact hK6  h _ _ _ hw (lv_sub hl [0, 1, 2, 3] rfl)
            · have h := sr_ifn h hc
              refine lv_aload_n hx hb dX4_wild_46 rfl (lv_at hl 0 rfl) ?_
              refine sr_getr hx hb hts qzX4 hown hw (xf_0_1 t ad) (hts _ qfX4_18) dX4_wild_47 ?_
              refine lv_iload_n hx hb dX4_wild_50 rfl (lv_at hl 1 rfl) ?_
              refine sr_aald hx hb hw (xq_11 t ad) h xq_at dX4_wild_51 (fun hin11 h => ?_)
              refine sr_geti hx hb hts qzX0 hown hw (xfC_1 t ad (xoC_of hin11)) (hts _ qfX4_131) h dX4_wild_52 (fun v12 h => ?_)
              refine lv_iconst (v := 5) hx hb dX4_wild_55 (by decide) ?_
              refine lv_icmp_eq (tgt := 62) hx hb dX4_wild_56 (by decide) (fun hc => ?_) (fun hc => ?_)
              · have h := sr_ifp h hc
                exact hK6  h _ _ _ hw (lv_sub hl [0, 1, 2, 3] rfl)
              · have h := sr_ifn h hc
                refine lv_bipush (v := (-4)) hx hb dX4_wild_59 (by decide) ?_
                obtain ⟨rfl, rfl⟩ := Prod.mk.inj (Option.some.inj h)
                exact ret _ _ _ _ hw rfl dX4_wild_61
        · have h := sr_ifp h hc
          refine lv_bipush (v := (-3)) hx hb dX4_wild_30 (by decide) ?_
          obtain ⟨rfl, rfl⟩ := Prod.mk.inj (Option.some.inj h)
          exact ret _ _ _ _ hw rfl dX4_wild_32
      · have h := sr_ifn h hc
        refine lv_iconst (v := (-1)) hx hb dX4_wild_16 (by decide) ?_
        obtain ⟨rfl, rfl⟩ := Prod.mk.inj (Option.some.inj h)
        exact ret _ _ _ _ hw rfl dX4_wild_17

noncomputable def f4_splice (a1 : Int32) (a2 : Int32) (a3 : Int32) (a4 : Int32) (a5 : Int32) (M : sr_M) : Option (Int32 × sr_M) :=
(f4_hasPlace a1 M).bind fun v1 =>
if v1 = 0 then
(some ((-1), M))
else
((f4_hasPlace a3 M).bind fun v2 =>
if v2 = 0 then
(some ((-1), M))
else
(sr_grd (vp_in a1 6) <|
sr_bnd (M.1 (12 + 3 * a1.toNatClampNeg) 0) fun v4 =>
if v4 = 0 then
(some ((-3), M))
else
(sr_grd (vp_in a3 6) <|
sr_bnd (M.1 (12 + 3 * a3.toNatClampNeg) 0) fun v6 =>
if v6 = 0 then
(some ((-3), M))
else
(sr_grd (vp_in a1 6) <|
sr_bnd (M.1 (12 + 3 * a1.toNatClampNeg) 1) fun v8 =>
sr_grd (vp_in a3 6) <|
sr_bnd (M.1 (12 + 3 * a3.toNatClampNeg) 1) fun v10 =>
if v8 = v10 then
(sr_grd (vp_in a1 6) <|
(f0_spans (12 + 3 * a1.toNatClampNeg) a2 a5 M).bind fun v12 =>
if v12 = 0 then
(some ((-1), M))
else
(sr_grd (vp_in a3 6) <|
(f0_spans (12 + 3 * a3.toNatClampNeg) a4 a5 M).bind fun v14 =>
if v14 = 0 then
(some ((-1), M))
else
(sr_grd (vp_in a1 6) <|
sr_grd (vp_in a3 6) <|
(f0_putFrom (12 + 3 * a1.toNatClampNeg) a2 (12 + 3 * a3.toNatClampNeg) a4 a5 M).bind fun M17 =>
some (1, M17))))
else
(some ((-4), M))))))
set_option maxHeartbeats 4000000 in
set_option maxRecDepth 100000 in
theorem k4_splice (l : Launch) (D : va_G) (t : Nat → ClassId) (ad : Nat → Nat) (a1 : Int32) (a2 : Int32) (a3 : Int32) (a4 : Int32) (a5 : Int32) (M : sr_M) (r : Int32) (M' : sr_M) (h : f4_splice a1 a2 a3 a4 a5 M = some (r, M')) : sr_Mi l D vwCl (xty t) ad (xcf t ad) 62 yX4_splice (.code yX4_splice cX4_splice 6 (some .int) :: sr_tbl) ({ frames := 2, cells := 0, slots := 0, locals := 92 }) [.ref (ad 0), .int a1, .int a2, .int a3, .int a4, .int a5] M r M' := by
  refine sr_open_i (cc := cX4_splice) (maxL := 6) (by decide) rfl (Nat.le_of_ble_eq_true rfl) ?_
  intro p e s m args below meth c A Q ls hx hb hml hts0 hown hA hw hl ret
  have hts : ∀ w ∈ sr_tbl, w.before args s = true := fun w hw => hts0 w (List.mem_cons_of_mem _ hw)
  have hown : s.vm.findClass RX4 = some m.cls := hown
  have hl : lv_has ls 6 [(0, .ref (ad 0)), (1, .int a1), (2, .int a2), (3, .int a3), (4, .int a4), (5, .int a5)] := hl
  have hw : xH D t ad A s M s.heap [] := hw
  unfold f4_splice at h
  refine lv_iload_n hx hb dX4_splice_0 rfl (lv_at hl 1 rfl) ?_
  obtain ⟨v1, hc, h⟩ := sr_bind1 h
  refine sr_cSi (As := [.int a1]) (rest := []) ⟨hx, hb, hml, hown, hts⟩ (k4_hasPlace l D t ad a1 M _ hc) (cwS 1 hts (sr_goodS qmX4_114 qtX4_hasPlace qnX4 qcX4_hasPlace) rfl rfl rfl qdX4_hasPlace ⟨Nat.le_of_ble_eq_true rfl, Nat.le_of_ble_eq_true rfl⟩) hw hA rfl hl.1 rfl (Nat.le_of_ble_eq_true rfl) dX4_splice_1 (fun H locs hw => ?_)
  refine lv_if_eq (tgt := 14) hx hb dX4_splice_4 (by decide) (fun hc => ?_) (fun hc => ?_)
  · have h := sr_ifp h hc
    refine lv_iconst (v := (-1)) hx hb dX4_splice_14 (by decide) ?_
    obtain ⟨rfl, rfl⟩ := Prod.mk.inj (Option.some.inj h)
    exact ret _ _ _ _ hw rfl dX4_splice_15
  · have h := sr_ifn h hc
    refine lv_iload_n hx hb dX4_splice_7 rfl (lv_at hl 3 rfl) ?_
    obtain ⟨v2, hc, h⟩ := sr_bind1 h
    refine sr_cSi (As := [.int a3]) (rest := []) ⟨hx, hb, hml, hown, hts⟩ (k4_hasPlace l D t ad a3 M _ hc) (cwS 1 hts (sr_goodS qmX4_114 qtX4_hasPlace qnX4 qcX4_hasPlace) rfl rfl rfl qdX4_hasPlace ⟨Nat.le_of_ble_eq_true rfl, Nat.le_of_ble_eq_true rfl⟩) hw hA rfl hl.1 rfl (Nat.le_of_ble_eq_true rfl) dX4_splice_8 (fun H locs hw => ?_)
    refine lv_if_ne (tgt := 16) hx hb dX4_splice_11 (by decide) (fun hc => ?_) (fun hc => ?_)
    · have h := sr_ifn h hc
      refine lv_aload_n hx hb dX4_splice_16 rfl (lv_at hl 0 rfl) ?_
      refine sr_getr hx hb hts qzX4 hown hw (xf_0_1 t ad) (hts _ qfX4_18) dX4_splice_17 ?_
      refine lv_iload_n hx hb dX4_splice_20 rfl (lv_at hl 1 rfl) ?_
      refine sr_aald hx hb hw (xq_11 t ad) h xq_at dX4_splice_21 (fun hin3 h => ?_)
      refine sr_geti hx hb hts qzX0 hown hw (xfC_0 t ad (xoC_of hin3)) (hts _ qfX4_121) h dX4_splice_22 (fun v4 h => ?_)
      refine lv_if_eq (tgt := 40) hx hb dX4_splice_25 (by decide) (fun hc => ?_) (fun hc => ?_)
      · have h := sr_ifp h hc
        refine lv_bipush (v := (-3)) hx hb dX4_splice_40 (by decide) ?_
        obtain ⟨rfl, rfl⟩ := Prod.mk.inj (Option.some.inj h)
        exact ret _ _ _ _ hw rfl dX4_splice_42
      · have h := sr_ifn h hc
        refine lv_aload_n hx hb dX4_splice_28 rfl (lv_at hl 0 rfl) ?_
        refine sr_getr hx hb hts qzX4 hown hw (xf_0_1 t ad) (hts _ qfX4_18) dX4_splice_29 ?_
        refine lv_iload_n hx hb dX4_splice_32 rfl (lv_at hl 3 rfl) ?_
        refine sr_aald hx hb hw (xq_11 t ad) h xq_at dX4_splice_33 (fun hin5 h => ?_)
        refine sr_geti hx hb hts qzX0 hown hw (xfC_0 t ad (xoC_of hin5)) (hts _ qfX4_121) h dX4_splice_34 (fun v6 h => ?_)
        refine lv_if_ne (tgt := 43) hx hb dX4_splice_37 (by decide) (fun hc => ?_) (fun hc => ?_)
        · have h := sr_ifn h hc
          refine lv_aload_n hx hb dX4_splice_43 rfl (lv_at hl 0 rfl) ?_
          refine sr_getr hx hb hts qzX4 hown hw (xf_0_1 t ad) (hts _ qfX4_18) dX4_splice_44 ?_
          refine lv_iload_n hx hb dX4_splice_47 rfl (lv_at hl 1 rfl) ?_
          refine sr_aald hx hb hw (xq_11 t ad) h xq_at dX4_splice_48 (fun hin7 h => ?_)
          refine sr_geti hx hb hts qzX0 hown hw (xfC_1 t ad (xoC_of hin7)) (hts _ qfX4_131) h dX4_splice_49 (fun v8 h => ?_)
          refine lv_aload_n hx hb dX4_splice_52 rfl (lv_at hl 0 rfl) ?_
          refine sr_getr hx hb hts qzX4 hown hw (xf_0_1 t ad) (hts _ qfX4_18) dX4_splice_53 ?_
          refine lv_iload_n hx hb dX4_splice_56 rfl (lv_at hl 3 rfl) ?_
          refine sr_aald hx hb hw (xq_11 t ad) h xq_at dX4_splice_57 (fun hin9 h => ?_)
          refine sr_geti hx hb hts qzX0 hown hw (xfC_1 t ad (xoC_of hin9)) (hts _ qfX4_131) h dX4_splice_58 (fun v10 h => ?_)
          refine lv_icmp_eq (tgt := 67) hx hb dX4_splice_61 (by decide) (fun hc => ?_) (fun hc => ?_)
          · have h := sr_ifp h hc
            refine lv_aload_n hx hb dX4_splice_67 rfl (lv_at hl 0 rfl) ?_
            refine sr_getr hx hb hts qzX4 hown hw (xf_0_1 t ad) (hts _ qfX4_18) dX4_splice_68 ?_
            refine lv_iload_n hx hb dX4_splice_71 rfl (lv_at hl 1 rfl) ?_
            refine sr_aald hx hb hw (xq_11 t ad) h xq_at dX4_splice_72 (fun hin11 h => ?_)
            refine lv_iload_n hx hb dX4_splice_73 rfl (lv_at hl 2 rfl) ?_
            refine lv_iload hx hb dX4_splice_74 (lv_at hl 5 rfl) ?_
            obtain ⟨v12, hc, h⟩ := sr_bind1 h
            refine sr_cVi (As := [.int a2, .int a5]) (rest := []) ⟨hx, hb, hml, hown, hts⟩ (k0_spans l D t ad (12 + 3 * a1.toNatClampNeg) (xoC_of hin11) a2 a5 M _ hc) (cwV 2 hts (sr_goodV qmX4_136 qiX0_spans qsX0_spans qnX0 qcX0_spans) rfl rfl rfl qdX0_spans ⟨Nat.le_of_ble_eq_true rfl, Nat.le_of_ble_eq_true rfl⟩) hw hA (xobC t ad (xoC_of hin11)) rfl hl.1 rfl (Nat.le_of_ble_eq_true rfl) dX4_splice_76 (fun H locs hw => ?_)
            refine lv_if_eq (tgt := 98) hx hb dX4_splice_79 (by decide) (fun hc => ?_) (fun hc => ?_)
            · have h := sr_ifp h hc
              refine lv_iconst (v := (-1)) hx hb dX4_splice_98 (by decide) ?_
              obtain ⟨rfl, rfl⟩ := Prod.mk.inj (Option.some.inj h)
              exact ret _ _ _ _ hw rfl dX4_splice_99
            · have h := sr_ifn h hc
              refine lv_aload_n hx hb dX4_splice_82 rfl (lv_at hl 0 rfl) ?_
              refine sr_getr hx hb hts qzX4 hown hw (xf_0_1 t ad) (hts _ qfX4_18) dX4_splice_83 ?_
              refine lv_iload_n hx hb dX4_splice_86 rfl (lv_at hl 3 rfl) ?_
              refine sr_aald hx hb hw (xq_11 t ad) h xq_at dX4_splice_87 (fun hin13 h => ?_)
              refine lv_iload hx hb dX4_splice_88 (lv_at hl 4 rfl) ?_
              refine lv_iload hx hb dX4_splice_90 (lv_at hl 5 rfl) ?_
              obtain ⟨v14, hc, h⟩ := sr_bind1 h
              refine sr_cVi (As := [.int a4, .int a5]) (rest := []) ⟨hx, hb, hml, hown, hts⟩ (k0_spans l D t ad (12 + 3 * a3.toNatClampNeg) (xoC_of hin13) a4 a5 M _ hc) (cwV 2 hts (sr_goodV qmX4_136 qiX0_spans qsX0_spans qnX0 qcX0_spans) rfl rfl rfl qdX0_spans ⟨Nat.le_of_ble_eq_true rfl, Nat.le_of_ble_eq_true rfl⟩) hw hA (xobC t ad (xoC_of hin13)) rfl hl.1 rfl (Nat.le_of_ble_eq_true rfl) dX4_splice_92 (fun H locs hw => ?_)
              refine lv_if_ne (tgt := 100) hx hb dX4_splice_95 (by decide) (fun hc => ?_) (fun hc => ?_)
              · have h := sr_ifn h hc
                refine lv_aload_n hx hb dX4_splice_100 rfl (lv_at hl 0 rfl) ?_
                refine sr_getr hx hb hts qzX4 hown hw (xf_0_1 t ad) (hts _ qfX4_18) dX4_splice_101 ?_
                refine lv_iload_n hx hb dX4_splice_104 rfl (lv_at hl 1 rfl) ?_
                refine sr_aald hx hb hw (xq_11 t ad) h xq_at dX4_splice_105 (fun hin15 h => ?_)
                refine lv_iload_n hx hb dX4_splice_106 rfl (lv_at hl 2 rfl) ?_
                refine lv_aload_n hx hb dX4_splice_107 rfl (lv_at hl 0 rfl) ?_
                refine sr_getr hx hb hts qzX4 hown hw (xf_0_1 t ad) (hts _ qfX4_18) dX4_splice_108 ?_
                refine lv_iload_n hx hb dX4_splice_111 rfl (lv_at hl 3 rfl) ?_
                refine sr_aald hx hb hw (xq_11 t ad) h xq_at dX4_splice_112 (fun hin16 h => ?_)
                refine lv_iload hx hb dX4_splice_113 (lv_at hl 4 rfl) ?_
                refine lv_iload hx hb dX4_splice_115 (lv_at hl 5 rfl) ?_
                obtain ⟨M17, hc, h⟩ := sr_bind1 h
                refine sr_cVv (As := [.int a2, .ref (ad (12 + 3 * a3.toNatClampNeg)), .int a4, .int a5]) (rest := []) ⟨hx, hb, hml, hown, hts⟩ (k0_putFrom l D t ad (12 + 3 * a1.toNatClampNeg) (xoC_of hin15) a2 (12 + 3 * a3.toNatClampNeg) (xoC_of hin16) a4 a5 M _ hc) (cwV 4 hts (sr_goodV qmX4_140 qiX0_putFrom qsX0_putFrom qnX0 qcX0_putFrom) rfl rfl rfl qdX0_putFrom ⟨Nat.le_of_ble_eq_true rfl, Nat.le_of_ble_eq_true rfl⟩) hw hA (xobC t ad (xoC_of hin15)) rfl hl.1 rfl (Nat.le_of_ble_eq_true rfl) dX4_splice_117 (fun H locs hw => ?_)
                refine lv_iconst (v := 1) hx hb dX4_splice_120 (by decide) ?_
                obtain ⟨rfl, rfl⟩ := Prod.mk.inj (Option.some.inj h)
                exact ret _ _ _ _ hw rfl dX4_splice_121
              · have h := sr_ifp h hc
                refine lv_iconst (v := (-1)) hx hb dX4_splice_98 (by decide) ?_
                obtain ⟨rfl, rfl⟩ := Prod.mk.inj (Option.some.inj h)
                exact ret _ _ _ _ hw rfl dX4_splice_99
          · have h := sr_ifn h hc
            refine lv_bipush (v := (-4)) hx hb dX4_splice_64 (by decide) ?_
            obtain ⟨rfl, rfl⟩ := Prod.mk.inj (Option.some.inj h)
            exact ret _ _ _ _ hw rfl dX4_splice_66
        · have h := sr_ifp h hc
          refine lv_bipush (v := (-3)) hx hb dX4_splice_40 (by decide) ?_
          obtain ⟨rfl, rfl⟩ := Prod.mk.inj (Option.some.inj h)
          exact ret _ _ _ _ hw rfl dX4_splice_42
    · have h := sr_ifp h hc
      refine lv_iconst (v := (-1)) hx hb dX4_splice_14 (by decide) ?_
      obtain ⟨rfl, rfl⟩ := Prod.mk.inj (Option.some.inj h)
      exact ret _ _ _ _ hw rfl dX4_splice_15

noncomputable def f4_lose (a1 : Int32) (M : sr_M) : Option (Int32 × sr_M) :=
(f4_hasPlace a1 M).bind fun v1 =>
if v1 = 0 then
(some ((-1), M))
else
(sr_grd (vp_in a1 6) <|
sr_bnd (M.1 (12 + 3 * a1.toNatClampNeg) 0) fun v3 =>
if v3 = 0 then
(some ((-3), M))
else
(sr_grd (vp_in a1 6) <|
sr_putB M (12 + 3 * a1.toNatClampNeg) 0 0 fun M5 =>
some (1, M5)))
set_option maxHeartbeats 4000000 in
set_option maxRecDepth 100000 in
theorem k4_lose (l : Launch) (D : va_G) (t : Nat → ClassId) (ad : Nat → Nat) (a1 : Int32) (M : sr_M) (r : Int32) (M' : sr_M) (h : f4_lose a1 M = some (r, M')) : sr_Mi l D vwCl (xty t) ad (xcf t ad) 62 yX4_lose (.code yX4_lose cX4_lose 2 (some .int) :: sr_tbl) ({ frames := 1, cells := 0, slots := 0, locals := 20 }) [.ref (ad 0), .int a1] M r M' := by
  refine sr_open_i (cc := cX4_lose) (maxL := 2) (by decide) rfl (Nat.le_of_ble_eq_true rfl) ?_
  intro p e s m args below meth c A Q ls hx hb hml hts0 hown hA hw hl ret
  have hts : ∀ w ∈ sr_tbl, w.before args s = true := fun w hw => hts0 w (List.mem_cons_of_mem _ hw)
  have hown : s.vm.findClass RX4 = some m.cls := hown
  have hl : lv_has ls 2 [(0, .ref (ad 0)), (1, .int a1)] := hl
  have hw : xH D t ad A s M s.heap [] := hw
  unfold f4_lose at h
  refine lv_iload_n hx hb dX4_lose_0 rfl (lv_at hl 1 rfl) ?_
  obtain ⟨v1, hc, h⟩ := sr_bind1 h
  refine sr_cSi (As := [.int a1]) (rest := []) ⟨hx, hb, hml, hown, hts⟩ (k4_hasPlace l D t ad a1 M _ hc) (cwS 1 hts (sr_goodS qmX4_114 qtX4_hasPlace qnX4 qcX4_hasPlace) rfl rfl rfl qdX4_hasPlace ⟨Nat.le_of_ble_eq_true rfl, Nat.le_of_ble_eq_true rfl⟩) hw hA rfl hl.1 rfl (Nat.le_of_ble_eq_true rfl) dX4_lose_1 (fun H locs hw => ?_)
  refine lv_if_ne (tgt := 9) hx hb dX4_lose_4 (by decide) (fun hc => ?_) (fun hc => ?_)
  · have h := sr_ifn h hc
    refine lv_aload_n hx hb dX4_lose_9 rfl (lv_at hl 0 rfl) ?_
    refine sr_getr hx hb hts qzX4 hown hw (xf_0_1 t ad) (hts _ qfX4_18) dX4_lose_10 ?_
    refine lv_iload_n hx hb dX4_lose_13 rfl (lv_at hl 1 rfl) ?_
    refine sr_aald hx hb hw (xq_11 t ad) h xq_at dX4_lose_14 (fun hin2 h => ?_)
    refine sr_geti hx hb hts qzX0 hown hw (xfC_0 t ad (xoC_of hin2)) (hts _ qfX4_121) h dX4_lose_15 (fun v3 h => ?_)
    refine lv_if_ne (tgt := 24) hx hb dX4_lose_18 (by decide) (fun hc => ?_) (fun hc => ?_)
    · have h := sr_ifn h hc
      refine lv_aload_n hx hb dX4_lose_24 rfl (lv_at hl 0 rfl) ?_
      refine sr_getr hx hb hts qzX4 hown hw (xf_0_1 t ad) (hts _ qfX4_18) dX4_lose_25 ?_
      refine lv_iload_n hx hb dX4_lose_28 rfl (lv_at hl 1 rfl) ?_
      refine sr_aald hx hb hw (xq_11 t ad) h xq_at dX4_lose_29 (fun hin4 h => ?_)
      refine lv_iconst (v := 0) hx hb dX4_lose_30 (by decide) ?_
      refine sr_putz hx hb hts qzX0 tyX0 tyX0_ok nmX0 hown hw (xfC_0 t ad (xoC_of hin4)) rfl rfl (hts _ qfX4_121) h dX4_lose_31 (fun M5 H locs h hw => ?_)
      refine lv_iconst (v := 1) hx hb dX4_lose_34 (by decide) ?_
      obtain ⟨rfl, rfl⟩ := Prod.mk.inj (Option.some.inj h)
      exact ret _ _ _ _ hw rfl dX4_lose_35
    · have h := sr_ifp h hc
      refine lv_bipush (v := (-3)) hx hb dX4_lose_21 (by decide) ?_
      obtain ⟨rfl, rfl⟩ := Prod.mk.inj (Option.some.inj h)
      exact ret _ _ _ _ hw rfl dX4_lose_23
  · have h := sr_ifp h hc
    refine lv_iconst (v := (-1)) hx hb dX4_lose_7 (by decide) ?_
    obtain ⟨rfl, rfl⟩ := Prod.mk.inj (Option.some.inj h)
    exact ret _ _ _ _ hw rfl dX4_lose_8

noncomputable def f4_told (a1 : Int32) (a2 : Int32) (M : sr_M) : Option (Int64) :=
(f4_hasPlace a1 M).bind fun v1 =>
sr_jn (some 9223372036854775807) fun (K2 : Option (Int64)) =>
if v1 = 0 then
(K2)
else
(sr_grd (vp_in a1 6) <|
sr_bnd (M.1 (12 + 3 * a1.toNatClampNeg) 0) fun v4 =>
if v4 = 0 then
(K2)
else
(sr_grd (vp_in a1 6) <|
(f0_hasNumber (12 + 3 * a1.toNatClampNeg) a2 M).bind fun v6 =>
if v6 = 0 then
(K2)
else
(sr_grd (vp_in a1 6) <|
sr_ld a2 60 (M.2.1 ((12 + 3 * a1.toNatClampNeg) + 1)) fun v8 =>
some v8)))
set_option maxHeartbeats 4000000 in
set_option maxRecDepth 100000 in
theorem k4_told (l : Launch) (D : va_G) (t : Nat → ClassId) (ad : Nat → Nat) (a1 : Int32) (a2 : Int32) (M : sr_M) (r : Int64) (h : f4_told a1 a2 M = some r) : sr_Ml l D vwCl (xty t) ad (xcf t ad) 62 yX4_told (.code yX4_told cX4_told 3 (some .long) :: sr_tbl) ({ frames := 1, cells := 0, slots := 0, locals := 21 }) [.ref (ad 0), .int a1, .int a2] M r M := by
  refine sr_open_l (cc := cX4_told) (maxL := 3) (by decide) rfl (Nat.le_of_ble_eq_true rfl) ?_
  intro p e s m args below meth c A Q ls hx hb hml hts0 hown hA hw hl ret
  have hts : ∀ w ∈ sr_tbl, w.before args s = true := fun w hw => hts0 w (List.mem_cons_of_mem _ hw)
  have hown : s.vm.findClass RX4 = some m.cls := hown
  have hl : lv_has ls 3 [(0, .ref (ad 0)), (1, .int a1), (2, .int a2)] := hl
  have hw : xH D t ad A s M s.heap [] := hw
  unfold f4_told at h
  refine lv_iload_n hx hb dX4_told_0 rfl (lv_at hl 1 rfl) ?_
  obtain ⟨v1, hc, h⟩ := sr_bind1 h
  refine sr_cSi (As := [.int a1]) (rest := []) ⟨hx, hb, hml, hown, hts⟩ (k4_hasPlace l D t ad a1 M _ hc) (cwS 1 hts (sr_goodS qmX4_114 qtX4_hasPlace qnX4 qcX4_hasPlace) rfl rfl rfl qdX4_hasPlace ⟨Nat.le_of_ble_eq_true rfl, Nat.le_of_ble_eq_true rfl⟩) hw hA rfl hl.1 rfl (Nat.le_of_ble_eq_true rfl) dX4_told_1 (fun H locs hw => ?_)
  refine sr_jn_rule (fun (K2 : Option (Int64)) => K2 = some r → ∀ (H : Heap) (locs : List Loc) (ls : Array Slot), xH D t ad A s M H locs → lv_has ls 3 [] → W p l e ({ frames := 1, cells := 0, slots := 0, locals := 21 }) s m args below meth c H locs 0 0 Q (F0 m 32 ls [])) h ?_ (fun K2 hK2 h => ?_)
  · intro  h H locs ls hw hl
    refine lv_ldc2 (v := 9223372036854775807) hx hb hown (hts _ qkX4_144) dX4_told_32 ?_
    obtain rfl := Option.some.inj h
    exact ret _ _ _ _ hw dX4_told_35
  · refine lv_if_eq (tgt := 32) hx hb dX4_told_4 (by decide) (fun hc => ?_) (fun hc => ?_)
    · have h := sr_ifp h hc
      exact hK2  h _ _ _ hw (lv_sub hl [] rfl)
    · have h := sr_ifn h hc
      refine lv_aload_n hx hb dX4_told_7 rfl (lv_at hl 0 rfl) ?_
      refine sr_getr hx hb hts qzX4 hown hw (xf_0_1 t ad) (hts _ qfX4_18) dX4_told_8 ?_
      refine lv_iload_n hx hb dX4_told_11 rfl (lv_at hl 1 rfl) ?_
      refine sr_aald hx hb hw (xq_11 t ad) h xq_at dX4_told_12 (fun hin3 h => ?_)
      refine sr_geti hx hb hts qzX0 hown hw (xfC_0 t ad (xoC_of hin3)) (hts _ qfX4_121) h dX4_told_13 (fun v4 h => ?_)
      refine lv_if_eq (tgt := 32) hx hb dX4_told_16 (by decide) (fun hc => ?_) (fun hc => ?_)
      · have h := sr_ifp h hc
        exact hK2  h _ _ _ hw (lv_sub hl [] rfl)
      · have h := sr_ifn h hc
        refine lv_aload_n hx hb dX4_told_19 rfl (lv_at hl 0 rfl) ?_
        refine sr_getr hx hb hts qzX4 hown hw (xf_0_1 t ad) (hts _ qfX4_18) dX4_told_20 ?_
        refine lv_iload_n hx hb dX4_told_23 rfl (lv_at hl 1 rfl) ?_
        refine sr_aald hx hb hw (xq_11 t ad) h xq_at dX4_told_24 (fun hin5 h => ?_)
        refine lv_iload_n hx hb dX4_told_25 rfl (lv_at hl 2 rfl) ?_
        obtain ⟨v6, hc, h⟩ := sr_bind1 h
        refine sr_cVi (As := [.int a2]) (rest := []) ⟨hx, hb, hml, hown, hts⟩ (k0_hasNumber l D t ad (12 + 3 * a1.toNatClampNeg) (xoC_of hin5) a2 M _ hc) (cwV 1 hts (sr_goodV qmX4_124 qiX0_hasNumber qsX0_hasNumber qnX0 qcX0_hasNumber) rfl rfl rfl qdX0_hasNumber ⟨Nat.le_of_ble_eq_true rfl, Nat.le_of_ble_eq_true rfl⟩) hw hA (xobC t ad (xoC_of hin5)) rfl hl.1 rfl (Nat.le_of_ble_eq_true rfl) dX4_told_26 (fun H locs hw => ?_)
        refine lv_if_ne (tgt := 36) hx hb dX4_told_29 (by decide) (fun hc => ?_) (fun hc => ?_)
        · have h := sr_ifn h hc
          refine lv_aload_n hx hb dX4_told_36 rfl (lv_at hl 0 rfl) ?_
          refine sr_getr hx hb hts qzX4 hown hw (xf_0_1 t ad) (hts _ qfX4_18) dX4_told_37 ?_
          refine lv_iload_n hx hb dX4_told_40 rfl (lv_at hl 1 rfl) ?_
          refine sr_aald hx hb hw (xq_11 t ad) h xq_at dX4_told_41 (fun hin7 h => ?_)
          refine sr_getr hx hb hts qzX0 hown hw (xfC_3 t ad (xoC_of hin7)) (hts _ qfX4_146) dX4_told_42 ?_
          refine lv_iload_n hx hb dX4_told_45 rfl (lv_at hl 2 rfl) ?_
          refine sr_lald hx hb hw (xaC_1 t ad (xoC_of hin7)) h dX4_told_46 (fun v8 h => ?_)
          obtain rfl := Option.some.inj h
          exact ret _ _ _ _ hw dX4_told_47
        · have h := sr_ifp h hc
          exact hK2  h _ _ _ hw (lv_sub hl [] rfl)

noncomputable def f4_pourOne (o2 : Nat) (a2 : Int32) (a3 : Int32) (M : sr_M) : Option (sr_M) :=
(f0_isNoNumber o2 a2 M).bind fun v1 =>
sr_jn (fun (v3 : Int32) =>
sr_jn (fun (v5 : Int32) =>
(f2_settle a3 v5 v3 M).bind fun M6 =>
some M6) fun (K4 : Int32 → Option (sr_M)) =>
if v3 = 0 then
(sr_ld a3 300 (M.1 6) fun v7 =>
K4 v7)
else
(sr_ld a2 60 (M.2.1 (o2 + 1)) fun v8 =>
K4 v8.toInt32)) fun (K2 : Int32 → Option (sr_M)) =>
sr_jn (K2 0) fun (K9 : Option (sr_M)) =>
if v1 = 0 then
(sr_ld a2 60 (M.2.1 (o2 + 1)) fun v10 =>
(f4_mayHinder v10 M).bind fun v11 =>
if v11 = 0 then
(K9)
else
(K2 1))
else
(K9)
set_option maxHeartbeats 4000000 in
set_option maxRecDepth 100000 in
theorem k4_pourOne (l : Launch) (D : va_G) (t : Nat → ClassId) (ad : Nat → Nat) (o2 : Nat) (ho2 : xoC o2) (a2 : Int32) (a3 : Int32) (M : sr_M) (M' : sr_M) (h : f4_pourOne o2 a2 a3 M = some M') : sr_Mv l D vwCl (xty t) ad (xcf t ad) 62 yX4_pourOne (.code yX4_pourOne cX4_pourOne 5 (none) :: sr_tbl) ({ frames := 3, cells := 0, slots := 0, locals := 67 }) [.ref (ad 0), .ref (ad o2), .int a2, .int a3] M M' := by
  refine sr_open_v (cc := cX4_pourOne) (maxL := 5) (by decide) rfl (Nat.le_of_ble_eq_true rfl) ?_
  intro p e s m args below meth c A Q ls hx hb hml hts0 hown hA hw hl ret
  have hts : ∀ w ∈ sr_tbl, w.before args s = true := fun w hw => hts0 w (List.mem_cons_of_mem _ hw)
  have hown : s.vm.findClass RX4 = some m.cls := hown
  have hl : lv_has ls 5 [(0, .ref (ad 0)), (1, .ref (ad o2)), (2, .int a2), (3, .int a3)] := hl
  have hw : xH D t ad A s M s.heap [] := hw
  unfold f4_pourOne at h
  refine lv_aload_n hx hb dX4_pourOne_0 rfl (lv_at hl 1 rfl) ?_
  refine lv_iload_n hx hb dX4_pourOne_1 rfl (lv_at hl 2 rfl) ?_
  obtain ⟨v1, hc, h⟩ := sr_bind1 h
  refine sr_cVi (As := [.int a2]) (rest := []) ⟨hx, hb, hml, hown, hts⟩ (k0_isNoNumber l D t ad o2 ho2 a2 M _ hc) (cwV 1 hts (sr_goodV qmX4_233 qiX0_isNoNumber qsX0_isNoNumber qnX0 qcX0_isNoNumber) rfl rfl rfl qdX0_isNoNumber ⟨Nat.le_of_ble_eq_true rfl, Nat.le_of_ble_eq_true rfl⟩) hw hA (xobC t ad ho2) rfl hl.1 rfl (Nat.le_of_ble_eq_true rfl) dX4_pourOne_2 (fun H locs hw => ?_)
  refine sr_jn_rule (fun (K2 : Int32 → Option (sr_M)) => ∀ (v3 : Int32), K2 v3 = some M' → ∀ (H : Heap) (locs : List Loc) (ls : Array Slot), xH D t ad A s M H locs → lv_has ls 5 [(0, .ref (ad 0)), (1, .ref (ad o2)), (2, .int a2), (3, .int a3)] → W p l e ({ frames := 3, cells := 0, slots := 0, locals := 67 }) s m args below meth c H locs 0 0 Q (F0 m 25 ls [.int v3])) h ?_ (fun K2 hK2 h => ?_)
  · intro v3 h H locs ls hw hl
    refine lv_istore (lv' := [(4, .int v3), (0, .ref (ad 0)), (1, .ref (ad o2)), (2, .int a2), (3, .int a3)]) hx hb dX4_pourOne_25 hl (by decide) rfl (fun ls hl => ?_)
    refine lv_aload_n hx hb dX4_pourOne_27 rfl (lv_at hl 1 rfl) ?_
    refine sr_getr hx hb hts qzX4 hown hw (xf_0_0 t ad) (hts _ qfX4_10) dX4_pourOne_28 ?_
    refine lv_iload_n hx hb dX4_pourOne_31 rfl (lv_at hl 4 rfl) ?_
    refine lv_iload hx hb dX4_pourOne_32 (lv_at hl 0 rfl) ?_
    refine sr_jn_rule (fun (K4 : Int32 → Option (sr_M)) => ∀ (v5 : Int32), K4 v5 = some M' → ∀ (H : Heap) (locs : List Loc) (ls : Array Slot), xH D t ad A s M H locs → lv_has ls 5 [(4, .int v3)] → W p l e ({ frames := 3, cells := 0, slots := 0, locals := 67 }) s m args below meth c H locs 0 0 Q (F0 m 56 ls [.int v5, .int a3, .ref (ad 1)])) h ?_ (fun K4 hK4 h => ?_)
    · intro v5 h H locs ls hw hl
      refine lv_iload hx hb dX4_pourOne_56 (lv_at hl 0 rfl) ?_
      obtain ⟨M6, hc, h⟩ := sr_bind1 h
      refine sr_cVv (As := [.int a3, .int v5, .int v3]) (rest := []) ⟨hx, hb, hml, hown, hts⟩ (k2_settle l D t ad a3 v5 v3 M _ hc) (cwV 3 hts (sr_goodV qmX4_79 qiX2_settle qsX2_settle qnX2 qcX2_settle) rfl rfl rfl qdX2_settle ⟨Nat.le_of_ble_eq_true rfl, Nat.le_of_ble_eq_true rfl⟩) hw hA (xo_1 t ad) rfl hl.1 rfl (Nat.le_of_ble_eq_true rfl) dX4_pourOne_58 (fun H locs hw => ?_)
      obtain rfl := Option.some.inj h
      exact ret _ _ _ _ hw dX4_pourOne_61
    · refine lv_if_eq (tgt := 47) hx hb dX4_pourOne_34 (by decide) (fun hc => ?_) (fun hc => ?_)
      · have h := sr_ifp h hc
        refine lv_aload_n hx hb dX4_pourOne_47 rfl (lv_at hl 1 rfl) ?_
        refine sr_getr hx hb hts qzX4 hown hw (xf_0_0 t ad) (hts _ qfX4_10) dX4_pourOne_48 ?_
        refine sr_getr hx hb hts qzX2 hown hw (xf_1_6 t ad) (hts _ qfX4_83) dX4_pourOne_51 ?_
        refine lv_iload_n hx hb dX4_pourOne_54 rfl (lv_at hl 4 rfl) ?_
        refine sr_iald hx hb hw (xa_6 t ad) h dX4_pourOne_55 (fun v7 h => ?_)
        exact hK4 v7 h _ _ _ hw (lv_sub hl [0] rfl)
      · have h := sr_ifn h hc
        refine lv_aload_n hx hb dX4_pourOne_37 rfl (lv_at hl 2 rfl) ?_
        refine sr_getr hx hb hts qzX0 hown hw (xfC_3 t ad ho2) (hts _ qfX4_146) dX4_pourOne_38 ?_
        refine lv_iload_n hx hb dX4_pourOne_41 rfl (lv_at hl 3 rfl) ?_
        refine sr_lald hx hb hw (xaC_1 t ad ho2) h dX4_pourOne_42 (fun v8 h => ?_)
        refine lv_l2i (v := v8.toInt32) hx hb dX4_pourOne_43 rfl ?_
        refine lv_goto (tgt := 56) hx hb dX4_pourOne_44 (by decide) ?_
        exact hK4 v8.toInt32 h _ _ _ hw (lv_sub hl [0] rfl)
  · refine sr_jn_rule (fun (K9 : Option (sr_M)) => K9 = some M' → ∀ (H : Heap) (locs : List Loc) (ls : Array Slot), xH D t ad A s M H locs → lv_has ls 5 [(0, .ref (ad 0)), (1, .ref (ad o2)), (2, .int a2), (3, .int a3)] → W p l e ({ frames := 3, cells := 0, slots := 0, locals := 67 }) s m args below meth c H locs 0 0 Q (F0 m 24 ls [])) h ?_ (fun K9 hK9 h => ?_)
    · intro  h H locs ls hw hl
      refine lv_iconst (v := 0) hx hb dX4_pourOne_24 (by decide) ?_
      exact hK2 0 h _ _ _ hw (lv_sub hl [0, 1, 2, 3] rfl)
    · refine lv_if_ne (tgt := 24) hx hb dX4_pourOne_5 (by decide) (fun hc => ?_) (fun hc => ?_)
      · have h := sr_ifn h hc
        exact hK9  h _ _ _ hw (lv_sub hl [0, 1, 2, 3] rfl)
      · have h := sr_ifp h hc
        refine lv_aload_n hx hb dX4_pourOne_8 rfl (lv_at hl 1 rfl) ?_
        refine sr_getr hx hb hts qzX0 hown hw (xfC_3 t ad ho2) (hts _ qfX4_146) dX4_pourOne_9 ?_
        refine lv_iload_n hx hb dX4_pourOne_12 rfl (lv_at hl 2 rfl) ?_
        refine sr_lald hx hb hw (xaC_1 t ad ho2) h dX4_pourOne_13 (fun v10 h => ?_)
        obtain ⟨v11, hc, h⟩ := sr_bind1 h
        refine sr_cSi (As := [.long v10]) (rest := []) ⟨hx, hb, hml, hown, hts⟩ (k4_mayHinder l D t ad v10 M _ hc) (cwS 1 hts (sr_goodS qmX4_72 qtX4_mayHinder qnX4 qcX4_mayHinder) rfl rfl rfl qdX4_mayHinder ⟨Nat.le_of_ble_eq_true rfl, Nat.le_of_ble_eq_true rfl⟩) hw hA rfl hl.1 rfl (Nat.le_of_ble_eq_true rfl) dX4_pourOne_14 (fun H locs hw => ?_)
        refine lv_if_eq (tgt := 24) hx hb dX4_pourOne_17 (by decide) (fun hc => ?_) (fun hc => ?_)
        · have h := sr_ifp h hc
          exact hK9  h _ _ _ hw (lv_sub hl [0, 1, 2, 3] rfl)
        · have h := sr_ifn h hc
          refine lv_iconst (v := 1) hx hb dX4_pourOne_20 (by decide) ?_
          refine lv_goto (tgt := 25) hx hb dX4_pourOne_21 (by decide) ?_
          exact hK2 1 h _ _ _ hw (lv_sub hl [0, 1, 2, 3] rfl)

noncomputable def f4_pour_L82 (a1 : Int32) (a2 : Int32) (a3 : Int32) (a4 : Int32) (v10 : Int32) (M11 : sr_M) : Option ((Int32 × sr_M) ⊕ (sr_M)) :=
if a3 ≤ v10 then
(some (.inr M11))
else
(sr_grd (vp_in a1 6) <|
(f4_pourOne (12 + 3 * a1.toNatClampNeg) (a2 + v10) (a4 + v10) M11).bind fun M13 =>
some (.inl ((v10 + 1), M13)))
noncomputable def f4_pour (a1 : Int32) (a2 : Int32) (a3 : Int32) (a4 : Int32) (M : sr_M) : Option (Int32 × sr_M) :=
(f4_hasPlace a1 M).bind fun v1 =>
if v1 = 0 then
(some ((-1), M))
else
(sr_grd (vp_in a1 6) <|
sr_bnd (M.1 (12 + 3 * a1.toNatClampNeg) 0) fun v3 =>
if v3 = 0 then
(some ((-3), M))
else
(sr_grd (vp_in a1 6) <|
(f0_spans (12 + 3 * a1.toNatClampNeg) a2 a3 M).bind fun v5 =>
if v5 = 0 then
(some ((-1), M))
else
(if a4 < 0 then
(some ((-1), M))
else
(sr_bnd (M.1 1 3) fun v6 =>
if v6 < a4 then
(some ((-1), M))
else
(sr_bnd (M.1 1 3) fun v7 =>
if a3 ≤ (v7 - a4) then
(sr_putB M 30 1 0 fun M8 =>
(sr_lp (fun z9 : Int32 × sr_M => f4_pour_L82 a1 a2 a3 a4 z9.1 z9.2) (0, M8)).bind fun w9 =>
some (1, w9))
else
(some ((-1), M)))))))
set_option maxHeartbeats 4000000 in
set_option maxRecDepth 100000 in
theorem k4_pour (l : Launch) (D : va_G) (t : Nat → ClassId) (ad : Nat → Nat) (a1 : Int32) (a2 : Int32) (a3 : Int32) (a4 : Int32) (M : sr_M) (r : Int32) (M' : sr_M) (h : f4_pour a1 a2 a3 a4 M = some (r, M')) : sr_Mi l D vwCl (xty t) ad (xcf t ad) 62 yX4_pour (.code yX4_pour cX4_pour 6 (some .int) :: sr_tbl) ({ frames := 4, cells := 0, slots := 0, locals := 91 }) [.ref (ad 0), .int a1, .int a2, .int a3, .int a4] M r M' := by
  refine sr_open_i (cc := cX4_pour) (maxL := 6) (by decide) rfl (Nat.le_of_ble_eq_true rfl) ?_
  intro p e s m args below meth c A Q ls hx hb hml hts0 hown hA hw hl ret
  have hts : ∀ w ∈ sr_tbl, w.before args s = true := fun w hw => hts0 w (List.mem_cons_of_mem _ hw)
  have hown : s.vm.findClass RX4 = some m.cls := hown
  have hl : lv_has ls 6 [(0, .ref (ad 0)), (1, .int a1), (2, .int a2), (3, .int a3), (4, .int a4)] := hl
  have hw : xH D t ad A s M s.heap [] := hw
  unfold f4_pour at h
  refine lv_iload_n hx hb dX4_pour_0 rfl (lv_at hl 1 rfl) ?_
  obtain ⟨v1, hc, h⟩ := sr_bind1 h
  refine sr_cSi (As := [.int a1]) (rest := []) ⟨hx, hb, hml, hown, hts⟩ (k4_hasPlace l D t ad a1 M _ hc) (cwS 1 hts (sr_goodS qmX4_114 qtX4_hasPlace qnX4 qcX4_hasPlace) rfl rfl rfl qdX4_hasPlace ⟨Nat.le_of_ble_eq_true rfl, Nat.le_of_ble_eq_true rfl⟩) hw hA rfl hl.1 rfl (Nat.le_of_ble_eq_true rfl) dX4_pour_1 (fun H locs hw => ?_)
  refine lv_if_ne (tgt := 9) hx hb dX4_pour_4 (by decide) (fun hc => ?_) (fun hc => ?_)
  · have h := sr_ifn h hc
    refine lv_aload_n hx hb dX4_pour_9 rfl (lv_at hl 0 rfl) ?_
    refine sr_getr hx hb hts qzX4 hown hw (xf_0_1 t ad) (hts _ qfX4_18) dX4_pour_10 ?_
    refine lv_iload_n hx hb dX4_pour_13 rfl (lv_at hl 1 rfl) ?_
    refine sr_aald hx hb hw (xq_11 t ad) h xq_at dX4_pour_14 (fun hin2 h => ?_)
    refine sr_geti hx hb hts qzX0 hown hw (xfC_0 t ad (xoC_of hin2)) (hts _ qfX4_121) h dX4_pour_15 (fun v3 h => ?_)
    refine lv_if_ne (tgt := 24) hx hb dX4_pour_18 (by decide) (fun hc => ?_) (fun hc => ?_)
    · have h := sr_ifn h hc
      refine lv_aload_n hx hb dX4_pour_24 rfl (lv_at hl 0 rfl) ?_
      refine sr_getr hx hb hts qzX4 hown hw (xf_0_1 t ad) (hts _ qfX4_18) dX4_pour_25 ?_
      refine lv_iload_n hx hb dX4_pour_28 rfl (lv_at hl 1 rfl) ?_
      refine sr_aald hx hb hw (xq_11 t ad) h xq_at dX4_pour_29 (fun hin4 h => ?_)
      refine lv_iload_n hx hb dX4_pour_30 rfl (lv_at hl 2 rfl) ?_
      refine lv_iload_n hx hb dX4_pour_31 rfl (lv_at hl 3 rfl) ?_
      obtain ⟨v5, hc, h⟩ := sr_bind1 h
      refine sr_cVi (As := [.int a2, .int a3]) (rest := []) ⟨hx, hb, hml, hown, hts⟩ (k0_spans l D t ad (12 + 3 * a1.toNatClampNeg) (xoC_of hin4) a2 a3 M _ hc) (cwV 2 hts (sr_goodV qmX4_136 qiX0_spans qsX0_spans qnX0 qcX0_spans) rfl rfl rfl qdX0_spans ⟨Nat.le_of_ble_eq_true rfl, Nat.le_of_ble_eq_true rfl⟩) hw hA (xobC t ad (xoC_of hin4)) rfl hl.1 rfl (Nat.le_of_ble_eq_true rfl) dX4_pour_32 (fun H locs hw => ?_)
      refine lv_if_eq (tgt := 69) hx hb dX4_pour_35 (by decide) (fun hc => ?_) (fun hc => ?_)
      · have h := sr_ifp h hc
        refine lv_iconst (v := (-1)) hx hb dX4_pour_69 (by decide) ?_
        obtain ⟨rfl, rfl⟩ := Prod.mk.inj (Option.some.inj h)
        exact ret _ _ _ _ hw rfl dX4_pour_70
      · have h := sr_ifn h hc
        refine lv_iload hx hb dX4_pour_38 (lv_at hl 4 rfl) ?_
        refine lv_if_lt (tgt := 69) hx hb dX4_pour_40 (by decide) (fun hc => ?_) (fun hc => ?_)
        · have h := sr_ifp h hc
          refine lv_iconst (v := (-1)) hx hb dX4_pour_69 (by decide) ?_
          obtain ⟨rfl, rfl⟩ := Prod.mk.inj (Option.some.inj h)
          exact ret _ _ _ _ hw rfl dX4_pour_70
        · have h := sr_ifn h hc
          refine lv_iload hx hb dX4_pour_43 (lv_at hl 4 rfl) ?_
          refine lv_aload_n hx hb dX4_pour_45 rfl (lv_at hl 0 rfl) ?_
          refine sr_getr hx hb hts qzX4 hown hw (xf_0_0 t ad) (hts _ qfX4_10) dX4_pour_46 ?_
          refine sr_geti hx hb hts qzX2 hown hw (xf_1_3 t ad) (hts _ qfX4_62) h dX4_pour_49 (fun v6 h => ?_)
          refine lv_icmp_gt (tgt := 69) hx hb dX4_pour_52 (by decide) (fun hc => ?_) (fun hc => ?_)
          · have h := sr_ifp h hc
            refine lv_iconst (v := (-1)) hx hb dX4_pour_69 (by decide) ?_
            obtain ⟨rfl, rfl⟩ := Prod.mk.inj (Option.some.inj h)
            exact ret _ _ _ _ hw rfl dX4_pour_70
          · have h := sr_ifn h hc
            refine lv_iload_n hx hb dX4_pour_55 rfl (lv_at hl 3 rfl) ?_
            refine lv_aload_n hx hb dX4_pour_56 rfl (lv_at hl 0 rfl) ?_
            refine sr_getr hx hb hts qzX4 hown hw (xf_0_0 t ad) (hts _ qfX4_10) dX4_pour_57 ?_
            refine sr_geti hx hb hts qzX2 hown hw (xf_1_3 t ad) (hts _ qfX4_62) h dX4_pour_60 (fun v7 h => ?_)
            refine lv_iload hx hb dX4_pour_63 (lv_at hl 4 rfl) ?_
            refine lv_isub hx hb dX4_pour_65 ?_
            refine lv_icmp_le (tgt := 71) hx hb dX4_pour_66 (by decide) (fun hc => ?_) (fun hc => ?_)
            · have h := sr_ifp h hc
              refine lv_aload_n hx hb dX4_pour_71 rfl (lv_at hl 0 rfl) ?_
              refine sr_getr hx hb hts qzX4 hown hw (xf_0_2 t ad) (hts _ qfX4_27) dX4_pour_72 ?_
              refine lv_iconst (v := 0) hx hb dX4_pour_75 (by decide) ?_
              refine sr_putz hx hb hts qzX1 tyX1 tyX1_ok nmX1 hown hw (xf_30_1 t ad) rfl rfl (hts _ qfX4_50) h dX4_pour_76 (fun M8 H locs h hw => ?_)
              refine lv_iconst (v := 0) hx hb dX4_pour_79 (by decide) ?_
              refine lv_istore (lv' := [(5, .int 0), (0, .ref (ad 0)), (1, .int a1), (2, .int a2), (3, .int a3), (4, .int a4)]) hx hb dX4_pour_80 hl (by decide) rfl (fun ls hl => ?_)
              obtain ⟨x9, hlp, hE9⟩ := sr_bind h
              have hX9 : ∀ (M14 : sr_M), M14 = x9 → ∀ (H : Heap) (locs : List Loc) (ls : Array Slot), xH D t ad A s M14 H locs → lv_has ls 6 [] → W p l e ({ frames := 4, cells := 0, slots := 0, locals := 91 }) s m args below meth c H locs 0 0 Q (F0 m 113 ls []) := by
                intro M14 ex H locs ls hw hl
                have h := hE9 _ ex
                try dsimp only at h
                refine lv_iconst (v := 1) hx hb dX4_pour_113 (by decide) ?_
                obtain ⟨rfl, rfl⟩ := Prod.mk.inj (Option.some.inj h)
                exact ret _ _ _ _ hw rfl dX4_pour_114
              refine sr_lp_rule (fun (z9 : Int32 × sr_M) => ∀ (H : Heap) (locs : List Loc) (ls : Array Slot), xH D t ad A s z9.2 H locs → lv_has ls 6 [(0, .ref (ad 0)), (1, .int a1), (2, .int a2), (3, .int a3), (4, .int a4), (5, .int z9.1)] → W p l e ({ frames := 4, cells := 0, slots := 0, locals := 91 }) s m args below meth c H locs 0 0 Q (F0 m 82 ls [])) ?_ hlp _ _ _ hw (lv_sub hl [1, 2, 3, 4, 5, 0] rfl)
              rintro ⟨v10, M11⟩ y9 h hi9 he9 H locs ls hw hl
              have h : f4_pour_L82 a1 a2 a3 a4 v10 M11 = some y9 := h
              have hw : xH D t ad A s M11 H locs := hw
              have hl : lv_has ls 6 [(0, .ref (ad 0)), (1, .int a1), (2, .int a2), (3, .int a3), (4, .int a4), (5, .int v10)] := hl
              unfold f4_pour_L82 at h
              refine lv_iload hx hb dX4_pour_82 (lv_at hl 5 rfl) ?_
              refine lv_iload_n hx hb dX4_pour_84 rfl (lv_at hl 3 rfl) ?_
              refine lv_icmp_ge (tgt := 113) hx hb dX4_pour_85 (by decide) (fun hc => ?_) (fun hc => ?_)
              · have h := sr_ifp h hc
                exact hX9  M11 (he9 _ (Option.some.inj h).symm) _ _ _ hw (lv_sub hl [] rfl)
              · have h := sr_ifn h hc
                refine lv_aload_n hx hb dX4_pour_88 rfl (lv_at hl 0 rfl) ?_
                refine lv_aload_n hx hb dX4_pour_89 rfl (lv_at hl 0 rfl) ?_
                refine sr_getr hx hb hts qzX4 hown hw (xf_0_1 t ad) (hts _ qfX4_18) dX4_pour_90 ?_
                refine lv_iload_n hx hb dX4_pour_93 rfl (lv_at hl 1 rfl) ?_
                refine sr_aald hx hb hw (xq_11 t ad) h xq_at dX4_pour_94 (fun hin12 h => ?_)
                refine lv_iload_n hx hb dX4_pour_95 rfl (lv_at hl 2 rfl) ?_
                refine lv_iload hx hb dX4_pour_96 (lv_at hl 5 rfl) ?_
                refine lv_iadd hx hb dX4_pour_98 ?_
                refine lv_iload hx hb dX4_pour_99 (lv_at hl 4 rfl) ?_
                refine lv_iload hx hb dX4_pour_101 (lv_at hl 5 rfl) ?_
                refine lv_iadd hx hb dX4_pour_103 ?_
                obtain ⟨M13, hc, h⟩ := sr_bind1 h
                refine sr_cVv (As := [.ref (ad (12 + 3 * a1.toNatClampNeg)), .int (a2 + v10), .int (a4 + v10)]) (rest := []) ⟨hx, hb, hml, hown, hts⟩ (k4_pourOne l D t ad (12 + 3 * a1.toNatClampNeg) (xoC_of hin12) (a2 + v10) (a4 + v10) M11 _ hc) (cwV 3 hts (sr_goodV qmX4_150 qiX4_pourOne qsX4_pourOne qnX4 qcX4_pourOne) rfl rfl rfl qdX4_pourOne ⟨Nat.le_of_ble_eq_true rfl, Nat.le_of_ble_eq_true rfl⟩) hw hA (xo_0 t ad) rfl hl.1 rfl (Nat.le_of_ble_eq_true rfl) dX4_pour_104 (fun H locs hw => ?_)
                refine lv_iinc (v := (v10 + 1)) (lv' := [(5, .int (v10 + 1)), (0, .ref (ad 0)), (1, .int a1), (2, .int a2), (3, .int a3), (4, .int a4)]) hx hb dX4_pour_107 hl (k := 5) rfl rfl (by decide) rfl (fun ls hl => ?_)
                refine lv_goto (tgt := 82) hx hb dX4_pour_110 (by decide) ?_
                exact hi9 ((v10 + 1), M13) (Option.some.inj h).symm _ _ _ hw (lv_sub hl [1, 2, 3, 4, 5, 0] rfl)
            · have h := sr_ifn h hc
              refine lv_iconst (v := (-1)) hx hb dX4_pour_69 (by decide) ?_
              obtain ⟨rfl, rfl⟩ := Prod.mk.inj (Option.some.inj h)
              exact ret _ _ _ _ hw rfl dX4_pour_70
    · have h := sr_ifp h hc
      refine lv_bipush (v := (-3)) hx hb dX4_pour_21 (by decide) ?_
      obtain ⟨rfl, rfl⟩ := Prod.mk.inj (Option.some.inj h)
      exact ret _ _ _ _ hw rfl dX4_pour_23
  · have h := sr_ifp h hc
    refine lv_iconst (v := (-1)) hx hb dX4_pour_7 (by decide) ?_
    obtain ⟨rfl, rfl⟩ := Prod.mk.inj (Option.some.inj h)
    exact ret _ _ _ _ hw rfl dX4_pour_8

noncomputable def f4_begin (M : sr_M) : Option (Int32 × sr_M) :=
(f1_start 30 M).bind fun M1 =>
(f1_countFilled 30 M1).bind fun v2 =>
some (v2, M1)
set_option maxHeartbeats 4000000 in
set_option maxRecDepth 100000 in
theorem k4_begin (l : Launch) (D : va_G) (t : Nat → ClassId) (ad : Nat → Nat) (M : sr_M) (r : Int32) (M' : sr_M) (h : f4_begin M = some (r, M')) : sr_Mi l D vwCl (xty t) ad (xcf t ad) 62 yX4_begin (.code yX4_begin cX4_begin 1 (some .int) :: sr_tbl) ({ frames := 5, cells := 0, slots := 0, locals := 112 }) [.ref (ad 0)] M r M' := by
  refine sr_open_i (cc := cX4_begin) (maxL := 1) (by decide) rfl (Nat.le_of_ble_eq_true rfl) ?_
  intro p e s m args below meth c A Q ls hx hb hml hts0 hown hA hw hl ret
  have hts : ∀ w ∈ sr_tbl, w.before args s = true := fun w hw => hts0 w (List.mem_cons_of_mem _ hw)
  have hown : s.vm.findClass RX4 = some m.cls := hown
  have hl : lv_has ls 1 [(0, .ref (ad 0))] := hl
  have hw : xH D t ad A s M s.heap [] := hw
  unfold f4_begin at h
  refine lv_aload_n hx hb dX4_begin_0 rfl (lv_at hl 0 rfl) ?_
  refine sr_getr hx hb hts qzX4 hown hw (xf_0_2 t ad) (hts _ qfX4_27) dX4_begin_1 ?_
  obtain ⟨M1, hc, h⟩ := sr_bind1 h
  refine sr_cVv (As := []) (rest := []) ⟨hx, hb, hml, hown, hts⟩ (k1_start l D t ad 30 (Or.inl rfl) M _ hc) (cwV 0 hts (sr_goodV qmX4_154 qiX1_start qsX1_start qnX1 qcX1_start) rfl rfl rfl qdX1_start ⟨Nat.le_of_ble_eq_true rfl, Nat.le_of_ble_eq_true rfl⟩) hw hA (xo_30 t ad) rfl hl.1 rfl (Nat.le_of_ble_eq_true rfl) dX4_begin_4 (fun H locs hw => ?_)
  refine lv_aload_n hx hb dX4_begin_7 rfl (lv_at hl 0 rfl) ?_
  refine sr_getr hx hb hts qzX4 hown hw (xf_0_2 t ad) (hts _ qfX4_27) dX4_begin_8 ?_
  obtain ⟨v2, hc, h⟩ := sr_bind1 h
  refine sr_cVi (As := []) (rest := []) ⟨hx, hb, hml, hown, hts⟩ (k1_countFilled l D t ad 30 (Or.inl rfl) M1 _ hc) (cwV 0 hts (sr_goodV qmX4_157 qiX1_countFilled qsX1_countFilled qnX1 qcX1_countFilled) rfl rfl rfl qdX1_countFilled ⟨Nat.le_of_ble_eq_true rfl, Nat.le_of_ble_eq_true rfl⟩) hw hA (xo_30 t ad) rfl hl.1 rfl (Nat.le_of_ble_eq_true rfl) dX4_begin_11 (fun H locs hw => ?_)
  obtain ⟨rfl, rfl⟩ := Prod.mk.inj (Option.some.inj h)
  exact ret _ _ _ _ hw rfl dX4_begin_14

noncomputable def f4_step (M : sr_M) : Option (Int32 × sr_M) :=
sr_bnd (M.1 30 1) fun v1 =>
if v1 = 0 then
(some ((-6), M))
else
(sr_bd2 (f1_advance 30 M) fun v2 M3 =>
if 0 ≤ v2 then
(some (v2, M3))
else
(some ((-7), M3)))
set_option maxHeartbeats 4000000 in
set_option maxRecDepth 100000 in
theorem k4_step (l : Launch) (D : va_G) (t : Nat → ClassId) (ad : Nat → Nat) (M : sr_M) (r : Int32) (M' : sr_M) (h : f4_step M = some (r, M')) : sr_Mi l D vwCl (xty t) ad (xcf t ad) 62 yX4_step (.code yX4_step cX4_step 2 (some .int) :: sr_tbl) ({ frames := 5, cells := 0, slots := 0, locals := 113 }) [.ref (ad 0)] M r M' := by
  refine sr_open_i (cc := cX4_step) (maxL := 2) (by decide) rfl (Nat.le_of_ble_eq_true rfl) ?_
  intro p e s m args below meth c A Q ls hx hb hml hts0 hown hA hw hl ret
  have hts : ∀ w ∈ sr_tbl, w.before args s = true := fun w hw => hts0 w (List.mem_cons_of_mem _ hw)
  have hown : s.vm.findClass RX4 = some m.cls := hown
  have hl : lv_has ls 2 [(0, .ref (ad 0))] := hl
  have hw : xH D t ad A s M s.heap [] := hw
  unfold f4_step at h
  refine lv_aload_n hx hb dX4_step_0 rfl (lv_at hl 0 rfl) ?_
  refine sr_getr hx hb hts qzX4 hown hw (xf_0_2 t ad) (hts _ qfX4_27) dX4_step_1 ?_
  refine sr_geti hx hb hts qzX1 hown hw (xf_30_1 t ad) (hts _ qfX4_50) h dX4_step_4 (fun v1 h => ?_)
  refine lv_if_ne (tgt := 13) hx hb dX4_step_7 (by decide) (fun hc => ?_) (fun hc => ?_)
  · have h := sr_ifn h hc
    refine lv_aload_n hx hb dX4_step_13 rfl (lv_at hl 0 rfl) ?_
    refine sr_getr hx hb hts qzX4 hown hw (xf_0_2 t ad) (hts _ qfX4_27) dX4_step_14 ?_
    obtain ⟨v2, M3, hc, h⟩ := sr_bind2 h
    refine sr_cVi (As := []) (rest := []) ⟨hx, hb, hml, hown, hts⟩ (k1_advance l D t ad 30 (Or.inl rfl) M _ _ hc) (cwV 0 hts (sr_goodV qmX4_161 qiX1_advance qsX1_advance qnX1 qcX1_advance) rfl rfl rfl qdX1_advance ⟨Nat.le_of_ble_eq_true rfl, Nat.le_of_ble_eq_true rfl⟩) hw hA (xo_30 t ad) rfl hl.1 rfl (Nat.le_of_ble_eq_true rfl) dX4_step_17 (fun H locs hw => ?_)
    refine lv_istore_n (lv' := [(1, .int v2), (0, .ref (ad 0))]) hx hb dX4_step_20 rfl hl (by decide) rfl (fun ls hl => ?_)
    refine lv_iload_n hx hb dX4_step_21 rfl (lv_at hl 0 rfl) ?_
    refine lv_if_ge (tgt := 30) hx hb dX4_step_22 (by decide) (fun hc => ?_) (fun hc => ?_)
    · have h := sr_ifp h hc
      refine lv_iload_n hx hb dX4_step_30 rfl (lv_at hl 0 rfl) ?_
      obtain ⟨rfl, rfl⟩ := Prod.mk.inj (Option.some.inj h)
      exact ret _ _ _ _ hw rfl dX4_step_31
    · have h := sr_ifn h hc
      refine lv_bipush (v := (-7)) hx hb dX4_step_25 (by decide) ?_
      refine lv_goto (tgt := 31) hx hb dX4_step_27 (by decide) ?_
      obtain ⟨rfl, rfl⟩ := Prod.mk.inj (Option.some.inj h)
      exact ret _ _ _ _ hw rfl dX4_step_31
  · have h := sr_ifp h hc
    refine lv_bipush (v := (-6)) hx hb dX4_step_10 (by decide) ?_
    obtain ⟨rfl, rfl⟩ := Prod.mk.inj (Option.some.inj h)
    exact ret _ _ _ _ hw rfl dX4_step_12

noncomputable def f4_run_L36 (a1 : Int32) (v4 : Int32) (M5 : sr_M) : Option ((Int32 × sr_M) ⊕ (sr_M)) :=
if a1 ≤ v4 then
(some (.inr M5))
else
(sr_bd2 (f1_advance 30 M5) fun v6 M7 =>
if 0 ≤ v6 then
(some (.inl ((v4 + 1), M7)))
else
(some (.inr M7)))
noncomputable def f4_run (a1 : Int32) (M : sr_M) : Option (Int32 × sr_M) :=
sr_bnd (M.1 30 1) fun v1 =>
if v1 = 0 then
(some ((-6), M))
else
(if a1 < 0 then
(some ((-1), M))
else
(if a1 ≤ 200 then
(sr_bnd (M.1 30 2) fun v2 =>
(sr_lp (fun z3 : Int32 × sr_M => f4_run_L36 a1 z3.1 z3.2) (0, M)).bind fun w3 =>
sr_bnd (w3.1 30 2) fun v9 =>
some ((v9 - v2), w3))
else
(some ((-1), M))))
set_option maxHeartbeats 4000000 in
set_option maxRecDepth 100000 in
theorem k4_run (l : Launch) (D : va_G) (t : Nat → ClassId) (ad : Nat → Nat) (a1 : Int32) (M : sr_M) (r : Int32) (M' : sr_M) (h : f4_run a1 M = some (r, M')) : sr_Mi l D vwCl (xty t) ad (xcf t ad) 62 yX4_run (.code yX4_run cX4_run 4 (some .int) :: sr_tbl) ({ frames := 5, cells := 0, slots := 0, locals := 113 }) [.ref (ad 0), .int a1] M r M' := by
  refine sr_open_i (cc := cX4_run) (maxL := 4) (by decide) rfl (Nat.le_of_ble_eq_true rfl) ?_
  intro p e s m args below meth c A Q ls hx hb hml hts0 hown hA hw hl ret
  have hts : ∀ w ∈ sr_tbl, w.before args s = true := fun w hw => hts0 w (List.mem_cons_of_mem _ hw)
  have hown : s.vm.findClass RX4 = some m.cls := hown
  have hl : lv_has ls 4 [(0, .ref (ad 0)), (1, .int a1)] := hl
  have hw : xH D t ad A s M s.heap [] := hw
  unfold f4_run at h
  refine lv_aload_n hx hb dX4_run_0 rfl (lv_at hl 0 rfl) ?_
  refine sr_getr hx hb hts qzX4 hown hw (xf_0_2 t ad) (hts _ qfX4_27) dX4_run_1 ?_
  refine sr_geti hx hb hts qzX1 hown hw (xf_30_1 t ad) (hts _ qfX4_50) h dX4_run_4 (fun v1 h => ?_)
  refine lv_if_ne (tgt := 13) hx hb dX4_run_7 (by decide) (fun hc => ?_) (fun hc => ?_)
  · have h := sr_ifn h hc
    refine lv_iload_n hx hb dX4_run_13 rfl (lv_at hl 1 rfl) ?_
    refine lv_if_lt (tgt := 24) hx hb dX4_run_14 (by decide) (fun hc => ?_) (fun hc => ?_)
    · have h := sr_ifp h hc
      refine lv_iconst (v := (-1)) hx hb dX4_run_24 (by decide) ?_
      obtain ⟨rfl, rfl⟩ := Prod.mk.inj (Option.some.inj h)
      exact ret _ _ _ _ hw rfl dX4_run_25
    · have h := sr_ifn h hc
      refine lv_iload_n hx hb dX4_run_17 rfl (lv_at hl 1 rfl) ?_
      refine lv_sipush (v := 200) hx hb dX4_run_18 (by decide) ?_
      refine lv_icmp_le (tgt := 26) hx hb dX4_run_21 (by decide) (fun hc => ?_) (fun hc => ?_)
      · have h := sr_ifp h hc
        refine lv_aload_n hx hb dX4_run_26 rfl (lv_at hl 0 rfl) ?_
        refine sr_getr hx hb hts qzX4 hown hw (xf_0_2 t ad) (hts _ qfX4_27) dX4_run_27 ?_
        refine sr_geti hx hb hts qzX1 hown hw (xf_30_2 t ad) (hts _ qfX4_164) h dX4_run_30 (fun v2 h => ?_)
        refine lv_istore_n (lv' := [(2, .int v2), (0, .ref (ad 0)), (1, .int a1)]) hx hb dX4_run_33 rfl hl (by decide) rfl (fun ls hl => ?_)
        refine lv_iconst (v := 0) hx hb dX4_run_34 (by decide) ?_
        refine lv_istore_n (lv' := [(3, .int 0), (2, .int v2), (0, .ref (ad 0)), (1, .int a1)]) hx hb dX4_run_35 rfl hl (by decide) rfl (fun ls hl => ?_)
        obtain ⟨x3, hlp, hE3⟩ := sr_bind h
        have hX3 : ∀ (M8 : sr_M), M8 = x3 → ∀ (H : Heap) (locs : List Loc) (ls : Array Slot), xH D t ad A s M8 H locs → lv_has ls 4 [(0, .ref (ad 0)), (2, .int v2)] → W p l e ({ frames := 5, cells := 0, slots := 0, locals := 113 }) s m args below meth c H locs 0 0 Q (F0 m 60 ls []) := by
          intro M8 ex H locs ls hw hl
          have h := hE3 _ ex
          try dsimp only at h
          refine lv_aload_n hx hb dX4_run_60 rfl (lv_at hl 0 rfl) ?_
          refine sr_getr hx hb hts qzX4 hown hw (xf_0_2 t ad) (hts _ qfX4_27) dX4_run_61 ?_
          refine sr_geti hx hb hts qzX1 hown hw (xf_30_2 t ad) (hts _ qfX4_164) h dX4_run_64 (fun v9 h => ?_)
          refine lv_iload_n hx hb dX4_run_67 rfl (lv_at hl 1 rfl) ?_
          refine lv_isub hx hb dX4_run_68 ?_
          obtain ⟨rfl, rfl⟩ := Prod.mk.inj (Option.some.inj h)
          exact ret _ _ _ _ hw rfl dX4_run_69
        refine sr_lp_rule (fun (z3 : Int32 × sr_M) => ∀ (H : Heap) (locs : List Loc) (ls : Array Slot), xH D t ad A s z3.2 H locs → lv_has ls 4 [(0, .ref (ad 0)), (1, .int a1), (2, .int v2), (3, .int z3.1)] → W p l e ({ frames := 5, cells := 0, slots := 0, locals := 113 }) s m args below meth c H locs 0 0 Q (F0 m 36 ls [])) ?_ hlp _ _ _ hw (lv_sub hl [2, 3, 1, 0] rfl)
        rintro ⟨v4, M5⟩ y3 h hi3 he3 H locs ls hw hl
        have h : f4_run_L36 a1 v4 M5 = some y3 := h
        have hw : xH D t ad A s M5 H locs := hw
        have hl : lv_has ls 4 [(0, .ref (ad 0)), (1, .int a1), (2, .int v2), (3, .int v4)] := hl
        unfold f4_run_L36 at h
        refine lv_iload_n hx hb dX4_run_36 rfl (lv_at hl 3 rfl) ?_
        refine lv_iload_n hx hb dX4_run_37 rfl (lv_at hl 1 rfl) ?_
        refine lv_icmp_ge (tgt := 60) hx hb dX4_run_38 (by decide) (fun hc => ?_) (fun hc => ?_)
        · have h := sr_ifp h hc
          exact hX3  M5 (he3 _ (Option.some.inj h).symm) _ _ _ hw (lv_sub hl [0, 2] rfl)
        · have h := sr_ifn h hc
          refine lv_aload_n hx hb dX4_run_41 rfl (lv_at hl 0 rfl) ?_
          refine sr_getr hx hb hts qzX4 hown hw (xf_0_2 t ad) (hts _ qfX4_27) dX4_run_42 ?_
          obtain ⟨v6, M7, hc, h⟩ := sr_bind2 h
          refine sr_cVi (As := []) (rest := []) ⟨hx, hb, hml, hown, hts⟩ (k1_advance l D t ad 30 (Or.inl rfl) M5 _ _ hc) (cwV 0 hts (sr_goodV qmX4_161 qiX1_advance qsX1_advance qnX1 qcX1_advance) rfl rfl rfl qdX1_advance ⟨Nat.le_of_ble_eq_true rfl, Nat.le_of_ble_eq_true rfl⟩) hw hA (xo_30 t ad) rfl hl.1 rfl (Nat.le_of_ble_eq_true rfl) dX4_run_45 (fun H locs hw => ?_)
          refine lv_if_ge (tgt := 54) hx hb dX4_run_48 (by decide) (fun hc => ?_) (fun hc => ?_)
          · have h := sr_ifp h hc
            refine lv_iinc (v := (v4 + 1)) (lv' := [(3, .int (v4 + 1)), (0, .ref (ad 0)), (1, .int a1), (2, .int v2)]) hx hb dX4_run_54 hl (k := 3) rfl rfl (by decide) rfl (fun ls hl => ?_)
            refine lv_goto (tgt := 36) hx hb dX4_run_57 (by decide) ?_
            exact hi3 ((v4 + 1), M7) (Option.some.inj h).symm _ _ _ hw (lv_sub hl [1, 2, 3, 0] rfl)
          · have h := sr_ifn h hc
            refine lv_goto (tgt := 60) hx hb dX4_run_51 (by decide) ?_
            exact hX3  M7 (he3 _ (Option.some.inj h).symm) _ _ _ hw (lv_sub hl [0, 2] rfl)
      · have h := sr_ifn h hc
        refine lv_iconst (v := (-1)) hx hb dX4_run_24 (by decide) ?_
        obtain ⟨rfl, rfl⟩ := Prod.mk.inj (Option.some.inj h)
        exact ret _ _ _ _ hw rfl dX4_run_25
  · have h := sr_ifp h hc
    refine lv_bipush (v := (-6)) hx hb dX4_run_10 (by decide) ?_
    obtain ⟨rfl, rfl⟩ := Prod.mk.inj (Option.some.inj h)
    exact ret _ _ _ _ hw rfl dX4_run_12

noncomputable def f4_undo (a1 : Int32) (M : sr_M) : Option (Int32 × sr_M) :=
sr_bnd (M.1 30 1) fun v1 =>
if v1 = 0 then
(some ((-6), M))
else
(if a1 < 0 then
(some ((-1), M))
else
(sr_bnd (M.1 30 2) fun v2 =>
if a1 ≤ v2 then
(sr_bnd (M.1 30 2) fun v3 =>
(f1_takeBackTo 30 (v3 - a1) M).bind fun M4 =>
sr_bnd (M4.1 30 2) fun v5 =>
some (v5, M4))
else
(some ((-1), M))))
set_option maxHeartbeats 4000000 in
set_option maxRecDepth 100000 in
theorem k4_undo (l : Launch) (D : va_G) (t : Nat → ClassId) (ad : Nat → Nat) (a1 : Int32) (M : sr_M) (r : Int32) (M' : sr_M) (h : f4_undo a1 M = some (r, M')) : sr_Mi l D vwCl (xty t) ad (xcf t ad) 62 yX4_undo (.code yX4_undo cX4_undo 2 (some .int) :: sr_tbl) ({ frames := 1, cells := 0, slots := 0, locals := 22 }) [.ref (ad 0), .int a1] M r M' := by
  refine sr_open_i (cc := cX4_undo) (maxL := 2) (by decide) rfl (Nat.le_of_ble_eq_true rfl) ?_
  intro p e s m args below meth c A Q ls hx hb hml hts0 hown hA hw hl ret
  have hts : ∀ w ∈ sr_tbl, w.before args s = true := fun w hw => hts0 w (List.mem_cons_of_mem _ hw)
  have hown : s.vm.findClass RX4 = some m.cls := hown
  have hl : lv_has ls 2 [(0, .ref (ad 0)), (1, .int a1)] := hl
  have hw : xH D t ad A s M s.heap [] := hw
  unfold f4_undo at h
  refine lv_aload_n hx hb dX4_undo_0 rfl (lv_at hl 0 rfl) ?_
  refine sr_getr hx hb hts qzX4 hown hw (xf_0_2 t ad) (hts _ qfX4_27) dX4_undo_1 ?_
  refine sr_geti hx hb hts qzX1 hown hw (xf_30_1 t ad) (hts _ qfX4_50) h dX4_undo_4 (fun v1 h => ?_)
  refine lv_if_ne (tgt := 13) hx hb dX4_undo_7 (by decide) (fun hc => ?_) (fun hc => ?_)
  · have h := sr_ifn h hc
    refine lv_iload_n hx hb dX4_undo_13 rfl (lv_at hl 1 rfl) ?_
    refine lv_if_lt (tgt := 28) hx hb dX4_undo_14 (by decide) (fun hc => ?_) (fun hc => ?_)
    · have h := sr_ifp h hc
      refine lv_iconst (v := (-1)) hx hb dX4_undo_28 (by decide) ?_
      obtain ⟨rfl, rfl⟩ := Prod.mk.inj (Option.some.inj h)
      exact ret _ _ _ _ hw rfl dX4_undo_29
    · have h := sr_ifn h hc
      refine lv_iload_n hx hb dX4_undo_17 rfl (lv_at hl 1 rfl) ?_
      refine lv_aload_n hx hb dX4_undo_18 rfl (lv_at hl 0 rfl) ?_
      refine sr_getr hx hb hts qzX4 hown hw (xf_0_2 t ad) (hts _ qfX4_27) dX4_undo_19 ?_
      refine sr_geti hx hb hts qzX1 hown hw (xf_30_2 t ad) (hts _ qfX4_164) h dX4_undo_22 (fun v2 h => ?_)
      refine lv_icmp_le (tgt := 30) hx hb dX4_undo_25 (by decide) (fun hc => ?_) (fun hc => ?_)
      · have h := sr_ifp h hc
        refine lv_aload_n hx hb dX4_undo_30 rfl (lv_at hl 0 rfl) ?_
        refine sr_getr hx hb hts qzX4 hown hw (xf_0_2 t ad) (hts _ qfX4_27) dX4_undo_31 ?_
        refine lv_aload_n hx hb dX4_undo_34 rfl (lv_at hl 0 rfl) ?_
        refine sr_getr hx hb hts qzX4 hown hw (xf_0_2 t ad) (hts _ qfX4_27) dX4_undo_35 ?_
        refine sr_geti hx hb hts qzX1 hown hw (xf_30_2 t ad) (hts _ qfX4_164) h dX4_undo_38 (fun v3 h => ?_)
        refine lv_iload_n hx hb dX4_undo_41 rfl (lv_at hl 1 rfl) ?_
        refine lv_isub hx hb dX4_undo_42 ?_
        obtain ⟨M4, hc, h⟩ := sr_bind1 h
        refine sr_cVv (As := [.int (v3 - a1)]) (rest := []) ⟨hx, hb, hml, hown, hts⟩ (k1_takeBackTo l D t ad 30 (Or.inl rfl) (v3 - a1) M _ hc) (cwV 1 hts (sr_goodV qmX4_167 qiX1_takeBackTo qsX1_takeBackTo qnX1 qcX1_takeBackTo) rfl rfl rfl qdX1_takeBackTo ⟨Nat.le_of_ble_eq_true rfl, Nat.le_of_ble_eq_true rfl⟩) hw hA (xo_30 t ad) rfl hl.1 rfl (Nat.le_of_ble_eq_true rfl) dX4_undo_43 (fun H locs hw => ?_)
        refine lv_aload_n hx hb dX4_undo_46 rfl (lv_at hl 0 rfl) ?_
        refine sr_getr hx hb hts qzX4 hown hw (xf_0_2 t ad) (hts _ qfX4_27) dX4_undo_47 ?_
        refine sr_geti hx hb hts qzX1 hown hw (xf_30_2 t ad) (hts _ qfX4_164) h dX4_undo_50 (fun v5 h => ?_)
        obtain ⟨rfl, rfl⟩ := Prod.mk.inj (Option.some.inj h)
        exact ret _ _ _ _ hw rfl dX4_undo_53
      · have h := sr_ifn h hc
        refine lv_iconst (v := (-1)) hx hb dX4_undo_28 (by decide) ?_
        obtain ⟨rfl, rfl⟩ := Prod.mk.inj (Option.some.inj h)
        exact ret _ _ _ _ hw rfl dX4_undo_29
  · have h := sr_ifp h hc
    refine lv_bipush (v := (-6)) hx hb dX4_undo_10 (by decide) ?_
    obtain ⟨rfl, rfl⟩ := Prod.mk.inj (Option.some.inj h)
    exact ret _ _ _ _ hw rfl dX4_undo_12

noncomputable def f4_manyInRun (a1 : Int32) (M : sr_M) : Option (Int32) :=
(if a1 = 2 then
(sr_bnd (M.1 30 2) fun v8 =>
some v8)
else
(if a1 = 3 then
((f1_countFilled 30 M).bind fun v7 =>
some v7)
else
(if a1 = 4 then
((f1_countCut 30 M).bind fun v6 =>
some v6)
else
(if a1 = 5 then
(sr_bnd (M.1 1 0) fun v3 =>
(f1_countFilled 30 M).bind fun v4 =>
(f1_countCut 30 M).bind fun v5 =>
some ((v3 - v4) - v5))
else
(if a1 = 6 then
(sr_bnd (M.1 30 9) fun v2 =>
some v2)
else
((f1_countCandidates 30 M).bind fun v1 =>
some v1))))))
set_option maxHeartbeats 4000000 in
set_option maxRecDepth 100000 in
theorem k4_manyInRun (l : Launch) (D : va_G) (t : Nat → ClassId) (ad : Nat → Nat) (a1 : Int32) (M : sr_M) (r : Int32) (h : f4_manyInRun a1 M = some r) : sr_Mi l D vwCl (xty t) ad (xcf t ad) 62 yX4_manyInRun (.code yX4_manyInRun cX4_manyInRun 2 (some .int) :: sr_tbl) ({ frames := 3, cells := 0, slots := 0, locals := 65 }) [.ref (ad 0), .int a1] M r M := by
  refine sr_open_i (cc := cX4_manyInRun) (maxL := 2) (by decide) rfl (Nat.le_of_ble_eq_true rfl) ?_
  intro p e s m args below meth c A Q ls hx hb hml hts0 hown hA hw hl ret
  have hts : ∀ w ∈ sr_tbl, w.before args s = true := fun w hw => hts0 w (List.mem_cons_of_mem _ hw)
  have hown : s.vm.findClass RX4 = some m.cls := hown
  have hl : lv_has ls 2 [(0, .ref (ad 0)), (1, .int a1)] := hl
  have hw : xH D t ad A s M s.heap [] := hw
  unfold f4_manyInRun at h
  refine lv_iload_n hx hb dX4_manyInRun_0 rfl (lv_at hl 1 rfl) ?_
  rcases Classical.em (a1 = 2) with hc2 | hc2
  · have h := sr_ifp h hc2
    have ex := hc2
    refine lv_tableIn (off := 35) (tgt := 36) hx hb dX4_manyInRun_1 (by rw [ex]; decide) (by rw [ex]; decide) (by rw [ex]; decide) (by decide) ?_
    refine lv_aload_n hx hb dX4_manyInRun_36 rfl (lv_at hl 0 rfl) ?_
    refine sr_getr hx hb hts qzX4 hown hw (xf_0_2 t ad) (hts _ qfX4_27) dX4_manyInRun_37 ?_
    refine sr_geti hx hb hts qzX1 hown hw (xf_30_2 t ad) (hts _ qfX4_164) h dX4_manyInRun_40 (fun v8 h => ?_)
    obtain rfl := Option.some.inj h
    exact ret _ _ _ _ hw rfl dX4_manyInRun_43
  · have h := sr_ifn h hc2
    rcases Classical.em (a1 = 3) with hc3 | hc3
    · have h := sr_ifp h hc3
      have ex := hc3
      refine lv_tableIn (off := 43) (tgt := 44) hx hb dX4_manyInRun_1 (by rw [ex]; decide) (by rw [ex]; decide) (by rw [ex]; decide) (by decide) ?_
      refine lv_aload_n hx hb dX4_manyInRun_44 rfl (lv_at hl 0 rfl) ?_
      refine sr_getr hx hb hts qzX4 hown hw (xf_0_2 t ad) (hts _ qfX4_27) dX4_manyInRun_45 ?_
      obtain ⟨v7, hc, h⟩ := sr_bind1 h
      refine sr_cVi (As := []) (rest := []) ⟨hx, hb, hml, hown, hts⟩ (k1_countFilled l D t ad 30 (Or.inl rfl) M _ hc) (cwV 0 hts (sr_goodV qmX4_157 qiX1_countFilled qsX1_countFilled qnX1 qcX1_countFilled) rfl rfl rfl qdX1_countFilled ⟨Nat.le_of_ble_eq_true rfl, Nat.le_of_ble_eq_true rfl⟩) hw hA (xo_30 t ad) rfl hl.1 rfl (Nat.le_of_ble_eq_true rfl) dX4_manyInRun_48 (fun H locs hw => ?_)
      obtain rfl := Option.some.inj h
      exact ret _ _ _ _ hw rfl dX4_manyInRun_51
    · have h := sr_ifn h hc3
      rcases Classical.em (a1 = 4) with hc4 | hc4
      · have h := sr_ifp h hc4
        have ex := hc4
        refine lv_tableIn (off := 51) (tgt := 52) hx hb dX4_manyInRun_1 (by rw [ex]; decide) (by rw [ex]; decide) (by rw [ex]; decide) (by decide) ?_
        refine lv_aload_n hx hb dX4_manyInRun_52 rfl (lv_at hl 0 rfl) ?_
        refine sr_getr hx hb hts qzX4 hown hw (xf_0_2 t ad) (hts _ qfX4_27) dX4_manyInRun_53 ?_
        obtain ⟨v6, hc, h⟩ := sr_bind1 h
        refine sr_cVi (As := []) (rest := []) ⟨hx, hb, hml, hown, hts⟩ (k1_countCut l D t ad 30 (Or.inl rfl) M _ hc) (cwV 0 hts (sr_goodV qmX4_236 qiX1_countCut qsX1_countCut qnX1 qcX1_countCut) rfl rfl rfl qdX1_countCut ⟨Nat.le_of_ble_eq_true rfl, Nat.le_of_ble_eq_true rfl⟩) hw hA (xo_30 t ad) rfl hl.1 rfl (Nat.le_of_ble_eq_true rfl) dX4_manyInRun_56 (fun H locs hw => ?_)
        obtain rfl := Option.some.inj h
        exact ret _ _ _ _ hw rfl dX4_manyInRun_59
      · have h := sr_ifn h hc4
        rcases Classical.em (a1 = 5) with hc5 | hc5
        · have h := sr_ifp h hc5
          have ex := hc5
          refine lv_tableIn (off := 59) (tgt := 60) hx hb dX4_manyInRun_1 (by rw [ex]; decide) (by rw [ex]; decide) (by rw [ex]; decide) (by decide) ?_
          refine lv_aload_n hx hb dX4_manyInRun_60 rfl (lv_at hl 0 rfl) ?_
          refine sr_getr hx hb hts qzX4 hown hw (xf_0_0 t ad) (hts _ qfX4_10) dX4_manyInRun_61 ?_
          refine sr_geti hx hb hts qzX2 hown hw (xf_1_0 t ad) (hts _ qfX4_46) h dX4_manyInRun_64 (fun v3 h => ?_)
          refine lv_aload_n hx hb dX4_manyInRun_67 rfl (lv_at hl 0 rfl) ?_
          refine sr_getr hx hb hts qzX4 hown hw (xf_0_2 t ad) (hts _ qfX4_27) dX4_manyInRun_68 ?_
          obtain ⟨v4, hc, h⟩ := sr_bind1 h
          refine sr_cVi (As := []) (rest := [.int v3]) ⟨hx, hb, hml, hown, hts⟩ (k1_countFilled l D t ad 30 (Or.inl rfl) M _ hc) (cwV 0 hts (sr_goodV qmX4_157 qiX1_countFilled qsX1_countFilled qnX1 qcX1_countFilled) rfl rfl rfl qdX1_countFilled ⟨Nat.le_of_ble_eq_true rfl, Nat.le_of_ble_eq_true rfl⟩) hw hA (xo_30 t ad) rfl hl.1 rfl (Nat.le_of_ble_eq_true rfl) dX4_manyInRun_71 (fun H locs hw => ?_)
          refine lv_isub hx hb dX4_manyInRun_74 ?_
          refine lv_aload_n hx hb dX4_manyInRun_75 rfl (lv_at hl 0 rfl) ?_
          refine sr_getr hx hb hts qzX4 hown hw (xf_0_2 t ad) (hts _ qfX4_27) dX4_manyInRun_76 ?_
          obtain ⟨v5, hc, h⟩ := sr_bind1 h
          refine sr_cVi (As := []) (rest := [.int (v3 - v4)]) ⟨hx, hb, hml, hown, hts⟩ (k1_countCut l D t ad 30 (Or.inl rfl) M _ hc) (cwV 0 hts (sr_goodV qmX4_236 qiX1_countCut qsX1_countCut qnX1 qcX1_countCut) rfl rfl rfl qdX1_countCut ⟨Nat.le_of_ble_eq_true rfl, Nat.le_of_ble_eq_true rfl⟩) hw hA (xo_30 t ad) rfl hl.1 rfl (Nat.le_of_ble_eq_true rfl) dX4_manyInRun_79 (fun H locs hw => ?_)
          refine lv_isub hx hb dX4_manyInRun_82 ?_
          obtain rfl := Option.some.inj h
          exact ret _ _ _ _ hw rfl dX4_manyInRun_83
        · have h := sr_ifn h hc5
          rcases Classical.em (a1 = 6) with hc6 | hc6
          · have h := sr_ifp h hc6
            have ex := hc6
            refine lv_tableIn (off := 83) (tgt := 84) hx hb dX4_manyInRun_1 (by rw [ex]; decide) (by rw [ex]; decide) (by rw [ex]; decide) (by decide) ?_
            refine lv_aload_n hx hb dX4_manyInRun_84 rfl (lv_at hl 0 rfl) ?_
            refine sr_getr hx hb hts qzX4 hown hw (xf_0_2 t ad) (hts _ qfX4_27) dX4_manyInRun_85 ?_
            refine sr_geti hx hb hts qzX1 hown hw (xf_30_9 t ad) (hts _ qfX4_195) h dX4_manyInRun_88 (fun v2 h => ?_)
            obtain rfl := Option.some.inj h
            exact ret _ _ _ _ hw rfl dX4_manyInRun_91
          · have h := sr_ifn h hc6
            refine lv_tableOut (tgt := 92) hx hb dX4_manyInRun_1 (sr_tout2_6 hc2 hc3 hc4 hc5 hc6) (by decide) ?_
            refine lv_aload_n hx hb dX4_manyInRun_92 rfl (lv_at hl 0 rfl) ?_
            refine sr_getr hx hb hts qzX4 hown hw (xf_0_2 t ad) (hts _ qfX4_27) dX4_manyInRun_93 ?_
            obtain ⟨v1, hc, h⟩ := sr_bind1 h
            refine sr_cVi (As := []) (rest := []) ⟨hx, hb, hml, hown, hts⟩ (k1_countCandidates l D t ad 30 (Or.inl rfl) M _ hc) (cwV 0 hts (sr_goodV qmX4_239 qiX1_countCandidates qsX1_countCandidates qnX1 qcX1_countCandidates) rfl rfl rfl qdX1_countCandidates ⟨Nat.le_of_ble_eq_true rfl, Nat.le_of_ble_eq_true rfl⟩) hw hA (xo_30 t ad) rfl hl.1 rfl (Nat.le_of_ble_eq_true rfl) dX4_manyInRun_96 (fun H locs hw => ?_)
            obtain rfl := Option.some.inj h
            exact ret _ _ _ _ hw rfl dX4_manyInRun_99

noncomputable def f4_many (a1 : Int32) (M : sr_M) : Option (Int32) :=
if a1 < 0 then
(some (-1))
else
(if a1 ≤ 8 then
(if a1 = 0 then
(sr_bnd (M.1 1 0) fun v5 =>
some v5)
else
(if a1 = 1 then
(sr_bnd (M.1 1 3) fun v4 =>
some v4)
else
(if a1 = 8 then
(sr_bnd (M.1 0 6) fun v3 =>
some v3)
else
(sr_bnd (M.1 30 1) fun v1 =>
if v1 = 0 then
(some (-6))
else
((f4_manyInRun a1 M).bind fun v2 =>
some v2)))))
else
(some (-1)))
set_option maxHeartbeats 4000000 in
set_option maxRecDepth 100000 in
theorem k4_many (l : Launch) (D : va_G) (t : Nat → ClassId) (ad : Nat → Nat) (a1 : Int32) (M : sr_M) (r : Int32) (h : f4_many a1 M = some r) : sr_Mi l D vwCl (xty t) ad (xcf t ad) 62 yX4_many (.code yX4_many cX4_many 2 (some .int) :: sr_tbl) ({ frames := 4, cells := 0, slots := 0, locals := 86 }) [.ref (ad 0), .int a1] M r M := by
  refine sr_open_i (cc := cX4_many) (maxL := 2) (by decide) rfl (Nat.le_of_ble_eq_true rfl) ?_
  intro p e s m args below meth c A Q ls hx hb hml hts0 hown hA hw hl ret
  have hts : ∀ w ∈ sr_tbl, w.before args s = true := fun w hw => hts0 w (List.mem_cons_of_mem _ hw)
  have hown : s.vm.findClass RX4 = some m.cls := hown
  have hl : lv_has ls 2 [(0, .ref (ad 0)), (1, .int a1)] := hl
  have hw : xH D t ad A s M s.heap [] := hw
  unfold f4_many at h
  refine lv_iload_n hx hb dX4_many_0 rfl (lv_at hl 1 rfl) ?_
  refine lv_if_lt (tgt := 10) hx hb dX4_many_1 (by decide) (fun hc => ?_) (fun hc => ?_)
  · have h := sr_ifp h hc
    refine lv_iconst (v := (-1)) hx hb dX4_many_10 (by decide) ?_
    obtain rfl := Option.some.inj h
    exact ret _ _ _ _ hw rfl dX4_many_11
  · have h := sr_ifn h hc
    refine lv_iload_n hx hb dX4_many_4 rfl (lv_at hl 1 rfl) ?_
    refine lv_bipush (v := 8) hx hb dX4_many_5 (by decide) ?_
    refine lv_icmp_le (tgt := 12) hx hb dX4_many_7 (by decide) (fun hc => ?_) (fun hc => ?_)
    · have h := sr_ifp h hc
      refine lv_iload_n hx hb dX4_many_12 rfl (lv_at hl 1 rfl) ?_
      refine lv_if_ne (tgt := 24) hx hb dX4_many_13 (by decide) (fun hc => ?_) (fun hc => ?_)
      · have h := sr_ifn h hc
        refine lv_iload_n hx hb dX4_many_24 rfl (lv_at hl 1 rfl) ?_
        refine lv_iconst (v := 1) hx hb dX4_many_25 (by decide) ?_
        refine lv_icmp_ne (tgt := 37) hx hb dX4_many_26 (by decide) (fun hc => ?_) (fun hc => ?_)
        · have h := sr_ifn h hc
          refine lv_iload_n hx hb dX4_many_37 rfl (lv_at hl 1 rfl) ?_
          refine lv_bipush (v := 8) hx hb dX4_many_38 (by decide) ?_
          refine lv_icmp_ne (tgt := 48) hx hb dX4_many_40 (by decide) (fun hc => ?_) (fun hc => ?_)
          · have h := sr_ifn h hc
            refine lv_aload_n hx hb dX4_many_48 rfl (lv_at hl 0 rfl) ?_
            refine sr_getr hx hb hts qzX4 hown hw (xf_0_2 t ad) (hts _ qfX4_27) dX4_many_49 ?_
            refine sr_geti hx hb hts qzX1 hown hw (xf_30_1 t ad) (hts _ qfX4_50) h dX4_many_52 (fun v1 h => ?_)
            refine lv_if_eq (tgt := 66) hx hb dX4_many_55 (by decide) (fun hc => ?_) (fun hc => ?_)
            · have h := sr_ifp h hc
              refine lv_bipush (v := (-6)) hx hb dX4_many_66 (by decide) ?_
              obtain rfl := Option.some.inj h
              exact ret _ _ _ _ hw rfl dX4_many_68
            · have h := sr_ifn h hc
              refine lv_aload_n hx hb dX4_many_58 rfl (lv_at hl 0 rfl) ?_
              refine lv_iload_n hx hb dX4_many_59 rfl (lv_at hl 1 rfl) ?_
              obtain ⟨v2, hc, h⟩ := sr_bind1 h
              refine sr_cVi (As := [.int a1]) (rest := []) ⟨hx, hb, hml, hown, hts⟩ (k4_manyInRun l D t ad a1 M _ hc) (cwV 1 hts (sr_goodV qmX4_174 qiX4_manyInRun qsX4_manyInRun qnX4 qcX4_manyInRun) rfl rfl rfl qdX4_manyInRun ⟨Nat.le_of_ble_eq_true rfl, Nat.le_of_ble_eq_true rfl⟩) hw hA (xo_0 t ad) rfl hl.1 rfl (Nat.le_of_ble_eq_true rfl) dX4_many_60 (fun H locs hw => ?_)
              refine lv_goto (tgt := 68) hx hb dX4_many_63 (by decide) ?_
              obtain rfl := Option.some.inj h
              exact ret _ _ _ _ hw rfl dX4_many_68
          · have h := sr_ifp h hc
            refine lv_aload_n hx hb dX4_many_43 rfl (lv_at hl 0 rfl) ?_
            refine sr_geti hx hb hts qzX4 hown hw (xf_0_6 t ad) (hts _ qfX4_171) h dX4_many_44 (fun v3 h => ?_)
            obtain rfl := Option.some.inj h
            exact ret _ _ _ _ hw rfl dX4_many_47
        · have h := sr_ifp h hc
          refine lv_aload_n hx hb dX4_many_29 rfl (lv_at hl 0 rfl) ?_
          refine sr_getr hx hb hts qzX4 hown hw (xf_0_0 t ad) (hts _ qfX4_10) dX4_many_30 ?_
          refine sr_geti hx hb hts qzX2 hown hw (xf_1_3 t ad) (hts _ qfX4_62) h dX4_many_33 (fun v4 h => ?_)
          obtain rfl := Option.some.inj h
          exact ret _ _ _ _ hw rfl dX4_many_36
      · have h := sr_ifp h hc
        refine lv_aload_n hx hb dX4_many_16 rfl (lv_at hl 0 rfl) ?_
        refine sr_getr hx hb hts qzX4 hown hw (xf_0_0 t ad) (hts _ qfX4_10) dX4_many_17 ?_
        refine sr_geti hx hb hts qzX2 hown hw (xf_1_0 t ad) (hts _ qfX4_46) h dX4_many_20 (fun v5 h => ?_)
        obtain rfl := Option.some.inj h
        exact ret _ _ _ _ hw rfl dX4_many_23
    · have h := sr_ifn h hc
      refine lv_iconst (v := (-1)) hx hb dX4_many_10 (by decide) ?_
      obtain rfl := Option.some.inj h
      exact ret _ _ _ _ hw rfl dX4_many_11

noncomputable def f4_opened (a1 : Int32) (M : sr_M) : Option (Int32) :=
sr_bnd (M.1 30 1) fun v1 =>
if v1 = 0 then
(some (-1))
else
(if a1 < 1 then
(some (-1))
else
(sr_bnd (M.1 30 2) fun v2 =>
if v2 < a1 then
(some (-1))
else
(sr_ld a1 121 (M.1 31) fun v3 =>
some v3)))
set_option maxHeartbeats 4000000 in
set_option maxRecDepth 100000 in
theorem k4_opened (l : Launch) (D : va_G) (t : Nat → ClassId) (ad : Nat → Nat) (a1 : Int32) (M : sr_M) (r : Int32) (h : f4_opened a1 M = some r) : sr_Mi l D vwCl (xty t) ad (xcf t ad) 62 yX4_opened (.code yX4_opened cX4_opened 2 (some .int) :: sr_tbl) ({ frames := 0, cells := 0, slots := 0, locals := 0 }) [.ref (ad 0), .int a1] M r M := by
  refine sr_open_i (cc := cX4_opened) (maxL := 2) (by decide) rfl (Nat.le_of_ble_eq_true rfl) ?_
  intro p e s m args below meth c A Q ls hx hb hml hts0 hown hA hw hl ret
  have hts : ∀ w ∈ sr_tbl, w.before args s = true := fun w hw => hts0 w (List.mem_cons_of_mem _ hw)
  have hown : s.vm.findClass RX4 = some m.cls := hown
  have hl : lv_has ls 2 [(0, .ref (ad 0)), (1, .int a1)] := hl
  have hw : xH D t ad A s M s.heap [] := hw
  unfold f4_opened at h
  refine lv_aload_n hx hb dX4_opened_0 rfl (lv_at hl 0 rfl) ?_
  refine sr_getr hx hb hts qzX4 hown hw (xf_0_2 t ad) (hts _ qfX4_27) dX4_opened_1 ?_
  refine sr_geti hx hb hts qzX1 hown hw (xf_30_1 t ad) (hts _ qfX4_50) h dX4_opened_4 (fun v1 h => ?_)
  refine lv_if_eq (tgt := 38) hx hb dX4_opened_7 (by decide) (fun hc => ?_) (fun hc => ?_)
  · have h := sr_ifp h hc
    refine lv_iconst (v := (-1)) hx hb dX4_opened_38 (by decide) ?_
    obtain rfl := Option.some.inj h
    exact ret _ _ _ _ hw rfl dX4_opened_39
  · have h := sr_ifn h hc
    refine lv_iload_n hx hb dX4_opened_10 rfl (lv_at hl 1 rfl) ?_
    refine lv_iconst (v := 1) hx hb dX4_opened_11 (by decide) ?_
    refine lv_icmp_lt (tgt := 38) hx hb dX4_opened_12 (by decide) (fun hc => ?_) (fun hc => ?_)
    · have h := sr_ifp h hc
      refine lv_iconst (v := (-1)) hx hb dX4_opened_38 (by decide) ?_
      obtain rfl := Option.some.inj h
      exact ret _ _ _ _ hw rfl dX4_opened_39
    · have h := sr_ifn h hc
      refine lv_iload_n hx hb dX4_opened_15 rfl (lv_at hl 1 rfl) ?_
      refine lv_aload_n hx hb dX4_opened_16 rfl (lv_at hl 0 rfl) ?_
      refine sr_getr hx hb hts qzX4 hown hw (xf_0_2 t ad) (hts _ qfX4_27) dX4_opened_17 ?_
      refine sr_geti hx hb hts qzX1 hown hw (xf_30_2 t ad) (hts _ qfX4_164) h dX4_opened_20 (fun v2 h => ?_)
      refine lv_icmp_gt (tgt := 38) hx hb dX4_opened_23 (by decide) (fun hc => ?_) (fun hc => ?_)
      · have h := sr_ifp h hc
        refine lv_iconst (v := (-1)) hx hb dX4_opened_38 (by decide) ?_
        obtain rfl := Option.some.inj h
        exact ret _ _ _ _ hw rfl dX4_opened_39
      · have h := sr_ifn h hc
        refine lv_aload_n hx hb dX4_opened_26 rfl (lv_at hl 0 rfl) ?_
        refine sr_getr hx hb hts qzX4 hown hw (xf_0_2 t ad) (hts _ qfX4_27) dX4_opened_27 ?_
        refine sr_getr hx hb hts qzX1 hown hw (xf_30_3 t ad) (hts _ qfX4_177) dX4_opened_30 ?_
        refine lv_iload_n hx hb dX4_opened_33 rfl (lv_at hl 1 rfl) ?_
        refine sr_iald hx hb hw (xa_31 t ad) h dX4_opened_34 (fun v3 h => ?_)
        refine lv_goto (tgt := 39) hx hb dX4_opened_35 (by decide) ?_
        obtain rfl := Option.some.inj h
        exact ret _ _ _ _ hw rfl dX4_opened_39

noncomputable def f4_now (a1 : Int32) (a2 : Int32) (M : sr_M) : Option (Int32) :=
sr_bnd (M.1 30 1) fun v1 =>
if v1 = 0 then
(some (-6))
else
((f2_hasPore a1 M).bind fun v2 =>
if v2 = 0 then
(some (-2))
else
((if a2 = 0 then
(sr_ld a1 120 (M.1 33) fun v6 =>
some v6)
else
(if a2 = 1 then
(sr_ld a1 120 (M.1 34) fun v5 =>
some v5)
else
(if a2 = 2 then
(sr_ld a1 120 (M.1 35) fun v4 =>
some v4)
else
(if a2 = 3 then
(sr_ld a1 120 (M.1 36) fun v3 =>
some v3)
else
(some (-2))))))))
set_option maxHeartbeats 4000000 in
set_option maxRecDepth 100000 in
theorem k4_now (l : Launch) (D : va_G) (t : Nat → ClassId) (ad : Nat → Nat) (a1 : Int32) (a2 : Int32) (M : sr_M) (r : Int32) (h : f4_now a1 a2 M = some r) : sr_Mi l D vwCl (xty t) ad (xcf t ad) 62 yX4_now (.code yX4_now cX4_now 3 (some .int) :: sr_tbl) ({ frames := 1, cells := 0, slots := 0, locals := 21 }) [.ref (ad 0), .int a1, .int a2] M r M := by
  refine sr_open_i (cc := cX4_now) (maxL := 3) (by decide) rfl (Nat.le_of_ble_eq_true rfl) ?_
  intro p e s m args below meth c A Q ls hx hb hml hts0 hown hA hw hl ret
  have hts : ∀ w ∈ sr_tbl, w.before args s = true := fun w hw => hts0 w (List.mem_cons_of_mem _ hw)
  have hown : s.vm.findClass RX4 = some m.cls := hown
  have hl : lv_has ls 3 [(0, .ref (ad 0)), (1, .int a1), (2, .int a2)] := hl
  have hw : xH D t ad A s M s.heap [] := hw
  unfold f4_now at h
  refine lv_aload_n hx hb dX4_now_0 rfl (lv_at hl 0 rfl) ?_
  refine sr_getr hx hb hts qzX4 hown hw (xf_0_2 t ad) (hts _ qfX4_27) dX4_now_1 ?_
  refine sr_geti hx hb hts qzX1 hown hw (xf_30_1 t ad) (hts _ qfX4_50) h dX4_now_4 (fun v1 h => ?_)
  refine lv_if_ne (tgt := 13) hx hb dX4_now_7 (by decide) (fun hc => ?_) (fun hc => ?_)
  · have h := sr_ifn h hc
    refine lv_aload_n hx hb dX4_now_13 rfl (lv_at hl 0 rfl) ?_
    refine sr_getr hx hb hts qzX4 hown hw (xf_0_0 t ad) (hts _ qfX4_10) dX4_now_14 ?_
    refine lv_iload_n hx hb dX4_now_17 rfl (lv_at hl 1 rfl) ?_
    obtain ⟨v2, hc, h⟩ := sr_bind1 h
    refine sr_cVi (As := [.int a1]) (rest := []) ⟨hx, hb, hml, hown, hts⟩ (k2_hasPore l D t ad a1 M _ hc) (cwV 1 hts (sr_goodV qmX4_58 qiX2_hasPore qsX2_hasPore qnX2 qcX2_hasPore) rfl rfl rfl qdX2_hasPore ⟨Nat.le_of_ble_eq_true rfl, Nat.le_of_ble_eq_true rfl⟩) hw hA (xo_1 t ad) rfl hl.1 rfl (Nat.le_of_ble_eq_true rfl) dX4_now_18 (fun H locs hw => ?_)
    refine lv_if_ne (tgt := 27) hx hb dX4_now_21 (by decide) (fun hc => ?_) (fun hc => ?_)
    · have h := sr_ifn h hc
      refine lv_iload_n hx hb dX4_now_27 rfl (lv_at hl 2 rfl) ?_
      rcases Classical.em (a2 = 0) with hc0 | hc0
      · have h := sr_ifp h hc0
        have ex := hc0
        refine lv_tableIn (off := 32) (tgt := 60) hx hb dX4_now_28 (by rw [ex]; decide) (by rw [ex]; decide) (by rw [ex]; decide) (by decide) ?_
        refine lv_aload_n hx hb dX4_now_60 rfl (lv_at hl 0 rfl) ?_
        refine sr_getr hx hb hts qzX4 hown hw (xf_0_2 t ad) (hts _ qfX4_27) dX4_now_61 ?_
        refine sr_getr hx hb hts qzX1 hown hw (xf_30_5 t ad) (hts _ qfX4_180) dX4_now_64 ?_
        refine lv_iload_n hx hb dX4_now_67 rfl (lv_at hl 1 rfl) ?_
        refine sr_iald hx hb hw (xa_33 t ad) h dX4_now_68 (fun v6 h => ?_)
        obtain rfl := Option.some.inj h
        exact ret _ _ _ _ hw rfl dX4_now_69
      · have h := sr_ifn h hc0
        rcases Classical.em (a2 = 1) with hc1 | hc1
        · have h := sr_ifp h hc1
          have ex := hc1
          refine lv_tableIn (off := 42) (tgt := 70) hx hb dX4_now_28 (by rw [ex]; decide) (by rw [ex]; decide) (by rw [ex]; decide) (by decide) ?_
          refine lv_aload_n hx hb dX4_now_70 rfl (lv_at hl 0 rfl) ?_
          refine sr_getr hx hb hts qzX4 hown hw (xf_0_2 t ad) (hts _ qfX4_27) dX4_now_71 ?_
          refine sr_getr hx hb hts qzX1 hown hw (xf_30_6 t ad) (hts _ qfX4_183) dX4_now_74 ?_
          refine lv_iload_n hx hb dX4_now_77 rfl (lv_at hl 1 rfl) ?_
          refine sr_iald hx hb hw (xa_34 t ad) h dX4_now_78 (fun v5 h => ?_)
          obtain rfl := Option.some.inj h
          exact ret _ _ _ _ hw rfl dX4_now_79
        · have h := sr_ifn h hc1
          rcases Classical.em (a2 = 2) with hc2 | hc2
          · have h := sr_ifp h hc2
            have ex := hc2
            refine lv_tableIn (off := 52) (tgt := 80) hx hb dX4_now_28 (by rw [ex]; decide) (by rw [ex]; decide) (by rw [ex]; decide) (by decide) ?_
            refine lv_aload_n hx hb dX4_now_80 rfl (lv_at hl 0 rfl) ?_
            refine sr_getr hx hb hts qzX4 hown hw (xf_0_2 t ad) (hts _ qfX4_27) dX4_now_81 ?_
            refine sr_getr hx hb hts qzX1 hown hw (xf_30_7 t ad) (hts _ qfX4_186) dX4_now_84 ?_
            refine lv_iload_n hx hb dX4_now_87 rfl (lv_at hl 1 rfl) ?_
            refine sr_iald hx hb hw (xa_35 t ad) h dX4_now_88 (fun v4 h => ?_)
            obtain rfl := Option.some.inj h
            exact ret _ _ _ _ hw rfl dX4_now_89
          · have h := sr_ifn h hc2
            rcases Classical.em (a2 = 3) with hc3 | hc3
            · have h := sr_ifp h hc3
              have ex := hc3
              refine lv_tableIn (off := 62) (tgt := 90) hx hb dX4_now_28 (by rw [ex]; decide) (by rw [ex]; decide) (by rw [ex]; decide) (by decide) ?_
              refine lv_aload_n hx hb dX4_now_90 rfl (lv_at hl 0 rfl) ?_
              refine sr_getr hx hb hts qzX4 hown hw (xf_0_2 t ad) (hts _ qfX4_27) dX4_now_91 ?_
              refine sr_getr hx hb hts qzX1 hown hw (xf_30_8 t ad) (hts _ qfX4_189) dX4_now_94 ?_
              refine lv_iload_n hx hb dX4_now_97 rfl (lv_at hl 1 rfl) ?_
              refine sr_iald hx hb hw (xa_36 t ad) h dX4_now_98 (fun v3 h => ?_)
              obtain rfl := Option.some.inj h
              exact ret _ _ _ _ hw rfl dX4_now_99
            · have h := sr_ifn h hc3
              refine lv_tableOut (tgt := 100) hx hb dX4_now_28 (sr_tout0_3 hc0 hc1 hc2 hc3) (by decide) ?_
              refine lv_bipush (v := (-2)) hx hb dX4_now_100 (by decide) ?_
              obtain rfl := Option.some.inj h
              exact ret _ _ _ _ hw rfl dX4_now_102
    · have h := sr_ifp h hc
      refine lv_bipush (v := (-2)) hx hb dX4_now_24 (by decide) ?_
      obtain rfl := Option.some.inj h
      exact ret _ _ _ _ hw rfl dX4_now_26
  · have h := sr_ifp h hc
    refine lv_bipush (v := (-6)) hx hb dX4_now_10 (by decide) ?_
    obtain rfl := Option.some.inj h
    exact ret _ _ _ _ hw rfl dX4_now_12

noncomputable def f4_front (a1 : Int32) (M : sr_M) : Option (Int32) :=
sr_bnd (M.1 30 1) fun v1 =>
if v1 = 0 then
(some (-1))
else
(if a1 < 0 then
(some (-1))
else
((f1_candidate 30 a1 M).bind fun v2 =>
some v2))
set_option maxHeartbeats 4000000 in
set_option maxRecDepth 100000 in
theorem k4_front (l : Launch) (D : va_G) (t : Nat → ClassId) (ad : Nat → Nat) (a1 : Int32) (M : sr_M) (r : Int32) (h : f4_front a1 M = some r) : sr_Mi l D vwCl (xty t) ad (xcf t ad) 62 yX4_front (.code yX4_front cX4_front 2 (some .int) :: sr_tbl) ({ frames := 3, cells := 0, slots := 0, locals := 66 }) [.ref (ad 0), .int a1] M r M := by
  refine sr_open_i (cc := cX4_front) (maxL := 2) (by decide) rfl (Nat.le_of_ble_eq_true rfl) ?_
  intro p e s m args below meth c A Q ls hx hb hml hts0 hown hA hw hl ret
  have hts : ∀ w ∈ sr_tbl, w.before args s = true := fun w hw => hts0 w (List.mem_cons_of_mem _ hw)
  have hown : s.vm.findClass RX4 = some m.cls := hown
  have hl : lv_has ls 2 [(0, .ref (ad 0)), (1, .int a1)] := hl
  have hw : xH D t ad A s M s.heap [] := hw
  unfold f4_front at h
  refine lv_aload_n hx hb dX4_front_0 rfl (lv_at hl 0 rfl) ?_
  refine sr_getr hx hb hts qzX4 hown hw (xf_0_2 t ad) (hts _ qfX4_27) dX4_front_1 ?_
  refine sr_geti hx hb hts qzX1 hown hw (xf_30_1 t ad) (hts _ qfX4_50) h dX4_front_4 (fun v1 h => ?_)
  refine lv_if_eq (tgt := 25) hx hb dX4_front_7 (by decide) (fun hc => ?_) (fun hc => ?_)
  · have h := sr_ifp h hc
    refine lv_iconst (v := (-1)) hx hb dX4_front_25 (by decide) ?_
    obtain rfl := Option.some.inj h
    exact ret _ _ _ _ hw rfl dX4_front_26
  · have h := sr_ifn h hc
    refine lv_iload_n hx hb dX4_front_10 rfl (lv_at hl 1 rfl) ?_
    refine lv_if_lt (tgt := 25) hx hb dX4_front_11 (by decide) (fun hc => ?_) (fun hc => ?_)
    · have h := sr_ifp h hc
      refine lv_iconst (v := (-1)) hx hb dX4_front_25 (by decide) ?_
      obtain rfl := Option.some.inj h
      exact ret _ _ _ _ hw rfl dX4_front_26
    · have h := sr_ifn h hc
      refine lv_aload_n hx hb dX4_front_14 rfl (lv_at hl 0 rfl) ?_
      refine sr_getr hx hb hts qzX4 hown hw (xf_0_2 t ad) (hts _ qfX4_27) dX4_front_15 ?_
      refine lv_iload_n hx hb dX4_front_18 rfl (lv_at hl 1 rfl) ?_
      obtain ⟨v2, hc, h⟩ := sr_bind1 h
      refine sr_cVi (As := [.int a1]) (rest := []) ⟨hx, hb, hml, hown, hts⟩ (k1_candidate l D t ad 30 (Or.inl rfl) a1 M _ hc) (cwV 1 hts (sr_goodV qmX4_192 qiX1_candidate qsX1_candidate qnX1 qcX1_candidate) rfl rfl rfl qdX1_candidate ⟨Nat.le_of_ble_eq_true rfl, Nat.le_of_ble_eq_true rfl⟩) hw hA (xo_30 t ad) rfl hl.1 rfl (Nat.le_of_ble_eq_true rfl) dX4_front_19 (fun H locs hw => ?_)
      refine lv_goto (tgt := 26) hx hb dX4_front_22 (by decide) ?_
      obtain rfl := Option.some.inj h
      exact ret _ _ _ _ hw rfl dX4_front_26

noncomputable def f4_lake (a1 : Int32) (a2 : Int32) (M : sr_M) : Option (Int32) :=
sr_bnd (M.1 30 1) fun v1 =>
if v1 = 0 then
(some (-6))
else
(if a1 < 0 then
(some (-2))
else
(sr_bnd (M.1 30 9) fun v2 =>
if a1 < v2 then
((if a2 = 0 then
(sr_ld a1 120 (M.1 37) fun v6 =>
some v6)
else
(if a2 = 1 then
(sr_ld a1 120 (M.1 38) fun v5 =>
some v5)
else
(if a2 = 2 then
(sr_ld a1 120 (M.1 39) fun v4 =>
some v4)
else
(if a2 = 3 then
(sr_ld a1 120 (M.1 40) fun v3 =>
some v3)
else
(some (-2)))))))
else
(some (-2))))
set_option maxHeartbeats 4000000 in
set_option maxRecDepth 100000 in
theorem k4_lake (l : Launch) (D : va_G) (t : Nat → ClassId) (ad : Nat → Nat) (a1 : Int32) (a2 : Int32) (M : sr_M) (r : Int32) (h : f4_lake a1 a2 M = some r) : sr_Mi l D vwCl (xty t) ad (xcf t ad) 62 yX4_lake (.code yX4_lake cX4_lake 3 (some .int) :: sr_tbl) ({ frames := 0, cells := 0, slots := 0, locals := 0 }) [.ref (ad 0), .int a1, .int a2] M r M := by
  refine sr_open_i (cc := cX4_lake) (maxL := 3) (by decide) rfl (Nat.le_of_ble_eq_true rfl) ?_
  intro p e s m args below meth c A Q ls hx hb hml hts0 hown hA hw hl ret
  have hts : ∀ w ∈ sr_tbl, w.before args s = true := fun w hw => hts0 w (List.mem_cons_of_mem _ hw)
  have hown : s.vm.findClass RX4 = some m.cls := hown
  have hl : lv_has ls 3 [(0, .ref (ad 0)), (1, .int a1), (2, .int a2)] := hl
  have hw : xH D t ad A s M s.heap [] := hw
  unfold f4_lake at h
  refine lv_aload_n hx hb dX4_lake_0 rfl (lv_at hl 0 rfl) ?_
  refine sr_getr hx hb hts qzX4 hown hw (xf_0_2 t ad) (hts _ qfX4_27) dX4_lake_1 ?_
  refine sr_geti hx hb hts qzX1 hown hw (xf_30_1 t ad) (hts _ qfX4_50) h dX4_lake_4 (fun v1 h => ?_)
  refine lv_if_ne (tgt := 13) hx hb dX4_lake_7 (by decide) (fun hc => ?_) (fun hc => ?_)
  · have h := sr_ifn h hc
    refine lv_iload_n hx hb dX4_lake_13 rfl (lv_at hl 1 rfl) ?_
    refine lv_if_lt (tgt := 28) hx hb dX4_lake_14 (by decide) (fun hc => ?_) (fun hc => ?_)
    · have h := sr_ifp h hc
      refine lv_bipush (v := (-2)) hx hb dX4_lake_28 (by decide) ?_
      obtain rfl := Option.some.inj h
      exact ret _ _ _ _ hw rfl dX4_lake_30
    · have h := sr_ifn h hc
      refine lv_iload_n hx hb dX4_lake_17 rfl (lv_at hl 1 rfl) ?_
      refine lv_aload_n hx hb dX4_lake_18 rfl (lv_at hl 0 rfl) ?_
      refine sr_getr hx hb hts qzX4 hown hw (xf_0_2 t ad) (hts _ qfX4_27) dX4_lake_19 ?_
      refine sr_geti hx hb hts qzX1 hown hw (xf_30_9 t ad) (hts _ qfX4_195) h dX4_lake_22 (fun v2 h => ?_)
      refine lv_icmp_lt (tgt := 31) hx hb dX4_lake_25 (by decide) (fun hc => ?_) (fun hc => ?_)
      · have h := sr_ifp h hc
        refine lv_iload_n hx hb dX4_lake_31 rfl (lv_at hl 2 rfl) ?_
        rcases Classical.em (a2 = 0) with hc0 | hc0
        · have h := sr_ifp h hc0
          have ex := hc0
          refine lv_tableIn (off := 32) (tgt := 64) hx hb dX4_lake_32 (by rw [ex]; decide) (by rw [ex]; decide) (by rw [ex]; decide) (by decide) ?_
          refine lv_aload_n hx hb dX4_lake_64 rfl (lv_at hl 0 rfl) ?_
          refine sr_getr hx hb hts qzX4 hown hw (xf_0_2 t ad) (hts _ qfX4_27) dX4_lake_65 ?_
          refine sr_getr hx hb hts qzX1 hown hw (xf_30_10 t ad) (hts _ qfX4_198) dX4_lake_68 ?_
          refine lv_iload_n hx hb dX4_lake_71 rfl (lv_at hl 1 rfl) ?_
          refine sr_iald hx hb hw (xa_37 t ad) h dX4_lake_72 (fun v6 h => ?_)
          obtain rfl := Option.some.inj h
          exact ret _ _ _ _ hw rfl dX4_lake_73
        · have h := sr_ifn h hc0
          rcases Classical.em (a2 = 1) with hc1 | hc1
          · have h := sr_ifp h hc1
            have ex := hc1
            refine lv_tableIn (off := 42) (tgt := 74) hx hb dX4_lake_32 (by rw [ex]; decide) (by rw [ex]; decide) (by rw [ex]; decide) (by decide) ?_
            refine lv_aload_n hx hb dX4_lake_74 rfl (lv_at hl 0 rfl) ?_
            refine sr_getr hx hb hts qzX4 hown hw (xf_0_2 t ad) (hts _ qfX4_27) dX4_lake_75 ?_
            refine sr_getr hx hb hts qzX1 hown hw (xf_30_11 t ad) (hts _ qfX4_201) dX4_lake_78 ?_
            refine lv_iload_n hx hb dX4_lake_81 rfl (lv_at hl 1 rfl) ?_
            refine sr_iald hx hb hw (xa_38 t ad) h dX4_lake_82 (fun v5 h => ?_)
            obtain rfl := Option.some.inj h
            exact ret _ _ _ _ hw rfl dX4_lake_83
          · have h := sr_ifn h hc1
            rcases Classical.em (a2 = 2) with hc2 | hc2
            · have h := sr_ifp h hc2
              have ex := hc2
              refine lv_tableIn (off := 52) (tgt := 84) hx hb dX4_lake_32 (by rw [ex]; decide) (by rw [ex]; decide) (by rw [ex]; decide) (by decide) ?_
              refine lv_aload_n hx hb dX4_lake_84 rfl (lv_at hl 0 rfl) ?_
              refine sr_getr hx hb hts qzX4 hown hw (xf_0_2 t ad) (hts _ qfX4_27) dX4_lake_85 ?_
              refine sr_getr hx hb hts qzX1 hown hw (xf_30_12 t ad) (hts _ qfX4_204) dX4_lake_88 ?_
              refine lv_iload_n hx hb dX4_lake_91 rfl (lv_at hl 1 rfl) ?_
              refine sr_iald hx hb hw (xa_39 t ad) h dX4_lake_92 (fun v4 h => ?_)
              obtain rfl := Option.some.inj h
              exact ret _ _ _ _ hw rfl dX4_lake_93
            · have h := sr_ifn h hc2
              rcases Classical.em (a2 = 3) with hc3 | hc3
              · have h := sr_ifp h hc3
                have ex := hc3
                refine lv_tableIn (off := 62) (tgt := 94) hx hb dX4_lake_32 (by rw [ex]; decide) (by rw [ex]; decide) (by rw [ex]; decide) (by decide) ?_
                refine lv_aload_n hx hb dX4_lake_94 rfl (lv_at hl 0 rfl) ?_
                refine sr_getr hx hb hts qzX4 hown hw (xf_0_2 t ad) (hts _ qfX4_27) dX4_lake_95 ?_
                refine sr_getr hx hb hts qzX1 hown hw (xf_30_13 t ad) (hts _ qfX4_207) dX4_lake_98 ?_
                refine lv_iload_n hx hb dX4_lake_101 rfl (lv_at hl 1 rfl) ?_
                refine sr_iald hx hb hw (xa_40 t ad) h dX4_lake_102 (fun v3 h => ?_)
                obtain rfl := Option.some.inj h
                exact ret _ _ _ _ hw rfl dX4_lake_103
              · have h := sr_ifn h hc3
                refine lv_tableOut (tgt := 104) hx hb dX4_lake_32 (sr_tout0_3 hc0 hc1 hc2 hc3) (by decide) ?_
                refine lv_bipush (v := (-2)) hx hb dX4_lake_104 (by decide) ?_
                obtain rfl := Option.some.inj h
                exact ret _ _ _ _ hw rfl dX4_lake_106
      · have h := sr_ifn h hc
        refine lv_bipush (v := (-2)) hx hb dX4_lake_28 (by decide) ?_
        obtain rfl := Option.some.inj h
        exact ret _ _ _ _ hw rfl dX4_lake_30
  · have h := sr_ifp h hc
    refine lv_bipush (v := (-6)) hx hb dX4_lake_10 (by decide) ?_
    obtain rfl := Option.some.inj h
    exact ret _ _ _ _ hw rfl dX4_lake_12

noncomputable def f4_through (M : sr_M) : Option (Int32) :=
sr_bnd (M.1 30 1) fun v1 =>
if v1 = 0 then
(some (-6))
else
((f1_firstOutletStep 30 M).bind fun v2 =>
some v2)
set_option maxHeartbeats 4000000 in
set_option maxRecDepth 100000 in
theorem k4_through (l : Launch) (D : va_G) (t : Nat → ClassId) (ad : Nat → Nat) (M : sr_M) (r : Int32) (h : f4_through M = some r) : sr_Mi l D vwCl (xty t) ad (xcf t ad) 62 yX4_through (.code yX4_through cX4_through 1 (some .int) :: sr_tbl) ({ frames := 1, cells := 0, slots := 0, locals := 23 }) [.ref (ad 0)] M r M := by
  refine sr_open_i (cc := cX4_through) (maxL := 1) (by decide) rfl (Nat.le_of_ble_eq_true rfl) ?_
  intro p e s m args below meth c A Q ls hx hb hml hts0 hown hA hw hl ret
  have hts : ∀ w ∈ sr_tbl, w.before args s = true := fun w hw => hts0 w (List.mem_cons_of_mem _ hw)
  have hown : s.vm.findClass RX4 = some m.cls := hown
  have hl : lv_has ls 1 [(0, .ref (ad 0))] := hl
  have hw : xH D t ad A s M s.heap [] := hw
  unfold f4_through at h
  refine lv_aload_n hx hb dX4_through_0 rfl (lv_at hl 0 rfl) ?_
  refine sr_getr hx hb hts qzX4 hown hw (xf_0_2 t ad) (hts _ qfX4_27) dX4_through_1 ?_
  refine sr_geti hx hb hts qzX1 hown hw (xf_30_1 t ad) (hts _ qfX4_50) h dX4_through_4 (fun v1 h => ?_)
  refine lv_if_eq (tgt := 20) hx hb dX4_through_7 (by decide) (fun hc => ?_) (fun hc => ?_)
  · have h := sr_ifp h hc
    refine lv_bipush (v := (-6)) hx hb dX4_through_20 (by decide) ?_
    obtain rfl := Option.some.inj h
    exact ret _ _ _ _ hw rfl dX4_through_22
  · have h := sr_ifn h hc
    refine lv_aload_n hx hb dX4_through_10 rfl (lv_at hl 0 rfl) ?_
    refine sr_getr hx hb hts qzX4 hown hw (xf_0_2 t ad) (hts _ qfX4_27) dX4_through_11 ?_
    obtain ⟨v2, hc, h⟩ := sr_bind1 h
    refine sr_cVi (As := []) (rest := []) ⟨hx, hb, hml, hown, hts⟩ (k1_firstOutletStep l D t ad 30 (Or.inl rfl) M _ hc) (cwV 0 hts (sr_goodV qmX4_210 qiX1_firstOutletStep qsX1_firstOutletStep qnX1 qcX1_firstOutletStep) rfl rfl rfl qdX1_firstOutletStep ⟨Nat.le_of_ble_eq_true rfl, Nat.le_of_ble_eq_true rfl⟩) hw hA (xo_30 t ad) rfl hl.1 rfl (Nat.le_of_ble_eq_true rfl) dX4_through_14 (fun H locs hw => ?_)
    refine lv_goto (tgt := 22) hx hb dX4_through_17 (by decide) ?_
    obtain rfl := Option.some.inj h
    exact ret _ _ _ _ hw rfl dX4_through_22

noncomputable def f4_worst (a1 : Int32) (M : sr_M) : Option (Int32 × sr_M) :=
(f2_hasPore a1 M).bind fun v1 =>
if v1 = 0 then
(some ((-2), M))
else
((f3_flood M).bind fun M2 =>
sr_ld a1 120 (M2.1 57) fun v3 =>
if 0 ≤ v3 then
(sr_ld a1 120 (M2.1 58) fun v4 =>
some (v4, M2))
else
(some ((-8), M2)))
set_option maxHeartbeats 4000000 in
set_option maxRecDepth 100000 in
theorem k4_worst (l : Launch) (D : va_G) (t : Nat → ClassId) (ad : Nat → Nat) (a1 : Int32) (M : sr_M) (r : Int32) (M' : sr_M) (h : f4_worst a1 M = some (r, M')) : sr_Mi l D vwCl (xty t) ad (xcf t ad) 62 yX4_worst (.code yX4_worst cX4_worst 2 (some .int) :: sr_tbl) ({ frames := 4, cells := 0, slots := 0, locals := 90 }) [.ref (ad 0), .int a1] M r M' := by
  refine sr_open_i (cc := cX4_worst) (maxL := 2) (by decide) rfl (Nat.le_of_ble_eq_true rfl) ?_
  intro p e s m args below meth c A Q ls hx hb hml hts0 hown hA hw hl ret
  have hts : ∀ w ∈ sr_tbl, w.before args s = true := fun w hw => hts0 w (List.mem_cons_of_mem _ hw)
  have hown : s.vm.findClass RX4 = some m.cls := hown
  have hl : lv_has ls 2 [(0, .ref (ad 0)), (1, .int a1)] := hl
  have hw : xH D t ad A s M s.heap [] := hw
  unfold f4_worst at h
  refine lv_aload_n hx hb dX4_worst_0 rfl (lv_at hl 0 rfl) ?_
  refine sr_getr hx hb hts qzX4 hown hw (xf_0_0 t ad) (hts _ qfX4_10) dX4_worst_1 ?_
  refine lv_iload_n hx hb dX4_worst_4 rfl (lv_at hl 1 rfl) ?_
  obtain ⟨v1, hc, h⟩ := sr_bind1 h
  refine sr_cVi (As := [.int a1]) (rest := []) ⟨hx, hb, hml, hown, hts⟩ (k2_hasPore l D t ad a1 M _ hc) (cwV 1 hts (sr_goodV qmX4_58 qiX2_hasPore qsX2_hasPore qnX2 qcX2_hasPore) rfl rfl rfl qdX2_hasPore ⟨Nat.le_of_ble_eq_true rfl, Nat.le_of_ble_eq_true rfl⟩) hw hA (xo_1 t ad) rfl hl.1 rfl (Nat.le_of_ble_eq_true rfl) dX4_worst_5 (fun H locs hw => ?_)
  refine lv_if_ne (tgt := 14) hx hb dX4_worst_8 (by decide) (fun hc => ?_) (fun hc => ?_)
  · have h := sr_ifn h hc
    refine lv_aload_n hx hb dX4_worst_14 rfl (lv_at hl 0 rfl) ?_
    refine sr_getr hx hb hts qzX4 hown hw (xf_0_4 t ad) (hts _ qfX4_37) dX4_worst_15 ?_
    obtain ⟨M2, hc, h⟩ := sr_bind1 h
    refine sr_cVv (As := []) (rest := []) ⟨hx, hb, hml, hown, hts⟩ (k3_flood l D t ad  M _ hc) (cwV 0 hts (sr_goodV qmX4_213 qiX3_flood qsX3_flood qnX3 qcX3_flood) rfl rfl rfl qdX3_flood ⟨Nat.le_of_ble_eq_true rfl, Nat.le_of_ble_eq_true rfl⟩) hw hA (xo_56 t ad) rfl hl.1 rfl (Nat.le_of_ble_eq_true rfl) dX4_worst_18 (fun H locs hw => ?_)
    refine lv_aload_n hx hb dX4_worst_21 rfl (lv_at hl 0 rfl) ?_
    refine sr_getr hx hb hts qzX4 hown hw (xf_0_4 t ad) (hts _ qfX4_37) dX4_worst_22 ?_
    refine sr_getr hx hb hts qzX3 hown hw (xf_56_1 t ad) (hts _ qfX4_216) dX4_worst_25 ?_
    refine lv_iload_n hx hb dX4_worst_28 rfl (lv_at hl 1 rfl) ?_
    refine sr_iald hx hb hw (xa_57 t ad) h dX4_worst_29 (fun v3 h => ?_)
    refine lv_if_ge (tgt := 38) hx hb dX4_worst_30 (by decide) (fun hc => ?_) (fun hc => ?_)
    · have h := sr_ifp h hc
      refine lv_aload_n hx hb dX4_worst_38 rfl (lv_at hl 0 rfl) ?_
      refine sr_getr hx hb hts qzX4 hown hw (xf_0_4 t ad) (hts _ qfX4_37) dX4_worst_39 ?_
      refine sr_getr hx hb hts qzX3 hown hw (xf_56_2 t ad) (hts _ qfX4_219) dX4_worst_42 ?_
      refine lv_iload_n hx hb dX4_worst_45 rfl (lv_at hl 1 rfl) ?_
      refine sr_iald hx hb hw (xa_58 t ad) h dX4_worst_46 (fun v4 h => ?_)
      obtain ⟨rfl, rfl⟩ := Prod.mk.inj (Option.some.inj h)
      exact ret _ _ _ _ hw rfl dX4_worst_47
    · have h := sr_ifn h hc
      refine lv_bipush (v := (-8)) hx hb dX4_worst_33 (by decide) ?_
      refine lv_goto (tgt := 47) hx hb dX4_worst_35 (by decide) ?_
      obtain ⟨rfl, rfl⟩ := Prod.mk.inj (Option.some.inj h)
      exact ret _ _ _ _ hw rfl dX4_worst_47
  · have h := sr_ifp h hc
    refine lv_bipush (v := (-2)) hx hb dX4_worst_11 (by decide) ?_
    obtain ⟨rfl, rfl⟩ := Prod.mk.inj (Option.some.inj h)
    exact ret _ _ _ _ hw rfl dX4_worst_13

noncomputable def f4_way (a1 : Int32) (a2 : Int32) (M : sr_M) : Option (Int32 × sr_M) :=
(f2_hasPore a1 M).bind fun v1 =>
if v1 = 0 then
(some ((-1), M))
else
((f3_flood M).bind fun M2 =>
if a2 < 0 then
(some ((-1), M2))
else
(sr_ld a1 120 (M2.1 57) fun v3 =>
if v3 ≤ a2 then
(some ((-1), M2))
else
((f3_throatOnWay a1 a2 M2).bind fun v4 =>
some (v4, M2))))
set_option maxHeartbeats 4000000 in
set_option maxRecDepth 100000 in
theorem k4_way (l : Launch) (D : va_G) (t : Nat → ClassId) (ad : Nat → Nat) (a1 : Int32) (a2 : Int32) (M : sr_M) (r : Int32) (M' : sr_M) (h : f4_way a1 a2 M = some (r, M')) : sr_Mi l D vwCl (xty t) ad (xcf t ad) 62 yX4_way (.code yX4_way cX4_way 3 (some .int) :: sr_tbl) ({ frames := 4, cells := 0, slots := 0, locals := 90 }) [.ref (ad 0), .int a1, .int a2] M r M' := by
  refine sr_open_i (cc := cX4_way) (maxL := 3) (by decide) rfl (Nat.le_of_ble_eq_true rfl) ?_
  intro p e s m args below meth c A Q ls hx hb hml hts0 hown hA hw hl ret
  have hts : ∀ w ∈ sr_tbl, w.before args s = true := fun w hw => hts0 w (List.mem_cons_of_mem _ hw)
  have hown : s.vm.findClass RX4 = some m.cls := hown
  have hl : lv_has ls 3 [(0, .ref (ad 0)), (1, .int a1), (2, .int a2)] := hl
  have hw : xH D t ad A s M s.heap [] := hw
  unfold f4_way at h
  refine lv_aload_n hx hb dX4_way_0 rfl (lv_at hl 0 rfl) ?_
  refine sr_getr hx hb hts qzX4 hown hw (xf_0_0 t ad) (hts _ qfX4_10) dX4_way_1 ?_
  refine lv_iload_n hx hb dX4_way_4 rfl (lv_at hl 1 rfl) ?_
  obtain ⟨v1, hc, h⟩ := sr_bind1 h
  refine sr_cVi (As := [.int a1]) (rest := []) ⟨hx, hb, hml, hown, hts⟩ (k2_hasPore l D t ad a1 M _ hc) (cwV 1 hts (sr_goodV qmX4_58 qiX2_hasPore qsX2_hasPore qnX2 qcX2_hasPore) rfl rfl rfl qdX2_hasPore ⟨Nat.le_of_ble_eq_true rfl, Nat.le_of_ble_eq_true rfl⟩) hw hA (xo_1 t ad) rfl hl.1 rfl (Nat.le_of_ble_eq_true rfl) dX4_way_5 (fun H locs hw => ?_)
  refine lv_if_ne (tgt := 13) hx hb dX4_way_8 (by decide) (fun hc => ?_) (fun hc => ?_)
  · have h := sr_ifn h hc
    refine lv_aload_n hx hb dX4_way_13 rfl (lv_at hl 0 rfl) ?_
    refine sr_getr hx hb hts qzX4 hown hw (xf_0_4 t ad) (hts _ qfX4_37) dX4_way_14 ?_
    obtain ⟨M2, hc, h⟩ := sr_bind1 h
    refine sr_cVv (As := []) (rest := []) ⟨hx, hb, hml, hown, hts⟩ (k3_flood l D t ad  M _ hc) (cwV 0 hts (sr_goodV qmX4_213 qiX3_flood qsX3_flood qnX3 qcX3_flood) rfl rfl rfl qdX3_flood ⟨Nat.le_of_ble_eq_true rfl, Nat.le_of_ble_eq_true rfl⟩) hw hA (xo_56 t ad) rfl hl.1 rfl (Nat.le_of_ble_eq_true rfl) dX4_way_17 (fun H locs hw => ?_)
    refine lv_iload_n hx hb dX4_way_20 rfl (lv_at hl 2 rfl) ?_
    refine lv_if_lt (tgt := 49) hx hb dX4_way_21 (by decide) (fun hc => ?_) (fun hc => ?_)
    · have h := sr_ifp h hc
      refine lv_iconst (v := (-1)) hx hb dX4_way_49 (by decide) ?_
      obtain ⟨rfl, rfl⟩ := Prod.mk.inj (Option.some.inj h)
      exact ret _ _ _ _ hw rfl dX4_way_50
    · have h := sr_ifn h hc
      refine lv_iload_n hx hb dX4_way_24 rfl (lv_at hl 2 rfl) ?_
      refine lv_aload_n hx hb dX4_way_25 rfl (lv_at hl 0 rfl) ?_
      refine sr_getr hx hb hts qzX4 hown hw (xf_0_4 t ad) (hts _ qfX4_37) dX4_way_26 ?_
      refine sr_getr hx hb hts qzX3 hown hw (xf_56_1 t ad) (hts _ qfX4_216) dX4_way_29 ?_
      refine lv_iload_n hx hb dX4_way_32 rfl (lv_at hl 1 rfl) ?_
      refine sr_iald hx hb hw (xa_57 t ad) h dX4_way_33 (fun v3 h => ?_)
      refine lv_icmp_ge (tgt := 49) hx hb dX4_way_34 (by decide) (fun hc => ?_) (fun hc => ?_)
      · have h := sr_ifp h hc
        refine lv_iconst (v := (-1)) hx hb dX4_way_49 (by decide) ?_
        obtain ⟨rfl, rfl⟩ := Prod.mk.inj (Option.some.inj h)
        exact ret _ _ _ _ hw rfl dX4_way_50
      · have h := sr_ifn h hc
        refine lv_aload_n hx hb dX4_way_37 rfl (lv_at hl 0 rfl) ?_
        refine sr_getr hx hb hts qzX4 hown hw (xf_0_4 t ad) (hts _ qfX4_37) dX4_way_38 ?_
        refine lv_iload_n hx hb dX4_way_41 rfl (lv_at hl 1 rfl) ?_
        refine lv_iload_n hx hb dX4_way_42 rfl (lv_at hl 2 rfl) ?_
        obtain ⟨v4, hc, h⟩ := sr_bind1 h
        refine sr_cVi (As := [.int a1, .int a2]) (rest := []) ⟨hx, hb, hml, hown, hts⟩ (k3_throatOnWay l D t ad a1 a2 M2 _ hc) (cwV 2 hts (sr_goodV qmX4_222 qiX3_throatOnWay qsX3_throatOnWay qnX3 qcX3_throatOnWay) rfl rfl rfl qdX3_throatOnWay ⟨Nat.le_of_ble_eq_true rfl, Nat.le_of_ble_eq_true rfl⟩) hw hA (xo_56 t ad) rfl hl.1 rfl (Nat.le_of_ble_eq_true rfl) dX4_way_43 (fun H locs hw => ?_)
        refine lv_goto (tgt := 50) hx hb dX4_way_46 (by decide) ?_
        obtain ⟨rfl, rfl⟩ := Prod.mk.inj (Option.some.inj h)
        exact ret _ _ _ _ hw rfl dX4_way_50
  · have h := sr_ifp h hc
    refine lv_iconst (v := (-1)) hx hb dX4_way_11 (by decide) ?_
    obtain ⟨rfl, rfl⟩ := Prod.mk.inj (Option.some.inj h)
    exact ret _ _ _ _ hw rfl dX4_way_12

noncomputable def f4_join (a1 : Int32) (a2 : Int32) (M : sr_M) : Option (Int32 × sr_M) :=
(f2_hasPore a1 M).bind fun v1 =>
if v1 = 0 then
(some ((-2), M))
else
((f2_hasPore a2 M).bind fun v2 =>
if v2 = 0 then
(some ((-2), M))
else
(if a1 = a2 then
(some ((-1), M))
else
(sr_bd2 (f3_rankJoining a1 a2 M) fun v3 M4 =>
some (v3, M4))))
set_option maxHeartbeats 4000000 in
set_option maxRecDepth 100000 in
theorem k4_join (l : Launch) (D : va_G) (t : Nat → ClassId) (ad : Nat → Nat) (a1 : Int32) (a2 : Int32) (M : sr_M) (r : Int32) (M' : sr_M) (h : f4_join a1 a2 M = some (r, M')) : sr_Mi l D vwCl (xty t) ad (xcf t ad) 62 yX4_join (.code yX4_join cX4_join 3 (some .int) :: sr_tbl) ({ frames := 2, cells := 0, slots := 0, locals := 47 }) [.ref (ad 0), .int a1, .int a2] M r M' := by
  refine sr_open_i (cc := cX4_join) (maxL := 3) (by decide) rfl (Nat.le_of_ble_eq_true rfl) ?_
  intro p e s m args below meth c A Q ls hx hb hml hts0 hown hA hw hl ret
  have hts : ∀ w ∈ sr_tbl, w.before args s = true := fun w hw => hts0 w (List.mem_cons_of_mem _ hw)
  have hown : s.vm.findClass RX4 = some m.cls := hown
  have hl : lv_has ls 3 [(0, .ref (ad 0)), (1, .int a1), (2, .int a2)] := hl
  have hw : xH D t ad A s M s.heap [] := hw
  unfold f4_join at h
  refine lv_aload_n hx hb dX4_join_0 rfl (lv_at hl 0 rfl) ?_
  refine sr_getr hx hb hts qzX4 hown hw (xf_0_0 t ad) (hts _ qfX4_10) dX4_join_1 ?_
  refine lv_iload_n hx hb dX4_join_4 rfl (lv_at hl 1 rfl) ?_
  obtain ⟨v1, hc, h⟩ := sr_bind1 h
  refine sr_cVi (As := [.int a1]) (rest := []) ⟨hx, hb, hml, hown, hts⟩ (k2_hasPore l D t ad a1 M _ hc) (cwV 1 hts (sr_goodV qmX4_58 qiX2_hasPore qsX2_hasPore qnX2 qcX2_hasPore) rfl rfl rfl qdX2_hasPore ⟨Nat.le_of_ble_eq_true rfl, Nat.le_of_ble_eq_true rfl⟩) hw hA (xo_1 t ad) rfl hl.1 rfl (Nat.le_of_ble_eq_true rfl) dX4_join_5 (fun H locs hw => ?_)
  refine lv_if_eq (tgt := 22) hx hb dX4_join_8 (by decide) (fun hc => ?_) (fun hc => ?_)
  · have h := sr_ifp h hc
    refine lv_bipush (v := (-2)) hx hb dX4_join_22 (by decide) ?_
    obtain ⟨rfl, rfl⟩ := Prod.mk.inj (Option.some.inj h)
    exact ret _ _ _ _ hw rfl dX4_join_24
  · have h := sr_ifn h hc
    refine lv_aload_n hx hb dX4_join_11 rfl (lv_at hl 0 rfl) ?_
    refine sr_getr hx hb hts qzX4 hown hw (xf_0_0 t ad) (hts _ qfX4_10) dX4_join_12 ?_
    refine lv_iload_n hx hb dX4_join_15 rfl (lv_at hl 2 rfl) ?_
    obtain ⟨v2, hc, h⟩ := sr_bind1 h
    refine sr_cVi (As := [.int a2]) (rest := []) ⟨hx, hb, hml, hown, hts⟩ (k2_hasPore l D t ad a2 M _ hc) (cwV 1 hts (sr_goodV qmX4_58 qiX2_hasPore qsX2_hasPore qnX2 qcX2_hasPore) rfl rfl rfl qdX2_hasPore ⟨Nat.le_of_ble_eq_true rfl, Nat.le_of_ble_eq_true rfl⟩) hw hA (xo_1 t ad) rfl hl.1 rfl (Nat.le_of_ble_eq_true rfl) dX4_join_16 (fun H locs hw => ?_)
    refine lv_if_ne (tgt := 25) hx hb dX4_join_19 (by decide) (fun hc => ?_) (fun hc => ?_)
    · have h := sr_ifn h hc
      refine lv_iload_n hx hb dX4_join_25 rfl (lv_at hl 1 rfl) ?_
      refine lv_iload_n hx hb dX4_join_26 rfl (lv_at hl 2 rfl) ?_
      refine lv_icmp_ne (tgt := 34) hx hb dX4_join_27 (by decide) (fun hc => ?_) (fun hc => ?_)
      · have h := sr_ifn h hc
        refine lv_aload_n hx hb dX4_join_34 rfl (lv_at hl 0 rfl) ?_
        refine sr_getr hx hb hts qzX4 hown hw (xf_0_4 t ad) (hts _ qfX4_37) dX4_join_35 ?_
        refine lv_iload_n hx hb dX4_join_38 rfl (lv_at hl 1 rfl) ?_
        refine lv_iload_n hx hb dX4_join_39 rfl (lv_at hl 2 rfl) ?_
        obtain ⟨v3, M4, hc, h⟩ := sr_bind2 h
        refine sr_cVi (As := [.int a1, .int a2]) (rest := []) ⟨hx, hb, hml, hown, hts⟩ (k3_rankJoining l D t ad a1 a2 M _ _ hc) (cwV 2 hts (sr_goodV qmX4_225 qiX3_rankJoining qsX3_rankJoining qnX3 qcX3_rankJoining) rfl rfl rfl qdX3_rankJoining ⟨Nat.le_of_ble_eq_true rfl, Nat.le_of_ble_eq_true rfl⟩) hw hA (xo_56 t ad) rfl hl.1 rfl (Nat.le_of_ble_eq_true rfl) dX4_join_40 (fun H locs hw => ?_)
        obtain ⟨rfl, rfl⟩ := Prod.mk.inj (Option.some.inj h)
        exact ret _ _ _ _ hw rfl dX4_join_43
      · have h := sr_ifp h hc
        refine lv_iconst (v := (-1)) hx hb dX4_join_30 (by decide) ?_
        refine lv_goto (tgt := 43) hx hb dX4_join_31 (by decide) ?_
        obtain ⟨rfl, rfl⟩ := Prod.mk.inj (Option.some.inj h)
        exact ret _ _ _ _ hw rfl dX4_join_43
    · have h := sr_ifp h hc
      refine lv_bipush (v := (-2)) hx hb dX4_join_22 (by decide) ?_
      obtain ⟨rfl, rfl⟩ := Prod.mk.inj (Option.some.inj h)
      exact ret _ _ _ _ hw rfl dX4_join_24

noncomputable def f4_tree (a1 : Int32) (M : sr_M) : Option (Int32 × sr_M) :=
if a1 < 0 then
(some ((-1), M))
else
(sr_bd2 (f3_branch a1 M) fun v1 M2 =>
some (v1, M2))
set_option maxHeartbeats 4000000 in
set_option maxRecDepth 100000 in
theorem k4_tree (l : Launch) (D : va_G) (t : Nat → ClassId) (ad : Nat → Nat) (a1 : Int32) (M : sr_M) (r : Int32) (M' : sr_M) (h : f4_tree a1 M = some (r, M')) : sr_Mi l D vwCl (xty t) ad (xcf t ad) 62 yX4_tree (.code yX4_tree cX4_tree 2 (some .int) :: sr_tbl) ({ frames := 2, cells := 0, slots := 0, locals := 47 }) [.ref (ad 0), .int a1] M r M' := by
  refine sr_open_i (cc := cX4_tree) (maxL := 2) (by decide) rfl (Nat.le_of_ble_eq_true rfl) ?_
  intro p e s m args below meth c A Q ls hx hb hml hts0 hown hA hw hl ret
  have hts : ∀ w ∈ sr_tbl, w.before args s = true := fun w hw => hts0 w (List.mem_cons_of_mem _ hw)
  have hown : s.vm.findClass RX4 = some m.cls := hown
  have hl : lv_has ls 2 [(0, .ref (ad 0)), (1, .int a1)] := hl
  have hw : xH D t ad A s M s.heap [] := hw
  unfold f4_tree at h
  refine lv_iload_n hx hb dX4_tree_0 rfl (lv_at hl 1 rfl) ?_
  refine lv_if_lt (tgt := 15) hx hb dX4_tree_1 (by decide) (fun hc => ?_) (fun hc => ?_)
  · have h := sr_ifp h hc
    refine lv_iconst (v := (-1)) hx hb dX4_tree_15 (by decide) ?_
    obtain ⟨rfl, rfl⟩ := Prod.mk.inj (Option.some.inj h)
    exact ret _ _ _ _ hw rfl dX4_tree_16
  · have h := sr_ifn h hc
    refine lv_aload_n hx hb dX4_tree_4 rfl (lv_at hl 0 rfl) ?_
    refine sr_getr hx hb hts qzX4 hown hw (xf_0_4 t ad) (hts _ qfX4_37) dX4_tree_5 ?_
    refine lv_iload_n hx hb dX4_tree_8 rfl (lv_at hl 1 rfl) ?_
    obtain ⟨v1, M2, hc, h⟩ := sr_bind2 h
    refine sr_cVi (As := [.int a1]) (rest := []) ⟨hx, hb, hml, hown, hts⟩ (k3_branch l D t ad a1 M _ _ hc) (cwV 1 hts (sr_goodV qmX4_228 qiX3_branch qsX3_branch qnX3 qcX3_branch) rfl rfl rfl qdX3_branch ⟨Nat.le_of_ble_eq_true rfl, Nat.le_of_ble_eq_true rfl⟩) hw hA (xo_56 t ad) rfl hl.1 rfl (Nat.le_of_ble_eq_true rfl) dX4_tree_9 (fun H locs hw => ?_)
    refine lv_goto (tgt := 16) hx hb dX4_tree_12 (by decide) ?_
    obtain ⟨rfl, rfl⟩ := Prod.mk.inj (Option.some.inj h)
    exact ret _ _ _ _ hw rfl dX4_tree_16

noncomputable def f4_claim (a1 : Int32) (M : sr_M) : Option (Int32 × sr_M) :=
(f2_hasThroat a1 M).bind fun v1 =>
if v1 = 0 then
(some ((-1), M))
else
(sr_bnd (M.1 0 6) fun v2 =>
if v2 < 200 then
(sr_bnd (M.1 0 6) fun v3 =>
sr_st v3 200 M 61 a1 fun M4 =>
sr_bnd (M4.1 0 6) fun v5 =>
sr_put M4 0 6 (v5 + 1) fun M6 =>
sr_bnd (M6.1 0 6) fun v7 =>
some (v7, M6))
else
(some ((-2), M)))
set_option maxHeartbeats 4000000 in
set_option maxRecDepth 100000 in
theorem k4_claim (l : Launch) (D : va_G) (t : Nat → ClassId) (ad : Nat → Nat) (a1 : Int32) (M : sr_M) (r : Int32) (M' : sr_M) (h : f4_claim a1 M = some (r, M')) : sr_Mi l D vwCl (xty t) ad (xcf t ad) 62 yX4_claim (.code yX4_claim cX4_claim 2 (some .int) :: sr_tbl) ({ frames := 1, cells := 0, slots := 0, locals := 21 }) [.ref (ad 0), .int a1] M r M' := by
  refine sr_open_i (cc := cX4_claim) (maxL := 2) (by decide) rfl (Nat.le_of_ble_eq_true rfl) ?_
  intro p e s m args below meth c A Q ls hx hb hml hts0 hown hA hw hl ret
  have hts : ∀ w ∈ sr_tbl, w.before args s = true := fun w hw => hts0 w (List.mem_cons_of_mem _ hw)
  have hown : s.vm.findClass RX4 = some m.cls := hown
  have hl : lv_has ls 2 [(0, .ref (ad 0)), (1, .int a1)] := hl
  have hw : xH D t ad A s M s.heap [] := hw
  unfold f4_claim at h
  refine lv_aload_n hx hb dX4_claim_0 rfl (lv_at hl 0 rfl) ?_
  refine sr_getr hx hb hts qzX4 hown hw (xf_0_0 t ad) (hts _ qfX4_10) dX4_claim_1 ?_
  refine lv_iload_n hx hb dX4_claim_4 rfl (lv_at hl 1 rfl) ?_
  obtain ⟨v1, hc, h⟩ := sr_bind1 h
  refine sr_cVi (As := [.int a1]) (rest := []) ⟨hx, hb, hml, hown, hts⟩ (k2_hasThroat l D t ad a1 M _ hc) (cwV 1 hts (sr_goodV qmX4_69 qiX2_hasThroat qsX2_hasThroat qnX2 qcX2_hasThroat) rfl rfl rfl qdX2_hasThroat ⟨Nat.le_of_ble_eq_true rfl, Nat.le_of_ble_eq_true rfl⟩) hw hA (xo_1 t ad) rfl hl.1 rfl (Nat.le_of_ble_eq_true rfl) dX4_claim_5 (fun H locs hw => ?_)
  refine lv_if_ne (tgt := 13) hx hb dX4_claim_8 (by decide) (fun hc => ?_) (fun hc => ?_)
  · have h := sr_ifn h hc
    refine lv_aload_n hx hb dX4_claim_13 rfl (lv_at hl 0 rfl) ?_
    refine sr_geti hx hb hts qzX4 hown hw (xf_0_6 t ad) (hts _ qfX4_171) h dX4_claim_14 (fun v2 h => ?_)
    refine lv_sipush (v := 200) hx hb dX4_claim_17 (by decide) ?_
    refine lv_icmp_lt (tgt := 26) hx hb dX4_claim_20 (by decide) (fun hc => ?_) (fun hc => ?_)
    · have h := sr_ifp h hc
      refine lv_aload_n hx hb dX4_claim_26 rfl (lv_at hl 0 rfl) ?_
      refine sr_getr hx hb hts qzX4 hown hw (xf_0_5 t ad) (hts _ qfX4_41) dX4_claim_27 ?_
      refine lv_aload_n hx hb dX4_claim_30 rfl (lv_at hl 0 rfl) ?_
      refine sr_geti hx hb hts qzX4 hown hw (xf_0_6 t ad) (hts _ qfX4_171) h dX4_claim_31 (fun v3 h => ?_)
      refine lv_iload_n hx hb dX4_claim_34 rfl (lv_at hl 1 rfl) ?_
      refine sr_iast hx hb hw (xa_61 t ad) h dX4_claim_35 (fun M4 H locs h hw => ?_)
      refine lv_aload_n hx hb dX4_claim_36 rfl (lv_at hl 0 rfl) ?_
      refine lv_dup hx hb dX4_claim_37 rfl ?_
      refine sr_geti hx hb hts qzX4 hown hw (xf_0_6 t ad) (hts _ qfX4_171) h dX4_claim_38 (fun v5 h => ?_)
      refine lv_iconst (v := 1) hx hb dX4_claim_41 (by decide) ?_
      refine lv_iadd hx hb dX4_claim_42 ?_
      refine sr_puti hx hb hts qzX4 tyX4 tyX4_ok nmX4 hown hw (xf_0_6 t ad) rfl rfl (hts _ qfX4_171) h dX4_claim_43 (fun M6 H locs h hw => ?_)
      refine lv_aload_n hx hb dX4_claim_46 rfl (lv_at hl 0 rfl) ?_
      refine sr_geti hx hb hts qzX4 hown hw (xf_0_6 t ad) (hts _ qfX4_171) h dX4_claim_47 (fun v7 h => ?_)
      obtain ⟨rfl, rfl⟩ := Prod.mk.inj (Option.some.inj h)
      exact ret _ _ _ _ hw rfl dX4_claim_50
    · have h := sr_ifn h hc
      refine lv_bipush (v := (-2)) hx hb dX4_claim_23 (by decide) ?_
      obtain ⟨rfl, rfl⟩ := Prod.mk.inj (Option.some.inj h)
      exact ret _ _ _ _ hw rfl dX4_claim_25
  · have h := sr_ifp h hc
    refine lv_iconst (v := (-1)) hx hb dX4_claim_11 (by decide) ?_
    obtain ⟨rfl, rfl⟩ := Prod.mk.inj (Option.some.inj h)
    exact ret _ _ _ _ hw rfl dX4_claim_12

noncomputable def f4_copy_L15 (v3 : Int32) (M4 : sr_M) : Option ((Int32 × sr_M) ⊕ (sr_M)) :=
sr_bnd (M4.1 30 2) fun v5 =>
if v5 ≤ v3 then
(some (.inr M4))
else
(sr_ld (v3 + 1) 121 (M4.1 31) fun v6 =>
sr_st v3 200 M4 61 v6 fun M7 =>
some (.inl ((v3 + 1), M7)))
noncomputable def f4_copy (M : sr_M) : Option (Int32 × sr_M) :=
sr_bnd (M.1 30 1) fun v1 =>
if v1 = 0 then
(some ((-6), M))
else
((sr_lp (fun z2 : Int32 × sr_M => f4_copy_L15 z2.1 z2.2) (0, M)).bind fun w2 =>
sr_bnd (w2.1 30 2) fun v9 =>
sr_put w2 0 6 v9 fun M10 =>
sr_bnd (M10.1 0 6) fun v11 =>
some (v11, M10))
set_option maxHeartbeats 4000000 in
set_option maxRecDepth 100000 in
theorem k4_copy (l : Launch) (D : va_G) (t : Nat → ClassId) (ad : Nat → Nat) (M : sr_M) (r : Int32) (M' : sr_M) (h : f4_copy M = some (r, M')) : sr_Mi l D vwCl (xty t) ad (xcf t ad) 62 yX4_copy (.code yX4_copy cX4_copy 2 (some .int) :: sr_tbl) ({ frames := 0, cells := 0, slots := 0, locals := 0 }) [.ref (ad 0)] M r M' := by
  refine sr_open_i (cc := cX4_copy) (maxL := 2) (by decide) rfl (Nat.le_of_ble_eq_true rfl) ?_
  intro p e s m args below meth c A Q ls hx hb hml hts0 hown hA hw hl ret
  have hts : ∀ w ∈ sr_tbl, w.before args s = true := fun w hw => hts0 w (List.mem_cons_of_mem _ hw)
  have hown : s.vm.findClass RX4 = some m.cls := hown
  have hl : lv_has ls 2 [(0, .ref (ad 0))] := hl
  have hw : xH D t ad A s M s.heap [] := hw
  unfold f4_copy at h
  refine lv_aload_n hx hb dX4_copy_0 rfl (lv_at hl 0 rfl) ?_
  refine sr_getr hx hb hts qzX4 hown hw (xf_0_2 t ad) (hts _ qfX4_27) dX4_copy_1 ?_
  refine sr_geti hx hb hts qzX1 hown hw (xf_30_1 t ad) (hts _ qfX4_50) h dX4_copy_4 (fun v1 h => ?_)
  refine lv_if_ne (tgt := 13) hx hb dX4_copy_7 (by decide) (fun hc => ?_) (fun hc => ?_)
  · have h := sr_ifn h hc
    refine lv_iconst (v := 0) hx hb dX4_copy_13 (by decide) ?_
    refine lv_istore_n (lv' := [(1, .int 0), (0, .ref (ad 0))]) hx hb dX4_copy_14 rfl hl (by decide) rfl (fun ls hl => ?_)
    obtain ⟨x2, hlp, hE2⟩ := sr_bind h
    have hX2 : ∀ (M8 : sr_M), M8 = x2 → ∀ (H : Heap) (locs : List Loc) (ls : Array Slot), xH D t ad A s M8 H locs → lv_has ls 2 [(0, .ref (ad 0))] → W p l e ({ frames := 0, cells := 0, slots := 0, locals := 0 }) s m args below meth c H locs 0 0 Q (F0 m 49 ls []) := by
      intro M8 ex H locs ls hw hl
      have h := hE2 _ ex
      try dsimp only at h
      refine lv_aload_n hx hb dX4_copy_49 rfl (lv_at hl 0 rfl) ?_
      refine lv_aload_n hx hb dX4_copy_50 rfl (lv_at hl 0 rfl) ?_
      refine sr_getr hx hb hts qzX4 hown hw (xf_0_2 t ad) (hts _ qfX4_27) dX4_copy_51 ?_
      refine sr_geti hx hb hts qzX1 hown hw (xf_30_2 t ad) (hts _ qfX4_164) h dX4_copy_54 (fun v9 h => ?_)
      refine sr_puti hx hb hts qzX4 tyX4 tyX4_ok nmX4 hown hw (xf_0_6 t ad) rfl rfl (hts _ qfX4_171) h dX4_copy_57 (fun M10 H locs h hw => ?_)
      refine lv_aload_n hx hb dX4_copy_60 rfl (lv_at hl 0 rfl) ?_
      refine sr_geti hx hb hts qzX4 hown hw (xf_0_6 t ad) (hts _ qfX4_171) h dX4_copy_61 (fun v11 h => ?_)
      obtain ⟨rfl, rfl⟩ := Prod.mk.inj (Option.some.inj h)
      exact ret _ _ _ _ hw rfl dX4_copy_64
    refine sr_lp_rule (fun (z2 : Int32 × sr_M) => ∀ (H : Heap) (locs : List Loc) (ls : Array Slot), xH D t ad A s z2.2 H locs → lv_has ls 2 [(0, .ref (ad 0)), (1, .int z2.1)] → W p l e ({ frames := 0, cells := 0, slots := 0, locals := 0 }) s m args below meth c H locs 0 0 Q (F0 m 15 ls [])) ?_ hlp _ _ _ hw (lv_sub hl [1, 0] rfl)
    rintro ⟨v3, M4⟩ y2 h hi2 he2 H locs ls hw hl
    have h : f4_copy_L15 v3 M4 = some y2 := h
    have hw : xH D t ad A s M4 H locs := hw
    have hl : lv_has ls 2 [(0, .ref (ad 0)), (1, .int v3)] := hl
    unfold f4_copy_L15 at h
    refine lv_iload_n hx hb dX4_copy_15 rfl (lv_at hl 1 rfl) ?_
    refine lv_aload_n hx hb dX4_copy_16 rfl (lv_at hl 0 rfl) ?_
    refine sr_getr hx hb hts qzX4 hown hw (xf_0_2 t ad) (hts _ qfX4_27) dX4_copy_17 ?_
    refine sr_geti hx hb hts qzX1 hown hw (xf_30_2 t ad) (hts _ qfX4_164) h dX4_copy_20 (fun v5 h => ?_)
    refine lv_icmp_ge (tgt := 49) hx hb dX4_copy_23 (by decide) (fun hc => ?_) (fun hc => ?_)
    · have h := sr_ifp h hc
      exact hX2  M4 (he2 _ (Option.some.inj h).symm) _ _ _ hw (lv_sub hl [0] rfl)
    · have h := sr_ifn h hc
      refine lv_aload_n hx hb dX4_copy_26 rfl (lv_at hl 0 rfl) ?_
      refine sr_getr hx hb hts qzX4 hown hw (xf_0_5 t ad) (hts _ qfX4_41) dX4_copy_27 ?_
      refine lv_iload_n hx hb dX4_copy_30 rfl (lv_at hl 1 rfl) ?_
      refine lv_aload_n hx hb dX4_copy_31 rfl (lv_at hl 0 rfl) ?_
      refine sr_getr hx hb hts qzX4 hown hw (xf_0_2 t ad) (hts _ qfX4_27) dX4_copy_32 ?_
      refine sr_getr hx hb hts qzX1 hown hw (xf_30_3 t ad) (hts _ qfX4_177) dX4_copy_35 ?_
      refine lv_iload_n hx hb dX4_copy_38 rfl (lv_at hl 1 rfl) ?_
      refine lv_iconst (v := 1) hx hb dX4_copy_39 (by decide) ?_
      refine lv_iadd hx hb dX4_copy_40 ?_
      refine sr_iald hx hb hw (xa_31 t ad) h dX4_copy_41 (fun v6 h => ?_)
      refine sr_iast hx hb hw (xa_61 t ad) h dX4_copy_42 (fun M7 H locs h hw => ?_)
      refine lv_iinc (v := (v3 + 1)) (lv' := [(1, .int (v3 + 1)), (0, .ref (ad 0))]) hx hb dX4_copy_43 hl (k := 1) rfl rfl (by decide) rfl (fun ls hl => ?_)
      refine lv_goto (tgt := 15) hx hb dX4_copy_46 (by decide) ?_
      exact hi2 ((v3 + 1), M7) (Option.some.inj h).symm _ _ _ hw (lv_sub hl [1, 0] rfl)
  · have h := sr_ifp h hc
    refine lv_bipush (v := (-6)) hx hb dX4_copy_10 (by decide) ?_
    obtain ⟨rfl, rfl⟩ := Prod.mk.inj (Option.some.inj h)
    exact ret _ _ _ _ hw rfl dX4_copy_12

noncomputable def f4_alter (a1 : Int32) (a2 : Int32) (M : sr_M) : Option (Int32 × sr_M) :=
if a1 < 0 then
(some ((-1), M))
else
(sr_bnd (M.1 0 6) fun v1 =>
if v1 ≤ a1 then
(some ((-1), M))
else
((f2_hasThroat a2 M).bind fun v2 =>
if v2 = 0 then
(some ((-1), M))
else
(sr_st a1 200 M 61 a2 fun M3 =>
some (1, M3))))
set_option maxHeartbeats 4000000 in
set_option maxRecDepth 100000 in
theorem k4_alter (l : Launch) (D : va_G) (t : Nat → ClassId) (ad : Nat → Nat) (a1 : Int32) (a2 : Int32) (M : sr_M) (r : Int32) (M' : sr_M) (h : f4_alter a1 a2 M = some (r, M')) : sr_Mi l D vwCl (xty t) ad (xcf t ad) 62 yX4_alter (.code yX4_alter cX4_alter 3 (some .int) :: sr_tbl) ({ frames := 1, cells := 0, slots := 0, locals := 21 }) [.ref (ad 0), .int a1, .int a2] M r M' := by
  refine sr_open_i (cc := cX4_alter) (maxL := 3) (by decide) rfl (Nat.le_of_ble_eq_true rfl) ?_
  intro p e s m args below meth c A Q ls hx hb hml hts0 hown hA hw hl ret
  have hts : ∀ w ∈ sr_tbl, w.before args s = true := fun w hw => hts0 w (List.mem_cons_of_mem _ hw)
  have hown : s.vm.findClass RX4 = some m.cls := hown
  have hl : lv_has ls 3 [(0, .ref (ad 0)), (1, .int a1), (2, .int a2)] := hl
  have hw : xH D t ad A s M s.heap [] := hw
  unfold f4_alter at h
  refine lv_iload_n hx hb dX4_alter_0 rfl (lv_at hl 1 rfl) ?_
  refine lv_if_lt (tgt := 23) hx hb dX4_alter_1 (by decide) (fun hc => ?_) (fun hc => ?_)
  · have h := sr_ifp h hc
    refine lv_iconst (v := (-1)) hx hb dX4_alter_23 (by decide) ?_
    obtain ⟨rfl, rfl⟩ := Prod.mk.inj (Option.some.inj h)
    exact ret _ _ _ _ hw rfl dX4_alter_24
  · have h := sr_ifn h hc
    refine lv_iload_n hx hb dX4_alter_4 rfl (lv_at hl 1 rfl) ?_
    refine lv_aload_n hx hb dX4_alter_5 rfl (lv_at hl 0 rfl) ?_
    refine sr_geti hx hb hts qzX4 hown hw (xf_0_6 t ad) (hts _ qfX4_171) h dX4_alter_6 (fun v1 h => ?_)
    refine lv_icmp_ge (tgt := 23) hx hb dX4_alter_9 (by decide) (fun hc => ?_) (fun hc => ?_)
    · have h := sr_ifp h hc
      refine lv_iconst (v := (-1)) hx hb dX4_alter_23 (by decide) ?_
      obtain ⟨rfl, rfl⟩ := Prod.mk.inj (Option.some.inj h)
      exact ret _ _ _ _ hw rfl dX4_alter_24
    · have h := sr_ifn h hc
      refine lv_aload_n hx hb dX4_alter_12 rfl (lv_at hl 0 rfl) ?_
      refine sr_getr hx hb hts qzX4 hown hw (xf_0_0 t ad) (hts _ qfX4_10) dX4_alter_13 ?_
      refine lv_iload_n hx hb dX4_alter_16 rfl (lv_at hl 2 rfl) ?_
      obtain ⟨v2, hc, h⟩ := sr_bind1 h
      refine sr_cVi (As := [.int a2]) (rest := []) ⟨hx, hb, hml, hown, hts⟩ (k2_hasThroat l D t ad a2 M _ hc) (cwV 1 hts (sr_goodV qmX4_69 qiX2_hasThroat qsX2_hasThroat qnX2 qcX2_hasThroat) rfl rfl rfl qdX2_hasThroat ⟨Nat.le_of_ble_eq_true rfl, Nat.le_of_ble_eq_true rfl⟩) hw hA (xo_1 t ad) rfl hl.1 rfl (Nat.le_of_ble_eq_true rfl) dX4_alter_17 (fun H locs hw => ?_)
      refine lv_if_ne (tgt := 25) hx hb dX4_alter_20 (by decide) (fun hc => ?_) (fun hc => ?_)
      · have h := sr_ifn h hc
        refine lv_aload_n hx hb dX4_alter_25 rfl (lv_at hl 0 rfl) ?_
        refine sr_getr hx hb hts qzX4 hown hw (xf_0_5 t ad) (hts _ qfX4_41) dX4_alter_26 ?_
        refine lv_iload_n hx hb dX4_alter_29 rfl (lv_at hl 1 rfl) ?_
        refine lv_iload_n hx hb dX4_alter_30 rfl (lv_at hl 2 rfl) ?_
        refine sr_iast hx hb hw (xa_61 t ad) h dX4_alter_31 (fun M3 H locs h hw => ?_)
        refine lv_iconst (v := 1) hx hb dX4_alter_32 (by decide) ?_
        obtain ⟨rfl, rfl⟩ := Prod.mk.inj (Option.some.inj h)
        exact ret _ _ _ _ hw rfl dX4_alter_33
      · have h := sr_ifp h hc
        refine lv_iconst (v := (-1)) hx hb dX4_alter_23 (by decide) ?_
        obtain ⟨rfl, rfl⟩ := Prod.mk.inj (Option.some.inj h)
        exact ret _ _ _ _ hw rfl dX4_alter_24

noncomputable def f4_unclaim (M : sr_M) : Option (Int32 × sr_M) :=
sr_bnd (M.1 0 6) fun v1 =>
sr_put M 0 6 0 fun M2 =>
some (v1, M2)
set_option maxHeartbeats 4000000 in
set_option maxRecDepth 100000 in
theorem k4_unclaim (l : Launch) (D : va_G) (t : Nat → ClassId) (ad : Nat → Nat) (M : sr_M) (r : Int32) (M' : sr_M) (h : f4_unclaim M = some (r, M')) : sr_Mi l D vwCl (xty t) ad (xcf t ad) 62 yX4_unclaim (.code yX4_unclaim cX4_unclaim 2 (some .int) :: sr_tbl) ({ frames := 0, cells := 0, slots := 0, locals := 0 }) [.ref (ad 0)] M r M' := by
  refine sr_open_i (cc := cX4_unclaim) (maxL := 2) (by decide) rfl (Nat.le_of_ble_eq_true rfl) ?_
  intro p e s m args below meth c A Q ls hx hb hml hts0 hown hA hw hl ret
  have hts : ∀ w ∈ sr_tbl, w.before args s = true := fun w hw => hts0 w (List.mem_cons_of_mem _ hw)
  have hown : s.vm.findClass RX4 = some m.cls := hown
  have hl : lv_has ls 2 [(0, .ref (ad 0))] := hl
  have hw : xH D t ad A s M s.heap [] := hw
  unfold f4_unclaim at h
  refine lv_aload_n hx hb dX4_unclaim_0 rfl (lv_at hl 0 rfl) ?_
  refine sr_geti hx hb hts qzX4 hown hw (xf_0_6 t ad) (hts _ qfX4_171) h dX4_unclaim_1 (fun v1 h => ?_)
  refine lv_istore_n (lv' := [(1, .int v1), (0, .ref (ad 0))]) hx hb dX4_unclaim_4 rfl hl (by decide) rfl (fun ls hl => ?_)
  refine lv_aload_n hx hb dX4_unclaim_5 rfl (lv_at hl 1 rfl) ?_
  refine lv_iconst (v := 0) hx hb dX4_unclaim_6 (by decide) ?_
  refine sr_puti hx hb hts qzX4 tyX4 tyX4_ok nmX4 hown hw (xf_0_6 t ad) rfl rfl (hts _ qfX4_171) h dX4_unclaim_7 (fun M2 H locs h hw => ?_)
  refine lv_iload_n hx hb dX4_unclaim_10 rfl (lv_at hl 0 rfl) ?_
  obtain ⟨rfl, rfl⟩ := Prod.mk.inj (Option.some.inj h)
  exact ret _ _ _ _ hw rfl dX4_unclaim_11

noncomputable def f4_check_L9 (v3 : Int32) (M4 : sr_M) : Option ((Int32 × sr_M) ⊕ ((sr_M) ⊕ (Int32 × sr_M))) :=
sr_bnd (M4.1 0 6) fun v5 =>
if v5 ≤ v3 then
(some (.inr (.inl M4)))
else
(sr_bd2 (f1_advance 43 M4) fun v6 M7 =>
sr_ld v3 200 (M7.1 61) fun v8 =>
if v6 = v8 then
(some (.inl ((v3 + 1), M7)))
else
(some (.inr (.inr (v3, M7)))))
noncomputable def f4_check (M : sr_M) : Option (Int32 × sr_M) :=
(f1_start 43 M).bind fun M1 =>
(sr_lp (fun z2 : Int32 × sr_M => f4_check_L9 z2.1 z2.2) (0, M1)).bind (sr_se (fun w2 =>
some ((-1), w2))
(fun q2 => some q2))
set_option maxHeartbeats 4000000 in
set_option maxRecDepth 100000 in
theorem k4_check (l : Launch) (D : va_G) (t : Nat → ClassId) (ad : Nat → Nat) (M : sr_M) (r : Int32) (M' : sr_M) (h : f4_check M = some (r, M')) : sr_Mi l D vwCl (xty t) ad (xcf t ad) 62 yX4_check (.code yX4_check cX4_check 2 (some .int) :: sr_tbl) ({ frames := 5, cells := 0, slots := 0, locals := 113 }) [.ref (ad 0)] M r M' := by
  refine sr_open_i (cc := cX4_check) (maxL := 2) (by decide) rfl (Nat.le_of_ble_eq_true rfl) ?_
  intro p e s m args below meth c A Q ls hx hb hml hts0 hown hA hw hl ret
  have hts : ∀ w ∈ sr_tbl, w.before args s = true := fun w hw => hts0 w (List.mem_cons_of_mem _ hw)
  have hown : s.vm.findClass RX4 = some m.cls := hown
  have hl : lv_has ls 2 [(0, .ref (ad 0))] := hl
  have hw : xH D t ad A s M s.heap [] := hw
  unfold f4_check at h
  refine lv_aload_n hx hb dX4_check_0 rfl (lv_at hl 0 rfl) ?_
  refine sr_getr hx hb hts qzX4 hown hw (xf_0_3 t ad) (hts _ qfX4_31) dX4_check_1 ?_
  obtain ⟨M1, hc, h⟩ := sr_bind1 h
  refine sr_cVv (As := []) (rest := []) ⟨hx, hb, hml, hown, hts⟩ (k1_start l D t ad 43 (Or.inr rfl) M _ hc) (cwV 0 hts (sr_goodV qmX4_154 qiX1_start qsX1_start qnX1 qcX1_start) rfl rfl rfl qdX1_start ⟨Nat.le_of_ble_eq_true rfl, Nat.le_of_ble_eq_true rfl⟩) hw hA (xo_43 t ad) rfl hl.1 rfl (Nat.le_of_ble_eq_true rfl) dX4_check_4 (fun H locs hw => ?_)
  refine lv_iconst (v := 0) hx hb dX4_check_7 (by decide) ?_
  refine lv_istore_n (lv' := [(1, .int 0), (0, .ref (ad 0))]) hx hb dX4_check_8 rfl hl (by decide) rfl (fun ls hl => ?_)
  obtain ⟨x2, hlp, hE2⟩ := sr_bind h
  have hX2 : ∀ (M9 : sr_M), Sum.inl M9 = x2 → ∀ (H : Heap) (locs : List Loc) (ls : Array Slot), xH D t ad A s M9 H locs → lv_has ls 2 [] → W p l e ({ frames := 5, cells := 0, slots := 0, locals := 113 }) s m args below meth c H locs 0 0 Q (F0 m 41 ls []) := by
    intro M9 ex H locs ls hw hl
    have h := sr_sel (hE2 _ ex)
    try dsimp only at h
    refine lv_iconst (v := (-1)) hx hb dX4_check_41 (by decide) ?_
    obtain ⟨rfl, rfl⟩ := Prod.mk.inj (Option.some.inj h)
    exact ret _ _ _ _ hw rfl dX4_check_42
  refine sr_lp_rule (fun (z2 : Int32 × sr_M) => ∀ (H : Heap) (locs : List Loc) (ls : Array Slot), xH D t ad A s z2.2 H locs → lv_has ls 2 [(0, .ref (ad 0)), (1, .int z2.1)] → W p l e ({ frames := 5, cells := 0, slots := 0, locals := 113 }) s m args below meth c H locs 0 0 Q (F0 m 9 ls [])) ?_ hlp _ _ _ hw (lv_sub hl [1, 0] rfl)
  rintro ⟨v3, M4⟩ y2 h hi2 he2 H locs ls hw hl
  have h : f4_check_L9 v3 M4 = some y2 := h
  have hw : xH D t ad A s M4 H locs := hw
  have hl : lv_has ls 2 [(0, .ref (ad 0)), (1, .int v3)] := hl
  unfold f4_check_L9 at h
  refine lv_iload_n hx hb dX4_check_9 rfl (lv_at hl 1 rfl) ?_
  refine lv_aload_n hx hb dX4_check_10 rfl (lv_at hl 0 rfl) ?_
  refine sr_geti hx hb hts qzX4 hown hw (xf_0_6 t ad) (hts _ qfX4_171) h dX4_check_11 (fun v5 h => ?_)
  refine lv_icmp_ge (tgt := 41) hx hb dX4_check_14 (by decide) (fun hc => ?_) (fun hc => ?_)
  · have h := sr_ifp h hc
    exact hX2  M4 (he2 _ (Option.some.inj h).symm) _ _ _ hw (lv_sub hl [] rfl)
  · have h := sr_ifn h hc
    refine lv_aload_n hx hb dX4_check_17 rfl (lv_at hl 0 rfl) ?_
    refine sr_getr hx hb hts qzX4 hown hw (xf_0_3 t ad) (hts _ qfX4_31) dX4_check_18 ?_
    obtain ⟨v6, M7, hc, h⟩ := sr_bind2 h
    refine sr_cVi (As := []) (rest := []) ⟨hx, hb, hml, hown, hts⟩ (k1_advance l D t ad 43 (Or.inr rfl) M4 _ _ hc) (cwV 0 hts (sr_goodV qmX4_161 qiX1_advance qsX1_advance qnX1 qcX1_advance) rfl rfl rfl qdX1_advance ⟨Nat.le_of_ble_eq_true rfl, Nat.le_of_ble_eq_true rfl⟩) hw hA (xo_43 t ad) rfl hl.1 rfl (Nat.le_of_ble_eq_true rfl) dX4_check_21 (fun H locs hw => ?_)
    refine lv_aload_n hx hb dX4_check_24 rfl (lv_at hl 0 rfl) ?_
    refine sr_getr hx hb hts qzX4 hown hw (xf_0_5 t ad) (hts _ qfX4_41) dX4_check_25 ?_
    refine lv_iload_n hx hb dX4_check_28 rfl (lv_at hl 1 rfl) ?_
    refine sr_iald hx hb hw (xa_61 t ad) h dX4_check_29 (fun v8 h => ?_)
    refine lv_icmp_eq (tgt := 35) hx hb dX4_check_30 (by decide) (fun hc => ?_) (fun hc => ?_)
    · have h := sr_ifp h hc
      refine lv_iinc (v := (v3 + 1)) (lv' := [(1, .int (v3 + 1)), (0, .ref (ad 0))]) hx hb dX4_check_35 hl (k := 1) rfl rfl (by decide) rfl (fun ls hl => ?_)
      refine lv_goto (tgt := 9) hx hb dX4_check_38 (by decide) ?_
      exact hi2 ((v3 + 1), M7) (Option.some.inj h).symm _ _ _ hw (lv_sub hl [1, 0] rfl)
    · have h := sr_ifn h hc
      refine lv_iload_n hx hb dX4_check_33 rfl (lv_at hl 1 rfl) ?_
      have h := sr_ser (hE2 _ (he2 _ (Option.some.inj h).symm))
      obtain ⟨rfl, rfl⟩ := Prod.mk.inj (Option.some.inj h)
      exact ret _ _ _ _ hw rfl dX4_check_34

