noncomputable def f5_isPore (a1 : Int32) (M : sr_M) : Option (Int32) :=
if a1 < 0 then
(some 0)
else
(sr_bnd (M.1 0 0) fun v1 =>
if v1 ≤ a1 then
(some 0)
else
(some 1))
set_option maxHeartbeats 4000000 in
set_option maxRecDepth 100000 in
theorem k5_isPore (l : Launch) (D : va_G) (t : Nat → ClassId) (ad : Nat → Nat) (a1 : Int32) (M : sr_M) (r : Int32) (h : f5_isPore a1 M = some r) : sr_Mi l D vwCl (yty t) ad (ycf t ad) 26 yX5_isPore (.code yX5_isPore cX5_isPore 2 (some .boolean) :: sr_tbl) ({ frames := 0, cells := 0, slots := 0, locals := 0 }) [.ref (ad 0), .int a1] M r M := by
  refine sr_open_i (cc := cX5_isPore) (maxL := 2) (by decide) rfl (Nat.le_of_ble_eq_true rfl) ?_
  intro p e s m args below meth c A Q ls hx hb hml hts0 hown hA hw hl ret
  have hts : ∀ w ∈ sr_tbl, w.before args s = true := fun w hw => hts0 w (List.mem_cons_of_mem _ hw)
  have hown : s.vm.findClass RX5 = some m.cls := hown
  have hl : lv_has ls 2 [(0, .ref (ad 0)), (1, .int a1)] := hl
  have hw : yH D t ad A s M s.heap [] := hw
  unfold f5_isPore at h
  refine lv_iload_n hx hb dX5_isPore_0 rfl (lv_at hl 1 rfl) ?_
  refine lv_if_lt (tgt := 16) hx hb dX5_isPore_1 (by decide) (fun hc => ?_) (fun hc => ?_)
  · have h := sr_ifp h hc
    refine lv_iconst (v := 0) hx hb dX5_isPore_16 (by decide) ?_
    obtain rfl := Option.some.inj h
    exact ret _ _ _ _ hw rfl dX5_isPore_17
  · have h := sr_ifn h hc
    refine lv_iload_n hx hb dX5_isPore_4 rfl (lv_at hl 1 rfl) ?_
    refine lv_aload_n hx hb dX5_isPore_5 rfl (lv_at hl 0 rfl) ?_
    refine sr_geti hx hb hts qzX5 hown hw (yf_0_0 t ad) (hts _ qfX5_88) h dX5_isPore_6 (fun v1 h => ?_)
    refine lv_icmp_ge (tgt := 16) hx hb dX5_isPore_9 (by decide) (fun hc => ?_) (fun hc => ?_)
    · have h := sr_ifp h hc
      refine lv_iconst (v := 0) hx hb dX5_isPore_16 (by decide) ?_
      obtain rfl := Option.some.inj h
      exact ret _ _ _ _ hw rfl dX5_isPore_17
    · have h := sr_ifn h hc
      refine lv_iconst (v := 1) hx hb dX5_isPore_12 (by decide) ?_
      refine lv_goto (tgt := 17) hx hb dX5_isPore_13 (by decide) ?_
      obtain rfl := Option.some.inj h
      exact ret _ _ _ _ hw rfl dX5_isPore_17

noncomputable def f5_isThroat (a1 : Int32) (M : sr_M) : Option (Int32) :=
if a1 < 0 then
(some 0)
else
(sr_bnd (M.1 0 3) fun v1 =>
if v1 ≤ a1 then
(some 0)
else
(some 1))
set_option maxHeartbeats 4000000 in
set_option maxRecDepth 100000 in
theorem k5_isThroat (l : Launch) (D : va_G) (t : Nat → ClassId) (ad : Nat → Nat) (a1 : Int32) (M : sr_M) (r : Int32) (h : f5_isThroat a1 M = some r) : sr_Mi l D vwCl (yty t) ad (ycf t ad) 26 yX5_isThroat (.code yX5_isThroat cX5_isThroat 2 (some .boolean) :: sr_tbl) ({ frames := 0, cells := 0, slots := 0, locals := 0 }) [.ref (ad 0), .int a1] M r M := by
  refine sr_open_i (cc := cX5_isThroat) (maxL := 2) (by decide) rfl (Nat.le_of_ble_eq_true rfl) ?_
  intro p e s m args below meth c A Q ls hx hb hml hts0 hown hA hw hl ret
  have hts : ∀ w ∈ sr_tbl, w.before args s = true := fun w hw => hts0 w (List.mem_cons_of_mem _ hw)
  have hown : s.vm.findClass RX5 = some m.cls := hown
  have hl : lv_has ls 2 [(0, .ref (ad 0)), (1, .int a1)] := hl
  have hw : yH D t ad A s M s.heap [] := hw
  unfold f5_isThroat at h
  refine lv_iload_n hx hb dX5_isThroat_0 rfl (lv_at hl 1 rfl) ?_
  refine lv_if_lt (tgt := 16) hx hb dX5_isThroat_1 (by decide) (fun hc => ?_) (fun hc => ?_)
  · have h := sr_ifp h hc
    refine lv_iconst (v := 0) hx hb dX5_isThroat_16 (by decide) ?_
    obtain rfl := Option.some.inj h
    exact ret _ _ _ _ hw rfl dX5_isThroat_17
  · have h := sr_ifn h hc
    refine lv_iload_n hx hb dX5_isThroat_4 rfl (lv_at hl 1 rfl) ?_
    refine lv_aload_n hx hb dX5_isThroat_5 rfl (lv_at hl 0 rfl) ?_
    refine sr_geti hx hb hts qzX5 hown hw (yf_0_3 t ad) (hts _ qfX5_92) h dX5_isThroat_6 (fun v1 h => ?_)
    refine lv_icmp_ge (tgt := 16) hx hb dX5_isThroat_9 (by decide) (fun hc => ?_) (fun hc => ?_)
    · have h := sr_ifp h hc
      refine lv_iconst (v := 0) hx hb dX5_isThroat_16 (by decide) ?_
      obtain rfl := Option.some.inj h
      exact ret _ _ _ _ hw rfl dX5_isThroat_17
    · have h := sr_ifn h hc
      refine lv_iconst (v := 1) hx hb dX5_isThroat_12 (by decide) ?_
      refine lv_goto (tgt := 17) hx hb dX5_isThroat_13 (by decide) ?_
      obtain rfl := Option.some.inj h
      exact ret _ _ _ _ hw rfl dX5_isThroat_17

noncomputable def f5_pore (a1 : Int32) (M : sr_M) : Option (Int32 × sr_M) :=
if a1 < 0 then
(some ((-1), M))
else
(if a1 ≤ 4 then
(sr_bnd (M.1 0 0) fun v1 =>
if v1 = 120 then
(some ((-2), M))
else
(sr_bnd (M.1 0 0) fun v2 =>
sr_st v2 120 M 1 a1 fun M3 =>
sr_bnd (M3.1 0 0) fun v4 =>
sr_stB v4 120 M3 2 0 fun M5 =>
sr_bnd (M5.1 0 0) fun v6 =>
sr_put M5 0 0 (v6 + 1) fun M7 =>
sr_putB M7 0 13 0 fun M8 =>
sr_bnd (M8.1 0 0) fun v9 =>
some ((v9 - 1), M8)))
else
(some ((-1), M)))
set_option maxHeartbeats 4000000 in
set_option maxRecDepth 100000 in
theorem k5_pore (l : Launch) (D : va_G) (t : Nat → ClassId) (ad : Nat → Nat) (a1 : Int32) (M : sr_M) (r : Int32) (M' : sr_M) (h : f5_pore a1 M = some (r, M')) : sr_Mi l D vwCl (yty t) ad (ycf t ad) 26 yX5_pore (.code yX5_pore cX5_pore 2 (some .int) :: sr_tbl) ({ frames := 0, cells := 0, slots := 0, locals := 0 }) [.ref (ad 0), .int a1] M r M' := by
  refine sr_open_i (cc := cX5_pore) (maxL := 2) (by decide) rfl (Nat.le_of_ble_eq_true rfl) ?_
  intro p e s m args below meth c A Q ls hx hb hml hts0 hown hA hw hl ret
  have hts : ∀ w ∈ sr_tbl, w.before args s = true := fun w hw => hts0 w (List.mem_cons_of_mem _ hw)
  have hown : s.vm.findClass RX5 = some m.cls := hown
  have hl : lv_has ls 2 [(0, .ref (ad 0)), (1, .int a1)] := hl
  have hw : yH D t ad A s M s.heap [] := hw
  unfold f5_pore at h
  refine lv_iload_n hx hb dX5_pore_0 rfl (lv_at hl 1 rfl) ?_
  refine lv_if_lt (tgt := 9) hx hb dX5_pore_1 (by decide) (fun hc => ?_) (fun hc => ?_)
  · have h := sr_ifp h hc
    refine lv_iconst (v := (-1)) hx hb dX5_pore_9 (by decide) ?_
    obtain ⟨rfl, rfl⟩ := Prod.mk.inj (Option.some.inj h)
    exact ret _ _ _ _ hw rfl dX5_pore_10
  · have h := sr_ifn h hc
    refine lv_iload_n hx hb dX5_pore_4 rfl (lv_at hl 1 rfl) ?_
    refine lv_iconst (v := 4) hx hb dX5_pore_5 (by decide) ?_
    refine lv_icmp_le (tgt := 11) hx hb dX5_pore_6 (by decide) (fun hc => ?_) (fun hc => ?_)
    · have h := sr_ifp h hc
      refine lv_aload_n hx hb dX5_pore_11 rfl (lv_at hl 0 rfl) ?_
      refine sr_geti hx hb hts qzX5 hown hw (yf_0_0 t ad) (hts _ qfX5_88) h dX5_pore_12 (fun v1 h => ?_)
      refine lv_bipush (v := 120) hx hb dX5_pore_15 (by decide) ?_
      refine lv_icmp_ne (tgt := 23) hx hb dX5_pore_17 (by decide) (fun hc => ?_) (fun hc => ?_)
      · have h := sr_ifn h hc
        refine lv_aload_n hx hb dX5_pore_23 rfl (lv_at hl 0 rfl) ?_
        refine sr_getr hx hb hts qzX5 hown hw (yf_0_1 t ad) (hts _ qfX5_7) dX5_pore_24 ?_
        refine lv_aload_n hx hb dX5_pore_27 rfl (lv_at hl 0 rfl) ?_
        refine sr_geti hx hb hts qzX5 hown hw (yf_0_0 t ad) (hts _ qfX5_88) h dX5_pore_28 (fun v2 h => ?_)
        refine lv_iload_n hx hb dX5_pore_31 rfl (lv_at hl 1 rfl) ?_
        refine sr_iast hx hb hw (ya_1 t ad) h dX5_pore_32 (fun M3 H locs h hw => ?_)
        refine lv_aload_n hx hb dX5_pore_33 rfl (lv_at hl 0 rfl) ?_
        refine sr_getr hx hb hts qzX5 hown hw (yf_0_2 t ad) (hts _ qfX5_13) dX5_pore_34 ?_
        refine lv_aload_n hx hb dX5_pore_37 rfl (lv_at hl 0 rfl) ?_
        refine sr_geti hx hb hts qzX5 hown hw (yf_0_0 t ad) (hts _ qfX5_88) h dX5_pore_38 (fun v4 h => ?_)
        refine lv_iconst (v := 0) hx hb dX5_pore_41 (by decide) ?_
        refine sr_zast hx hb hw (ya_2 t ad) h dX5_pore_42 (fun M5 H locs h hw => ?_)
        refine lv_aload_n hx hb dX5_pore_43 rfl (lv_at hl 0 rfl) ?_
        refine lv_dup hx hb dX5_pore_44 rfl ?_
        refine sr_geti hx hb hts qzX5 hown hw (yf_0_0 t ad) (hts _ qfX5_88) h dX5_pore_45 (fun v6 h => ?_)
        refine lv_iconst (v := 1) hx hb dX5_pore_48 (by decide) ?_
        refine lv_iadd hx hb dX5_pore_49 ?_
        refine sr_puti hx hb hts qzX5 tyX5 tyX5_ok nmX5 hown hw (yf_0_0 t ad) rfl rfl (hts _ qfX5_88) h dX5_pore_50 (fun M7 H locs h hw => ?_)
        refine lv_aload_n hx hb dX5_pore_53 rfl (lv_at hl 0 rfl) ?_
        refine lv_iconst (v := 0) hx hb dX5_pore_54 (by decide) ?_
        refine sr_putz hx hb hts qzX5 tyX5 tyX5_ok nmX5 hown hw (yf_0_13 t ad) rfl rfl (hts _ qfX5_95) h dX5_pore_55 (fun M8 H locs h hw => ?_)
        refine lv_aload_n hx hb dX5_pore_58 rfl (lv_at hl 0 rfl) ?_
        refine sr_geti hx hb hts qzX5 hown hw (yf_0_0 t ad) (hts _ qfX5_88) h dX5_pore_59 (fun v9 h => ?_)
        refine lv_iconst (v := 1) hx hb dX5_pore_62 (by decide) ?_
        refine lv_isub hx hb dX5_pore_63 ?_
        obtain ⟨rfl, rfl⟩ := Prod.mk.inj (Option.some.inj h)
        exact ret _ _ _ _ hw rfl dX5_pore_64
      · have h := sr_ifp h hc
        refine lv_bipush (v := (-2)) hx hb dX5_pore_20 (by decide) ?_
        obtain ⟨rfl, rfl⟩ := Prod.mk.inj (Option.some.inj h)
        exact ret _ _ _ _ hw rfl dX5_pore_22
    · have h := sr_ifn h hc
      refine lv_iconst (v := (-1)) hx hb dX5_pore_9 (by decide) ?_
      obtain ⟨rfl, rfl⟩ := Prod.mk.inj (Option.some.inj h)
      exact ret _ _ _ _ hw rfl dX5_pore_10

noncomputable def f5_throat (a1 : Int32) (a2 : Int32) (M : sr_M) : Option (Int32 × sr_M) :=
(f5_isPore a1 M).bind fun v1 =>
if v1 = 0 then
(some ((-1), M))
else
((f5_isPore a2 M).bind fun v2 =>
if v2 = 0 then
(some ((-1), M))
else
(if a1 = a2 then
(some ((-1), M))
else
(sr_bnd (M.1 0 3) fun v3 =>
if v3 = 300 then
(some ((-2), M))
else
(sr_bnd (M.1 0 3) fun v4 =>
sr_st v4 300 M 3 a1 fun M5 =>
sr_bnd (M5.1 0 3) fun v6 =>
sr_st v6 300 M5 4 a2 fun M7 =>
sr_bnd (M7.1 0 3) fun v8 =>
sr_st v8 300 M7 5 0 fun M9 =>
sr_bnd (M9.1 0 3) fun v10 =>
sr_stB v10 300 M9 6 0 fun M11 =>
sr_bnd (M11.1 0 3) fun v12 =>
sr_put M11 0 3 (v12 + 1) fun M13 =>
sr_putB M13 0 13 0 fun M14 =>
sr_bnd (M14.1 0 3) fun v15 =>
some ((v15 - 1), M14)))))
set_option maxHeartbeats 4000000 in
set_option maxRecDepth 100000 in
theorem k5_throat (l : Launch) (D : va_G) (t : Nat → ClassId) (ad : Nat → Nat) (a1 : Int32) (a2 : Int32) (M : sr_M) (r : Int32) (M' : sr_M) (h : f5_throat a1 a2 M = some (r, M')) : sr_Mi l D vwCl (yty t) ad (ycf t ad) 26 yX5_throat (.code yX5_throat cX5_throat 3 (some .int) :: sr_tbl) ({ frames := 1, cells := 0, slots := 0, locals := 21 }) [.ref (ad 0), .int a1, .int a2] M r M' := by
  refine sr_open_i (cc := cX5_throat) (maxL := 3) (by decide) rfl (Nat.le_of_ble_eq_true rfl) ?_
  intro p e s m args below meth c A Q ls hx hb hml hts0 hown hA hw hl ret
  have hts : ∀ w ∈ sr_tbl, w.before args s = true := fun w hw => hts0 w (List.mem_cons_of_mem _ hw)
  have hown : s.vm.findClass RX5 = some m.cls := hown
  have hl : lv_has ls 3 [(0, .ref (ad 0)), (1, .int a1), (2, .int a2)] := hl
  have hw : yH D t ad A s M s.heap [] := hw
  unfold f5_throat at h
  refine lv_aload_n hx hb dX5_throat_0 rfl (lv_at hl 0 rfl) ?_
  refine lv_iload_n hx hb dX5_throat_1 rfl (lv_at hl 1 rfl) ?_
  obtain ⟨v1, hc, h⟩ := sr_bind1 h
  refine sr_cVi (As := [.int a1]) (rest := []) ⟨hx, hb, hml, hown, hts⟩ (k5_isPore l D t ad a1 M _ hc) (cwV 1 hts (sr_goodV qmX5_99 qiX5_isPore qsX5_isPore qnX5 qcX5_isPore) rfl rfl rfl qdX5_isPore ⟨Nat.le_of_ble_eq_true rfl, Nat.le_of_ble_eq_true rfl⟩) hw hA (yo_0 t ad) rfl hl.1 rfl (Nat.le_of_ble_eq_true rfl) dX5_throat_2 (fun H locs hw => ?_)
  refine lv_if_eq (tgt := 21) hx hb dX5_throat_5 (by decide) (fun hc => ?_) (fun hc => ?_)
  · have h := sr_ifp h hc
    refine lv_iconst (v := (-1)) hx hb dX5_throat_21 (by decide) ?_
    obtain ⟨rfl, rfl⟩ := Prod.mk.inj (Option.some.inj h)
    exact ret _ _ _ _ hw rfl dX5_throat_22
  · have h := sr_ifn h hc
    refine lv_aload_n hx hb dX5_throat_8 rfl (lv_at hl 0 rfl) ?_
    refine lv_iload_n hx hb dX5_throat_9 rfl (lv_at hl 2 rfl) ?_
    obtain ⟨v2, hc, h⟩ := sr_bind1 h
    refine sr_cVi (As := [.int a2]) (rest := []) ⟨hx, hb, hml, hown, hts⟩ (k5_isPore l D t ad a2 M _ hc) (cwV 1 hts (sr_goodV qmX5_99 qiX5_isPore qsX5_isPore qnX5 qcX5_isPore) rfl rfl rfl qdX5_isPore ⟨Nat.le_of_ble_eq_true rfl, Nat.le_of_ble_eq_true rfl⟩) hw hA (yo_0 t ad) rfl hl.1 rfl (Nat.le_of_ble_eq_true rfl) dX5_throat_10 (fun H locs hw => ?_)
    refine lv_if_eq (tgt := 21) hx hb dX5_throat_13 (by decide) (fun hc => ?_) (fun hc => ?_)
    · have h := sr_ifp h hc
      refine lv_iconst (v := (-1)) hx hb dX5_throat_21 (by decide) ?_
      obtain ⟨rfl, rfl⟩ := Prod.mk.inj (Option.some.inj h)
      exact ret _ _ _ _ hw rfl dX5_throat_22
    · have h := sr_ifn h hc
      refine lv_iload_n hx hb dX5_throat_16 rfl (lv_at hl 1 rfl) ?_
      refine lv_iload_n hx hb dX5_throat_17 rfl (lv_at hl 2 rfl) ?_
      refine lv_icmp_ne (tgt := 23) hx hb dX5_throat_18 (by decide) (fun hc => ?_) (fun hc => ?_)
      · have h := sr_ifn h hc
        refine lv_aload_n hx hb dX5_throat_23 rfl (lv_at hl 0 rfl) ?_
        refine sr_geti hx hb hts qzX5 hown hw (yf_0_3 t ad) (hts _ qfX5_92) h dX5_throat_24 (fun v3 h => ?_)
        refine lv_sipush (v := 300) hx hb dX5_throat_27 (by decide) ?_
        refine lv_icmp_ne (tgt := 36) hx hb dX5_throat_30 (by decide) (fun hc => ?_) (fun hc => ?_)
        · have h := sr_ifn h hc
          refine lv_aload_n hx hb dX5_throat_36 rfl (lv_at hl 0 rfl) ?_
          refine sr_getr hx hb hts qzX5 hown hw (yf_0_4 t ad) (hts _ qfX5_17) dX5_throat_37 ?_
          refine lv_aload_n hx hb dX5_throat_40 rfl (lv_at hl 0 rfl) ?_
          refine sr_geti hx hb hts qzX5 hown hw (yf_0_3 t ad) (hts _ qfX5_92) h dX5_throat_41 (fun v4 h => ?_)
          refine lv_iload_n hx hb dX5_throat_44 rfl (lv_at hl 1 rfl) ?_
          refine sr_iast hx hb hw (ya_3 t ad) h dX5_throat_45 (fun M5 H locs h hw => ?_)
          refine lv_aload_n hx hb dX5_throat_46 rfl (lv_at hl 0 rfl) ?_
          refine sr_getr hx hb hts qzX5 hown hw (yf_0_5 t ad) (hts _ qfX5_20) dX5_throat_47 ?_
          refine lv_aload_n hx hb dX5_throat_50 rfl (lv_at hl 0 rfl) ?_
          refine sr_geti hx hb hts qzX5 hown hw (yf_0_3 t ad) (hts _ qfX5_92) h dX5_throat_51 (fun v6 h => ?_)
          refine lv_iload_n hx hb dX5_throat_54 rfl (lv_at hl 2 rfl) ?_
          refine sr_iast hx hb hw (ya_4 t ad) h dX5_throat_55 (fun M7 H locs h hw => ?_)
          refine lv_aload_n hx hb dX5_throat_56 rfl (lv_at hl 0 rfl) ?_
          refine sr_getr hx hb hts qzX5 hown hw (yf_0_6 t ad) (hts _ qfX5_23) dX5_throat_57 ?_
          refine lv_aload_n hx hb dX5_throat_60 rfl (lv_at hl 0 rfl) ?_
          refine sr_geti hx hb hts qzX5 hown hw (yf_0_3 t ad) (hts _ qfX5_92) h dX5_throat_61 (fun v8 h => ?_)
          refine lv_iconst (v := 0) hx hb dX5_throat_64 (by decide) ?_
          refine sr_iast hx hb hw (ya_5 t ad) h dX5_throat_65 (fun M9 H locs h hw => ?_)
          refine lv_aload_n hx hb dX5_throat_66 rfl (lv_at hl 0 rfl) ?_
          refine sr_getr hx hb hts qzX5 hown hw (yf_0_7 t ad) (hts _ qfX5_26) dX5_throat_67 ?_
          refine lv_aload_n hx hb dX5_throat_70 rfl (lv_at hl 0 rfl) ?_
          refine sr_geti hx hb hts qzX5 hown hw (yf_0_3 t ad) (hts _ qfX5_92) h dX5_throat_71 (fun v10 h => ?_)
          refine lv_iconst (v := 0) hx hb dX5_throat_74 (by decide) ?_
          refine sr_zast hx hb hw (ya_6 t ad) h dX5_throat_75 (fun M11 H locs h hw => ?_)
          refine lv_aload_n hx hb dX5_throat_76 rfl (lv_at hl 0 rfl) ?_
          refine lv_dup hx hb dX5_throat_77 rfl ?_
          refine sr_geti hx hb hts qzX5 hown hw (yf_0_3 t ad) (hts _ qfX5_92) h dX5_throat_78 (fun v12 h => ?_)
          refine lv_iconst (v := 1) hx hb dX5_throat_81 (by decide) ?_
          refine lv_iadd hx hb dX5_throat_82 ?_
          refine sr_puti hx hb hts qzX5 tyX5 tyX5_ok nmX5 hown hw (yf_0_3 t ad) rfl rfl (hts _ qfX5_92) h dX5_throat_83 (fun M13 H locs h hw => ?_)
          refine lv_aload_n hx hb dX5_throat_86 rfl (lv_at hl 0 rfl) ?_
          refine lv_iconst (v := 0) hx hb dX5_throat_87 (by decide) ?_
          refine sr_putz hx hb hts qzX5 tyX5 tyX5_ok nmX5 hown hw (yf_0_13 t ad) rfl rfl (hts _ qfX5_95) h dX5_throat_88 (fun M14 H locs h hw => ?_)
          refine lv_aload_n hx hb dX5_throat_91 rfl (lv_at hl 0 rfl) ?_
          refine sr_geti hx hb hts qzX5 hown hw (yf_0_3 t ad) (hts _ qfX5_92) h dX5_throat_92 (fun v15 h => ?_)
          refine lv_iconst (v := 1) hx hb dX5_throat_95 (by decide) ?_
          refine lv_isub hx hb dX5_throat_96 ?_
          obtain ⟨rfl, rfl⟩ := Prod.mk.inj (Option.some.inj h)
          exact ret _ _ _ _ hw rfl dX5_throat_97
        · have h := sr_ifp h hc
          refine lv_bipush (v := (-2)) hx hb dX5_throat_33 (by decide) ?_
          obtain ⟨rfl, rfl⟩ := Prod.mk.inj (Option.some.inj h)
          exact ret _ _ _ _ hw rfl dX5_throat_35
      · have h := sr_ifp h hc
        refine lv_iconst (v := (-1)) hx hb dX5_throat_21 (by decide) ?_
        obtain ⟨rfl, rfl⟩ := Prod.mk.inj (Option.some.inj h)
        exact ret _ _ _ _ hw rfl dX5_throat_22

noncomputable def f5_hinder (a1 : Int32) (a2 : Int32) (M : sr_M) : Option (Int32 × sr_M) :=
(f5_isThroat a1 M).bind fun v1 =>
if v1 = 0 then
(some ((-1), M))
else
(if a2 < 0 then
(some ((-1), M))
else
(if a2 ≤ 1000000000 then
(sr_st a1 300 M 5 a2 fun M2 =>
sr_putB M2 0 13 0 fun M3 =>
some (1, M3))
else
(some ((-1), M))))
set_option maxHeartbeats 4000000 in
set_option maxRecDepth 100000 in
theorem k5_hinder (l : Launch) (D : va_G) (t : Nat → ClassId) (ad : Nat → Nat) (a1 : Int32) (a2 : Int32) (M : sr_M) (r : Int32) (M' : sr_M) (h : f5_hinder a1 a2 M = some (r, M')) : sr_Mi l D vwCl (yty t) ad (ycf t ad) 26 yX5_hinder (.code yX5_hinder cX5_hinder 3 (some .int) :: sr_tbl) ({ frames := 1, cells := 0, slots := 0, locals := 21 }) [.ref (ad 0), .int a1, .int a2] M r M' := by
  refine sr_open_i (cc := cX5_hinder) (maxL := 3) (by decide) rfl (Nat.le_of_ble_eq_true rfl) ?_
  intro p e s m args below meth c A Q ls hx hb hml hts0 hown hA hw hl ret
  have hts : ∀ w ∈ sr_tbl, w.before args s = true := fun w hw => hts0 w (List.mem_cons_of_mem _ hw)
  have hown : s.vm.findClass RX5 = some m.cls := hown
  have hl : lv_has ls 3 [(0, .ref (ad 0)), (1, .int a1), (2, .int a2)] := hl
  have hw : yH D t ad A s M s.heap [] := hw
  unfold f5_hinder at h
  refine lv_aload_n hx hb dX5_hinder_0 rfl (lv_at hl 0 rfl) ?_
  refine lv_iload_n hx hb dX5_hinder_1 rfl (lv_at hl 1 rfl) ?_
  obtain ⟨v1, hc, h⟩ := sr_bind1 h
  refine sr_cVi (As := [.int a1]) (rest := []) ⟨hx, hb, hml, hown, hts⟩ (k5_isThroat l D t ad a1 M _ hc) (cwV 1 hts (sr_goodV qmX5_103 qiX5_isThroat qsX5_isThroat qnX5 qcX5_isThroat) rfl rfl rfl qdX5_isThroat ⟨Nat.le_of_ble_eq_true rfl, Nat.le_of_ble_eq_true rfl⟩) hw hA (yo_0 t ad) rfl hl.1 rfl (Nat.le_of_ble_eq_true rfl) dX5_hinder_2 (fun H locs hw => ?_)
  refine lv_if_eq (tgt := 18) hx hb dX5_hinder_5 (by decide) (fun hc => ?_) (fun hc => ?_)
  · have h := sr_ifp h hc
    refine lv_iconst (v := (-1)) hx hb dX5_hinder_18 (by decide) ?_
    obtain ⟨rfl, rfl⟩ := Prod.mk.inj (Option.some.inj h)
    exact ret _ _ _ _ hw rfl dX5_hinder_19
  · have h := sr_ifn h hc
    refine lv_iload_n hx hb dX5_hinder_8 rfl (lv_at hl 2 rfl) ?_
    refine lv_if_lt (tgt := 18) hx hb dX5_hinder_9 (by decide) (fun hc => ?_) (fun hc => ?_)
    · have h := sr_ifp h hc
      refine lv_iconst (v := (-1)) hx hb dX5_hinder_18 (by decide) ?_
      obtain ⟨rfl, rfl⟩ := Prod.mk.inj (Option.some.inj h)
      exact ret _ _ _ _ hw rfl dX5_hinder_19
    · have h := sr_ifn h hc
      refine lv_iload_n hx hb dX5_hinder_12 rfl (lv_at hl 2 rfl) ?_
      refine lv_ldc (v := 1000000000) hx hb hown (hts _ qkX5_106) dX5_hinder_13 ?_
      refine lv_icmp_le (tgt := 20) hx hb dX5_hinder_15 (by decide) (fun hc => ?_) (fun hc => ?_)
      · have h := sr_ifp h hc
        refine lv_aload_n hx hb dX5_hinder_20 rfl (lv_at hl 0 rfl) ?_
        refine sr_getr hx hb hts qzX5 hown hw (yf_0_6 t ad) (hts _ qfX5_23) dX5_hinder_21 ?_
        refine lv_iload_n hx hb dX5_hinder_24 rfl (lv_at hl 1 rfl) ?_
        refine lv_iload_n hx hb dX5_hinder_25 rfl (lv_at hl 2 rfl) ?_
        refine sr_iast hx hb hw (ya_5 t ad) h dX5_hinder_26 (fun M2 H locs h hw => ?_)
        refine lv_aload_n hx hb dX5_hinder_27 rfl (lv_at hl 0 rfl) ?_
        refine lv_iconst (v := 0) hx hb dX5_hinder_28 (by decide) ?_
        refine sr_putz hx hb hts qzX5 tyX5 tyX5_ok nmX5 hown hw (yf_0_13 t ad) rfl rfl (hts _ qfX5_95) h dX5_hinder_29 (fun M3 H locs h hw => ?_)
        refine lv_iconst (v := 1) hx hb dX5_hinder_32 (by decide) ?_
        obtain ⟨rfl, rfl⟩ := Prod.mk.inj (Option.some.inj h)
        exact ret _ _ _ _ hw rfl dX5_hinder_33
      · have h := sr_ifn h hc
        refine lv_iconst (v := (-1)) hx hb dX5_hinder_18 (by decide) ?_
        obtain ⟨rfl, rfl⟩ := Prod.mk.inj (Option.some.inj h)
        exact ret _ _ _ _ hw rfl dX5_hinder_19

noncomputable def f5_shut (a1 : Int32) (a2 : Int32) (M : sr_M) : Option (Int32 × sr_M) :=
(f5_isThroat a1 M).bind fun v1 =>
if v1 = 0 then
(some ((-1), M))
else
(sr_ld a1 300 (M.1 6) fun v2 =>
sr_jn (fun (v4 : Int32) =>
sr_stB a1 300 M 6 a2 fun M5 =>
sr_putB M5 0 13 0 fun M6 =>
some (v4, M6)) fun (K3 : Int32 → Option (Int32 × sr_M)) =>
if v2 = a2 then
(K3 0)
else
(K3 1))
set_option maxHeartbeats 4000000 in
set_option maxRecDepth 100000 in
theorem k5_shut (l : Launch) (D : va_G) (t : Nat → ClassId) (ad : Nat → Nat) (a1 : Int32) (a2 : Int32) (M : sr_M) (r : Int32) (M' : sr_M) (h : f5_shut a1 a2 M = some (r, M')) : sr_Mi l D vwCl (yty t) ad (ycf t ad) 26 yX5_shut (.code yX5_shut cX5_shut 4 (some .int) :: sr_tbl) ({ frames := 1, cells := 0, slots := 0, locals := 21 }) [.ref (ad 0), .int a1, .int a2] M r M' := by
  refine sr_open_i (cc := cX5_shut) (maxL := 4) (by decide) rfl (Nat.le_of_ble_eq_true rfl) ?_
  intro p e s m args below meth c A Q ls hx hb hml hts0 hown hA hw hl ret
  have hts : ∀ w ∈ sr_tbl, w.before args s = true := fun w hw => hts0 w (List.mem_cons_of_mem _ hw)
  have hown : s.vm.findClass RX5 = some m.cls := hown
  have hl : lv_has ls 4 [(0, .ref (ad 0)), (1, .int a1), (2, .int a2)] := hl
  have hw : yH D t ad A s M s.heap [] := hw
  unfold f5_shut at h
  refine lv_aload_n hx hb dX5_shut_0 rfl (lv_at hl 0 rfl) ?_
  refine lv_iload_n hx hb dX5_shut_1 rfl (lv_at hl 1 rfl) ?_
  obtain ⟨v1, hc, h⟩ := sr_bind1 h
  refine sr_cVi (As := [.int a1]) (rest := []) ⟨hx, hb, hml, hown, hts⟩ (k5_isThroat l D t ad a1 M _ hc) (cwV 1 hts (sr_goodV qmX5_103 qiX5_isThroat qsX5_isThroat qnX5 qcX5_isThroat) rfl rfl rfl qdX5_isThroat ⟨Nat.le_of_ble_eq_true rfl, Nat.le_of_ble_eq_true rfl⟩) hw hA (yo_0 t ad) rfl hl.1 rfl (Nat.le_of_ble_eq_true rfl) dX5_shut_2 (fun H locs hw => ?_)
  refine lv_if_ne (tgt := 10) hx hb dX5_shut_5 (by decide) (fun hc => ?_) (fun hc => ?_)
  · have h := sr_ifn h hc
    refine lv_aload_n hx hb dX5_shut_10 rfl (lv_at hl 0 rfl) ?_
    refine sr_getr hx hb hts qzX5 hown hw (yf_0_7 t ad) (hts _ qfX5_26) dX5_shut_11 ?_
    refine lv_iload_n hx hb dX5_shut_14 rfl (lv_at hl 1 rfl) ?_
    refine sr_zald hx hb hw (ya_6 t ad) h dX5_shut_15 (fun v2 h => ?_)
    refine lv_iload_n hx hb dX5_shut_16 rfl (lv_at hl 2 rfl) ?_
    refine sr_jn_rule (fun (K3 : Int32 → Option (Int32 × sr_M)) => ∀ (v4 : Int32), K3 v4 = some (r, M') → ∀ (H : Heap) (locs : List Loc) (ls : Array Slot), yH D t ad A s M H locs → lv_has ls 4 [(0, .ref (ad 0)), (1, .int a1), (2, .int a2)] → W p l e ({ frames := 1, cells := 0, slots := 0, locals := 21 }) s m args below meth c H locs 0 0 Q (F0 m 25 ls [.int v4])) h ?_ (fun K3 hK3 h => ?_)
    · intro v4 h H locs ls hw hl
      refine lv_istore_n (lv' := [(3, .int v4), (0, .ref (ad 0)), (1, .int a1), (2, .int a2)]) hx hb dX5_shut_25 rfl hl (by decide) rfl (fun ls hl => ?_)
      refine lv_aload_n hx hb dX5_shut_26 rfl (lv_at hl 1 rfl) ?_
      refine sr_getr hx hb hts qzX5 hown hw (yf_0_7 t ad) (hts _ qfX5_26) dX5_shut_27 ?_
      refine lv_iload_n hx hb dX5_shut_30 rfl (lv_at hl 2 rfl) ?_
      refine lv_iload_n hx hb dX5_shut_31 rfl (lv_at hl 3 rfl) ?_
      refine sr_zast hx hb hw (ya_6 t ad) h dX5_shut_32 (fun M5 H locs h hw => ?_)
      refine lv_aload_n hx hb dX5_shut_33 rfl (lv_at hl 1 rfl) ?_
      refine lv_iconst (v := 0) hx hb dX5_shut_34 (by decide) ?_
      refine sr_putz hx hb hts qzX5 tyX5 tyX5_ok nmX5 hown hw (yf_0_13 t ad) rfl rfl (hts _ qfX5_95) h dX5_shut_35 (fun M6 H locs h hw => ?_)
      refine lv_iload_n hx hb dX5_shut_38 rfl (lv_at hl 0 rfl) ?_
      obtain ⟨rfl, rfl⟩ := Prod.mk.inj (Option.some.inj h)
      exact ret _ _ _ _ hw rfl dX5_shut_39
    · refine lv_icmp_ne (tgt := 24) hx hb dX5_shut_17 (by decide) (fun hc => ?_) (fun hc => ?_)
      · have h := sr_ifn h hc
        refine lv_iconst (v := 1) hx hb dX5_shut_24 (by decide) ?_
        exact hK3 1 h _ _ _ hw (lv_sub hl [0, 1, 2] rfl)
      · have h := sr_ifp h hc
        refine lv_iconst (v := 0) hx hb dX5_shut_20 (by decide) ?_
        refine lv_goto (tgt := 25) hx hb dX5_shut_21 (by decide) ?_
        exact hK3 0 h _ _ _ hw (lv_sub hl [0, 1, 2] rfl)
  · have h := sr_ifp h hc
    refine lv_iconst (v := (-1)) hx hb dX5_shut_8 (by decide) ?_
    obtain ⟨rfl, rfl⟩ := Prod.mk.inj (Option.some.inj h)
    exact ret _ _ _ _ hw rfl dX5_shut_9

noncomputable def f5_inlet (a1 : Int32) (a2 : Int32) (M : sr_M) : Option (Int32 × sr_M) :=
(f5_isPore a1 M).bind fun v1 =>
if v1 = 0 then
(some ((-1), M))
else
(sr_ld a1 120 (M.1 2) fun v2 =>
sr_jn (fun (v4 : Int32) =>
sr_stB a1 120 M 2 a2 fun M5 =>
sr_putB M5 0 13 0 fun M6 =>
some (v4, M6)) fun (K3 : Int32 → Option (Int32 × sr_M)) =>
if v2 = a2 then
(K3 0)
else
(K3 1))
set_option maxHeartbeats 4000000 in
set_option maxRecDepth 100000 in
theorem k5_inlet (l : Launch) (D : va_G) (t : Nat → ClassId) (ad : Nat → Nat) (a1 : Int32) (a2 : Int32) (M : sr_M) (r : Int32) (M' : sr_M) (h : f5_inlet a1 a2 M = some (r, M')) : sr_Mi l D vwCl (yty t) ad (ycf t ad) 26 yX5_inlet (.code yX5_inlet cX5_inlet 4 (some .int) :: sr_tbl) ({ frames := 1, cells := 0, slots := 0, locals := 21 }) [.ref (ad 0), .int a1, .int a2] M r M' := by
  refine sr_open_i (cc := cX5_inlet) (maxL := 4) (by decide) rfl (Nat.le_of_ble_eq_true rfl) ?_
  intro p e s m args below meth c A Q ls hx hb hml hts0 hown hA hw hl ret
  have hts : ∀ w ∈ sr_tbl, w.before args s = true := fun w hw => hts0 w (List.mem_cons_of_mem _ hw)
  have hown : s.vm.findClass RX5 = some m.cls := hown
  have hl : lv_has ls 4 [(0, .ref (ad 0)), (1, .int a1), (2, .int a2)] := hl
  have hw : yH D t ad A s M s.heap [] := hw
  unfold f5_inlet at h
  refine lv_aload_n hx hb dX5_inlet_0 rfl (lv_at hl 0 rfl) ?_
  refine lv_iload_n hx hb dX5_inlet_1 rfl (lv_at hl 1 rfl) ?_
  obtain ⟨v1, hc, h⟩ := sr_bind1 h
  refine sr_cVi (As := [.int a1]) (rest := []) ⟨hx, hb, hml, hown, hts⟩ (k5_isPore l D t ad a1 M _ hc) (cwV 1 hts (sr_goodV qmX5_99 qiX5_isPore qsX5_isPore qnX5 qcX5_isPore) rfl rfl rfl qdX5_isPore ⟨Nat.le_of_ble_eq_true rfl, Nat.le_of_ble_eq_true rfl⟩) hw hA (yo_0 t ad) rfl hl.1 rfl (Nat.le_of_ble_eq_true rfl) dX5_inlet_2 (fun H locs hw => ?_)
  refine lv_if_ne (tgt := 10) hx hb dX5_inlet_5 (by decide) (fun hc => ?_) (fun hc => ?_)
  · have h := sr_ifn h hc
    refine lv_aload_n hx hb dX5_inlet_10 rfl (lv_at hl 0 rfl) ?_
    refine sr_getr hx hb hts qzX5 hown hw (yf_0_2 t ad) (hts _ qfX5_13) dX5_inlet_11 ?_
    refine lv_iload_n hx hb dX5_inlet_14 rfl (lv_at hl 1 rfl) ?_
    refine sr_zald hx hb hw (ya_2 t ad) h dX5_inlet_15 (fun v2 h => ?_)
    refine lv_iload_n hx hb dX5_inlet_16 rfl (lv_at hl 2 rfl) ?_
    refine sr_jn_rule (fun (K3 : Int32 → Option (Int32 × sr_M)) => ∀ (v4 : Int32), K3 v4 = some (r, M') → ∀ (H : Heap) (locs : List Loc) (ls : Array Slot), yH D t ad A s M H locs → lv_has ls 4 [(0, .ref (ad 0)), (1, .int a1), (2, .int a2)] → W p l e ({ frames := 1, cells := 0, slots := 0, locals := 21 }) s m args below meth c H locs 0 0 Q (F0 m 25 ls [.int v4])) h ?_ (fun K3 hK3 h => ?_)
    · intro v4 h H locs ls hw hl
      refine lv_istore_n (lv' := [(3, .int v4), (0, .ref (ad 0)), (1, .int a1), (2, .int a2)]) hx hb dX5_inlet_25 rfl hl (by decide) rfl (fun ls hl => ?_)
      refine lv_aload_n hx hb dX5_inlet_26 rfl (lv_at hl 1 rfl) ?_
      refine sr_getr hx hb hts qzX5 hown hw (yf_0_2 t ad) (hts _ qfX5_13) dX5_inlet_27 ?_
      refine lv_iload_n hx hb dX5_inlet_30 rfl (lv_at hl 2 rfl) ?_
      refine lv_iload_n hx hb dX5_inlet_31 rfl (lv_at hl 3 rfl) ?_
      refine sr_zast hx hb hw (ya_2 t ad) h dX5_inlet_32 (fun M5 H locs h hw => ?_)
      refine lv_aload_n hx hb dX5_inlet_33 rfl (lv_at hl 1 rfl) ?_
      refine lv_iconst (v := 0) hx hb dX5_inlet_34 (by decide) ?_
      refine sr_putz hx hb hts qzX5 tyX5 tyX5_ok nmX5 hown hw (yf_0_13 t ad) rfl rfl (hts _ qfX5_95) h dX5_inlet_35 (fun M6 H locs h hw => ?_)
      refine lv_iload_n hx hb dX5_inlet_38 rfl (lv_at hl 0 rfl) ?_
      obtain ⟨rfl, rfl⟩ := Prod.mk.inj (Option.some.inj h)
      exact ret _ _ _ _ hw rfl dX5_inlet_39
    · refine lv_icmp_ne (tgt := 24) hx hb dX5_inlet_17 (by decide) (fun hc => ?_) (fun hc => ?_)
      · have h := sr_ifn h hc
        refine lv_iconst (v := 1) hx hb dX5_inlet_24 (by decide) ?_
        exact hK3 1 h _ _ _ hw (lv_sub hl [0, 1, 2] rfl)
      · have h := sr_ifp h hc
        refine lv_iconst (v := 0) hx hb dX5_inlet_20 (by decide) ?_
        refine lv_goto (tgt := 25) hx hb dX5_inlet_21 (by decide) ?_
        exact hK3 0 h _ _ _ hw (lv_sub hl [0, 1, 2] rfl)
  · have h := sr_ifp h hc
    refine lv_iconst (v := (-1)) hx hb dX5_inlet_8 (by decide) ?_
    obtain ⟨rfl, rfl⟩ := Prod.mk.inj (Option.some.inj h)
    exact ret _ _ _ _ hw rfl dX5_inlet_9

noncomputable def f5_trapping (a1 : Int32) (M : sr_M) : Option (Int32 × sr_M) :=
sr_bnd (M.1 0 8) fun v1 =>
sr_jn (fun (v3 : Int32) =>
sr_putB M 0 8 a1 fun M4 =>
sr_putB M4 0 13 0 fun M5 =>
some (v3, M5)) fun (K2 : Int32 → Option (Int32 × sr_M)) =>
if v1 = a1 then
(K2 0)
else
(K2 1)
set_option maxHeartbeats 4000000 in
set_option maxRecDepth 100000 in
theorem k5_trapping (l : Launch) (D : va_G) (t : Nat → ClassId) (ad : Nat → Nat) (a1 : Int32) (M : sr_M) (r : Int32) (M' : sr_M) (h : f5_trapping a1 M = some (r, M')) : sr_Mi l D vwCl (yty t) ad (ycf t ad) 26 yX5_trapping (.code yX5_trapping cX5_trapping 3 (some .int) :: sr_tbl) ({ frames := 0, cells := 0, slots := 0, locals := 0 }) [.ref (ad 0), .int a1] M r M' := by
  refine sr_open_i (cc := cX5_trapping) (maxL := 3) (by decide) rfl (Nat.le_of_ble_eq_true rfl) ?_
  intro p e s m args below meth c A Q ls hx hb hml hts0 hown hA hw hl ret
  have hts : ∀ w ∈ sr_tbl, w.before args s = true := fun w hw => hts0 w (List.mem_cons_of_mem _ hw)
  have hown : s.vm.findClass RX5 = some m.cls := hown
  have hl : lv_has ls 3 [(0, .ref (ad 0)), (1, .int a1)] := hl
  have hw : yH D t ad A s M s.heap [] := hw
  unfold f5_trapping at h
  refine lv_aload_n hx hb dX5_trapping_0 rfl (lv_at hl 0 rfl) ?_
  refine sr_geti hx hb hts qzX5 hown hw (yf_0_8 t ad) (hts _ qfX5_107) h dX5_trapping_1 (fun v1 h => ?_)
  refine lv_iload_n hx hb dX5_trapping_4 rfl (lv_at hl 1 rfl) ?_
  refine sr_jn_rule (fun (K2 : Int32 → Option (Int32 × sr_M)) => ∀ (v3 : Int32), K2 v3 = some (r, M') → ∀ (H : Heap) (locs : List Loc) (ls : Array Slot), yH D t ad A s M H locs → lv_has ls 3 [(0, .ref (ad 0)), (1, .int a1)] → W p l e ({ frames := 0, cells := 0, slots := 0, locals := 0 }) s m args below meth c H locs 0 0 Q (F0 m 13 ls [.int v3])) h ?_ (fun K2 hK2 h => ?_)
  · intro v3 h H locs ls hw hl
    refine lv_istore_n (lv' := [(2, .int v3), (0, .ref (ad 0)), (1, .int a1)]) hx hb dX5_trapping_13 rfl hl (by decide) rfl (fun ls hl => ?_)
    refine lv_aload_n hx hb dX5_trapping_14 rfl (lv_at hl 1 rfl) ?_
    refine lv_iload_n hx hb dX5_trapping_15 rfl (lv_at hl 2 rfl) ?_
    refine sr_putz hx hb hts qzX5 tyX5 tyX5_ok nmX5 hown hw (yf_0_8 t ad) rfl rfl (hts _ qfX5_107) h dX5_trapping_16 (fun M4 H locs h hw => ?_)
    refine lv_aload_n hx hb dX5_trapping_19 rfl (lv_at hl 1 rfl) ?_
    refine lv_iconst (v := 0) hx hb dX5_trapping_20 (by decide) ?_
    refine sr_putz hx hb hts qzX5 tyX5 tyX5_ok nmX5 hown hw (yf_0_13 t ad) rfl rfl (hts _ qfX5_95) h dX5_trapping_21 (fun M5 H locs h hw => ?_)
    refine lv_iload_n hx hb dX5_trapping_24 rfl (lv_at hl 0 rfl) ?_
    obtain ⟨rfl, rfl⟩ := Prod.mk.inj (Option.some.inj h)
    exact ret _ _ _ _ hw rfl dX5_trapping_25
  · refine lv_icmp_ne (tgt := 12) hx hb dX5_trapping_5 (by decide) (fun hc => ?_) (fun hc => ?_)
    · have h := sr_ifn h hc
      refine lv_iconst (v := 1) hx hb dX5_trapping_12 (by decide) ?_
      exact hK2 1 h _ _ _ hw (lv_sub hl [0, 1] rfl)
    · have h := sr_ifp h hc
      refine lv_iconst (v := 0) hx hb dX5_trapping_8 (by decide) ?_
      refine lv_goto (tgt := 13) hx hb dX5_trapping_9 (by decide) ?_
      exact hK2 0 h _ _ _ hw (lv_sub hl [0, 1] rfl)

noncomputable def f5_isLess (a1 : Int32) (a2 : Int32) (M : sr_M) : Option (Int32) :=
sr_ld a1 300 (M.1 5) fun v1 =>
sr_ld a2 300 (M.1 5) fun v2 =>
if v1 < v2 then
(some 1)
else
(sr_ld a1 300 (M.1 5) fun v3 =>
sr_ld a2 300 (M.1 5) fun v4 =>
if v3 = v4 then
(if a2 ≤ a1 then
(some 0)
else
(some 1))
else
(some 0))
set_option maxHeartbeats 4000000 in
set_option maxRecDepth 100000 in
theorem k5_isLess (l : Launch) (D : va_G) (t : Nat → ClassId) (ad : Nat → Nat) (a1 : Int32) (a2 : Int32) (M : sr_M) (r : Int32) (h : f5_isLess a1 a2 M = some r) : sr_Mi l D vwCl (yty t) ad (ycf t ad) 26 yX5_isLess (.code yX5_isLess cX5_isLess 3 (some .boolean) :: sr_tbl) ({ frames := 0, cells := 0, slots := 0, locals := 0 }) [.ref (ad 0), .int a1, .int a2] M r M := by
  refine sr_open_i (cc := cX5_isLess) (maxL := 3) (by decide) rfl (Nat.le_of_ble_eq_true rfl) ?_
  intro p e s m args below meth c A Q ls hx hb hml hts0 hown hA hw hl ret
  have hts : ∀ w ∈ sr_tbl, w.before args s = true := fun w hw => hts0 w (List.mem_cons_of_mem _ hw)
  have hown : s.vm.findClass RX5 = some m.cls := hown
  have hl : lv_has ls 3 [(0, .ref (ad 0)), (1, .int a1), (2, .int a2)] := hl
  have hw : yH D t ad A s M s.heap [] := hw
  unfold f5_isLess at h
  refine lv_aload_n hx hb dX5_isLess_0 rfl (lv_at hl 0 rfl) ?_
  refine sr_getr hx hb hts qzX5 hown hw (yf_0_6 t ad) (hts _ qfX5_23) dX5_isLess_1 ?_
  refine lv_iload_n hx hb dX5_isLess_4 rfl (lv_at hl 1 rfl) ?_
  refine sr_iald hx hb hw (ya_5 t ad) h dX5_isLess_5 (fun v1 h => ?_)
  refine lv_aload_n hx hb dX5_isLess_6 rfl (lv_at hl 0 rfl) ?_
  refine sr_getr hx hb hts qzX5 hown hw (yf_0_6 t ad) (hts _ qfX5_23) dX5_isLess_7 ?_
  refine lv_iload_n hx hb dX5_isLess_10 rfl (lv_at hl 2 rfl) ?_
  refine sr_iald hx hb hw (ya_5 t ad) h dX5_isLess_11 (fun v2 h => ?_)
  refine lv_icmp_lt (tgt := 35) hx hb dX5_isLess_12 (by decide) (fun hc => ?_) (fun hc => ?_)
  · have h := sr_ifp h hc
    refine lv_iconst (v := 1) hx hb dX5_isLess_35 (by decide) ?_
    refine lv_goto (tgt := 40) hx hb dX5_isLess_36 (by decide) ?_
    obtain rfl := Option.some.inj h
    exact ret _ _ _ _ hw rfl dX5_isLess_40
  · have h := sr_ifn h hc
    refine lv_aload_n hx hb dX5_isLess_15 rfl (lv_at hl 0 rfl) ?_
    refine sr_getr hx hb hts qzX5 hown hw (yf_0_6 t ad) (hts _ qfX5_23) dX5_isLess_16 ?_
    refine lv_iload_n hx hb dX5_isLess_19 rfl (lv_at hl 1 rfl) ?_
    refine sr_iald hx hb hw (ya_5 t ad) h dX5_isLess_20 (fun v3 h => ?_)
    refine lv_aload_n hx hb dX5_isLess_21 rfl (lv_at hl 0 rfl) ?_
    refine sr_getr hx hb hts qzX5 hown hw (yf_0_6 t ad) (hts _ qfX5_23) dX5_isLess_22 ?_
    refine lv_iload_n hx hb dX5_isLess_25 rfl (lv_at hl 2 rfl) ?_
    refine sr_iald hx hb hw (ya_5 t ad) h dX5_isLess_26 (fun v4 h => ?_)
    refine lv_icmp_ne (tgt := 39) hx hb dX5_isLess_27 (by decide) (fun hc => ?_) (fun hc => ?_)
    · have h := sr_ifn h hc
      refine lv_iconst (v := 0) hx hb dX5_isLess_39 (by decide) ?_
      obtain rfl := Option.some.inj h
      exact ret _ _ _ _ hw rfl dX5_isLess_40
    · have h := sr_ifp h hc
      refine lv_iload_n hx hb dX5_isLess_30 rfl (lv_at hl 1 rfl) ?_
      refine lv_iload_n hx hb dX5_isLess_31 rfl (lv_at hl 2 rfl) ?_
      refine lv_icmp_ge (tgt := 39) hx hb dX5_isLess_32 (by decide) (fun hc => ?_) (fun hc => ?_)
      · have h := sr_ifp h hc
        refine lv_iconst (v := 0) hx hb dX5_isLess_39 (by decide) ?_
        obtain rfl := Option.some.inj h
        exact ret _ _ _ _ hw rfl dX5_isLess_40
      · have h := sr_ifn h hc
        refine lv_iconst (v := 1) hx hb dX5_isLess_35 (by decide) ?_
        refine lv_goto (tgt := 40) hx hb dX5_isLess_36 (by decide) ?_
        obtain rfl := Option.some.inj h
        exact ret _ _ _ _ hw rfl dX5_isLess_40

noncomputable def f5_rank_L4 (a1 : Int32) (M : sr_M) (v2 : Int32) (v3 : Int32) : Option ((Int32 × Int32) ⊕ (Int32)) :=
sr_bnd (M.1 0 3) fun v4 =>
if v4 ≤ v3 then
(some (.inr v2))
else
(sr_ld v3 300 (M.1 6) fun v5 =>
sr_jn (some (.inl ((v2 + 0), (v3 + 1)))) fun (K6 : Option ((Int32 × Int32) ⊕ (Int32))) =>
if v5 = 0 then
((f5_isLess v3 a1 M).bind fun v7 =>
if v7 = 0 then
(K6)
else
(some (.inl ((v2 + 1), (v3 + 1)))))
else
(K6))
noncomputable def f5_rank (a1 : Int32) (M : sr_M) : Option (Int32) :=
(sr_lp (fun z1 : Int32 × Int32 => f5_rank_L4 a1 M z1.1 z1.2) (0, 0)).bind fun w1 =>
some w1
set_option maxHeartbeats 4000000 in
set_option maxRecDepth 100000 in
theorem k5_rank (l : Launch) (D : va_G) (t : Nat → ClassId) (ad : Nat → Nat) (a1 : Int32) (M : sr_M) (r : Int32) (h : f5_rank a1 M = some r) : sr_Mi l D vwCl (yty t) ad (ycf t ad) 26 yX5_rank (.code yX5_rank cX5_rank 4 (some .int) :: sr_tbl) ({ frames := 1, cells := 0, slots := 0, locals := 22 }) [.ref (ad 0), .int a1] M r M := by
  refine sr_open_i (cc := cX5_rank) (maxL := 4) (by decide) rfl (Nat.le_of_ble_eq_true rfl) ?_
  intro p e s m args below meth c A Q ls hx hb hml hts0 hown hA hw hl ret
  have hts : ∀ w ∈ sr_tbl, w.before args s = true := fun w hw => hts0 w (List.mem_cons_of_mem _ hw)
  have hown : s.vm.findClass RX5 = some m.cls := hown
  have hl : lv_has ls 4 [(0, .ref (ad 0)), (1, .int a1)] := hl
  have hw : yH D t ad A s M s.heap [] := hw
  unfold f5_rank at h
  refine lv_iconst (v := 0) hx hb dX5_rank_0 (by decide) ?_
  refine lv_istore_n (lv' := [(2, .int 0), (0, .ref (ad 0)), (1, .int a1)]) hx hb dX5_rank_1 rfl hl (by decide) rfl (fun ls hl => ?_)
  refine lv_iconst (v := 0) hx hb dX5_rank_2 (by decide) ?_
  refine lv_istore_n (lv' := [(3, .int 0), (2, .int 0), (0, .ref (ad 0)), (1, .int a1)]) hx hb dX5_rank_3 rfl hl (by decide) rfl (fun ls hl => ?_)
  obtain ⟨x1, hlp, hE1⟩ := sr_bind h
  have hX1 : ∀ (v8 : Int32), v8 = x1 → ∀ (H : Heap) (locs : List Loc) (ls : Array Slot), yH D t ad A s M H locs → lv_has ls 4 [(2, .int v8)] → W p l e ({ frames := 1, cells := 0, slots := 0, locals := 22 }) s m args below meth c H locs 0 0 Q (F0 m 44 ls []) := by
    intro v8 ex H locs ls hw hl
    have h := hE1 _ ex
    try dsimp only at h
    refine lv_iload_n hx hb dX5_rank_44 rfl (lv_at hl 0 rfl) ?_
    obtain rfl := Option.some.inj h
    exact ret _ _ _ _ hw rfl dX5_rank_45
  refine sr_lp_rule (fun (z1 : Int32 × Int32) => ∀ (H : Heap) (locs : List Loc) (ls : Array Slot), yH D t ad A s M H locs → lv_has ls 4 [(0, .ref (ad 0)), (1, .int a1), (2, .int z1.1), (3, .int z1.2)] → W p l e ({ frames := 1, cells := 0, slots := 0, locals := 22 }) s m args below meth c H locs 0 0 Q (F0 m 4 ls [])) ?_ hlp _ _ _ hw (lv_sub hl [2, 3, 1, 0] rfl)
  rintro ⟨v2, v3⟩ y1 h hi1 he1 H locs ls hw hl
  have h : f5_rank_L4 a1 M v2 v3 = some y1 := h
  have hw : yH D t ad A s M H locs := hw
  have hl : lv_has ls 4 [(0, .ref (ad 0)), (1, .int a1), (2, .int v2), (3, .int v3)] := hl
  unfold f5_rank_L4 at h
  refine lv_iload_n hx hb dX5_rank_4 rfl (lv_at hl 3 rfl) ?_
  refine lv_aload_n hx hb dX5_rank_5 rfl (lv_at hl 0 rfl) ?_
  refine sr_geti hx hb hts qzX5 hown hw (yf_0_3 t ad) (hts _ qfX5_92) h dX5_rank_6 (fun v4 h => ?_)
  refine lv_icmp_ge (tgt := 44) hx hb dX5_rank_9 (by decide) (fun hc => ?_) (fun hc => ?_)
  · have h := sr_ifp h hc
    exact hX1 v2 (he1 _ (Option.some.inj h).symm) _ _ _ hw (lv_sub hl [2] rfl)
  · have h := sr_ifn h hc
    refine lv_iload_n hx hb dX5_rank_12 rfl (lv_at hl 2 rfl) ?_
    refine lv_aload_n hx hb dX5_rank_13 rfl (lv_at hl 0 rfl) ?_
    refine sr_getr hx hb hts qzX5 hown hw (yf_0_7 t ad) (hts _ qfX5_26) dX5_rank_14 ?_
    refine lv_iload_n hx hb dX5_rank_17 rfl (lv_at hl 3 rfl) ?_
    refine sr_zald hx hb hw (ya_6 t ad) h dX5_rank_18 (fun v5 h => ?_)
    refine sr_jn_rule (fun (K6 : Option ((Int32 × Int32) ⊕ (Int32))) => K6 = some y1 → ∀ (H : Heap) (locs : List Loc) (ls : Array Slot), yH D t ad A s M H locs → lv_has ls 4 [(0, .ref (ad 0)), (1, .int a1), (3, .int v3)] → W p l e ({ frames := 1, cells := 0, slots := 0, locals := 22 }) s m args below meth c H locs 0 0 Q (F0 m 35 ls [.int v2])) h ?_ (fun K6 hK6 h => ?_)
    · intro  h H locs ls hw hl
      refine lv_iconst (v := 0) hx hb dX5_rank_35 (by decide) ?_
      refine lv_iadd hx hb dX5_rank_36 ?_
      refine lv_istore_n (lv' := [(2, .int (v2 + 0)), (0, .ref (ad 0)), (1, .int a1), (3, .int v3)]) hx hb dX5_rank_37 rfl hl (by decide) rfl (fun ls hl => ?_)
      refine lv_iinc (v := (v3 + 1)) (lv' := [(3, .int (v3 + 1)), (2, .int (v2 + 0)), (0, .ref (ad 0)), (1, .int a1)]) hx hb dX5_rank_38 hl (k := 3) rfl rfl (by decide) rfl (fun ls hl => ?_)
      refine lv_goto (tgt := 4) hx hb dX5_rank_41 (by decide) ?_
      exact hi1 ((v2 + 0), (v3 + 1)) (Option.some.inj h).symm _ _ _ hw (lv_sub hl [2, 3, 1, 0] rfl)
    · refine lv_if_ne (tgt := 35) hx hb dX5_rank_19 (by decide) (fun hc => ?_) (fun hc => ?_)
      · have h := sr_ifn h hc
        exact hK6  h _ _ _ hw (lv_sub hl [0, 1, 3] rfl)
      · have h := sr_ifp h hc
        refine lv_aload_n hx hb dX5_rank_22 rfl (lv_at hl 0 rfl) ?_
        refine lv_iload_n hx hb dX5_rank_23 rfl (lv_at hl 3 rfl) ?_
        refine lv_iload_n hx hb dX5_rank_24 rfl (lv_at hl 1 rfl) ?_
        obtain ⟨v7, hc, h⟩ := sr_bind1 h
        refine sr_cVi (As := [.int v3, .int a1]) (rest := [.int v2]) ⟨hx, hb, hml, hown, hts⟩ (k5_isLess l D t ad v3 a1 M _ hc) (cwV 2 hts (sr_goodV qmX5_110 qiX5_isLess qsX5_isLess qnX5 qcX5_isLess) rfl rfl rfl qdX5_isLess ⟨Nat.le_of_ble_eq_true rfl, Nat.le_of_ble_eq_true rfl⟩) hw hA (yo_0 t ad) rfl hl.1 rfl (Nat.le_of_ble_eq_true rfl) dX5_rank_25 (fun H locs hw => ?_)
        refine lv_if_eq (tgt := 35) hx hb dX5_rank_28 (by decide) (fun hc => ?_) (fun hc => ?_)
        · have h := sr_ifp h hc
          exact hK6  h _ _ _ hw (lv_sub hl [0, 1, 3] rfl)
        · have h := sr_ifn h hc
          refine lv_iconst (v := 1) hx hb dX5_rank_31 (by decide) ?_
          refine lv_goto (tgt := 36) hx hb dX5_rank_32 (by decide) ?_
          refine lv_iadd hx hb dX5_rank_36 ?_
          refine lv_istore_n (lv' := [(2, .int (v2 + 1)), (0, .ref (ad 0)), (1, .int a1), (3, .int v3)]) hx hb dX5_rank_37 rfl hl (by decide) rfl (fun ls hl => ?_)
          refine lv_iinc (v := (v3 + 1)) (lv' := [(3, .int (v3 + 1)), (2, .int (v2 + 1)), (0, .ref (ad 0)), (1, .int a1)]) hx hb dX5_rank_38 hl (k := 3) rfl rfl (by decide) rfl (fun ls hl => ?_)
          refine lv_goto (tgt := 4) hx hb dX5_rank_41 (by decide) ?_
          exact hi1 ((v2 + 1), (v3 + 1)) (Option.some.inj h).symm _ _ _ hw (lv_sub hl [2, 3, 1, 0] rfl)

noncomputable def f5_about (a1 : Int32) (a2 : Int32) (M : sr_M) : Option (Int32) :=
(f5_isThroat a1 M).bind fun v1 =>
if v1 = 0 then
(some (-1))
else
((if a2 = 0 then
(sr_ld a1 300 (M.1 3) fun v7 =>
some v7)
else
(if a2 = 1 then
(sr_ld a1 300 (M.1 4) fun v6 =>
some v6)
else
(if a2 = 2 then
(sr_ld a1 300 (M.1 5) fun v5 =>
some v5)
else
(if a2 = 3 then
(sr_ld a1 300 (M.1 6) fun v4 =>
if v4 = 0 then
(some 1)
else
(some 0))
else
(if a2 = 4 then
(sr_ld a1 300 (M.1 6) fun v2 =>
if v2 = 0 then
((f5_rank a1 M).bind fun v3 =>
some v3)
else
(some (-2)))
else
(some (-1))))))))
set_option maxHeartbeats 4000000 in
set_option maxRecDepth 100000 in
theorem k5_about (l : Launch) (D : va_G) (t : Nat → ClassId) (ad : Nat → Nat) (a1 : Int32) (a2 : Int32) (M : sr_M) (r : Int32) (h : f5_about a1 a2 M = some r) : sr_Mi l D vwCl (yty t) ad (ycf t ad) 26 yX5_about (.code yX5_about cX5_about 3 (some .int) :: sr_tbl) ({ frames := 2, cells := 0, slots := 0, locals := 45 }) [.ref (ad 0), .int a1, .int a2] M r M := by
  refine sr_open_i (cc := cX5_about) (maxL := 3) (by decide) rfl (Nat.le_of_ble_eq_true rfl) ?_
  intro p e s m args below meth c A Q ls hx hb hml hts0 hown hA hw hl ret
  have hts : ∀ w ∈ sr_tbl, w.before args s = true := fun w hw => hts0 w (List.mem_cons_of_mem _ hw)
  have hown : s.vm.findClass RX5 = some m.cls := hown
  have hl : lv_has ls 3 [(0, .ref (ad 0)), (1, .int a1), (2, .int a2)] := hl
  have hw : yH D t ad A s M s.heap [] := hw
  unfold f5_about at h
  refine lv_aload_n hx hb dX5_about_0 rfl (lv_at hl 0 rfl) ?_
  refine lv_iload_n hx hb dX5_about_1 rfl (lv_at hl 1 rfl) ?_
  obtain ⟨v1, hc, h⟩ := sr_bind1 h
  refine sr_cVi (As := [.int a1]) (rest := []) ⟨hx, hb, hml, hown, hts⟩ (k5_isThroat l D t ad a1 M _ hc) (cwV 1 hts (sr_goodV qmX5_103 qiX5_isThroat qsX5_isThroat qnX5 qcX5_isThroat) rfl rfl rfl qdX5_isThroat ⟨Nat.le_of_ble_eq_true rfl, Nat.le_of_ble_eq_true rfl⟩) hw hA (yo_0 t ad) rfl hl.1 rfl (Nat.le_of_ble_eq_true rfl) dX5_about_2 (fun H locs hw => ?_)
  refine lv_if_ne (tgt := 10) hx hb dX5_about_5 (by decide) (fun hc => ?_) (fun hc => ?_)
  · have h := sr_ifn h hc
    refine lv_iload_n hx hb dX5_about_10 rfl (lv_at hl 2 rfl) ?_
    rcases Classical.em (a2 = 0) with hc0 | hc0
    · have h := sr_ifp h hc0
      have ex := hc0
      refine lv_tableIn (off := 33) (tgt := 44) hx hb dX5_about_11 (by rw [ex]; decide) (by rw [ex]; decide) (by rw [ex]; decide) (by decide) ?_
      refine lv_aload_n hx hb dX5_about_44 rfl (lv_at hl 0 rfl) ?_
      refine sr_getr hx hb hts qzX5 hown hw (yf_0_4 t ad) (hts _ qfX5_17) dX5_about_45 ?_
      refine lv_iload_n hx hb dX5_about_48 rfl (lv_at hl 1 rfl) ?_
      refine sr_iald hx hb hw (ya_3 t ad) h dX5_about_49 (fun v7 h => ?_)
      obtain rfl := Option.some.inj h
      exact ret _ _ _ _ hw rfl dX5_about_50
    · have h := sr_ifn h hc0
      rcases Classical.em (a2 = 1) with hc1 | hc1
      · have h := sr_ifp h hc1
        have ex := hc1
        refine lv_tableIn (off := 40) (tgt := 51) hx hb dX5_about_11 (by rw [ex]; decide) (by rw [ex]; decide) (by rw [ex]; decide) (by decide) ?_
        refine lv_aload_n hx hb dX5_about_51 rfl (lv_at hl 0 rfl) ?_
        refine sr_getr hx hb hts qzX5 hown hw (yf_0_5 t ad) (hts _ qfX5_20) dX5_about_52 ?_
        refine lv_iload_n hx hb dX5_about_55 rfl (lv_at hl 1 rfl) ?_
        refine sr_iald hx hb hw (ya_4 t ad) h dX5_about_56 (fun v6 h => ?_)
        obtain rfl := Option.some.inj h
        exact ret _ _ _ _ hw rfl dX5_about_57
      · have h := sr_ifn h hc1
        rcases Classical.em (a2 = 2) with hc2 | hc2
        · have h := sr_ifp h hc2
          have ex := hc2
          refine lv_tableIn (off := 47) (tgt := 58) hx hb dX5_about_11 (by rw [ex]; decide) (by rw [ex]; decide) (by rw [ex]; decide) (by decide) ?_
          refine lv_aload_n hx hb dX5_about_58 rfl (lv_at hl 0 rfl) ?_
          refine sr_getr hx hb hts qzX5 hown hw (yf_0_6 t ad) (hts _ qfX5_23) dX5_about_59 ?_
          refine lv_iload_n hx hb dX5_about_62 rfl (lv_at hl 1 rfl) ?_
          refine sr_iald hx hb hw (ya_5 t ad) h dX5_about_63 (fun v5 h => ?_)
          obtain rfl := Option.some.inj h
          exact ret _ _ _ _ hw rfl dX5_about_64
        · have h := sr_ifn h hc2
          rcases Classical.em (a2 = 3) with hc3 | hc3
          · have h := sr_ifp h hc3
            have ex := hc3
            refine lv_tableIn (off := 54) (tgt := 65) hx hb dX5_about_11 (by rw [ex]; decide) (by rw [ex]; decide) (by rw [ex]; decide) (by decide) ?_
            refine lv_aload_n hx hb dX5_about_65 rfl (lv_at hl 0 rfl) ?_
            refine sr_getr hx hb hts qzX5 hown hw (yf_0_7 t ad) (hts _ qfX5_26) dX5_about_66 ?_
            refine lv_iload_n hx hb dX5_about_69 rfl (lv_at hl 1 rfl) ?_
            refine sr_zald hx hb hw (ya_6 t ad) h dX5_about_70 (fun v4 h => ?_)
            refine lv_if_eq (tgt := 78) hx hb dX5_about_71 (by decide) (fun hc => ?_) (fun hc => ?_)
            · have h := sr_ifp h hc
              refine lv_iconst (v := 1) hx hb dX5_about_78 (by decide) ?_
              obtain rfl := Option.some.inj h
              exact ret _ _ _ _ hw rfl dX5_about_79
            · have h := sr_ifn h hc
              refine lv_iconst (v := 0) hx hb dX5_about_74 (by decide) ?_
              refine lv_goto (tgt := 79) hx hb dX5_about_75 (by decide) ?_
              obtain rfl := Option.some.inj h
              exact ret _ _ _ _ hw rfl dX5_about_79
          · have h := sr_ifn h hc3
            rcases Classical.em (a2 = 4) with hc4 | hc4
            · have h := sr_ifp h hc4
              have ex := hc4
              refine lv_tableIn (off := 69) (tgt := 80) hx hb dX5_about_11 (by rw [ex]; decide) (by rw [ex]; decide) (by rw [ex]; decide) (by decide) ?_
              refine lv_aload_n hx hb dX5_about_80 rfl (lv_at hl 0 rfl) ?_
              refine sr_getr hx hb hts qzX5 hown hw (yf_0_7 t ad) (hts _ qfX5_26) dX5_about_81 ?_
              refine lv_iload_n hx hb dX5_about_84 rfl (lv_at hl 1 rfl) ?_
              refine sr_zald hx hb hw (ya_6 t ad) h dX5_about_85 (fun v2 h => ?_)
              refine lv_if_eq (tgt := 94) hx hb dX5_about_86 (by decide) (fun hc => ?_) (fun hc => ?_)
              · have h := sr_ifp h hc
                refine lv_aload_n hx hb dX5_about_94 rfl (lv_at hl 0 rfl) ?_
                refine lv_iload_n hx hb dX5_about_95 rfl (lv_at hl 1 rfl) ?_
                obtain ⟨v3, hc, h⟩ := sr_bind1 h
                refine sr_cVi (As := [.int a1]) (rest := []) ⟨hx, hb, hml, hown, hts⟩ (k5_rank l D t ad a1 M _ hc) (cwV 1 hts (sr_goodV qmX5_114 qiX5_rank qsX5_rank qnX5 qcX5_rank) rfl rfl rfl qdX5_rank ⟨Nat.le_of_ble_eq_true rfl, Nat.le_of_ble_eq_true rfl⟩) hw hA (yo_0 t ad) rfl hl.1 rfl (Nat.le_of_ble_eq_true rfl) dX5_about_96 (fun H locs hw => ?_)
                obtain rfl := Option.some.inj h
                exact ret _ _ _ _ hw rfl dX5_about_99
              · have h := sr_ifn h hc
                refine lv_bipush (v := (-2)) hx hb dX5_about_89 (by decide) ?_
                refine lv_goto (tgt := 99) hx hb dX5_about_91 (by decide) ?_
                obtain rfl := Option.some.inj h
                exact ret _ _ _ _ hw rfl dX5_about_99
            · have h := sr_ifn h hc4
              refine lv_tableOut (tgt := 100) hx hb dX5_about_11 (sr_tout0_4 hc0 hc1 hc2 hc3 hc4) (by decide) ?_
              refine lv_iconst (v := (-1)) hx hb dX5_about_100 (by decide) ?_
              obtain rfl := Option.some.inj h
              exact ret _ _ _ _ hw rfl dX5_about_101
  · have h := sr_ifp h hc
    refine lv_iconst (v := (-1)) hx hb dX5_about_8 (by decide) ?_
    obtain rfl := Option.some.inj h
    exact ret _ _ _ _ hw rfl dX5_about_9

noncomputable def f5_of_L15 (a1 : Int32) (M : sr_M) (v3 : Int32) (v4 : Int32) : Option ((Int32 × Int32) ⊕ (Int32)) :=
sr_bnd (M.1 0 3) fun v5 =>
if v5 ≤ v4 then
(some (.inr v3))
else
(sr_ld v4 300 (M.1 3) fun v6 =>
sr_jn (some (.inl ((v3 + 1), (v4 + 1)))) fun (K7 : Option ((Int32 × Int32) ⊕ (Int32))) =>
if v6 = a1 then
(K7)
else
(sr_ld v4 300 (M.1 4) fun v8 =>
if v8 = a1 then
(K7)
else
(some (.inl ((v3 + 0), (v4 + 1))))))
noncomputable def f5_of (a1 : Int32) (a2 : Int32) (M : sr_M) : Option (Int32) :=
(f5_isPore a1 M).bind fun v1 =>
if v1 = 0 then
(some (-1))
else
((sr_lp (fun z2 : Int32 × Int32 => f5_of_L15 a1 M z2.1 z2.2) (0, 0)).bind fun w2 =>
if a2 = 0 then
(sr_ld a1 120 (M.1 1) fun v11 =>
some v11)
else
(if a2 = 1 then
(sr_ld a1 120 (M.1 2) fun v10 =>
if v10 = 0 then
(some 0)
else
(some 1))
else
(if a2 = 2 then
(some w2)
else
(some (-1)))))
set_option maxHeartbeats 4000000 in
set_option maxRecDepth 100000 in
theorem k5_of (l : Launch) (D : va_G) (t : Nat → ClassId) (ad : Nat → Nat) (a1 : Int32) (a2 : Int32) (M : sr_M) (r : Int32) (h : f5_of a1 a2 M = some r) : sr_Mi l D vwCl (yty t) ad (ycf t ad) 26 yX5_of (.code yX5_of cX5_of 5 (some .int) :: sr_tbl) ({ frames := 1, cells := 0, slots := 0, locals := 21 }) [.ref (ad 0), .int a1, .int a2] M r M := by
  refine sr_open_i (cc := cX5_of) (maxL := 5) (by decide) rfl (Nat.le_of_ble_eq_true rfl) ?_
  intro p e s m args below meth c A Q ls hx hb hml hts0 hown hA hw hl ret
  have hts : ∀ w ∈ sr_tbl, w.before args s = true := fun w hw => hts0 w (List.mem_cons_of_mem _ hw)
  have hown : s.vm.findClass RX5 = some m.cls := hown
  have hl : lv_has ls 5 [(0, .ref (ad 0)), (1, .int a1), (2, .int a2)] := hl
  have hw : yH D t ad A s M s.heap [] := hw
  unfold f5_of at h
  refine lv_aload_n hx hb dX5_of_0 rfl (lv_at hl 0 rfl) ?_
  refine lv_iload_n hx hb dX5_of_1 rfl (lv_at hl 1 rfl) ?_
  obtain ⟨v1, hc, h⟩ := sr_bind1 h
  refine sr_cVi (As := [.int a1]) (rest := []) ⟨hx, hb, hml, hown, hts⟩ (k5_isPore l D t ad a1 M _ hc) (cwV 1 hts (sr_goodV qmX5_99 qiX5_isPore qsX5_isPore qnX5 qcX5_isPore) rfl rfl rfl qdX5_isPore ⟨Nat.le_of_ble_eq_true rfl, Nat.le_of_ble_eq_true rfl⟩) hw hA (yo_0 t ad) rfl hl.1 rfl (Nat.le_of_ble_eq_true rfl) dX5_of_2 (fun H locs hw => ?_)
  refine lv_if_ne (tgt := 10) hx hb dX5_of_5 (by decide) (fun hc => ?_) (fun hc => ?_)
  · have h := sr_ifn h hc
    refine lv_iconst (v := 0) hx hb dX5_of_10 (by decide) ?_
    refine lv_istore_n (lv' := [(3, .int 0), (0, .ref (ad 0)), (1, .int a1), (2, .int a2)]) hx hb dX5_of_11 rfl hl (by decide) rfl (fun ls hl => ?_)
    refine lv_iconst (v := 0) hx hb dX5_of_12 (by decide) ?_
    refine lv_istore (lv' := [(4, .int 0), (3, .int 0), (0, .ref (ad 0)), (1, .int a1), (2, .int a2)]) hx hb dX5_of_13 hl (by decide) rfl (fun ls hl => ?_)
    obtain ⟨x2, hlp, hE2⟩ := sr_bind h
    have hX2 : ∀ (v9 : Int32), v9 = x2 → ∀ (H : Heap) (locs : List Loc) (ls : Array Slot), yH D t ad A s M H locs → lv_has ls 5 [(0, .ref (ad 0)), (1, .int a1), (2, .int a2), (3, .int v9)] → W p l e ({ frames := 1, cells := 0, slots := 0, locals := 21 }) s m args below meth c H locs 0 0 Q (F0 m 60 ls []) := by
      intro v9 ex H locs ls hw hl
      have h := hE2 _ ex
      try dsimp only at h
      refine lv_iload_n hx hb dX5_of_60 rfl (lv_at hl 2 rfl) ?_
      refine lv_if_ne (tgt := 73) hx hb dX5_of_61 (by decide) (fun hc => ?_) (fun hc => ?_)
      · have h := sr_ifn h hc
        refine lv_iload_n hx hb dX5_of_73 rfl (lv_at hl 2 rfl) ?_
        refine lv_iconst (v := 1) hx hb dX5_of_74 (by decide) ?_
        refine lv_icmp_ne (tgt := 95) hx hb dX5_of_75 (by decide) (fun hc => ?_) (fun hc => ?_)
        · have h := sr_ifn h hc
          refine lv_iload_n hx hb dX5_of_95 rfl (lv_at hl 2 rfl) ?_
          refine lv_iconst (v := 2) hx hb dX5_of_96 (by decide) ?_
          refine lv_icmp_ne (tgt := 104) hx hb dX5_of_97 (by decide) (fun hc => ?_) (fun hc => ?_)
          · have h := sr_ifn h hc
            refine lv_iconst (v := (-1)) hx hb dX5_of_104 (by decide) ?_
            obtain rfl := Option.some.inj h
            exact ret _ _ _ _ hw rfl dX5_of_105
          · have h := sr_ifp h hc
            refine lv_iload_n hx hb dX5_of_100 rfl (lv_at hl 3 rfl) ?_
            refine lv_goto (tgt := 105) hx hb dX5_of_101 (by decide) ?_
            obtain rfl := Option.some.inj h
            exact ret _ _ _ _ hw rfl dX5_of_105
        · have h := sr_ifp h hc
          refine lv_aload_n hx hb dX5_of_78 rfl (lv_at hl 0 rfl) ?_
          refine sr_getr hx hb hts qzX5 hown hw (yf_0_2 t ad) (hts _ qfX5_13) dX5_of_79 ?_
          refine lv_iload_n hx hb dX5_of_82 rfl (lv_at hl 1 rfl) ?_
          refine sr_zald hx hb hw (ya_2 t ad) h dX5_of_83 (fun v10 h => ?_)
          refine lv_if_eq (tgt := 91) hx hb dX5_of_84 (by decide) (fun hc => ?_) (fun hc => ?_)
          · have h := sr_ifp h hc
            refine lv_iconst (v := 0) hx hb dX5_of_91 (by decide) ?_
            refine lv_goto (tgt := 105) hx hb dX5_of_92 (by decide) ?_
            obtain rfl := Option.some.inj h
            exact ret _ _ _ _ hw rfl dX5_of_105
          · have h := sr_ifn h hc
            refine lv_iconst (v := 1) hx hb dX5_of_87 (by decide) ?_
            refine lv_goto (tgt := 105) hx hb dX5_of_88 (by decide) ?_
            obtain rfl := Option.some.inj h
            exact ret _ _ _ _ hw rfl dX5_of_105
      · have h := sr_ifp h hc
        refine lv_aload_n hx hb dX5_of_64 rfl (lv_at hl 0 rfl) ?_
        refine sr_getr hx hb hts qzX5 hown hw (yf_0_1 t ad) (hts _ qfX5_7) dX5_of_65 ?_
        refine lv_iload_n hx hb dX5_of_68 rfl (lv_at hl 1 rfl) ?_
        refine sr_iald hx hb hw (ya_1 t ad) h dX5_of_69 (fun v11 h => ?_)
        refine lv_goto (tgt := 105) hx hb dX5_of_70 (by decide) ?_
        obtain rfl := Option.some.inj h
        exact ret _ _ _ _ hw rfl dX5_of_105
    refine sr_lp_rule (fun (z2 : Int32 × Int32) => ∀ (H : Heap) (locs : List Loc) (ls : Array Slot), yH D t ad A s M H locs → lv_has ls 5 [(0, .ref (ad 0)), (1, .int a1), (2, .int a2), (3, .int z2.1), (4, .int z2.2)] → W p l e ({ frames := 1, cells := 0, slots := 0, locals := 21 }) s m args below meth c H locs 0 0 Q (F0 m 15 ls [])) ?_ hlp _ _ _ hw (lv_sub hl [2, 3, 4, 1, 0] rfl)
    rintro ⟨v3, v4⟩ y2 h hi2 he2 H locs ls hw hl
    have h : f5_of_L15 a1 M v3 v4 = some y2 := h
    have hw : yH D t ad A s M H locs := hw
    have hl : lv_has ls 5 [(0, .ref (ad 0)), (1, .int a1), (2, .int a2), (3, .int v3), (4, .int v4)] := hl
    unfold f5_of_L15 at h
    refine lv_iload hx hb dX5_of_15 (lv_at hl 4 rfl) ?_
    refine lv_aload_n hx hb dX5_of_17 rfl (lv_at hl 0 rfl) ?_
    refine sr_geti hx hb hts qzX5 hown hw (yf_0_3 t ad) (hts _ qfX5_92) h dX5_of_18 (fun v5 h => ?_)
    refine lv_icmp_ge (tgt := 60) hx hb dX5_of_21 (by decide) (fun hc => ?_) (fun hc => ?_)
    · have h := sr_ifp h hc
      exact hX2 v3 (he2 _ (Option.some.inj h).symm) _ _ _ hw (lv_sub hl [0, 1, 2, 3] rfl)
    · have h := sr_ifn h hc
      refine lv_iload_n hx hb dX5_of_24 rfl (lv_at hl 3 rfl) ?_
      refine lv_aload_n hx hb dX5_of_25 rfl (lv_at hl 0 rfl) ?_
      refine sr_getr hx hb hts qzX5 hown hw (yf_0_4 t ad) (hts _ qfX5_17) dX5_of_26 ?_
      refine lv_iload hx hb dX5_of_29 (lv_at hl 4 rfl) ?_
      refine sr_iald hx hb hw (ya_3 t ad) h dX5_of_31 (fun v6 h => ?_)
      refine lv_iload_n hx hb dX5_of_32 rfl (lv_at hl 1 rfl) ?_
      refine sr_jn_rule (fun (K7 : Option ((Int32 × Int32) ⊕ (Int32))) => K7 = some y2 → ∀ (H : Heap) (locs : List Loc) (ls : Array Slot), yH D t ad A s M H locs → lv_has ls 5 [(0, .ref (ad 0)), (1, .int a1), (2, .int a2), (4, .int v4)] → W p l e ({ frames := 1, cells := 0, slots := 0, locals := 21 }) s m args below meth c H locs 0 0 Q (F0 m 47 ls [.int v3])) h ?_ (fun K7 hK7 h => ?_)
      · intro  h H locs ls hw hl
        refine lv_iconst (v := 1) hx hb dX5_of_47 (by decide) ?_
        refine lv_goto (tgt := 52) hx hb dX5_of_48 (by decide) ?_
        refine lv_iadd hx hb dX5_of_52 ?_
        refine lv_istore_n (lv' := [(3, .int (v3 + 1)), (0, .ref (ad 0)), (1, .int a1), (2, .int a2), (4, .int v4)]) hx hb dX5_of_53 rfl hl (by decide) rfl (fun ls hl => ?_)
        refine lv_iinc (v := (v4 + 1)) (lv' := [(4, .int (v4 + 1)), (3, .int (v3 + 1)), (0, .ref (ad 0)), (1, .int a1), (2, .int a2)]) hx hb dX5_of_54 hl (k := 4) rfl rfl (by decide) rfl (fun ls hl => ?_)
        refine lv_goto (tgt := 15) hx hb dX5_of_57 (by decide) ?_
        exact hi2 ((v3 + 1), (v4 + 1)) (Option.some.inj h).symm _ _ _ hw (lv_sub hl [2, 3, 4, 1, 0] rfl)
      · refine lv_icmp_eq (tgt := 47) hx hb dX5_of_33 (by decide) (fun hc => ?_) (fun hc => ?_)
        · have h := sr_ifp h hc
          exact hK7  h _ _ _ hw (lv_sub hl [0, 1, 2, 4] rfl)
        · have h := sr_ifn h hc
          refine lv_aload_n hx hb dX5_of_36 rfl (lv_at hl 0 rfl) ?_
          refine sr_getr hx hb hts qzX5 hown hw (yf_0_5 t ad) (hts _ qfX5_20) dX5_of_37 ?_
          refine lv_iload hx hb dX5_of_40 (lv_at hl 4 rfl) ?_
          refine sr_iald hx hb hw (ya_4 t ad) h dX5_of_42 (fun v8 h => ?_)
          refine lv_iload_n hx hb dX5_of_43 rfl (lv_at hl 1 rfl) ?_
          refine lv_icmp_ne (tgt := 51) hx hb dX5_of_44 (by decide) (fun hc => ?_) (fun hc => ?_)
          · have h := sr_ifn h hc
            refine lv_iconst (v := 0) hx hb dX5_of_51 (by decide) ?_
            refine lv_iadd hx hb dX5_of_52 ?_
            refine lv_istore_n (lv' := [(3, .int (v3 + 0)), (0, .ref (ad 0)), (1, .int a1), (2, .int a2), (4, .int v4)]) hx hb dX5_of_53 rfl hl (by decide) rfl (fun ls hl => ?_)
            refine lv_iinc (v := (v4 + 1)) (lv' := [(4, .int (v4 + 1)), (3, .int (v3 + 0)), (0, .ref (ad 0)), (1, .int a1), (2, .int a2)]) hx hb dX5_of_54 hl (k := 4) rfl rfl (by decide) rfl (fun ls hl => ?_)
            refine lv_goto (tgt := 15) hx hb dX5_of_57 (by decide) ?_
            exact hi2 ((v3 + 0), (v4 + 1)) (Option.some.inj h).symm _ _ _ hw (lv_sub hl [2, 3, 4, 1, 0] rfl)
          · have h := sr_ifp h hc
            exact hK7  h _ _ _ hw (lv_sub hl [0, 1, 2, 4] rfl)
  · have h := sr_ifp h hc
    refine lv_iconst (v := (-1)) hx hb dX5_of_8 (by decide) ?_
    obtain rfl := Option.some.inj h
    exact ret _ _ _ _ hw rfl dX5_of_9

noncomputable def f5_ranked_L2 (a1 : Int32) (M : sr_M) (v2 : Int32) : Option ((Int32) ⊕ ((Unit) ⊕ (Int32))) :=
sr_bnd (M.1 0 3) fun v3 =>
if v3 ≤ v2 then
(some (.inr (.inl ())))
else
(sr_ld v2 300 (M.1 6) fun v4 =>
if v4 = 0 then
((f5_rank v2 M).bind fun v5 =>
if v5 = a1 then
(some (.inr (.inr v2)))
else
(some (.inl ((v2 + 1)))))
else
(some (.inl ((v2 + 1)))))
noncomputable def f5_ranked (a1 : Int32) (M : sr_M) : Option (Int32) :=
(sr_lp (fun z1 : Int32 => f5_ranked_L2 a1 M z1) 0).bind (sr_se (fun w1 =>
some (-1))
(fun q1 => some q1))
set_option maxHeartbeats 4000000 in
set_option maxRecDepth 100000 in
theorem k5_ranked (l : Launch) (D : va_G) (t : Nat → ClassId) (ad : Nat → Nat) (a1 : Int32) (M : sr_M) (r : Int32) (h : f5_ranked a1 M = some r) : sr_Mi l D vwCl (yty t) ad (ycf t ad) 26 yX5_ranked (.code yX5_ranked cX5_ranked 3 (some .int) :: sr_tbl) ({ frames := 2, cells := 0, slots := 0, locals := 45 }) [.ref (ad 0), .int a1] M r M := by
  refine sr_open_i (cc := cX5_ranked) (maxL := 3) (by decide) rfl (Nat.le_of_ble_eq_true rfl) ?_
  intro p e s m args below meth c A Q ls hx hb hml hts0 hown hA hw hl ret
  have hts : ∀ w ∈ sr_tbl, w.before args s = true := fun w hw => hts0 w (List.mem_cons_of_mem _ hw)
  have hown : s.vm.findClass RX5 = some m.cls := hown
  have hl : lv_has ls 3 [(0, .ref (ad 0)), (1, .int a1)] := hl
  have hw : yH D t ad A s M s.heap [] := hw
  unfold f5_ranked at h
  refine lv_iconst (v := 0) hx hb dX5_ranked_0 (by decide) ?_
  refine lv_istore_n (lv' := [(2, .int 0), (0, .ref (ad 0)), (1, .int a1)]) hx hb dX5_ranked_1 rfl hl (by decide) rfl (fun ls hl => ?_)
  obtain ⟨x1, hlp, hE1⟩ := sr_bind h
  have hX1 : ∀ (_u : Unit), Sum.inl _u = x1 → ∀ (H : Heap) (locs : List Loc) (ls : Array Slot), yH D t ad A s M H locs → lv_has ls 3 [] → W p l e ({ frames := 2, cells := 0, slots := 0, locals := 45 }) s m args below meth c H locs 0 0 Q (F0 m 36 ls []) := by
    intro _u ex H locs ls hw hl
    have h := sr_sel (hE1 _ ex)
    try dsimp only at h
    refine lv_iconst (v := (-1)) hx hb dX5_ranked_36 (by decide) ?_
    obtain rfl := Option.some.inj h
    exact ret _ _ _ _ hw rfl dX5_ranked_37
  refine sr_lp_rule (fun (z1 : Int32) => ∀ (H : Heap) (locs : List Loc) (ls : Array Slot), yH D t ad A s M H locs → lv_has ls 3 [(0, .ref (ad 0)), (1, .int a1), (2, .int z1)] → W p l e ({ frames := 2, cells := 0, slots := 0, locals := 45 }) s m args below meth c H locs 0 0 Q (F0 m 2 ls [])) ?_ hlp _ _ _ hw (lv_sub hl [1, 2, 0] rfl)
  rintro v2 y1 h hi1 he1 H locs ls hw hl
  have h : f5_ranked_L2 a1 M v2 = some y1 := h
  have hw : yH D t ad A s M H locs := hw
  have hl : lv_has ls 3 [(0, .ref (ad 0)), (1, .int a1), (2, .int v2)] := hl
  unfold f5_ranked_L2 at h
  refine lv_iload_n hx hb dX5_ranked_2 rfl (lv_at hl 2 rfl) ?_
  refine lv_aload_n hx hb dX5_ranked_3 rfl (lv_at hl 0 rfl) ?_
  refine sr_geti hx hb hts qzX5 hown hw (yf_0_3 t ad) (hts _ qfX5_92) h dX5_ranked_4 (fun v3 h => ?_)
  refine lv_icmp_ge (tgt := 36) hx hb dX5_ranked_7 (by decide) (fun hc => ?_) (fun hc => ?_)
  · have h := sr_ifp h hc
    exact hX1 () (he1 _ (Option.some.inj h).symm) _ _ _ hw (lv_sub hl [] rfl)
  · have h := sr_ifn h hc
    refine lv_aload_n hx hb dX5_ranked_10 rfl (lv_at hl 0 rfl) ?_
    refine sr_getr hx hb hts qzX5 hown hw (yf_0_7 t ad) (hts _ qfX5_26) dX5_ranked_11 ?_
    refine lv_iload_n hx hb dX5_ranked_14 rfl (lv_at hl 2 rfl) ?_
    refine sr_zald hx hb hw (ya_6 t ad) h dX5_ranked_15 (fun v4 h => ?_)
    refine lv_if_ne (tgt := 30) hx hb dX5_ranked_16 (by decide) (fun hc => ?_) (fun hc => ?_)
    · have h := sr_ifn h hc
      refine lv_iinc (v := (v2 + 1)) (lv' := [(2, .int (v2 + 1)), (0, .ref (ad 0)), (1, .int a1)]) hx hb dX5_ranked_30 hl (k := 2) rfl rfl (by decide) rfl (fun ls hl => ?_)
      refine lv_goto (tgt := 2) hx hb dX5_ranked_33 (by decide) ?_
      exact hi1 ((v2 + 1)) (Option.some.inj h).symm _ _ _ hw (lv_sub hl [1, 2, 0] rfl)
    · have h := sr_ifp h hc
      refine lv_aload_n hx hb dX5_ranked_19 rfl (lv_at hl 0 rfl) ?_
      refine lv_iload_n hx hb dX5_ranked_20 rfl (lv_at hl 2 rfl) ?_
      obtain ⟨v5, hc, h⟩ := sr_bind1 h
      refine sr_cVi (As := [.int v2]) (rest := []) ⟨hx, hb, hml, hown, hts⟩ (k5_rank l D t ad v2 M _ hc) (cwV 1 hts (sr_goodV qmX5_114 qiX5_rank qsX5_rank qnX5 qcX5_rank) rfl rfl rfl qdX5_rank ⟨Nat.le_of_ble_eq_true rfl, Nat.le_of_ble_eq_true rfl⟩) hw hA (yo_0 t ad) rfl hl.1 rfl (Nat.le_of_ble_eq_true rfl) dX5_ranked_21 (fun H locs hw => ?_)
      refine lv_iload_n hx hb dX5_ranked_24 rfl (lv_at hl 1 rfl) ?_
      refine lv_icmp_ne (tgt := 30) hx hb dX5_ranked_25 (by decide) (fun hc => ?_) (fun hc => ?_)
      · have h := sr_ifn h hc
        refine lv_iinc (v := (v2 + 1)) (lv' := [(2, .int (v2 + 1)), (0, .ref (ad 0)), (1, .int a1)]) hx hb dX5_ranked_30 hl (k := 2) rfl rfl (by decide) rfl (fun ls hl => ?_)
        refine lv_goto (tgt := 2) hx hb dX5_ranked_33 (by decide) ?_
        exact hi1 ((v2 + 1)) (Option.some.inj h).symm _ _ _ hw (lv_sub hl [1, 2, 0] rfl)
      · have h := sr_ifp h hc
        refine lv_iload_n hx hb dX5_ranked_28 rfl (lv_at hl 2 rfl) ?_
        have h := sr_ser (hE1 _ (he1 _ (Option.some.inj h).symm))
        obtain rfl := Option.some.inj h
        exact ret _ _ _ _ hw rfl dX5_ranked_29

noncomputable def f5_isCore (a1 : Int32) (M : sr_M) : Option (Int32) :=
if a1 < 0 then
(some 0)
else
(if 6 ≤ a1 then
(some 0)
else
(some 1))
set_option maxHeartbeats 4000000 in
set_option maxRecDepth 100000 in
theorem k5_isCore (l : Launch) (D : va_G) (t : Nat → ClassId) (ad : Nat → Nat) (a1 : Int32) (M : sr_M) (r : Int32) (h : f5_isCore a1 M = some r) : sr_Mi l D vwCl (yty t) ad (ycf t ad) 26 yX5_isCore (.code yX5_isCore cX5_isCore 1 (some .boolean) :: sr_tbl) ({ frames := 0, cells := 0, slots := 0, locals := 0 }) [.int a1] M r M := by
  refine sr_open_i (cc := cX5_isCore) (maxL := 1) (by decide) rfl (Nat.le_of_ble_eq_true rfl) ?_
  intro p e s m args below meth c A Q ls hx hb hml hts0 hown hA hw hl ret
  have hts : ∀ w ∈ sr_tbl, w.before args s = true := fun w hw => hts0 w (List.mem_cons_of_mem _ hw)
  have hown : s.vm.findClass RX5 = some m.cls := hown
  have hl : lv_has ls 1 [(0, .int a1)] := hl
  have hw : yH D t ad A s M s.heap [] := hw
  unfold f5_isCore at h
  refine lv_iload_n hx hb dX5_isCore_0 rfl (lv_at hl 0 rfl) ?_
  refine lv_if_lt (tgt := 14) hx hb dX5_isCore_1 (by decide) (fun hc => ?_) (fun hc => ?_)
  · have h := sr_ifp h hc
    refine lv_iconst (v := 0) hx hb dX5_isCore_14 (by decide) ?_
    obtain rfl := Option.some.inj h
    exact ret _ _ _ _ hw rfl dX5_isCore_15
  · have h := sr_ifn h hc
    refine lv_iload_n hx hb dX5_isCore_4 rfl (lv_at hl 0 rfl) ?_
    refine lv_bipush (v := 6) hx hb dX5_isCore_5 (by decide) ?_
    refine lv_icmp_ge (tgt := 14) hx hb dX5_isCore_7 (by decide) (fun hc => ?_) (fun hc => ?_)
    · have h := sr_ifp h hc
      refine lv_iconst (v := 0) hx hb dX5_isCore_14 (by decide) ?_
      obtain rfl := Option.some.inj h
      exact ret _ _ _ _ hw rfl dX5_isCore_15
    · have h := sr_ifn h hc
      refine lv_iconst (v := 1) hx hb dX5_isCore_10 (by decide) ?_
      refine lv_goto (tgt := 15) hx hb dX5_isCore_11 (by decide) ?_
      obtain rfl := Option.some.inj h
      exact ret _ _ _ _ hw rfl dX5_isCore_15

noncomputable def f5_core_L50 (a1 : Int32) (a3 : Int32) (v5 : Int32) (M6 : sr_M) : Option ((Int32 × sr_M) ⊕ (sr_M)) :=
if a3 ≤ v5 then
(some (.inr M6))
else
(sr_stJ (((60 : Int32) * a1) + v5) 360 M6 9 0 fun M7 =>
sr_stD (((60 : Int32) * a1) + v5) 360 M7 10 FP.dconst0 fun M8 =>
some (.inl ((v5 + 1), M8)))
noncomputable def f5_core (a1 : Int32) (a2 : Int32) (a3 : Int32) (M : sr_M) : Option (Int32 × sr_M) :=
(f5_isCore a1 M).bind fun v1 =>
if v1 = 0 then
(some ((-1), M))
else
(if a2 < 0 then
(some ((-1), M))
else
(if a2 ≤ 5 then
(if 0 ≤ a3 then
(if a3 ≤ 60 then
(sr_st a1 6 M 7 a2 fun M2 =>
sr_st a1 6 M2 8 a3 fun M3 =>
(sr_lp (fun z4 : Int32 × sr_M => f5_core_L50 a1 a3 z4.1 z4.2) (0, M3)).bind fun w4 =>
some (1, w4))
else
(some ((-1), M)))
else
(some ((-5), M)))
else
(some ((-1), M))))
set_option maxHeartbeats 4000000 in
set_option maxRecDepth 100000 in
theorem k5_core (l : Launch) (D : va_G) (t : Nat → ClassId) (ad : Nat → Nat) (a1 : Int32) (a2 : Int32) (a3 : Int32) (M : sr_M) (r : Int32) (M' : sr_M) (h : f5_core a1 a2 a3 M = some (r, M')) : sr_Mi l D vwCl (yty t) ad (ycf t ad) 26 yX5_core (.code yX5_core cX5_core 5 (some .int) :: sr_tbl) ({ frames := 1, cells := 0, slots := 0, locals := 20 }) [.ref (ad 0), .int a1, .int a2, .int a3] M r M' := by
  refine sr_open_i (cc := cX5_core) (maxL := 5) (by decide) rfl (Nat.le_of_ble_eq_true rfl) ?_
  intro p e s m args below meth c A Q ls hx hb hml hts0 hown hA hw hl ret
  have hts : ∀ w ∈ sr_tbl, w.before args s = true := fun w hw => hts0 w (List.mem_cons_of_mem _ hw)
  have hown : s.vm.findClass RX5 = some m.cls := hown
  have hl : lv_has ls 5 [(0, .ref (ad 0)), (1, .int a1), (2, .int a2), (3, .int a3)] := hl
  have hw : yH D t ad A s M s.heap [] := hw
  unfold f5_core at h
  refine lv_iload_n hx hb dX5_core_0 rfl (lv_at hl 1 rfl) ?_
  obtain ⟨v1, hc, h⟩ := sr_bind1 h
  refine sr_cSi (As := [.int a1]) (rest := []) ⟨hx, hb, hml, hown, hts⟩ (k5_isCore l D t ad a1 M _ hc) (cwS 1 hts (sr_goodS qmX5_118 qtX5_isCore qnX5 qcX5_isCore) rfl rfl rfl qdX5_isCore ⟨Nat.le_of_ble_eq_true rfl, Nat.le_of_ble_eq_true rfl⟩) hw hA rfl hl.1 rfl (Nat.le_of_ble_eq_true rfl) dX5_core_1 (fun H locs hw => ?_)
  refine lv_if_eq (tgt := 16) hx hb dX5_core_4 (by decide) (fun hc => ?_) (fun hc => ?_)
  · have h := sr_ifp h hc
    refine lv_iconst (v := (-1)) hx hb dX5_core_16 (by decide) ?_
    obtain ⟨rfl, rfl⟩ := Prod.mk.inj (Option.some.inj h)
    exact ret _ _ _ _ hw rfl dX5_core_17
  · have h := sr_ifn h hc
    refine lv_iload_n hx hb dX5_core_7 rfl (lv_at hl 2 rfl) ?_
    refine lv_if_lt (tgt := 16) hx hb dX5_core_8 (by decide) (fun hc => ?_) (fun hc => ?_)
    · have h := sr_ifp h hc
      refine lv_iconst (v := (-1)) hx hb dX5_core_16 (by decide) ?_
      obtain ⟨rfl, rfl⟩ := Prod.mk.inj (Option.some.inj h)
      exact ret _ _ _ _ hw rfl dX5_core_17
    · have h := sr_ifn h hc
      refine lv_iload_n hx hb dX5_core_11 rfl (lv_at hl 2 rfl) ?_
      refine lv_iconst (v := 5) hx hb dX5_core_12 (by decide) ?_
      refine lv_icmp_le (tgt := 18) hx hb dX5_core_13 (by decide) (fun hc => ?_) (fun hc => ?_)
      · have h := sr_ifp h hc
        refine lv_iload_n hx hb dX5_core_18 rfl (lv_at hl 3 rfl) ?_
        refine lv_if_ge (tgt := 25) hx hb dX5_core_19 (by decide) (fun hc => ?_) (fun hc => ?_)
        · have h := sr_ifp h hc
          refine lv_iload_n hx hb dX5_core_25 rfl (lv_at hl 3 rfl) ?_
          refine lv_bipush (v := 60) hx hb dX5_core_26 (by decide) ?_
          refine lv_icmp_le (tgt := 33) hx hb dX5_core_28 (by decide) (fun hc => ?_) (fun hc => ?_)
          · have h := sr_ifp h hc
            refine lv_aload_n hx hb dX5_core_33 rfl (lv_at hl 0 rfl) ?_
            refine sr_getr hx hb hts qzX5 hown hw (yf_0_9 t ad) (hts _ qfX5_29) dX5_core_34 ?_
            refine lv_iload_n hx hb dX5_core_37 rfl (lv_at hl 1 rfl) ?_
            refine lv_iload_n hx hb dX5_core_38 rfl (lv_at hl 2 rfl) ?_
            refine sr_iast hx hb hw (ya_7 t ad) h dX5_core_39 (fun M2 H locs h hw => ?_)
            refine lv_aload_n hx hb dX5_core_40 rfl (lv_at hl 0 rfl) ?_
            refine sr_getr hx hb hts qzX5 hown hw (yf_0_10 t ad) (hts _ qfX5_32) dX5_core_41 ?_
            refine lv_iload_n hx hb dX5_core_44 rfl (lv_at hl 1 rfl) ?_
            refine lv_iload_n hx hb dX5_core_45 rfl (lv_at hl 3 rfl) ?_
            refine sr_iast hx hb hw (ya_8 t ad) h dX5_core_46 (fun M3 H locs h hw => ?_)
            refine lv_iconst (v := 0) hx hb dX5_core_47 (by decide) ?_
            refine lv_istore (lv' := [(4, .int 0), (0, .ref (ad 0)), (1, .int a1), (2, .int a2), (3, .int a3)]) hx hb dX5_core_48 hl (by decide) rfl (fun ls hl => ?_)
            obtain ⟨x4, hlp, hE4⟩ := sr_bind h
            have hX4 : ∀ (M9 : sr_M), M9 = x4 → ∀ (H : Heap) (locs : List Loc) (ls : Array Slot), yH D t ad A s M9 H locs → lv_has ls 5 [] → W p l e ({ frames := 1, cells := 0, slots := 0, locals := 20 }) s m args below meth c H locs 0 0 Q (F0 m 88 ls []) := by
              intro M9 ex H locs ls hw hl
              have h := hE4 _ ex
              try dsimp only at h
              refine lv_iconst (v := 1) hx hb dX5_core_88 (by decide) ?_
              obtain ⟨rfl, rfl⟩ := Prod.mk.inj (Option.some.inj h)
              exact ret _ _ _ _ hw rfl dX5_core_89
            refine sr_lp_rule (fun (z4 : Int32 × sr_M) => ∀ (H : Heap) (locs : List Loc) (ls : Array Slot), yH D t ad A s z4.2 H locs → lv_has ls 5 [(0, .ref (ad 0)), (1, .int a1), (3, .int a3), (4, .int z4.1)] → W p l e ({ frames := 1, cells := 0, slots := 0, locals := 20 }) s m args below meth c H locs 0 0 Q (F0 m 50 ls [])) ?_ hlp _ _ _ hw (lv_sub hl [1, 2, 4, 0] rfl)
            rintro ⟨v5, M6⟩ y4 h hi4 he4 H locs ls hw hl
            have h : f5_core_L50 a1 a3 v5 M6 = some y4 := h
            have hw : yH D t ad A s M6 H locs := hw
            have hl : lv_has ls 5 [(0, .ref (ad 0)), (1, .int a1), (3, .int a3), (4, .int v5)] := hl
            unfold f5_core_L50 at h
            refine lv_iload hx hb dX5_core_50 (lv_at hl 3 rfl) ?_
            refine lv_iload_n hx hb dX5_core_52 rfl (lv_at hl 2 rfl) ?_
            refine lv_icmp_ge (tgt := 88) hx hb dX5_core_53 (by decide) (fun hc => ?_) (fun hc => ?_)
            · have h := sr_ifp h hc
              exact hX4  M6 (he4 _ (Option.some.inj h).symm) _ _ _ hw (lv_sub hl [] rfl)
            · have h := sr_ifn h hc
              refine lv_aload_n hx hb dX5_core_56 rfl (lv_at hl 0 rfl) ?_
              refine sr_getr hx hb hts qzX5 hown hw (yf_0_11 t ad) (hts _ qfX5_35) dX5_core_57 ?_
              refine lv_bipush (v := 60) hx hb dX5_core_60 (by decide) ?_
              refine lv_iload_n hx hb dX5_core_62 rfl (lv_at hl 1 rfl) ?_
              refine lv_imul hx hb dX5_core_63 ?_
              refine lv_iload hx hb dX5_core_64 (lv_at hl 3 rfl) ?_
              refine lv_iadd hx hb dX5_core_66 ?_
              refine lv_lconst (v := 0) hx hb dX5_core_67 (by decide) ?_
              refine sr_last hx hb hw (ya_9 t ad) h dX5_core_68 (fun M7 H locs h hw => ?_)
              refine lv_aload_n hx hb dX5_core_69 rfl (lv_at hl 0 rfl) ?_
              refine sr_getr hx hb hts qzX5 hown hw (yf_0_12 t ad) (hts _ qfX5_39) dX5_core_70 ?_
              refine lv_bipush (v := 60) hx hb dX5_core_73 (by decide) ?_
              refine lv_iload_n hx hb dX5_core_75 rfl (lv_at hl 1 rfl) ?_
              refine lv_imul hx hb dX5_core_76 ?_
              refine lv_iload hx hb dX5_core_77 (lv_at hl 3 rfl) ?_
              refine lv_iadd hx hb dX5_core_79 ?_
              refine lv_dconst0 hx hb dX5_core_80 ?_
              refine sr_dast hx hb hw (ya_10 t ad) h dX5_core_81 (fun M8 H locs h hw => ?_)
              refine lv_iinc (v := (v5 + 1)) (lv' := [(4, .int (v5 + 1)), (0, .ref (ad 0)), (1, .int a1), (3, .int a3)]) hx hb dX5_core_82 hl (k := 3) rfl rfl (by decide) rfl (fun ls hl => ?_)
              refine lv_goto (tgt := 50) hx hb dX5_core_85 (by decide) ?_
              exact hi4 ((v5 + 1), M8) (Option.some.inj h).symm _ _ _ hw (lv_sub hl [1, 2, 3, 0] rfl)
          · have h := sr_ifn h hc
            refine lv_iconst (v := (-1)) hx hb dX5_core_31 (by decide) ?_
            obtain ⟨rfl, rfl⟩ := Prod.mk.inj (Option.some.inj h)
            exact ret _ _ _ _ hw rfl dX5_core_32
        · have h := sr_ifn h hc
          refine lv_bipush (v := (-5)) hx hb dX5_core_22 (by decide) ?_
          obtain ⟨rfl, rfl⟩ := Prod.mk.inj (Option.some.inj h)
          exact ret _ _ _ _ hw rfl dX5_core_24
      · have h := sr_ifn h hc
        refine lv_iconst (v := (-1)) hx hb dX5_core_16 (by decide) ?_
        obtain ⟨rfl, rfl⟩ := Prod.mk.inj (Option.some.inj h)
        exact ret _ _ _ _ hw rfl dX5_core_17

noncomputable def f5_cell (a1 : Int32) (a2 : Int32) (a3 : Int64) (a4 : Int32) (M : sr_M) : Option (Int32 × sr_M) :=
(f5_isCore a1 M).bind fun v1 =>
if v1 = 0 then
(some ((-1), M))
else
(if a4 < 0 then
(some ((-1), M))
else
(if a4 ≤ 30 then
(sr_ld a1 6 (M.1 8) fun v2 =>
if 0 ≤ v2 then
(if a2 < 0 then
(some ((-1), M))
else
(sr_ld a1 6 (M.1 8) fun v3 =>
if a2 < v3 then
(sr_ld a1 6 (M.1 7) fun v4 =>
sr_jn (fun (v6 : Int64) =>
sr_stJ (((60 : Int32) * a1) + a2) 360 M 9 v6 fun M7 =>
sr_jn (fun (v9 : UInt64) =>
sr_stD (((60 : Int32) * a1) + a2) 360 M7 10 v9 fun M10 =>
some (1, M10)) fun (K8 : UInt64 → Option (Int32 × sr_M)) =>
if v4 = 4 then
(sr_grd (vf_n32 (FP.fdiv (FP.l2f a3) (FP.i2f ((1 : Int32) <<< (a4 &&& 31))))) <|
sr_grd (vf_n64 (FP.f2d (FP.fdiv (FP.l2f a3) (FP.i2f ((1 : Int32) <<< (a4 &&& 31)))))) <|
K8 (FP.f2d (FP.fdiv (FP.l2f a3) (FP.i2f ((1 : Int32) <<< (a4 &&& 31))))))
else
(sr_grd (vf_n64 (FP.ddiv (FP.l2d a3) (FP.i2d ((1 : Int32) <<< (a4 &&& 31))))) <|
K8 (FP.ddiv (FP.l2d a3) (FP.i2d ((1 : Int32) <<< (a4 &&& 31)))))) fun (K5 : Int64 → Option (Int32 × sr_M)) =>
if v4 = 0 then
(K5 a3.toInt32.toInt8.toInt32.toInt64)
else
(if v4 = 1 then
(K5 a3.toInt32.toInt16.toInt32.toInt64)
else
(if v4 = 2 then
(K5 a3.toInt32.toInt64)
else
(K5 a3))))
else
(some ((-1), M))))
else
(some ((-3), M)))
else
(some ((-1), M))))
set_option maxHeartbeats 4000000 in
set_option maxRecDepth 100000 in
theorem k5_cell (l : Launch) (D : va_G) (t : Nat → ClassId) (ad : Nat → Nat) (a1 : Int32) (a2 : Int32) (a3 : Int64) (a4 : Int32) (M : sr_M) (r : Int32) (M' : sr_M) (h : f5_cell a1 a2 a3 a4 M = some (r, M')) : sr_Mi l D vwCl (yty t) ad (ycf t ad) 26 yX5_cell (.code yX5_cell cX5_cell 8 (some .int) :: sr_tbl) ({ frames := 1, cells := 0, slots := 0, locals := 20 }) [.ref (ad 0), .int a1, .int a2, .long a3, .int a4] M r M' := by
  refine sr_open_i (cc := cX5_cell) (maxL := 8) (by decide) rfl (Nat.le_of_ble_eq_true rfl) ?_
  intro p e s m args below meth c A Q ls hx hb hml hts0 hown hA hw hl ret
  have hts : ∀ w ∈ sr_tbl, w.before args s = true := fun w hw => hts0 w (List.mem_cons_of_mem _ hw)
  have hown : s.vm.findClass RX5 = some m.cls := hown
  have hl : lv_has ls 8 [(0, .ref (ad 0)), (1, .int a1), (2, .int a2), (3, .long a3), (5, .int a4)] := hl
  have hw : yH D t ad A s M s.heap [] := hw
  unfold f5_cell at h
  refine lv_iload_n hx hb dX5_cell_0 rfl (lv_at hl 1 rfl) ?_
  obtain ⟨v1, hc, h⟩ := sr_bind1 h
  refine sr_cSi (As := [.int a1]) (rest := []) ⟨hx, hb, hml, hown, hts⟩ (k5_isCore l D t ad a1 M _ hc) (cwS 1 hts (sr_goodS qmX5_118 qtX5_isCore qnX5 qcX5_isCore) rfl rfl rfl qdX5_isCore ⟨Nat.le_of_ble_eq_true rfl, Nat.le_of_ble_eq_true rfl⟩) hw hA rfl hl.1 rfl (Nat.le_of_ble_eq_true rfl) dX5_cell_1 (fun H locs hw => ?_)
  refine lv_if_eq (tgt := 19) hx hb dX5_cell_4 (by decide) (fun hc => ?_) (fun hc => ?_)
  · have h := sr_ifp h hc
    refine lv_iconst (v := (-1)) hx hb dX5_cell_19 (by decide) ?_
    obtain ⟨rfl, rfl⟩ := Prod.mk.inj (Option.some.inj h)
    exact ret _ _ _ _ hw rfl dX5_cell_20
  · have h := sr_ifn h hc
    refine lv_iload hx hb dX5_cell_7 (lv_at hl 4 rfl) ?_
    refine lv_if_lt (tgt := 19) hx hb dX5_cell_9 (by decide) (fun hc => ?_) (fun hc => ?_)
    · have h := sr_ifp h hc
      refine lv_iconst (v := (-1)) hx hb dX5_cell_19 (by decide) ?_
      obtain ⟨rfl, rfl⟩ := Prod.mk.inj (Option.some.inj h)
      exact ret _ _ _ _ hw rfl dX5_cell_20
    · have h := sr_ifn h hc
      refine lv_iload hx hb dX5_cell_12 (lv_at hl 4 rfl) ?_
      refine lv_bipush (v := 30) hx hb dX5_cell_14 (by decide) ?_
      refine lv_icmp_le (tgt := 21) hx hb dX5_cell_16 (by decide) (fun hc => ?_) (fun hc => ?_)
      · have h := sr_ifp h hc
        refine lv_aload_n hx hb dX5_cell_21 rfl (lv_at hl 0 rfl) ?_
        refine sr_getr hx hb hts qzX5 hown hw (yf_0_10 t ad) (hts _ qfX5_32) dX5_cell_22 ?_
        refine lv_iload_n hx hb dX5_cell_25 rfl (lv_at hl 1 rfl) ?_
        refine sr_iald hx hb hw (ya_8 t ad) h dX5_cell_26 (fun v2 h => ?_)
        refine lv_if_ge (tgt := 33) hx hb dX5_cell_27 (by decide) (fun hc => ?_) (fun hc => ?_)
        · have h := sr_ifp h hc
          refine lv_iload_n hx hb dX5_cell_33 rfl (lv_at hl 2 rfl) ?_
          refine lv_if_lt (tgt := 47) hx hb dX5_cell_34 (by decide) (fun hc => ?_) (fun hc => ?_)
          · have h := sr_ifp h hc
            refine lv_iconst (v := (-1)) hx hb dX5_cell_47 (by decide) ?_
            obtain ⟨rfl, rfl⟩ := Prod.mk.inj (Option.some.inj h)
            exact ret _ _ _ _ hw rfl dX5_cell_48
          · have h := sr_ifn h hc
            refine lv_iload_n hx hb dX5_cell_37 rfl (lv_at hl 2 rfl) ?_
            refine lv_aload_n hx hb dX5_cell_38 rfl (lv_at hl 0 rfl) ?_
            refine sr_getr hx hb hts qzX5 hown hw (yf_0_10 t ad) (hts _ qfX5_32) dX5_cell_39 ?_
            refine lv_iload_n hx hb dX5_cell_42 rfl (lv_at hl 1 rfl) ?_
            refine sr_iald hx hb hw (ya_8 t ad) h dX5_cell_43 (fun v3 h => ?_)
            refine lv_icmp_lt (tgt := 49) hx hb dX5_cell_44 (by decide) (fun hc => ?_) (fun hc => ?_)
            · have h := sr_ifp h hc
              refine lv_bipush (v := 60) hx hb dX5_cell_49 (by decide) ?_
              refine lv_iload_n hx hb dX5_cell_51 rfl (lv_at hl 1 rfl) ?_
              refine lv_imul hx hb dX5_cell_52 ?_
              refine lv_iload_n hx hb dX5_cell_53 rfl (lv_at hl 2 rfl) ?_
              refine lv_iadd hx hb dX5_cell_54 ?_
              refine lv_istore (lv' := [(6, .int (((60 : Int32) * a1) + a2)), (0, .ref (ad 0)), (1, .int a1), (2, .int a2), (3, .long a3), (5, .int a4)]) hx hb dX5_cell_55 hl (by decide) rfl (fun ls hl => ?_)
              refine lv_aload_n hx hb dX5_cell_57 rfl (lv_at hl 1 rfl) ?_
              refine sr_getr hx hb hts qzX5 hown hw (yf_0_9 t ad) (hts _ qfX5_29) dX5_cell_58 ?_
              refine lv_iload_n hx hb dX5_cell_61 rfl (lv_at hl 2 rfl) ?_
              refine sr_iald hx hb hw (ya_7 t ad) h dX5_cell_62 (fun v4 h => ?_)
              refine lv_istore (lv' := [(7, .int v4), (6, .int (((60 : Int32) * a1) + a2)), (0, .ref (ad 0)), (1, .int a1), (2, .int a2), (3, .long a3), (5, .int a4)]) hx hb dX5_cell_63 hl (by decide) rfl (fun ls hl => ?_)
              refine lv_aload_n hx hb dX5_cell_65 rfl (lv_at hl 2 rfl) ?_
              refine sr_getr hx hb hts qzX5 hown hw (yf_0_11 t ad) (hts _ qfX5_35) dX5_cell_66 ?_
              refine lv_iload hx hb dX5_cell_69 (lv_at hl 1 rfl) ?_
              refine lv_iload hx hb dX5_cell_71 (lv_at hl 0 rfl) ?_
              refine sr_jn_rule (fun (K5 : Int64 → Option (Int32 × sr_M)) => ∀ (v6 : Int64), K5 v6 = some (r, M') → ∀ (H : Heap) (locs : List Loc) (ls : Array Slot), yH D t ad A s M H locs → lv_has ls 8 [(0, .ref (ad 0)), (3, .long a3), (5, .int a4), (6, .int (((60 : Int32) * a1) + a2)), (7, .int v4)] → W p l e ({ frames := 1, cells := 0, slots := 0, locals := 20 }) s m args below meth c H locs 0 0 Q (F0 m 109 ls [.long v6, .int (((60 : Int32) * a1) + a2), .ref (ad 9)])) h ?_ (fun K5 hK5 h => ?_)
              · intro v6 h H locs ls hw hl
                refine sr_last hx hb hw (ya_9 t ad) h dX5_cell_109 (fun M7 H locs h hw => ?_)
                refine lv_aload_n hx hb dX5_cell_110 rfl (lv_at hl 0 rfl) ?_
                refine sr_getr hx hb hts qzX5 hown hw (yf_0_12 t ad) (hts _ qfX5_39) dX5_cell_111 ?_
                refine lv_iload hx hb dX5_cell_114 (lv_at hl 3 rfl) ?_
                refine lv_iload hx hb dX5_cell_116 (lv_at hl 4 rfl) ?_
                refine lv_iconst (v := 4) hx hb dX5_cell_118 (by decide) ?_
                refine sr_jn_rule (fun (K8 : UInt64 → Option (Int32 × sr_M)) => ∀ (v9 : UInt64), K8 v9 = some (r, M') → ∀ (H : Heap) (locs : List Loc) (ls : Array Slot), yH D t ad A s M7 H locs → lv_has ls 8 [] → W p l e ({ frames := 1, cells := 0, slots := 0, locals := 20 }) s m args below meth c H locs 0 0 Q (F0 m 142 ls [.double v9, .int (((60 : Int32) * a1) + a2), .ref (ad 10)])) h ?_ (fun K8 hK8 h => ?_)
                · intro v9 h H locs ls hw hl
                  refine sr_dast hx hb hw (ya_10 t ad) h dX5_cell_142 (fun M10 H locs h hw => ?_)
                  refine lv_iconst (v := 1) hx hb dX5_cell_143 (by decide) ?_
                  obtain ⟨rfl, rfl⟩ := Prod.mk.inj (Option.some.inj h)
                  exact ret _ _ _ _ hw rfl dX5_cell_144
                · refine lv_icmp_ne (tgt := 134) hx hb dX5_cell_119 (by decide) (fun hc => ?_) (fun hc => ?_)
                  · have h := sr_ifn h hc
                    refine lv_lload_n hx hb dX5_cell_134 rfl (lv_at hl 1 rfl) ?_
                    refine lv_l2d hx hb dX5_cell_135 ?_
                    refine lv_iconst (v := 1) hx hb dX5_cell_136 (by decide) ?_
                    refine lv_iload hx hb dX5_cell_137 (lv_at hl 2 rfl) ?_
                    refine lv_ishl hx hb dX5_cell_139 ?_
                    refine lv_i2d hx hb dX5_cell_140 ?_
                    obtain ⟨hne, h⟩ := sr_grd_some h
                    refine lv_ddiv hx hb dX5_cell_141 hne ?_
                    exact hK8 (FP.ddiv (FP.l2d a3) (FP.i2d ((1 : Int32) <<< (a4 &&& 31)))) h _ _ _ hw (lv_sub hl [] rfl)
                  · have h := sr_ifp h hc
                    refine lv_lload_n hx hb dX5_cell_122 rfl (lv_at hl 1 rfl) ?_
                    refine lv_l2f hx hb dX5_cell_123 ?_
                    refine lv_iconst (v := 1) hx hb dX5_cell_124 (by decide) ?_
                    refine lv_iload hx hb dX5_cell_125 (lv_at hl 2 rfl) ?_
                    refine lv_ishl hx hb dX5_cell_127 ?_
                    refine lv_i2f hx hb dX5_cell_128 ?_
                    obtain ⟨hne, h⟩ := sr_grd_some h
                    refine lv_fdiv hx hb dX5_cell_129 hne ?_
                    obtain ⟨hne, h⟩ := sr_grd_some h
                    refine lv_f2d hx hb dX5_cell_130 hne ?_
                    refine lv_goto (tgt := 142) hx hb dX5_cell_131 (by decide) ?_
                    exact hK8 (FP.f2d (FP.fdiv (FP.l2f a3) (FP.i2f ((1 : Int32) <<< (a4 &&& 31))))) h _ _ _ hw (lv_sub hl [] rfl)
              · refine lv_if_ne (tgt := 83) hx hb dX5_cell_73 (by decide) (fun hc => ?_) (fun hc => ?_)
                · have h := sr_ifn h hc
                  refine lv_iload hx hb dX5_cell_83 (lv_at hl 0 rfl) ?_
                  refine lv_iconst (v := 1) hx hb dX5_cell_85 (by decide) ?_
                  refine lv_icmp_ne (tgt := 96) hx hb dX5_cell_86 (by decide) (fun hc => ?_) (fun hc => ?_)
                  · have h := sr_ifn h hc
                    refine lv_iload hx hb dX5_cell_96 (lv_at hl 0 rfl) ?_
                    refine lv_iconst (v := 2) hx hb dX5_cell_98 (by decide) ?_
                    refine lv_icmp_ne (tgt := 108) hx hb dX5_cell_99 (by decide) (fun hc => ?_) (fun hc => ?_)
                    · have h := sr_ifn h hc
                      refine lv_lload_n hx hb dX5_cell_108 rfl (lv_at hl 5 rfl) ?_
                      exact hK5 a3 h _ _ _ hw (lv_sub hl [2, 5, 6, 1, 0] rfl)
                    · have h := sr_ifp h hc
                      refine lv_lload_n hx hb dX5_cell_102 rfl (lv_at hl 5 rfl) ?_
                      refine lv_l2i (v := a3.toInt32) hx hb dX5_cell_103 rfl ?_
                      refine lv_i2l (v := a3.toInt32.toInt64) hx hb dX5_cell_104 rfl ?_
                      refine lv_goto (tgt := 109) hx hb dX5_cell_105 (by decide) ?_
                      exact hK5 a3.toInt32.toInt64 h _ _ _ hw (lv_sub hl [2, 5, 6, 1, 0] rfl)
                  · have h := sr_ifp h hc
                    refine lv_lload_n hx hb dX5_cell_89 rfl (lv_at hl 5 rfl) ?_
                    refine lv_l2i (v := a3.toInt32) hx hb dX5_cell_90 rfl ?_
                    refine lv_i2s (v := a3.toInt32.toInt16.toInt32) hx hb dX5_cell_91 rfl ?_
                    refine lv_i2l (v := a3.toInt32.toInt16.toInt32.toInt64) hx hb dX5_cell_92 rfl ?_
                    refine lv_goto (tgt := 109) hx hb dX5_cell_93 (by decide) ?_
                    exact hK5 a3.toInt32.toInt16.toInt32.toInt64 h _ _ _ hw (lv_sub hl [2, 5, 6, 1, 0] rfl)
                · have h := sr_ifp h hc
                  refine lv_lload_n hx hb dX5_cell_76 rfl (lv_at hl 5 rfl) ?_
                  refine lv_l2i (v := a3.toInt32) hx hb dX5_cell_77 rfl ?_
                  refine lv_i2b (v := a3.toInt32.toInt8.toInt32) hx hb dX5_cell_78 rfl ?_
                  refine lv_i2l (v := a3.toInt32.toInt8.toInt32.toInt64) hx hb dX5_cell_79 rfl ?_
                  refine lv_goto (tgt := 109) hx hb dX5_cell_80 (by decide) ?_
                  exact hK5 a3.toInt32.toInt8.toInt32.toInt64 h _ _ _ hw (lv_sub hl [2, 5, 6, 1, 0] rfl)
            · have h := sr_ifn h hc
              refine lv_iconst (v := (-1)) hx hb dX5_cell_47 (by decide) ?_
              obtain ⟨rfl, rfl⟩ := Prod.mk.inj (Option.some.inj h)
              exact ret _ _ _ _ hw rfl dX5_cell_48
        · have h := sr_ifn h hc
          refine lv_bipush (v := (-3)) hx hb dX5_cell_30 (by decide) ?_
          obtain ⟨rfl, rfl⟩ := Prod.mk.inj (Option.some.inj h)
          exact ret _ _ _ _ hw rfl dX5_cell_32
      · have h := sr_ifn h hc
        refine lv_iconst (v := (-1)) hx hb dX5_cell_19 (by decide) ?_
        obtain ⟨rfl, rfl⟩ := Prod.mk.inj (Option.some.inj h)
        exact ret _ _ _ _ hw rfl dX5_cell_20

noncomputable def f5_wild (a1 : Int32) (a2 : Int32) (a3 : Int32) (M : sr_M) : Option (Int32 × sr_M) :=
(f5_isCore a1 M).bind fun v1 =>
if v1 = 0 then
(some ((-1), M))
else
(if a3 < 0 then
(some ((-1), M))
else
(if a3 ≤ 3 then
(sr_ld a1 6 (M.1 8) fun v2 =>
if 0 ≤ v2 then
(sr_ld a1 6 (M.1 7) fun v3 =>
if 4 ≤ v3 then
(if a2 < 0 then
(some ((-1), M))
else
(sr_ld a1 6 (M.1 8) fun v4 =>
if a2 < v4 then
(sr_jn (fun (v6 : UInt64) =>
sr_stD (((60 : Int32) * a1) + a2) 360 M 10 v6 fun M7 =>
some (1, M7)) fun (K5 : UInt64 → Option (Int32 × sr_M)) =>
if a3 = 0 then
(K5 9221120237041090560)
else
(if a3 = 1 then
(K5 9218868437227405312)
else
(if a3 = 2 then
(K5 18442240474082181120)
else
(K5 9223372036854775808))))
else
(some ((-1), M))))
else
(some ((-4), M)))
else
(some ((-3), M)))
else
(some ((-1), M))))
set_option maxHeartbeats 4000000 in
set_option maxRecDepth 100000 in
theorem k5_wild (l : Launch) (D : va_G) (t : Nat → ClassId) (ad : Nat → Nat) (a1 : Int32) (a2 : Int32) (a3 : Int32) (M : sr_M) (r : Int32) (M' : sr_M) (h : f5_wild a1 a2 a3 M = some (r, M')) : sr_Mi l D vwCl (yty t) ad (ycf t ad) 26 yX5_wild (.code yX5_wild cX5_wild 4 (some .int) :: sr_tbl) ({ frames := 1, cells := 0, slots := 0, locals := 20 }) [.ref (ad 0), .int a1, .int a2, .int a3] M r M' := by
  refine sr_open_i (cc := cX5_wild) (maxL := 4) (by decide) rfl (Nat.le_of_ble_eq_true rfl) ?_
  intro p e s m args below meth c A Q ls hx hb hml hts0 hown hA hw hl ret
  have hts : ∀ w ∈ sr_tbl, w.before args s = true := fun w hw => hts0 w (List.mem_cons_of_mem _ hw)
  have hown : s.vm.findClass RX5 = some m.cls := hown
  have hl : lv_has ls 4 [(0, .ref (ad 0)), (1, .int a1), (2, .int a2), (3, .int a3)] := hl
  have hw : yH D t ad A s M s.heap [] := hw
  unfold f5_wild at h
  refine lv_iload_n hx hb dX5_wild_0 rfl (lv_at hl 1 rfl) ?_
  obtain ⟨v1, hc, h⟩ := sr_bind1 h
  refine sr_cSi (As := [.int a1]) (rest := []) ⟨hx, hb, hml, hown, hts⟩ (k5_isCore l D t ad a1 M _ hc) (cwS 1 hts (sr_goodS qmX5_118 qtX5_isCore qnX5 qcX5_isCore) rfl rfl rfl qdX5_isCore ⟨Nat.le_of_ble_eq_true rfl, Nat.le_of_ble_eq_true rfl⟩) hw hA rfl hl.1 rfl (Nat.le_of_ble_eq_true rfl) dX5_wild_1 (fun H locs hw => ?_)
  refine lv_if_eq (tgt := 16) hx hb dX5_wild_4 (by decide) (fun hc => ?_) (fun hc => ?_)
  · have h := sr_ifp h hc
    refine lv_iconst (v := (-1)) hx hb dX5_wild_16 (by decide) ?_
    obtain ⟨rfl, rfl⟩ := Prod.mk.inj (Option.some.inj h)
    exact ret _ _ _ _ hw rfl dX5_wild_17
  · have h := sr_ifn h hc
    refine lv_iload_n hx hb dX5_wild_7 rfl (lv_at hl 3 rfl) ?_
    refine lv_if_lt (tgt := 16) hx hb dX5_wild_8 (by decide) (fun hc => ?_) (fun hc => ?_)
    · have h := sr_ifp h hc
      refine lv_iconst (v := (-1)) hx hb dX5_wild_16 (by decide) ?_
      obtain ⟨rfl, rfl⟩ := Prod.mk.inj (Option.some.inj h)
      exact ret _ _ _ _ hw rfl dX5_wild_17
    · have h := sr_ifn h hc
      refine lv_iload_n hx hb dX5_wild_11 rfl (lv_at hl 3 rfl) ?_
      refine lv_iconst (v := 3) hx hb dX5_wild_12 (by decide) ?_
      refine lv_icmp_le (tgt := 18) hx hb dX5_wild_13 (by decide) (fun hc => ?_) (fun hc => ?_)
      · have h := sr_ifp h hc
        refine lv_aload_n hx hb dX5_wild_18 rfl (lv_at hl 0 rfl) ?_
        refine sr_getr hx hb hts qzX5 hown hw (yf_0_10 t ad) (hts _ qfX5_32) dX5_wild_19 ?_
        refine lv_iload_n hx hb dX5_wild_22 rfl (lv_at hl 1 rfl) ?_
        refine sr_iald hx hb hw (ya_8 t ad) h dX5_wild_23 (fun v2 h => ?_)
        refine lv_if_ge (tgt := 30) hx hb dX5_wild_24 (by decide) (fun hc => ?_) (fun hc => ?_)
        · have h := sr_ifp h hc
          refine lv_aload_n hx hb dX5_wild_30 rfl (lv_at hl 0 rfl) ?_
          refine sr_getr hx hb hts qzX5 hown hw (yf_0_9 t ad) (hts _ qfX5_29) dX5_wild_31 ?_
          refine lv_iload_n hx hb dX5_wild_34 rfl (lv_at hl 1 rfl) ?_
          refine sr_iald hx hb hw (ya_7 t ad) h dX5_wild_35 (fun v3 h => ?_)
          refine lv_iconst (v := 4) hx hb dX5_wild_36 (by decide) ?_
          refine lv_icmp_ge (tgt := 43) hx hb dX5_wild_37 (by decide) (fun hc => ?_) (fun hc => ?_)
          · have h := sr_ifp h hc
            refine lv_iload_n hx hb dX5_wild_43 rfl (lv_at hl 2 rfl) ?_
            refine lv_if_lt (tgt := 57) hx hb dX5_wild_44 (by decide) (fun hc => ?_) (fun hc => ?_)
            · have h := sr_ifp h hc
              refine lv_iconst (v := (-1)) hx hb dX5_wild_57 (by decide) ?_
              obtain ⟨rfl, rfl⟩ := Prod.mk.inj (Option.some.inj h)
              exact ret _ _ _ _ hw rfl dX5_wild_58
            · have h := sr_ifn h hc
              refine lv_iload_n hx hb dX5_wild_47 rfl (lv_at hl 2 rfl) ?_
              refine lv_aload_n hx hb dX5_wild_48 rfl (lv_at hl 0 rfl) ?_
              refine sr_getr hx hb hts qzX5 hown hw (yf_0_10 t ad) (hts _ qfX5_32) dX5_wild_49 ?_
              refine lv_iload_n hx hb dX5_wild_52 rfl (lv_at hl 1 rfl) ?_
              refine sr_iald hx hb hw (ya_8 t ad) h dX5_wild_53 (fun v4 h => ?_)
              refine lv_icmp_lt (tgt := 59) hx hb dX5_wild_54 (by decide) (fun hc => ?_) (fun hc => ?_)
              · have h := sr_ifp h hc
                refine lv_aload_n hx hb dX5_wild_59 rfl (lv_at hl 0 rfl) ?_
                refine sr_getr hx hb hts qzX5 hown hw (yf_0_12 t ad) (hts _ qfX5_39) dX5_wild_60 ?_
                refine lv_bipush (v := 60) hx hb dX5_wild_63 (by decide) ?_
                refine lv_iload_n hx hb dX5_wild_65 rfl (lv_at hl 1 rfl) ?_
                refine lv_imul hx hb dX5_wild_66 ?_
                refine lv_iload_n hx hb dX5_wild_67 rfl (lv_at hl 2 rfl) ?_
                refine lv_iadd hx hb dX5_wild_68 ?_
                refine lv_iload_n hx hb dX5_wild_69 rfl (lv_at hl 3 rfl) ?_
                refine sr_jn_rule (fun (K5 : UInt64 → Option (Int32 × sr_M)) => ∀ (v6 : UInt64), K5 v6 = some (r, M') → ∀ (H : Heap) (locs : List Loc) (ls : Array Slot), yH D t ad A s M H locs → lv_has ls 4 [] → W p l e ({ frames := 1, cells := 0, slots := 0, locals := 20 }) s m args below meth c H locs 0 0 Q (F0 m 104 ls [.double v6, .int (((60 : Int32) * a1) + a2), .ref (ad 10)])) h ?_ (fun K5 hK5 h => ?_)
                · intro v6 h H locs ls hw hl
                  refine sr_dast hx hb hw (ya_10 t ad) h dX5_wild_104 (fun M7 H locs h hw => ?_)
                  refine lv_iconst (v := 1) hx hb dX5_wild_105 (by decide) ?_
                  obtain ⟨rfl, rfl⟩ := Prod.mk.inj (Option.some.inj h)
                  exact ret _ _ _ _ hw rfl dX5_wild_106
                · refine lv_if_ne (tgt := 79) hx hb dX5_wild_70 (by decide) (fun hc => ?_) (fun hc => ?_)
                  · have h := sr_ifn h hc
                    refine lv_iload_n hx hb dX5_wild_79 rfl (lv_at hl 3 rfl) ?_
                    refine lv_iconst (v := 1) hx hb dX5_wild_80 (by decide) ?_
                    refine lv_icmp_ne (tgt := 90) hx hb dX5_wild_81 (by decide) (fun hc => ?_) (fun hc => ?_)
                    · have h := sr_ifn h hc
                      refine lv_iload_n hx hb dX5_wild_90 rfl (lv_at hl 3 rfl) ?_
                      refine lv_iconst (v := 2) hx hb dX5_wild_91 (by decide) ?_
                      refine lv_icmp_ne (tgt := 101) hx hb dX5_wild_92 (by decide) (fun hc => ?_) (fun hc => ?_)
                      · have h := sr_ifn h hc
                        refine lv_ldc2d (v := 9223372036854775808) hx hb hown (hts _ qkX5_129) dX5_wild_101 ?_
                        exact hK5 9223372036854775808 h _ _ _ hw (lv_sub hl [] rfl)
                      · have h := sr_ifp h hc
                        refine lv_ldc2d (v := 18442240474082181120) hx hb hown (hts _ qkX5_127) dX5_wild_95 ?_
                        refine lv_goto (tgt := 104) hx hb dX5_wild_98 (by decide) ?_
                        exact hK5 18442240474082181120 h _ _ _ hw (lv_sub hl [] rfl)
                    · have h := sr_ifp h hc
                      refine lv_ldc2d (v := 9218868437227405312) hx hb hown (hts _ qkX5_125) dX5_wild_84 ?_
                      refine lv_goto (tgt := 104) hx hb dX5_wild_87 (by decide) ?_
                      exact hK5 9218868437227405312 h _ _ _ hw (lv_sub hl [] rfl)
                  · have h := sr_ifp h hc
                    refine lv_ldc2d (v := 9221120237041090560) hx hb hown (hts _ qkX5_123) dX5_wild_73 ?_
                    refine lv_goto (tgt := 104) hx hb dX5_wild_76 (by decide) ?_
                    exact hK5 9221120237041090560 h _ _ _ hw (lv_sub hl [] rfl)
              · have h := sr_ifn h hc
                refine lv_iconst (v := (-1)) hx hb dX5_wild_57 (by decide) ?_
                obtain ⟨rfl, rfl⟩ := Prod.mk.inj (Option.some.inj h)
                exact ret _ _ _ _ hw rfl dX5_wild_58
          · have h := sr_ifn h hc
            refine lv_bipush (v := (-4)) hx hb dX5_wild_40 (by decide) ?_
            obtain ⟨rfl, rfl⟩ := Prod.mk.inj (Option.some.inj h)
            exact ret _ _ _ _ hw rfl dX5_wild_42
        · have h := sr_ifn h hc
          refine lv_bipush (v := (-3)) hx hb dX5_wild_27 (by decide) ?_
          obtain ⟨rfl, rfl⟩ := Prod.mk.inj (Option.some.inj h)
          exact ret _ _ _ _ hw rfl dX5_wild_29
      · have h := sr_ifn h hc
        refine lv_iconst (v := (-1)) hx hb dX5_wild_16 (by decide) ?_
        obtain ⟨rfl, rfl⟩ := Prod.mk.inj (Option.some.inj h)
        exact ret _ _ _ _ hw rfl dX5_wild_17

noncomputable def f5_hasRow (a1 : Int32) (a2 : Int32) (a3 : Int32) (M : sr_M) : Option (Int32) :=
if a3 < 0 then
(some 0)
else
(if a2 < 0 then
(some 0)
else
(sr_ld a1 6 (M.1 8) fun v1 =>
if v1 < a3 then
(some 0)
else
(sr_ld a1 6 (M.1 8) fun v2 =>
if (v2 - a3) < a2 then
(some 0)
else
(some 1))))
set_option maxHeartbeats 4000000 in
set_option maxRecDepth 100000 in
theorem k5_hasRow (l : Launch) (D : va_G) (t : Nat → ClassId) (ad : Nat → Nat) (a1 : Int32) (a2 : Int32) (a3 : Int32) (M : sr_M) (r : Int32) (h : f5_hasRow a1 a2 a3 M = some r) : sr_Mi l D vwCl (yty t) ad (ycf t ad) 26 yX5_hasRow (.code yX5_hasRow cX5_hasRow 4 (some .boolean) :: sr_tbl) ({ frames := 0, cells := 0, slots := 0, locals := 0 }) [.ref (ad 0), .int a1, .int a2, .int a3] M r M := by
  refine sr_open_i (cc := cX5_hasRow) (maxL := 4) (by decide) rfl (Nat.le_of_ble_eq_true rfl) ?_
  intro p e s m args below meth c A Q ls hx hb hml hts0 hown hA hw hl ret
  have hts : ∀ w ∈ sr_tbl, w.before args s = true := fun w hw => hts0 w (List.mem_cons_of_mem _ hw)
  have hown : s.vm.findClass RX5 = some m.cls := hown
  have hl : lv_has ls 4 [(0, .ref (ad 0)), (1, .int a1), (2, .int a2), (3, .int a3)] := hl
  have hw : yH D t ad A s M s.heap [] := hw
  unfold f5_hasRow at h
  refine lv_iload_n hx hb dX5_hasRow_0 rfl (lv_at hl 3 rfl) ?_
  refine lv_if_lt (tgt := 34) hx hb dX5_hasRow_1 (by decide) (fun hc => ?_) (fun hc => ?_)
  · have h := sr_ifp h hc
    refine lv_iconst (v := 0) hx hb dX5_hasRow_34 (by decide) ?_
    obtain rfl := Option.some.inj h
    exact ret _ _ _ _ hw rfl dX5_hasRow_35
  · have h := sr_ifn h hc
    refine lv_iload_n hx hb dX5_hasRow_4 rfl (lv_at hl 2 rfl) ?_
    refine lv_if_lt (tgt := 34) hx hb dX5_hasRow_5 (by decide) (fun hc => ?_) (fun hc => ?_)
    · have h := sr_ifp h hc
      refine lv_iconst (v := 0) hx hb dX5_hasRow_34 (by decide) ?_
      obtain rfl := Option.some.inj h
      exact ret _ _ _ _ hw rfl dX5_hasRow_35
    · have h := sr_ifn h hc
      refine lv_iload_n hx hb dX5_hasRow_8 rfl (lv_at hl 3 rfl) ?_
      refine lv_aload_n hx hb dX5_hasRow_9 rfl (lv_at hl 0 rfl) ?_
      refine sr_getr hx hb hts qzX5 hown hw (yf_0_10 t ad) (hts _ qfX5_32) dX5_hasRow_10 ?_
      refine lv_iload_n hx hb dX5_hasRow_13 rfl (lv_at hl 1 rfl) ?_
      refine sr_iald hx hb hw (ya_8 t ad) h dX5_hasRow_14 (fun v1 h => ?_)
      refine lv_icmp_gt (tgt := 34) hx hb dX5_hasRow_15 (by decide) (fun hc => ?_) (fun hc => ?_)
      · have h := sr_ifp h hc
        refine lv_iconst (v := 0) hx hb dX5_hasRow_34 (by decide) ?_
        obtain rfl := Option.some.inj h
        exact ret _ _ _ _ hw rfl dX5_hasRow_35
      · have h := sr_ifn h hc
        refine lv_iload_n hx hb dX5_hasRow_18 rfl (lv_at hl 2 rfl) ?_
        refine lv_aload_n hx hb dX5_hasRow_19 rfl (lv_at hl 0 rfl) ?_
        refine sr_getr hx hb hts qzX5 hown hw (yf_0_10 t ad) (hts _ qfX5_32) dX5_hasRow_20 ?_
        refine lv_iload_n hx hb dX5_hasRow_23 rfl (lv_at hl 1 rfl) ?_
        refine sr_iald hx hb hw (ya_8 t ad) h dX5_hasRow_24 (fun v2 h => ?_)
        refine lv_iload_n hx hb dX5_hasRow_25 rfl (lv_at hl 3 rfl) ?_
        refine lv_isub hx hb dX5_hasRow_26 ?_
        refine lv_icmp_gt (tgt := 34) hx hb dX5_hasRow_27 (by decide) (fun hc => ?_) (fun hc => ?_)
        · have h := sr_ifp h hc
          refine lv_iconst (v := 0) hx hb dX5_hasRow_34 (by decide) ?_
          obtain rfl := Option.some.inj h
          exact ret _ _ _ _ hw rfl dX5_hasRow_35
        · have h := sr_ifn h hc
          refine lv_iconst (v := 1) hx hb dX5_hasRow_30 (by decide) ?_
          refine lv_goto (tgt := 35) hx hb dX5_hasRow_31 (by decide) ?_
          obtain rfl := Option.some.inj h
          exact ret _ _ _ _ hw rfl dX5_hasRow_35

noncomputable def f5_splice_L83 (a3 : Int32) (a4 : Int32) (a5 : Int32) (v10 : Int32) (M11 : sr_M) : Option ((Int32 × sr_M) ⊕ (sr_M)) :=
if a5 ≤ v10 then
(some (.inr M11))
else
(sr_ld ((((60 : Int32) * a3) + a4) + v10) 360 (M11.2.1 9) fun v12 =>
sr_stJ v10 60 M11 16 v12 fun M13 =>
sr_ld ((((60 : Int32) * a3) + a4) + v10) 360 (M13.2.2 10) fun v14 =>
sr_stD v10 60 M13 17 v14 fun M15 =>
some (.inl ((v10 + 1), M15)))
noncomputable def f5_splice_L143 (a1 : Int32) (a2 : Int32) (a5 : Int32) (v18 : Int32) (M19 : sr_M) : Option ((Int32 × sr_M) ⊕ (sr_M)) :=
if a5 ≤ v18 then
(some (.inr M19))
else
(sr_ld v18 60 (M19.2.1 16) fun v20 =>
sr_stJ ((((60 : Int32) * a1) + a2) + v18) 360 M19 9 v20 fun M21 =>
sr_ld v18 60 (M21.2.2 17) fun v22 =>
sr_stD ((((60 : Int32) * a1) + a2) + v18) 360 M21 10 v22 fun M23 =>
some (.inl ((v18 + 1), M23)))
noncomputable def f5_splice (a1 : Int32) (a2 : Int32) (a3 : Int32) (a4 : Int32) (a5 : Int32) (M : sr_M) : Option (Int32 × sr_M) :=
(f5_isCore a1 M).bind fun v1 =>
if v1 = 0 then
(some ((-1), M))
else
((f5_isCore a3 M).bind fun v2 =>
if v2 = 0 then
(some ((-1), M))
else
(sr_ld a1 6 (M.1 8) fun v3 =>
if v3 < 0 then
(some ((-3), M))
else
(sr_ld a3 6 (M.1 8) fun v4 =>
if 0 ≤ v4 then
(sr_ld a1 6 (M.1 7) fun v5 =>
sr_ld a3 6 (M.1 7) fun v6 =>
if v5 = v6 then
((f5_hasRow a1 a2 a5 M).bind fun v7 =>
if v7 = 0 then
(some ((-1), M))
else
((f5_hasRow a3 a4 a5 M).bind fun v8 =>
if v8 = 0 then
(some ((-1), M))
else
((sr_lp (fun z9 : Int32 × sr_M => f5_splice_L83 a3 a4 a5 z9.1 z9.2) (0, M)).bind fun w9 =>
(sr_lp (fun z17 : Int32 × sr_M => f5_splice_L143 a1 a2 a5 z17.1 z17.2) (0, w9)).bind fun w17 =>
some (1, w17))))
else
(some ((-4), M)))
else
(some ((-3), M)))))
set_option maxHeartbeats 4000000 in
set_option maxRecDepth 100000 in
theorem k5_splice (l : Launch) (D : va_G) (t : Nat → ClassId) (ad : Nat → Nat) (a1 : Int32) (a2 : Int32) (a3 : Int32) (a4 : Int32) (a5 : Int32) (M : sr_M) (r : Int32) (M' : sr_M) (h : f5_splice a1 a2 a3 a4 a5 M = some (r, M')) : sr_Mi l D vwCl (yty t) ad (ycf t ad) 26 yX5_splice (.code yX5_splice cX5_splice 7 (some .int) :: sr_tbl) ({ frames := 1, cells := 0, slots := 0, locals := 23 }) [.ref (ad 0), .int a1, .int a2, .int a3, .int a4, .int a5] M r M' := by
  refine sr_open_i (cc := cX5_splice) (maxL := 7) (by decide) rfl (Nat.le_of_ble_eq_true rfl) ?_
  intro p e s m args below meth c A Q ls hx hb hml hts0 hown hA hw hl ret
  have hts : ∀ w ∈ sr_tbl, w.before args s = true := fun w hw => hts0 w (List.mem_cons_of_mem _ hw)
  have hown : s.vm.findClass RX5 = some m.cls := hown
  have hl : lv_has ls 7 [(0, .ref (ad 0)), (1, .int a1), (2, .int a2), (3, .int a3), (4, .int a4), (5, .int a5)] := hl
  have hw : yH D t ad A s M s.heap [] := hw
  unfold f5_splice at h
  refine lv_iload_n hx hb dX5_splice_0 rfl (lv_at hl 1 rfl) ?_
  obtain ⟨v1, hc, h⟩ := sr_bind1 h
  refine sr_cSi (As := [.int a1]) (rest := []) ⟨hx, hb, hml, hown, hts⟩ (k5_isCore l D t ad a1 M _ hc) (cwS 1 hts (sr_goodS qmX5_118 qtX5_isCore qnX5 qcX5_isCore) rfl rfl rfl qdX5_isCore ⟨Nat.le_of_ble_eq_true rfl, Nat.le_of_ble_eq_true rfl⟩) hw hA rfl hl.1 rfl (Nat.le_of_ble_eq_true rfl) dX5_splice_1 (fun H locs hw => ?_)
  refine lv_if_eq (tgt := 14) hx hb dX5_splice_4 (by decide) (fun hc => ?_) (fun hc => ?_)
  · have h := sr_ifp h hc
    refine lv_iconst (v := (-1)) hx hb dX5_splice_14 (by decide) ?_
    obtain ⟨rfl, rfl⟩ := Prod.mk.inj (Option.some.inj h)
    exact ret _ _ _ _ hw rfl dX5_splice_15
  · have h := sr_ifn h hc
    refine lv_iload_n hx hb dX5_splice_7 rfl (lv_at hl 3 rfl) ?_
    obtain ⟨v2, hc, h⟩ := sr_bind1 h
    refine sr_cSi (As := [.int a3]) (rest := []) ⟨hx, hb, hml, hown, hts⟩ (k5_isCore l D t ad a3 M _ hc) (cwS 1 hts (sr_goodS qmX5_118 qtX5_isCore qnX5 qcX5_isCore) rfl rfl rfl qdX5_isCore ⟨Nat.le_of_ble_eq_true rfl, Nat.le_of_ble_eq_true rfl⟩) hw hA rfl hl.1 rfl (Nat.le_of_ble_eq_true rfl) dX5_splice_8 (fun H locs hw => ?_)
    refine lv_if_ne (tgt := 16) hx hb dX5_splice_11 (by decide) (fun hc => ?_) (fun hc => ?_)
    · have h := sr_ifn h hc
      refine lv_aload_n hx hb dX5_splice_16 rfl (lv_at hl 0 rfl) ?_
      refine sr_getr hx hb hts qzX5 hown hw (yf_0_10 t ad) (hts _ qfX5_32) dX5_splice_17 ?_
      refine lv_iload_n hx hb dX5_splice_20 rfl (lv_at hl 1 rfl) ?_
      refine sr_iald hx hb hw (ya_8 t ad) h dX5_splice_21 (fun v3 h => ?_)
      refine lv_if_lt (tgt := 34) hx hb dX5_splice_22 (by decide) (fun hc => ?_) (fun hc => ?_)
      · have h := sr_ifp h hc
        refine lv_bipush (v := (-3)) hx hb dX5_splice_34 (by decide) ?_
        obtain ⟨rfl, rfl⟩ := Prod.mk.inj (Option.some.inj h)
        exact ret _ _ _ _ hw rfl dX5_splice_36
      · have h := sr_ifn h hc
        refine lv_aload_n hx hb dX5_splice_25 rfl (lv_at hl 0 rfl) ?_
        refine sr_getr hx hb hts qzX5 hown hw (yf_0_10 t ad) (hts _ qfX5_32) dX5_splice_26 ?_
        refine lv_iload_n hx hb dX5_splice_29 rfl (lv_at hl 3 rfl) ?_
        refine sr_iald hx hb hw (ya_8 t ad) h dX5_splice_30 (fun v4 h => ?_)
        refine lv_if_ge (tgt := 37) hx hb dX5_splice_31 (by decide) (fun hc => ?_) (fun hc => ?_)
        · have h := sr_ifp h hc
          refine lv_aload_n hx hb dX5_splice_37 rfl (lv_at hl 0 rfl) ?_
          refine sr_getr hx hb hts qzX5 hown hw (yf_0_9 t ad) (hts _ qfX5_29) dX5_splice_38 ?_
          refine lv_iload_n hx hb dX5_splice_41 rfl (lv_at hl 1 rfl) ?_
          refine sr_iald hx hb hw (ya_7 t ad) h dX5_splice_42 (fun v5 h => ?_)
          refine lv_aload_n hx hb dX5_splice_43 rfl (lv_at hl 0 rfl) ?_
          refine sr_getr hx hb hts qzX5 hown hw (yf_0_9 t ad) (hts _ qfX5_29) dX5_splice_44 ?_
          refine lv_iload_n hx hb dX5_splice_47 rfl (lv_at hl 3 rfl) ?_
          refine sr_iald hx hb hw (ya_7 t ad) h dX5_splice_48 (fun v6 h => ?_)
          refine lv_icmp_eq (tgt := 55) hx hb dX5_splice_49 (by decide) (fun hc => ?_) (fun hc => ?_)
          · have h := sr_ifp h hc
            refine lv_aload_n hx hb dX5_splice_55 rfl (lv_at hl 0 rfl) ?_
            refine lv_iload_n hx hb dX5_splice_56 rfl (lv_at hl 1 rfl) ?_
            refine lv_iload_n hx hb dX5_splice_57 rfl (lv_at hl 2 rfl) ?_
            refine lv_iload hx hb dX5_splice_58 (lv_at hl 5 rfl) ?_
            obtain ⟨v7, hc, h⟩ := sr_bind1 h
            refine sr_cVi (As := [.int a1, .int a2, .int a5]) (rest := []) ⟨hx, hb, hml, hown, hts⟩ (k5_hasRow l D t ad a1 a2 a5 M _ hc) (cwV 3 hts (sr_goodV qmX5_131 qiX5_hasRow qsX5_hasRow qnX5 qcX5_hasRow) rfl rfl rfl qdX5_hasRow ⟨Nat.le_of_ble_eq_true rfl, Nat.le_of_ble_eq_true rfl⟩) hw hA (yo_0 t ad) rfl hl.1 rfl (Nat.le_of_ble_eq_true rfl) dX5_splice_60 (fun H locs hw => ?_)
            refine lv_if_eq (tgt := 78) hx hb dX5_splice_63 (by decide) (fun hc => ?_) (fun hc => ?_)
            · have h := sr_ifp h hc
              refine lv_iconst (v := (-1)) hx hb dX5_splice_78 (by decide) ?_
              obtain ⟨rfl, rfl⟩ := Prod.mk.inj (Option.some.inj h)
              exact ret _ _ _ _ hw rfl dX5_splice_79
            · have h := sr_ifn h hc
              refine lv_aload_n hx hb dX5_splice_66 rfl (lv_at hl 0 rfl) ?_
              refine lv_iload_n hx hb dX5_splice_67 rfl (lv_at hl 3 rfl) ?_
              refine lv_iload hx hb dX5_splice_68 (lv_at hl 4 rfl) ?_
              refine lv_iload hx hb dX5_splice_70 (lv_at hl 5 rfl) ?_
              obtain ⟨v8, hc, h⟩ := sr_bind1 h
              refine sr_cVi (As := [.int a3, .int a4, .int a5]) (rest := []) ⟨hx, hb, hml, hown, hts⟩ (k5_hasRow l D t ad a3 a4 a5 M _ hc) (cwV 3 hts (sr_goodV qmX5_131 qiX5_hasRow qsX5_hasRow qnX5 qcX5_hasRow) rfl rfl rfl qdX5_hasRow ⟨Nat.le_of_ble_eq_true rfl, Nat.le_of_ble_eq_true rfl⟩) hw hA (yo_0 t ad) rfl hl.1 rfl (Nat.le_of_ble_eq_true rfl) dX5_splice_72 (fun H locs hw => ?_)
              refine lv_if_ne (tgt := 80) hx hb dX5_splice_75 (by decide) (fun hc => ?_) (fun hc => ?_)
              · have h := sr_ifn h hc
                refine lv_iconst (v := 0) hx hb dX5_splice_80 (by decide) ?_
                refine lv_istore (lv' := [(6, .int 0), (0, .ref (ad 0)), (1, .int a1), (2, .int a2), (3, .int a3), (4, .int a4), (5, .int a5)]) hx hb dX5_splice_81 hl (by decide) rfl (fun ls hl => ?_)
                obtain ⟨x9, hlp, hE9⟩ := sr_bind h
                have hX9 : ∀ (M16 : sr_M), M16 = x9 → ∀ (H : Heap) (locs : List Loc) (ls : Array Slot), yH D t ad A s M16 H locs → lv_has ls 7 [(0, .ref (ad 0)), (1, .int a1), (2, .int a2), (5, .int a5)] → W p l e ({ frames := 1, cells := 0, slots := 0, locals := 23 }) s m args below meth c H locs 0 0 Q (F0 m 140 ls []) := by
                  intro M16 ex H locs ls hw hl
                  have h := hE9 _ ex
                  try dsimp only at h
                  refine lv_iconst (v := 0) hx hb dX5_splice_140 (by decide) ?_
                  refine lv_istore (lv' := [(6, .int 0), (0, .ref (ad 0)), (1, .int a1), (2, .int a2), (5, .int a5)]) hx hb dX5_splice_141 hl (by decide) rfl (fun ls hl => ?_)
                  obtain ⟨x17, hlp, hE17⟩ := sr_bind h
                  have hX17 : ∀ (M24 : sr_M), M24 = x17 → ∀ (H : Heap) (locs : List Loc) (ls : Array Slot), yH D t ad A s M24 H locs → lv_has ls 7 [] → W p l e ({ frames := 1, cells := 0, slots := 0, locals := 23 }) s m args below meth c H locs 0 0 Q (F0 m 198 ls []) := by
                    intro M24 ex H locs ls hw hl
                    have h := hE17 _ ex
                    try dsimp only at h
                    refine lv_iconst (v := 1) hx hb dX5_splice_198 (by decide) ?_
                    obtain ⟨rfl, rfl⟩ := Prod.mk.inj (Option.some.inj h)
                    exact ret _ _ _ _ hw rfl dX5_splice_199
                  refine sr_lp_rule (fun (z17 : Int32 × sr_M) => ∀ (H : Heap) (locs : List Loc) (ls : Array Slot), yH D t ad A s z17.2 H locs → lv_has ls 7 [(0, .ref (ad 0)), (1, .int a1), (2, .int a2), (5, .int a5), (6, .int z17.1)] → W p l e ({ frames := 1, cells := 0, slots := 0, locals := 23 }) s m args below meth c H locs 0 0 Q (F0 m 143 ls [])) ?_ hlp _ _ _ hw (lv_sub hl [1, 2, 3, 4, 0] rfl)
                  rintro ⟨v18, M19⟩ y17 h hi17 he17 H locs ls hw hl
                  have h : f5_splice_L143 a1 a2 a5 v18 M19 = some y17 := h
                  have hw : yH D t ad A s M19 H locs := hw
                  have hl : lv_has ls 7 [(0, .ref (ad 0)), (1, .int a1), (2, .int a2), (5, .int a5), (6, .int v18)] := hl
                  unfold f5_splice_L143 at h
                  refine lv_iload hx hb dX5_splice_143 (lv_at hl 4 rfl) ?_
                  refine lv_iload hx hb dX5_splice_145 (lv_at hl 3 rfl) ?_
                  refine lv_icmp_ge (tgt := 198) hx hb dX5_splice_147 (by decide) (fun hc => ?_) (fun hc => ?_)
                  · have h := sr_ifp h hc
                    exact hX17  M19 (he17 _ (Option.some.inj h).symm) _ _ _ hw (lv_sub hl [] rfl)
                  · have h := sr_ifn h hc
                    refine lv_aload_n hx hb dX5_splice_150 rfl (lv_at hl 0 rfl) ?_
                    refine sr_getr hx hb hts qzX5 hown hw (yf_0_11 t ad) (hts _ qfX5_35) dX5_splice_151 ?_
                    refine lv_bipush (v := 60) hx hb dX5_splice_154 (by decide) ?_
                    refine lv_iload_n hx hb dX5_splice_156 rfl (lv_at hl 1 rfl) ?_
                    refine lv_imul hx hb dX5_splice_157 ?_
                    refine lv_iload_n hx hb dX5_splice_158 rfl (lv_at hl 2 rfl) ?_
                    refine lv_iadd hx hb dX5_splice_159 ?_
                    refine lv_iload hx hb dX5_splice_160 (lv_at hl 4 rfl) ?_
                    refine lv_iadd hx hb dX5_splice_162 ?_
                    refine lv_aload_n hx hb dX5_splice_163 rfl (lv_at hl 0 rfl) ?_
                    refine sr_getr hx hb hts qzX5 hown hw (yf_0_21 t ad) (hts _ qfX5_58) dX5_splice_164 ?_
                    refine lv_iload hx hb dX5_splice_167 (lv_at hl 4 rfl) ?_
                    refine sr_lald hx hb hw (ya_16 t ad) h dX5_splice_169 (fun v20 h => ?_)
                    refine sr_last hx hb hw (ya_9 t ad) h dX5_splice_170 (fun M21 H locs h hw => ?_)
                    refine lv_aload_n hx hb dX5_splice_171 rfl (lv_at hl 0 rfl) ?_
                    refine sr_getr hx hb hts qzX5 hown hw (yf_0_12 t ad) (hts _ qfX5_39) dX5_splice_172 ?_
                    refine lv_bipush (v := 60) hx hb dX5_splice_175 (by decide) ?_
                    refine lv_iload_n hx hb dX5_splice_177 rfl (lv_at hl 1 rfl) ?_
                    refine lv_imul hx hb dX5_splice_178 ?_
                    refine lv_iload_n hx hb dX5_splice_179 rfl (lv_at hl 2 rfl) ?_
                    refine lv_iadd hx hb dX5_splice_180 ?_
                    refine lv_iload hx hb dX5_splice_181 (lv_at hl 4 rfl) ?_
                    refine lv_iadd hx hb dX5_splice_183 ?_
                    refine lv_aload_n hx hb dX5_splice_184 rfl (lv_at hl 0 rfl) ?_
                    refine sr_getr hx hb hts qzX5 hown hw (yf_0_22 t ad) (hts _ qfX5_61) dX5_splice_185 ?_
                    refine lv_iload hx hb dX5_splice_188 (lv_at hl 4 rfl) ?_
                    refine sr_dald hx hb hw (ya_17 t ad) h dX5_splice_190 (fun v22 h => ?_)
                    refine sr_dast hx hb hw (ya_10 t ad) h dX5_splice_191 (fun M23 H locs h hw => ?_)
                    refine lv_iinc (v := (v18 + 1)) (lv' := [(6, .int (v18 + 1)), (0, .ref (ad 0)), (1, .int a1), (2, .int a2), (5, .int a5)]) hx hb dX5_splice_192 hl (k := 4) rfl rfl (by decide) rfl (fun ls hl => ?_)
                    refine lv_goto (tgt := 143) hx hb dX5_splice_195 (by decide) ?_
                    exact hi17 ((v18 + 1), M23) (Option.some.inj h).symm _ _ _ hw (lv_sub hl [1, 2, 3, 4, 0] rfl)
                refine sr_lp_rule (fun (z9 : Int32 × sr_M) => ∀ (H : Heap) (locs : List Loc) (ls : Array Slot), yH D t ad A s z9.2 H locs → lv_has ls 7 [(0, .ref (ad 0)), (1, .int a1), (2, .int a2), (3, .int a3), (4, .int a4), (5, .int a5), (6, .int z9.1)] → W p l e ({ frames := 1, cells := 0, slots := 0, locals := 23 }) s m args below meth c H locs 0 0 Q (F0 m 83 ls [])) ?_ hlp _ _ _ hw (lv_sub hl [1, 2, 3, 4, 5, 6, 0] rfl)
                rintro ⟨v10, M11⟩ y9 h hi9 he9 H locs ls hw hl
                have h : f5_splice_L83 a3 a4 a5 v10 M11 = some y9 := h
                have hw : yH D t ad A s M11 H locs := hw
                have hl : lv_has ls 7 [(0, .ref (ad 0)), (1, .int a1), (2, .int a2), (3, .int a3), (4, .int a4), (5, .int a5), (6, .int v10)] := hl
                unfold f5_splice_L83 at h
                refine lv_iload hx hb dX5_splice_83 (lv_at hl 6 rfl) ?_
                refine lv_iload hx hb dX5_splice_85 (lv_at hl 5 rfl) ?_
                refine lv_icmp_ge (tgt := 140) hx hb dX5_splice_87 (by decide) (fun hc => ?_) (fun hc => ?_)
                · have h := sr_ifp h hc
                  exact hX9  M11 (he9 _ (Option.some.inj h).symm) _ _ _ hw (lv_sub hl [0, 1, 2, 5] rfl)
                · have h := sr_ifn h hc
                  refine lv_aload_n hx hb dX5_splice_90 rfl (lv_at hl 0 rfl) ?_
                  refine sr_getr hx hb hts qzX5 hown hw (yf_0_21 t ad) (hts _ qfX5_58) dX5_splice_91 ?_
                  refine lv_iload hx hb dX5_splice_94 (lv_at hl 6 rfl) ?_
                  refine lv_aload_n hx hb dX5_splice_96 rfl (lv_at hl 0 rfl) ?_
                  refine sr_getr hx hb hts qzX5 hown hw (yf_0_11 t ad) (hts _ qfX5_35) dX5_splice_97 ?_
                  refine lv_bipush (v := 60) hx hb dX5_splice_100 (by decide) ?_
                  refine lv_iload_n hx hb dX5_splice_102 rfl (lv_at hl 3 rfl) ?_
                  refine lv_imul hx hb dX5_splice_103 ?_
                  refine lv_iload hx hb dX5_splice_104 (lv_at hl 4 rfl) ?_
                  refine lv_iadd hx hb dX5_splice_106 ?_
                  refine lv_iload hx hb dX5_splice_107 (lv_at hl 6 rfl) ?_
                  refine lv_iadd hx hb dX5_splice_109 ?_
                  refine sr_lald hx hb hw (ya_9 t ad) h dX5_splice_110 (fun v12 h => ?_)
                  refine sr_last hx hb hw (ya_16 t ad) h dX5_splice_111 (fun M13 H locs h hw => ?_)
                  refine lv_aload_n hx hb dX5_splice_112 rfl (lv_at hl 0 rfl) ?_
                  refine sr_getr hx hb hts qzX5 hown hw (yf_0_22 t ad) (hts _ qfX5_61) dX5_splice_113 ?_
                  refine lv_iload hx hb dX5_splice_116 (lv_at hl 6 rfl) ?_
                  refine lv_aload_n hx hb dX5_splice_118 rfl (lv_at hl 0 rfl) ?_
                  refine sr_getr hx hb hts qzX5 hown hw (yf_0_12 t ad) (hts _ qfX5_39) dX5_splice_119 ?_
                  refine lv_bipush (v := 60) hx hb dX5_splice_122 (by decide) ?_
                  refine lv_iload_n hx hb dX5_splice_124 rfl (lv_at hl 3 rfl) ?_
                  refine lv_imul hx hb dX5_splice_125 ?_
                  refine lv_iload hx hb dX5_splice_126 (lv_at hl 4 rfl) ?_
                  refine lv_iadd hx hb dX5_splice_128 ?_
                  refine lv_iload hx hb dX5_splice_129 (lv_at hl 6 rfl) ?_
                  refine lv_iadd hx hb dX5_splice_131 ?_
                  refine sr_dald hx hb hw (ya_10 t ad) h dX5_splice_132 (fun v14 h => ?_)
                  refine sr_dast hx hb hw (ya_17 t ad) h dX5_splice_133 (fun M15 H locs h hw => ?_)
                  refine lv_iinc (v := (v10 + 1)) (lv' := [(6, .int (v10 + 1)), (0, .ref (ad 0)), (1, .int a1), (2, .int a2), (3, .int a3), (4, .int a4), (5, .int a5)]) hx hb dX5_splice_134 hl (k := 6) rfl rfl (by decide) rfl (fun ls hl => ?_)
                  refine lv_goto (tgt := 83) hx hb dX5_splice_137 (by decide) ?_
                  exact hi9 ((v10 + 1), M15) (Option.some.inj h).symm _ _ _ hw (lv_sub hl [1, 2, 3, 4, 5, 6, 0] rfl)
              · have h := sr_ifp h hc
                refine lv_iconst (v := (-1)) hx hb dX5_splice_78 (by decide) ?_
                obtain ⟨rfl, rfl⟩ := Prod.mk.inj (Option.some.inj h)
                exact ret _ _ _ _ hw rfl dX5_splice_79
          · have h := sr_ifn h hc
            refine lv_bipush (v := (-4)) hx hb dX5_splice_52 (by decide) ?_
            obtain ⟨rfl, rfl⟩ := Prod.mk.inj (Option.some.inj h)
            exact ret _ _ _ _ hw rfl dX5_splice_54
        · have h := sr_ifn h hc
          refine lv_bipush (v := (-3)) hx hb dX5_splice_34 (by decide) ?_
          obtain ⟨rfl, rfl⟩ := Prod.mk.inj (Option.some.inj h)
          exact ret _ _ _ _ hw rfl dX5_splice_36
    · have h := sr_ifp h hc
      refine lv_iconst (v := (-1)) hx hb dX5_splice_14 (by decide) ?_
      obtain ⟨rfl, rfl⟩ := Prod.mk.inj (Option.some.inj h)
      exact ret _ _ _ _ hw rfl dX5_splice_15

noncomputable def f5_lose (a1 : Int32) (M : sr_M) : Option (Int32 × sr_M) :=
(f5_isCore a1 M).bind fun v1 =>
if v1 = 0 then
(some ((-1), M))
else
(sr_ld a1 6 (M.1 8) fun v2 =>
if 0 ≤ v2 then
(sr_st a1 6 M 8 (-1) fun M3 =>
some (1, M3))
else
(some ((-3), M)))
set_option maxHeartbeats 4000000 in
set_option maxRecDepth 100000 in
theorem k5_lose (l : Launch) (D : va_G) (t : Nat → ClassId) (ad : Nat → Nat) (a1 : Int32) (M : sr_M) (r : Int32) (M' : sr_M) (h : f5_lose a1 M = some (r, M')) : sr_Mi l D vwCl (yty t) ad (ycf t ad) 26 yX5_lose (.code yX5_lose cX5_lose 2 (some .int) :: sr_tbl) ({ frames := 1, cells := 0, slots := 0, locals := 20 }) [.ref (ad 0), .int a1] M r M' := by
  refine sr_open_i (cc := cX5_lose) (maxL := 2) (by decide) rfl (Nat.le_of_ble_eq_true rfl) ?_
  intro p e s m args below meth c A Q ls hx hb hml hts0 hown hA hw hl ret
  have hts : ∀ w ∈ sr_tbl, w.before args s = true := fun w hw => hts0 w (List.mem_cons_of_mem _ hw)
  have hown : s.vm.findClass RX5 = some m.cls := hown
  have hl : lv_has ls 2 [(0, .ref (ad 0)), (1, .int a1)] := hl
  have hw : yH D t ad A s M s.heap [] := hw
  unfold f5_lose at h
  refine lv_iload_n hx hb dX5_lose_0 rfl (lv_at hl 1 rfl) ?_
  obtain ⟨v1, hc, h⟩ := sr_bind1 h
  refine sr_cSi (As := [.int a1]) (rest := []) ⟨hx, hb, hml, hown, hts⟩ (k5_isCore l D t ad a1 M _ hc) (cwS 1 hts (sr_goodS qmX5_118 qtX5_isCore qnX5 qcX5_isCore) rfl rfl rfl qdX5_isCore ⟨Nat.le_of_ble_eq_true rfl, Nat.le_of_ble_eq_true rfl⟩) hw hA rfl hl.1 rfl (Nat.le_of_ble_eq_true rfl) dX5_lose_1 (fun H locs hw => ?_)
  refine lv_if_ne (tgt := 9) hx hb dX5_lose_4 (by decide) (fun hc => ?_) (fun hc => ?_)
  · have h := sr_ifn h hc
    refine lv_aload_n hx hb dX5_lose_9 rfl (lv_at hl 0 rfl) ?_
    refine sr_getr hx hb hts qzX5 hown hw (yf_0_10 t ad) (hts _ qfX5_32) dX5_lose_10 ?_
    refine lv_iload_n hx hb dX5_lose_13 rfl (lv_at hl 1 rfl) ?_
    refine sr_iald hx hb hw (ya_8 t ad) h dX5_lose_14 (fun v2 h => ?_)
    refine lv_if_ge (tgt := 21) hx hb dX5_lose_15 (by decide) (fun hc => ?_) (fun hc => ?_)
    · have h := sr_ifp h hc
      refine lv_aload_n hx hb dX5_lose_21 rfl (lv_at hl 0 rfl) ?_
      refine sr_getr hx hb hts qzX5 hown hw (yf_0_10 t ad) (hts _ qfX5_32) dX5_lose_22 ?_
      refine lv_iload_n hx hb dX5_lose_25 rfl (lv_at hl 1 rfl) ?_
      refine lv_iconst (v := (-1)) hx hb dX5_lose_26 (by decide) ?_
      refine sr_iast hx hb hw (ya_8 t ad) h dX5_lose_27 (fun M3 H locs h hw => ?_)
      refine lv_iconst (v := 1) hx hb dX5_lose_28 (by decide) ?_
      obtain ⟨rfl, rfl⟩ := Prod.mk.inj (Option.some.inj h)
      exact ret _ _ _ _ hw rfl dX5_lose_29
    · have h := sr_ifn h hc
      refine lv_bipush (v := (-3)) hx hb dX5_lose_18 (by decide) ?_
      obtain ⟨rfl, rfl⟩ := Prod.mk.inj (Option.some.inj h)
      exact ret _ _ _ _ hw rfl dX5_lose_20
  · have h := sr_ifp h hc
    refine lv_iconst (v := (-1)) hx hb dX5_lose_7 (by decide) ?_
    obtain ⟨rfl, rfl⟩ := Prod.mk.inj (Option.some.inj h)
    exact ret _ _ _ _ hw rfl dX5_lose_8

noncomputable def f5_wholeOf (a1 : Int32) (a2 : Int32) (M : sr_M) : Option (Int64) :=
sr_ld a1 6 (M.1 7) fun v1 =>
if 4 ≤ v1 then
(sr_ld (((60 : Int32) * a1) + a2) 360 (M.2.2 10) fun v2 =>
some (FP.d2l v2))
else
(sr_ld (((60 : Int32) * a1) + a2) 360 (M.2.1 9) fun v3 =>
some v3)
set_option maxHeartbeats 4000000 in
set_option maxRecDepth 100000 in
theorem k5_wholeOf (l : Launch) (D : va_G) (t : Nat → ClassId) (ad : Nat → Nat) (a1 : Int32) (a2 : Int32) (M : sr_M) (r : Int64) (h : f5_wholeOf a1 a2 M = some r) : sr_Ml l D vwCl (yty t) ad (ycf t ad) 26 yX5_wholeOf (.code yX5_wholeOf cX5_wholeOf 4 (some .long) :: sr_tbl) ({ frames := 0, cells := 0, slots := 0, locals := 0 }) [.ref (ad 0), .int a1, .int a2] M r M := by
  refine sr_open_l (cc := cX5_wholeOf) (maxL := 4) (by decide) rfl (Nat.le_of_ble_eq_true rfl) ?_
  intro p e s m args below meth c A Q ls hx hb hml hts0 hown hA hw hl ret
  have hts : ∀ w ∈ sr_tbl, w.before args s = true := fun w hw => hts0 w (List.mem_cons_of_mem _ hw)
  have hown : s.vm.findClass RX5 = some m.cls := hown
  have hl : lv_has ls 4 [(0, .ref (ad 0)), (1, .int a1), (2, .int a2)] := hl
  have hw : yH D t ad A s M s.heap [] := hw
  unfold f5_wholeOf at h
  refine lv_bipush (v := 60) hx hb dX5_wholeOf_0 (by decide) ?_
  refine lv_iload_n hx hb dX5_wholeOf_2 rfl (lv_at hl 1 rfl) ?_
  refine lv_imul hx hb dX5_wholeOf_3 ?_
  refine lv_iload_n hx hb dX5_wholeOf_4 rfl (lv_at hl 2 rfl) ?_
  refine lv_iadd hx hb dX5_wholeOf_5 ?_
  refine lv_istore_n (lv' := [(3, .int (((60 : Int32) * a1) + a2)), (0, .ref (ad 0)), (1, .int a1), (2, .int a2)]) hx hb dX5_wholeOf_6 rfl hl (by decide) rfl (fun ls hl => ?_)
  refine lv_aload_n hx hb dX5_wholeOf_7 rfl (lv_at hl 1 rfl) ?_
  refine sr_getr hx hb hts qzX5 hown hw (yf_0_9 t ad) (hts _ qfX5_29) dX5_wholeOf_8 ?_
  refine lv_iload_n hx hb dX5_wholeOf_11 rfl (lv_at hl 2 rfl) ?_
  refine sr_iald hx hb hw (ya_7 t ad) h dX5_wholeOf_12 (fun v1 h => ?_)
  refine lv_iconst (v := 4) hx hb dX5_wholeOf_13 (by decide) ?_
  refine lv_icmp_ge (tgt := 26) hx hb dX5_wholeOf_14 (by decide) (fun hc => ?_) (fun hc => ?_)
  · have h := sr_ifp h hc
    refine lv_aload_n hx hb dX5_wholeOf_26 rfl (lv_at hl 1 rfl) ?_
    refine sr_getr hx hb hts qzX5 hown hw (yf_0_12 t ad) (hts _ qfX5_39) dX5_wholeOf_27 ?_
    refine lv_iload_n hx hb dX5_wholeOf_30 rfl (lv_at hl 0 rfl) ?_
    refine sr_dald hx hb hw (ya_10 t ad) h dX5_wholeOf_31 (fun v2 h => ?_)
    refine lv_d2l hx hb dX5_wholeOf_32 ?_
    obtain rfl := Option.some.inj h
    exact ret _ _ _ _ hw dX5_wholeOf_33
  · have h := sr_ifn h hc
    refine lv_aload_n hx hb dX5_wholeOf_17 rfl (lv_at hl 1 rfl) ?_
    refine sr_getr hx hb hts qzX5 hown hw (yf_0_11 t ad) (hts _ qfX5_35) dX5_wholeOf_18 ?_
    refine lv_iload_n hx hb dX5_wholeOf_21 rfl (lv_at hl 0 rfl) ?_
    refine sr_lald hx hb hw (ya_9 t ad) h dX5_wholeOf_22 (fun v3 h => ?_)
    refine lv_goto (tgt := 33) hx hb dX5_wholeOf_23 (by decide) ?_
    obtain rfl := Option.some.inj h
    exact ret _ _ _ _ hw dX5_wholeOf_33

noncomputable def f5_told (a1 : Int32) (a2 : Int32) (M : sr_M) : Option (Int64) :=
(f5_isCore a1 M).bind fun v1 =>
sr_jn (some 9223372036854775807) fun (K2 : Option (Int64)) =>
if v1 = 0 then
(K2)
else
(if a2 < 0 then
(K2)
else
(sr_ld a1 6 (M.1 8) fun v3 =>
if a2 < v3 then
((f5_wholeOf a1 a2 M).bind fun v4 =>
some v4)
else
(K2)))
set_option maxHeartbeats 4000000 in
set_option maxRecDepth 100000 in
theorem k5_told (l : Launch) (D : va_G) (t : Nat → ClassId) (ad : Nat → Nat) (a1 : Int32) (a2 : Int32) (M : sr_M) (r : Int64) (h : f5_told a1 a2 M = some r) : sr_Ml l D vwCl (yty t) ad (ycf t ad) 26 yX5_told (.code yX5_told cX5_told 3 (some .long) :: sr_tbl) ({ frames := 1, cells := 0, slots := 0, locals := 23 }) [.ref (ad 0), .int a1, .int a2] M r M := by
  refine sr_open_l (cc := cX5_told) (maxL := 3) (by decide) rfl (Nat.le_of_ble_eq_true rfl) ?_
  intro p e s m args below meth c A Q ls hx hb hml hts0 hown hA hw hl ret
  have hts : ∀ w ∈ sr_tbl, w.before args s = true := fun w hw => hts0 w (List.mem_cons_of_mem _ hw)
  have hown : s.vm.findClass RX5 = some m.cls := hown
  have hl : lv_has ls 3 [(0, .ref (ad 0)), (1, .int a1), (2, .int a2)] := hl
  have hw : yH D t ad A s M s.heap [] := hw
  unfold f5_told at h
  refine lv_iload_n hx hb dX5_told_0 rfl (lv_at hl 1 rfl) ?_
  obtain ⟨v1, hc, h⟩ := sr_bind1 h
  refine sr_cSi (As := [.int a1]) (rest := []) ⟨hx, hb, hml, hown, hts⟩ (k5_isCore l D t ad a1 M _ hc) (cwS 1 hts (sr_goodS qmX5_118 qtX5_isCore qnX5 qcX5_isCore) rfl rfl rfl qdX5_isCore ⟨Nat.le_of_ble_eq_true rfl, Nat.le_of_ble_eq_true rfl⟩) hw hA rfl hl.1 rfl (Nat.le_of_ble_eq_true rfl) dX5_told_1 (fun H locs hw => ?_)
  refine sr_jn_rule (fun (K2 : Option (Int64)) => K2 = some r → ∀ (H : Heap) (locs : List Loc) (ls : Array Slot), yH D t ad A s M H locs → lv_has ls 3 [] → W p l e ({ frames := 1, cells := 0, slots := 0, locals := 23 }) s m args below meth c H locs 0 0 Q (F0 m 21 ls [])) h ?_ (fun K2 hK2 h => ?_)
  · intro  h H locs ls hw hl
    refine lv_ldc2 (v := 9223372036854775807) hx hb hown (hts _ qkX5_135) dX5_told_21 ?_
    refine lv_goto (tgt := 33) hx hb dX5_told_24 (by decide) ?_
    obtain rfl := Option.some.inj h
    exact ret _ _ _ _ hw dX5_told_33
  · refine lv_if_eq (tgt := 21) hx hb dX5_told_4 (by decide) (fun hc => ?_) (fun hc => ?_)
    · have h := sr_ifp h hc
      exact hK2  h _ _ _ hw (lv_sub hl [] rfl)
    · have h := sr_ifn h hc
      refine lv_iload_n hx hb dX5_told_7 rfl (lv_at hl 2 rfl) ?_
      refine lv_if_lt (tgt := 21) hx hb dX5_told_8 (by decide) (fun hc => ?_) (fun hc => ?_)
      · have h := sr_ifp h hc
        exact hK2  h _ _ _ hw (lv_sub hl [] rfl)
      · have h := sr_ifn h hc
        refine lv_iload_n hx hb dX5_told_11 rfl (lv_at hl 2 rfl) ?_
        refine lv_aload_n hx hb dX5_told_12 rfl (lv_at hl 0 rfl) ?_
        refine sr_getr hx hb hts qzX5 hown hw (yf_0_10 t ad) (hts _ qfX5_32) dX5_told_13 ?_
        refine lv_iload_n hx hb dX5_told_16 rfl (lv_at hl 1 rfl) ?_
        refine sr_iald hx hb hw (ya_8 t ad) h dX5_told_17 (fun v3 h => ?_)
        refine lv_icmp_lt (tgt := 27) hx hb dX5_told_18 (by decide) (fun hc => ?_) (fun hc => ?_)
        · have h := sr_ifp h hc
          refine lv_aload_n hx hb dX5_told_27 rfl (lv_at hl 0 rfl) ?_
          refine lv_iload_n hx hb dX5_told_28 rfl (lv_at hl 1 rfl) ?_
          refine lv_iload_n hx hb dX5_told_29 rfl (lv_at hl 2 rfl) ?_
          obtain ⟨v4, hc, h⟩ := sr_bind1 h
          refine sr_cVl (As := [.int a1, .int a2]) (rest := []) ⟨hx, hb, hml, hown, hts⟩ (k5_wholeOf l D t ad a1 a2 M _ hc) (cwV 2 hts (sr_goodV qmX5_137 qiX5_wholeOf qsX5_wholeOf qnX5 qcX5_wholeOf) rfl rfl rfl qdX5_wholeOf ⟨Nat.le_of_ble_eq_true rfl, Nat.le_of_ble_eq_true rfl⟩) hw hA (yo_0 t ad) rfl hl.1 rfl (Nat.le_of_ble_eq_true rfl) dX5_told_30 (fun H locs hw => ?_)
          obtain rfl := Option.some.inj h
          exact ret _ _ _ _ hw dX5_told_33
        · have h := sr_ifn h hc
          exact hK2  h _ _ _ hw (lv_sub hl [] rfl)

noncomputable def f5_pour_L60 (a1 : Int32) (a2 : Int32) (a3 : Int32) (a4 : Int32) (v7 : Int32) (M8 : sr_M) : Option ((Int32 × sr_M) ⊕ (sr_M)) :=
if a3 ≤ v7 then
(some (.inr M8))
else
((f5_wholeOf a1 (a2 + v7) M8).bind fun v9 =>
sr_ld ((((60 : Int32) * a1) + a2) + v7) 360 (M8.2.2 10) fun v10 =>
sr_ld a1 6 (M8.1 7) fun v11 =>
sr_jn (fun (v13 : Int32) =>
sr_jn (fun (v15 : Int32) =>
sr_jn (fun (v17 : Int32) =>
sr_stB (a4 + v7) 300 M8 6 v17 fun M18 =>
sr_jn (fun (v20 : Int32) =>
sr_st (a4 + v7) 300 M18 5 v20 fun M21 =>
some (.inl ((v7 + 1), M21))) fun (K19 : Int32 → Option ((Int32 × sr_M) ⊕ (sr_M))) =>
if v15 = 0 then
(sr_ld (a4 + v7) 300 (M18.1 5) fun v22 =>
K19 v22)
else
(K19 v9.toInt32)) fun (K16 : Int32 → Option ((Int32 × sr_M) ⊕ (sr_M))) =>
if v15 = 0 then
(K16 1)
else
(K16 0)) fun (K14 : Int32 → Option ((Int32 × sr_M) ⊕ (sr_M))) =>
sr_jn (K14 0) fun (K23 : Option ((Int32 × sr_M) ⊕ (sr_M))) =>
if v13 = 0 then
(if (lg_cmp v9 0) < 0 then
(K23)
else
(if 0 < (lg_cmp v9 1000000000) then
(K23)
else
(K14 1)))
else
(K23)) fun (K12 : Int32 → Option ((Int32 × sr_M) ⊕ (sr_M))) =>
sr_jn (K12 0) fun (K24 : Option ((Int32 × sr_M) ⊕ (sr_M))) =>
if v11 < 4 then
(K24)
else
(if (Op.cmpValue (FP.dcmp v10 v10) .l) = 0 then
(K24)
else
(K12 1)))
noncomputable def f5_pour (a1 : Int32) (a2 : Int32) (a3 : Int32) (a4 : Int32) (M : sr_M) : Option (Int32 × sr_M) :=
(f5_isCore a1 M).bind fun v1 =>
if v1 = 0 then
(some ((-1), M))
else
(sr_ld a1 6 (M.1 8) fun v2 =>
if 0 ≤ v2 then
((f5_hasRow a1 a2 a3 M).bind fun v3 =>
if v3 = 0 then
(some ((-1), M))
else
(if a4 < 0 then
(some ((-1), M))
else
(sr_bnd (M.1 0 3) fun v4 =>
if v4 < a3 then
(some ((-1), M))
else
(sr_bnd (M.1 0 3) fun v5 =>
if a4 ≤ (v5 - a3) then
((sr_lp (fun z6 : Int32 × sr_M => f5_pour_L60 a1 a2 a3 a4 z6.1 z6.2) (0, M)).bind fun w6 =>
sr_putB w6 0 13 0 fun M26 =>
some (1, M26))
else
(some ((-1), M))))))
else
(some ((-3), M)))
set_option maxHeartbeats 4000000 in
set_option maxRecDepth 100000 in
theorem k5_pour (l : Launch) (D : va_G) (t : Nat → ClassId) (ad : Nat → Nat) (a1 : Int32) (a2 : Int32) (a3 : Int32) (a4 : Int32) (M : sr_M) (r : Int32) (M' : sr_M) (h : f5_pour a1 a2 a3 a4 M = some (r, M')) : sr_Mi l D vwCl (yty t) ad (ycf t ad) 26 yX5_pour (.code yX5_pour cX5_pour 12 (some .int) :: sr_tbl) ({ frames := 1, cells := 0, slots := 0, locals := 23 }) [.ref (ad 0), .int a1, .int a2, .int a3, .int a4] M r M' := by
  refine sr_open_i (cc := cX5_pour) (maxL := 12) (by decide) rfl (Nat.le_of_ble_eq_true rfl) ?_
  intro p e s m args below meth c A Q ls hx hb hml hts0 hown hA hw hl ret
  have hts : ∀ w ∈ sr_tbl, w.before args s = true := fun w hw => hts0 w (List.mem_cons_of_mem _ hw)
  have hown : s.vm.findClass RX5 = some m.cls := hown
  have hl : lv_has ls 12 [(0, .ref (ad 0)), (1, .int a1), (2, .int a2), (3, .int a3), (4, .int a4)] := hl
  have hw : yH D t ad A s M s.heap [] := hw
  unfold f5_pour at h
  refine lv_iload_n hx hb dX5_pour_0 rfl (lv_at hl 1 rfl) ?_
  obtain ⟨v1, hc, h⟩ := sr_bind1 h
  refine sr_cSi (As := [.int a1]) (rest := []) ⟨hx, hb, hml, hown, hts⟩ (k5_isCore l D t ad a1 M _ hc) (cwS 1 hts (sr_goodS qmX5_118 qtX5_isCore qnX5 qcX5_isCore) rfl rfl rfl qdX5_isCore ⟨Nat.le_of_ble_eq_true rfl, Nat.le_of_ble_eq_true rfl⟩) hw hA rfl hl.1 rfl (Nat.le_of_ble_eq_true rfl) dX5_pour_1 (fun H locs hw => ?_)
  refine lv_if_ne (tgt := 9) hx hb dX5_pour_4 (by decide) (fun hc => ?_) (fun hc => ?_)
  · have h := sr_ifn h hc
    refine lv_aload_n hx hb dX5_pour_9 rfl (lv_at hl 0 rfl) ?_
    refine sr_getr hx hb hts qzX5 hown hw (yf_0_10 t ad) (hts _ qfX5_32) dX5_pour_10 ?_
    refine lv_iload_n hx hb dX5_pour_13 rfl (lv_at hl 1 rfl) ?_
    refine sr_iald hx hb hw (ya_8 t ad) h dX5_pour_14 (fun v2 h => ?_)
    refine lv_if_ge (tgt := 21) hx hb dX5_pour_15 (by decide) (fun hc => ?_) (fun hc => ?_)
    · have h := sr_ifp h hc
      refine lv_aload_n hx hb dX5_pour_21 rfl (lv_at hl 0 rfl) ?_
      refine lv_iload_n hx hb dX5_pour_22 rfl (lv_at hl 1 rfl) ?_
      refine lv_iload_n hx hb dX5_pour_23 rfl (lv_at hl 2 rfl) ?_
      refine lv_iload_n hx hb dX5_pour_24 rfl (lv_at hl 3 rfl) ?_
      obtain ⟨v3, hc, h⟩ := sr_bind1 h
      refine sr_cVi (As := [.int a1, .int a2, .int a3]) (rest := []) ⟨hx, hb, hml, hown, hts⟩ (k5_hasRow l D t ad a1 a2 a3 M _ hc) (cwV 3 hts (sr_goodV qmX5_131 qiX5_hasRow qsX5_hasRow qnX5 qcX5_hasRow) rfl rfl rfl qdX5_hasRow ⟨Nat.le_of_ble_eq_true rfl, Nat.le_of_ble_eq_true rfl⟩) hw hA (yo_0 t ad) rfl hl.1 rfl (Nat.le_of_ble_eq_true rfl) dX5_pour_25 (fun H locs hw => ?_)
      refine lv_if_eq (tgt := 55) hx hb dX5_pour_28 (by decide) (fun hc => ?_) (fun hc => ?_)
      · have h := sr_ifp h hc
        refine lv_iconst (v := (-1)) hx hb dX5_pour_55 (by decide) ?_
        obtain ⟨rfl, rfl⟩ := Prod.mk.inj (Option.some.inj h)
        exact ret _ _ _ _ hw rfl dX5_pour_56
      · have h := sr_ifn h hc
        refine lv_iload hx hb dX5_pour_31 (lv_at hl 4 rfl) ?_
        refine lv_if_lt (tgt := 55) hx hb dX5_pour_33 (by decide) (fun hc => ?_) (fun hc => ?_)
        · have h := sr_ifp h hc
          refine lv_iconst (v := (-1)) hx hb dX5_pour_55 (by decide) ?_
          obtain ⟨rfl, rfl⟩ := Prod.mk.inj (Option.some.inj h)
          exact ret _ _ _ _ hw rfl dX5_pour_56
        · have h := sr_ifn h hc
          refine lv_iload_n hx hb dX5_pour_36 rfl (lv_at hl 3 rfl) ?_
          refine lv_aload_n hx hb dX5_pour_37 rfl (lv_at hl 0 rfl) ?_
          refine sr_geti hx hb hts qzX5 hown hw (yf_0_3 t ad) (hts _ qfX5_92) h dX5_pour_38 (fun v4 h => ?_)
          refine lv_icmp_gt (tgt := 55) hx hb dX5_pour_41 (by decide) (fun hc => ?_) (fun hc => ?_)
          · have h := sr_ifp h hc
            refine lv_iconst (v := (-1)) hx hb dX5_pour_55 (by decide) ?_
            obtain ⟨rfl, rfl⟩ := Prod.mk.inj (Option.some.inj h)
            exact ret _ _ _ _ hw rfl dX5_pour_56
          · have h := sr_ifn h hc
            refine lv_iload hx hb dX5_pour_44 (lv_at hl 4 rfl) ?_
            refine lv_aload_n hx hb dX5_pour_46 rfl (lv_at hl 0 rfl) ?_
            refine sr_geti hx hb hts qzX5 hown hw (yf_0_3 t ad) (hts _ qfX5_92) h dX5_pour_47 (fun v5 h => ?_)
            refine lv_iload_n hx hb dX5_pour_50 rfl (lv_at hl 3 rfl) ?_
            refine lv_isub hx hb dX5_pour_51 ?_
            refine lv_icmp_le (tgt := 57) hx hb dX5_pour_52 (by decide) (fun hc => ?_) (fun hc => ?_)
            · have h := sr_ifp h hc
              refine lv_iconst (v := 0) hx hb dX5_pour_57 (by decide) ?_
              refine lv_istore (lv' := [(5, .int 0), (0, .ref (ad 0)), (1, .int a1), (2, .int a2), (3, .int a3), (4, .int a4)]) hx hb dX5_pour_58 hl (by decide) rfl (fun ls hl => ?_)
              obtain ⟨x6, hlp, hE6⟩ := sr_bind h
              have hX6 : ∀ (M25 : sr_M), M25 = x6 → ∀ (H : Heap) (locs : List Loc) (ls : Array Slot), yH D t ad A s M25 H locs → lv_has ls 12 [(0, .ref (ad 0))] → W p l e ({ frames := 1, cells := 0, slots := 0, locals := 23 }) s m args below meth c H locs 0 0 Q (F0 m 203 ls []) := by
                intro M25 ex H locs ls hw hl
                have h := hE6 _ ex
                try dsimp only at h
                refine lv_aload_n hx hb dX5_pour_203 rfl (lv_at hl 0 rfl) ?_
                refine lv_iconst (v := 0) hx hb dX5_pour_204 (by decide) ?_
                refine sr_putz hx hb hts qzX5 tyX5 tyX5_ok nmX5 hown hw (yf_0_13 t ad) rfl rfl (hts _ qfX5_95) h dX5_pour_205 (fun M26 H locs h hw => ?_)
                refine lv_iconst (v := 1) hx hb dX5_pour_208 (by decide) ?_
                obtain ⟨rfl, rfl⟩ := Prod.mk.inj (Option.some.inj h)
                exact ret _ _ _ _ hw rfl dX5_pour_209
              refine sr_lp_rule (fun (z6 : Int32 × sr_M) => ∀ (H : Heap) (locs : List Loc) (ls : Array Slot), yH D t ad A s z6.2 H locs → lv_has ls 12 [(0, .ref (ad 0)), (1, .int a1), (2, .int a2), (3, .int a3), (4, .int a4), (5, .int z6.1)] → W p l e ({ frames := 1, cells := 0, slots := 0, locals := 23 }) s m args below meth c H locs 0 0 Q (F0 m 60 ls [])) ?_ hlp _ _ _ hw (lv_sub hl [1, 2, 3, 4, 5, 0] rfl)
              rintro ⟨v7, M8⟩ y6 h hi6 he6 H locs ls hw hl
              have h : f5_pour_L60 a1 a2 a3 a4 v7 M8 = some y6 := h
              have hw : yH D t ad A s M8 H locs := hw
              have hl : lv_has ls 12 [(0, .ref (ad 0)), (1, .int a1), (2, .int a2), (3, .int a3), (4, .int a4), (5, .int v7)] := hl
              unfold f5_pour_L60 at h
              refine lv_iload hx hb dX5_pour_60 (lv_at hl 5 rfl) ?_
              refine lv_iload_n hx hb dX5_pour_62 rfl (lv_at hl 3 rfl) ?_
              refine lv_icmp_ge (tgt := 203) hx hb dX5_pour_63 (by decide) (fun hc => ?_) (fun hc => ?_)
              · have h := sr_ifp h hc
                exact hX6  M8 (he6 _ (Option.some.inj h).symm) _ _ _ hw (lv_sub hl [0] rfl)
              · have h := sr_ifn h hc
                refine lv_aload_n hx hb dX5_pour_66 rfl (lv_at hl 0 rfl) ?_
                refine lv_iload_n hx hb dX5_pour_67 rfl (lv_at hl 1 rfl) ?_
                refine lv_iload_n hx hb dX5_pour_68 rfl (lv_at hl 2 rfl) ?_
                refine lv_iload hx hb dX5_pour_69 (lv_at hl 5 rfl) ?_
                refine lv_iadd hx hb dX5_pour_71 ?_
                obtain ⟨v9, hc, h⟩ := sr_bind1 h
                refine sr_cVl (As := [.int a1, .int (a2 + v7)]) (rest := []) ⟨hx, hb, hml, hown, hts⟩ (k5_wholeOf l D t ad a1 (a2 + v7) M8 _ hc) (cwV 2 hts (sr_goodV qmX5_137 qiX5_wholeOf qsX5_wholeOf qnX5 qcX5_wholeOf) rfl rfl rfl qdX5_wholeOf ⟨Nat.le_of_ble_eq_true rfl, Nat.le_of_ble_eq_true rfl⟩) hw hA (yo_0 t ad) rfl hl.1 rfl (Nat.le_of_ble_eq_true rfl) dX5_pour_72 (fun H locs hw => ?_)
                refine lv_lstore (lv' := [(6, .long v9), (0, .ref (ad 0)), (1, .int a1), (2, .int a2), (3, .int a3), (4, .int a4), (5, .int v7)]) hx hb dX5_pour_75 hl (by decide) rfl (fun ls hl => ?_)
                refine lv_aload_n hx hb dX5_pour_77 rfl (lv_at hl 1 rfl) ?_
                refine sr_getr hx hb hts qzX5 hown hw (yf_0_12 t ad) (hts _ qfX5_39) dX5_pour_78 ?_
                refine lv_bipush (v := 60) hx hb dX5_pour_81 (by decide) ?_
                refine lv_iload_n hx hb dX5_pour_83 rfl (lv_at hl 2 rfl) ?_
                refine lv_imul hx hb dX5_pour_84 ?_
                refine lv_iload_n hx hb dX5_pour_85 rfl (lv_at hl 3 rfl) ?_
                refine lv_iadd hx hb dX5_pour_86 ?_
                refine lv_iload hx hb dX5_pour_87 (lv_at hl 6 rfl) ?_
                refine lv_iadd hx hb dX5_pour_89 ?_
                refine sr_dald hx hb hw (ya_10 t ad) h dX5_pour_90 (fun v10 h => ?_)
                refine lv_dstore (lv' := [(8, .double v10), (6, .long v9), (0, .ref (ad 0)), (1, .int a1), (2, .int a2), (3, .int a3), (4, .int a4), (5, .int v7)]) hx hb dX5_pour_91 hl (by decide) rfl (fun ls hl => ?_)
                refine lv_aload_n hx hb dX5_pour_93 rfl (lv_at hl 2 rfl) ?_
                refine sr_getr hx hb hts qzX5 hown hw (yf_0_9 t ad) (hts _ qfX5_29) dX5_pour_94 ?_
                refine lv_iload_n hx hb dX5_pour_97 rfl (lv_at hl 3 rfl) ?_
                refine sr_iald hx hb hw (ya_7 t ad) h dX5_pour_98 (fun v11 h => ?_)
                refine lv_iconst (v := 4) hx hb dX5_pour_99 (by decide) ?_
                refine sr_jn_rule (fun (K12 : Int32 → Option ((Int32 × sr_M) ⊕ (sr_M))) => ∀ (v13 : Int32), K12 v13 = some y6 → ∀ (H : Heap) (locs : List Loc) (ls : Array Slot), yH D t ad A s M8 H locs → lv_has ls 12 [(0, .ref (ad 0)), (1, .int a1), (2, .int a2), (3, .int a3), (4, .int a4), (5, .int v7), (6, .long v9)] → W p l e ({ frames := 1, cells := 0, slots := 0, locals := 23 }) s m args below meth c H locs 0 0 Q (F0 m 116 ls [.int v13])) h ?_ (fun K12 hK12 h => ?_)
                · intro v13 h H locs ls hw hl
                  refine lv_istore (lv' := [(10, .int v13), (0, .ref (ad 0)), (1, .int a1), (2, .int a2), (3, .int a3), (4, .int a4), (5, .int v7), (6, .long v9)]) hx hb dX5_pour_116 hl (by decide) rfl (fun ls hl => ?_)
                  refine lv_iload hx hb dX5_pour_118 (lv_at hl 0 rfl) ?_
                  refine sr_jn_rule (fun (K14 : Int32 → Option ((Int32 × sr_M) ⊕ (sr_M))) => ∀ (v15 : Int32), K14 v15 = some y6 → ∀ (H : Heap) (locs : List Loc) (ls : Array Slot), yH D t ad A s M8 H locs → lv_has ls 12 [(0, .ref (ad 0)), (1, .int a1), (2, .int a2), (3, .int a3), (4, .int a4), (5, .int v7), (6, .long v9)] → W p l e ({ frames := 1, cells := 0, slots := 0, locals := 23 }) s m args below meth c H locs 0 0 Q (F0 m 144 ls [.int v15])) h ?_ (fun K14 hK14 h => ?_)
                  · intro v15 h H locs ls hw hl
                    refine lv_istore (lv' := [(11, .int v15), (0, .ref (ad 0)), (1, .int a1), (2, .int a2), (3, .int a3), (4, .int a4), (5, .int v7), (6, .long v9)]) hx hb dX5_pour_144 hl (by decide) rfl (fun ls hl => ?_)
                    refine lv_aload_n hx hb dX5_pour_146 rfl (lv_at hl 1 rfl) ?_
                    refine sr_getr hx hb hts qzX5 hown hw (yf_0_7 t ad) (hts _ qfX5_26) dX5_pour_147 ?_
                    refine lv_iload hx hb dX5_pour_150 (lv_at hl 5 rfl) ?_
                    refine lv_iload hx hb dX5_pour_152 (lv_at hl 6 rfl) ?_
                    refine lv_iadd hx hb dX5_pour_154 ?_
                    refine lv_iload hx hb dX5_pour_155 (lv_at hl 0 rfl) ?_
                    refine sr_jn_rule (fun (K16 : Int32 → Option ((Int32 × sr_M) ⊕ (sr_M))) => ∀ (v17 : Int32), K16 v17 = some y6 → ∀ (H : Heap) (locs : List Loc) (ls : Array Slot), yH D t ad A s M8 H locs → lv_has ls 12 [(0, .ref (ad 0)), (1, .int a1), (2, .int a2), (3, .int a3), (4, .int a4), (5, .int v7), (6, .long v9), (11, .int v15)] → W p l e ({ frames := 1, cells := 0, slots := 0, locals := 23 }) s m args below meth c H locs 0 0 Q (F0 m 165 ls [.int v17, .int (a4 + v7), .ref (ad 6)])) h ?_ (fun K16 hK16 h => ?_)
                    · intro v17 h H locs ls hw hl
                      refine sr_zast hx hb hw (ya_6 t ad) h dX5_pour_165 (fun M18 H locs h hw => ?_)
                      refine lv_aload_n hx hb dX5_pour_166 rfl (lv_at hl 0 rfl) ?_
                      refine sr_getr hx hb hts qzX5 hown hw (yf_0_6 t ad) (hts _ qfX5_23) dX5_pour_167 ?_
                      refine lv_iload hx hb dX5_pour_170 (lv_at hl 4 rfl) ?_
                      refine lv_iload hx hb dX5_pour_172 (lv_at hl 5 rfl) ?_
                      refine lv_iadd hx hb dX5_pour_174 ?_
                      refine lv_iload hx hb dX5_pour_175 (lv_at hl 7 rfl) ?_
                      refine sr_jn_rule (fun (K19 : Int32 → Option ((Int32 × sr_M) ⊕ (sr_M))) => ∀ (v20 : Int32), K19 v20 = some y6 → ∀ (H : Heap) (locs : List Loc) (ls : Array Slot), yH D t ad A s M18 H locs → lv_has ls 12 [(0, .ref (ad 0)), (1, .int a1), (2, .int a2), (3, .int a3), (4, .int a4), (5, .int v7)] → W p l e ({ frames := 1, cells := 0, slots := 0, locals := 23 }) s m args below meth c H locs 0 0 Q (F0 m 196 ls [.int v20, .int (a4 + v7), .ref (ad 5)])) h ?_ (fun K19 hK19 h => ?_)
                      · intro v20 h H locs ls hw hl
                        refine sr_iast hx hb hw (ya_5 t ad) h dX5_pour_196 (fun M21 H locs h hw => ?_)
                        refine lv_iinc (v := (v7 + 1)) (lv' := [(5, .int (v7 + 1)), (0, .ref (ad 0)), (1, .int a1), (2, .int a2), (3, .int a3), (4, .int a4)]) hx hb dX5_pour_197 hl (k := 5) rfl rfl (by decide) rfl (fun ls hl => ?_)
                        refine lv_goto (tgt := 60) hx hb dX5_pour_200 (by decide) ?_
                        exact hi6 ((v7 + 1), M21) (Option.some.inj h).symm _ _ _ hw (lv_sub hl [1, 2, 3, 4, 5, 0] rfl)
                      · refine lv_if_eq (tgt := 186) hx hb dX5_pour_177 (by decide) (fun hc => ?_) (fun hc => ?_)
                        · have h := sr_ifp h hc
                          refine lv_aload_n hx hb dX5_pour_186 rfl (lv_at hl 0 rfl) ?_
                          refine sr_getr hx hb hts qzX5 hown hw (yf_0_6 t ad) (hts _ qfX5_23) dX5_pour_187 ?_
                          refine lv_iload hx hb dX5_pour_190 (lv_at hl 4 rfl) ?_
                          refine lv_iload hx hb dX5_pour_192 (lv_at hl 5 rfl) ?_
                          refine lv_iadd hx hb dX5_pour_194 ?_
                          refine sr_iald hx hb hw (ya_5 t ad) h dX5_pour_195 (fun v22 h => ?_)
                          exact hK19 v22 h _ _ _ hw (lv_sub hl [0, 1, 2, 3, 4, 5] rfl)
                        · have h := sr_ifn h hc
                          refine lv_lload hx hb dX5_pour_180 (lv_at hl 6 rfl) ?_
                          refine lv_l2i (v := v9.toInt32) hx hb dX5_pour_182 rfl ?_
                          refine lv_goto (tgt := 196) hx hb dX5_pour_183 (by decide) ?_
                          exact hK19 v9.toInt32 h _ _ _ hw (lv_sub hl [0, 1, 2, 3, 4, 5] rfl)
                    · refine lv_if_ne (tgt := 164) hx hb dX5_pour_157 (by decide) (fun hc => ?_) (fun hc => ?_)
                      · have h := sr_ifn h hc
                        refine lv_iconst (v := 0) hx hb dX5_pour_164 (by decide) ?_
                        exact hK16 0 h _ _ _ hw (lv_sub hl [1, 2, 3, 4, 5, 6, 7, 0] rfl)
                      · have h := sr_ifp h hc
                        refine lv_iconst (v := 1) hx hb dX5_pour_160 (by decide) ?_
                        refine lv_goto (tgt := 165) hx hb dX5_pour_161 (by decide) ?_
                        exact hK16 1 h _ _ _ hw (lv_sub hl [1, 2, 3, 4, 5, 6, 7, 0] rfl)
                  · refine sr_jn_rule (fun (K23 : Option ((Int32 × sr_M) ⊕ (sr_M))) => K23 = some y6 → ∀ (H : Heap) (locs : List Loc) (ls : Array Slot), yH D t ad A s M8 H locs → lv_has ls 12 [(0, .ref (ad 0)), (1, .int a1), (2, .int a2), (3, .int a3), (4, .int a4), (5, .int v7), (6, .long v9)] → W p l e ({ frames := 1, cells := 0, slots := 0, locals := 23 }) s m args below meth c H locs 0 0 Q (F0 m 143 ls [])) h ?_ (fun K23 hK23 h => ?_)
                    · intro  h H locs ls hw hl
                      refine lv_iconst (v := 0) hx hb dX5_pour_143 (by decide) ?_
                      exact hK14 0 h _ _ _ hw (lv_sub hl [0, 1, 2, 3, 4, 5, 6] rfl)
                    · refine lv_if_ne (tgt := 143) hx hb dX5_pour_120 (by decide) (fun hc => ?_) (fun hc => ?_)
                      · have h := sr_ifn h hc
                        exact hK23  h _ _ _ hw (lv_sub hl [1, 2, 3, 4, 5, 6, 7] rfl)
                      · have h := sr_ifp h hc
                        refine lv_lload hx hb dX5_pour_123 (lv_at hl 7 rfl) ?_
                        refine lv_lconst (v := 0) hx hb dX5_pour_125 (by decide) ?_
                        refine W.lcmp hx hb dX5_pour_126 ?_
                        refine lv_if_lt (tgt := 143) hx hb dX5_pour_127 (by decide) (fun hc => ?_) (fun hc => ?_)
                        · have h := sr_ifp h hc
                          exact hK23  h _ _ _ hw (lv_sub hl [1, 2, 3, 4, 5, 6, 7] rfl)
                        · have h := sr_ifn h hc
                          refine lv_lload hx hb dX5_pour_130 (lv_at hl 7 rfl) ?_
                          refine lv_ldc2 (v := 1000000000) hx hb hown (hts _ qkX5_141) dX5_pour_132 ?_
                          refine W.lcmp hx hb dX5_pour_135 ?_
                          refine lv_if_gt (tgt := 143) hx hb dX5_pour_136 (by decide) (fun hc => ?_) (fun hc => ?_)
                          · have h := sr_ifp h hc
                            exact hK23  h _ _ _ hw (lv_sub hl [1, 2, 3, 4, 5, 6, 7] rfl)
                          · have h := sr_ifn h hc
                            refine lv_iconst (v := 1) hx hb dX5_pour_139 (by decide) ?_
                            refine lv_goto (tgt := 144) hx hb dX5_pour_140 (by decide) ?_
                            exact hK14 1 h _ _ _ hw (lv_sub hl [1, 2, 3, 4, 5, 6, 7] rfl)
                · refine sr_jn_rule (fun (K24 : Option ((Int32 × sr_M) ⊕ (sr_M))) => K24 = some y6 → ∀ (H : Heap) (locs : List Loc) (ls : Array Slot), yH D t ad A s M8 H locs → lv_has ls 12 [(0, .ref (ad 0)), (1, .int a1), (2, .int a2), (3, .int a3), (4, .int a4), (5, .int v7), (6, .long v9)] → W p l e ({ frames := 1, cells := 0, slots := 0, locals := 23 }) s m args below meth c H locs 0 0 Q (F0 m 115 ls [])) h ?_ (fun K24 hK24 h => ?_)
                  · intro  h H locs ls hw hl
                    refine lv_iconst (v := 0) hx hb dX5_pour_115 (by decide) ?_
                    exact hK12 0 h _ _ _ hw (lv_sub hl [0, 1, 2, 3, 4, 5, 6] rfl)
                  · refine lv_icmp_lt (tgt := 115) hx hb dX5_pour_100 (by decide) (fun hc => ?_) (fun hc => ?_)
                    · have h := sr_ifp h hc
                      exact hK24  h _ _ _ hw (lv_sub hl [2, 3, 4, 5, 6, 7, 1] rfl)
                    · have h := sr_ifn h hc
                      refine lv_dload hx hb dX5_pour_103 (lv_at hl 0 rfl) ?_
                      refine lv_dload hx hb dX5_pour_105 (lv_at hl 0 rfl) ?_
                      refine lv_dcmp hx hb dX5_pour_107 ?_
                      refine lv_if_eq (tgt := 115) hx hb dX5_pour_108 (by decide) (fun hc => ?_) (fun hc => ?_)
                      · have h := sr_ifp h hc
                        exact hK24  h _ _ _ hw (lv_sub hl [2, 3, 4, 5, 6, 7, 1] rfl)
                      · have h := sr_ifn h hc
                        refine lv_iconst (v := 1) hx hb dX5_pour_111 (by decide) ?_
                        refine lv_goto (tgt := 116) hx hb dX5_pour_112 (by decide) ?_
                        exact hK12 1 h _ _ _ hw (lv_sub hl [2, 3, 4, 5, 6, 7, 1] rfl)
            · have h := sr_ifn h hc
              refine lv_iconst (v := (-1)) hx hb dX5_pour_55 (by decide) ?_
              obtain ⟨rfl, rfl⟩ := Prod.mk.inj (Option.some.inj h)
              exact ret _ _ _ _ hw rfl dX5_pour_56
    · have h := sr_ifn h hc
      refine lv_bipush (v := (-3)) hx hb dX5_pour_18 (by decide) ?_
      obtain ⟨rfl, rfl⟩ := Prod.mk.inj (Option.some.inj h)
      exact ret _ _ _ _ hw rfl dX5_pour_20
  · have h := sr_ifp h hc
    refine lv_iconst (v := (-1)) hx hb dX5_pour_7 (by decide) ?_
    obtain ⟨rfl, rfl⟩ := Prod.mk.inj (Option.some.inj h)
    exact ret _ _ _ _ hw rfl dX5_pour_8

noncomputable def f5_isFilled (a1 : Int32) (M : sr_M) : Option (Int32) :=
sr_ld a1 120 (M.1 12) fun v1 =>
if v1 < 0 then
(some 0)
else
(some 1)
set_option maxHeartbeats 4000000 in
set_option maxRecDepth 100000 in
theorem k5_isFilled (l : Launch) (D : va_G) (t : Nat → ClassId) (ad : Nat → Nat) (a1 : Int32) (M : sr_M) (r : Int32) (h : f5_isFilled a1 M = some r) : sr_Mi l D vwCl (yty t) ad (ycf t ad) 26 yX5_isFilled (.code yX5_isFilled cX5_isFilled 2 (some .boolean) :: sr_tbl) ({ frames := 0, cells := 0, slots := 0, locals := 0 }) [.ref (ad 0), .int a1] M r M := by
  refine sr_open_i (cc := cX5_isFilled) (maxL := 2) (by decide) rfl (Nat.le_of_ble_eq_true rfl) ?_
  intro p e s m args below meth c A Q ls hx hb hml hts0 hown hA hw hl ret
  have hts : ∀ w ∈ sr_tbl, w.before args s = true := fun w hw => hts0 w (List.mem_cons_of_mem _ hw)
  have hown : s.vm.findClass RX5 = some m.cls := hown
  have hl : lv_has ls 2 [(0, .ref (ad 0)), (1, .int a1)] := hl
  have hw : yH D t ad A s M s.heap [] := hw
  unfold f5_isFilled at h
  refine lv_aload_n hx hb dX5_isFilled_0 rfl (lv_at hl 0 rfl) ?_
  refine sr_getr hx hb hts qzX5 hown hw (yf_0_16 t ad) (hts _ qfX5_46) dX5_isFilled_1 ?_
  refine lv_iload_n hx hb dX5_isFilled_4 rfl (lv_at hl 1 rfl) ?_
  refine sr_iald hx hb hw (ya_12 t ad) h dX5_isFilled_5 (fun v1 h => ?_)
  refine lv_if_lt (tgt := 13) hx hb dX5_isFilled_6 (by decide) (fun hc => ?_) (fun hc => ?_)
  · have h := sr_ifp h hc
    refine lv_iconst (v := 0) hx hb dX5_isFilled_13 (by decide) ?_
    obtain rfl := Option.some.inj h
    exact ret _ _ _ _ hw rfl dX5_isFilled_14
  · have h := sr_ifn h hc
    refine lv_iconst (v := 1) hx hb dX5_isFilled_9 (by decide) ?_
    refine lv_goto (tgt := 14) hx hb dX5_isFilled_10 (by decide) ?_
    obtain rfl := Option.some.inj h
    exact ret _ _ _ _ hw rfl dX5_isFilled_14

noncomputable def f5_isFree (a1 : Int32) (M : sr_M) : Option (Int32) :=
sr_ld a1 120 (M.1 12) fun v1 =>
if 0 ≤ v1 then
(some 0)
else
(sr_ld a1 120 (M.1 14) fun v2 =>
if 0 ≤ v2 then
(some 0)
else
(some 1))
set_option maxHeartbeats 4000000 in
set_option maxRecDepth 100000 in
theorem k5_isFree (l : Launch) (D : va_G) (t : Nat → ClassId) (ad : Nat → Nat) (a1 : Int32) (M : sr_M) (r : Int32) (h : f5_isFree a1 M = some r) : sr_Mi l D vwCl (yty t) ad (ycf t ad) 26 yX5_isFree (.code yX5_isFree cX5_isFree 2 (some .boolean) :: sr_tbl) ({ frames := 0, cells := 0, slots := 0, locals := 0 }) [.ref (ad 0), .int a1] M r M := by
  refine sr_open_i (cc := cX5_isFree) (maxL := 2) (by decide) rfl (Nat.le_of_ble_eq_true rfl) ?_
  intro p e s m args below meth c A Q ls hx hb hml hts0 hown hA hw hl ret
  have hts : ∀ w ∈ sr_tbl, w.before args s = true := fun w hw => hts0 w (List.mem_cons_of_mem _ hw)
  have hown : s.vm.findClass RX5 = some m.cls := hown
  have hl : lv_has ls 2 [(0, .ref (ad 0)), (1, .int a1)] := hl
  have hw : yH D t ad A s M s.heap [] := hw
  unfold f5_isFree at h
  refine lv_aload_n hx hb dX5_isFree_0 rfl (lv_at hl 0 rfl) ?_
  refine sr_getr hx hb hts qzX5 hown hw (yf_0_16 t ad) (hts _ qfX5_46) dX5_isFree_1 ?_
  refine lv_iload_n hx hb dX5_isFree_4 rfl (lv_at hl 1 rfl) ?_
  refine sr_iald hx hb hw (ya_12 t ad) h dX5_isFree_5 (fun v1 h => ?_)
  refine lv_if_ge (tgt := 22) hx hb dX5_isFree_6 (by decide) (fun hc => ?_) (fun hc => ?_)
  · have h := sr_ifp h hc
    refine lv_iconst (v := 0) hx hb dX5_isFree_22 (by decide) ?_
    obtain rfl := Option.some.inj h
    exact ret _ _ _ _ hw rfl dX5_isFree_23
  · have h := sr_ifn h hc
    refine lv_aload_n hx hb dX5_isFree_9 rfl (lv_at hl 0 rfl) ?_
    refine sr_getr hx hb hts qzX5 hown hw (yf_0_18 t ad) (hts _ qfX5_52) dX5_isFree_10 ?_
    refine lv_iload_n hx hb dX5_isFree_13 rfl (lv_at hl 1 rfl) ?_
    refine sr_iald hx hb hw (ya_14 t ad) h dX5_isFree_14 (fun v2 h => ?_)
    refine lv_if_ge (tgt := 22) hx hb dX5_isFree_15 (by decide) (fun hc => ?_) (fun hc => ?_)
    · have h := sr_ifp h hc
      refine lv_iconst (v := 0) hx hb dX5_isFree_22 (by decide) ?_
      obtain rfl := Option.some.inj h
      exact ret _ _ _ _ hw rfl dX5_isFree_23
    · have h := sr_ifn h hc
      refine lv_iconst (v := 1) hx hb dX5_isFree_18 (by decide) ?_
      refine lv_goto (tgt := 23) hx hb dX5_isFree_19 (by decide) ?_
      obtain rfl := Option.some.inj h
      exact ret _ _ _ _ hw rfl dX5_isFree_23

noncomputable def f5_leads (a1 : Int32) (a2 : Int32) (M : sr_M) : Option (Int32) :=
(f5_isFilled a1 M).bind fun v1 =>
if v1 = 0 then
(some 0)
else
(sr_ld a1 120 (M.1 1) fun v2 =>
if v2 = 3 then
(some 0)
else
((f5_isFree a2 M).bind fun v3 =>
if v3 = 0 then
(some 0)
else
(some 1)))
set_option maxHeartbeats 4000000 in
set_option maxRecDepth 100000 in
theorem k5_leads (l : Launch) (D : va_G) (t : Nat → ClassId) (ad : Nat → Nat) (a1 : Int32) (a2 : Int32) (M : sr_M) (r : Int32) (h : f5_leads a1 a2 M = some r) : sr_Mi l D vwCl (yty t) ad (ycf t ad) 26 yX5_leads (.code yX5_leads cX5_leads 3 (some .boolean) :: sr_tbl) ({ frames := 1, cells := 0, slots := 0, locals := 21 }) [.ref (ad 0), .int a1, .int a2] M r M := by
  refine sr_open_i (cc := cX5_leads) (maxL := 3) (by decide) rfl (Nat.le_of_ble_eq_true rfl) ?_
  intro p e s m args below meth c A Q ls hx hb hml hts0 hown hA hw hl ret
  have hts : ∀ w ∈ sr_tbl, w.before args s = true := fun w hw => hts0 w (List.mem_cons_of_mem _ hw)
  have hown : s.vm.findClass RX5 = some m.cls := hown
  have hl : lv_has ls 3 [(0, .ref (ad 0)), (1, .int a1), (2, .int a2)] := hl
  have hw : yH D t ad A s M s.heap [] := hw
  unfold f5_leads at h
  refine lv_aload_n hx hb dX5_leads_0 rfl (lv_at hl 0 rfl) ?_
  refine lv_iload_n hx hb dX5_leads_1 rfl (lv_at hl 1 rfl) ?_
  obtain ⟨v1, hc, h⟩ := sr_bind1 h
  refine sr_cVi (As := [.int a1]) (rest := []) ⟨hx, hb, hml, hown, hts⟩ (k5_isFilled l D t ad a1 M _ hc) (cwV 1 hts (sr_goodV qmX5_143 qiX5_isFilled qsX5_isFilled qnX5 qcX5_isFilled) rfl rfl rfl qdX5_isFilled ⟨Nat.le_of_ble_eq_true rfl, Nat.le_of_ble_eq_true rfl⟩) hw hA (yo_0 t ad) rfl hl.1 rfl (Nat.le_of_ble_eq_true rfl) dX5_leads_2 (fun H locs hw => ?_)
  refine lv_if_eq (tgt := 30) hx hb dX5_leads_5 (by decide) (fun hc => ?_) (fun hc => ?_)
  · have h := sr_ifp h hc
    refine lv_iconst (v := 0) hx hb dX5_leads_30 (by decide) ?_
    obtain rfl := Option.some.inj h
    exact ret _ _ _ _ hw rfl dX5_leads_31
  · have h := sr_ifn h hc
    refine lv_aload_n hx hb dX5_leads_8 rfl (lv_at hl 0 rfl) ?_
    refine sr_getr hx hb hts qzX5 hown hw (yf_0_1 t ad) (hts _ qfX5_7) dX5_leads_9 ?_
    refine lv_iload_n hx hb dX5_leads_12 rfl (lv_at hl 1 rfl) ?_
    refine sr_iald hx hb hw (ya_1 t ad) h dX5_leads_13 (fun v2 h => ?_)
    refine lv_iconst (v := 3) hx hb dX5_leads_14 (by decide) ?_
    refine lv_icmp_eq (tgt := 30) hx hb dX5_leads_15 (by decide) (fun hc => ?_) (fun hc => ?_)
    · have h := sr_ifp h hc
      refine lv_iconst (v := 0) hx hb dX5_leads_30 (by decide) ?_
      obtain rfl := Option.some.inj h
      exact ret _ _ _ _ hw rfl dX5_leads_31
    · have h := sr_ifn h hc
      refine lv_aload_n hx hb dX5_leads_18 rfl (lv_at hl 0 rfl) ?_
      refine lv_iload_n hx hb dX5_leads_19 rfl (lv_at hl 2 rfl) ?_
      obtain ⟨v3, hc, h⟩ := sr_bind1 h
      refine sr_cVi (As := [.int a2]) (rest := []) ⟨hx, hb, hml, hown, hts⟩ (k5_isFree l D t ad a2 M _ hc) (cwV 1 hts (sr_goodV qmX5_146 qiX5_isFree qsX5_isFree qnX5 qcX5_isFree) rfl rfl rfl qdX5_isFree ⟨Nat.le_of_ble_eq_true rfl, Nat.le_of_ble_eq_true rfl⟩) hw hA (yo_0 t ad) rfl hl.1 rfl (Nat.le_of_ble_eq_true rfl) dX5_leads_20 (fun H locs hw => ?_)
      refine lv_if_eq (tgt := 30) hx hb dX5_leads_23 (by decide) (fun hc => ?_) (fun hc => ?_)
      · have h := sr_ifp h hc
        refine lv_iconst (v := 0) hx hb dX5_leads_30 (by decide) ?_
        obtain rfl := Option.some.inj h
        exact ret _ _ _ _ hw rfl dX5_leads_31
      · have h := sr_ifn h hc
        refine lv_iconst (v := 1) hx hb dX5_leads_26 (by decide) ?_
        refine lv_goto (tgt := 31) hx hb dX5_leads_27 (by decide) ?_
        obtain rfl := Option.some.inj h
        exact ret _ _ _ _ hw rfl dX5_leads_31

noncomputable def f5_isCandidate (a1 : Int32) (M : sr_M) : Option (Int32) :=
sr_ld a1 300 (M.1 6) fun v1 =>
if v1 = 0 then
(sr_ld a1 300 (M.1 3) fun v2 =>
sr_ld a1 300 (M.1 4) fun v3 =>
(f5_leads v2 v3 M).bind fun v4 =>
if v4 = 0 then
(sr_ld a1 300 (M.1 4) fun v5 =>
sr_ld a1 300 (M.1 3) fun v6 =>
(f5_leads v5 v6 M).bind fun v7 =>
if v7 = 0 then
(some 0)
else
(some 1))
else
(some 1))
else
(some 0)
set_option maxHeartbeats 4000000 in
set_option maxRecDepth 100000 in
theorem k5_isCandidate (l : Launch) (D : va_G) (t : Nat → ClassId) (ad : Nat → Nat) (a1 : Int32) (M : sr_M) (r : Int32) (h : f5_isCandidate a1 M = some r) : sr_Mi l D vwCl (yty t) ad (ycf t ad) 26 yX5_isCandidate (.code yX5_isCandidate cX5_isCandidate 2 (some .boolean) :: sr_tbl) ({ frames := 2, cells := 0, slots := 0, locals := 43 }) [.ref (ad 0), .int a1] M r M := by
  refine sr_open_i (cc := cX5_isCandidate) (maxL := 2) (by decide) rfl (Nat.le_of_ble_eq_true rfl) ?_
  intro p e s m args below meth c A Q ls hx hb hml hts0 hown hA hw hl ret
  have hts : ∀ w ∈ sr_tbl, w.before args s = true := fun w hw => hts0 w (List.mem_cons_of_mem _ hw)
  have hown : s.vm.findClass RX5 = some m.cls := hown
  have hl : lv_has ls 2 [(0, .ref (ad 0)), (1, .int a1)] := hl
  have hw : yH D t ad A s M s.heap [] := hw
  unfold f5_isCandidate at h
  refine lv_aload_n hx hb dX5_isCandidate_0 rfl (lv_at hl 0 rfl) ?_
  refine sr_getr hx hb hts qzX5 hown hw (yf_0_7 t ad) (hts _ qfX5_26) dX5_isCandidate_1 ?_
  refine lv_iload_n hx hb dX5_isCandidate_4 rfl (lv_at hl 1 rfl) ?_
  refine sr_zald hx hb hw (ya_6 t ad) h dX5_isCandidate_5 (fun v1 h => ?_)
  refine lv_if_ne (tgt := 51) hx hb dX5_isCandidate_6 (by decide) (fun hc => ?_) (fun hc => ?_)
  · have h := sr_ifn h hc
    refine lv_iconst (v := 0) hx hb dX5_isCandidate_51 (by decide) ?_
    obtain rfl := Option.some.inj h
    exact ret _ _ _ _ hw rfl dX5_isCandidate_52
  · have h := sr_ifp h hc
    refine lv_aload_n hx hb dX5_isCandidate_9 rfl (lv_at hl 0 rfl) ?_
    refine lv_aload_n hx hb dX5_isCandidate_10 rfl (lv_at hl 0 rfl) ?_
    refine sr_getr hx hb hts qzX5 hown hw (yf_0_4 t ad) (hts _ qfX5_17) dX5_isCandidate_11 ?_
    refine lv_iload_n hx hb dX5_isCandidate_14 rfl (lv_at hl 1 rfl) ?_
    refine sr_iald hx hb hw (ya_3 t ad) h dX5_isCandidate_15 (fun v2 h => ?_)
    refine lv_aload_n hx hb dX5_isCandidate_16 rfl (lv_at hl 0 rfl) ?_
    refine sr_getr hx hb hts qzX5 hown hw (yf_0_5 t ad) (hts _ qfX5_20) dX5_isCandidate_17 ?_
    refine lv_iload_n hx hb dX5_isCandidate_20 rfl (lv_at hl 1 rfl) ?_
    refine sr_iald hx hb hw (ya_4 t ad) h dX5_isCandidate_21 (fun v3 h => ?_)
    obtain ⟨v4, hc, h⟩ := sr_bind1 h
    refine sr_cVi (As := [.int v2, .int v3]) (rest := []) ⟨hx, hb, hml, hown, hts⟩ (k5_leads l D t ad v2 v3 M _ hc) (cwV 2 hts (sr_goodV qmX5_149 qiX5_leads qsX5_leads qnX5 qcX5_leads) rfl rfl rfl qdX5_leads ⟨Nat.le_of_ble_eq_true rfl, Nat.le_of_ble_eq_true rfl⟩) hw hA (yo_0 t ad) rfl hl.1 rfl (Nat.le_of_ble_eq_true rfl) dX5_isCandidate_22 (fun H locs hw => ?_)
    refine lv_if_ne (tgt := 47) hx hb dX5_isCandidate_25 (by decide) (fun hc => ?_) (fun hc => ?_)
    · have h := sr_ifn h hc
      refine lv_iconst (v := 1) hx hb dX5_isCandidate_47 (by decide) ?_
      refine lv_goto (tgt := 52) hx hb dX5_isCandidate_48 (by decide) ?_
      obtain rfl := Option.some.inj h
      exact ret _ _ _ _ hw rfl dX5_isCandidate_52
    · have h := sr_ifp h hc
      refine lv_aload_n hx hb dX5_isCandidate_28 rfl (lv_at hl 0 rfl) ?_
      refine lv_aload_n hx hb dX5_isCandidate_29 rfl (lv_at hl 0 rfl) ?_
      refine sr_getr hx hb hts qzX5 hown hw (yf_0_5 t ad) (hts _ qfX5_20) dX5_isCandidate_30 ?_
      refine lv_iload_n hx hb dX5_isCandidate_33 rfl (lv_at hl 1 rfl) ?_
      refine sr_iald hx hb hw (ya_4 t ad) h dX5_isCandidate_34 (fun v5 h => ?_)
      refine lv_aload_n hx hb dX5_isCandidate_35 rfl (lv_at hl 0 rfl) ?_
      refine sr_getr hx hb hts qzX5 hown hw (yf_0_4 t ad) (hts _ qfX5_17) dX5_isCandidate_36 ?_
      refine lv_iload_n hx hb dX5_isCandidate_39 rfl (lv_at hl 1 rfl) ?_
      refine sr_iald hx hb hw (ya_3 t ad) h dX5_isCandidate_40 (fun v6 h => ?_)
      obtain ⟨v7, hc, h⟩ := sr_bind1 h
      refine sr_cVi (As := [.int v5, .int v6]) (rest := []) ⟨hx, hb, hml, hown, hts⟩ (k5_leads l D t ad v5 v6 M _ hc) (cwV 2 hts (sr_goodV qmX5_149 qiX5_leads qsX5_leads qnX5 qcX5_leads) rfl rfl rfl qdX5_leads ⟨Nat.le_of_ble_eq_true rfl, Nat.le_of_ble_eq_true rfl⟩) hw hA (yo_0 t ad) rfl hl.1 rfl (Nat.le_of_ble_eq_true rfl) dX5_isCandidate_41 (fun H locs hw => ?_)
      refine lv_if_eq (tgt := 51) hx hb dX5_isCandidate_44 (by decide) (fun hc => ?_) (fun hc => ?_)
      · have h := sr_ifp h hc
        refine lv_iconst (v := 0) hx hb dX5_isCandidate_51 (by decide) ?_
        obtain rfl := Option.some.inj h
        exact ret _ _ _ _ hw rfl dX5_isCandidate_52
      · have h := sr_ifn h hc
        refine lv_iconst (v := 1) hx hb dX5_isCandidate_47 (by decide) ?_
        refine lv_goto (tgt := 52) hx hb dX5_isCandidate_48 (by decide) ?_
        obtain rfl := Option.some.inj h
        exact ret _ _ _ _ hw rfl dX5_isCandidate_52

noncomputable def f5_trap_L10 (v3 : Int32) (M4 : sr_M) : Option ((Int32 × sr_M) ⊕ (sr_M)) :=
sr_bnd (M4.1 0 0) fun v5 =>
if v5 ≤ v3 then
(some (.inr M4))
else
(sr_ld v3 120 (M4.1 1) fun v6 =>
sr_jn (fun (v8 : Int32) =>
sr_stB v3 120 M4 18 v8 fun M9 =>
some (.inl ((v3 + 1), M9))) fun (K7 : Int32 → Option ((Int32 × sr_M) ⊕ (sr_M))) =>
sr_jn (K7 0) fun (K10 : Option ((Int32 × sr_M) ⊕ (sr_M))) =>
if v6 = 4 then
((f5_isFilled v3 M4).bind fun v11 =>
if v11 = 0 then
(K7 1)
else
(K10))
else
(K10))
noncomputable def f5_trap_L63 (v17 : Int32) (v18 : Int32) (M19 : sr_M) : Option ((Int32 × Int32 × sr_M) ⊕ (Int32 × sr_M)) :=
sr_bnd (M19.1 0 3) fun v20 =>
if v20 ≤ v18 then
(some (.inr (v17, M19)))
else
(sr_ld v18 300 (M19.1 6) fun v21 =>
sr_jn (fun (v23 : Int32) =>
if v23 = 0 then
(some (.inl (v17, (v18 + 1), M19)))
else
(sr_ld v18 300 (M19.1 3) fun v24 =>
sr_ld v24 120 (M19.1 18) fun v25 =>
sr_ld v18 300 (M19.1 4) fun v26 =>
sr_ld v26 120 (M19.1 18) fun v27 =>
if v25 = v27 then
(some (.inl (v17, (v18 + 1), M19)))
else
(sr_ld v18 300 (M19.1 3) fun v28 =>
sr_stB v28 120 M19 18 1 fun M29 =>
sr_ld v18 300 (M29.1 4) fun v30 =>
sr_stB v30 120 M29 18 1 fun M31 =>
some (.inl (1, (v18 + 1), M31))))) fun (K22 : Int32 → Option ((Int32 × Int32 × sr_M) ⊕ (Int32 × sr_M))) =>
sr_jn (K22 0) fun (K32 : Option ((Int32 × Int32 × sr_M) ⊕ (Int32 × sr_M))) =>
if v21 = 0 then
(sr_ld v18 300 (M19.1 3) fun v33 =>
(f5_isFilled v33 M19).bind fun v34 =>
if v34 = 0 then
(sr_ld v18 300 (M19.1 4) fun v35 =>
(f5_isFilled v35 M19).bind fun v36 =>
if v36 = 0 then
(K22 1)
else
(K32))
else
(K32))
else
(K32))
noncomputable def f5_trap_L55 (v14 : Int32) (M15 : sr_M) : Option ((Int32 × sr_M) ⊕ (sr_M)) :=
if v14 = 0 then
(some (.inr M15))
else
((sr_lp (fun z16 : Int32 × Int32 × sr_M => f5_trap_L63 z16.1 z16.2.1 z16.2.2) (0, 0, M15)).bind fun w16 =>
some (.inl (w16.1, w16.2)))
noncomputable def f5_trap_L178 (v41 : Int32) (M42 : sr_M) : Option ((Int32 × sr_M) ⊕ (sr_M)) :=
sr_bnd (M42.1 0 0) fun v43 =>
if v43 ≤ v41 then
(some (.inr M42))
else
((f5_isFree v41 M42).bind fun v44 =>
sr_jn (fun (v46 : Int32) =>
sr_st v41 120 M42 14 v46 fun M47 =>
some (.inl ((v41 + 1), M47))) fun (K45 : Int32 → Option ((Int32 × sr_M) ⊕ (sr_M))) =>
sr_jn (sr_ld v41 120 (M42.1 14) fun v49 =>
K45 v49) fun (K48 : Option ((Int32 × sr_M) ⊕ (sr_M))) =>
if v44 = 0 then
(K48)
else
(sr_ld v41 120 (M42.1 18) fun v50 =>
if v50 = 0 then
(sr_bnd (M42.1 0 14) fun v51 =>
K45 v51)
else
(K48)))
noncomputable def f5_trap (M : sr_M) : Option (sr_M) :=
sr_bnd (M.1 0 8) fun v1 =>
if v1 = 0 then
(some M)
else
((sr_lp (fun z2 : Int32 × sr_M => f5_trap_L10 z2.1 z2.2) (0, M)).bind fun w2 =>
(sr_lp (fun z13 : Int32 × sr_M => f5_trap_L55 z13.1 z13.2) (1, w2)).bind fun w13 =>
(sr_lp (fun z40 : Int32 × sr_M => f5_trap_L178 z40.1 z40.2) (0, w13)).bind fun w40 =>
some w40)
set_option maxHeartbeats 4000000 in
set_option maxRecDepth 100000 in
theorem k5_trap (l : Launch) (D : va_G) (t : Nat → ClassId) (ad : Nat → Nat) (M : sr_M) (M' : sr_M) (h : f5_trap M = some M') : sr_Mv l D vwCl (yty t) ad (ycf t ad) 26 yX5_trap (.code yX5_trap cX5_trap 4 (none) :: sr_tbl) ({ frames := 1, cells := 0, slots := 0, locals := 21 }) [.ref (ad 0)] M M' := by
  refine sr_open_v (cc := cX5_trap) (maxL := 4) (by decide) rfl (Nat.le_of_ble_eq_true rfl) ?_
  intro p e s m args below meth c A Q ls hx hb hml hts0 hown hA hw hl ret
  have hts : ∀ w ∈ sr_tbl, w.before args s = true := fun w hw => hts0 w (List.mem_cons_of_mem _ hw)
  have hown : s.vm.findClass RX5 = some m.cls := hown
  have hl : lv_has ls 4 [(0, .ref (ad 0))] := hl
  have hw : yH D t ad A s M s.heap [] := hw
  unfold f5_trap at h
  refine lv_aload_n hx hb dX5_trap_0 rfl (lv_at hl 0 rfl) ?_
  refine sr_geti hx hb hts qzX5 hown hw (yf_0_8 t ad) (hts _ qfX5_107) h dX5_trap_1 (fun v1 h => ?_)
  refine lv_if_ne (tgt := 8) hx hb dX5_trap_4 (by decide) (fun hc => ?_) (fun hc => ?_)
  · have h := sr_ifn h hc
    refine lv_iconst (v := 0) hx hb dX5_trap_8 (by decide) ?_
    refine lv_istore_n (lv' := [(1, .int 0), (0, .ref (ad 0))]) hx hb dX5_trap_9 rfl hl (by decide) rfl (fun ls hl => ?_)
    obtain ⟨x2, hlp, hE2⟩ := sr_bind h
    have hX2 : ∀ (M12 : sr_M), M12 = x2 → ∀ (H : Heap) (locs : List Loc) (ls : Array Slot), yH D t ad A s M12 H locs → lv_has ls 4 [(0, .ref (ad 0))] → W p l e ({ frames := 1, cells := 0, slots := 0, locals := 21 }) s m args below meth c H locs 0 0 Q (F0 m 53 ls []) := by
      intro M12 ex H locs ls hw hl
      have h := hE2 _ ex
      try dsimp only at h
      refine lv_iconst (v := 1) hx hb dX5_trap_53 (by decide) ?_
      refine lv_istore_n (lv' := [(1, .int 1), (0, .ref (ad 0))]) hx hb dX5_trap_54 rfl hl (by decide) rfl (fun ls hl => ?_)
      obtain ⟨x13, hlp, hE13⟩ := sr_bind h
      have hX13 : ∀ (M39 : sr_M), M39 = x13 → ∀ (H : Heap) (locs : List Loc) (ls : Array Slot), yH D t ad A s M39 H locs → lv_has ls 4 [(0, .ref (ad 0))] → W p l e ({ frames := 1, cells := 0, slots := 0, locals := 21 }) s m args below meth c H locs 0 0 Q (F0 m 176 ls []) := by
        intro M39 ex H locs ls hw hl
        have h := hE13 _ ex
        try dsimp only at h
        refine lv_iconst (v := 0) hx hb dX5_trap_176 (by decide) ?_
        refine lv_istore_n (lv' := [(2, .int 0), (0, .ref (ad 0))]) hx hb dX5_trap_177 rfl hl (by decide) rfl (fun ls hl => ?_)
        obtain ⟨x40, hlp, hE40⟩ := sr_bind h
        have hX40 : ∀ (M52 : sr_M), M52 = x40 → ∀ (H : Heap) (locs : List Loc) (ls : Array Slot), yH D t ad A s M52 H locs → lv_has ls 4 [] → W p l e ({ frames := 1, cells := 0, slots := 0, locals := 21 }) s m args below meth c H locs 0 0 Q (F0 m 228 ls []) := by
          intro M52 ex H locs ls hw hl
          have h := hE40 _ ex
          try dsimp only at h
          obtain rfl := Option.some.inj h
          exact ret _ _ _ _ hw dX5_trap_228
        refine sr_lp_rule (fun (z40 : Int32 × sr_M) => ∀ (H : Heap) (locs : List Loc) (ls : Array Slot), yH D t ad A s z40.2 H locs → lv_has ls 4 [(0, .ref (ad 0)), (2, .int z40.1)] → W p l e ({ frames := 1, cells := 0, slots := 0, locals := 21 }) s m args below meth c H locs 0 0 Q (F0 m 178 ls [])) ?_ hlp _ _ _ hw (lv_sub hl [1, 0] rfl)
        rintro ⟨v41, M42⟩ y40 h hi40 he40 H locs ls hw hl
        have h : f5_trap_L178 v41 M42 = some y40 := h
        have hw : yH D t ad A s M42 H locs := hw
        have hl : lv_has ls 4 [(0, .ref (ad 0)), (2, .int v41)] := hl
        unfold f5_trap_L178 at h
        refine lv_iload_n hx hb dX5_trap_178 rfl (lv_at hl 1 rfl) ?_
        refine lv_aload_n hx hb dX5_trap_179 rfl (lv_at hl 0 rfl) ?_
        refine sr_geti hx hb hts qzX5 hown hw (yf_0_0 t ad) (hts _ qfX5_88) h dX5_trap_180 (fun v43 h => ?_)
        refine lv_icmp_ge (tgt := 228) hx hb dX5_trap_183 (by decide) (fun hc => ?_) (fun hc => ?_)
        · have h := sr_ifp h hc
          exact hX40  M42 (he40 _ (Option.some.inj h).symm) _ _ _ hw (lv_sub hl [] rfl)
        · have h := sr_ifn h hc
          refine lv_aload_n hx hb dX5_trap_186 rfl (lv_at hl 0 rfl) ?_
          refine sr_getr hx hb hts qzX5 hown hw (yf_0_18 t ad) (hts _ qfX5_52) dX5_trap_187 ?_
          refine lv_iload_n hx hb dX5_trap_190 rfl (lv_at hl 1 rfl) ?_
          refine lv_aload_n hx hb dX5_trap_191 rfl (lv_at hl 0 rfl) ?_
          refine lv_iload_n hx hb dX5_trap_192 rfl (lv_at hl 1 rfl) ?_
          obtain ⟨v44, hc, h⟩ := sr_bind1 h
          refine sr_cVi (As := [.int v41]) (rest := [.int v41, .ref (ad 14)]) ⟨hx, hb, hml, hown, hts⟩ (k5_isFree l D t ad v41 M42 _ hc) (cwV 1 hts (sr_goodV qmX5_146 qiX5_isFree qsX5_isFree qnX5 qcX5_isFree) rfl rfl rfl qdX5_isFree ⟨Nat.le_of_ble_eq_true rfl, Nat.le_of_ble_eq_true rfl⟩) hw hA (yo_0 t ad) rfl hl.1 rfl (Nat.le_of_ble_eq_true rfl) dX5_trap_193 (fun H locs hw => ?_)
          refine sr_jn_rule (fun (K45 : Int32 → Option ((Int32 × sr_M) ⊕ (sr_M))) => ∀ (v46 : Int32), K45 v46 = some y40 → ∀ (H : Heap) (locs : List Loc) (ls : Array Slot), yH D t ad A s M42 H locs → lv_has ls 4 [(0, .ref (ad 0)), (2, .int v41)] → W p l e ({ frames := 1, cells := 0, slots := 0, locals := 21 }) s m args below meth c H locs 0 0 Q (F0 m 221 ls [.int v46, .int v41, .ref (ad 14)])) h ?_ (fun K45 hK45 h => ?_)
          · intro v46 h H locs ls hw hl
            refine sr_iast hx hb hw (ya_14 t ad) h dX5_trap_221 (fun M47 H locs h hw => ?_)
            refine lv_iinc (v := (v41 + 1)) (lv' := [(2, .int (v41 + 1)), (0, .ref (ad 0))]) hx hb dX5_trap_222 hl (k := 1) rfl rfl (by decide) rfl (fun ls hl => ?_)
            refine lv_goto (tgt := 178) hx hb dX5_trap_225 (by decide) ?_
            exact hi40 ((v41 + 1), M47) (Option.some.inj h).symm _ _ _ hw (lv_sub hl [1, 0] rfl)
          · refine sr_jn_rule (fun (K48 : Option ((Int32 × sr_M) ⊕ (sr_M))) => K48 = some y40 → ∀ (H : Heap) (locs : List Loc) (ls : Array Slot), yH D t ad A s M42 H locs → lv_has ls 4 [(0, .ref (ad 0)), (2, .int v41)] → W p l e ({ frames := 1, cells := 0, slots := 0, locals := 21 }) s m args below meth c H locs 0 0 Q (F0 m 215 ls [.int v41, .ref (ad 14)])) h ?_ (fun K48 hK48 h => ?_)
            · intro  h H locs ls hw hl
              refine lv_aload_n hx hb dX5_trap_215 rfl (lv_at hl 0 rfl) ?_
              refine sr_getr hx hb hts qzX5 hown hw (yf_0_18 t ad) (hts _ qfX5_52) dX5_trap_216 ?_
              refine lv_iload_n hx hb dX5_trap_219 rfl (lv_at hl 1 rfl) ?_
              refine sr_iald hx hb hw (ya_14 t ad) h dX5_trap_220 (fun v49 h => ?_)
              exact hK45 v49 h _ _ _ hw (lv_sub hl [0, 1] rfl)
            · refine lv_if_eq (tgt := 215) hx hb dX5_trap_196 (by decide) (fun hc => ?_) (fun hc => ?_)
              · have h := sr_ifp h hc
                exact hK48  h _ _ _ hw (lv_sub hl [0, 1] rfl)
              · have h := sr_ifn h hc
                refine lv_aload_n hx hb dX5_trap_199 rfl (lv_at hl 0 rfl) ?_
                refine sr_getr hx hb hts qzX5 hown hw (yf_0_23 t ad) (hts _ qfX5_64) dX5_trap_200 ?_
                refine lv_iload_n hx hb dX5_trap_203 rfl (lv_at hl 1 rfl) ?_
                refine sr_zald hx hb hw (ya_18 t ad) h dX5_trap_204 (fun v50 h => ?_)
                refine lv_if_ne (tgt := 215) hx hb dX5_trap_205 (by decide) (fun hc => ?_) (fun hc => ?_)
                · have h := sr_ifn h hc
                  exact hK48  h _ _ _ hw (lv_sub hl [0, 1] rfl)
                · have h := sr_ifp h hc
                  refine lv_aload_n hx hb dX5_trap_208 rfl (lv_at hl 0 rfl) ?_
                  refine sr_geti hx hb hts qzX5 hown hw (yf_0_14 t ad) (hts _ qfX5_152) h dX5_trap_209 (fun v51 h => ?_)
                  refine lv_goto (tgt := 221) hx hb dX5_trap_212 (by decide) ?_
                  exact hK45 v51 h _ _ _ hw (lv_sub hl [0, 1] rfl)
      refine sr_lp_rule (fun (z13 : Int32 × sr_M) => ∀ (H : Heap) (locs : List Loc) (ls : Array Slot), yH D t ad A s z13.2 H locs → lv_has ls 4 [(0, .ref (ad 0)), (1, .int z13.1)] → W p l e ({ frames := 1, cells := 0, slots := 0, locals := 21 }) s m args below meth c H locs 0 0 Q (F0 m 55 ls [])) ?_ hlp _ _ _ hw (lv_sub hl [1, 0] rfl)
      rintro ⟨v14, M15⟩ y13 h hi13 he13 H locs ls hw hl
      have h : f5_trap_L55 v14 M15 = some y13 := h
      have hw : yH D t ad A s M15 H locs := hw
      have hl : lv_has ls 4 [(0, .ref (ad 0)), (1, .int v14)] := hl
      unfold f5_trap_L55 at h
      refine lv_iload_n hx hb dX5_trap_55 rfl (lv_at hl 1 rfl) ?_
      refine lv_if_eq (tgt := 176) hx hb dX5_trap_56 (by decide) (fun hc => ?_) (fun hc => ?_)
      · have h := sr_ifp h hc
        exact hX13  M15 (he13 _ (Option.some.inj h).symm) _ _ _ hw (lv_sub hl [0] rfl)
      · have h := sr_ifn h hc
        refine lv_iconst (v := 0) hx hb dX5_trap_59 (by decide) ?_
        refine lv_istore_n (lv' := [(1, .int 0), (0, .ref (ad 0))]) hx hb dX5_trap_60 rfl hl (by decide) rfl (fun ls hl => ?_)
        refine lv_iconst (v := 0) hx hb dX5_trap_61 (by decide) ?_
        refine lv_istore_n (lv' := [(2, .int 0), (1, .int 0), (0, .ref (ad 0))]) hx hb dX5_trap_62 rfl hl (by decide) rfl (fun ls hl => ?_)
        obtain ⟨x16, hlp, hE16⟩ := sr_bind h
        have hX16 : ∀ (v37 : Int32) (M38 : sr_M), (v37, M38) = x16 → ∀ (H : Heap) (locs : List Loc) (ls : Array Slot), yH D t ad A s M38 H locs → lv_has ls 4 [(0, .ref (ad 0)), (1, .int v37)] → W p l e ({ frames := 1, cells := 0, slots := 0, locals := 21 }) s m args below meth c H locs 0 0 Q (F0 m 173 ls []) := by
          intro v37 M38 ex H locs ls hw hl
          have h := hE16 _ ex
          try dsimp only at h
          refine lv_goto (tgt := 55) hx hb dX5_trap_173 (by decide) ?_
          exact hi13 (v37, M38) (Option.some.inj h).symm _ _ _ hw (lv_sub hl [0, 1] rfl)
        refine sr_lp_rule (fun (z16 : Int32 × Int32 × sr_M) => ∀ (H : Heap) (locs : List Loc) (ls : Array Slot), yH D t ad A s z16.2.2 H locs → lv_has ls 4 [(0, .ref (ad 0)), (1, .int z16.1), (2, .int z16.2.1)] → W p l e ({ frames := 1, cells := 0, slots := 0, locals := 21 }) s m args below meth c H locs 0 0 Q (F0 m 63 ls [])) ?_ hlp _ _ _ hw (lv_sub hl [2, 1, 0] rfl)
        rintro ⟨v17, v18, M19⟩ y16 h hi16 he16 H locs ls hw hl
        have h : f5_trap_L63 v17 v18 M19 = some y16 := h
        have hw : yH D t ad A s M19 H locs := hw
        have hl : lv_has ls 4 [(0, .ref (ad 0)), (1, .int v17), (2, .int v18)] := hl
        unfold f5_trap_L63 at h
        refine lv_iload_n hx hb dX5_trap_63 rfl (lv_at hl 2 rfl) ?_
        refine lv_aload_n hx hb dX5_trap_64 rfl (lv_at hl 0 rfl) ?_
        refine sr_geti hx hb hts qzX5 hown hw (yf_0_3 t ad) (hts _ qfX5_92) h dX5_trap_65 (fun v20 h => ?_)
        refine lv_icmp_ge (tgt := 173) hx hb dX5_trap_68 (by decide) (fun hc => ?_) (fun hc => ?_)
        · have h := sr_ifp h hc
          exact hX16 v17 M19 (he16 _ (Option.some.inj h).symm) _ _ _ hw (lv_sub hl [0, 1] rfl)
        · have h := sr_ifn h hc
          refine lv_aload_n hx hb dX5_trap_71 rfl (lv_at hl 0 rfl) ?_
          refine sr_getr hx hb hts qzX5 hown hw (yf_0_7 t ad) (hts _ qfX5_26) dX5_trap_72 ?_
          refine lv_iload_n hx hb dX5_trap_75 rfl (lv_at hl 2 rfl) ?_
          refine sr_zald hx hb hw (ya_6 t ad) h dX5_trap_76 (fun v21 h => ?_)
          refine sr_jn_rule (fun (K22 : Int32 → Option ((Int32 × Int32 × sr_M) ⊕ (Int32 × sr_M))) => ∀ (v23 : Int32), K22 v23 = some y16 → ∀ (H : Heap) (locs : List Loc) (ls : Array Slot), yH D t ad A s M19 H locs → lv_has ls 4 [(0, .ref (ad 0)), (1, .int v17), (2, .int v18)] → W p l e ({ frames := 1, cells := 0, slots := 0, locals := 21 }) s m args below meth c H locs 0 0 Q (F0 m 111 ls [.int v23])) h ?_ (fun K22 hK22 h => ?_)
          · intro v23 h H locs ls hw hl
            refine lv_istore_n (lv' := [(3, .int v23), (0, .ref (ad 0)), (1, .int v17), (2, .int v18)]) hx hb dX5_trap_111 rfl hl (by decide) rfl (fun ls hl => ?_)
            refine lv_iload_n hx hb dX5_trap_112 rfl (lv_at hl 0 rfl) ?_
            refine lv_if_eq (tgt := 167) hx hb dX5_trap_113 (by decide) (fun hc => ?_) (fun hc => ?_)
            · have h := sr_ifp h hc
              refine lv_iinc (v := (v18 + 1)) (lv' := [(2, .int (v18 + 1)), (3, .int v23), (0, .ref (ad 0)), (1, .int v17)]) hx hb dX5_trap_167 hl (k := 3) rfl rfl (by decide) rfl (fun ls hl => ?_)
              refine lv_goto (tgt := 63) hx hb dX5_trap_170 (by decide) ?_
              exact hi16 (v17, (v18 + 1), M19) (Option.some.inj h).symm _ _ _ hw (lv_sub hl [2, 3, 0] rfl)
            · have h := sr_ifn h hc
              refine lv_aload_n hx hb dX5_trap_116 rfl (lv_at hl 1 rfl) ?_
              refine sr_getr hx hb hts qzX5 hown hw (yf_0_23 t ad) (hts _ qfX5_64) dX5_trap_117 ?_
              refine lv_aload_n hx hb dX5_trap_120 rfl (lv_at hl 1 rfl) ?_
              refine sr_getr hx hb hts qzX5 hown hw (yf_0_4 t ad) (hts _ qfX5_17) dX5_trap_121 ?_
              refine lv_iload_n hx hb dX5_trap_124 rfl (lv_at hl 3 rfl) ?_
              refine sr_iald hx hb hw (ya_3 t ad) h dX5_trap_125 (fun v24 h => ?_)
              refine sr_zald hx hb hw (ya_18 t ad) h dX5_trap_126 (fun v25 h => ?_)
              refine lv_aload_n hx hb dX5_trap_127 rfl (lv_at hl 1 rfl) ?_
              refine sr_getr hx hb hts qzX5 hown hw (yf_0_23 t ad) (hts _ qfX5_64) dX5_trap_128 ?_
              refine lv_aload_n hx hb dX5_trap_131 rfl (lv_at hl 1 rfl) ?_
              refine sr_getr hx hb hts qzX5 hown hw (yf_0_5 t ad) (hts _ qfX5_20) dX5_trap_132 ?_
              refine lv_iload_n hx hb dX5_trap_135 rfl (lv_at hl 3 rfl) ?_
              refine sr_iald hx hb hw (ya_4 t ad) h dX5_trap_136 (fun v26 h => ?_)
              refine sr_zald hx hb hw (ya_18 t ad) h dX5_trap_137 (fun v27 h => ?_)
              refine lv_icmp_eq (tgt := 167) hx hb dX5_trap_138 (by decide) (fun hc => ?_) (fun hc => ?_)
              · have h := sr_ifp h hc
                refine lv_iinc (v := (v18 + 1)) (lv' := [(2, .int (v18 + 1)), (3, .int v23), (0, .ref (ad 0)), (1, .int v17)]) hx hb dX5_trap_167 hl (k := 3) rfl rfl (by decide) rfl (fun ls hl => ?_)
                refine lv_goto (tgt := 63) hx hb dX5_trap_170 (by decide) ?_
                exact hi16 (v17, (v18 + 1), M19) (Option.some.inj h).symm _ _ _ hw (lv_sub hl [2, 3, 0] rfl)
              · have h := sr_ifn h hc
                refine lv_aload_n hx hb dX5_trap_141 rfl (lv_at hl 1 rfl) ?_
                refine sr_getr hx hb hts qzX5 hown hw (yf_0_23 t ad) (hts _ qfX5_64) dX5_trap_142 ?_
                refine lv_aload_n hx hb dX5_trap_145 rfl (lv_at hl 1 rfl) ?_
                refine sr_getr hx hb hts qzX5 hown hw (yf_0_4 t ad) (hts _ qfX5_17) dX5_trap_146 ?_
                refine lv_iload_n hx hb dX5_trap_149 rfl (lv_at hl 3 rfl) ?_
                refine sr_iald hx hb hw (ya_3 t ad) h dX5_trap_150 (fun v28 h => ?_)
                refine lv_iconst (v := 1) hx hb dX5_trap_151 (by decide) ?_
                refine sr_zast hx hb hw (ya_18 t ad) h dX5_trap_152 (fun M29 H locs h hw => ?_)
                refine lv_aload_n hx hb dX5_trap_153 rfl (lv_at hl 1 rfl) ?_
                refine sr_getr hx hb hts qzX5 hown hw (yf_0_23 t ad) (hts _ qfX5_64) dX5_trap_154 ?_
                refine lv_aload_n hx hb dX5_trap_157 rfl (lv_at hl 1 rfl) ?_
                refine sr_getr hx hb hts qzX5 hown hw (yf_0_5 t ad) (hts _ qfX5_20) dX5_trap_158 ?_
                refine lv_iload_n hx hb dX5_trap_161 rfl (lv_at hl 3 rfl) ?_
                refine sr_iald hx hb hw (ya_4 t ad) h dX5_trap_162 (fun v30 h => ?_)
                refine lv_iconst (v := 1) hx hb dX5_trap_163 (by decide) ?_
                refine sr_zast hx hb hw (ya_18 t ad) h dX5_trap_164 (fun M31 H locs h hw => ?_)
                refine lv_iconst (v := 1) hx hb dX5_trap_165 (by decide) ?_
                refine lv_istore_n (lv' := [(1, .int 1), (3, .int v23), (0, .ref (ad 0)), (2, .int v18)]) hx hb dX5_trap_166 rfl hl (by decide) rfl (fun ls hl => ?_)
                refine lv_iinc (v := (v18 + 1)) (lv' := [(2, .int (v18 + 1)), (1, .int 1), (3, .int v23), (0, .ref (ad 0))]) hx hb dX5_trap_167 hl (k := 3) rfl rfl (by decide) rfl (fun ls hl => ?_)
                refine lv_goto (tgt := 63) hx hb dX5_trap_170 (by decide) ?_
                exact hi16 (1, (v18 + 1), M31) (Option.some.inj h).symm _ _ _ hw (lv_sub hl [3, 1, 0] rfl)
          · refine sr_jn_rule (fun (K32 : Option ((Int32 × Int32 × sr_M) ⊕ (Int32 × sr_M))) => K32 = some y16 → ∀ (H : Heap) (locs : List Loc) (ls : Array Slot), yH D t ad A s M19 H locs → lv_has ls 4 [(0, .ref (ad 0)), (1, .int v17), (2, .int v18)] → W p l e ({ frames := 1, cells := 0, slots := 0, locals := 21 }) s m args below meth c H locs 0 0 Q (F0 m 110 ls [])) h ?_ (fun K32 hK32 h => ?_)
            · intro  h H locs ls hw hl
              refine lv_iconst (v := 0) hx hb dX5_trap_110 (by decide) ?_
              exact hK22 0 h _ _ _ hw (lv_sub hl [0, 1, 2] rfl)
            · refine lv_if_ne (tgt := 110) hx hb dX5_trap_77 (by decide) (fun hc => ?_) (fun hc => ?_)
              · have h := sr_ifn h hc
                exact hK32  h _ _ _ hw (lv_sub hl [0, 1, 2] rfl)
              · have h := sr_ifp h hc
                refine lv_aload_n hx hb dX5_trap_80 rfl (lv_at hl 0 rfl) ?_
                refine lv_aload_n hx hb dX5_trap_81 rfl (lv_at hl 0 rfl) ?_
                refine sr_getr hx hb hts qzX5 hown hw (yf_0_4 t ad) (hts _ qfX5_17) dX5_trap_82 ?_
                refine lv_iload_n hx hb dX5_trap_85 rfl (lv_at hl 2 rfl) ?_
                refine sr_iald hx hb hw (ya_3 t ad) h dX5_trap_86 (fun v33 h => ?_)
                obtain ⟨v34, hc, h⟩ := sr_bind1 h
                refine sr_cVi (As := [.int v33]) (rest := []) ⟨hx, hb, hml, hown, hts⟩ (k5_isFilled l D t ad v33 M19 _ hc) (cwV 1 hts (sr_goodV qmX5_143 qiX5_isFilled qsX5_isFilled qnX5 qcX5_isFilled) rfl rfl rfl qdX5_isFilled ⟨Nat.le_of_ble_eq_true rfl, Nat.le_of_ble_eq_true rfl⟩) hw hA (yo_0 t ad) rfl hl.1 rfl (Nat.le_of_ble_eq_true rfl) dX5_trap_87 (fun H locs hw => ?_)
                refine lv_if_ne (tgt := 110) hx hb dX5_trap_90 (by decide) (fun hc => ?_) (fun hc => ?_)
                · have h := sr_ifn h hc
                  exact hK32  h _ _ _ hw (lv_sub hl [0, 1, 2] rfl)
                · have h := sr_ifp h hc
                  refine lv_aload_n hx hb dX5_trap_93 rfl (lv_at hl 0 rfl) ?_
                  refine lv_aload_n hx hb dX5_trap_94 rfl (lv_at hl 0 rfl) ?_
                  refine sr_getr hx hb hts qzX5 hown hw (yf_0_5 t ad) (hts _ qfX5_20) dX5_trap_95 ?_
                  refine lv_iload_n hx hb dX5_trap_98 rfl (lv_at hl 2 rfl) ?_
                  refine sr_iald hx hb hw (ya_4 t ad) h dX5_trap_99 (fun v35 h => ?_)
                  obtain ⟨v36, hc, h⟩ := sr_bind1 h
                  refine sr_cVi (As := [.int v35]) (rest := []) ⟨hx, hb, hml, hown, hts⟩ (k5_isFilled l D t ad v35 M19 _ hc) (cwV 1 hts (sr_goodV qmX5_143 qiX5_isFilled qsX5_isFilled qnX5 qcX5_isFilled) rfl rfl rfl qdX5_isFilled ⟨Nat.le_of_ble_eq_true rfl, Nat.le_of_ble_eq_true rfl⟩) hw hA (yo_0 t ad) rfl hl.1 rfl (Nat.le_of_ble_eq_true rfl) dX5_trap_100 (fun H locs hw => ?_)
                  refine lv_if_ne (tgt := 110) hx hb dX5_trap_103 (by decide) (fun hc => ?_) (fun hc => ?_)
                  · have h := sr_ifn h hc
                    exact hK32  h _ _ _ hw (lv_sub hl [0, 1, 2] rfl)
                  · have h := sr_ifp h hc
                    refine lv_iconst (v := 1) hx hb dX5_trap_106 (by decide) ?_
                    refine lv_goto (tgt := 111) hx hb dX5_trap_107 (by decide) ?_
                    exact hK22 1 h _ _ _ hw (lv_sub hl [0, 1, 2] rfl)
    refine sr_lp_rule (fun (z2 : Int32 × sr_M) => ∀ (H : Heap) (locs : List Loc) (ls : Array Slot), yH D t ad A s z2.2 H locs → lv_has ls 4 [(0, .ref (ad 0)), (1, .int z2.1)] → W p l e ({ frames := 1, cells := 0, slots := 0, locals := 21 }) s m args below meth c H locs 0 0 Q (F0 m 10 ls [])) ?_ hlp _ _ _ hw (lv_sub hl [1, 0] rfl)
    rintro ⟨v3, M4⟩ y2 h hi2 he2 H locs ls hw hl
    have h : f5_trap_L10 v3 M4 = some y2 := h
    have hw : yH D t ad A s M4 H locs := hw
    have hl : lv_has ls 4 [(0, .ref (ad 0)), (1, .int v3)] := hl
    unfold f5_trap_L10 at h
    refine lv_iload_n hx hb dX5_trap_10 rfl (lv_at hl 1 rfl) ?_
    refine lv_aload_n hx hb dX5_trap_11 rfl (lv_at hl 0 rfl) ?_
    refine sr_geti hx hb hts qzX5 hown hw (yf_0_0 t ad) (hts _ qfX5_88) h dX5_trap_12 (fun v5 h => ?_)
    refine lv_icmp_ge (tgt := 53) hx hb dX5_trap_15 (by decide) (fun hc => ?_) (fun hc => ?_)
    · have h := sr_ifp h hc
      exact hX2  M4 (he2 _ (Option.some.inj h).symm) _ _ _ hw (lv_sub hl [0] rfl)
    · have h := sr_ifn h hc
      refine lv_aload_n hx hb dX5_trap_18 rfl (lv_at hl 0 rfl) ?_
      refine sr_getr hx hb hts qzX5 hown hw (yf_0_23 t ad) (hts _ qfX5_64) dX5_trap_19 ?_
      refine lv_iload_n hx hb dX5_trap_22 rfl (lv_at hl 1 rfl) ?_
      refine lv_aload_n hx hb dX5_trap_23 rfl (lv_at hl 0 rfl) ?_
      refine sr_getr hx hb hts qzX5 hown hw (yf_0_1 t ad) (hts _ qfX5_7) dX5_trap_24 ?_
      refine lv_iload_n hx hb dX5_trap_27 rfl (lv_at hl 1 rfl) ?_
      refine sr_iald hx hb hw (ya_1 t ad) h dX5_trap_28 (fun v6 h => ?_)
      refine lv_iconst (v := 4) hx hb dX5_trap_29 (by decide) ?_
      refine sr_jn_rule (fun (K7 : Int32 → Option ((Int32 × sr_M) ⊕ (sr_M))) => ∀ (v8 : Int32), K7 v8 = some y2 → ∀ (H : Heap) (locs : List Loc) (ls : Array Slot), yH D t ad A s M4 H locs → lv_has ls 4 [(0, .ref (ad 0)), (1, .int v3)] → W p l e ({ frames := 1, cells := 0, slots := 0, locals := 21 }) s m args below meth c H locs 0 0 Q (F0 m 46 ls [.int v8, .int v3, .ref (ad 18)])) h ?_ (fun K7 hK7 h => ?_)
      · intro v8 h H locs ls hw hl
        refine sr_zast hx hb hw (ya_18 t ad) h dX5_trap_46 (fun M9 H locs h hw => ?_)
        refine lv_iinc (v := (v3 + 1)) (lv' := [(1, .int (v3 + 1)), (0, .ref (ad 0))]) hx hb dX5_trap_47 hl (k := 1) rfl rfl (by decide) rfl (fun ls hl => ?_)
        refine lv_goto (tgt := 10) hx hb dX5_trap_50 (by decide) ?_
        exact hi2 ((v3 + 1), M9) (Option.some.inj h).symm _ _ _ hw (lv_sub hl [1, 0] rfl)
      · refine sr_jn_rule (fun (K10 : Option ((Int32 × sr_M) ⊕ (sr_M))) => K10 = some y2 → ∀ (H : Heap) (locs : List Loc) (ls : Array Slot), yH D t ad A s M4 H locs → lv_has ls 4 [(0, .ref (ad 0)), (1, .int v3)] → W p l e ({ frames := 1, cells := 0, slots := 0, locals := 21 }) s m args below meth c H locs 0 0 Q (F0 m 45 ls [.int v3, .ref (ad 18)])) h ?_ (fun K10 hK10 h => ?_)
        · intro  h H locs ls hw hl
          refine lv_iconst (v := 0) hx hb dX5_trap_45 (by decide) ?_
          exact hK7 0 h _ _ _ hw (lv_sub hl [0, 1] rfl)
        · refine lv_icmp_ne (tgt := 45) hx hb dX5_trap_30 (by decide) (fun hc => ?_) (fun hc => ?_)
          · have h := sr_ifn h hc
            exact hK10  h _ _ _ hw (lv_sub hl [0, 1] rfl)
          · have h := sr_ifp h hc
            refine lv_aload_n hx hb dX5_trap_33 rfl (lv_at hl 0 rfl) ?_
            refine lv_iload_n hx hb dX5_trap_34 rfl (lv_at hl 1 rfl) ?_
            obtain ⟨v11, hc, h⟩ := sr_bind1 h
            refine sr_cVi (As := [.int v3]) (rest := [.int v3, .ref (ad 18)]) ⟨hx, hb, hml, hown, hts⟩ (k5_isFilled l D t ad v3 M4 _ hc) (cwV 1 hts (sr_goodV qmX5_143 qiX5_isFilled qsX5_isFilled qnX5 qcX5_isFilled) rfl rfl rfl qdX5_isFilled ⟨Nat.le_of_ble_eq_true rfl, Nat.le_of_ble_eq_true rfl⟩) hw hA (yo_0 t ad) rfl hl.1 rfl (Nat.le_of_ble_eq_true rfl) dX5_trap_35 (fun H locs hw => ?_)
            refine lv_if_ne (tgt := 45) hx hb dX5_trap_38 (by decide) (fun hc => ?_) (fun hc => ?_)
            · have h := sr_ifn h hc
              exact hK10  h _ _ _ hw (lv_sub hl [0, 1] rfl)
            · have h := sr_ifp h hc
              refine lv_iconst (v := 1) hx hb dX5_trap_41 (by decide) ?_
              refine lv_goto (tgt := 46) hx hb dX5_trap_42 (by decide) ?_
              exact hK7 1 h _ _ _ hw (lv_sub hl [0, 1] rfl)
  · have h := sr_ifp h hc
    obtain rfl := Option.some.inj h
    exact ret _ _ _ _ hw dX5_trap_7

noncomputable def f5_start_L7 (v3 : Int32) (M4 : sr_M) : Option ((Int32 × sr_M) ⊕ (sr_M)) :=
sr_bnd (M4.1 0 0) fun v5 =>
if v5 ≤ v3 then
(some (.inr M4))
else
(sr_ld v3 120 (M4.1 2) fun v6 =>
sr_jn (fun (v8 : Int32) =>
sr_st v3 120 M4 12 v8 fun M9 =>
sr_st v3 120 M9 13 (-1) fun M10 =>
sr_st v3 120 M10 14 (-1) fun M11 =>
some (.inl ((v3 + 1), M11))) fun (K7 : Int32 → Option ((Int32 × sr_M) ⊕ (sr_M))) =>
if v6 = 0 then
(K7 (-1))
else
(K7 0))
noncomputable def f5_start (M : sr_M) : Option (sr_M) :=
sr_put M 0 14 0 fun M1 =>
(sr_lp (fun z2 : Int32 × sr_M => f5_start_L7 z2.1 z2.2) (0, M1)).bind fun w2 =>
(f5_trap w2).bind fun M13 =>
some M13
set_option maxHeartbeats 4000000 in
set_option maxRecDepth 100000 in
theorem k5_start (l : Launch) (D : va_G) (t : Nat → ClassId) (ad : Nat → Nat) (M : sr_M) (M' : sr_M) (h : f5_start M = some M') : sr_Mv l D vwCl (yty t) ad (ycf t ad) 26 yX5_start (.code yX5_start cX5_start 2 (none) :: sr_tbl) ({ frames := 2, cells := 0, slots := 0, locals := 44 }) [.ref (ad 0)] M M' := by
  refine sr_open_v (cc := cX5_start) (maxL := 2) (by decide) rfl (Nat.le_of_ble_eq_true rfl) ?_
  intro p e s m args below meth c A Q ls hx hb hml hts0 hown hA hw hl ret
  have hts : ∀ w ∈ sr_tbl, w.before args s = true := fun w hw => hts0 w (List.mem_cons_of_mem _ hw)
  have hown : s.vm.findClass RX5 = some m.cls := hown
  have hl : lv_has ls 2 [(0, .ref (ad 0))] := hl
  have hw : yH D t ad A s M s.heap [] := hw
  unfold f5_start at h
  refine lv_aload_n hx hb dX5_start_0 rfl (lv_at hl 0 rfl) ?_
  refine lv_iconst (v := 0) hx hb dX5_start_1 (by decide) ?_
  refine sr_puti hx hb hts qzX5 tyX5 tyX5_ok nmX5 hown hw (yf_0_14 t ad) rfl rfl (hts _ qfX5_152) h dX5_start_2 (fun M1 H locs h hw => ?_)
  refine lv_iconst (v := 0) hx hb dX5_start_5 (by decide) ?_
  refine lv_istore_n (lv' := [(1, .int 0), (0, .ref (ad 0))]) hx hb dX5_start_6 rfl hl (by decide) rfl (fun ls hl => ?_)
  obtain ⟨x2, hlp, hE2⟩ := sr_bind h
  have hX2 : ∀ (M12 : sr_M), M12 = x2 → ∀ (H : Heap) (locs : List Loc) (ls : Array Slot), yH D t ad A s M12 H locs → lv_has ls 2 [(0, .ref (ad 0))] → W p l e ({ frames := 2, cells := 0, slots := 0, locals := 44 }) s m args below meth c H locs 0 0 Q (F0 m 55 ls []) := by
    intro M12 ex H locs ls hw hl
    have h := hE2 _ ex
    try dsimp only at h
    refine lv_aload_n hx hb dX5_start_55 rfl (lv_at hl 0 rfl) ?_
    obtain ⟨M13, hc, h⟩ := sr_bind1 h
    refine sr_cVv (As := []) (rest := []) ⟨hx, hb, hml, hown, hts⟩ (k5_trap l D t ad  M12 _ hc) (cwV 0 hts (sr_goodV qmX5_155 qiX5_trap qsX5_trap qnX5 qcX5_trap) rfl rfl rfl qdX5_trap ⟨Nat.le_of_ble_eq_true rfl, Nat.le_of_ble_eq_true rfl⟩) hw hA (yo_0 t ad) rfl hl.1 rfl (Nat.le_of_ble_eq_true rfl) dX5_start_56 (fun H locs hw => ?_)
    obtain rfl := Option.some.inj h
    exact ret _ _ _ _ hw dX5_start_59
  refine sr_lp_rule (fun (z2 : Int32 × sr_M) => ∀ (H : Heap) (locs : List Loc) (ls : Array Slot), yH D t ad A s z2.2 H locs → lv_has ls 2 [(0, .ref (ad 0)), (1, .int z2.1)] → W p l e ({ frames := 2, cells := 0, slots := 0, locals := 44 }) s m args below meth c H locs 0 0 Q (F0 m 7 ls [])) ?_ hlp _ _ _ hw (lv_sub hl [1, 0] rfl)
  rintro ⟨v3, M4⟩ y2 h hi2 he2 H locs ls hw hl
  have h : f5_start_L7 v3 M4 = some y2 := h
  have hw : yH D t ad A s M4 H locs := hw
  have hl : lv_has ls 2 [(0, .ref (ad 0)), (1, .int v3)] := hl
  unfold f5_start_L7 at h
  refine lv_iload_n hx hb dX5_start_7 rfl (lv_at hl 1 rfl) ?_
  refine lv_aload_n hx hb dX5_start_8 rfl (lv_at hl 0 rfl) ?_
  refine sr_geti hx hb hts qzX5 hown hw (yf_0_0 t ad) (hts _ qfX5_88) h dX5_start_9 (fun v5 h => ?_)
  refine lv_icmp_ge (tgt := 55) hx hb dX5_start_12 (by decide) (fun hc => ?_) (fun hc => ?_)
  · have h := sr_ifp h hc
    exact hX2  M4 (he2 _ (Option.some.inj h).symm) _ _ _ hw (lv_sub hl [0] rfl)
  · have h := sr_ifn h hc
    refine lv_aload_n hx hb dX5_start_15 rfl (lv_at hl 0 rfl) ?_
    refine sr_getr hx hb hts qzX5 hown hw (yf_0_16 t ad) (hts _ qfX5_46) dX5_start_16 ?_
    refine lv_iload_n hx hb dX5_start_19 rfl (lv_at hl 1 rfl) ?_
    refine lv_aload_n hx hb dX5_start_20 rfl (lv_at hl 0 rfl) ?_
    refine sr_getr hx hb hts qzX5 hown hw (yf_0_2 t ad) (hts _ qfX5_13) dX5_start_21 ?_
    refine lv_iload_n hx hb dX5_start_24 rfl (lv_at hl 1 rfl) ?_
    refine sr_zald hx hb hw (ya_2 t ad) h dX5_start_25 (fun v6 h => ?_)
    refine sr_jn_rule (fun (K7 : Int32 → Option ((Int32 × sr_M) ⊕ (sr_M))) => ∀ (v8 : Int32), K7 v8 = some y2 → ∀ (H : Heap) (locs : List Loc) (ls : Array Slot), yH D t ad A s M4 H locs → lv_has ls 2 [(0, .ref (ad 0)), (1, .int v3)] → W p l e ({ frames := 2, cells := 0, slots := 0, locals := 44 }) s m args below meth c H locs 0 0 Q (F0 m 34 ls [.int v8, .int v3, .ref (ad 12)])) h ?_ (fun K7 hK7 h => ?_)
    · intro v8 h H locs ls hw hl
      refine sr_iast hx hb hw (ya_12 t ad) h dX5_start_34 (fun M9 H locs h hw => ?_)
      refine lv_aload_n hx hb dX5_start_35 rfl (lv_at hl 0 rfl) ?_
      refine sr_getr hx hb hts qzX5 hown hw (yf_0_17 t ad) (hts _ qfX5_49) dX5_start_36 ?_
      refine lv_iload_n hx hb dX5_start_39 rfl (lv_at hl 1 rfl) ?_
      refine lv_iconst (v := (-1)) hx hb dX5_start_40 (by decide) ?_
      refine sr_iast hx hb hw (ya_13 t ad) h dX5_start_41 (fun M10 H locs h hw => ?_)
      refine lv_aload_n hx hb dX5_start_42 rfl (lv_at hl 0 rfl) ?_
      refine sr_getr hx hb hts qzX5 hown hw (yf_0_18 t ad) (hts _ qfX5_52) dX5_start_43 ?_
      refine lv_iload_n hx hb dX5_start_46 rfl (lv_at hl 1 rfl) ?_
      refine lv_iconst (v := (-1)) hx hb dX5_start_47 (by decide) ?_
      refine sr_iast hx hb hw (ya_14 t ad) h dX5_start_48 (fun M11 H locs h hw => ?_)
      refine lv_iinc (v := (v3 + 1)) (lv' := [(1, .int (v3 + 1)), (0, .ref (ad 0))]) hx hb dX5_start_49 hl (k := 1) rfl rfl (by decide) rfl (fun ls hl => ?_)
      refine lv_goto (tgt := 7) hx hb dX5_start_52 (by decide) ?_
      exact hi2 ((v3 + 1), M11) (Option.some.inj h).symm _ _ _ hw (lv_sub hl [1, 0] rfl)
    · refine lv_if_eq (tgt := 33) hx hb dX5_start_26 (by decide) (fun hc => ?_) (fun hc => ?_)
      · have h := sr_ifp h hc
        refine lv_iconst (v := (-1)) hx hb dX5_start_33 (by decide) ?_
        exact hK7 (-1) h _ _ _ hw (lv_sub hl [0, 1] rfl)
      · have h := sr_ifn h hc
        refine lv_iconst (v := 0) hx hb dX5_start_29 (by decide) ?_
        refine lv_goto (tgt := 34) hx hb dX5_start_30 (by decide) ?_
        exact hK7 0 h _ _ _ hw (lv_sub hl [0, 1] rfl)

noncomputable def f5_countPores_L4 (a1 : Int32) (M : sr_M) (v2 : Int32) (v3 : Int32) : Option ((Int32 × Int32) ⊕ (Int32)) :=
sr_bnd (M.1 0 0) fun v4 =>
if v4 ≤ v3 then
(some (.inr v2))
else
(if a1 = 3 then
((f5_isFilled v3 M).bind fun v7 =>
if v7 = 0 then
(some (.inl ((v2 + 0), (v3 + 1))))
else
(some (.inl ((v2 + 1), (v3 + 1)))))
else
(if a1 = 4 then
(sr_ld v3 120 (M.1 14) fun v6 =>
if v6 < 0 then
(some (.inl ((v2 + 0), (v3 + 1))))
else
(some (.inl ((v2 + 1), (v3 + 1)))))
else
((f5_isFree v3 M).bind fun v5 =>
if v5 = 0 then
(some (.inl ((v2 + 0), (v3 + 1))))
else
(some (.inl ((v2 + 1), (v3 + 1)))))))
noncomputable def f5_countPores (a1 : Int32) (M : sr_M) : Option (Int32) :=
(sr_lp (fun z1 : Int32 × Int32 => f5_countPores_L4 a1 M z1.1 z1.2) (0, 0)).bind fun w1 =>
some w1
set_option maxHeartbeats 4000000 in
set_option maxRecDepth 100000 in
theorem k5_countPores (l : Launch) (D : va_G) (t : Nat → ClassId) (ad : Nat → Nat) (a1 : Int32) (M : sr_M) (r : Int32) (h : f5_countPores a1 M = some r) : sr_Mi l D vwCl (yty t) ad (ycf t ad) 26 yX5_countPores (.code yX5_countPores cX5_countPores 4 (some .int) :: sr_tbl) ({ frames := 1, cells := 0, slots := 0, locals := 21 }) [.ref (ad 0), .int a1] M r M := by
  refine sr_open_i (cc := cX5_countPores) (maxL := 4) (by decide) rfl (Nat.le_of_ble_eq_true rfl) ?_
  intro p e s m args below meth c A Q ls hx hb hml hts0 hown hA hw hl ret
  have hts : ∀ w ∈ sr_tbl, w.before args s = true := fun w hw => hts0 w (List.mem_cons_of_mem _ hw)
  have hown : s.vm.findClass RX5 = some m.cls := hown
  have hl : lv_has ls 4 [(0, .ref (ad 0)), (1, .int a1)] := hl
  have hw : yH D t ad A s M s.heap [] := hw
  unfold f5_countPores at h
  refine lv_iconst (v := 0) hx hb dX5_countPores_0 (by decide) ?_
  refine lv_istore_n (lv' := [(2, .int 0), (0, .ref (ad 0)), (1, .int a1)]) hx hb dX5_countPores_1 rfl hl (by decide) rfl (fun ls hl => ?_)
  refine lv_iconst (v := 0) hx hb dX5_countPores_2 (by decide) ?_
  refine lv_istore_n (lv' := [(3, .int 0), (2, .int 0), (0, .ref (ad 0)), (1, .int a1)]) hx hb dX5_countPores_3 rfl hl (by decide) rfl (fun ls hl => ?_)
  obtain ⟨x1, hlp, hE1⟩ := sr_bind h
  have hX1 : ∀ (v8 : Int32), v8 = x1 → ∀ (H : Heap) (locs : List Loc) (ls : Array Slot), yH D t ad A s M H locs → lv_has ls 4 [(2, .int v8)] → W p l e ({ frames := 1, cells := 0, slots := 0, locals := 21 }) s m args below meth c H locs 0 0 Q (F0 m 77 ls []) := by
    intro v8 ex H locs ls hw hl
    have h := hE1 _ ex
    try dsimp only at h
    refine lv_iload_n hx hb dX5_countPores_77 rfl (lv_at hl 0 rfl) ?_
    obtain rfl := Option.some.inj h
    exact ret _ _ _ _ hw rfl dX5_countPores_78
  refine sr_lp_rule (fun (z1 : Int32 × Int32) => ∀ (H : Heap) (locs : List Loc) (ls : Array Slot), yH D t ad A s M H locs → lv_has ls 4 [(0, .ref (ad 0)), (1, .int a1), (2, .int z1.1), (3, .int z1.2)] → W p l e ({ frames := 1, cells := 0, slots := 0, locals := 21 }) s m args below meth c H locs 0 0 Q (F0 m 4 ls [])) ?_ hlp _ _ _ hw (lv_sub hl [2, 3, 1, 0] rfl)
  rintro ⟨v2, v3⟩ y1 h hi1 he1 H locs ls hw hl
  have h : f5_countPores_L4 a1 M v2 v3 = some y1 := h
  have hw : yH D t ad A s M H locs := hw
  have hl : lv_has ls 4 [(0, .ref (ad 0)), (1, .int a1), (2, .int v2), (3, .int v3)] := hl
  unfold f5_countPores_L4 at h
  refine lv_iload_n hx hb dX5_countPores_4 rfl (lv_at hl 3 rfl) ?_
  refine lv_aload_n hx hb dX5_countPores_5 rfl (lv_at hl 0 rfl) ?_
  refine sr_geti hx hb hts qzX5 hown hw (yf_0_0 t ad) (hts _ qfX5_88) h dX5_countPores_6 (fun v4 h => ?_)
  refine lv_icmp_ge (tgt := 77) hx hb dX5_countPores_9 (by decide) (fun hc => ?_) (fun hc => ?_)
  · have h := sr_ifp h hc
    exact hX1 v2 (he1 _ (Option.some.inj h).symm) _ _ _ hw (lv_sub hl [2] rfl)
  · have h := sr_ifn h hc
    refine lv_iload_n hx hb dX5_countPores_12 rfl (lv_at hl 2 rfl) ?_
    refine lv_iload_n hx hb dX5_countPores_13 rfl (lv_at hl 1 rfl) ?_
    refine lv_iconst (v := 3) hx hb dX5_countPores_14 (by decide) ?_
    refine lv_icmp_ne (tgt := 34) hx hb dX5_countPores_15 (by decide) (fun hc => ?_) (fun hc => ?_)
    · have h := sr_ifn h hc
      refine lv_iload_n hx hb dX5_countPores_34 rfl (lv_at hl 1 rfl) ?_
      refine lv_iconst (v := 4) hx hb dX5_countPores_35 (by decide) ?_
      refine lv_icmp_ne (tgt := 56) hx hb dX5_countPores_36 (by decide) (fun hc => ?_) (fun hc => ?_)
      · have h := sr_ifn h hc
        refine lv_aload_n hx hb dX5_countPores_56 rfl (lv_at hl 0 rfl) ?_
        refine lv_iload_n hx hb dX5_countPores_57 rfl (lv_at hl 3 rfl) ?_
        obtain ⟨v5, hc, h⟩ := sr_bind1 h
        refine sr_cVi (As := [.int v3]) (rest := [.int v2]) ⟨hx, hb, hml, hown, hts⟩ (k5_isFree l D t ad v3 M _ hc) (cwV 1 hts (sr_goodV qmX5_146 qiX5_isFree qsX5_isFree qnX5 qcX5_isFree) rfl rfl rfl qdX5_isFree ⟨Nat.le_of_ble_eq_true rfl, Nat.le_of_ble_eq_true rfl⟩) hw hA (yo_0 t ad) rfl hl.1 rfl (Nat.le_of_ble_eq_true rfl) dX5_countPores_58 (fun H locs hw => ?_)
        refine lv_if_eq (tgt := 68) hx hb dX5_countPores_61 (by decide) (fun hc => ?_) (fun hc => ?_)
        · have h := sr_ifp h hc
          refine lv_iconst (v := 0) hx hb dX5_countPores_68 (by decide) ?_
          refine lv_iadd hx hb dX5_countPores_69 ?_
          refine lv_istore_n (lv' := [(2, .int (v2 + 0)), (0, .ref (ad 0)), (1, .int a1), (3, .int v3)]) hx hb dX5_countPores_70 rfl hl (by decide) rfl (fun ls hl => ?_)
          refine lv_iinc (v := (v3 + 1)) (lv' := [(3, .int (v3 + 1)), (2, .int (v2 + 0)), (0, .ref (ad 0)), (1, .int a1)]) hx hb dX5_countPores_71 hl (k := 3) rfl rfl (by decide) rfl (fun ls hl => ?_)
          refine lv_goto (tgt := 4) hx hb dX5_countPores_74 (by decide) ?_
          exact hi1 ((v2 + 0), (v3 + 1)) (Option.some.inj h).symm _ _ _ hw (lv_sub hl [2, 3, 1, 0] rfl)
        · have h := sr_ifn h hc
          refine lv_iconst (v := 1) hx hb dX5_countPores_64 (by decide) ?_
          refine lv_goto (tgt := 69) hx hb dX5_countPores_65 (by decide) ?_
          refine lv_iadd hx hb dX5_countPores_69 ?_
          refine lv_istore_n (lv' := [(2, .int (v2 + 1)), (0, .ref (ad 0)), (1, .int a1), (3, .int v3)]) hx hb dX5_countPores_70 rfl hl (by decide) rfl (fun ls hl => ?_)
          refine lv_iinc (v := (v3 + 1)) (lv' := [(3, .int (v3 + 1)), (2, .int (v2 + 1)), (0, .ref (ad 0)), (1, .int a1)]) hx hb dX5_countPores_71 hl (k := 3) rfl rfl (by decide) rfl (fun ls hl => ?_)
          refine lv_goto (tgt := 4) hx hb dX5_countPores_74 (by decide) ?_
          exact hi1 ((v2 + 1), (v3 + 1)) (Option.some.inj h).symm _ _ _ hw (lv_sub hl [2, 3, 1, 0] rfl)
      · have h := sr_ifp h hc
        refine lv_aload_n hx hb dX5_countPores_39 rfl (lv_at hl 0 rfl) ?_
        refine sr_getr hx hb hts qzX5 hown hw (yf_0_18 t ad) (hts _ qfX5_52) dX5_countPores_40 ?_
        refine lv_iload_n hx hb dX5_countPores_43 rfl (lv_at hl 3 rfl) ?_
        refine sr_iald hx hb hw (ya_14 t ad) h dX5_countPores_44 (fun v6 h => ?_)
        refine lv_if_lt (tgt := 52) hx hb dX5_countPores_45 (by decide) (fun hc => ?_) (fun hc => ?_)
        · have h := sr_ifp h hc
          refine lv_iconst (v := 0) hx hb dX5_countPores_52 (by decide) ?_
          refine lv_goto (tgt := 69) hx hb dX5_countPores_53 (by decide) ?_
          refine lv_iadd hx hb dX5_countPores_69 ?_
          refine lv_istore_n (lv' := [(2, .int (v2 + 0)), (0, .ref (ad 0)), (1, .int a1), (3, .int v3)]) hx hb dX5_countPores_70 rfl hl (by decide) rfl (fun ls hl => ?_)
          refine lv_iinc (v := (v3 + 1)) (lv' := [(3, .int (v3 + 1)), (2, .int (v2 + 0)), (0, .ref (ad 0)), (1, .int a1)]) hx hb dX5_countPores_71 hl (k := 3) rfl rfl (by decide) rfl (fun ls hl => ?_)
          refine lv_goto (tgt := 4) hx hb dX5_countPores_74 (by decide) ?_
          exact hi1 ((v2 + 0), (v3 + 1)) (Option.some.inj h).symm _ _ _ hw (lv_sub hl [2, 3, 1, 0] rfl)
        · have h := sr_ifn h hc
          refine lv_iconst (v := 1) hx hb dX5_countPores_48 (by decide) ?_
          refine lv_goto (tgt := 69) hx hb dX5_countPores_49 (by decide) ?_
          refine lv_iadd hx hb dX5_countPores_69 ?_
          refine lv_istore_n (lv' := [(2, .int (v2 + 1)), (0, .ref (ad 0)), (1, .int a1), (3, .int v3)]) hx hb dX5_countPores_70 rfl hl (by decide) rfl (fun ls hl => ?_)
          refine lv_iinc (v := (v3 + 1)) (lv' := [(3, .int (v3 + 1)), (2, .int (v2 + 1)), (0, .ref (ad 0)), (1, .int a1)]) hx hb dX5_countPores_71 hl (k := 3) rfl rfl (by decide) rfl (fun ls hl => ?_)
          refine lv_goto (tgt := 4) hx hb dX5_countPores_74 (by decide) ?_
          exact hi1 ((v2 + 1), (v3 + 1)) (Option.some.inj h).symm _ _ _ hw (lv_sub hl [2, 3, 1, 0] rfl)
    · have h := sr_ifp h hc
      refine lv_aload_n hx hb dX5_countPores_18 rfl (lv_at hl 0 rfl) ?_
      refine lv_iload_n hx hb dX5_countPores_19 rfl (lv_at hl 3 rfl) ?_
      obtain ⟨v7, hc, h⟩ := sr_bind1 h
      refine sr_cVi (As := [.int v3]) (rest := [.int v2]) ⟨hx, hb, hml, hown, hts⟩ (k5_isFilled l D t ad v3 M _ hc) (cwV 1 hts (sr_goodV qmX5_143 qiX5_isFilled qsX5_isFilled qnX5 qcX5_isFilled) rfl rfl rfl qdX5_isFilled ⟨Nat.le_of_ble_eq_true rfl, Nat.le_of_ble_eq_true rfl⟩) hw hA (yo_0 t ad) rfl hl.1 rfl (Nat.le_of_ble_eq_true rfl) dX5_countPores_20 (fun H locs hw => ?_)
      refine lv_if_eq (tgt := 30) hx hb dX5_countPores_23 (by decide) (fun hc => ?_) (fun hc => ?_)
      · have h := sr_ifp h hc
        refine lv_iconst (v := 0) hx hb dX5_countPores_30 (by decide) ?_
        refine lv_goto (tgt := 69) hx hb dX5_countPores_31 (by decide) ?_
        refine lv_iadd hx hb dX5_countPores_69 ?_
        refine lv_istore_n (lv' := [(2, .int (v2 + 0)), (0, .ref (ad 0)), (1, .int a1), (3, .int v3)]) hx hb dX5_countPores_70 rfl hl (by decide) rfl (fun ls hl => ?_)
        refine lv_iinc (v := (v3 + 1)) (lv' := [(3, .int (v3 + 1)), (2, .int (v2 + 0)), (0, .ref (ad 0)), (1, .int a1)]) hx hb dX5_countPores_71 hl (k := 3) rfl rfl (by decide) rfl (fun ls hl => ?_)
        refine lv_goto (tgt := 4) hx hb dX5_countPores_74 (by decide) ?_
        exact hi1 ((v2 + 0), (v3 + 1)) (Option.some.inj h).symm _ _ _ hw (lv_sub hl [2, 3, 1, 0] rfl)
      · have h := sr_ifn h hc
        refine lv_iconst (v := 1) hx hb dX5_countPores_26 (by decide) ?_
        refine lv_goto (tgt := 69) hx hb dX5_countPores_27 (by decide) ?_
        refine lv_iadd hx hb dX5_countPores_69 ?_
        refine lv_istore_n (lv' := [(2, .int (v2 + 1)), (0, .ref (ad 0)), (1, .int a1), (3, .int v3)]) hx hb dX5_countPores_70 rfl hl (by decide) rfl (fun ls hl => ?_)
        refine lv_iinc (v := (v3 + 1)) (lv' := [(3, .int (v3 + 1)), (2, .int (v2 + 1)), (0, .ref (ad 0)), (1, .int a1)]) hx hb dX5_countPores_71 hl (k := 3) rfl rfl (by decide) rfl (fun ls hl => ?_)
        refine lv_goto (tgt := 4) hx hb dX5_countPores_74 (by decide) ?_
        exact hi1 ((v2 + 1), (v3 + 1)) (Option.some.inj h).symm _ _ _ hw (lv_sub hl [2, 3, 1, 0] rfl)

noncomputable def f5_spreadLake_L10 (a1 : Int32) (v5 : Int32) (v6 : Int32) (M7 : sr_M) : Option ((Int32 × Int32 × sr_M) ⊕ (Int32 × sr_M)) :=
sr_bnd (M7.1 0 3) fun v8 =>
if v8 ≤ v6 then
(some (.inr (v5, M7)))
else
(sr_ld v6 300 (M7.1 3) fun v9 =>
sr_ld v6 300 (M7.1 4) fun v10 =>
sr_ld v6 300 (M7.1 6) fun v11 =>
sr_jn (fun (v13 : Int32) =>
if v13 = 0 then
(some (.inl (v5, (v6 + 1), M7)))
else
(sr_ld v9 120 (M7.1 19) fun v14 =>
sr_bnd (M7.1 0 25) fun v15 =>
sr_jn (fun (v17 : Int32) =>
sr_ld v10 120 (M7.1 19) fun v18 =>
sr_bnd (M7.1 0 25) fun v19 =>
sr_jn (fun (v21 : Int32) =>
if v17 = v21 then
(some (.inl (v5, (v6 + 1), M7)))
else
(sr_bnd (M7.1 0 25) fun v22 =>
sr_st v9 120 M7 19 v22 fun M23 =>
sr_bnd (M23.1 0 25) fun v24 =>
sr_st v10 120 M23 19 v24 fun M25 =>
some (.inl (1, (v6 + 1), M25)))) fun (K20 : Int32 → Option ((Int32 × Int32 × sr_M) ⊕ (Int32 × sr_M))) =>
if v18 = v19 then
(K20 1)
else
(K20 0)) fun (K16 : Int32 → Option ((Int32 × Int32 × sr_M) ⊕ (Int32 × sr_M))) =>
if v14 = v15 then
(K16 1)
else
(K16 0))) fun (K12 : Int32 → Option ((Int32 × Int32 × sr_M) ⊕ (Int32 × sr_M))) =>
sr_jn (K12 0) fun (K26 : Option ((Int32 × Int32 × sr_M) ⊕ (Int32 × sr_M))) =>
if v11 = 0 then
(sr_ld v9 120 (M7.1 14) fun v27 =>
if v27 = a1 then
(sr_ld v10 120 (M7.1 14) fun v28 =>
if v28 = a1 then
(K12 1)
else
(K26))
else
(K26))
else
(K26))
noncomputable def f5_spreadLake_L2 (a1 : Int32) (v2 : Int32) (M3 : sr_M) : Option ((Int32 × sr_M) ⊕ (sr_M)) :=
if v2 = 0 then
(some (.inr M3))
else
((sr_lp (fun z4 : Int32 × Int32 × sr_M => f5_spreadLake_L10 a1 z4.1 z4.2.1 z4.2.2) (0, 0, M3)).bind fun w4 =>
some (.inl (w4.1, w4.2)))
noncomputable def f5_spreadLake (a1 : Int32) (M : sr_M) : Option (sr_M) :=
(sr_lp (fun z1 : Int32 × sr_M => f5_spreadLake_L2 a1 z1.1 z1.2) (1, M)).bind fun w1 =>
some w1
set_option maxHeartbeats 4000000 in
set_option maxRecDepth 100000 in
theorem k5_spreadLake (l : Launch) (D : va_G) (t : Nat → ClassId) (ad : Nat → Nat) (a1 : Int32) (M : sr_M) (M' : sr_M) (h : f5_spreadLake a1 M = some M') : sr_Mv l D vwCl (yty t) ad (ycf t ad) 26 yX5_spreadLake (.code yX5_spreadLake cX5_spreadLake 7 (none) :: sr_tbl) ({ frames := 0, cells := 0, slots := 0, locals := 0 }) [.ref (ad 0), .int a1] M M' := by
  refine sr_open_v (cc := cX5_spreadLake) (maxL := 7) (by decide) rfl (Nat.le_of_ble_eq_true rfl) ?_
  intro p e s m args below meth c A Q ls hx hb hml hts0 hown hA hw hl ret
  have hts : ∀ w ∈ sr_tbl, w.before args s = true := fun w hw => hts0 w (List.mem_cons_of_mem _ hw)
  have hown : s.vm.findClass RX5 = some m.cls := hown
  have hl : lv_has ls 7 [(0, .ref (ad 0)), (1, .int a1)] := hl
  have hw : yH D t ad A s M s.heap [] := hw
  unfold f5_spreadLake at h
  refine lv_iconst (v := 1) hx hb dX5_spreadLake_0 (by decide) ?_
  refine lv_istore_n (lv' := [(2, .int 1), (0, .ref (ad 0)), (1, .int a1)]) hx hb dX5_spreadLake_1 rfl hl (by decide) rfl (fun ls hl => ?_)
  obtain ⟨x1, hlp, hE1⟩ := sr_bind h
  have hX1 : ∀ (M31 : sr_M), M31 = x1 → ∀ (H : Heap) (locs : List Loc) (ls : Array Slot), yH D t ad A s M31 H locs → lv_has ls 7 [] → W p l e ({ frames := 0, cells := 0, slots := 0, locals := 0 }) s m args below meth c H locs 0 0 Q (F0 m 151 ls []) := by
    intro M31 ex H locs ls hw hl
    have h := hE1 _ ex
    try dsimp only at h
    obtain rfl := Option.some.inj h
    exact ret _ _ _ _ hw dX5_spreadLake_151
  refine sr_lp_rule (fun (z1 : Int32 × sr_M) => ∀ (H : Heap) (locs : List Loc) (ls : Array Slot), yH D t ad A s z1.2 H locs → lv_has ls 7 [(0, .ref (ad 0)), (1, .int a1), (2, .int z1.1)] → W p l e ({ frames := 0, cells := 0, slots := 0, locals := 0 }) s m args below meth c H locs 0 0 Q (F0 m 2 ls [])) ?_ hlp _ _ _ hw (lv_sub hl [1, 2, 0] rfl)
  rintro ⟨v2, M3⟩ y1 h hi1 he1 H locs ls hw hl
  have h : f5_spreadLake_L2 a1 v2 M3 = some y1 := h
  have hw : yH D t ad A s M3 H locs := hw
  have hl : lv_has ls 7 [(0, .ref (ad 0)), (1, .int a1), (2, .int v2)] := hl
  unfold f5_spreadLake_L2 at h
  refine lv_iload_n hx hb dX5_spreadLake_2 rfl (lv_at hl 2 rfl) ?_
  refine lv_if_eq (tgt := 151) hx hb dX5_spreadLake_3 (by decide) (fun hc => ?_) (fun hc => ?_)
  · have h := sr_ifp h hc
    exact hX1  M3 (he1 _ (Option.some.inj h).symm) _ _ _ hw (lv_sub hl [] rfl)
  · have h := sr_ifn h hc
    refine lv_iconst (v := 0) hx hb dX5_spreadLake_6 (by decide) ?_
    refine lv_istore_n (lv' := [(2, .int 0), (0, .ref (ad 0)), (1, .int a1)]) hx hb dX5_spreadLake_7 rfl hl (by decide) rfl (fun ls hl => ?_)
    refine lv_iconst (v := 0) hx hb dX5_spreadLake_8 (by decide) ?_
    refine lv_istore_n (lv' := [(3, .int 0), (2, .int 0), (0, .ref (ad 0)), (1, .int a1)]) hx hb dX5_spreadLake_9 rfl hl (by decide) rfl (fun ls hl => ?_)
    obtain ⟨x4, hlp, hE4⟩ := sr_bind h
    have hX4 : ∀ (v29 : Int32) (M30 : sr_M), (v29, M30) = x4 → ∀ (H : Heap) (locs : List Loc) (ls : Array Slot), yH D t ad A s M30 H locs → lv_has ls 7 [(0, .ref (ad 0)), (1, .int a1), (2, .int v29)] → W p l e ({ frames := 0, cells := 0, slots := 0, locals := 0 }) s m args below meth c H locs 0 0 Q (F0 m 148 ls []) := by
      intro v29 M30 ex H locs ls hw hl
      have h := hE4 _ ex
      try dsimp only at h
      refine lv_goto (tgt := 2) hx hb dX5_spreadLake_148 (by decide) ?_
      exact hi1 (v29, M30) (Option.some.inj h).symm _ _ _ hw (lv_sub hl [0, 1, 2] rfl)
    refine sr_lp_rule (fun (z4 : Int32 × Int32 × sr_M) => ∀ (H : Heap) (locs : List Loc) (ls : Array Slot), yH D t ad A s z4.2.2 H locs → lv_has ls 7 [(0, .ref (ad 0)), (1, .int a1), (2, .int z4.1), (3, .int z4.2.1)] → W p l e ({ frames := 0, cells := 0, slots := 0, locals := 0 }) s m args below meth c H locs 0 0 Q (F0 m 10 ls [])) ?_ hlp _ _ _ hw (lv_sub hl [2, 3, 1, 0] rfl)
    rintro ⟨v5, v6, M7⟩ y4 h hi4 he4 H locs ls hw hl
    have h : f5_spreadLake_L10 a1 v5 v6 M7 = some y4 := h
    have hw : yH D t ad A s M7 H locs := hw
    have hl : lv_has ls 7 [(0, .ref (ad 0)), (1, .int a1), (2, .int v5), (3, .int v6)] := hl
    unfold f5_spreadLake_L10 at h
    refine lv_iload_n hx hb dX5_spreadLake_10 rfl (lv_at hl 3 rfl) ?_
    refine lv_aload_n hx hb dX5_spreadLake_11 rfl (lv_at hl 0 rfl) ?_
    refine sr_geti hx hb hts qzX5 hown hw (yf_0_3 t ad) (hts _ qfX5_92) h dX5_spreadLake_12 (fun v8 h => ?_)
    refine lv_icmp_ge (tgt := 148) hx hb dX5_spreadLake_15 (by decide) (fun hc => ?_) (fun hc => ?_)
    · have h := sr_ifp h hc
      exact hX4 v5 M7 (he4 _ (Option.some.inj h).symm) _ _ _ hw (lv_sub hl [0, 1, 2] rfl)
    · have h := sr_ifn h hc
      refine lv_aload_n hx hb dX5_spreadLake_18 rfl (lv_at hl 0 rfl) ?_
      refine sr_getr hx hb hts qzX5 hown hw (yf_0_4 t ad) (hts _ qfX5_17) dX5_spreadLake_19 ?_
      refine lv_iload_n hx hb dX5_spreadLake_22 rfl (lv_at hl 3 rfl) ?_
      refine sr_iald hx hb hw (ya_3 t ad) h dX5_spreadLake_23 (fun v9 h => ?_)
      refine lv_istore (lv' := [(4, .int v9), (0, .ref (ad 0)), (1, .int a1), (2, .int v5), (3, .int v6)]) hx hb dX5_spreadLake_24 hl (by decide) rfl (fun ls hl => ?_)
      refine lv_aload_n hx hb dX5_spreadLake_26 rfl (lv_at hl 1 rfl) ?_
      refine sr_getr hx hb hts qzX5 hown hw (yf_0_5 t ad) (hts _ qfX5_20) dX5_spreadLake_27 ?_
      refine lv_iload_n hx hb dX5_spreadLake_30 rfl (lv_at hl 4 rfl) ?_
      refine sr_iald hx hb hw (ya_4 t ad) h dX5_spreadLake_31 (fun v10 h => ?_)
      refine lv_istore (lv' := [(5, .int v10), (4, .int v9), (0, .ref (ad 0)), (1, .int a1), (2, .int v5), (3, .int v6)]) hx hb dX5_spreadLake_32 hl (by decide) rfl (fun ls hl => ?_)
      refine lv_aload_n hx hb dX5_spreadLake_34 rfl (lv_at hl 2 rfl) ?_
      refine sr_getr hx hb hts qzX5 hown hw (yf_0_7 t ad) (hts _ qfX5_26) dX5_spreadLake_35 ?_
      refine lv_iload_n hx hb dX5_spreadLake_38 rfl (lv_at hl 5 rfl) ?_
      refine sr_zald hx hb hw (ya_6 t ad) h dX5_spreadLake_39 (fun v11 h => ?_)
      refine sr_jn_rule (fun (K12 : Int32 → Option ((Int32 × Int32 × sr_M) ⊕ (Int32 × sr_M))) => ∀ (v13 : Int32), K12 v13 = some y4 → ∀ (H : Heap) (locs : List Loc) (ls : Array Slot), yH D t ad A s M7 H locs → lv_has ls 7 [(0, .ref (ad 0)), (1, .int a1), (2, .int v5), (3, .int v6), (4, .int v9), (5, .int v10)] → W p l e ({ frames := 0, cells := 0, slots := 0, locals := 0 }) s m args below meth c H locs 0 0 Q (F0 m 70 ls [.int v13])) h ?_ (fun K12 hK12 h => ?_)
      · intro v13 h H locs ls hw hl
        refine lv_istore (lv' := [(6, .int v13), (0, .ref (ad 0)), (1, .int a1), (2, .int v5), (3, .int v6), (4, .int v9), (5, .int v10)]) hx hb dX5_spreadLake_70 hl (by decide) rfl (fun ls hl => ?_)
        refine lv_iload hx hb dX5_spreadLake_72 (lv_at hl 0 rfl) ?_
        refine lv_if_eq (tgt := 142) hx hb dX5_spreadLake_74 (by decide) (fun hc => ?_) (fun hc => ?_)
        · have h := sr_ifp h hc
          refine lv_iinc (v := (v6 + 1)) (lv' := [(3, .int (v6 + 1)), (6, .int v13), (0, .ref (ad 0)), (1, .int a1), (2, .int v5), (4, .int v9), (5, .int v10)]) hx hb dX5_spreadLake_142 hl (k := 4) rfl rfl (by decide) rfl (fun ls hl => ?_)
          refine lv_goto (tgt := 10) hx hb dX5_spreadLake_145 (by decide) ?_
          exact hi4 (v5, (v6 + 1), M7) (Option.some.inj h).symm _ _ _ hw (lv_sub hl [2, 3, 4, 0] rfl)
        · have h := sr_ifn h hc
          refine lv_aload_n hx hb dX5_spreadLake_77 rfl (lv_at hl 1 rfl) ?_
          refine sr_getr hx hb hts qzX5 hown hw (yf_0_24 t ad) (hts _ qfX5_67) dX5_spreadLake_78 ?_
          refine lv_iload hx hb dX5_spreadLake_81 (lv_at hl 5 rfl) ?_
          refine sr_iald hx hb hw (ya_19 t ad) h dX5_spreadLake_83 (fun v14 h => ?_)
          refine lv_aload_n hx hb dX5_spreadLake_84 rfl (lv_at hl 1 rfl) ?_
          refine sr_geti hx hb hts qzX5 hown hw (yf_0_25 t ad) (hts _ qfX5_179) h dX5_spreadLake_85 (fun v15 h => ?_)
          refine sr_jn_rule (fun (K16 : Int32 → Option ((Int32 × Int32 × sr_M) ⊕ (Int32 × sr_M))) => ∀ (v17 : Int32), K16 v17 = some y4 → ∀ (H : Heap) (locs : List Loc) (ls : Array Slot), yH D t ad A s M7 H locs → lv_has ls 7 [(0, .ref (ad 0)), (1, .int a1), (2, .int v5), (3, .int v6), (4, .int v9), (5, .int v10)] → W p l e ({ frames := 0, cells := 0, slots := 0, locals := 0 }) s m args below meth c H locs 0 0 Q (F0 m 96 ls [.int v17])) h ?_ (fun K16 hK16 h => ?_)
          · intro v17 h H locs ls hw hl
            refine lv_aload_n hx hb dX5_spreadLake_96 rfl (lv_at hl 0 rfl) ?_
            refine sr_getr hx hb hts qzX5 hown hw (yf_0_24 t ad) (hts _ qfX5_67) dX5_spreadLake_97 ?_
            refine lv_iload hx hb dX5_spreadLake_100 (lv_at hl 5 rfl) ?_
            refine sr_iald hx hb hw (ya_19 t ad) h dX5_spreadLake_102 (fun v18 h => ?_)
            refine lv_aload_n hx hb dX5_spreadLake_103 rfl (lv_at hl 0 rfl) ?_
            refine sr_geti hx hb hts qzX5 hown hw (yf_0_25 t ad) (hts _ qfX5_179) h dX5_spreadLake_104 (fun v19 h => ?_)
            refine sr_jn_rule (fun (K20 : Int32 → Option ((Int32 × Int32 × sr_M) ⊕ (Int32 × sr_M))) => ∀ (v21 : Int32), K20 v21 = some y4 → ∀ (H : Heap) (locs : List Loc) (ls : Array Slot), yH D t ad A s M7 H locs → lv_has ls 7 [(0, .ref (ad 0)), (1, .int a1), (2, .int v5), (3, .int v6), (4, .int v9), (5, .int v10)] → W p l e ({ frames := 0, cells := 0, slots := 0, locals := 0 }) s m args below meth c H locs 0 0 Q (F0 m 115 ls [.int v21, .int v17])) h ?_ (fun K20 hK20 h => ?_)
            · intro v21 h H locs ls hw hl
              refine lv_icmp_eq (tgt := 142) hx hb dX5_spreadLake_115 (by decide) (fun hc => ?_) (fun hc => ?_)
              · have h := sr_ifp h hc
                refine lv_iinc (v := (v6 + 1)) (lv' := [(3, .int (v6 + 1)), (0, .ref (ad 0)), (1, .int a1), (2, .int v5), (4, .int v9), (5, .int v10)]) hx hb dX5_spreadLake_142 hl (k := 3) rfl rfl (by decide) rfl (fun ls hl => ?_)
                refine lv_goto (tgt := 10) hx hb dX5_spreadLake_145 (by decide) ?_
                exact hi4 (v5, (v6 + 1), M7) (Option.some.inj h).symm _ _ _ hw (lv_sub hl [1, 2, 3, 0] rfl)
              · have h := sr_ifn h hc
                refine lv_aload_n hx hb dX5_spreadLake_118 rfl (lv_at hl 0 rfl) ?_
                refine sr_getr hx hb hts qzX5 hown hw (yf_0_24 t ad) (hts _ qfX5_67) dX5_spreadLake_119 ?_
                refine lv_iload hx hb dX5_spreadLake_122 (lv_at hl 4 rfl) ?_
                refine lv_aload_n hx hb dX5_spreadLake_124 rfl (lv_at hl 0 rfl) ?_
                refine sr_geti hx hb hts qzX5 hown hw (yf_0_25 t ad) (hts _ qfX5_179) h dX5_spreadLake_125 (fun v22 h => ?_)
                refine sr_iast hx hb hw (ya_19 t ad) h dX5_spreadLake_128 (fun M23 H locs h hw => ?_)
                refine lv_aload_n hx hb dX5_spreadLake_129 rfl (lv_at hl 0 rfl) ?_
                refine sr_getr hx hb hts qzX5 hown hw (yf_0_24 t ad) (hts _ qfX5_67) dX5_spreadLake_130 ?_
                refine lv_iload hx hb dX5_spreadLake_133 (lv_at hl 5 rfl) ?_
                refine lv_aload_n hx hb dX5_spreadLake_135 rfl (lv_at hl 0 rfl) ?_
                refine sr_geti hx hb hts qzX5 hown hw (yf_0_25 t ad) (hts _ qfX5_179) h dX5_spreadLake_136 (fun v24 h => ?_)
                refine sr_iast hx hb hw (ya_19 t ad) h dX5_spreadLake_139 (fun M25 H locs h hw => ?_)
                refine lv_iconst (v := 1) hx hb dX5_spreadLake_140 (by decide) ?_
                refine lv_istore_n (lv' := [(2, .int 1), (0, .ref (ad 0)), (1, .int a1), (3, .int v6), (4, .int v9), (5, .int v10)]) hx hb dX5_spreadLake_141 rfl hl (by decide) rfl (fun ls hl => ?_)
                refine lv_iinc (v := (v6 + 1)) (lv' := [(3, .int (v6 + 1)), (2, .int 1), (0, .ref (ad 0)), (1, .int a1), (4, .int v9), (5, .int v10)]) hx hb dX5_spreadLake_142 hl (k := 3) rfl rfl (by decide) rfl (fun ls hl => ?_)
                refine lv_goto (tgt := 10) hx hb dX5_spreadLake_145 (by decide) ?_
                exact hi4 (1, (v6 + 1), M25) (Option.some.inj h).symm _ _ _ hw (lv_sub hl [2, 3, 1, 0] rfl)
            · refine lv_icmp_ne (tgt := 114) hx hb dX5_spreadLake_107 (by decide) (fun hc => ?_) (fun hc => ?_)
              · have h := sr_ifn h hc
                refine lv_iconst (v := 0) hx hb dX5_spreadLake_114 (by decide) ?_
                exact hK20 0 h _ _ _ hw (lv_sub hl [0, 1, 2, 3, 4, 5] rfl)
              · have h := sr_ifp h hc
                refine lv_iconst (v := 1) hx hb dX5_spreadLake_110 (by decide) ?_
                refine lv_goto (tgt := 115) hx hb dX5_spreadLake_111 (by decide) ?_
                exact hK20 1 h _ _ _ hw (lv_sub hl [0, 1, 2, 3, 4, 5] rfl)
          · refine lv_icmp_ne (tgt := 95) hx hb dX5_spreadLake_88 (by decide) (fun hc => ?_) (fun hc => ?_)
            · have h := sr_ifn h hc
              refine lv_iconst (v := 0) hx hb dX5_spreadLake_95 (by decide) ?_
              exact hK16 0 h _ _ _ hw (lv_sub hl [1, 2, 3, 4, 5, 6] rfl)
            · have h := sr_ifp h hc
              refine lv_iconst (v := 1) hx hb dX5_spreadLake_91 (by decide) ?_
              refine lv_goto (tgt := 96) hx hb dX5_spreadLake_92 (by decide) ?_
              exact hK16 1 h _ _ _ hw (lv_sub hl [1, 2, 3, 4, 5, 6] rfl)
      · refine sr_jn_rule (fun (K26 : Option ((Int32 × Int32 × sr_M) ⊕ (Int32 × sr_M))) => K26 = some y4 → ∀ (H : Heap) (locs : List Loc) (ls : Array Slot), yH D t ad A s M7 H locs → lv_has ls 7 [(0, .ref (ad 0)), (1, .int a1), (2, .int v5), (3, .int v6), (4, .int v9), (5, .int v10)] → W p l e ({ frames := 0, cells := 0, slots := 0, locals := 0 }) s m args below meth c H locs 0 0 Q (F0 m 69 ls [])) h ?_ (fun K26 hK26 h => ?_)
        · intro  h H locs ls hw hl
          refine lv_iconst (v := 0) hx hb dX5_spreadLake_69 (by decide) ?_
          exact hK12 0 h _ _ _ hw (lv_sub hl [0, 1, 2, 3, 4, 5] rfl)
        · refine lv_if_ne (tgt := 69) hx hb dX5_spreadLake_40 (by decide) (fun hc => ?_) (fun hc => ?_)
          · have h := sr_ifn h hc
            exact hK26  h _ _ _ hw (lv_sub hl [2, 3, 4, 5, 1, 0] rfl)
          · have h := sr_ifp h hc
            refine lv_aload_n hx hb dX5_spreadLake_43 rfl (lv_at hl 2 rfl) ?_
            refine sr_getr hx hb hts qzX5 hown hw (yf_0_18 t ad) (hts _ qfX5_52) dX5_spreadLake_44 ?_
            refine lv_iload hx hb dX5_spreadLake_47 (lv_at hl 1 rfl) ?_
            refine sr_iald hx hb hw (ya_14 t ad) h dX5_spreadLake_49 (fun v27 h => ?_)
            refine lv_iload_n hx hb dX5_spreadLake_50 rfl (lv_at hl 3 rfl) ?_
            refine lv_icmp_ne (tgt := 69) hx hb dX5_spreadLake_51 (by decide) (fun hc => ?_) (fun hc => ?_)
            · have h := sr_ifn h hc
              exact hK26  h _ _ _ hw (lv_sub hl [2, 3, 4, 5, 1, 0] rfl)
            · have h := sr_ifp h hc
              refine lv_aload_n hx hb dX5_spreadLake_54 rfl (lv_at hl 2 rfl) ?_
              refine sr_getr hx hb hts qzX5 hown hw (yf_0_18 t ad) (hts _ qfX5_52) dX5_spreadLake_55 ?_
              refine lv_iload hx hb dX5_spreadLake_58 (lv_at hl 0 rfl) ?_
              refine sr_iald hx hb hw (ya_14 t ad) h dX5_spreadLake_60 (fun v28 h => ?_)
              refine lv_iload_n hx hb dX5_spreadLake_61 rfl (lv_at hl 3 rfl) ?_
              refine lv_icmp_ne (tgt := 69) hx hb dX5_spreadLake_62 (by decide) (fun hc => ?_) (fun hc => ?_)
              · have h := sr_ifn h hc
                exact hK26  h _ _ _ hw (lv_sub hl [2, 3, 4, 5, 1, 0] rfl)
              · have h := sr_ifp h hc
                refine lv_iconst (v := 1) hx hb dX5_spreadLake_65 (by decide) ?_
                refine lv_goto (tgt := 70) hx hb dX5_spreadLake_66 (by decide) ?_
                exact hK12 1 h _ _ _ hw (lv_sub hl [2, 3, 4, 5, 1, 0] rfl)

noncomputable def f5_tellLakes_L7 (v3 : Int32) (M4 : sr_M) : Option ((Int32 × sr_M) ⊕ (sr_M)) :=
sr_bnd (M4.1 0 0) fun v5 =>
if v5 ≤ v3 then
(some (.inr M4))
else
(sr_st v3 120 M4 19 (-1) fun M6 =>
some (.inl ((v3 + 1), M6)))
noncomputable def f5_tellLakes_L40 (v9 : Int32) (v13 : Int32) (M14 : sr_M) : Option ((Int32 × sr_M) ⊕ (sr_M)) :=
sr_bnd (M14.1 0 0) fun v15 =>
if v15 ≤ v13 then
(some (.inr M14))
else
(sr_ld v13 120 (M14.1 14) fun v16 =>
if v16 = v9 then
(sr_ld v13 120 (M14.1 19) fun v17 =>
if 0 ≤ v17 then
(some (.inl ((v13 + 1), M14)))
else
(sr_bnd (M14.1 0 25) fun v18 =>
sr_st v13 120 M14 19 v18 fun M19 =>
(f5_spreadLake v9 M19).bind fun M20 =>
sr_bnd (M20.1 0 25) fun v21 =>
sr_put M20 0 25 (v21 + 1) fun M22 =>
some (.inl ((v13 + 1), M22))))
else
(some (.inl ((v13 + 1), M14))))
noncomputable def f5_tellLakes_L30 (v9 : Int32) (M10 : sr_M) : Option ((Int32 × sr_M) ⊕ (sr_M)) :=
sr_bnd (M10.1 0 14) fun v11 =>
if v11 < v9 then
(some (.inr M10))
else
((sr_lp (fun z12 : Int32 × sr_M => f5_tellLakes_L40 v9 z12.1 z12.2) (0, M10)).bind fun w12 =>
some (.inl ((v9 + 1), w12)))
noncomputable def f5_tellLakes (M : sr_M) : Option (sr_M) :=
sr_put M 0 25 0 fun M1 =>
(sr_lp (fun z2 : Int32 × sr_M => f5_tellLakes_L7 z2.1 z2.2) (0, M1)).bind fun w2 =>
(sr_lp (fun z8 : Int32 × sr_M => f5_tellLakes_L30 z8.1 z8.2) (0, w2)).bind fun w8 =>
some w8
set_option maxHeartbeats 4000000 in
set_option maxRecDepth 100000 in
theorem k5_tellLakes (l : Launch) (D : va_G) (t : Nat → ClassId) (ad : Nat → Nat) (M : sr_M) (M' : sr_M) (h : f5_tellLakes M = some M') : sr_Mv l D vwCl (yty t) ad (ycf t ad) 26 yX5_tellLakes (.code yX5_tellLakes cX5_tellLakes 3 (none) :: sr_tbl) ({ frames := 1, cells := 0, slots := 0, locals := 26 }) [.ref (ad 0)] M M' := by
  refine sr_open_v (cc := cX5_tellLakes) (maxL := 3) (by decide) rfl (Nat.le_of_ble_eq_true rfl) ?_
  intro p e s m args below meth c A Q ls hx hb hml hts0 hown hA hw hl ret
  have hts : ∀ w ∈ sr_tbl, w.before args s = true := fun w hw => hts0 w (List.mem_cons_of_mem _ hw)
  have hown : s.vm.findClass RX5 = some m.cls := hown
  have hl : lv_has ls 3 [(0, .ref (ad 0))] := hl
  have hw : yH D t ad A s M s.heap [] := hw
  unfold f5_tellLakes at h
  refine lv_aload_n hx hb dX5_tellLakes_0 rfl (lv_at hl 0 rfl) ?_
  refine lv_iconst (v := 0) hx hb dX5_tellLakes_1 (by decide) ?_
  refine sr_puti hx hb hts qzX5 tyX5 tyX5_ok nmX5 hown hw (yf_0_25 t ad) rfl rfl (hts _ qfX5_179) h dX5_tellLakes_2 (fun M1 H locs h hw => ?_)
  refine lv_iconst (v := 0) hx hb dX5_tellLakes_5 (by decide) ?_
  refine lv_istore_n (lv' := [(1, .int 0), (0, .ref (ad 0))]) hx hb dX5_tellLakes_6 rfl hl (by decide) rfl (fun ls hl => ?_)
  obtain ⟨x2, hlp, hE2⟩ := sr_bind h
  have hX2 : ∀ (M7 : sr_M), M7 = x2 → ∀ (H : Heap) (locs : List Loc) (ls : Array Slot), yH D t ad A s M7 H locs → lv_has ls 3 [(0, .ref (ad 0))] → W p l e ({ frames := 1, cells := 0, slots := 0, locals := 26 }) s m args below meth c H locs 0 0 Q (F0 m 28 ls []) := by
    intro M7 ex H locs ls hw hl
    have h := hE2 _ ex
    try dsimp only at h
    refine lv_iconst (v := 0) hx hb dX5_tellLakes_28 (by decide) ?_
    refine lv_istore_n (lv' := [(1, .int 0), (0, .ref (ad 0))]) hx hb dX5_tellLakes_29 rfl hl (by decide) rfl (fun ls hl => ?_)
    obtain ⟨x8, hlp, hE8⟩ := sr_bind h
    have hX8 : ∀ (M24 : sr_M), M24 = x8 → ∀ (H : Heap) (locs : List Loc) (ls : Array Slot), yH D t ad A s M24 H locs → lv_has ls 3 [] → W p l e ({ frames := 1, cells := 0, slots := 0, locals := 26 }) s m args below meth c H locs 0 0 Q (F0 m 104 ls []) := by
      intro M24 ex H locs ls hw hl
      have h := hE8 _ ex
      try dsimp only at h
      obtain rfl := Option.some.inj h
      exact ret _ _ _ _ hw dX5_tellLakes_104
    refine sr_lp_rule (fun (z8 : Int32 × sr_M) => ∀ (H : Heap) (locs : List Loc) (ls : Array Slot), yH D t ad A s z8.2 H locs → lv_has ls 3 [(0, .ref (ad 0)), (1, .int z8.1)] → W p l e ({ frames := 1, cells := 0, slots := 0, locals := 26 }) s m args below meth c H locs 0 0 Q (F0 m 30 ls [])) ?_ hlp _ _ _ hw (lv_sub hl [1, 0] rfl)
    rintro ⟨v9, M10⟩ y8 h hi8 he8 H locs ls hw hl
    have h : f5_tellLakes_L30 v9 M10 = some y8 := h
    have hw : yH D t ad A s M10 H locs := hw
    have hl : lv_has ls 3 [(0, .ref (ad 0)), (1, .int v9)] := hl
    unfold f5_tellLakes_L30 at h
    refine lv_iload_n hx hb dX5_tellLakes_30 rfl (lv_at hl 1 rfl) ?_
    refine lv_aload_n hx hb dX5_tellLakes_31 rfl (lv_at hl 0 rfl) ?_
    refine sr_geti hx hb hts qzX5 hown hw (yf_0_14 t ad) (hts _ qfX5_152) h dX5_tellLakes_32 (fun v11 h => ?_)
    refine lv_icmp_gt (tgt := 104) hx hb dX5_tellLakes_35 (by decide) (fun hc => ?_) (fun hc => ?_)
    · have h := sr_ifp h hc
      exact hX8  M10 (he8 _ (Option.some.inj h).symm) _ _ _ hw (lv_sub hl [] rfl)
    · have h := sr_ifn h hc
      refine lv_iconst (v := 0) hx hb dX5_tellLakes_38 (by decide) ?_
      refine lv_istore_n (lv' := [(2, .int 0), (0, .ref (ad 0)), (1, .int v9)]) hx hb dX5_tellLakes_39 rfl hl (by decide) rfl (fun ls hl => ?_)
      obtain ⟨x12, hlp, hE12⟩ := sr_bind h
      have hX12 : ∀ (M23 : sr_M), M23 = x12 → ∀ (H : Heap) (locs : List Loc) (ls : Array Slot), yH D t ad A s M23 H locs → lv_has ls 3 [(0, .ref (ad 0)), (1, .int v9)] → W p l e ({ frames := 1, cells := 0, slots := 0, locals := 26 }) s m args below meth c H locs 0 0 Q (F0 m 98 ls []) := by
        intro M23 ex H locs ls hw hl
        have h := hE12 _ ex
        try dsimp only at h
        refine lv_iinc (v := (v9 + 1)) (lv' := [(1, .int (v9 + 1)), (0, .ref (ad 0))]) hx hb dX5_tellLakes_98 hl (k := 1) rfl rfl (by decide) rfl (fun ls hl => ?_)
        refine lv_goto (tgt := 30) hx hb dX5_tellLakes_101 (by decide) ?_
        exact hi8 ((v9 + 1), M23) (Option.some.inj h).symm _ _ _ hw (lv_sub hl [1, 0] rfl)
      refine sr_lp_rule (fun (z12 : Int32 × sr_M) => ∀ (H : Heap) (locs : List Loc) (ls : Array Slot), yH D t ad A s z12.2 H locs → lv_has ls 3 [(0, .ref (ad 0)), (1, .int v9), (2, .int z12.1)] → W p l e ({ frames := 1, cells := 0, slots := 0, locals := 26 }) s m args below meth c H locs 0 0 Q (F0 m 40 ls [])) ?_ hlp _ _ _ hw (lv_sub hl [1, 2, 0] rfl)
      rintro ⟨v13, M14⟩ y12 h hi12 he12 H locs ls hw hl
      have h : f5_tellLakes_L40 v9 v13 M14 = some y12 := h
      have hw : yH D t ad A s M14 H locs := hw
      have hl : lv_has ls 3 [(0, .ref (ad 0)), (1, .int v9), (2, .int v13)] := hl
      unfold f5_tellLakes_L40 at h
      refine lv_iload_n hx hb dX5_tellLakes_40 rfl (lv_at hl 2 rfl) ?_
      refine lv_aload_n hx hb dX5_tellLakes_41 rfl (lv_at hl 0 rfl) ?_
      refine sr_geti hx hb hts qzX5 hown hw (yf_0_0 t ad) (hts _ qfX5_88) h dX5_tellLakes_42 (fun v15 h => ?_)
      refine lv_icmp_ge (tgt := 98) hx hb dX5_tellLakes_45 (by decide) (fun hc => ?_) (fun hc => ?_)
      · have h := sr_ifp h hc
        exact hX12  M14 (he12 _ (Option.some.inj h).symm) _ _ _ hw (lv_sub hl [0, 1] rfl)
      · have h := sr_ifn h hc
        refine lv_aload_n hx hb dX5_tellLakes_48 rfl (lv_at hl 0 rfl) ?_
        refine sr_getr hx hb hts qzX5 hown hw (yf_0_18 t ad) (hts _ qfX5_52) dX5_tellLakes_49 ?_
        refine lv_iload_n hx hb dX5_tellLakes_52 rfl (lv_at hl 2 rfl) ?_
        refine sr_iald hx hb hw (ya_14 t ad) h dX5_tellLakes_53 (fun v16 h => ?_)
        refine lv_iload_n hx hb dX5_tellLakes_54 rfl (lv_at hl 1 rfl) ?_
        refine lv_icmp_ne (tgt := 92) hx hb dX5_tellLakes_55 (by decide) (fun hc => ?_) (fun hc => ?_)
        · have h := sr_ifn h hc
          refine lv_iinc (v := (v13 + 1)) (lv' := [(2, .int (v13 + 1)), (0, .ref (ad 0)), (1, .int v9)]) hx hb dX5_tellLakes_92 hl (k := 2) rfl rfl (by decide) rfl (fun ls hl => ?_)
          refine lv_goto (tgt := 40) hx hb dX5_tellLakes_95 (by decide) ?_
          exact hi12 ((v13 + 1), M14) (Option.some.inj h).symm _ _ _ hw (lv_sub hl [1, 2, 0] rfl)
        · have h := sr_ifp h hc
          refine lv_aload_n hx hb dX5_tellLakes_58 rfl (lv_at hl 0 rfl) ?_
          refine sr_getr hx hb hts qzX5 hown hw (yf_0_24 t ad) (hts _ qfX5_67) dX5_tellLakes_59 ?_
          refine lv_iload_n hx hb dX5_tellLakes_62 rfl (lv_at hl 2 rfl) ?_
          refine sr_iald hx hb hw (ya_19 t ad) h dX5_tellLakes_63 (fun v17 h => ?_)
          refine lv_if_ge (tgt := 92) hx hb dX5_tellLakes_64 (by decide) (fun hc => ?_) (fun hc => ?_)
          · have h := sr_ifp h hc
            refine lv_iinc (v := (v13 + 1)) (lv' := [(2, .int (v13 + 1)), (0, .ref (ad 0)), (1, .int v9)]) hx hb dX5_tellLakes_92 hl (k := 2) rfl rfl (by decide) rfl (fun ls hl => ?_)
            refine lv_goto (tgt := 40) hx hb dX5_tellLakes_95 (by decide) ?_
            exact hi12 ((v13 + 1), M14) (Option.some.inj h).symm _ _ _ hw (lv_sub hl [1, 2, 0] rfl)
          · have h := sr_ifn h hc
            refine lv_aload_n hx hb dX5_tellLakes_67 rfl (lv_at hl 0 rfl) ?_
            refine sr_getr hx hb hts qzX5 hown hw (yf_0_24 t ad) (hts _ qfX5_67) dX5_tellLakes_68 ?_
            refine lv_iload_n hx hb dX5_tellLakes_71 rfl (lv_at hl 2 rfl) ?_
            refine lv_aload_n hx hb dX5_tellLakes_72 rfl (lv_at hl 0 rfl) ?_
            refine sr_geti hx hb hts qzX5 hown hw (yf_0_25 t ad) (hts _ qfX5_179) h dX5_tellLakes_73 (fun v18 h => ?_)
            refine sr_iast hx hb hw (ya_19 t ad) h dX5_tellLakes_76 (fun M19 H locs h hw => ?_)
            refine lv_aload_n hx hb dX5_tellLakes_77 rfl (lv_at hl 0 rfl) ?_
            refine lv_iload_n hx hb dX5_tellLakes_78 rfl (lv_at hl 1 rfl) ?_
            obtain ⟨M20, hc, h⟩ := sr_bind1 h
            refine sr_cVv (As := [.int v9]) (rest := []) ⟨hx, hb, hml, hown, hts⟩ (k5_spreadLake l D t ad v9 M19 _ hc) (cwV 1 hts (sr_goodV qmX5_182 qiX5_spreadLake qsX5_spreadLake qnX5 qcX5_spreadLake) rfl rfl rfl qdX5_spreadLake ⟨Nat.le_of_ble_eq_true rfl, Nat.le_of_ble_eq_true rfl⟩) hw hA (yo_0 t ad) rfl hl.1 rfl (Nat.le_of_ble_eq_true rfl) dX5_tellLakes_79 (fun H locs hw => ?_)
            refine lv_aload_n hx hb dX5_tellLakes_82 rfl (lv_at hl 0 rfl) ?_
            refine lv_dup hx hb dX5_tellLakes_83 rfl ?_
            refine sr_geti hx hb hts qzX5 hown hw (yf_0_25 t ad) (hts _ qfX5_179) h dX5_tellLakes_84 (fun v21 h => ?_)
            refine lv_iconst (v := 1) hx hb dX5_tellLakes_87 (by decide) ?_
            refine lv_iadd hx hb dX5_tellLakes_88 ?_
            refine sr_puti hx hb hts qzX5 tyX5 tyX5_ok nmX5 hown hw (yf_0_25 t ad) rfl rfl (hts _ qfX5_179) h dX5_tellLakes_89 (fun M22 H locs h hw => ?_)
            refine lv_iinc (v := (v13 + 1)) (lv' := [(2, .int (v13 + 1)), (0, .ref (ad 0)), (1, .int v9)]) hx hb dX5_tellLakes_92 hl (k := 2) rfl rfl (by decide) rfl (fun ls hl => ?_)
            refine lv_goto (tgt := 40) hx hb dX5_tellLakes_95 (by decide) ?_
            exact hi12 ((v13 + 1), M22) (Option.some.inj h).symm _ _ _ hw (lv_sub hl [1, 2, 0] rfl)
  refine sr_lp_rule (fun (z2 : Int32 × sr_M) => ∀ (H : Heap) (locs : List Loc) (ls : Array Slot), yH D t ad A s z2.2 H locs → lv_has ls 3 [(0, .ref (ad 0)), (1, .int z2.1)] → W p l e ({ frames := 1, cells := 0, slots := 0, locals := 26 }) s m args below meth c H locs 0 0 Q (F0 m 7 ls [])) ?_ hlp _ _ _ hw (lv_sub hl [1, 0] rfl)
  rintro ⟨v3, M4⟩ y2 h hi2 he2 H locs ls hw hl
  have h : f5_tellLakes_L7 v3 M4 = some y2 := h
  have hw : yH D t ad A s M4 H locs := hw
  have hl : lv_has ls 3 [(0, .ref (ad 0)), (1, .int v3)] := hl
  unfold f5_tellLakes_L7 at h
  refine lv_iload_n hx hb dX5_tellLakes_7 rfl (lv_at hl 1 rfl) ?_
  refine lv_aload_n hx hb dX5_tellLakes_8 rfl (lv_at hl 0 rfl) ?_
  refine sr_geti hx hb hts qzX5 hown hw (yf_0_0 t ad) (hts _ qfX5_88) h dX5_tellLakes_9 (fun v5 h => ?_)
  refine lv_icmp_ge (tgt := 28) hx hb dX5_tellLakes_12 (by decide) (fun hc => ?_) (fun hc => ?_)
  · have h := sr_ifp h hc
    exact hX2  M4 (he2 _ (Option.some.inj h).symm) _ _ _ hw (lv_sub hl [0] rfl)
  · have h := sr_ifn h hc
    refine lv_aload_n hx hb dX5_tellLakes_15 rfl (lv_at hl 0 rfl) ?_
    refine sr_getr hx hb hts qzX5 hown hw (yf_0_24 t ad) (hts _ qfX5_67) dX5_tellLakes_16 ?_
    refine lv_iload_n hx hb dX5_tellLakes_19 rfl (lv_at hl 1 rfl) ?_
    refine lv_iconst (v := (-1)) hx hb dX5_tellLakes_20 (by decide) ?_
    refine sr_iast hx hb hw (ya_19 t ad) h dX5_tellLakes_21 (fun M6 H locs h hw => ?_)
    refine lv_iinc (v := (v3 + 1)) (lv' := [(1, .int (v3 + 1)), (0, .ref (ad 0))]) hx hb dX5_tellLakes_22 hl (k := 1) rfl rfl (by decide) rfl (fun ls hl => ?_)
    refine lv_goto (tgt := 7) hx hb dX5_tellLakes_25 (by decide) ?_
    exact hi2 ((v3 + 1), M6) (Option.some.inj h).symm _ _ _ hw (lv_sub hl [1, 0] rfl)

noncomputable def f5_many_L101 (M : sr_M) (v7 : Int32) (v8 : Int32) : Option ((Int32 × Int32) ⊕ (Int32)) :=
sr_bnd (M.1 0 3) fun v9 =>
if v9 ≤ v8 then
(some (.inr v7))
else
((f5_isCandidate v8 M).bind fun v10 =>
if v10 = 0 then
(some (.inl ((v7 + 0), (v8 + 1))))
else
(some (.inl ((v7 + 1), (v8 + 1)))))
noncomputable def f5_many (a1 : Int32) (M : sr_M) : Option (Int32 × sr_M) :=
if a1 < 0 then
(some ((-1), M))
else
(if a1 ≤ 8 then
(sr_jn (if a1 = 0 then
(sr_bnd (M.1 0 0) fun v4 =>
some (v4, M))
else
(if a1 = 1 then
(sr_bnd (M.1 0 3) fun v3 =>
some (v3, M))
else
(sr_bnd (M.1 0 19) fun v2 =>
some (v2, M)))) fun (K1 : Option (Int32 × sr_M)) =>
if a1 ≤ 1 then
(K1)
else
(if a1 = 8 then
(K1)
else
(sr_bnd (M.1 0 13) fun v5 =>
if v5 = 0 then
(some ((-6), M))
else
(if a1 = 2 then
(sr_bnd (M.1 0 14) fun v15 =>
some (v15, M))
else
(if 5 < a1 then
(if a1 = 6 then
((f5_tellLakes M).bind fun M12 =>
sr_bnd (M12.1 0 25) fun v13 =>
some (v13, M12))
else
((sr_lp (fun z6 : Int32 × Int32 => f5_many_L101 M z6.1 z6.2) (0, 0)).bind fun w6 =>
some (w6, M)))
else
((f5_countPores a1 M).bind fun v14 =>
some (v14, M)))))))
else
(some ((-1), M)))
set_option maxHeartbeats 4000000 in
set_option maxRecDepth 100000 in
theorem k5_many (l : Launch) (D : va_G) (t : Nat → ClassId) (ad : Nat → Nat) (a1 : Int32) (M : sr_M) (r : Int32) (M' : sr_M) (h : f5_many a1 M = some (r, M')) : sr_Mi l D vwCl (yty t) ad (ycf t ad) 26 yX5_many (.code yX5_many cX5_many 4 (some .int) :: sr_tbl) ({ frames := 3, cells := 0, slots := 0, locals := 64 }) [.ref (ad 0), .int a1] M r M' := by
  refine sr_open_i (cc := cX5_many) (maxL := 4) (by decide) rfl (Nat.le_of_ble_eq_true rfl) ?_
  intro p e s m args below meth c A Q ls hx hb hml hts0 hown hA hw hl ret
  have hts : ∀ w ∈ sr_tbl, w.before args s = true := fun w hw => hts0 w (List.mem_cons_of_mem _ hw)
  have hown : s.vm.findClass RX5 = some m.cls := hown
  have hl : lv_has ls 4 [(0, .ref (ad 0)), (1, .int a1)] := hl
  have hw : yH D t ad A s M s.heap [] := hw
  unfold f5_many at h
  refine lv_iload_n hx hb dX5_many_0 rfl (lv_at hl 1 rfl) ?_
  refine lv_if_lt (tgt := 10) hx hb dX5_many_1 (by decide) (fun hc => ?_) (fun hc => ?_)
  · have h := sr_ifp h hc
    refine lv_iconst (v := (-1)) hx hb dX5_many_10 (by decide) ?_
    obtain ⟨rfl, rfl⟩ := Prod.mk.inj (Option.some.inj h)
    exact ret _ _ _ _ hw rfl dX5_many_11
  · have h := sr_ifn h hc
    refine lv_iload_n hx hb dX5_many_4 rfl (lv_at hl 1 rfl) ?_
    refine lv_bipush (v := 8) hx hb dX5_many_5 (by decide) ?_
    refine lv_icmp_le (tgt := 12) hx hb dX5_many_7 (by decide) (fun hc => ?_) (fun hc => ?_)
    · have h := sr_ifp h hc
      refine lv_iload_n hx hb dX5_many_12 rfl (lv_at hl 1 rfl) ?_
      refine lv_iconst (v := 1) hx hb dX5_many_13 (by decide) ?_
      refine sr_jn_rule (fun (K1 : Option (Int32 × sr_M)) => K1 = some (r, M') → ∀ (H : Heap) (locs : List Loc) (ls : Array Slot), yH D t ad A s M H locs → lv_has ls 4 [(0, .ref (ad 0)), (1, .int a1)] → W p l e ({ frames := 3, cells := 0, slots := 0, locals := 64 }) s m args below meth c H locs 0 0 Q (F0 m 23 ls [])) h ?_ (fun K1 hK1 h => ?_)
      · intro  h H locs ls hw hl
        refine lv_iload_n hx hb dX5_many_23 rfl (lv_at hl 1 rfl) ?_
        refine lv_if_ne (tgt := 34) hx hb dX5_many_24 (by decide) (fun hc => ?_) (fun hc => ?_)
        · have h := sr_ifn h hc
          refine lv_iload_n hx hb dX5_many_34 rfl (lv_at hl 1 rfl) ?_
          refine lv_iconst (v := 1) hx hb dX5_many_35 (by decide) ?_
          refine lv_icmp_ne (tgt := 46) hx hb dX5_many_36 (by decide) (fun hc => ?_) (fun hc => ?_)
          · have h := sr_ifn h hc
            refine lv_aload_n hx hb dX5_many_46 rfl (lv_at hl 0 rfl) ?_
            refine sr_geti hx hb hts qzX5 hown hw (yf_0_19 t ad) (hts _ qfX5_185) h dX5_many_47 (fun v2 h => ?_)
            obtain ⟨rfl, rfl⟩ := Prod.mk.inj (Option.some.inj h)
            exact ret _ _ _ _ hw rfl dX5_many_50
          · have h := sr_ifp h hc
            refine lv_aload_n hx hb dX5_many_39 rfl (lv_at hl 0 rfl) ?_
            refine sr_geti hx hb hts qzX5 hown hw (yf_0_3 t ad) (hts _ qfX5_92) h dX5_many_40 (fun v3 h => ?_)
            refine lv_goto (tgt := 50) hx hb dX5_many_43 (by decide) ?_
            obtain ⟨rfl, rfl⟩ := Prod.mk.inj (Option.some.inj h)
            exact ret _ _ _ _ hw rfl dX5_many_50
        · have h := sr_ifp h hc
          refine lv_aload_n hx hb dX5_many_27 rfl (lv_at hl 0 rfl) ?_
          refine sr_geti hx hb hts qzX5 hown hw (yf_0_0 t ad) (hts _ qfX5_88) h dX5_many_28 (fun v4 h => ?_)
          refine lv_goto (tgt := 50) hx hb dX5_many_31 (by decide) ?_
          obtain ⟨rfl, rfl⟩ := Prod.mk.inj (Option.some.inj h)
          exact ret _ _ _ _ hw rfl dX5_many_50
      · refine lv_icmp_le (tgt := 23) hx hb dX5_many_14 (by decide) (fun hc => ?_) (fun hc => ?_)
        · have h := sr_ifp h hc
          exact hK1  h _ _ _ hw (lv_sub hl [0, 1] rfl)
        · have h := sr_ifn h hc
          refine lv_iload_n hx hb dX5_many_17 rfl (lv_at hl 1 rfl) ?_
          refine lv_bipush (v := 8) hx hb dX5_many_18 (by decide) ?_
          refine lv_icmp_ne (tgt := 51) hx hb dX5_many_20 (by decide) (fun hc => ?_) (fun hc => ?_)
          · have h := sr_ifn h hc
            refine lv_aload_n hx hb dX5_many_51 rfl (lv_at hl 0 rfl) ?_
            refine sr_geti hx hb hts qzX5 hown hw (yf_0_13 t ad) (hts _ qfX5_95) h dX5_many_52 (fun v5 h => ?_)
            refine lv_if_ne (tgt := 61) hx hb dX5_many_55 (by decide) (fun hc => ?_) (fun hc => ?_)
            · have h := sr_ifn h hc
              refine lv_iload_n hx hb dX5_many_61 rfl (lv_at hl 1 rfl) ?_
              refine lv_iconst (v := 2) hx hb dX5_many_62 (by decide) ?_
              refine lv_icmp_ne (tgt := 71) hx hb dX5_many_63 (by decide) (fun hc => ?_) (fun hc => ?_)
              · have h := sr_ifn h hc
                refine lv_iload_n hx hb dX5_many_71 rfl (lv_at hl 1 rfl) ?_
                refine lv_iconst (v := 5) hx hb dX5_many_72 (by decide) ?_
                refine lv_icmp_gt (tgt := 82) hx hb dX5_many_73 (by decide) (fun hc => ?_) (fun hc => ?_)
                · have h := sr_ifp h hc
                  refine lv_iload_n hx hb dX5_many_82 rfl (lv_at hl 1 rfl) ?_
                  refine lv_bipush (v := 6) hx hb dX5_many_83 (by decide) ?_
                  refine lv_icmp_ne (tgt := 97) hx hb dX5_many_85 (by decide) (fun hc => ?_) (fun hc => ?_)
                  · have h := sr_ifn h hc
                    refine lv_iconst (v := 0) hx hb dX5_many_97 (by decide) ?_
                    refine lv_istore_n (lv' := [(2, .int 0), (0, .ref (ad 0)), (1, .int a1)]) hx hb dX5_many_98 rfl hl (by decide) rfl (fun ls hl => ?_)
                    refine lv_iconst (v := 0) hx hb dX5_many_99 (by decide) ?_
                    refine lv_istore_n (lv' := [(3, .int 0), (2, .int 0), (0, .ref (ad 0)), (1, .int a1)]) hx hb dX5_many_100 rfl hl (by decide) rfl (fun ls hl => ?_)
                    obtain ⟨x6, hlp, hE6⟩ := sr_bind h
                    have hX6 : ∀ (v11 : Int32), v11 = x6 → ∀ (H : Heap) (locs : List Loc) (ls : Array Slot), yH D t ad A s M H locs → lv_has ls 4 [(2, .int v11)] → W p l e ({ frames := 3, cells := 0, slots := 0, locals := 64 }) s m args below meth c H locs 0 0 Q (F0 m 131 ls []) := by
                      intro v11 ex H locs ls hw hl
                      have h := hE6 _ ex
                      try dsimp only at h
                      refine lv_iload_n hx hb dX5_many_131 rfl (lv_at hl 0 rfl) ?_
                      obtain ⟨rfl, rfl⟩ := Prod.mk.inj (Option.some.inj h)
                      exact ret _ _ _ _ hw rfl dX5_many_132
                    refine sr_lp_rule (fun (z6 : Int32 × Int32) => ∀ (H : Heap) (locs : List Loc) (ls : Array Slot), yH D t ad A s M H locs → lv_has ls 4 [(0, .ref (ad 0)), (2, .int z6.1), (3, .int z6.2)] → W p l e ({ frames := 3, cells := 0, slots := 0, locals := 64 }) s m args below meth c H locs 0 0 Q (F0 m 101 ls [])) ?_ hlp _ _ _ hw (lv_sub hl [2, 1, 0] rfl)
                    rintro ⟨v7, v8⟩ y6 h hi6 he6 H locs ls hw hl
                    have h : f5_many_L101 M v7 v8 = some y6 := h
                    have hw : yH D t ad A s M H locs := hw
                    have hl : lv_has ls 4 [(0, .ref (ad 0)), (2, .int v7), (3, .int v8)] := hl
                    unfold f5_many_L101 at h
                    refine lv_iload_n hx hb dX5_many_101 rfl (lv_at hl 2 rfl) ?_
                    refine lv_aload_n hx hb dX5_many_102 rfl (lv_at hl 0 rfl) ?_
                    refine sr_geti hx hb hts qzX5 hown hw (yf_0_3 t ad) (hts _ qfX5_92) h dX5_many_103 (fun v9 h => ?_)
                    refine lv_icmp_ge (tgt := 131) hx hb dX5_many_106 (by decide) (fun hc => ?_) (fun hc => ?_)
                    · have h := sr_ifp h hc
                      exact hX6 v7 (he6 _ (Option.some.inj h).symm) _ _ _ hw (lv_sub hl [1] rfl)
                    · have h := sr_ifn h hc
                      refine lv_iload_n hx hb dX5_many_109 rfl (lv_at hl 1 rfl) ?_
                      refine lv_aload_n hx hb dX5_many_110 rfl (lv_at hl 0 rfl) ?_
                      refine lv_iload_n hx hb dX5_many_111 rfl (lv_at hl 2 rfl) ?_
                      obtain ⟨v10, hc, h⟩ := sr_bind1 h
                      refine sr_cVi (As := [.int v8]) (rest := [.int v7]) ⟨hx, hb, hml, hown, hts⟩ (k5_isCandidate l D t ad v8 M _ hc) (cwV 1 hts (sr_goodV qmX5_164 qiX5_isCandidate qsX5_isCandidate qnX5 qcX5_isCandidate) rfl rfl rfl qdX5_isCandidate ⟨Nat.le_of_ble_eq_true rfl, Nat.le_of_ble_eq_true rfl⟩) hw hA (yo_0 t ad) rfl hl.1 rfl (Nat.le_of_ble_eq_true rfl) dX5_many_112 (fun H locs hw => ?_)
                      refine lv_if_eq (tgt := 122) hx hb dX5_many_115 (by decide) (fun hc => ?_) (fun hc => ?_)
                      · have h := sr_ifp h hc
                        refine lv_iconst (v := 0) hx hb dX5_many_122 (by decide) ?_
                        refine lv_iadd hx hb dX5_many_123 ?_
                        refine lv_istore_n (lv' := [(2, .int (v7 + 0)), (0, .ref (ad 0)), (3, .int v8)]) hx hb dX5_many_124 rfl hl (by decide) rfl (fun ls hl => ?_)
                        refine lv_iinc (v := (v8 + 1)) (lv' := [(3, .int (v8 + 1)), (2, .int (v7 + 0)), (0, .ref (ad 0))]) hx hb dX5_many_125 hl (k := 2) rfl rfl (by decide) rfl (fun ls hl => ?_)
                        refine lv_goto (tgt := 101) hx hb dX5_many_128 (by decide) ?_
                        exact hi6 ((v7 + 0), (v8 + 1)) (Option.some.inj h).symm _ _ _ hw (lv_sub hl [2, 1, 0] rfl)
                      · have h := sr_ifn h hc
                        refine lv_iconst (v := 1) hx hb dX5_many_118 (by decide) ?_
                        refine lv_goto (tgt := 123) hx hb dX5_many_119 (by decide) ?_
                        refine lv_iadd hx hb dX5_many_123 ?_
                        refine lv_istore_n (lv' := [(2, .int (v7 + 1)), (0, .ref (ad 0)), (3, .int v8)]) hx hb dX5_many_124 rfl hl (by decide) rfl (fun ls hl => ?_)
                        refine lv_iinc (v := (v8 + 1)) (lv' := [(3, .int (v8 + 1)), (2, .int (v7 + 1)), (0, .ref (ad 0))]) hx hb dX5_many_125 hl (k := 2) rfl rfl (by decide) rfl (fun ls hl => ?_)
                        refine lv_goto (tgt := 101) hx hb dX5_many_128 (by decide) ?_
                        exact hi6 ((v7 + 1), (v8 + 1)) (Option.some.inj h).symm _ _ _ hw (lv_sub hl [2, 1, 0] rfl)
                  · have h := sr_ifp h hc
                    refine lv_aload_n hx hb dX5_many_88 rfl (lv_at hl 0 rfl) ?_
                    obtain ⟨M12, hc, h⟩ := sr_bind1 h
                    refine sr_cVv (As := []) (rest := []) ⟨hx, hb, hml, hown, hts⟩ (k5_tellLakes l D t ad  M _ hc) (cwV 0 hts (sr_goodV qmX5_191 qiX5_tellLakes qsX5_tellLakes qnX5 qcX5_tellLakes) rfl rfl rfl qdX5_tellLakes ⟨Nat.le_of_ble_eq_true rfl, Nat.le_of_ble_eq_true rfl⟩) hw hA (yo_0 t ad) rfl hl.1 rfl (Nat.le_of_ble_eq_true rfl) dX5_many_89 (fun H locs hw => ?_)
                    refine lv_aload_n hx hb dX5_many_92 rfl (lv_at hl 0 rfl) ?_
                    refine sr_geti hx hb hts qzX5 hown hw (yf_0_25 t ad) (hts _ qfX5_179) h dX5_many_93 (fun v13 h => ?_)
                    obtain ⟨rfl, rfl⟩ := Prod.mk.inj (Option.some.inj h)
                    exact ret _ _ _ _ hw rfl dX5_many_96
                · have h := sr_ifn h hc
                  refine lv_aload_n hx hb dX5_many_76 rfl (lv_at hl 0 rfl) ?_
                  refine lv_iload_n hx hb dX5_many_77 rfl (lv_at hl 1 rfl) ?_
                  obtain ⟨v14, hc, h⟩ := sr_bind1 h
                  refine sr_cVi (As := [.int a1]) (rest := []) ⟨hx, hb, hml, hown, hts⟩ (k5_countPores l D t ad a1 M _ hc) (cwV 1 hts (sr_goodV qmX5_188 qiX5_countPores qsX5_countPores qnX5 qcX5_countPores) rfl rfl rfl qdX5_countPores ⟨Nat.le_of_ble_eq_true rfl, Nat.le_of_ble_eq_true rfl⟩) hw hA (yo_0 t ad) rfl hl.1 rfl (Nat.le_of_ble_eq_true rfl) dX5_many_78 (fun H locs hw => ?_)
                  obtain ⟨rfl, rfl⟩ := Prod.mk.inj (Option.some.inj h)
                  exact ret _ _ _ _ hw rfl dX5_many_81
              · have h := sr_ifp h hc
                refine lv_aload_n hx hb dX5_many_66 rfl (lv_at hl 0 rfl) ?_
                refine sr_geti hx hb hts qzX5 hown hw (yf_0_14 t ad) (hts _ qfX5_152) h dX5_many_67 (fun v15 h => ?_)
                obtain ⟨rfl, rfl⟩ := Prod.mk.inj (Option.some.inj h)
                exact ret _ _ _ _ hw rfl dX5_many_70
            · have h := sr_ifp h hc
              refine lv_bipush (v := (-6)) hx hb dX5_many_58 (by decide) ?_
              obtain ⟨rfl, rfl⟩ := Prod.mk.inj (Option.some.inj h)
              exact ret _ _ _ _ hw rfl dX5_many_60
          · have h := sr_ifp h hc
            exact hK1  h _ _ _ hw (lv_sub hl [0, 1] rfl)
    · have h := sr_ifn h hc
      refine lv_iconst (v := (-1)) hx hb dX5_many_10 (by decide) ?_
      obtain ⟨rfl, rfl⟩ := Prod.mk.inj (Option.some.inj h)
      exact ret _ _ _ _ hw rfl dX5_many_11

noncomputable def f5_begin (M : sr_M) : Option (Int32 × sr_M) :=
sr_putB M 0 13 1 fun M1 =>
(f5_start M1).bind fun M2 =>
sr_bd2 (f5_many 3 M2) fun v3 M4 =>
some (v3, M4)
set_option maxHeartbeats 4000000 in
set_option maxRecDepth 100000 in
theorem k5_begin (l : Launch) (D : va_G) (t : Nat → ClassId) (ad : Nat → Nat) (M : sr_M) (r : Int32) (M' : sr_M) (h : f5_begin M = some (r, M')) : sr_Mi l D vwCl (yty t) ad (ycf t ad) 26 yX5_begin (.code yX5_begin cX5_begin 1 (some .int) :: sr_tbl) ({ frames := 4, cells := 0, slots := 0, locals := 87 }) [.ref (ad 0)] M r M' := by
  refine sr_open_i (cc := cX5_begin) (maxL := 1) (by decide) rfl (Nat.le_of_ble_eq_true rfl) ?_
  intro p e s m args below meth c A Q ls hx hb hml hts0 hown hA hw hl ret
  have hts : ∀ w ∈ sr_tbl, w.before args s = true := fun w hw => hts0 w (List.mem_cons_of_mem _ hw)
  have hown : s.vm.findClass RX5 = some m.cls := hown
  have hl : lv_has ls 1 [(0, .ref (ad 0))] := hl
  have hw : yH D t ad A s M s.heap [] := hw
  unfold f5_begin at h
  refine lv_aload_n hx hb dX5_begin_0 rfl (lv_at hl 0 rfl) ?_
  refine lv_iconst (v := 1) hx hb dX5_begin_1 (by decide) ?_
  refine sr_putz hx hb hts qzX5 tyX5 tyX5_ok nmX5 hown hw (yf_0_13 t ad) rfl rfl (hts _ qfX5_95) h dX5_begin_2 (fun M1 H locs h hw => ?_)
  refine lv_aload_n hx hb dX5_begin_5 rfl (lv_at hl 0 rfl) ?_
  obtain ⟨M2, hc, h⟩ := sr_bind1 h
  refine sr_cVv (As := []) (rest := []) ⟨hx, hb, hml, hown, hts⟩ (k5_start l D t ad  M1 _ hc) (cwV 0 hts (sr_goodV qmX5_158 qiX5_start qsX5_start qnX5 qcX5_start) rfl rfl rfl qdX5_start ⟨Nat.le_of_ble_eq_true rfl, Nat.le_of_ble_eq_true rfl⟩) hw hA (yo_0 t ad) rfl hl.1 rfl (Nat.le_of_ble_eq_true rfl) dX5_begin_6 (fun H locs hw => ?_)
  refine lv_aload_n hx hb dX5_begin_9 rfl (lv_at hl 0 rfl) ?_
  refine lv_iconst (v := 3) hx hb dX5_begin_10 (by decide) ?_
  obtain ⟨v3, M4, hc, h⟩ := sr_bind2 h
  refine sr_cVi (As := [.int 3]) (rest := []) ⟨hx, hb, hml, hown, hts⟩ (k5_many l D t ad 3 M2 _ _ hc) (cwV 1 hts (sr_goodV qmX5_161 qiX5_many qsX5_many qnX5 qcX5_many) rfl rfl rfl qdX5_many ⟨Nat.le_of_ble_eq_true rfl, Nat.le_of_ble_eq_true rfl⟩) hw hA (yo_0 t ad) rfl hl.1 rfl (Nat.le_of_ble_eq_true rfl) dX5_begin_11 (fun H locs hw => ?_)
  obtain ⟨rfl, rfl⟩ := Prod.mk.inj (Option.some.inj h)
  exact ret _ _ _ _ hw rfl dX5_begin_14

noncomputable def f5_bestAt_L5 (a1 : Int32) (a2 : Int32) (M : sr_M) (v2 : Int32) (v3 : Int32) : Option ((Int32 × Int32) ⊕ (Int32)) :=
sr_bnd (M.1 0 3) fun v4 =>
if v4 ≤ v3 then
(some (.inr v2))
else
(sr_jn (fun (v6 : Int32) =>
if v6 = 0 then
(some (.inl (v2, (v3 + 1))))
else
((f5_isCandidate v3 M).bind fun v7 =>
if v7 = 0 then
(some (.inl (v2, (v3 + 1))))
else
(if v2 < 0 then
(some (.inl (v3, (v3 + 1))))
else
((f5_isLess v3 v2 M).bind fun v8 =>
if v8 = a2 then
(some (.inl (v2, (v3 + 1))))
else
(some (.inl (v3, (v3 + 1)))))))) fun (K5 : Int32 → Option ((Int32 × Int32) ⊕ (Int32))) =>
sr_jn (K5 1) fun (K9 : Option ((Int32 × Int32) ⊕ (Int32))) =>
if a1 < 0 then
(K9)
else
(sr_ld v3 300 (M.1 3) fun v10 =>
if v10 = a1 then
(K9)
else
(sr_ld v3 300 (M.1 4) fun v11 =>
if v11 = a1 then
(K9)
else
(K5 0))))
noncomputable def f5_bestAt (a1 : Int32) (a2 : Int32) (M : sr_M) : Option (Int32) :=
(sr_lp (fun z1 : Int32 × Int32 => f5_bestAt_L5 a1 a2 M z1.1 z1.2) ((-1), 0)).bind fun w1 =>
some w1
set_option maxHeartbeats 4000000 in
set_option maxRecDepth 100000 in
theorem k5_bestAt (l : Launch) (D : va_G) (t : Nat → ClassId) (ad : Nat → Nat) (a1 : Int32) (a2 : Int32) (M : sr_M) (r : Int32) (h : f5_bestAt a1 a2 M = some r) : sr_Mi l D vwCl (yty t) ad (ycf t ad) 26 yX5_bestAt (.code yX5_bestAt cX5_bestAt 6 (some .int) :: sr_tbl) ({ frames := 3, cells := 0, slots := 0, locals := 64 }) [.ref (ad 0), .int a1, .int a2] M r M := by
  refine sr_open_i (cc := cX5_bestAt) (maxL := 6) (by decide) rfl (Nat.le_of_ble_eq_true rfl) ?_
  intro p e s m args below meth c A Q ls hx hb hml hts0 hown hA hw hl ret
  have hts : ∀ w ∈ sr_tbl, w.before args s = true := fun w hw => hts0 w (List.mem_cons_of_mem _ hw)
  have hown : s.vm.findClass RX5 = some m.cls := hown
  have hl : lv_has ls 6 [(0, .ref (ad 0)), (1, .int a1), (2, .int a2)] := hl
  have hw : yH D t ad A s M s.heap [] := hw
  unfold f5_bestAt at h
  refine lv_iconst (v := (-1)) hx hb dX5_bestAt_0 (by decide) ?_
  refine lv_istore_n (lv' := [(3, .int (-1)), (0, .ref (ad 0)), (1, .int a1), (2, .int a2)]) hx hb dX5_bestAt_1 rfl hl (by decide) rfl (fun ls hl => ?_)
  refine lv_iconst (v := 0) hx hb dX5_bestAt_2 (by decide) ?_
  refine lv_istore (lv' := [(4, .int 0), (3, .int (-1)), (0, .ref (ad 0)), (1, .int a1), (2, .int a2)]) hx hb dX5_bestAt_3 hl (by decide) rfl (fun ls hl => ?_)
  obtain ⟨x1, hlp, hE1⟩ := sr_bind h
  have hX1 : ∀ (v12 : Int32), v12 = x1 → ∀ (H : Heap) (locs : List Loc) (ls : Array Slot), yH D t ad A s M H locs → lv_has ls 6 [(3, .int v12)] → W p l e ({ frames := 3, cells := 0, slots := 0, locals := 64 }) s m args below meth c H locs 0 0 Q (F0 m 85 ls []) := by
    intro v12 ex H locs ls hw hl
    have h := hE1 _ ex
    try dsimp only at h
    refine lv_iload_n hx hb dX5_bestAt_85 rfl (lv_at hl 0 rfl) ?_
    obtain rfl := Option.some.inj h
    exact ret _ _ _ _ hw rfl dX5_bestAt_86
  refine sr_lp_rule (fun (z1 : Int32 × Int32) => ∀ (H : Heap) (locs : List Loc) (ls : Array Slot), yH D t ad A s M H locs → lv_has ls 6 [(0, .ref (ad 0)), (1, .int a1), (2, .int a2), (3, .int z1.1), (4, .int z1.2)] → W p l e ({ frames := 3, cells := 0, slots := 0, locals := 64 }) s m args below meth c H locs 0 0 Q (F0 m 5 ls [])) ?_ hlp _ _ _ hw (lv_sub hl [2, 3, 4, 1, 0] rfl)
  rintro ⟨v2, v3⟩ y1 h hi1 he1 H locs ls hw hl
  have h : f5_bestAt_L5 a1 a2 M v2 v3 = some y1 := h
  have hw : yH D t ad A s M H locs := hw
  have hl : lv_has ls 6 [(0, .ref (ad 0)), (1, .int a1), (2, .int a2), (3, .int v2), (4, .int v3)] := hl
  unfold f5_bestAt_L5 at h
  refine lv_iload hx hb dX5_bestAt_5 (lv_at hl 4 rfl) ?_
  refine lv_aload_n hx hb dX5_bestAt_7 rfl (lv_at hl 0 rfl) ?_
  refine sr_geti hx hb hts qzX5 hown hw (yf_0_3 t ad) (hts _ qfX5_92) h dX5_bestAt_8 (fun v4 h => ?_)
  refine lv_icmp_ge (tgt := 85) hx hb dX5_bestAt_11 (by decide) (fun hc => ?_) (fun hc => ?_)
  · have h := sr_ifp h hc
    exact hX1 v2 (he1 _ (Option.some.inj h).symm) _ _ _ hw (lv_sub hl [3] rfl)
  · have h := sr_ifn h hc
    refine lv_iload_n hx hb dX5_bestAt_14 rfl (lv_at hl 1 rfl) ?_
    refine sr_jn_rule (fun (K5 : Int32 → Option ((Int32 × Int32) ⊕ (Int32))) => ∀ (v6 : Int32), K5 v6 = some y1 → ∀ (H : Heap) (locs : List Loc) (ls : Array Slot), yH D t ad A s M H locs → lv_has ls 6 [(0, .ref (ad 0)), (1, .int a1), (2, .int a2), (3, .int v2), (4, .int v3)] → W p l e ({ frames := 3, cells := 0, slots := 0, locals := 64 }) s m args below meth c H locs 0 0 Q (F0 m 45 ls [.int v6])) h ?_ (fun K5 hK5 h => ?_)
    · intro v6 h H locs ls hw hl
      refine lv_istore (lv' := [(5, .int v6), (0, .ref (ad 0)), (1, .int a1), (2, .int a2), (3, .int v2), (4, .int v3)]) hx hb dX5_bestAt_45 hl (by decide) rfl (fun ls hl => ?_)
      refine lv_iload hx hb dX5_bestAt_47 (lv_at hl 0 rfl) ?_
      refine lv_if_eq (tgt := 79) hx hb dX5_bestAt_49 (by decide) (fun hc => ?_) (fun hc => ?_)
      · have h := sr_ifp h hc
        refine lv_iinc (v := (v3 + 1)) (lv' := [(4, .int (v3 + 1)), (5, .int v6), (0, .ref (ad 0)), (1, .int a1), (2, .int a2), (3, .int v2)]) hx hb dX5_bestAt_79 hl (k := 5) rfl rfl (by decide) rfl (fun ls hl => ?_)
        refine lv_goto (tgt := 5) hx hb dX5_bestAt_82 (by decide) ?_
        exact hi1 (v2, (v3 + 1)) (Option.some.inj h).symm _ _ _ hw (lv_sub hl [2, 3, 4, 5, 0] rfl)
      · have h := sr_ifn h hc
        refine lv_aload_n hx hb dX5_bestAt_52 rfl (lv_at hl 1 rfl) ?_
        refine lv_iload hx hb dX5_bestAt_53 (lv_at hl 5 rfl) ?_
        obtain ⟨v7, hc, h⟩ := sr_bind1 h
        refine sr_cVi (As := [.int v3]) (rest := []) ⟨hx, hb, hml, hown, hts⟩ (k5_isCandidate l D t ad v3 M _ hc) (cwV 1 hts (sr_goodV qmX5_164 qiX5_isCandidate qsX5_isCandidate qnX5 qcX5_isCandidate) rfl rfl rfl qdX5_isCandidate ⟨Nat.le_of_ble_eq_true rfl, Nat.le_of_ble_eq_true rfl⟩) hw hA (yo_0 t ad) rfl hl.1 rfl (Nat.le_of_ble_eq_true rfl) dX5_bestAt_55 (fun H locs hw => ?_)
        refine lv_if_eq (tgt := 79) hx hb dX5_bestAt_58 (by decide) (fun hc => ?_) (fun hc => ?_)
        · have h := sr_ifp h hc
          refine lv_iinc (v := (v3 + 1)) (lv' := [(4, .int (v3 + 1)), (5, .int v6), (0, .ref (ad 0)), (1, .int a1), (2, .int a2), (3, .int v2)]) hx hb dX5_bestAt_79 hl (k := 5) rfl rfl (by decide) rfl (fun ls hl => ?_)
          refine lv_goto (tgt := 5) hx hb dX5_bestAt_82 (by decide) ?_
          exact hi1 (v2, (v3 + 1)) (Option.some.inj h).symm _ _ _ hw (lv_sub hl [2, 3, 4, 5, 0] rfl)
        · have h := sr_ifn h hc
          refine lv_iload_n hx hb dX5_bestAt_61 rfl (lv_at hl 4 rfl) ?_
          refine lv_if_lt (tgt := 76) hx hb dX5_bestAt_62 (by decide) (fun hc => ?_) (fun hc => ?_)
          · have h := sr_ifp h hc
            refine lv_iload hx hb dX5_bestAt_76 (lv_at hl 5 rfl) ?_
            refine lv_istore_n (lv' := [(3, .int v3), (5, .int v6), (0, .ref (ad 0)), (1, .int a1), (2, .int a2), (4, .int v3)]) hx hb dX5_bestAt_78 rfl hl (by decide) rfl (fun ls hl => ?_)
            refine lv_iinc (v := (v3 + 1)) (lv' := [(4, .int (v3 + 1)), (3, .int v3), (5, .int v6), (0, .ref (ad 0)), (1, .int a1), (2, .int a2)]) hx hb dX5_bestAt_79 hl (k := 5) rfl rfl (by decide) rfl (fun ls hl => ?_)
            refine lv_goto (tgt := 5) hx hb dX5_bestAt_82 (by decide) ?_
            exact hi1 (v3, (v3 + 1)) (Option.some.inj h).symm _ _ _ hw (lv_sub hl [3, 4, 5, 1, 0] rfl)
          · have h := sr_ifn h hc
            refine lv_aload_n hx hb dX5_bestAt_65 rfl (lv_at hl 1 rfl) ?_
            refine lv_iload hx hb dX5_bestAt_66 (lv_at hl 5 rfl) ?_
            refine lv_iload_n hx hb dX5_bestAt_68 rfl (lv_at hl 4 rfl) ?_
            obtain ⟨v8, hc, h⟩ := sr_bind1 h
            refine sr_cVi (As := [.int v3, .int v2]) (rest := []) ⟨hx, hb, hml, hown, hts⟩ (k5_isLess l D t ad v3 v2 M _ hc) (cwV 2 hts (sr_goodV qmX5_110 qiX5_isLess qsX5_isLess qnX5 qcX5_isLess) rfl rfl rfl qdX5_isLess ⟨Nat.le_of_ble_eq_true rfl, Nat.le_of_ble_eq_true rfl⟩) hw hA (yo_0 t ad) rfl hl.1 rfl (Nat.le_of_ble_eq_true rfl) dX5_bestAt_69 (fun H locs hw => ?_)
            refine lv_iload_n hx hb dX5_bestAt_72 rfl (lv_at hl 3 rfl) ?_
            refine lv_icmp_eq (tgt := 79) hx hb dX5_bestAt_73 (by decide) (fun hc => ?_) (fun hc => ?_)
            · have h := sr_ifp h hc
              refine lv_iinc (v := (v3 + 1)) (lv' := [(4, .int (v3 + 1)), (5, .int v6), (0, .ref (ad 0)), (1, .int a1), (2, .int a2), (3, .int v2)]) hx hb dX5_bestAt_79 hl (k := 5) rfl rfl (by decide) rfl (fun ls hl => ?_)
              refine lv_goto (tgt := 5) hx hb dX5_bestAt_82 (by decide) ?_
              exact hi1 (v2, (v3 + 1)) (Option.some.inj h).symm _ _ _ hw (lv_sub hl [2, 3, 4, 5, 0] rfl)
            · have h := sr_ifn h hc
              refine lv_iload hx hb dX5_bestAt_76 (lv_at hl 5 rfl) ?_
              refine lv_istore_n (lv' := [(3, .int v3), (5, .int v6), (0, .ref (ad 0)), (1, .int a1), (2, .int a2), (4, .int v3)]) hx hb dX5_bestAt_78 rfl hl (by decide) rfl (fun ls hl => ?_)
              refine lv_iinc (v := (v3 + 1)) (lv' := [(4, .int (v3 + 1)), (3, .int v3), (5, .int v6), (0, .ref (ad 0)), (1, .int a1), (2, .int a2)]) hx hb dX5_bestAt_79 hl (k := 5) rfl rfl (by decide) rfl (fun ls hl => ?_)
              refine lv_goto (tgt := 5) hx hb dX5_bestAt_82 (by decide) ?_
              exact hi1 (v3, (v3 + 1)) (Option.some.inj h).symm _ _ _ hw (lv_sub hl [3, 4, 5, 1, 0] rfl)
    · refine sr_jn_rule (fun (K9 : Option ((Int32 × Int32) ⊕ (Int32))) => K9 = some y1 → ∀ (H : Heap) (locs : List Loc) (ls : Array Slot), yH D t ad A s M H locs → lv_has ls 6 [(0, .ref (ad 0)), (1, .int a1), (2, .int a2), (3, .int v2), (4, .int v3)] → W p l e ({ frames := 3, cells := 0, slots := 0, locals := 64 }) s m args below meth c H locs 0 0 Q (F0 m 40 ls [])) h ?_ (fun K9 hK9 h => ?_)
      · intro  h H locs ls hw hl
        refine lv_iconst (v := 1) hx hb dX5_bestAt_40 (by decide) ?_
        refine lv_goto (tgt := 45) hx hb dX5_bestAt_41 (by decide) ?_
        exact hK5 1 h _ _ _ hw (lv_sub hl [0, 1, 2, 3, 4] rfl)
      · refine lv_if_lt (tgt := 40) hx hb dX5_bestAt_15 (by decide) (fun hc => ?_) (fun hc => ?_)
        · have h := sr_ifp h hc
          exact hK9  h _ _ _ hw (lv_sub hl [0, 1, 2, 3, 4] rfl)
        · have h := sr_ifn h hc
          refine lv_aload_n hx hb dX5_bestAt_18 rfl (lv_at hl 0 rfl) ?_
          refine sr_getr hx hb hts qzX5 hown hw (yf_0_4 t ad) (hts _ qfX5_17) dX5_bestAt_19 ?_
          refine lv_iload hx hb dX5_bestAt_22 (lv_at hl 4 rfl) ?_
          refine sr_iald hx hb hw (ya_3 t ad) h dX5_bestAt_24 (fun v10 h => ?_)
          refine lv_iload_n hx hb dX5_bestAt_25 rfl (lv_at hl 1 rfl) ?_
          refine lv_icmp_eq (tgt := 40) hx hb dX5_bestAt_26 (by decide) (fun hc => ?_) (fun hc => ?_)
          · have h := sr_ifp h hc
            exact hK9  h _ _ _ hw (lv_sub hl [0, 1, 2, 3, 4] rfl)
          · have h := sr_ifn h hc
            refine lv_aload_n hx hb dX5_bestAt_29 rfl (lv_at hl 0 rfl) ?_
            refine sr_getr hx hb hts qzX5 hown hw (yf_0_5 t ad) (hts _ qfX5_20) dX5_bestAt_30 ?_
            refine lv_iload hx hb dX5_bestAt_33 (lv_at hl 4 rfl) ?_
            refine sr_iald hx hb hw (ya_4 t ad) h dX5_bestAt_35 (fun v11 h => ?_)
            refine lv_iload_n hx hb dX5_bestAt_36 rfl (lv_at hl 1 rfl) ?_
            refine lv_icmp_ne (tgt := 44) hx hb dX5_bestAt_37 (by decide) (fun hc => ?_) (fun hc => ?_)
            · have h := sr_ifn h hc
              refine lv_iconst (v := 0) hx hb dX5_bestAt_44 (by decide) ?_
              exact hK5 0 h _ _ _ hw (lv_sub hl [0, 1, 2, 3, 4] rfl)
            · have h := sr_ifp h hc
              exact hK9  h _ _ _ hw (lv_sub hl [0, 1, 2, 3, 4] rfl)

noncomputable def f5_nextThroat_L4 (M : sr_M) (v2 : Int32) (v3 : Int32) : Option ((Int32 × Int32) ⊕ (Int32)) :=
sr_bnd (M.1 0 0) fun v4 =>
if v4 ≤ v3 then
(some (.inr v2))
else
(sr_bnd (M.1 0 14) fun v5 =>
if v5 ≤ 0 then
(some (.inl (v2, (v3 + 1))))
else
(sr_ld v3 120 (M.1 12) fun v6 =>
sr_bnd (M.1 0 14) fun v7 =>
if v6 = v7 then
(some (.inl (v3, (v3 + 1))))
else
(some (.inl (v2, (v3 + 1))))))
noncomputable def f5_nextThroat (M : sr_M) : Option (Int32) :=
(sr_lp (fun z1 : Int32 × Int32 => f5_nextThroat_L4 M z1.1 z1.2) ((-1), 0)).bind fun w1 =>
sr_jn (fun (v10 : Int32) =>
if v10 < 0 then
((f5_bestAt (-1) 0 M).bind fun v11 =>
some v11)
else
(some v10)) fun (K9 : Int32 → Option (Int32)) =>
if w1 < 0 then
(K9 (-1))
else
(sr_ld w1 120 (M.1 1) fun v12 =>
sr_jn (sr_ld w1 120 (M.1 1) fun v14 =>
sr_jn (fun (v16 : Int32) =>
(f5_bestAt w1 v16 M).bind fun v17 =>
K9 v17) fun (K15 : Int32 → Option (Int32)) =>
if v14 = 2 then
(K15 1)
else
(K15 0)) fun (K13 : Option (Int32)) =>
if v12 = 1 then
(K13)
else
(sr_ld w1 120 (M.1 1) fun v18 =>
if v18 = 2 then
(K13)
else
(K9 (-1))))
set_option maxHeartbeats 4000000 in
set_option maxRecDepth 100000 in
theorem k5_nextThroat (l : Launch) (D : va_G) (t : Nat → ClassId) (ad : Nat → Nat) (M : sr_M) (r : Int32) (h : f5_nextThroat M = some r) : sr_Mi l D vwCl (yty t) ad (ycf t ad) 26 yX5_nextThroat (.code yX5_nextThroat cX5_nextThroat 3 (some .int) :: sr_tbl) ({ frames := 4, cells := 0, slots := 0, locals := 89 }) [.ref (ad 0)] M r M := by
  refine sr_open_i (cc := cX5_nextThroat) (maxL := 3) (by decide) rfl (Nat.le_of_ble_eq_true rfl) ?_
  intro p e s m args below meth c A Q ls hx hb hml hts0 hown hA hw hl ret
  have hts : ∀ w ∈ sr_tbl, w.before args s = true := fun w hw => hts0 w (List.mem_cons_of_mem _ hw)
  have hown : s.vm.findClass RX5 = some m.cls := hown
  have hl : lv_has ls 3 [(0, .ref (ad 0))] := hl
  have hw : yH D t ad A s M s.heap [] := hw
  unfold f5_nextThroat at h
  refine lv_iconst (v := (-1)) hx hb dX5_nextThroat_0 (by decide) ?_
  refine lv_istore_n (lv' := [(1, .int (-1)), (0, .ref (ad 0))]) hx hb dX5_nextThroat_1 rfl hl (by decide) rfl (fun ls hl => ?_)
  refine lv_iconst (v := 0) hx hb dX5_nextThroat_2 (by decide) ?_
  refine lv_istore_n (lv' := [(2, .int 0), (1, .int (-1)), (0, .ref (ad 0))]) hx hb dX5_nextThroat_3 rfl hl (by decide) rfl (fun ls hl => ?_)
  obtain ⟨x1, hlp, hE1⟩ := sr_bind h
  have hX1 : ∀ (v8 : Int32), v8 = x1 → ∀ (H : Heap) (locs : List Loc) (ls : Array Slot), yH D t ad A s M H locs → lv_has ls 3 [(0, .ref (ad 0)), (1, .int v8)] → W p l e ({ frames := 4, cells := 0, slots := 0, locals := 89 }) s m args below meth c H locs 0 0 Q (F0 m 44 ls []) := by
    intro v8 ex H locs ls hw hl
    have h := hE1 _ ex
    try dsimp only at h
    refine lv_iconst (v := (-1)) hx hb dX5_nextThroat_44 (by decide) ?_
    refine lv_istore_n (lv' := [(2, .int (-1)), (0, .ref (ad 0)), (1, .int v8)]) hx hb dX5_nextThroat_45 rfl hl (by decide) rfl (fun ls hl => ?_)
    refine lv_iload_n hx hb dX5_nextThroat_46 rfl (lv_at hl 2 rfl) ?_
    refine sr_jn_rule (fun (K9 : Int32 → Option (Int32)) => ∀ (v10 : Int32), K9 v10 = some r → ∀ (H : Heap) (locs : List Loc) (ls : Array Slot), yH D t ad A s M H locs → lv_has ls 3 [(0, .ref (ad 0)), (2, .int v10)] → W p l e ({ frames := 4, cells := 0, slots := 0, locals := 89 }) s m args below meth c H locs 0 0 Q (F0 m 91 ls [])) h ?_ (fun K9 hK9 h => ?_)
    · intro v10 h H locs ls hw hl
      refine lv_iload_n hx hb dX5_nextThroat_91 rfl (lv_at hl 1 rfl) ?_
      refine lv_if_lt (tgt := 99) hx hb dX5_nextThroat_92 (by decide) (fun hc => ?_) (fun hc => ?_)
      · have h := sr_ifp h hc
        refine lv_aload_n hx hb dX5_nextThroat_99 rfl (lv_at hl 0 rfl) ?_
        refine lv_iconst (v := (-1)) hx hb dX5_nextThroat_100 (by decide) ?_
        refine lv_iconst (v := 0) hx hb dX5_nextThroat_101 (by decide) ?_
        obtain ⟨v11, hc, h⟩ := sr_bind1 h
        refine sr_cVi (As := [.int (-1), .int 0]) (rest := []) ⟨hx, hb, hml, hown, hts⟩ (k5_bestAt l D t ad (-1) 0 M _ hc) (cwV 2 hts (sr_goodV qmX5_167 qiX5_bestAt qsX5_bestAt qnX5 qcX5_bestAt) rfl rfl rfl qdX5_bestAt ⟨Nat.le_of_ble_eq_true rfl, Nat.le_of_ble_eq_true rfl⟩) hw hA (yo_0 t ad) rfl hl.1 rfl (Nat.le_of_ble_eq_true rfl) dX5_nextThroat_102 (fun H locs hw => ?_)
        obtain rfl := Option.some.inj h
        exact ret _ _ _ _ hw rfl dX5_nextThroat_105
      · have h := sr_ifn h hc
        refine lv_iload_n hx hb dX5_nextThroat_95 rfl (lv_at hl 1 rfl) ?_
        refine lv_goto (tgt := 105) hx hb dX5_nextThroat_96 (by decide) ?_
        obtain rfl := Option.some.inj h
        exact ret _ _ _ _ hw rfl dX5_nextThroat_105
    · refine lv_if_lt (tgt := 91) hx hb dX5_nextThroat_47 (by decide) (fun hc => ?_) (fun hc => ?_)
      · have h := sr_ifp h hc
        exact hK9 (-1) h _ _ _ hw (lv_sub hl [1, 0] rfl)
      · have h := sr_ifn h hc
        refine lv_aload_n hx hb dX5_nextThroat_50 rfl (lv_at hl 1 rfl) ?_
        refine sr_getr hx hb hts qzX5 hown hw (yf_0_1 t ad) (hts _ qfX5_7) dX5_nextThroat_51 ?_
        refine lv_iload_n hx hb dX5_nextThroat_54 rfl (lv_at hl 2 rfl) ?_
        refine sr_iald hx hb hw (ya_1 t ad) h dX5_nextThroat_55 (fun v12 h => ?_)
        refine lv_iconst (v := 1) hx hb dX5_nextThroat_56 (by decide) ?_
        refine sr_jn_rule (fun (K13 : Option (Int32)) => K13 = some r → ∀ (H : Heap) (locs : List Loc) (ls : Array Slot), yH D t ad A s M H locs → lv_has ls 3 [(0, .ref (ad 0)), (1, .int v8)] → W p l e ({ frames := 4, cells := 0, slots := 0, locals := 89 }) s m args below meth c H locs 0 0 Q (F0 m 70 ls [])) h ?_ (fun K13 hK13 h => ?_)
        · intro  h H locs ls hw hl
          refine lv_aload_n hx hb dX5_nextThroat_70 rfl (lv_at hl 0 rfl) ?_
          refine lv_iload_n hx hb dX5_nextThroat_71 rfl (lv_at hl 1 rfl) ?_
          refine lv_aload_n hx hb dX5_nextThroat_72 rfl (lv_at hl 0 rfl) ?_
          refine sr_getr hx hb hts qzX5 hown hw (yf_0_1 t ad) (hts _ qfX5_7) dX5_nextThroat_73 ?_
          refine lv_iload_n hx hb dX5_nextThroat_76 rfl (lv_at hl 1 rfl) ?_
          refine sr_iald hx hb hw (ya_1 t ad) h dX5_nextThroat_77 (fun v14 h => ?_)
          refine lv_iconst (v := 2) hx hb dX5_nextThroat_78 (by decide) ?_
          refine sr_jn_rule (fun (K15 : Int32 → Option (Int32)) => ∀ (v16 : Int32), K15 v16 = some r → ∀ (H : Heap) (locs : List Loc) (ls : Array Slot), yH D t ad A s M H locs → lv_has ls 3 [(0, .ref (ad 0))] → W p l e ({ frames := 4, cells := 0, slots := 0, locals := 89 }) s m args below meth c H locs 0 0 Q (F0 m 87 ls [.int v16, .int v8, .ref (ad 0)])) h ?_ (fun K15 hK15 h => ?_)
          · intro v16 h H locs ls hw hl
            obtain ⟨v17, hc, h⟩ := sr_bind1 h
            refine sr_cVi (As := [.int v8, .int v16]) (rest := []) ⟨hx, hb, hml, hown, hts⟩ (k5_bestAt l D t ad v8 v16 M _ hc) (cwV 2 hts (sr_goodV qmX5_167 qiX5_bestAt qsX5_bestAt qnX5 qcX5_bestAt) rfl rfl rfl qdX5_bestAt ⟨Nat.le_of_ble_eq_true rfl, Nat.le_of_ble_eq_true rfl⟩) hw hA (yo_0 t ad) rfl hl.1 rfl (Nat.le_of_ble_eq_true rfl) dX5_nextThroat_87 (fun H locs hw => ?_)
            refine lv_istore_n (lv' := [(2, .int v17), (0, .ref (ad 0))]) hx hb dX5_nextThroat_90 rfl hl (by decide) rfl (fun ls hl => ?_)
            exact hK9 v17 h _ _ _ hw (lv_sub hl [1, 0] rfl)
          · refine lv_icmp_ne (tgt := 86) hx hb dX5_nextThroat_79 (by decide) (fun hc => ?_) (fun hc => ?_)
            · have h := sr_ifn h hc
              refine lv_iconst (v := 0) hx hb dX5_nextThroat_86 (by decide) ?_
              exact hK15 0 h _ _ _ hw (lv_sub hl [0] rfl)
            · have h := sr_ifp h hc
              refine lv_iconst (v := 1) hx hb dX5_nextThroat_82 (by decide) ?_
              refine lv_goto (tgt := 87) hx hb dX5_nextThroat_83 (by decide) ?_
              exact hK15 1 h _ _ _ hw (lv_sub hl [0] rfl)
        · refine lv_icmp_eq (tgt := 70) hx hb dX5_nextThroat_57 (by decide) (fun hc => ?_) (fun hc => ?_)
          · have h := sr_ifp h hc
            exact hK13  h _ _ _ hw (lv_sub hl [1, 2] rfl)
          · have h := sr_ifn h hc
            refine lv_aload_n hx hb dX5_nextThroat_60 rfl (lv_at hl 1 rfl) ?_
            refine sr_getr hx hb hts qzX5 hown hw (yf_0_1 t ad) (hts _ qfX5_7) dX5_nextThroat_61 ?_
            refine lv_iload_n hx hb dX5_nextThroat_64 rfl (lv_at hl 2 rfl) ?_
            refine sr_iald hx hb hw (ya_1 t ad) h dX5_nextThroat_65 (fun v18 h => ?_)
            refine lv_iconst (v := 2) hx hb dX5_nextThroat_66 (by decide) ?_
            refine lv_icmp_ne (tgt := 91) hx hb dX5_nextThroat_67 (by decide) (fun hc => ?_) (fun hc => ?_)
            · have h := sr_ifn h hc
              exact hK9 (-1) h _ _ _ hw (lv_sub hl [1, 0] rfl)
            · have h := sr_ifp h hc
              exact hK13  h _ _ _ hw (lv_sub hl [1, 2] rfl)
  refine sr_lp_rule (fun (z1 : Int32 × Int32) => ∀ (H : Heap) (locs : List Loc) (ls : Array Slot), yH D t ad A s M H locs → lv_has ls 3 [(0, .ref (ad 0)), (1, .int z1.1), (2, .int z1.2)] → W p l e ({ frames := 4, cells := 0, slots := 0, locals := 89 }) s m args below meth c H locs 0 0 Q (F0 m 4 ls [])) ?_ hlp _ _ _ hw (lv_sub hl [2, 1, 0] rfl)
  rintro ⟨v2, v3⟩ y1 h hi1 he1 H locs ls hw hl
  have h : f5_nextThroat_L4 M v2 v3 = some y1 := h
  have hw : yH D t ad A s M H locs := hw
  have hl : lv_has ls 3 [(0, .ref (ad 0)), (1, .int v2), (2, .int v3)] := hl
  unfold f5_nextThroat_L4 at h
  refine lv_iload_n hx hb dX5_nextThroat_4 rfl (lv_at hl 2 rfl) ?_
  refine lv_aload_n hx hb dX5_nextThroat_5 rfl (lv_at hl 0 rfl) ?_
  refine sr_geti hx hb hts qzX5 hown hw (yf_0_0 t ad) (hts _ qfX5_88) h dX5_nextThroat_6 (fun v4 h => ?_)
  refine lv_icmp_ge (tgt := 44) hx hb dX5_nextThroat_9 (by decide) (fun hc => ?_) (fun hc => ?_)
  · have h := sr_ifp h hc
    exact hX1 v2 (he1 _ (Option.some.inj h).symm) _ _ _ hw (lv_sub hl [0, 1] rfl)
  · have h := sr_ifn h hc
    refine lv_aload_n hx hb dX5_nextThroat_12 rfl (lv_at hl 0 rfl) ?_
    refine sr_geti hx hb hts qzX5 hown hw (yf_0_14 t ad) (hts _ qfX5_152) h dX5_nextThroat_13 (fun v5 h => ?_)
    refine lv_if_le (tgt := 36) hx hb dX5_nextThroat_16 (by decide) (fun hc => ?_) (fun hc => ?_)
    · have h := sr_ifp h hc
      refine lv_iload_n hx hb dX5_nextThroat_36 rfl (lv_at hl 1 rfl) ?_
      refine lv_istore_n (lv' := [(1, .int v2), (0, .ref (ad 0)), (2, .int v3)]) hx hb dX5_nextThroat_37 rfl hl (by decide) rfl (fun ls hl => ?_)
      refine lv_iinc (v := (v3 + 1)) (lv' := [(2, .int (v3 + 1)), (1, .int v2), (0, .ref (ad 0))]) hx hb dX5_nextThroat_38 hl (k := 2) rfl rfl (by decide) rfl (fun ls hl => ?_)
      refine lv_goto (tgt := 4) hx hb dX5_nextThroat_41 (by decide) ?_
      exact hi1 (v2, (v3 + 1)) (Option.some.inj h).symm _ _ _ hw (lv_sub hl [2, 1, 0] rfl)
    · have h := sr_ifn h hc
      refine lv_aload_n hx hb dX5_nextThroat_19 rfl (lv_at hl 0 rfl) ?_
      refine sr_getr hx hb hts qzX5 hown hw (yf_0_16 t ad) (hts _ qfX5_46) dX5_nextThroat_20 ?_
      refine lv_iload_n hx hb dX5_nextThroat_23 rfl (lv_at hl 2 rfl) ?_
      refine sr_iald hx hb hw (ya_12 t ad) h dX5_nextThroat_24 (fun v6 h => ?_)
      refine lv_aload_n hx hb dX5_nextThroat_25 rfl (lv_at hl 0 rfl) ?_
      refine sr_geti hx hb hts qzX5 hown hw (yf_0_14 t ad) (hts _ qfX5_152) h dX5_nextThroat_26 (fun v7 h => ?_)
      refine lv_icmp_ne (tgt := 36) hx hb dX5_nextThroat_29 (by decide) (fun hc => ?_) (fun hc => ?_)
      · have h := sr_ifn h hc
        refine lv_iload_n hx hb dX5_nextThroat_36 rfl (lv_at hl 1 rfl) ?_
        refine lv_istore_n (lv' := [(1, .int v2), (0, .ref (ad 0)), (2, .int v3)]) hx hb dX5_nextThroat_37 rfl hl (by decide) rfl (fun ls hl => ?_)
        refine lv_iinc (v := (v3 + 1)) (lv' := [(2, .int (v3 + 1)), (1, .int v2), (0, .ref (ad 0))]) hx hb dX5_nextThroat_38 hl (k := 2) rfl rfl (by decide) rfl (fun ls hl => ?_)
        refine lv_goto (tgt := 4) hx hb dX5_nextThroat_41 (by decide) ?_
        exact hi1 (v2, (v3 + 1)) (Option.some.inj h).symm _ _ _ hw (lv_sub hl [2, 1, 0] rfl)
      · have h := sr_ifp h hc
        refine lv_iload_n hx hb dX5_nextThroat_32 rfl (lv_at hl 2 rfl) ?_
        refine lv_goto (tgt := 37) hx hb dX5_nextThroat_33 (by decide) ?_
        refine lv_istore_n (lv' := [(1, .int v3), (0, .ref (ad 0)), (2, .int v3)]) hx hb dX5_nextThroat_37 rfl hl (by decide) rfl (fun ls hl => ?_)
        refine lv_iinc (v := (v3 + 1)) (lv' := [(2, .int (v3 + 1)), (1, .int v3), (0, .ref (ad 0))]) hx hb dX5_nextThroat_38 hl (k := 2) rfl rfl (by decide) rfl (fun ls hl => ?_)
        refine lv_goto (tgt := 4) hx hb dX5_nextThroat_41 (by decide) ?_
        exact hi1 (v3, (v3 + 1)) (Option.some.inj h).symm _ _ _ hw (lv_sub hl [2, 1, 0] rfl)

noncomputable def f5_open (a1 : Int32) (M : sr_M) : Option (sr_M) :=
sr_ld a1 300 (M.1 3) fun v1 =>
(f5_isFilled v1 M).bind fun v2 =>
sr_jn (fun (v4 : Int32) =>
sr_bnd (M.1 0 14) fun v5 =>
sr_put M 0 14 (v5 + 1) fun M6 =>
sr_bnd (M6.1 0 14) fun v7 =>
sr_st v7 121 M6 11 a1 fun M8 =>
sr_bnd (M8.1 0 14) fun v9 =>
sr_st v4 120 M8 12 v9 fun M10 =>
sr_st v4 120 M10 13 a1 fun M11 =>
(f5_trap M11).bind fun M12 =>
some M12) fun (K3 : Int32 → Option (sr_M)) =>
if v2 = 0 then
(sr_ld a1 300 (M.1 3) fun v13 =>
K3 v13)
else
(sr_ld a1 300 (M.1 4) fun v14 =>
K3 v14)
set_option maxHeartbeats 4000000 in
set_option maxRecDepth 100000 in
theorem k5_open (l : Launch) (D : va_G) (t : Nat → ClassId) (ad : Nat → Nat) (a1 : Int32) (M : sr_M) (M' : sr_M) (h : f5_open a1 M = some M') : sr_Mv l D vwCl (yty t) ad (ycf t ad) 26 yX5_open (.code yX5_open cX5_open 3 (none) :: sr_tbl) ({ frames := 2, cells := 0, slots := 0, locals := 44 }) [.ref (ad 0), .int a1] M M' := by
  refine sr_open_v (cc := cX5_open) (maxL := 3) (by decide) rfl (Nat.le_of_ble_eq_true rfl) ?_
  intro p e s m args below meth c A Q ls hx hb hml hts0 hown hA hw hl ret
  have hts : ∀ w ∈ sr_tbl, w.before args s = true := fun w hw => hts0 w (List.mem_cons_of_mem _ hw)
  have hown : s.vm.findClass RX5 = some m.cls := hown
  have hl : lv_has ls 3 [(0, .ref (ad 0)), (1, .int a1)] := hl
  have hw : yH D t ad A s M s.heap [] := hw
  unfold f5_open at h
  refine lv_aload_n hx hb dX5_open_0 rfl (lv_at hl 0 rfl) ?_
  refine lv_aload_n hx hb dX5_open_1 rfl (lv_at hl 0 rfl) ?_
  refine sr_getr hx hb hts qzX5 hown hw (yf_0_4 t ad) (hts _ qfX5_17) dX5_open_2 ?_
  refine lv_iload_n hx hb dX5_open_5 rfl (lv_at hl 1 rfl) ?_
  refine sr_iald hx hb hw (ya_3 t ad) h dX5_open_6 (fun v1 h => ?_)
  obtain ⟨v2, hc, h⟩ := sr_bind1 h
  refine sr_cVi (As := [.int v1]) (rest := []) ⟨hx, hb, hml, hown, hts⟩ (k5_isFilled l D t ad v1 M _ hc) (cwV 1 hts (sr_goodV qmX5_143 qiX5_isFilled qsX5_isFilled qnX5 qcX5_isFilled) rfl rfl rfl qdX5_isFilled ⟨Nat.le_of_ble_eq_true rfl, Nat.le_of_ble_eq_true rfl⟩) hw hA (yo_0 t ad) rfl hl.1 rfl (Nat.le_of_ble_eq_true rfl) dX5_open_7 (fun H locs hw => ?_)
  refine sr_jn_rule (fun (K3 : Int32 → Option (sr_M)) => ∀ (v4 : Int32), K3 v4 = some M' → ∀ (H : Heap) (locs : List Loc) (ls : Array Slot), yH D t ad A s M H locs → lv_has ls 3 [(0, .ref (ad 0)), (1, .int a1)] → W p l e ({ frames := 2, cells := 0, slots := 0, locals := 44 }) s m args below meth c H locs 0 0 Q (F0 m 28 ls [.int v4])) h ?_ (fun K3 hK3 h => ?_)
  · intro v4 h H locs ls hw hl
    refine lv_istore_n (lv' := [(2, .int v4), (0, .ref (ad 0)), (1, .int a1)]) hx hb dX5_open_28 rfl hl (by decide) rfl (fun ls hl => ?_)
    refine lv_aload_n hx hb dX5_open_29 rfl (lv_at hl 1 rfl) ?_
    refine lv_dup hx hb dX5_open_30 rfl ?_
    refine sr_geti hx hb hts qzX5 hown hw (yf_0_14 t ad) (hts _ qfX5_152) h dX5_open_31 (fun v5 h => ?_)
    refine lv_iconst (v := 1) hx hb dX5_open_34 (by decide) ?_
    refine lv_iadd hx hb dX5_open_35 ?_
    refine sr_puti hx hb hts qzX5 tyX5 tyX5_ok nmX5 hown hw (yf_0_14 t ad) rfl rfl (hts _ qfX5_152) h dX5_open_36 (fun M6 H locs h hw => ?_)
    refine lv_aload_n hx hb dX5_open_39 rfl (lv_at hl 1 rfl) ?_
    refine sr_getr hx hb hts qzX5 hown hw (yf_0_15 t ad) (hts _ qfX5_43) dX5_open_40 ?_
    refine lv_aload_n hx hb dX5_open_43 rfl (lv_at hl 1 rfl) ?_
    refine sr_geti hx hb hts qzX5 hown hw (yf_0_14 t ad) (hts _ qfX5_152) h dX5_open_44 (fun v7 h => ?_)
    refine lv_iload_n hx hb dX5_open_47 rfl (lv_at hl 2 rfl) ?_
    refine sr_iast hx hb hw (ya_11 t ad) h dX5_open_48 (fun M8 H locs h hw => ?_)
    refine lv_aload_n hx hb dX5_open_49 rfl (lv_at hl 1 rfl) ?_
    refine sr_getr hx hb hts qzX5 hown hw (yf_0_16 t ad) (hts _ qfX5_46) dX5_open_50 ?_
    refine lv_iload_n hx hb dX5_open_53 rfl (lv_at hl 0 rfl) ?_
    refine lv_aload_n hx hb dX5_open_54 rfl (lv_at hl 1 rfl) ?_
    refine sr_geti hx hb hts qzX5 hown hw (yf_0_14 t ad) (hts _ qfX5_152) h dX5_open_55 (fun v9 h => ?_)
    refine sr_iast hx hb hw (ya_12 t ad) h dX5_open_58 (fun M10 H locs h hw => ?_)
    refine lv_aload_n hx hb dX5_open_59 rfl (lv_at hl 1 rfl) ?_
    refine sr_getr hx hb hts qzX5 hown hw (yf_0_17 t ad) (hts _ qfX5_49) dX5_open_60 ?_
    refine lv_iload_n hx hb dX5_open_63 rfl (lv_at hl 0 rfl) ?_
    refine lv_iload_n hx hb dX5_open_64 rfl (lv_at hl 2 rfl) ?_
    refine sr_iast hx hb hw (ya_13 t ad) h dX5_open_65 (fun M11 H locs h hw => ?_)
    refine lv_aload_n hx hb dX5_open_66 rfl (lv_at hl 1 rfl) ?_
    obtain ⟨M12, hc, h⟩ := sr_bind1 h
    refine sr_cVv (As := []) (rest := []) ⟨hx, hb, hml, hown, hts⟩ (k5_trap l D t ad  M11 _ hc) (cwV 0 hts (sr_goodV qmX5_155 qiX5_trap qsX5_trap qnX5 qcX5_trap) rfl rfl rfl qdX5_trap ⟨Nat.le_of_ble_eq_true rfl, Nat.le_of_ble_eq_true rfl⟩) hw hA (yo_0 t ad) rfl hl.1 rfl (Nat.le_of_ble_eq_true rfl) dX5_open_67 (fun H locs hw => ?_)
    obtain rfl := Option.some.inj h
    exact ret _ _ _ _ hw dX5_open_70
  · refine lv_if_eq (tgt := 22) hx hb dX5_open_10 (by decide) (fun hc => ?_) (fun hc => ?_)
    · have h := sr_ifp h hc
      refine lv_aload_n hx hb dX5_open_22 rfl (lv_at hl 0 rfl) ?_
      refine sr_getr hx hb hts qzX5 hown hw (yf_0_4 t ad) (hts _ qfX5_17) dX5_open_23 ?_
      refine lv_iload_n hx hb dX5_open_26 rfl (lv_at hl 1 rfl) ?_
      refine sr_iald hx hb hw (ya_3 t ad) h dX5_open_27 (fun v13 h => ?_)
      exact hK3 v13 h _ _ _ hw (lv_sub hl [0, 1] rfl)
    · have h := sr_ifn h hc
      refine lv_aload_n hx hb dX5_open_13 rfl (lv_at hl 0 rfl) ?_
      refine sr_getr hx hb hts qzX5 hown hw (yf_0_5 t ad) (hts _ qfX5_20) dX5_open_14 ?_
      refine lv_iload_n hx hb dX5_open_17 rfl (lv_at hl 1 rfl) ?_
      refine sr_iald hx hb hw (ya_4 t ad) h dX5_open_18 (fun v14 h => ?_)
      refine lv_goto (tgt := 28) hx hb dX5_open_19 (by decide) ?_
      exact hK3 v14 h _ _ _ hw (lv_sub hl [0, 1] rfl)

noncomputable def f5_step (M : sr_M) : Option (Int32 × sr_M) :=
sr_bnd (M.1 0 13) fun v1 =>
if v1 = 0 then
(some ((-6), M))
else
((f5_nextThroat M).bind fun v2 =>
if 0 ≤ v2 then
((f5_open v2 M).bind fun M3 =>
some (v2, M3))
else
(some ((-7), M)))
set_option maxHeartbeats 4000000 in
set_option maxRecDepth 100000 in
theorem k5_step (l : Launch) (D : va_G) (t : Nat → ClassId) (ad : Nat → Nat) (M : sr_M) (r : Int32) (M' : sr_M) (h : f5_step M = some (r, M')) : sr_Mi l D vwCl (yty t) ad (ycf t ad) 26 yX5_step (.code yX5_step cX5_step 2 (some .int) :: sr_tbl) ({ frames := 5, cells := 0, slots := 0, locals := 111 }) [.ref (ad 0)] M r M' := by
  refine sr_open_i (cc := cX5_step) (maxL := 2) (by decide) rfl (Nat.le_of_ble_eq_true rfl) ?_
  intro p e s m args below meth c A Q ls hx hb hml hts0 hown hA hw hl ret
  have hts : ∀ w ∈ sr_tbl, w.before args s = true := fun w hw => hts0 w (List.mem_cons_of_mem _ hw)
  have hown : s.vm.findClass RX5 = some m.cls := hown
  have hl : lv_has ls 2 [(0, .ref (ad 0))] := hl
  have hw : yH D t ad A s M s.heap [] := hw
  unfold f5_step at h
  refine lv_aload_n hx hb dX5_step_0 rfl (lv_at hl 0 rfl) ?_
  refine sr_geti hx hb hts qzX5 hown hw (yf_0_13 t ad) (hts _ qfX5_95) h dX5_step_1 (fun v1 h => ?_)
  refine lv_if_ne (tgt := 10) hx hb dX5_step_4 (by decide) (fun hc => ?_) (fun hc => ?_)
  · have h := sr_ifn h hc
    refine lv_aload_n hx hb dX5_step_10 rfl (lv_at hl 0 rfl) ?_
    obtain ⟨v2, hc, h⟩ := sr_bind1 h
    refine sr_cVi (As := []) (rest := []) ⟨hx, hb, hml, hown, hts⟩ (k5_nextThroat l D t ad  M _ hc) (cwV 0 hts (sr_goodV qmX5_171 qiX5_nextThroat qsX5_nextThroat qnX5 qcX5_nextThroat) rfl rfl rfl qdX5_nextThroat ⟨Nat.le_of_ble_eq_true rfl, Nat.le_of_ble_eq_true rfl⟩) hw hA (yo_0 t ad) rfl hl.1 rfl (Nat.le_of_ble_eq_true rfl) dX5_step_11 (fun H locs hw => ?_)
    refine lv_istore_n (lv' := [(1, .int v2), (0, .ref (ad 0))]) hx hb dX5_step_14 rfl hl (by decide) rfl (fun ls hl => ?_)
    refine lv_iload_n hx hb dX5_step_15 rfl (lv_at hl 0 rfl) ?_
    refine lv_if_ge (tgt := 22) hx hb dX5_step_16 (by decide) (fun hc => ?_) (fun hc => ?_)
    · have h := sr_ifp h hc
      refine lv_aload_n hx hb dX5_step_22 rfl (lv_at hl 1 rfl) ?_
      refine lv_iload_n hx hb dX5_step_23 rfl (lv_at hl 0 rfl) ?_
      obtain ⟨M3, hc, h⟩ := sr_bind1 h
      refine sr_cVv (As := [.int v2]) (rest := []) ⟨hx, hb, hml, hown, hts⟩ (k5_open l D t ad v2 M _ hc) (cwV 1 hts (sr_goodV qmX5_175 qiX5_open qsX5_open qnX5 qcX5_open) rfl rfl rfl qdX5_open ⟨Nat.le_of_ble_eq_true rfl, Nat.le_of_ble_eq_true rfl⟩) hw hA (yo_0 t ad) rfl hl.1 rfl (Nat.le_of_ble_eq_true rfl) dX5_step_24 (fun H locs hw => ?_)
      refine lv_iload_n hx hb dX5_step_27 rfl (lv_at hl 0 rfl) ?_
      obtain ⟨rfl, rfl⟩ := Prod.mk.inj (Option.some.inj h)
      exact ret _ _ _ _ hw rfl dX5_step_28
    · have h := sr_ifn h hc
      refine lv_bipush (v := (-7)) hx hb dX5_step_19 (by decide) ?_
      obtain ⟨rfl, rfl⟩ := Prod.mk.inj (Option.some.inj h)
      exact ret _ _ _ _ hw rfl dX5_step_21
  · have h := sr_ifp h hc
    refine lv_bipush (v := (-6)) hx hb dX5_step_7 (by decide) ?_
    obtain ⟨rfl, rfl⟩ := Prod.mk.inj (Option.some.inj h)
    exact ret _ _ _ _ hw rfl dX5_step_9

noncomputable def f5_run_L30 (a1 : Int32) (v4 : Int32) (v5 : Int32) (M6 : sr_M) : Option ((Int32 × Int32 × sr_M) ⊕ (Int32 × sr_M)) :=
if a1 ≤ v4 then
(some (.inr (v4, M6)))
else
(if v5 < 0 then
(some (.inr (v4, M6)))
else
((f5_open v5 M6).bind fun M7 =>
(f5_nextThroat M7).bind fun v8 =>
some (.inl ((v4 + 1), v8, M7))))
noncomputable def f5_run (a1 : Int32) (M : sr_M) : Option (Int32 × sr_M) :=
sr_bnd (M.1 0 13) fun v1 =>
if v1 = 0 then
(some ((-6), M))
else
(if a1 < 0 then
(some ((-1), M))
else
(if a1 ≤ 200 then
((f5_nextThroat M).bind fun v2 =>
(sr_lp (fun z3 : Int32 × Int32 × sr_M => f5_run_L30 a1 z3.1 z3.2.1 z3.2.2) (0, v2, M)).bind fun w3 =>
some (w3.1, w3.2))
else
(some ((-1), M))))
set_option maxHeartbeats 4000000 in
set_option maxRecDepth 100000 in
theorem k5_run (l : Launch) (D : va_G) (t : Nat → ClassId) (ad : Nat → Nat) (a1 : Int32) (M : sr_M) (r : Int32) (M' : sr_M) (h : f5_run a1 M = some (r, M')) : sr_Mi l D vwCl (yty t) ad (ycf t ad) 26 yX5_run (.code yX5_run cX5_run 4 (some .int) :: sr_tbl) ({ frames := 5, cells := 0, slots := 0, locals := 111 }) [.ref (ad 0), .int a1] M r M' := by
  refine sr_open_i (cc := cX5_run) (maxL := 4) (by decide) rfl (Nat.le_of_ble_eq_true rfl) ?_
  intro p e s m args below meth c A Q ls hx hb hml hts0 hown hA hw hl ret
  have hts : ∀ w ∈ sr_tbl, w.before args s = true := fun w hw => hts0 w (List.mem_cons_of_mem _ hw)
  have hown : s.vm.findClass RX5 = some m.cls := hown
  have hl : lv_has ls 4 [(0, .ref (ad 0)), (1, .int a1)] := hl
  have hw : yH D t ad A s M s.heap [] := hw
  unfold f5_run at h
  refine lv_aload_n hx hb dX5_run_0 rfl (lv_at hl 0 rfl) ?_
  refine sr_geti hx hb hts qzX5 hown hw (yf_0_13 t ad) (hts _ qfX5_95) h dX5_run_1 (fun v1 h => ?_)
  refine lv_if_ne (tgt := 10) hx hb dX5_run_4 (by decide) (fun hc => ?_) (fun hc => ?_)
  · have h := sr_ifn h hc
    refine lv_iload_n hx hb dX5_run_10 rfl (lv_at hl 1 rfl) ?_
    refine lv_if_lt (tgt := 21) hx hb dX5_run_11 (by decide) (fun hc => ?_) (fun hc => ?_)
    · have h := sr_ifp h hc
      refine lv_iconst (v := (-1)) hx hb dX5_run_21 (by decide) ?_
      obtain ⟨rfl, rfl⟩ := Prod.mk.inj (Option.some.inj h)
      exact ret _ _ _ _ hw rfl dX5_run_22
    · have h := sr_ifn h hc
      refine lv_iload_n hx hb dX5_run_14 rfl (lv_at hl 1 rfl) ?_
      refine lv_sipush (v := 200) hx hb dX5_run_15 (by decide) ?_
      refine lv_icmp_le (tgt := 23) hx hb dX5_run_18 (by decide) (fun hc => ?_) (fun hc => ?_)
      · have h := sr_ifp h hc
        refine lv_iconst (v := 0) hx hb dX5_run_23 (by decide) ?_
        refine lv_istore_n (lv' := [(2, .int 0), (0, .ref (ad 0)), (1, .int a1)]) hx hb dX5_run_24 rfl hl (by decide) rfl (fun ls hl => ?_)
        refine lv_aload_n hx hb dX5_run_25 rfl (lv_at hl 1 rfl) ?_
        obtain ⟨v2, hc, h⟩ := sr_bind1 h
        refine sr_cVi (As := []) (rest := []) ⟨hx, hb, hml, hown, hts⟩ (k5_nextThroat l D t ad  M _ hc) (cwV 0 hts (sr_goodV qmX5_171 qiX5_nextThroat qsX5_nextThroat qnX5 qcX5_nextThroat) rfl rfl rfl qdX5_nextThroat ⟨Nat.le_of_ble_eq_true rfl, Nat.le_of_ble_eq_true rfl⟩) hw hA (yo_0 t ad) rfl hl.1 rfl (Nat.le_of_ble_eq_true rfl) dX5_run_26 (fun H locs hw => ?_)
        refine lv_istore_n (lv' := [(3, .int v2), (2, .int 0), (0, .ref (ad 0)), (1, .int a1)]) hx hb dX5_run_29 rfl hl (by decide) rfl (fun ls hl => ?_)
        obtain ⟨x3, hlp, hE3⟩ := sr_bind h
        have hX3 : ∀ (v9 : Int32) (M10 : sr_M), (v9, M10) = x3 → ∀ (H : Heap) (locs : List Loc) (ls : Array Slot), yH D t ad A s M10 H locs → lv_has ls 4 [(2, .int v9)] → W p l e ({ frames := 5, cells := 0, slots := 0, locals := 111 }) s m args below meth c H locs 0 0 Q (F0 m 55 ls []) := by
          intro v9 M10 ex H locs ls hw hl
          have h := hE3 _ ex
          try dsimp only at h
          refine lv_iload_n hx hb dX5_run_55 rfl (lv_at hl 0 rfl) ?_
          obtain ⟨rfl, rfl⟩ := Prod.mk.inj (Option.some.inj h)
          exact ret _ _ _ _ hw rfl dX5_run_56
        refine sr_lp_rule (fun (z3 : Int32 × Int32 × sr_M) => ∀ (H : Heap) (locs : List Loc) (ls : Array Slot), yH D t ad A s z3.2.2 H locs → lv_has ls 4 [(0, .ref (ad 0)), (1, .int a1), (2, .int z3.1), (3, .int z3.2.1)] → W p l e ({ frames := 5, cells := 0, slots := 0, locals := 111 }) s m args below meth c H locs 0 0 Q (F0 m 30 ls [])) ?_ hlp _ _ _ hw (lv_sub hl [2, 3, 1, 0] rfl)
        rintro ⟨v4, v5, M6⟩ y3 h hi3 he3 H locs ls hw hl
        have h : f5_run_L30 a1 v4 v5 M6 = some y3 := h
        have hw : yH D t ad A s M6 H locs := hw
        have hl : lv_has ls 4 [(0, .ref (ad 0)), (1, .int a1), (2, .int v4), (3, .int v5)] := hl
        unfold f5_run_L30 at h
        refine lv_iload_n hx hb dX5_run_30 rfl (lv_at hl 2 rfl) ?_
        refine lv_iload_n hx hb dX5_run_31 rfl (lv_at hl 1 rfl) ?_
        refine lv_icmp_ge (tgt := 55) hx hb dX5_run_32 (by decide) (fun hc => ?_) (fun hc => ?_)
        · have h := sr_ifp h hc
          exact hX3 v4 M6 (he3 _ (Option.some.inj h).symm) _ _ _ hw (lv_sub hl [2] rfl)
        · have h := sr_ifn h hc
          refine lv_iload_n hx hb dX5_run_35 rfl (lv_at hl 3 rfl) ?_
          refine lv_if_lt (tgt := 55) hx hb dX5_run_36 (by decide) (fun hc => ?_) (fun hc => ?_)
          · have h := sr_ifp h hc
            exact hX3 v4 M6 (he3 _ (Option.some.inj h).symm) _ _ _ hw (lv_sub hl [2] rfl)
          · have h := sr_ifn h hc
            refine lv_aload_n hx hb dX5_run_39 rfl (lv_at hl 0 rfl) ?_
            refine lv_iload_n hx hb dX5_run_40 rfl (lv_at hl 3 rfl) ?_
            obtain ⟨M7, hc, h⟩ := sr_bind1 h
            refine sr_cVv (As := [.int v5]) (rest := []) ⟨hx, hb, hml, hown, hts⟩ (k5_open l D t ad v5 M6 _ hc) (cwV 1 hts (sr_goodV qmX5_175 qiX5_open qsX5_open qnX5 qcX5_open) rfl rfl rfl qdX5_open ⟨Nat.le_of_ble_eq_true rfl, Nat.le_of_ble_eq_true rfl⟩) hw hA (yo_0 t ad) rfl hl.1 rfl (Nat.le_of_ble_eq_true rfl) dX5_run_41 (fun H locs hw => ?_)
            refine lv_iinc (v := (v4 + 1)) (lv' := [(2, .int (v4 + 1)), (0, .ref (ad 0)), (1, .int a1), (3, .int v5)]) hx hb dX5_run_44 hl (k := 2) rfl rfl (by decide) rfl (fun ls hl => ?_)
            refine lv_aload_n hx hb dX5_run_47 rfl (lv_at hl 1 rfl) ?_
            obtain ⟨v8, hc, h⟩ := sr_bind1 h
            refine sr_cVi (As := []) (rest := []) ⟨hx, hb, hml, hown, hts⟩ (k5_nextThroat l D t ad  M7 _ hc) (cwV 0 hts (sr_goodV qmX5_171 qiX5_nextThroat qsX5_nextThroat qnX5 qcX5_nextThroat) rfl rfl rfl qdX5_nextThroat ⟨Nat.le_of_ble_eq_true rfl, Nat.le_of_ble_eq_true rfl⟩) hw hA (yo_0 t ad) rfl hl.1 rfl (Nat.le_of_ble_eq_true rfl) dX5_run_48 (fun H locs hw => ?_)
            refine lv_istore_n (lv' := [(3, .int v8), (2, .int (v4 + 1)), (0, .ref (ad 0)), (1, .int a1)]) hx hb dX5_run_51 rfl hl (by decide) rfl (fun ls hl => ?_)
            refine lv_goto (tgt := 30) hx hb dX5_run_52 (by decide) ?_
            exact hi3 ((v4 + 1), v8, M7) (Option.some.inj h).symm _ _ _ hw (lv_sub hl [2, 3, 1, 0] rfl)
      · have h := sr_ifn h hc
        refine lv_iconst (v := (-1)) hx hb dX5_run_21 (by decide) ?_
        obtain ⟨rfl, rfl⟩ := Prod.mk.inj (Option.some.inj h)
        exact ret _ _ _ _ hw rfl dX5_run_22
  · have h := sr_ifp h hc
    refine lv_bipush (v := (-6)) hx hb dX5_run_7 (by decide) ?_
    obtain ⟨rfl, rfl⟩ := Prod.mk.inj (Option.some.inj h)
    exact ret _ _ _ _ hw rfl dX5_run_9

noncomputable def f5_undo_L36 (v6 : Int32) (M7 : sr_M) : Option ((Int32 × sr_M) ⊕ (sr_M)) :=
sr_bnd (M7.1 0 0) fun v8 =>
if v8 ≤ v6 then
(some (.inr M7))
else
(sr_ld v6 120 (M7.1 12) fun v9 =>
sr_bnd (M7.1 0 14) fun v10 =>
sr_jn (fun (M12 : sr_M) =>
sr_ld v6 120 (M12.1 14) fun v13 =>
sr_bnd (M12.1 0 14) fun v14 =>
sr_jn (fun (v16 : Int32) =>
sr_st v6 120 M12 14 v16 fun M17 =>
some (.inl ((v6 + 1), M17))) fun (K15 : Int32 → Option ((Int32 × sr_M) ⊕ (sr_M))) =>
if v13 ≤ v14 then
(sr_ld v6 120 (M12.1 14) fun v18 =>
K15 v18)
else
(K15 (-1))) fun (K11 : sr_M → Option ((Int32 × sr_M) ⊕ (sr_M))) =>
if v9 ≤ v10 then
(K11 M7)
else
(sr_st v6 120 M7 12 (-1) fun M19 =>
sr_st v6 120 M19 13 (-1) fun M20 =>
K11 M20))
noncomputable def f5_undo (a1 : Int32) (M : sr_M) : Option (Int32 × sr_M) :=
sr_bnd (M.1 0 13) fun v1 =>
if v1 = 0 then
(some ((-6), M))
else
(if a1 < 0 then
(some ((-1), M))
else
(sr_bnd (M.1 0 14) fun v2 =>
if a1 ≤ v2 then
(sr_bnd (M.1 0 14) fun v3 =>
sr_put M 0 14 (v3 - a1) fun M4 =>
(sr_lp (fun z5 : Int32 × sr_M => f5_undo_L36 z5.1 z5.2) (0, M4)).bind fun w5 =>
sr_bnd (w5.1 0 14) fun v22 =>
some (v22, w5))
else
(some ((-1), M))))
set_option maxHeartbeats 4000000 in
set_option maxRecDepth 100000 in
theorem k5_undo (l : Launch) (D : va_G) (t : Nat → ClassId) (ad : Nat → Nat) (a1 : Int32) (M : sr_M) (r : Int32) (M' : sr_M) (h : f5_undo a1 M = some (r, M')) : sr_Mi l D vwCl (yty t) ad (ycf t ad) 26 yX5_undo (.code yX5_undo cX5_undo 3 (some .int) :: sr_tbl) ({ frames := 0, cells := 0, slots := 0, locals := 0 }) [.ref (ad 0), .int a1] M r M' := by
  refine sr_open_i (cc := cX5_undo) (maxL := 3) (by decide) rfl (Nat.le_of_ble_eq_true rfl) ?_
  intro p e s m args below meth c A Q ls hx hb hml hts0 hown hA hw hl ret
  have hts : ∀ w ∈ sr_tbl, w.before args s = true := fun w hw => hts0 w (List.mem_cons_of_mem _ hw)
  have hown : s.vm.findClass RX5 = some m.cls := hown
  have hl : lv_has ls 3 [(0, .ref (ad 0)), (1, .int a1)] := hl
  have hw : yH D t ad A s M s.heap [] := hw
  unfold f5_undo at h
  refine lv_aload_n hx hb dX5_undo_0 rfl (lv_at hl 0 rfl) ?_
  refine sr_geti hx hb hts qzX5 hown hw (yf_0_13 t ad) (hts _ qfX5_95) h dX5_undo_1 (fun v1 h => ?_)
  refine lv_if_ne (tgt := 10) hx hb dX5_undo_4 (by decide) (fun hc => ?_) (fun hc => ?_)
  · have h := sr_ifn h hc
    refine lv_iload_n hx hb dX5_undo_10 rfl (lv_at hl 1 rfl) ?_
    refine lv_if_lt (tgt := 22) hx hb dX5_undo_11 (by decide) (fun hc => ?_) (fun hc => ?_)
    · have h := sr_ifp h hc
      refine lv_iconst (v := (-1)) hx hb dX5_undo_22 (by decide) ?_
      obtain ⟨rfl, rfl⟩ := Prod.mk.inj (Option.some.inj h)
      exact ret _ _ _ _ hw rfl dX5_undo_23
    · have h := sr_ifn h hc
      refine lv_iload_n hx hb dX5_undo_14 rfl (lv_at hl 1 rfl) ?_
      refine lv_aload_n hx hb dX5_undo_15 rfl (lv_at hl 0 rfl) ?_
      refine sr_geti hx hb hts qzX5 hown hw (yf_0_14 t ad) (hts _ qfX5_152) h dX5_undo_16 (fun v2 h => ?_)
      refine lv_icmp_le (tgt := 24) hx hb dX5_undo_19 (by decide) (fun hc => ?_) (fun hc => ?_)
      · have h := sr_ifp h hc
        refine lv_aload_n hx hb dX5_undo_24 rfl (lv_at hl 0 rfl) ?_
        refine lv_dup hx hb dX5_undo_25 rfl ?_
        refine sr_geti hx hb hts qzX5 hown hw (yf_0_14 t ad) (hts _ qfX5_152) h dX5_undo_26 (fun v3 h => ?_)
        refine lv_iload_n hx hb dX5_undo_29 rfl (lv_at hl 1 rfl) ?_
        refine lv_isub hx hb dX5_undo_30 ?_
        refine sr_puti hx hb hts qzX5 tyX5 tyX5_ok nmX5 hown hw (yf_0_14 t ad) rfl rfl (hts _ qfX5_152) h dX5_undo_31 (fun M4 H locs h hw => ?_)
        refine lv_iconst (v := 0) hx hb dX5_undo_34 (by decide) ?_
        refine lv_istore_n (lv' := [(2, .int 0), (0, .ref (ad 0)), (1, .int a1)]) hx hb dX5_undo_35 rfl hl (by decide) rfl (fun ls hl => ?_)
        obtain ⟨x5, hlp, hE5⟩ := sr_bind h
        have hX5 : ∀ (M21 : sr_M), M21 = x5 → ∀ (H : Heap) (locs : List Loc) (ls : Array Slot), yH D t ad A s M21 H locs → lv_has ls 3 [(0, .ref (ad 0))] → W p l e ({ frames := 0, cells := 0, slots := 0, locals := 0 }) s m args below meth c H locs 0 0 Q (F0 m 106 ls []) := by
          intro M21 ex H locs ls hw hl
          have h := hE5 _ ex
          try dsimp only at h
          refine lv_aload_n hx hb dX5_undo_106 rfl (lv_at hl 0 rfl) ?_
          refine sr_geti hx hb hts qzX5 hown hw (yf_0_14 t ad) (hts _ qfX5_152) h dX5_undo_107 (fun v22 h => ?_)
          obtain ⟨rfl, rfl⟩ := Prod.mk.inj (Option.some.inj h)
          exact ret _ _ _ _ hw rfl dX5_undo_110
        refine sr_lp_rule (fun (z5 : Int32 × sr_M) => ∀ (H : Heap) (locs : List Loc) (ls : Array Slot), yH D t ad A s z5.2 H locs → lv_has ls 3 [(0, .ref (ad 0)), (2, .int z5.1)] → W p l e ({ frames := 0, cells := 0, slots := 0, locals := 0 }) s m args below meth c H locs 0 0 Q (F0 m 36 ls [])) ?_ hlp _ _ _ hw (lv_sub hl [1, 0] rfl)
        rintro ⟨v6, M7⟩ y5 h hi5 he5 H locs ls hw hl
        have h : f5_undo_L36 v6 M7 = some y5 := h
        have hw : yH D t ad A s M7 H locs := hw
        have hl : lv_has ls 3 [(0, .ref (ad 0)), (2, .int v6)] := hl
        unfold f5_undo_L36 at h
        refine lv_iload_n hx hb dX5_undo_36 rfl (lv_at hl 1 rfl) ?_
        refine lv_aload_n hx hb dX5_undo_37 rfl (lv_at hl 0 rfl) ?_
        refine sr_geti hx hb hts qzX5 hown hw (yf_0_0 t ad) (hts _ qfX5_88) h dX5_undo_38 (fun v8 h => ?_)
        refine lv_icmp_ge (tgt := 106) hx hb dX5_undo_41 (by decide) (fun hc => ?_) (fun hc => ?_)
        · have h := sr_ifp h hc
          exact hX5  M7 (he5 _ (Option.some.inj h).symm) _ _ _ hw (lv_sub hl [0] rfl)
        · have h := sr_ifn h hc
          refine lv_aload_n hx hb dX5_undo_44 rfl (lv_at hl 0 rfl) ?_
          refine sr_getr hx hb hts qzX5 hown hw (yf_0_16 t ad) (hts _ qfX5_46) dX5_undo_45 ?_
          refine lv_iload_n hx hb dX5_undo_48 rfl (lv_at hl 1 rfl) ?_
          refine sr_iald hx hb hw (ya_12 t ad) h dX5_undo_49 (fun v9 h => ?_)
          refine lv_aload_n hx hb dX5_undo_50 rfl (lv_at hl 0 rfl) ?_
          refine sr_geti hx hb hts qzX5 hown hw (yf_0_14 t ad) (hts _ qfX5_152) h dX5_undo_51 (fun v10 h => ?_)
          refine sr_jn_rule (fun (K11 : sr_M → Option ((Int32 × sr_M) ⊕ (sr_M))) => ∀ (M12 : sr_M), K11 M12 = some y5 → ∀ (H : Heap) (locs : List Loc) (ls : Array Slot), yH D t ad A s M12 H locs → lv_has ls 3 [(0, .ref (ad 0)), (2, .int v6)] → W p l e ({ frames := 0, cells := 0, slots := 0, locals := 0 }) s m args below meth c H locs 0 0 Q (F0 m 71 ls [])) h ?_ (fun K11 hK11 h => ?_)
          · intro M12 h H locs ls hw hl
            refine lv_aload_n hx hb dX5_undo_71 rfl (lv_at hl 0 rfl) ?_
            refine sr_getr hx hb hts qzX5 hown hw (yf_0_18 t ad) (hts _ qfX5_52) dX5_undo_72 ?_
            refine lv_iload_n hx hb dX5_undo_75 rfl (lv_at hl 1 rfl) ?_
            refine lv_aload_n hx hb dX5_undo_76 rfl (lv_at hl 0 rfl) ?_
            refine sr_getr hx hb hts qzX5 hown hw (yf_0_18 t ad) (hts _ qfX5_52) dX5_undo_77 ?_
            refine lv_iload_n hx hb dX5_undo_80 rfl (lv_at hl 1 rfl) ?_
            refine sr_iald hx hb hw (ya_14 t ad) h dX5_undo_81 (fun v13 h => ?_)
            refine lv_aload_n hx hb dX5_undo_82 rfl (lv_at hl 0 rfl) ?_
            refine sr_geti hx hb hts qzX5 hown hw (yf_0_14 t ad) (hts _ qfX5_152) h dX5_undo_83 (fun v14 h => ?_)
            refine sr_jn_rule (fun (K15 : Int32 → Option ((Int32 × sr_M) ⊕ (sr_M))) => ∀ (v16 : Int32), K15 v16 = some y5 → ∀ (H : Heap) (locs : List Loc) (ls : Array Slot), yH D t ad A s M12 H locs → lv_has ls 3 [(0, .ref (ad 0)), (2, .int v6)] → W p l e ({ frames := 0, cells := 0, slots := 0, locals := 0 }) s m args below meth c H locs 0 0 Q (F0 m 99 ls [.int v16, .int v6, .ref (ad 14)])) h ?_ (fun K15 hK15 h => ?_)
            · intro v16 h H locs ls hw hl
              refine sr_iast hx hb hw (ya_14 t ad) h dX5_undo_99 (fun M17 H locs h hw => ?_)
              refine lv_iinc (v := (v6 + 1)) (lv' := [(2, .int (v6 + 1)), (0, .ref (ad 0))]) hx hb dX5_undo_100 hl (k := 1) rfl rfl (by decide) rfl (fun ls hl => ?_)
              refine lv_goto (tgt := 36) hx hb dX5_undo_103 (by decide) ?_
              exact hi5 ((v6 + 1), M17) (Option.some.inj h).symm _ _ _ hw (lv_sub hl [1, 0] rfl)
            · refine lv_icmp_le (tgt := 93) hx hb dX5_undo_86 (by decide) (fun hc => ?_) (fun hc => ?_)
              · have h := sr_ifp h hc
                refine lv_aload_n hx hb dX5_undo_93 rfl (lv_at hl 0 rfl) ?_
                refine sr_getr hx hb hts qzX5 hown hw (yf_0_18 t ad) (hts _ qfX5_52) dX5_undo_94 ?_
                refine lv_iload_n hx hb dX5_undo_97 rfl (lv_at hl 1 rfl) ?_
                refine sr_iald hx hb hw (ya_14 t ad) h dX5_undo_98 (fun v18 h => ?_)
                exact hK15 v18 h _ _ _ hw (lv_sub hl [0, 1] rfl)
              · have h := sr_ifn h hc
                refine lv_iconst (v := (-1)) hx hb dX5_undo_89 (by decide) ?_
                refine lv_goto (tgt := 99) hx hb dX5_undo_90 (by decide) ?_
                exact hK15 (-1) h _ _ _ hw (lv_sub hl [0, 1] rfl)
          · refine lv_icmp_le (tgt := 71) hx hb dX5_undo_54 (by decide) (fun hc => ?_) (fun hc => ?_)
            · have h := sr_ifp h hc
              exact hK11 M7 h _ _ _ hw (lv_sub hl [0, 1] rfl)
            · have h := sr_ifn h hc
              refine lv_aload_n hx hb dX5_undo_57 rfl (lv_at hl 0 rfl) ?_
              refine sr_getr hx hb hts qzX5 hown hw (yf_0_16 t ad) (hts _ qfX5_46) dX5_undo_58 ?_
              refine lv_iload_n hx hb dX5_undo_61 rfl (lv_at hl 1 rfl) ?_
              refine lv_iconst (v := (-1)) hx hb dX5_undo_62 (by decide) ?_
              refine sr_iast hx hb hw (ya_12 t ad) h dX5_undo_63 (fun M19 H locs h hw => ?_)
              refine lv_aload_n hx hb dX5_undo_64 rfl (lv_at hl 0 rfl) ?_
              refine sr_getr hx hb hts qzX5 hown hw (yf_0_17 t ad) (hts _ qfX5_49) dX5_undo_65 ?_
              refine lv_iload_n hx hb dX5_undo_68 rfl (lv_at hl 1 rfl) ?_
              refine lv_iconst (v := (-1)) hx hb dX5_undo_69 (by decide) ?_
              refine sr_iast hx hb hw (ya_13 t ad) h dX5_undo_70 (fun M20 H locs h hw => ?_)
              exact hK11 M20 h _ _ _ hw (lv_sub hl [0, 1] rfl)
      · have h := sr_ifn h hc
        refine lv_iconst (v := (-1)) hx hb dX5_undo_22 (by decide) ?_
        obtain ⟨rfl, rfl⟩ := Prod.mk.inj (Option.some.inj h)
        exact ret _ _ _ _ hw rfl dX5_undo_23
  · have h := sr_ifp h hc
    refine lv_bipush (v := (-6)) hx hb dX5_undo_7 (by decide) ?_
    obtain ⟨rfl, rfl⟩ := Prod.mk.inj (Option.some.inj h)
    exact ret _ _ _ _ hw rfl dX5_undo_9

noncomputable def f5_opened (a1 : Int32) (M : sr_M) : Option (Int32) :=
sr_bnd (M.1 0 13) fun v1 =>
if v1 = 0 then
(some (-1))
else
(if a1 < 1 then
(some (-1))
else
(sr_bnd (M.1 0 14) fun v2 =>
if a1 ≤ v2 then
(sr_ld a1 121 (M.1 11) fun v3 =>
some v3)
else
(some (-1))))
set_option maxHeartbeats 4000000 in
set_option maxRecDepth 100000 in
theorem k5_opened (l : Launch) (D : va_G) (t : Nat → ClassId) (ad : Nat → Nat) (a1 : Int32) (M : sr_M) (r : Int32) (h : f5_opened a1 M = some r) : sr_Mi l D vwCl (yty t) ad (ycf t ad) 26 yX5_opened (.code yX5_opened cX5_opened 2 (some .int) :: sr_tbl) ({ frames := 0, cells := 0, slots := 0, locals := 0 }) [.ref (ad 0), .int a1] M r M := by
  refine sr_open_i (cc := cX5_opened) (maxL := 2) (by decide) rfl (Nat.le_of_ble_eq_true rfl) ?_
  intro p e s m args below meth c A Q ls hx hb hml hts0 hown hA hw hl ret
  have hts : ∀ w ∈ sr_tbl, w.before args s = true := fun w hw => hts0 w (List.mem_cons_of_mem _ hw)
  have hown : s.vm.findClass RX5 = some m.cls := hown
  have hl : lv_has ls 2 [(0, .ref (ad 0)), (1, .int a1)] := hl
  have hw : yH D t ad A s M s.heap [] := hw
  unfold f5_opened at h
  refine lv_aload_n hx hb dX5_opened_0 rfl (lv_at hl 0 rfl) ?_
  refine sr_geti hx hb hts qzX5 hown hw (yf_0_13 t ad) (hts _ qfX5_95) h dX5_opened_1 (fun v1 h => ?_)
  refine lv_if_eq (tgt := 20) hx hb dX5_opened_4 (by decide) (fun hc => ?_) (fun hc => ?_)
  · have h := sr_ifp h hc
    refine lv_iconst (v := (-1)) hx hb dX5_opened_20 (by decide) ?_
    refine lv_goto (tgt := 30) hx hb dX5_opened_21 (by decide) ?_
    obtain rfl := Option.some.inj h
    exact ret _ _ _ _ hw rfl dX5_opened_30
  · have h := sr_ifn h hc
    refine lv_iload_n hx hb dX5_opened_7 rfl (lv_at hl 1 rfl) ?_
    refine lv_iconst (v := 1) hx hb dX5_opened_8 (by decide) ?_
    refine lv_icmp_lt (tgt := 20) hx hb dX5_opened_9 (by decide) (fun hc => ?_) (fun hc => ?_)
    · have h := sr_ifp h hc
      refine lv_iconst (v := (-1)) hx hb dX5_opened_20 (by decide) ?_
      refine lv_goto (tgt := 30) hx hb dX5_opened_21 (by decide) ?_
      obtain rfl := Option.some.inj h
      exact ret _ _ _ _ hw rfl dX5_opened_30
    · have h := sr_ifn h hc
      refine lv_iload_n hx hb dX5_opened_12 rfl (lv_at hl 1 rfl) ?_
      refine lv_aload_n hx hb dX5_opened_13 rfl (lv_at hl 0 rfl) ?_
      refine sr_geti hx hb hts qzX5 hown hw (yf_0_14 t ad) (hts _ qfX5_152) h dX5_opened_14 (fun v2 h => ?_)
      refine lv_icmp_le (tgt := 24) hx hb dX5_opened_17 (by decide) (fun hc => ?_) (fun hc => ?_)
      · have h := sr_ifp h hc
        refine lv_aload_n hx hb dX5_opened_24 rfl (lv_at hl 0 rfl) ?_
        refine sr_getr hx hb hts qzX5 hown hw (yf_0_15 t ad) (hts _ qfX5_43) dX5_opened_25 ?_
        refine lv_iload_n hx hb dX5_opened_28 rfl (lv_at hl 1 rfl) ?_
        refine sr_iald hx hb hw (ya_11 t ad) h dX5_opened_29 (fun v3 h => ?_)
        obtain rfl := Option.some.inj h
        exact ret _ _ _ _ hw rfl dX5_opened_30
      · have h := sr_ifn h hc
        refine lv_iconst (v := (-1)) hx hb dX5_opened_20 (by decide) ?_
        refine lv_goto (tgt := 30) hx hb dX5_opened_21 (by decide) ?_
        obtain rfl := Option.some.inj h
        exact ret _ _ _ _ hw rfl dX5_opened_30

noncomputable def f5_now (a1 : Int32) (a2 : Int32) (M : sr_M) : Option (Int32 × sr_M) :=
sr_bnd (M.1 0 13) fun v1 =>
if v1 = 0 then
(some ((-6), M))
else
((f5_isPore a1 M).bind fun v2 =>
if v2 = 0 then
(some ((-2), M))
else
(if a2 < 0 then
(some ((-2), M))
else
(if a2 ≤ 3 then
((f5_tellLakes M).bind fun M3 =>
if a2 = 0 then
(sr_ld a1 120 (M3.1 12) fun v7 =>
some (v7, M3))
else
(if a2 = 1 then
(sr_ld a1 120 (M3.1 13) fun v6 =>
some (v6, M3))
else
(if a2 = 2 then
(sr_ld a1 120 (M3.1 14) fun v5 =>
some (v5, M3))
else
(sr_ld a1 120 (M3.1 19) fun v4 =>
some (v4, M3)))))
else
(some ((-2), M)))))
set_option maxHeartbeats 4000000 in
set_option maxRecDepth 100000 in
theorem k5_now (l : Launch) (D : va_G) (t : Nat → ClassId) (ad : Nat → Nat) (a1 : Int32) (a2 : Int32) (M : sr_M) (r : Int32) (M' : sr_M) (h : f5_now a1 a2 M = some (r, M')) : sr_Mi l D vwCl (yty t) ad (ycf t ad) 26 yX5_now (.code yX5_now cX5_now 3 (some .int) :: sr_tbl) ({ frames := 2, cells := 0, slots := 0, locals := 48 }) [.ref (ad 0), .int a1, .int a2] M r M' := by
  refine sr_open_i (cc := cX5_now) (maxL := 3) (by decide) rfl (Nat.le_of_ble_eq_true rfl) ?_
  intro p e s m args below meth c A Q ls hx hb hml hts0 hown hA hw hl ret
  have hts : ∀ w ∈ sr_tbl, w.before args s = true := fun w hw => hts0 w (List.mem_cons_of_mem _ hw)
  have hown : s.vm.findClass RX5 = some m.cls := hown
  have hl : lv_has ls 3 [(0, .ref (ad 0)), (1, .int a1), (2, .int a2)] := hl
  have hw : yH D t ad A s M s.heap [] := hw
  unfold f5_now at h
  refine lv_aload_n hx hb dX5_now_0 rfl (lv_at hl 0 rfl) ?_
  refine sr_geti hx hb hts qzX5 hown hw (yf_0_13 t ad) (hts _ qfX5_95) h dX5_now_1 (fun v1 h => ?_)
  refine lv_if_ne (tgt := 10) hx hb dX5_now_4 (by decide) (fun hc => ?_) (fun hc => ?_)
  · have h := sr_ifn h hc
    refine lv_aload_n hx hb dX5_now_10 rfl (lv_at hl 0 rfl) ?_
    refine lv_iload_n hx hb dX5_now_11 rfl (lv_at hl 1 rfl) ?_
    obtain ⟨v2, hc, h⟩ := sr_bind1 h
    refine sr_cVi (As := [.int a1]) (rest := []) ⟨hx, hb, hml, hown, hts⟩ (k5_isPore l D t ad a1 M _ hc) (cwV 1 hts (sr_goodV qmX5_99 qiX5_isPore qsX5_isPore qnX5 qcX5_isPore) rfl rfl rfl qdX5_isPore ⟨Nat.le_of_ble_eq_true rfl, Nat.le_of_ble_eq_true rfl⟩) hw hA (yo_0 t ad) rfl hl.1 rfl (Nat.le_of_ble_eq_true rfl) dX5_now_12 (fun H locs hw => ?_)
    refine lv_if_eq (tgt := 27) hx hb dX5_now_15 (by decide) (fun hc => ?_) (fun hc => ?_)
    · have h := sr_ifp h hc
      refine lv_bipush (v := (-2)) hx hb dX5_now_27 (by decide) ?_
      obtain ⟨rfl, rfl⟩ := Prod.mk.inj (Option.some.inj h)
      exact ret _ _ _ _ hw rfl dX5_now_29
    · have h := sr_ifn h hc
      refine lv_iload_n hx hb dX5_now_18 rfl (lv_at hl 2 rfl) ?_
      refine lv_if_lt (tgt := 27) hx hb dX5_now_19 (by decide) (fun hc => ?_) (fun hc => ?_)
      · have h := sr_ifp h hc
        refine lv_bipush (v := (-2)) hx hb dX5_now_27 (by decide) ?_
        obtain ⟨rfl, rfl⟩ := Prod.mk.inj (Option.some.inj h)
        exact ret _ _ _ _ hw rfl dX5_now_29
      · have h := sr_ifn h hc
        refine lv_iload_n hx hb dX5_now_22 rfl (lv_at hl 2 rfl) ?_
        refine lv_iconst (v := 3) hx hb dX5_now_23 (by decide) ?_
        refine lv_icmp_le (tgt := 30) hx hb dX5_now_24 (by decide) (fun hc => ?_) (fun hc => ?_)
        · have h := sr_ifp h hc
          refine lv_aload_n hx hb dX5_now_30 rfl (lv_at hl 0 rfl) ?_
          obtain ⟨M3, hc, h⟩ := sr_bind1 h
          refine sr_cVv (As := []) (rest := []) ⟨hx, hb, hml, hown, hts⟩ (k5_tellLakes l D t ad  M _ hc) (cwV 0 hts (sr_goodV qmX5_191 qiX5_tellLakes qsX5_tellLakes qnX5 qcX5_tellLakes) rfl rfl rfl qdX5_tellLakes ⟨Nat.le_of_ble_eq_true rfl, Nat.le_of_ble_eq_true rfl⟩) hw hA (yo_0 t ad) rfl hl.1 rfl (Nat.le_of_ble_eq_true rfl) dX5_now_31 (fun H locs hw => ?_)
          refine lv_iload_n hx hb dX5_now_34 rfl (lv_at hl 2 rfl) ?_
          refine lv_if_ne (tgt := 47) hx hb dX5_now_35 (by decide) (fun hc => ?_) (fun hc => ?_)
          · have h := sr_ifn h hc
            refine lv_iload_n hx hb dX5_now_47 rfl (lv_at hl 2 rfl) ?_
            refine lv_iconst (v := 1) hx hb dX5_now_48 (by decide) ?_
            refine lv_icmp_ne (tgt := 61) hx hb dX5_now_49 (by decide) (fun hc => ?_) (fun hc => ?_)
            · have h := sr_ifn h hc
              refine lv_iload_n hx hb dX5_now_61 rfl (lv_at hl 2 rfl) ?_
              refine lv_iconst (v := 2) hx hb dX5_now_62 (by decide) ?_
              refine lv_icmp_ne (tgt := 75) hx hb dX5_now_63 (by decide) (fun hc => ?_) (fun hc => ?_)
              · have h := sr_ifn h hc
                refine lv_aload_n hx hb dX5_now_75 rfl (lv_at hl 0 rfl) ?_
                refine sr_getr hx hb hts qzX5 hown hw (yf_0_24 t ad) (hts _ qfX5_67) dX5_now_76 ?_
                refine lv_iload_n hx hb dX5_now_79 rfl (lv_at hl 1 rfl) ?_
                refine sr_iald hx hb hw (ya_19 t ad) h dX5_now_80 (fun v4 h => ?_)
                obtain ⟨rfl, rfl⟩ := Prod.mk.inj (Option.some.inj h)
                exact ret _ _ _ _ hw rfl dX5_now_81
              · have h := sr_ifp h hc
                refine lv_aload_n hx hb dX5_now_66 rfl (lv_at hl 0 rfl) ?_
                refine sr_getr hx hb hts qzX5 hown hw (yf_0_18 t ad) (hts _ qfX5_52) dX5_now_67 ?_
                refine lv_iload_n hx hb dX5_now_70 rfl (lv_at hl 1 rfl) ?_
                refine sr_iald hx hb hw (ya_14 t ad) h dX5_now_71 (fun v5 h => ?_)
                refine lv_goto (tgt := 81) hx hb dX5_now_72 (by decide) ?_
                obtain ⟨rfl, rfl⟩ := Prod.mk.inj (Option.some.inj h)
                exact ret _ _ _ _ hw rfl dX5_now_81
            · have h := sr_ifp h hc
              refine lv_aload_n hx hb dX5_now_52 rfl (lv_at hl 0 rfl) ?_
              refine sr_getr hx hb hts qzX5 hown hw (yf_0_17 t ad) (hts _ qfX5_49) dX5_now_53 ?_
              refine lv_iload_n hx hb dX5_now_56 rfl (lv_at hl 1 rfl) ?_
              refine sr_iald hx hb hw (ya_13 t ad) h dX5_now_57 (fun v6 h => ?_)
              refine lv_goto (tgt := 81) hx hb dX5_now_58 (by decide) ?_
              obtain ⟨rfl, rfl⟩ := Prod.mk.inj (Option.some.inj h)
              exact ret _ _ _ _ hw rfl dX5_now_81
          · have h := sr_ifp h hc
            refine lv_aload_n hx hb dX5_now_38 rfl (lv_at hl 0 rfl) ?_
            refine sr_getr hx hb hts qzX5 hown hw (yf_0_16 t ad) (hts _ qfX5_46) dX5_now_39 ?_
            refine lv_iload_n hx hb dX5_now_42 rfl (lv_at hl 1 rfl) ?_
            refine sr_iald hx hb hw (ya_12 t ad) h dX5_now_43 (fun v7 h => ?_)
            refine lv_goto (tgt := 81) hx hb dX5_now_44 (by decide) ?_
            obtain ⟨rfl, rfl⟩ := Prod.mk.inj (Option.some.inj h)
            exact ret _ _ _ _ hw rfl dX5_now_81
        · have h := sr_ifn h hc
          refine lv_bipush (v := (-2)) hx hb dX5_now_27 (by decide) ?_
          obtain ⟨rfl, rfl⟩ := Prod.mk.inj (Option.some.inj h)
          exact ret _ _ _ _ hw rfl dX5_now_29
  · have h := sr_ifp h hc
    refine lv_bipush (v := (-6)) hx hb dX5_now_7 (by decide) ?_
    obtain ⟨rfl, rfl⟩ := Prod.mk.inj (Option.some.inj h)
    exact ret _ _ _ _ hw rfl dX5_now_9

noncomputable def f5_front_L28 (M : sr_M) (v3 : Int32) (v6 : Int32) (v7 : Int32) : Option ((Int32 × Int32) ⊕ (Int32)) :=
sr_bnd (M.1 0 3) fun v8 =>
if v8 ≤ v7 then
(some (.inr v6))
else
((f5_isCandidate v7 M).bind fun v9 =>
sr_jn (some (.inl ((v6 + 0), (v7 + 1)))) fun (K10 : Option ((Int32 × Int32) ⊕ (Int32))) =>
if v9 = 0 then
(K10)
else
((f5_isLess v7 v3 M).bind fun v11 =>
if v11 = 0 then
(K10)
else
(some (.inl ((v6 + 1), (v7 + 1))))))
noncomputable def f5_front_L15 (a1 : Int32) (M : sr_M) (v3 : Int32) : Option ((Int32) ⊕ ((Unit) ⊕ (Int32))) :=
sr_bnd (M.1 0 3) fun v4 =>
if v4 ≤ v3 then
(some (.inr (.inl ())))
else
((sr_lp (fun z5 : Int32 × Int32 => f5_front_L28 M v3 z5.1 z5.2) (0, 0)).bind fun w5 =>
(f5_isCandidate v3 M).bind fun v13 =>
if v13 = 0 then
(some (.inl ((v3 + 1))))
else
(if w5 = a1 then
(some (.inr (.inr v3)))
else
(some (.inl ((v3 + 1))))))
noncomputable def f5_front (a1 : Int32) (M : sr_M) : Option (Int32) :=
sr_bnd (M.1 0 13) fun v1 =>
if v1 = 0 then
(some (-1))
else
(if 0 ≤ a1 then
((sr_lp (fun z2 : Int32 => f5_front_L15 a1 M z2) 0).bind (sr_se (fun w2 =>
some (-1))
(fun q2 => some q2)))
else
(some (-1)))
set_option maxHeartbeats 4000000 in
set_option maxRecDepth 100000 in
theorem k5_front (l : Launch) (D : va_G) (t : Nat → ClassId) (ad : Nat → Nat) (a1 : Int32) (M : sr_M) (r : Int32) (h : f5_front a1 M = some r) : sr_Mi l D vwCl (yty t) ad (ycf t ad) 26 yX5_front (.code yX5_front cX5_front 5 (some .int) :: sr_tbl) ({ frames := 3, cells := 0, slots := 0, locals := 64 }) [.ref (ad 0), .int a1] M r M := by
  refine sr_open_i (cc := cX5_front) (maxL := 5) (by decide) rfl (Nat.le_of_ble_eq_true rfl) ?_
  intro p e s m args below meth c A Q ls hx hb hml hts0 hown hA hw hl ret
  have hts : ∀ w ∈ sr_tbl, w.before args s = true := fun w hw => hts0 w (List.mem_cons_of_mem _ hw)
  have hown : s.vm.findClass RX5 = some m.cls := hown
  have hl : lv_has ls 5 [(0, .ref (ad 0)), (1, .int a1)] := hl
  have hw : yH D t ad A s M s.heap [] := hw
  unfold f5_front at h
  refine lv_aload_n hx hb dX5_front_0 rfl (lv_at hl 0 rfl) ?_
  refine sr_geti hx hb hts qzX5 hown hw (yf_0_13 t ad) (hts _ qfX5_95) h dX5_front_1 (fun v1 h => ?_)
  refine lv_if_eq (tgt := 11) hx hb dX5_front_4 (by decide) (fun hc => ?_) (fun hc => ?_)
  · have h := sr_ifp h hc
    refine lv_iconst (v := (-1)) hx hb dX5_front_11 (by decide) ?_
    obtain rfl := Option.some.inj h
    exact ret _ _ _ _ hw rfl dX5_front_12
  · have h := sr_ifn h hc
    refine lv_iload_n hx hb dX5_front_7 rfl (lv_at hl 1 rfl) ?_
    refine lv_if_ge (tgt := 13) hx hb dX5_front_8 (by decide) (fun hc => ?_) (fun hc => ?_)
    · have h := sr_ifp h hc
      refine lv_iconst (v := 0) hx hb dX5_front_13 (by decide) ?_
      refine lv_istore_n (lv' := [(2, .int 0), (0, .ref (ad 0)), (1, .int a1)]) hx hb dX5_front_14 rfl hl (by decide) rfl (fun ls hl => ?_)
      obtain ⟨x2, hlp, hE2⟩ := sr_bind h
      have hX2 : ∀ (_u : Unit), Sum.inl _u = x2 → ∀ (H : Heap) (locs : List Loc) (ls : Array Slot), yH D t ad A s M H locs → lv_has ls 5 [] → W p l e ({ frames := 3, cells := 0, slots := 0, locals := 64 }) s m args below meth c H locs 0 0 Q (F0 m 91 ls []) := by
        intro _u ex H locs ls hw hl
        have h := sr_sel (hE2 _ ex)
        try dsimp only at h
        refine lv_iconst (v := (-1)) hx hb dX5_front_91 (by decide) ?_
        obtain rfl := Option.some.inj h
        exact ret _ _ _ _ hw rfl dX5_front_92
      refine sr_lp_rule (fun (z2 : Int32) => ∀ (H : Heap) (locs : List Loc) (ls : Array Slot), yH D t ad A s M H locs → lv_has ls 5 [(0, .ref (ad 0)), (1, .int a1), (2, .int z2)] → W p l e ({ frames := 3, cells := 0, slots := 0, locals := 64 }) s m args below meth c H locs 0 0 Q (F0 m 15 ls [])) ?_ hlp _ _ _ hw (lv_sub hl [1, 2, 0] rfl)
      rintro v3 y2 h hi2 he2 H locs ls hw hl
      have h : f5_front_L15 a1 M v3 = some y2 := h
      have hw : yH D t ad A s M H locs := hw
      have hl : lv_has ls 5 [(0, .ref (ad 0)), (1, .int a1), (2, .int v3)] := hl
      unfold f5_front_L15 at h
      refine lv_iload_n hx hb dX5_front_15 rfl (lv_at hl 2 rfl) ?_
      refine lv_aload_n hx hb dX5_front_16 rfl (lv_at hl 0 rfl) ?_
      refine sr_geti hx hb hts qzX5 hown hw (yf_0_3 t ad) (hts _ qfX5_92) h dX5_front_17 (fun v4 h => ?_)
      refine lv_icmp_ge (tgt := 91) hx hb dX5_front_20 (by decide) (fun hc => ?_) (fun hc => ?_)
      · have h := sr_ifp h hc
        exact hX2 () (he2 _ (Option.some.inj h).symm) _ _ _ hw (lv_sub hl [] rfl)
      · have h := sr_ifn h hc
        refine lv_iconst (v := 0) hx hb dX5_front_23 (by decide) ?_
        refine lv_istore_n (lv' := [(3, .int 0), (0, .ref (ad 0)), (1, .int a1), (2, .int v3)]) hx hb dX5_front_24 rfl hl (by decide) rfl (fun ls hl => ?_)
        refine lv_iconst (v := 0) hx hb dX5_front_25 (by decide) ?_
        refine lv_istore (lv' := [(4, .int 0), (3, .int 0), (0, .ref (ad 0)), (1, .int a1), (2, .int v3)]) hx hb dX5_front_26 hl (by decide) rfl (fun ls hl => ?_)
        obtain ⟨x5, hlp, hE5⟩ := sr_bind h
        have hX5 : ∀ (v12 : Int32), v12 = x5 → ∀ (H : Heap) (locs : List Loc) (ls : Array Slot), yH D t ad A s M H locs → lv_has ls 5 [(0, .ref (ad 0)), (1, .int a1), (2, .int v3), (3, .int v12)] → W p l e ({ frames := 3, cells := 0, slots := 0, locals := 64 }) s m args below meth c H locs 0 0 Q (F0 m 70 ls []) := by
          intro v12 ex H locs ls hw hl
          have h := hE5 _ ex
          try dsimp only at h
          refine lv_aload_n hx hb dX5_front_70 rfl (lv_at hl 0 rfl) ?_
          refine lv_iload_n hx hb dX5_front_71 rfl (lv_at hl 2 rfl) ?_
          obtain ⟨v13, hc, h⟩ := sr_bind1 h
          refine sr_cVi (As := [.int v3]) (rest := []) ⟨hx, hb, hml, hown, hts⟩ (k5_isCandidate l D t ad v3 M _ hc) (cwV 1 hts (sr_goodV qmX5_164 qiX5_isCandidate qsX5_isCandidate qnX5 qcX5_isCandidate) rfl rfl rfl qdX5_isCandidate ⟨Nat.le_of_ble_eq_true rfl, Nat.le_of_ble_eq_true rfl⟩) hw hA (yo_0 t ad) rfl hl.1 rfl (Nat.le_of_ble_eq_true rfl) dX5_front_72 (fun H locs hw => ?_)
          refine lv_if_eq (tgt := 85) hx hb dX5_front_75 (by decide) (fun hc => ?_) (fun hc => ?_)
          · have h := sr_ifp h hc
            refine lv_iinc (v := (v3 + 1)) (lv' := [(2, .int (v3 + 1)), (0, .ref (ad 0)), (1, .int a1), (3, .int v12)]) hx hb dX5_front_85 hl (k := 2) rfl rfl (by decide) rfl (fun ls hl => ?_)
            refine lv_goto (tgt := 15) hx hb dX5_front_88 (by decide) ?_
            exact hi2 ((v3 + 1)) (Option.some.inj h).symm _ _ _ hw (lv_sub hl [1, 2, 0] rfl)
          · have h := sr_ifn h hc
            refine lv_iload_n hx hb dX5_front_78 rfl (lv_at hl 3 rfl) ?_
            refine lv_iload_n hx hb dX5_front_79 rfl (lv_at hl 1 rfl) ?_
            refine lv_icmp_ne (tgt := 85) hx hb dX5_front_80 (by decide) (fun hc => ?_) (fun hc => ?_)
            · have h := sr_ifn h hc
              refine lv_iinc (v := (v3 + 1)) (lv' := [(2, .int (v3 + 1)), (0, .ref (ad 0)), (1, .int a1), (3, .int v12)]) hx hb dX5_front_85 hl (k := 2) rfl rfl (by decide) rfl (fun ls hl => ?_)
              refine lv_goto (tgt := 15) hx hb dX5_front_88 (by decide) ?_
              exact hi2 ((v3 + 1)) (Option.some.inj h).symm _ _ _ hw (lv_sub hl [1, 2, 0] rfl)
            · have h := sr_ifp h hc
              refine lv_iload_n hx hb dX5_front_83 rfl (lv_at hl 2 rfl) ?_
              have h := sr_ser (hE2 _ (he2 _ (Option.some.inj h).symm))
              obtain rfl := Option.some.inj h
              exact ret _ _ _ _ hw rfl dX5_front_84
        refine sr_lp_rule (fun (z5 : Int32 × Int32) => ∀ (H : Heap) (locs : List Loc) (ls : Array Slot), yH D t ad A s M H locs → lv_has ls 5 [(0, .ref (ad 0)), (1, .int a1), (2, .int v3), (3, .int z5.1), (4, .int z5.2)] → W p l e ({ frames := 3, cells := 0, slots := 0, locals := 64 }) s m args below meth c H locs 0 0 Q (F0 m 28 ls [])) ?_ hlp _ _ _ hw (lv_sub hl [2, 3, 4, 1, 0] rfl)
        rintro ⟨v6, v7⟩ y5 h hi5 he5 H locs ls hw hl
        have h : f5_front_L28 M v3 v6 v7 = some y5 := h
        have hw : yH D t ad A s M H locs := hw
        have hl : lv_has ls 5 [(0, .ref (ad 0)), (1, .int a1), (2, .int v3), (3, .int v6), (4, .int v7)] := hl
        unfold f5_front_L28 at h
        refine lv_iload hx hb dX5_front_28 (lv_at hl 4 rfl) ?_
        refine lv_aload_n hx hb dX5_front_30 rfl (lv_at hl 0 rfl) ?_
        refine sr_geti hx hb hts qzX5 hown hw (yf_0_3 t ad) (hts _ qfX5_92) h dX5_front_31 (fun v8 h => ?_)
        refine lv_icmp_ge (tgt := 70) hx hb dX5_front_34 (by decide) (fun hc => ?_) (fun hc => ?_)
        · have h := sr_ifp h hc
          exact hX5 v6 (he5 _ (Option.some.inj h).symm) _ _ _ hw (lv_sub hl [0, 1, 2, 3] rfl)
        · have h := sr_ifn h hc
          refine lv_iload_n hx hb dX5_front_37 rfl (lv_at hl 3 rfl) ?_
          refine lv_aload_n hx hb dX5_front_38 rfl (lv_at hl 0 rfl) ?_
          refine lv_iload hx hb dX5_front_39 (lv_at hl 4 rfl) ?_
          obtain ⟨v9, hc, h⟩ := sr_bind1 h
          refine sr_cVi (As := [.int v7]) (rest := [.int v6]) ⟨hx, hb, hml, hown, hts⟩ (k5_isCandidate l D t ad v7 M _ hc) (cwV 1 hts (sr_goodV qmX5_164 qiX5_isCandidate qsX5_isCandidate qnX5 qcX5_isCandidate) rfl rfl rfl qdX5_isCandidate ⟨Nat.le_of_ble_eq_true rfl, Nat.le_of_ble_eq_true rfl⟩) hw hA (yo_0 t ad) rfl hl.1 rfl (Nat.le_of_ble_eq_true rfl) dX5_front_41 (fun H locs hw => ?_)
          refine sr_jn_rule (fun (K10 : Option ((Int32 × Int32) ⊕ (Int32))) => K10 = some y5 → ∀ (H : Heap) (locs : List Loc) (ls : Array Slot), yH D t ad A s M H locs → lv_has ls 5 [(0, .ref (ad 0)), (1, .int a1), (2, .int v3), (4, .int v7)] → W p l e ({ frames := 3, cells := 0, slots := 0, locals := 64 }) s m args below meth c H locs 0 0 Q (F0 m 61 ls [.int v6])) h ?_ (fun K10 hK10 h => ?_)
          · intro  h H locs ls hw hl
            refine lv_iconst (v := 0) hx hb dX5_front_61 (by decide) ?_
            refine lv_iadd hx hb dX5_front_62 ?_
            refine lv_istore_n (lv' := [(3, .int (v6 + 0)), (0, .ref (ad 0)), (1, .int a1), (2, .int v3), (4, .int v7)]) hx hb dX5_front_63 rfl hl (by decide) rfl (fun ls hl => ?_)
            refine lv_iinc (v := (v7 + 1)) (lv' := [(4, .int (v7 + 1)), (3, .int (v6 + 0)), (0, .ref (ad 0)), (1, .int a1), (2, .int v3)]) hx hb dX5_front_64 hl (k := 4) rfl rfl (by decide) rfl (fun ls hl => ?_)
            refine lv_goto (tgt := 28) hx hb dX5_front_67 (by decide) ?_
            exact hi5 ((v6 + 0), (v7 + 1)) (Option.some.inj h).symm _ _ _ hw (lv_sub hl [2, 3, 4, 1, 0] rfl)
          · refine lv_if_eq (tgt := 61) hx hb dX5_front_44 (by decide) (fun hc => ?_) (fun hc => ?_)
            · have h := sr_ifp h hc
              exact hK10  h _ _ _ hw (lv_sub hl [0, 1, 2, 4] rfl)
            · have h := sr_ifn h hc
              refine lv_aload_n hx hb dX5_front_47 rfl (lv_at hl 0 rfl) ?_
              refine lv_iload hx hb dX5_front_48 (lv_at hl 4 rfl) ?_
              refine lv_iload_n hx hb dX5_front_50 rfl (lv_at hl 2 rfl) ?_
              obtain ⟨v11, hc, h⟩ := sr_bind1 h
              refine sr_cVi (As := [.int v7, .int v3]) (rest := [.int v6]) ⟨hx, hb, hml, hown, hts⟩ (k5_isLess l D t ad v7 v3 M _ hc) (cwV 2 hts (sr_goodV qmX5_110 qiX5_isLess qsX5_isLess qnX5 qcX5_isLess) rfl rfl rfl qdX5_isLess ⟨Nat.le_of_ble_eq_true rfl, Nat.le_of_ble_eq_true rfl⟩) hw hA (yo_0 t ad) rfl hl.1 rfl (Nat.le_of_ble_eq_true rfl) dX5_front_51 (fun H locs hw => ?_)
              refine lv_if_eq (tgt := 61) hx hb dX5_front_54 (by decide) (fun hc => ?_) (fun hc => ?_)
              · have h := sr_ifp h hc
                exact hK10  h _ _ _ hw (lv_sub hl [0, 1, 2, 4] rfl)
              · have h := sr_ifn h hc
                refine lv_iconst (v := 1) hx hb dX5_front_57 (by decide) ?_
                refine lv_goto (tgt := 62) hx hb dX5_front_58 (by decide) ?_
                refine lv_iadd hx hb dX5_front_62 ?_
                refine lv_istore_n (lv' := [(3, .int (v6 + 1)), (0, .ref (ad 0)), (1, .int a1), (2, .int v3), (4, .int v7)]) hx hb dX5_front_63 rfl hl (by decide) rfl (fun ls hl => ?_)
                refine lv_iinc (v := (v7 + 1)) (lv' := [(4, .int (v7 + 1)), (3, .int (v6 + 1)), (0, .ref (ad 0)), (1, .int a1), (2, .int v3)]) hx hb dX5_front_64 hl (k := 4) rfl rfl (by decide) rfl (fun ls hl => ?_)
                refine lv_goto (tgt := 28) hx hb dX5_front_67 (by decide) ?_
                exact hi5 ((v6 + 1), (v7 + 1)) (Option.some.inj h).symm _ _ _ hw (lv_sub hl [2, 3, 4, 1, 0] rfl)
    · have h := sr_ifn h hc
      refine lv_iconst (v := (-1)) hx hb dX5_front_11 (by decide) ?_
      obtain rfl := Option.some.inj h
      exact ret _ _ _ _ hw rfl dX5_front_12

noncomputable def f5_lake_L51 (a1 : Int32) (M2 : sr_M) (v6 : Int32) (v7 : Int32) (v8 : Int32) : Option ((Int32 × Int32 × Int32) ⊕ (Int32 × Int32)) :=
if v8 < 0 then
(some (.inr (v6, v7)))
else
(sr_ld v8 120 (M2.1 19) fun v9 =>
sr_jn (fun (v11 : Int32) =>
sr_ld v8 120 (M2.1 19) fun v12 =>
if v12 = a1 then
(some (.inl ((v6 + v11), v8, (v8 + (-1)))))
else
(some (.inl ((v6 + v11), v7, (v8 + (-1)))))) fun (K10 : Int32 → Option ((Int32 × Int32 × Int32) ⊕ (Int32 × Int32))) =>
if v9 = a1 then
(K10 1)
else
(K10 0))
noncomputable def f5_lake_L107 (M2 : sr_M) (v14 : Int32) (v16 : Int32) (v17 : Int32) : Option ((Int32 × Int32) ⊕ (Int32)) :=
sr_ld v14 120 (M2.1 14) fun v18 =>
if v18 < v17 then
(some (.inr v16))
else
(sr_ld v17 121 (M2.1 11) fun v19 =>
(f5_rank v19 M2).bind fun v20 =>
if v20 ≤ v16 then
(some (.inl (v16, (v17 + 1))))
else
(sr_ld v17 121 (M2.1 11) fun v21 =>
(f5_rank v21 M2).bind fun v22 =>
some (.inl (v22, (v17 + 1)))))
noncomputable def f5_lake (a1 : Int32) (a2 : Int32) (M : sr_M) : Option (Int32 × sr_M) :=
sr_bnd (M.1 0 13) fun v1 =>
if v1 = 0 then
(some ((-6), M))
else
((f5_tellLakes M).bind fun M2 =>
if a1 < 0 then
(some ((-2), M2))
else
(sr_bnd (M2.1 0 25) fun v3 =>
if v3 ≤ a1 then
(some ((-2), M2))
else
(if a2 < 0 then
(some ((-2), M2))
else
(if a2 ≤ 3 then
(sr_bnd (M2.1 0 0) fun v4 =>
(sr_lp (fun z5 : Int32 × Int32 × Int32 => f5_lake_L51 a1 M2 z5.1 z5.2.1 z5.2.2) (0, (-1), (v4 - 1))).bind fun w5 =>
(sr_lp (fun z15 : Int32 × Int32 => f5_lake_L107 M2 w5.2 z15.1 z15.2) ((-1), 1)).bind fun w15 =>
if a2 = 0 then
(sr_ld w5.2 120 (M2.1 14) fun v24 =>
some (v24, M2))
else
(if a2 = 1 then
(some (w5.1, M2))
else
(if a2 = 2 then
(some (w5.2, M2))
else
(some (w15, M2)))))
else
(some ((-2), M2))))))
set_option maxHeartbeats 4000000 in
set_option maxRecDepth 100000 in
theorem k5_lake (l : Launch) (D : va_G) (t : Nat → ClassId) (ad : Nat → Nat) (a1 : Int32) (a2 : Int32) (M : sr_M) (r : Int32) (M' : sr_M) (h : f5_lake a1 a2 M = some (r, M')) : sr_Mi l D vwCl (yty t) ad (ycf t ad) 26 yX5_lake (.code yX5_lake cX5_lake 7 (some .int) :: sr_tbl) ({ frames := 2, cells := 0, slots := 0, locals := 48 }) [.ref (ad 0), .int a1, .int a2] M r M' := by
  refine sr_open_i (cc := cX5_lake) (maxL := 7) (by decide) rfl (Nat.le_of_ble_eq_true rfl) ?_
  intro p e s m args below meth c A Q ls hx hb hml hts0 hown hA hw hl ret
  have hts : ∀ w ∈ sr_tbl, w.before args s = true := fun w hw => hts0 w (List.mem_cons_of_mem _ hw)
  have hown : s.vm.findClass RX5 = some m.cls := hown
  have hl : lv_has ls 7 [(0, .ref (ad 0)), (1, .int a1), (2, .int a2)] := hl
  have hw : yH D t ad A s M s.heap [] := hw
  unfold f5_lake at h
  refine lv_aload_n hx hb dX5_lake_0 rfl (lv_at hl 0 rfl) ?_
  refine sr_geti hx hb hts qzX5 hown hw (yf_0_13 t ad) (hts _ qfX5_95) h dX5_lake_1 (fun v1 h => ?_)
  refine lv_if_ne (tgt := 10) hx hb dX5_lake_4 (by decide) (fun hc => ?_) (fun hc => ?_)
  · have h := sr_ifn h hc
    refine lv_aload_n hx hb dX5_lake_10 rfl (lv_at hl 0 rfl) ?_
    obtain ⟨M2, hc, h⟩ := sr_bind1 h
    refine sr_cVv (As := []) (rest := []) ⟨hx, hb, hml, hown, hts⟩ (k5_tellLakes l D t ad  M _ hc) (cwV 0 hts (sr_goodV qmX5_191 qiX5_tellLakes qsX5_tellLakes qnX5 qcX5_tellLakes) rfl rfl rfl qdX5_tellLakes ⟨Nat.le_of_ble_eq_true rfl, Nat.le_of_ble_eq_true rfl⟩) hw hA (yo_0 t ad) rfl hl.1 rfl (Nat.le_of_ble_eq_true rfl) dX5_lake_11 (fun H locs hw => ?_)
    refine lv_iload_n hx hb dX5_lake_14 rfl (lv_at hl 1 rfl) ?_
    refine lv_if_lt (tgt := 35) hx hb dX5_lake_15 (by decide) (fun hc => ?_) (fun hc => ?_)
    · have h := sr_ifp h hc
      refine lv_bipush (v := (-2)) hx hb dX5_lake_35 (by decide) ?_
      obtain ⟨rfl, rfl⟩ := Prod.mk.inj (Option.some.inj h)
      exact ret _ _ _ _ hw rfl dX5_lake_37
    · have h := sr_ifn h hc
      refine lv_iload_n hx hb dX5_lake_18 rfl (lv_at hl 1 rfl) ?_
      refine lv_aload_n hx hb dX5_lake_19 rfl (lv_at hl 0 rfl) ?_
      refine sr_geti hx hb hts qzX5 hown hw (yf_0_25 t ad) (hts _ qfX5_179) h dX5_lake_20 (fun v3 h => ?_)
      refine lv_icmp_ge (tgt := 35) hx hb dX5_lake_23 (by decide) (fun hc => ?_) (fun hc => ?_)
      · have h := sr_ifp h hc
        refine lv_bipush (v := (-2)) hx hb dX5_lake_35 (by decide) ?_
        obtain ⟨rfl, rfl⟩ := Prod.mk.inj (Option.some.inj h)
        exact ret _ _ _ _ hw rfl dX5_lake_37
      · have h := sr_ifn h hc
        refine lv_iload_n hx hb dX5_lake_26 rfl (lv_at hl 2 rfl) ?_
        refine lv_if_lt (tgt := 35) hx hb dX5_lake_27 (by decide) (fun hc => ?_) (fun hc => ?_)
        · have h := sr_ifp h hc
          refine lv_bipush (v := (-2)) hx hb dX5_lake_35 (by decide) ?_
          obtain ⟨rfl, rfl⟩ := Prod.mk.inj (Option.some.inj h)
          exact ret _ _ _ _ hw rfl dX5_lake_37
        · have h := sr_ifn h hc
          refine lv_iload_n hx hb dX5_lake_30 rfl (lv_at hl 2 rfl) ?_
          refine lv_iconst (v := 3) hx hb dX5_lake_31 (by decide) ?_
          refine lv_icmp_le (tgt := 38) hx hb dX5_lake_32 (by decide) (fun hc => ?_) (fun hc => ?_)
          · have h := sr_ifp h hc
            refine lv_iconst (v := 0) hx hb dX5_lake_38 (by decide) ?_
            refine lv_istore_n (lv' := [(3, .int 0), (0, .ref (ad 0)), (1, .int a1), (2, .int a2)]) hx hb dX5_lake_39 rfl hl (by decide) rfl (fun ls hl => ?_)
            refine lv_iconst (v := (-1)) hx hb dX5_lake_40 (by decide) ?_
            refine lv_istore (lv' := [(4, .int (-1)), (3, .int 0), (0, .ref (ad 0)), (1, .int a1), (2, .int a2)]) hx hb dX5_lake_41 hl (by decide) rfl (fun ls hl => ?_)
            refine lv_aload_n hx hb dX5_lake_43 rfl (lv_at hl 2 rfl) ?_
            refine sr_geti hx hb hts qzX5 hown hw (yf_0_0 t ad) (hts _ qfX5_88) h dX5_lake_44 (fun v4 h => ?_)
            refine lv_iconst (v := 1) hx hb dX5_lake_47 (by decide) ?_
            refine lv_isub hx hb dX5_lake_48 ?_
            refine lv_istore (lv' := [(5, .int (v4 - 1)), (4, .int (-1)), (3, .int 0), (0, .ref (ad 0)), (1, .int a1), (2, .int a2)]) hx hb dX5_lake_49 hl (by decide) rfl (fun ls hl => ?_)
            obtain ⟨x5, hlp, hE5⟩ := sr_bind h
            have hX5 : ∀ (v13 : Int32) (v14 : Int32), (v13, v14) = x5 → ∀ (H : Heap) (locs : List Loc) (ls : Array Slot), yH D t ad A s M2 H locs → lv_has ls 7 [(0, .ref (ad 0)), (2, .int a2), (3, .int v13), (4, .int v14)] → W p l e ({ frames := 2, cells := 0, slots := 0, locals := 48 }) s m args below meth c H locs 0 0 Q (F0 m 101 ls []) := by
              intro v13 v14 ex H locs ls hw hl
              have h := hE5 _ ex
              try dsimp only at h
              refine lv_iconst (v := (-1)) hx hb dX5_lake_101 (by decide) ?_
              refine lv_istore (lv' := [(5, .int (-1)), (0, .ref (ad 0)), (2, .int a2), (3, .int v13), (4, .int v14)]) hx hb dX5_lake_102 hl (by decide) rfl (fun ls hl => ?_)
              refine lv_iconst (v := 1) hx hb dX5_lake_104 (by decide) ?_
              refine lv_istore (lv' := [(6, .int 1), (5, .int (-1)), (0, .ref (ad 0)), (2, .int a2), (3, .int v13), (4, .int v14)]) hx hb dX5_lake_105 hl (by decide) rfl (fun ls hl => ?_)
              obtain ⟨x15, hlp, hE15⟩ := sr_bind h
              have hX15 : ∀ (v23 : Int32), v23 = x15 → ∀ (H : Heap) (locs : List Loc) (ls : Array Slot), yH D t ad A s M2 H locs → lv_has ls 7 [(0, .ref (ad 0)), (2, .int a2), (3, .int v13), (4, .int v14), (5, .int v23)] → W p l e ({ frames := 2, cells := 0, slots := 0, locals := 48 }) s m args below meth c H locs 0 0 Q (F0 m 159 ls []) := by
                intro v23 ex H locs ls hw hl
                have h := hE15 _ ex
                try dsimp only at h
                refine lv_iload_n hx hb dX5_lake_159 rfl (lv_at hl 1 rfl) ?_
                refine lv_if_ne (tgt := 173) hx hb dX5_lake_160 (by decide) (fun hc => ?_) (fun hc => ?_)
                · have h := sr_ifn h hc
                  refine lv_iload_n hx hb dX5_lake_173 rfl (lv_at hl 1 rfl) ?_
                  refine lv_iconst (v := 1) hx hb dX5_lake_174 (by decide) ?_
                  refine lv_icmp_ne (tgt := 182) hx hb dX5_lake_175 (by decide) (fun hc => ?_) (fun hc => ?_)
                  · have h := sr_ifn h hc
                    refine lv_iload_n hx hb dX5_lake_182 rfl (lv_at hl 1 rfl) ?_
                    refine lv_iconst (v := 2) hx hb dX5_lake_183 (by decide) ?_
                    refine lv_icmp_ne (tgt := 192) hx hb dX5_lake_184 (by decide) (fun hc => ?_) (fun hc => ?_)
                    · have h := sr_ifn h hc
                      refine lv_iload hx hb dX5_lake_192 (lv_at hl 4 rfl) ?_
                      obtain ⟨rfl, rfl⟩ := Prod.mk.inj (Option.some.inj h)
                      exact ret _ _ _ _ hw rfl dX5_lake_194
                    · have h := sr_ifp h hc
                      refine lv_iload hx hb dX5_lake_187 (lv_at hl 3 rfl) ?_
                      refine lv_goto (tgt := 194) hx hb dX5_lake_189 (by decide) ?_
                      obtain ⟨rfl, rfl⟩ := Prod.mk.inj (Option.some.inj h)
                      exact ret _ _ _ _ hw rfl dX5_lake_194
                  · have h := sr_ifp h hc
                    refine lv_iload_n hx hb dX5_lake_178 rfl (lv_at hl 2 rfl) ?_
                    refine lv_goto (tgt := 194) hx hb dX5_lake_179 (by decide) ?_
                    obtain ⟨rfl, rfl⟩ := Prod.mk.inj (Option.some.inj h)
                    exact ret _ _ _ _ hw rfl dX5_lake_194
                · have h := sr_ifp h hc
                  refine lv_aload_n hx hb dX5_lake_163 rfl (lv_at hl 0 rfl) ?_
                  refine sr_getr hx hb hts qzX5 hown hw (yf_0_18 t ad) (hts _ qfX5_52) dX5_lake_164 ?_
                  refine lv_iload hx hb dX5_lake_167 (lv_at hl 3 rfl) ?_
                  refine sr_iald hx hb hw (ya_14 t ad) h dX5_lake_169 (fun v24 h => ?_)
                  refine lv_goto (tgt := 194) hx hb dX5_lake_170 (by decide) ?_
                  obtain ⟨rfl, rfl⟩ := Prod.mk.inj (Option.some.inj h)
                  exact ret _ _ _ _ hw rfl dX5_lake_194
              refine sr_lp_rule (fun (z15 : Int32 × Int32) => ∀ (H : Heap) (locs : List Loc) (ls : Array Slot), yH D t ad A s M2 H locs → lv_has ls 7 [(0, .ref (ad 0)), (2, .int a2), (3, .int v13), (4, .int v14), (5, .int z15.1), (6, .int z15.2)] → W p l e ({ frames := 2, cells := 0, slots := 0, locals := 48 }) s m args below meth c H locs 0 0 Q (F0 m 107 ls [])) ?_ hlp _ _ _ hw (lv_sub hl [2, 3, 4, 5, 1, 0] rfl)
              rintro ⟨v16, v17⟩ y15 h hi15 he15 H locs ls hw hl
              have h : f5_lake_L107 M2 v14 v16 v17 = some y15 := h
              have hw : yH D t ad A s M2 H locs := hw
              have hl : lv_has ls 7 [(0, .ref (ad 0)), (2, .int a2), (3, .int v13), (4, .int v14), (5, .int v16), (6, .int v17)] := hl
              unfold f5_lake_L107 at h
              refine lv_iload hx hb dX5_lake_107 (lv_at hl 5 rfl) ?_
              refine lv_aload_n hx hb dX5_lake_109 rfl (lv_at hl 0 rfl) ?_
              refine sr_getr hx hb hts qzX5 hown hw (yf_0_18 t ad) (hts _ qfX5_52) dX5_lake_110 ?_
              refine lv_iload hx hb dX5_lake_113 (lv_at hl 3 rfl) ?_
              refine sr_iald hx hb hw (ya_14 t ad) h dX5_lake_115 (fun v18 h => ?_)
              refine lv_icmp_gt (tgt := 159) hx hb dX5_lake_116 (by decide) (fun hc => ?_) (fun hc => ?_)
              · have h := sr_ifp h hc
                exact hX15 v16 (he15 _ (Option.some.inj h).symm) _ _ _ hw (lv_sub hl [0, 1, 2, 3, 4] rfl)
              · have h := sr_ifn h hc
                refine lv_aload_n hx hb dX5_lake_119 rfl (lv_at hl 0 rfl) ?_
                refine lv_aload_n hx hb dX5_lake_120 rfl (lv_at hl 0 rfl) ?_
                refine sr_getr hx hb hts qzX5 hown hw (yf_0_15 t ad) (hts _ qfX5_43) dX5_lake_121 ?_
                refine lv_iload hx hb dX5_lake_124 (lv_at hl 5 rfl) ?_
                refine sr_iald hx hb hw (ya_11 t ad) h dX5_lake_126 (fun v19 h => ?_)
                obtain ⟨v20, hc, h⟩ := sr_bind1 h
                refine sr_cVi (As := [.int v19]) (rest := []) ⟨hx, hb, hml, hown, hts⟩ (k5_rank l D t ad v19 M2 _ hc) (cwV 1 hts (sr_goodV qmX5_114 qiX5_rank qsX5_rank qnX5 qcX5_rank) rfl rfl rfl qdX5_rank ⟨Nat.le_of_ble_eq_true rfl, Nat.le_of_ble_eq_true rfl⟩) hw hA (yo_0 t ad) rfl hl.1 rfl (Nat.le_of_ble_eq_true rfl) dX5_lake_127 (fun H locs hw => ?_)
                refine lv_iload hx hb dX5_lake_130 (lv_at hl 4 rfl) ?_
                refine lv_icmp_le (tgt := 149) hx hb dX5_lake_132 (by decide) (fun hc => ?_) (fun hc => ?_)
                · have h := sr_ifp h hc
                  refine lv_iload hx hb dX5_lake_149 (lv_at hl 4 rfl) ?_
                  refine lv_istore (lv' := [(5, .int v16), (0, .ref (ad 0)), (2, .int a2), (3, .int v13), (4, .int v14), (6, .int v17)]) hx hb dX5_lake_151 hl (by decide) rfl (fun ls hl => ?_)
                  refine lv_iinc (v := (v17 + 1)) (lv' := [(6, .int (v17 + 1)), (5, .int v16), (0, .ref (ad 0)), (2, .int a2), (3, .int v13), (4, .int v14)]) hx hb dX5_lake_153 hl (k := 5) rfl rfl (by decide) rfl (fun ls hl => ?_)
                  refine lv_goto (tgt := 107) hx hb dX5_lake_156 (by decide) ?_
                  exact hi15 (v16, (v17 + 1)) (Option.some.inj h).symm _ _ _ hw (lv_sub hl [2, 3, 4, 5, 1, 0] rfl)
                · have h := sr_ifn h hc
                  refine lv_aload_n hx hb dX5_lake_135 rfl (lv_at hl 0 rfl) ?_
                  refine lv_aload_n hx hb dX5_lake_136 rfl (lv_at hl 0 rfl) ?_
                  refine sr_getr hx hb hts qzX5 hown hw (yf_0_15 t ad) (hts _ qfX5_43) dX5_lake_137 ?_
                  refine lv_iload hx hb dX5_lake_140 (lv_at hl 5 rfl) ?_
                  refine sr_iald hx hb hw (ya_11 t ad) h dX5_lake_142 (fun v21 h => ?_)
                  obtain ⟨v22, hc, h⟩ := sr_bind1 h
                  refine sr_cVi (As := [.int v21]) (rest := []) ⟨hx, hb, hml, hown, hts⟩ (k5_rank l D t ad v21 M2 _ hc) (cwV 1 hts (sr_goodV qmX5_114 qiX5_rank qsX5_rank qnX5 qcX5_rank) rfl rfl rfl qdX5_rank ⟨Nat.le_of_ble_eq_true rfl, Nat.le_of_ble_eq_true rfl⟩) hw hA (yo_0 t ad) rfl hl.1 rfl (Nat.le_of_ble_eq_true rfl) dX5_lake_143 (fun H locs hw => ?_)
                  refine lv_goto (tgt := 151) hx hb dX5_lake_146 (by decide) ?_
                  refine lv_istore (lv' := [(5, .int v22), (0, .ref (ad 0)), (2, .int a2), (3, .int v13), (4, .int v14), (6, .int v17)]) hx hb dX5_lake_151 hl (by decide) rfl (fun ls hl => ?_)
                  refine lv_iinc (v := (v17 + 1)) (lv' := [(6, .int (v17 + 1)), (5, .int v22), (0, .ref (ad 0)), (2, .int a2), (3, .int v13), (4, .int v14)]) hx hb dX5_lake_153 hl (k := 5) rfl rfl (by decide) rfl (fun ls hl => ?_)
                  refine lv_goto (tgt := 107) hx hb dX5_lake_156 (by decide) ?_
                  exact hi15 (v22, (v17 + 1)) (Option.some.inj h).symm _ _ _ hw (lv_sub hl [2, 3, 4, 5, 1, 0] rfl)
            refine sr_lp_rule (fun (z5 : Int32 × Int32 × Int32) => ∀ (H : Heap) (locs : List Loc) (ls : Array Slot), yH D t ad A s M2 H locs → lv_has ls 7 [(0, .ref (ad 0)), (1, .int a1), (2, .int a2), (3, .int z5.1), (4, .int z5.2.1), (5, .int z5.2.2)] → W p l e ({ frames := 2, cells := 0, slots := 0, locals := 48 }) s m args below meth c H locs 0 0 Q (F0 m 51 ls [])) ?_ hlp _ _ _ hw (lv_sub hl [3, 4, 5, 2, 1, 0] rfl)
            rintro ⟨v6, v7, v8⟩ y5 h hi5 he5 H locs ls hw hl
            have h : f5_lake_L51 a1 M2 v6 v7 v8 = some y5 := h
            have hw : yH D t ad A s M2 H locs := hw
            have hl : lv_has ls 7 [(0, .ref (ad 0)), (1, .int a1), (2, .int a2), (3, .int v6), (4, .int v7), (5, .int v8)] := hl
            unfold f5_lake_L51 at h
            refine lv_iload hx hb dX5_lake_51 (lv_at hl 5 rfl) ?_
            refine lv_if_lt (tgt := 101) hx hb dX5_lake_53 (by decide) (fun hc => ?_) (fun hc => ?_)
            · have h := sr_ifp h hc
              exact hX5 v6 v7 (he5 _ (Option.some.inj h).symm) _ _ _ hw (lv_sub hl [0, 2, 3, 4] rfl)
            · have h := sr_ifn h hc
              refine lv_iload_n hx hb dX5_lake_56 rfl (lv_at hl 3 rfl) ?_
              refine lv_aload_n hx hb dX5_lake_57 rfl (lv_at hl 0 rfl) ?_
              refine sr_getr hx hb hts qzX5 hown hw (yf_0_24 t ad) (hts _ qfX5_67) dX5_lake_58 ?_
              refine lv_iload hx hb dX5_lake_61 (lv_at hl 5 rfl) ?_
              refine sr_iald hx hb hw (ya_19 t ad) h dX5_lake_63 (fun v9 h => ?_)
              refine lv_iload_n hx hb dX5_lake_64 rfl (lv_at hl 1 rfl) ?_
              refine sr_jn_rule (fun (K10 : Int32 → Option ((Int32 × Int32 × Int32) ⊕ (Int32 × Int32))) => ∀ (v11 : Int32), K10 v11 = some y5 → ∀ (H : Heap) (locs : List Loc) (ls : Array Slot), yH D t ad A s M2 H locs → lv_has ls 7 [(0, .ref (ad 0)), (1, .int a1), (2, .int a2), (4, .int v7), (5, .int v8)] → W p l e ({ frames := 2, cells := 0, slots := 0, locals := 48 }) s m args below meth c H locs 0 0 Q (F0 m 73 ls [.int v11, .int v6])) h ?_ (fun K10 hK10 h => ?_)
              · intro v11 h H locs ls hw hl
                refine lv_iadd hx hb dX5_lake_73 ?_
                refine lv_istore_n (lv' := [(3, .int (v6 + v11)), (0, .ref (ad 0)), (1, .int a1), (2, .int a2), (4, .int v7), (5, .int v8)]) hx hb dX5_lake_74 rfl hl (by decide) rfl (fun ls hl => ?_)
                refine lv_aload_n hx hb dX5_lake_75 rfl (lv_at hl 1 rfl) ?_
                refine sr_getr hx hb hts qzX5 hown hw (yf_0_24 t ad) (hts _ qfX5_67) dX5_lake_76 ?_
                refine lv_iload hx hb dX5_lake_79 (lv_at hl 5 rfl) ?_
                refine sr_iald hx hb hw (ya_19 t ad) h dX5_lake_81 (fun v12 h => ?_)
                refine lv_iload_n hx hb dX5_lake_82 rfl (lv_at hl 2 rfl) ?_
                refine lv_icmp_ne (tgt := 91) hx hb dX5_lake_83 (by decide) (fun hc => ?_) (fun hc => ?_)
                · have h := sr_ifn h hc
                  refine lv_iload hx hb dX5_lake_91 (lv_at hl 4 rfl) ?_
                  refine lv_istore (lv' := [(4, .int v7), (3, .int (v6 + v11)), (0, .ref (ad 0)), (1, .int a1), (2, .int a2), (5, .int v8)]) hx hb dX5_lake_93 hl (by decide) rfl (fun ls hl => ?_)
                  refine lv_iinc (v := (v8 + (-1))) (lv' := [(5, .int (v8 + (-1))), (4, .int v7), (3, .int (v6 + v11)), (0, .ref (ad 0)), (1, .int a1), (2, .int a2)]) hx hb dX5_lake_95 hl (k := 5) rfl rfl (by decide) rfl (fun ls hl => ?_)
                  refine lv_goto (tgt := 51) hx hb dX5_lake_98 (by decide) ?_
                  exact hi5 ((v6 + v11), v7, (v8 + (-1))) (Option.some.inj h).symm _ _ _ hw (lv_sub hl [3, 4, 5, 2, 1, 0] rfl)
                · have h := sr_ifp h hc
                  refine lv_iload hx hb dX5_lake_86 (lv_at hl 5 rfl) ?_
                  refine lv_goto (tgt := 93) hx hb dX5_lake_88 (by decide) ?_
                  refine lv_istore (lv' := [(4, .int v8), (3, .int (v6 + v11)), (0, .ref (ad 0)), (1, .int a1), (2, .int a2), (5, .int v8)]) hx hb dX5_lake_93 hl (by decide) rfl (fun ls hl => ?_)
                  refine lv_iinc (v := (v8 + (-1))) (lv' := [(5, .int (v8 + (-1))), (4, .int v8), (3, .int (v6 + v11)), (0, .ref (ad 0)), (1, .int a1), (2, .int a2)]) hx hb dX5_lake_95 hl (k := 5) rfl rfl (by decide) rfl (fun ls hl => ?_)
                  refine lv_goto (tgt := 51) hx hb dX5_lake_98 (by decide) ?_
                  exact hi5 ((v6 + v11), v8, (v8 + (-1))) (Option.some.inj h).symm _ _ _ hw (lv_sub hl [3, 4, 5, 2, 1, 0] rfl)
              · refine lv_icmp_ne (tgt := 72) hx hb dX5_lake_65 (by decide) (fun hc => ?_) (fun hc => ?_)
                · have h := sr_ifn h hc
                  refine lv_iconst (v := 0) hx hb dX5_lake_72 (by decide) ?_
                  exact hK10 0 h _ _ _ hw (lv_sub hl [0, 1, 2, 4, 5] rfl)
                · have h := sr_ifp h hc
                  refine lv_iconst (v := 1) hx hb dX5_lake_68 (by decide) ?_
                  refine lv_goto (tgt := 73) hx hb dX5_lake_69 (by decide) ?_
                  exact hK10 1 h _ _ _ hw (lv_sub hl [0, 1, 2, 4, 5] rfl)
          · have h := sr_ifn h hc
            refine lv_bipush (v := (-2)) hx hb dX5_lake_35 (by decide) ?_
            obtain ⟨rfl, rfl⟩ := Prod.mk.inj (Option.some.inj h)
            exact ret _ _ _ _ hw rfl dX5_lake_37
  · have h := sr_ifp h hc
    refine lv_bipush (v := (-6)) hx hb dX5_lake_7 (by decide) ?_
    obtain ⟨rfl, rfl⟩ := Prod.mk.inj (Option.some.inj h)
    exact ret _ _ _ _ hw rfl dX5_lake_9

noncomputable def f5_through_L14 (M : sr_M) (v3 : Int32) (v4 : Int32) : Option ((Int32 × Int32) ⊕ (Int32)) :=
sr_bnd (M.1 0 0) fun v5 =>
if v5 ≤ v4 then
(some (.inr v3))
else
(sr_ld v4 120 (M.1 1) fun v6 =>
if v6 = 4 then
((f5_isFilled v4 M).bind fun v7 =>
if v7 = 0 then
(some (.inl (v3, (v4 + 1))))
else
(sr_jn (sr_ld v4 120 (M.1 12) fun v9 =>
some (.inl (v9, (v4 + 1)))) fun (K8 : Option ((Int32 × Int32) ⊕ (Int32))) =>
if v3 < 0 then
(K8)
else
(sr_ld v4 120 (M.1 12) fun v10 =>
if v3 ≤ v10 then
(some (.inl (v3, (v4 + 1))))
else
(K8))))
else
(some (.inl (v3, (v4 + 1)))))
noncomputable def f5_through (M : sr_M) : Option (Int32) :=
sr_bnd (M.1 0 13) fun v1 =>
if v1 = 0 then
(some (-6))
else
((sr_lp (fun z2 : Int32 × Int32 => f5_through_L14 M z2.1 z2.2) ((-1), 0)).bind fun w2 =>
some w2)
set_option maxHeartbeats 4000000 in
set_option maxRecDepth 100000 in
theorem k5_through (l : Launch) (D : va_G) (t : Nat → ClassId) (ad : Nat → Nat) (M : sr_M) (r : Int32) (h : f5_through M = some r) : sr_Mi l D vwCl (yty t) ad (ycf t ad) 26 yX5_through (.code yX5_through cX5_through 3 (some .int) :: sr_tbl) ({ frames := 1, cells := 0, slots := 0, locals := 21 }) [.ref (ad 0)] M r M := by
  refine sr_open_i (cc := cX5_through) (maxL := 3) (by decide) rfl (Nat.le_of_ble_eq_true rfl) ?_
  intro p e s m args below meth c A Q ls hx hb hml hts0 hown hA hw hl ret
  have hts : ∀ w ∈ sr_tbl, w.before args s = true := fun w hw => hts0 w (List.mem_cons_of_mem _ hw)
  have hown : s.vm.findClass RX5 = some m.cls := hown
  have hl : lv_has ls 3 [(0, .ref (ad 0))] := hl
  have hw : yH D t ad A s M s.heap [] := hw
  unfold f5_through at h
  refine lv_aload_n hx hb dX5_through_0 rfl (lv_at hl 0 rfl) ?_
  refine sr_geti hx hb hts qzX5 hown hw (yf_0_13 t ad) (hts _ qfX5_95) h dX5_through_1 (fun v1 h => ?_)
  refine lv_if_ne (tgt := 10) hx hb dX5_through_4 (by decide) (fun hc => ?_) (fun hc => ?_)
  · have h := sr_ifn h hc
    refine lv_iconst (v := (-1)) hx hb dX5_through_10 (by decide) ?_
    refine lv_istore_n (lv' := [(1, .int (-1)), (0, .ref (ad 0))]) hx hb dX5_through_11 rfl hl (by decide) rfl (fun ls hl => ?_)
    refine lv_iconst (v := 0) hx hb dX5_through_12 (by decide) ?_
    refine lv_istore_n (lv' := [(2, .int 0), (1, .int (-1)), (0, .ref (ad 0))]) hx hb dX5_through_13 rfl hl (by decide) rfl (fun ls hl => ?_)
    obtain ⟨x2, hlp, hE2⟩ := sr_bind h
    have hX2 : ∀ (v11 : Int32), v11 = x2 → ∀ (H : Heap) (locs : List Loc) (ls : Array Slot), yH D t ad A s M H locs → lv_has ls 3 [(1, .int v11)] → W p l e ({ frames := 1, cells := 0, slots := 0, locals := 21 }) s m args below meth c H locs 0 0 Q (F0 m 67 ls []) := by
      intro v11 ex H locs ls hw hl
      have h := hE2 _ ex
      try dsimp only at h
      refine lv_iload_n hx hb dX5_through_67 rfl (lv_at hl 0 rfl) ?_
      obtain rfl := Option.some.inj h
      exact ret _ _ _ _ hw rfl dX5_through_68
    refine sr_lp_rule (fun (z2 : Int32 × Int32) => ∀ (H : Heap) (locs : List Loc) (ls : Array Slot), yH D t ad A s M H locs → lv_has ls 3 [(0, .ref (ad 0)), (1, .int z2.1), (2, .int z2.2)] → W p l e ({ frames := 1, cells := 0, slots := 0, locals := 21 }) s m args below meth c H locs 0 0 Q (F0 m 14 ls [])) ?_ hlp _ _ _ hw (lv_sub hl [2, 1, 0] rfl)
    rintro ⟨v3, v4⟩ y2 h hi2 he2 H locs ls hw hl
    have h : f5_through_L14 M v3 v4 = some y2 := h
    have hw : yH D t ad A s M H locs := hw
    have hl : lv_has ls 3 [(0, .ref (ad 0)), (1, .int v3), (2, .int v4)] := hl
    unfold f5_through_L14 at h
    refine lv_iload_n hx hb dX5_through_14 rfl (lv_at hl 2 rfl) ?_
    refine lv_aload_n hx hb dX5_through_15 rfl (lv_at hl 0 rfl) ?_
    refine sr_geti hx hb hts qzX5 hown hw (yf_0_0 t ad) (hts _ qfX5_88) h dX5_through_16 (fun v5 h => ?_)
    refine lv_icmp_ge (tgt := 67) hx hb dX5_through_19 (by decide) (fun hc => ?_) (fun hc => ?_)
    · have h := sr_ifp h hc
      exact hX2 v3 (he2 _ (Option.some.inj h).symm) _ _ _ hw (lv_sub hl [1] rfl)
    · have h := sr_ifn h hc
      refine lv_aload_n hx hb dX5_through_22 rfl (lv_at hl 0 rfl) ?_
      refine sr_getr hx hb hts qzX5 hown hw (yf_0_1 t ad) (hts _ qfX5_7) dX5_through_23 ?_
      refine lv_iload_n hx hb dX5_through_26 rfl (lv_at hl 2 rfl) ?_
      refine sr_iald hx hb hw (ya_1 t ad) h dX5_through_27 (fun v6 h => ?_)
      refine lv_iconst (v := 4) hx hb dX5_through_28 (by decide) ?_
      refine lv_icmp_ne (tgt := 61) hx hb dX5_through_29 (by decide) (fun hc => ?_) (fun hc => ?_)
      · have h := sr_ifn h hc
        refine lv_iinc (v := (v4 + 1)) (lv' := [(2, .int (v4 + 1)), (0, .ref (ad 0)), (1, .int v3)]) hx hb dX5_through_61 hl (k := 2) rfl rfl (by decide) rfl (fun ls hl => ?_)
        refine lv_goto (tgt := 14) hx hb dX5_through_64 (by decide) ?_
        exact hi2 (v3, (v4 + 1)) (Option.some.inj h).symm _ _ _ hw (lv_sub hl [1, 2, 0] rfl)
      · have h := sr_ifp h hc
        refine lv_aload_n hx hb dX5_through_32 rfl (lv_at hl 0 rfl) ?_
        refine lv_iload_n hx hb dX5_through_33 rfl (lv_at hl 2 rfl) ?_
        obtain ⟨v7, hc, h⟩ := sr_bind1 h
        refine sr_cVi (As := [.int v4]) (rest := []) ⟨hx, hb, hml, hown, hts⟩ (k5_isFilled l D t ad v4 M _ hc) (cwV 1 hts (sr_goodV qmX5_143 qiX5_isFilled qsX5_isFilled qnX5 qcX5_isFilled) rfl rfl rfl qdX5_isFilled ⟨Nat.le_of_ble_eq_true rfl, Nat.le_of_ble_eq_true rfl⟩) hw hA (yo_0 t ad) rfl hl.1 rfl (Nat.le_of_ble_eq_true rfl) dX5_through_34 (fun H locs hw => ?_)
        refine lv_if_eq (tgt := 61) hx hb dX5_through_37 (by decide) (fun hc => ?_) (fun hc => ?_)
        · have h := sr_ifp h hc
          refine lv_iinc (v := (v4 + 1)) (lv' := [(2, .int (v4 + 1)), (0, .ref (ad 0)), (1, .int v3)]) hx hb dX5_through_61 hl (k := 2) rfl rfl (by decide) rfl (fun ls hl => ?_)
          refine lv_goto (tgt := 14) hx hb dX5_through_64 (by decide) ?_
          exact hi2 (v3, (v4 + 1)) (Option.some.inj h).symm _ _ _ hw (lv_sub hl [1, 2, 0] rfl)
        · have h := sr_ifn h hc
          refine lv_iload_n hx hb dX5_through_40 rfl (lv_at hl 1 rfl) ?_
          refine sr_jn_rule (fun (K8 : Option ((Int32 × Int32) ⊕ (Int32))) => K8 = some y2 → ∀ (H : Heap) (locs : List Loc) (ls : Array Slot), yH D t ad A s M H locs → lv_has ls 3 [(0, .ref (ad 0)), (2, .int v4)] → W p l e ({ frames := 1, cells := 0, slots := 0, locals := 21 }) s m args below meth c H locs 0 0 Q (F0 m 54 ls [])) h ?_ (fun K8 hK8 h => ?_)
          · intro  h H locs ls hw hl
            refine lv_aload_n hx hb dX5_through_54 rfl (lv_at hl 0 rfl) ?_
            refine sr_getr hx hb hts qzX5 hown hw (yf_0_16 t ad) (hts _ qfX5_46) dX5_through_55 ?_
            refine lv_iload_n hx hb dX5_through_58 rfl (lv_at hl 1 rfl) ?_
            refine sr_iald hx hb hw (ya_12 t ad) h dX5_through_59 (fun v9 h => ?_)
            refine lv_istore_n (lv' := [(1, .int v9), (0, .ref (ad 0)), (2, .int v4)]) hx hb dX5_through_60 rfl hl (by decide) rfl (fun ls hl => ?_)
            refine lv_iinc (v := (v4 + 1)) (lv' := [(2, .int (v4 + 1)), (1, .int v9), (0, .ref (ad 0))]) hx hb dX5_through_61 hl (k := 2) rfl rfl (by decide) rfl (fun ls hl => ?_)
            refine lv_goto (tgt := 14) hx hb dX5_through_64 (by decide) ?_
            exact hi2 (v9, (v4 + 1)) (Option.some.inj h).symm _ _ _ hw (lv_sub hl [2, 1, 0] rfl)
          · refine lv_if_lt (tgt := 54) hx hb dX5_through_41 (by decide) (fun hc => ?_) (fun hc => ?_)
            · have h := sr_ifp h hc
              exact hK8  h _ _ _ hw (lv_sub hl [0, 2] rfl)
            · have h := sr_ifn h hc
              refine lv_aload_n hx hb dX5_through_44 rfl (lv_at hl 0 rfl) ?_
              refine sr_getr hx hb hts qzX5 hown hw (yf_0_16 t ad) (hts _ qfX5_46) dX5_through_45 ?_
              refine lv_iload_n hx hb dX5_through_48 rfl (lv_at hl 2 rfl) ?_
              refine sr_iald hx hb hw (ya_12 t ad) h dX5_through_49 (fun v10 h => ?_)
              refine lv_iload_n hx hb dX5_through_50 rfl (lv_at hl 1 rfl) ?_
              refine lv_icmp_ge (tgt := 61) hx hb dX5_through_51 (by decide) (fun hc => ?_) (fun hc => ?_)
              · have h := sr_ifp h hc
                refine lv_iinc (v := (v4 + 1)) (lv' := [(2, .int (v4 + 1)), (0, .ref (ad 0)), (1, .int v3)]) hx hb dX5_through_61 hl (k := 2) rfl rfl (by decide) rfl (fun ls hl => ?_)
                refine lv_goto (tgt := 14) hx hb dX5_through_64 (by decide) ?_
                exact hi2 (v3, (v4 + 1)) (Option.some.inj h).symm _ _ _ hw (lv_sub hl [1, 2, 0] rfl)
              · have h := sr_ifn h hc
                exact hK8  h _ _ _ hw (lv_sub hl [0, 2] rfl)
  · have h := sr_ifp h hc
    refine lv_bipush (v := (-6)) hx hb dX5_through_7 (by decide) ?_
    obtain rfl := Option.some.inj h
    exact ret _ _ _ _ hw rfl dX5_through_9

noncomputable def f5_plainRun_L2 (v2 : Int32) (M3 : sr_M) : Option ((Int32 × sr_M) ⊕ (sr_M)) :=
sr_bnd (M3.1 0 0) fun v4 =>
if v4 ≤ v2 then
(some (.inr M3))
else
(sr_ld v2 120 (M3.1 2) fun v5 =>
sr_jn (fun (v7 : Int32) =>
sr_st v2 120 M3 20 v7 fun M8 =>
some (.inl ((v2 + 1), M8))) fun (K6 : Int32 → Option ((Int32 × sr_M) ⊕ (sr_M))) =>
if v5 = 0 then
(K6 (-2))
else
(K6 (-1)))
noncomputable def f5_plainRun_L47 (M12 : sr_M) (v14 : Int32) (v15 : Int32) : Option ((Int32 × Int32) ⊕ (Int32)) :=
sr_bnd (M12.1 0 3) fun v16 =>
if v16 ≤ v15 then
(some (.inr v14))
else
(sr_ld v15 300 (M12.1 6) fun v17 =>
sr_jn (fun (v19 : Int32) =>
if v19 = 0 then
(some (.inl (v14, (v15 + 1))))
else
(sr_jn (some (.inl (v15, (v15 + 1)))) fun (K20 : Option ((Int32 × Int32) ⊕ (Int32))) =>
if v14 < 0 then
(K20)
else
((f5_isLess v15 v14 M12).bind fun v21 =>
if v21 = 0 then
(some (.inl (v14, (v15 + 1))))
else
(K20)))) fun (K18 : Int32 → Option ((Int32 × Int32) ⊕ (Int32))) =>
sr_jn (K18 0) fun (K22 : Option ((Int32 × Int32) ⊕ (Int32))) =>
if v17 = 0 then
(sr_ld v15 300 (M12.1 3) fun v23 =>
sr_ld v23 120 (M12.1 20) fun v24 =>
sr_jn (fun (v26 : Int32) =>
sr_ld v15 300 (M12.1 4) fun v27 =>
sr_ld v27 120 (M12.1 20) fun v28 =>
sr_jn (fun (v30 : Int32) =>
if v26 = v30 then
(K22)
else
(K18 1)) fun (K29 : Int32 → Option ((Int32 × Int32) ⊕ (Int32))) =>
if v28 = (-2) then
(K29 1)
else
(K29 0)) fun (K25 : Int32 → Option ((Int32 × Int32) ⊕ (Int32))) =>
if v24 = (-2) then
(K25 1)
else
(K25 0))
else
(K22))
noncomputable def f5_plainRun_L39 (v11 : Int32) (M12 : sr_M) : Option ((Int32 × sr_M) ⊕ (sr_M)) :=
if v11 < 0 then
(some (.inr M12))
else
((sr_lp (fun z13 : Int32 × Int32 => f5_plainRun_L47 M12 z13.1 z13.2) ((-1), 0)).bind fun w13 =>
if w13 < 0 then
(some (.inl (w13, M12)))
else
(sr_ld w13 300 (M12.1 3) fun v32 =>
sr_ld v32 120 (M12.1 20) fun v33 =>
sr_jn (fun (v35 : Int32) =>
sr_st v35 120 M12 20 w13 fun M36 =>
some (.inl (w13, M36))) fun (K34 : Int32 → Option ((Int32 × sr_M) ⊕ (sr_M))) =>
if v33 = (-2) then
(sr_ld w13 300 (M12.1 3) fun v38 =>
K34 v38)
else
(sr_ld w13 300 (M12.1 4) fun v37 =>
K34 v37)))
noncomputable def f5_plainRun (M : sr_M) : Option (sr_M) :=
(sr_lp (fun z1 : Int32 × sr_M => f5_plainRun_L2 z1.1 z1.2) (0, M)).bind fun w1 =>
(sr_lp (fun z10 : Int32 × sr_M => f5_plainRun_L39 z10.1 z10.2) (0, w1)).bind fun w10 =>
some w10
set_option maxHeartbeats 4000000 in
set_option maxRecDepth 100000 in
theorem k5_plainRun (l : Launch) (D : va_G) (t : Nat → ClassId) (ad : Nat → Nat) (M : sr_M) (M' : sr_M) (h : f5_plainRun M = some M') : sr_Mv l D vwCl (yty t) ad (ycf t ad) 26 yX5_plainRun (.code yX5_plainRun cX5_plainRun 4 (none) :: sr_tbl) ({ frames := 1, cells := 0, slots := 0, locals := 22 }) [.ref (ad 0)] M M' := by
  refine sr_open_v (cc := cX5_plainRun) (maxL := 4) (by decide) rfl (Nat.le_of_ble_eq_true rfl) ?_
  intro p e s m args below meth c A Q ls hx hb hml hts0 hown hA hw hl ret
  have hts : ∀ w ∈ sr_tbl, w.before args s = true := fun w hw => hts0 w (List.mem_cons_of_mem _ hw)
  have hown : s.vm.findClass RX5 = some m.cls := hown
  have hl : lv_has ls 4 [(0, .ref (ad 0))] := hl
  have hw : yH D t ad A s M s.heap [] := hw
  unfold f5_plainRun at h
  refine lv_iconst (v := 0) hx hb dX5_plainRun_0 (by decide) ?_
  refine lv_istore_n (lv' := [(1, .int 0), (0, .ref (ad 0))]) hx hb dX5_plainRun_1 rfl hl (by decide) rfl (fun ls hl => ?_)
  obtain ⟨x1, hlp, hE1⟩ := sr_bind h
  have hX1 : ∀ (M9 : sr_M), M9 = x1 → ∀ (H : Heap) (locs : List Loc) (ls : Array Slot), yH D t ad A s M9 H locs → lv_has ls 4 [(0, .ref (ad 0))] → W p l e ({ frames := 1, cells := 0, slots := 0, locals := 22 }) s m args below meth c H locs 0 0 Q (F0 m 37 ls []) := by
    intro M9 ex H locs ls hw hl
    have h := hE1 _ ex
    try dsimp only at h
    refine lv_iconst (v := 0) hx hb dX5_plainRun_37 (by decide) ?_
    refine lv_istore_n (lv' := [(1, .int 0), (0, .ref (ad 0))]) hx hb dX5_plainRun_38 rfl hl (by decide) rfl (fun ls hl => ?_)
    obtain ⟨x10, hlp, hE10⟩ := sr_bind h
    have hX10 : ∀ (M39 : sr_M), M39 = x10 → ∀ (H : Heap) (locs : List Loc) (ls : Array Slot), yH D t ad A s M39 H locs → lv_has ls 4 [] → W p l e ({ frames := 1, cells := 0, slots := 0, locals := 22 }) s m args below meth c H locs 0 0 Q (F0 m 188 ls []) := by
      intro M39 ex H locs ls hw hl
      have h := hE10 _ ex
      try dsimp only at h
      obtain rfl := Option.some.inj h
      exact ret _ _ _ _ hw dX5_plainRun_188
    refine sr_lp_rule (fun (z10 : Int32 × sr_M) => ∀ (H : Heap) (locs : List Loc) (ls : Array Slot), yH D t ad A s z10.2 H locs → lv_has ls 4 [(0, .ref (ad 0)), (1, .int z10.1)] → W p l e ({ frames := 1, cells := 0, slots := 0, locals := 22 }) s m args below meth c H locs 0 0 Q (F0 m 39 ls [])) ?_ hlp _ _ _ hw (lv_sub hl [1, 0] rfl)
    rintro ⟨v11, M12⟩ y10 h hi10 he10 H locs ls hw hl
    have h : f5_plainRun_L39 v11 M12 = some y10 := h
    have hw : yH D t ad A s M12 H locs := hw
    have hl : lv_has ls 4 [(0, .ref (ad 0)), (1, .int v11)] := hl
    unfold f5_plainRun_L39 at h
    refine lv_iload_n hx hb dX5_plainRun_39 rfl (lv_at hl 1 rfl) ?_
    refine lv_if_lt (tgt := 188) hx hb dX5_plainRun_40 (by decide) (fun hc => ?_) (fun hc => ?_)
    · have h := sr_ifp h hc
      exact hX10  M12 (he10 _ (Option.some.inj h).symm) _ _ _ hw (lv_sub hl [] rfl)
    · have h := sr_ifn h hc
      refine lv_iconst (v := (-1)) hx hb dX5_plainRun_43 (by decide) ?_
      refine lv_istore_n (lv' := [(1, .int (-1)), (0, .ref (ad 0))]) hx hb dX5_plainRun_44 rfl hl (by decide) rfl (fun ls hl => ?_)
      refine lv_iconst (v := 0) hx hb dX5_plainRun_45 (by decide) ?_
      refine lv_istore_n (lv' := [(2, .int 0), (1, .int (-1)), (0, .ref (ad 0))]) hx hb dX5_plainRun_46 rfl hl (by decide) rfl (fun ls hl => ?_)
      obtain ⟨x13, hlp, hE13⟩ := sr_bind h
      have hX13 : ∀ (v31 : Int32), v31 = x13 → ∀ (H : Heap) (locs : List Loc) (ls : Array Slot), yH D t ad A s M12 H locs → lv_has ls 4 [(0, .ref (ad 0)), (1, .int v31)] → W p l e ({ frames := 1, cells := 0, slots := 0, locals := 22 }) s m args below meth c H locs 0 0 Q (F0 m 144 ls []) := by
        intro v31 ex H locs ls hw hl
        have h := hE13 _ ex
        try dsimp only at h
        refine lv_iload_n hx hb dX5_plainRun_144 rfl (lv_at hl 1 rfl) ?_
        refine lv_if_lt (tgt := 39) hx hb dX5_plainRun_145 (by decide) (fun hc => ?_) (fun hc => ?_)
        · have h := sr_ifp h hc
          exact hi10 (v31, M12) (Option.some.inj h).symm _ _ _ hw (lv_sub hl [0, 1] rfl)
        · have h := sr_ifn h hc
          refine lv_aload_n hx hb dX5_plainRun_148 rfl (lv_at hl 0 rfl) ?_
          refine sr_getr hx hb hts qzX5 hown hw (yf_0_26 t ad) (hts _ qfX5_70) dX5_plainRun_149 ?_
          refine lv_aload_n hx hb dX5_plainRun_152 rfl (lv_at hl 0 rfl) ?_
          refine sr_getr hx hb hts qzX5 hown hw (yf_0_26 t ad) (hts _ qfX5_70) dX5_plainRun_153 ?_
          refine lv_aload_n hx hb dX5_plainRun_156 rfl (lv_at hl 0 rfl) ?_
          refine sr_getr hx hb hts qzX5 hown hw (yf_0_4 t ad) (hts _ qfX5_17) dX5_plainRun_157 ?_
          refine lv_iload_n hx hb dX5_plainRun_160 rfl (lv_at hl 1 rfl) ?_
          refine sr_iald hx hb hw (ya_3 t ad) h dX5_plainRun_161 (fun v32 h => ?_)
          refine sr_iald hx hb hw (ya_20 t ad) h dX5_plainRun_162 (fun v33 h => ?_)
          refine lv_bipush (v := (-2)) hx hb dX5_plainRun_163 (by decide) ?_
          refine sr_jn_rule (fun (K34 : Int32 → Option ((Int32 × sr_M) ⊕ (sr_M))) => ∀ (v35 : Int32), K34 v35 = some y10 → ∀ (H : Heap) (locs : List Loc) (ls : Array Slot), yH D t ad A s M12 H locs → lv_has ls 4 [(0, .ref (ad 0)), (1, .int v31)] → W p l e ({ frames := 1, cells := 0, slots := 0, locals := 22 }) s m args below meth c H locs 0 0 Q (F0 m 183 ls [.int v35, .ref (ad 20)])) h ?_ (fun K34 hK34 h => ?_)
          · intro v35 h H locs ls hw hl
            refine lv_iload_n hx hb dX5_plainRun_183 rfl (lv_at hl 1 rfl) ?_
            refine sr_iast hx hb hw (ya_20 t ad) h dX5_plainRun_184 (fun M36 H locs h hw => ?_)
            refine lv_goto (tgt := 39) hx hb dX5_plainRun_185 (by decide) ?_
            exact hi10 (v31, M36) (Option.some.inj h).symm _ _ _ hw (lv_sub hl [0, 1] rfl)
          · refine lv_icmp_ne (tgt := 177) hx hb dX5_plainRun_165 (by decide) (fun hc => ?_) (fun hc => ?_)
            · have h := sr_ifn h hc
              refine lv_aload_n hx hb dX5_plainRun_177 rfl (lv_at hl 0 rfl) ?_
              refine sr_getr hx hb hts qzX5 hown hw (yf_0_5 t ad) (hts _ qfX5_20) dX5_plainRun_178 ?_
              refine lv_iload_n hx hb dX5_plainRun_181 rfl (lv_at hl 1 rfl) ?_
              refine sr_iald hx hb hw (ya_4 t ad) h dX5_plainRun_182 (fun v37 h => ?_)
              exact hK34 v37 h _ _ _ hw (lv_sub hl [0, 1] rfl)
            · have h := sr_ifp h hc
              refine lv_aload_n hx hb dX5_plainRun_168 rfl (lv_at hl 0 rfl) ?_
              refine sr_getr hx hb hts qzX5 hown hw (yf_0_4 t ad) (hts _ qfX5_17) dX5_plainRun_169 ?_
              refine lv_iload_n hx hb dX5_plainRun_172 rfl (lv_at hl 1 rfl) ?_
              refine sr_iald hx hb hw (ya_3 t ad) h dX5_plainRun_173 (fun v38 h => ?_)
              refine lv_goto (tgt := 183) hx hb dX5_plainRun_174 (by decide) ?_
              exact hK34 v38 h _ _ _ hw (lv_sub hl [0, 1] rfl)
      refine sr_lp_rule (fun (z13 : Int32 × Int32) => ∀ (H : Heap) (locs : List Loc) (ls : Array Slot), yH D t ad A s M12 H locs → lv_has ls 4 [(0, .ref (ad 0)), (1, .int z13.1), (2, .int z13.2)] → W p l e ({ frames := 1, cells := 0, slots := 0, locals := 22 }) s m args below meth c H locs 0 0 Q (F0 m 47 ls [])) ?_ hlp _ _ _ hw (lv_sub hl [2, 1, 0] rfl)
      rintro ⟨v14, v15⟩ y13 h hi13 he13 H locs ls hw hl
      have h : f5_plainRun_L47 M12 v14 v15 = some y13 := h
      have hw : yH D t ad A s M12 H locs := hw
      have hl : lv_has ls 4 [(0, .ref (ad 0)), (1, .int v14), (2, .int v15)] := hl
      unfold f5_plainRun_L47 at h
      refine lv_iload_n hx hb dX5_plainRun_47 rfl (lv_at hl 2 rfl) ?_
      refine lv_aload_n hx hb dX5_plainRun_48 rfl (lv_at hl 0 rfl) ?_
      refine sr_geti hx hb hts qzX5 hown hw (yf_0_3 t ad) (hts _ qfX5_92) h dX5_plainRun_49 (fun v16 h => ?_)
      refine lv_icmp_ge (tgt := 144) hx hb dX5_plainRun_52 (by decide) (fun hc => ?_) (fun hc => ?_)
      · have h := sr_ifp h hc
        exact hX13 v14 (he13 _ (Option.some.inj h).symm) _ _ _ hw (lv_sub hl [0, 1] rfl)
      · have h := sr_ifn h hc
        refine lv_aload_n hx hb dX5_plainRun_55 rfl (lv_at hl 0 rfl) ?_
        refine sr_getr hx hb hts qzX5 hown hw (yf_0_7 t ad) (hts _ qfX5_26) dX5_plainRun_56 ?_
        refine lv_iload_n hx hb dX5_plainRun_59 rfl (lv_at hl 2 rfl) ?_
        refine sr_zald hx hb hw (ya_6 t ad) h dX5_plainRun_60 (fun v17 h => ?_)
        refine sr_jn_rule (fun (K18 : Int32 → Option ((Int32 × Int32) ⊕ (Int32))) => ∀ (v19 : Int32), K18 v19 = some y13 → ∀ (H : Heap) (locs : List Loc) (ls : Array Slot), yH D t ad A s M12 H locs → lv_has ls 4 [(0, .ref (ad 0)), (1, .int v14), (2, .int v15)] → W p l e ({ frames := 1, cells := 0, slots := 0, locals := 22 }) s m args below meth c H locs 0 0 Q (F0 m 114 ls [.int v19])) h ?_ (fun K18 hK18 h => ?_)
        · intro v19 h H locs ls hw hl
          refine lv_istore_n (lv' := [(3, .int v19), (0, .ref (ad 0)), (1, .int v14), (2, .int v15)]) hx hb dX5_plainRun_114 rfl hl (by decide) rfl (fun ls hl => ?_)
          refine lv_iload_n hx hb dX5_plainRun_115 rfl (lv_at hl 0 rfl) ?_
          refine lv_if_eq (tgt := 136) hx hb dX5_plainRun_116 (by decide) (fun hc => ?_) (fun hc => ?_)
          · have h := sr_ifp h hc
            refine lv_iload_n hx hb dX5_plainRun_136 rfl (lv_at hl 2 rfl) ?_
            refine lv_istore_n (lv' := [(1, .int v14), (3, .int v19), (0, .ref (ad 0)), (2, .int v15)]) hx hb dX5_plainRun_137 rfl hl (by decide) rfl (fun ls hl => ?_)
            refine lv_iinc (v := (v15 + 1)) (lv' := [(2, .int (v15 + 1)), (1, .int v14), (3, .int v19), (0, .ref (ad 0))]) hx hb dX5_plainRun_138 hl (k := 3) rfl rfl (by decide) rfl (fun ls hl => ?_)
            refine lv_goto (tgt := 47) hx hb dX5_plainRun_141 (by decide) ?_
            exact hi13 (v14, (v15 + 1)) (Option.some.inj h).symm _ _ _ hw (lv_sub hl [3, 1, 0] rfl)
          · have h := sr_ifn h hc
            refine lv_iload_n hx hb dX5_plainRun_119 rfl (lv_at hl 2 rfl) ?_
            refine sr_jn_rule (fun (K20 : Option ((Int32 × Int32) ⊕ (Int32))) => K20 = some y13 → ∀ (H : Heap) (locs : List Loc) (ls : Array Slot), yH D t ad A s M12 H locs → lv_has ls 4 [(0, .ref (ad 0)), (2, .int v15)] → W p l e ({ frames := 1, cells := 0, slots := 0, locals := 22 }) s m args below meth c H locs 0 0 Q (F0 m 132 ls [])) h ?_ (fun K20 hK20 h => ?_)
            · intro  h H locs ls hw hl
              refine lv_iload_n hx hb dX5_plainRun_132 rfl (lv_at hl 1 rfl) ?_
              refine lv_goto (tgt := 137) hx hb dX5_plainRun_133 (by decide) ?_
              refine lv_istore_n (lv' := [(1, .int v15), (0, .ref (ad 0)), (2, .int v15)]) hx hb dX5_plainRun_137 rfl hl (by decide) rfl (fun ls hl => ?_)
              refine lv_iinc (v := (v15 + 1)) (lv' := [(2, .int (v15 + 1)), (1, .int v15), (0, .ref (ad 0))]) hx hb dX5_plainRun_138 hl (k := 2) rfl rfl (by decide) rfl (fun ls hl => ?_)
              refine lv_goto (tgt := 47) hx hb dX5_plainRun_141 (by decide) ?_
              exact hi13 (v15, (v15 + 1)) (Option.some.inj h).symm _ _ _ hw (lv_sub hl [2, 1, 0] rfl)
            · refine lv_if_lt (tgt := 132) hx hb dX5_plainRun_120 (by decide) (fun hc => ?_) (fun hc => ?_)
              · have h := sr_ifp h hc
                exact hK20  h _ _ _ hw (lv_sub hl [1, 3] rfl)
              · have h := sr_ifn h hc
                refine lv_aload_n hx hb dX5_plainRun_123 rfl (lv_at hl 1 rfl) ?_
                refine lv_iload_n hx hb dX5_plainRun_124 rfl (lv_at hl 3 rfl) ?_
                refine lv_iload_n hx hb dX5_plainRun_125 rfl (lv_at hl 2 rfl) ?_
                obtain ⟨v21, hc, h⟩ := sr_bind1 h
                refine sr_cVi (As := [.int v15, .int v14]) (rest := []) ⟨hx, hb, hml, hown, hts⟩ (k5_isLess l D t ad v15 v14 M12 _ hc) (cwV 2 hts (sr_goodV qmX5_110 qiX5_isLess qsX5_isLess qnX5 qcX5_isLess) rfl rfl rfl qdX5_isLess ⟨Nat.le_of_ble_eq_true rfl, Nat.le_of_ble_eq_true rfl⟩) hw hA (yo_0 t ad) rfl hl.1 rfl (Nat.le_of_ble_eq_true rfl) dX5_plainRun_126 (fun H locs hw => ?_)
                refine lv_if_eq (tgt := 136) hx hb dX5_plainRun_129 (by decide) (fun hc => ?_) (fun hc => ?_)
                · have h := sr_ifp h hc
                  refine lv_iload_n hx hb dX5_plainRun_136 rfl (lv_at hl 2 rfl) ?_
                  refine lv_istore_n (lv' := [(1, .int v14), (3, .int v19), (0, .ref (ad 0)), (2, .int v15)]) hx hb dX5_plainRun_137 rfl hl (by decide) rfl (fun ls hl => ?_)
                  refine lv_iinc (v := (v15 + 1)) (lv' := [(2, .int (v15 + 1)), (1, .int v14), (3, .int v19), (0, .ref (ad 0))]) hx hb dX5_plainRun_138 hl (k := 3) rfl rfl (by decide) rfl (fun ls hl => ?_)
                  refine lv_goto (tgt := 47) hx hb dX5_plainRun_141 (by decide) ?_
                  exact hi13 (v14, (v15 + 1)) (Option.some.inj h).symm _ _ _ hw (lv_sub hl [3, 1, 0] rfl)
                · have h := sr_ifn h hc
                  exact hK20  h _ _ _ hw (lv_sub hl [1, 3] rfl)
        · refine sr_jn_rule (fun (K22 : Option ((Int32 × Int32) ⊕ (Int32))) => K22 = some y13 → ∀ (H : Heap) (locs : List Loc) (ls : Array Slot), yH D t ad A s M12 H locs → lv_has ls 4 [(0, .ref (ad 0)), (1, .int v14), (2, .int v15)] → W p l e ({ frames := 1, cells := 0, slots := 0, locals := 22 }) s m args below meth c H locs 0 0 Q (F0 m 113 ls [])) h ?_ (fun K22 hK22 h => ?_)
          · intro  h H locs ls hw hl
            refine lv_iconst (v := 0) hx hb dX5_plainRun_113 (by decide) ?_
            exact hK18 0 h _ _ _ hw (lv_sub hl [0, 1, 2] rfl)
          · refine lv_if_ne (tgt := 113) hx hb dX5_plainRun_61 (by decide) (fun hc => ?_) (fun hc => ?_)
            · have h := sr_ifn h hc
              exact hK22  h _ _ _ hw (lv_sub hl [0, 1, 2] rfl)
            · have h := sr_ifp h hc
              refine lv_aload_n hx hb dX5_plainRun_64 rfl (lv_at hl 0 rfl) ?_
              refine sr_getr hx hb hts qzX5 hown hw (yf_0_26 t ad) (hts _ qfX5_70) dX5_plainRun_65 ?_
              refine lv_aload_n hx hb dX5_plainRun_68 rfl (lv_at hl 0 rfl) ?_
              refine sr_getr hx hb hts qzX5 hown hw (yf_0_4 t ad) (hts _ qfX5_17) dX5_plainRun_69 ?_
              refine lv_iload_n hx hb dX5_plainRun_72 rfl (lv_at hl 2 rfl) ?_
              refine sr_iald hx hb hw (ya_3 t ad) h dX5_plainRun_73 (fun v23 h => ?_)
              refine sr_iald hx hb hw (ya_20 t ad) h dX5_plainRun_74 (fun v24 h => ?_)
              refine lv_bipush (v := (-2)) hx hb dX5_plainRun_75 (by decide) ?_
              refine sr_jn_rule (fun (K25 : Int32 → Option ((Int32 × Int32) ⊕ (Int32))) => ∀ (v26 : Int32), K25 v26 = some y13 → ∀ (H : Heap) (locs : List Loc) (ls : Array Slot), yH D t ad A s M12 H locs → lv_has ls 4 [(0, .ref (ad 0)), (1, .int v14), (2, .int v15)] → W p l e ({ frames := 1, cells := 0, slots := 0, locals := 22 }) s m args below meth c H locs 0 0 Q (F0 m 85 ls [.int v26])) h ?_ (fun K25 hK25 h => ?_)
              · intro v26 h H locs ls hw hl
                refine lv_aload_n hx hb dX5_plainRun_85 rfl (lv_at hl 0 rfl) ?_
                refine sr_getr hx hb hts qzX5 hown hw (yf_0_26 t ad) (hts _ qfX5_70) dX5_plainRun_86 ?_
                refine lv_aload_n hx hb dX5_plainRun_89 rfl (lv_at hl 0 rfl) ?_
                refine sr_getr hx hb hts qzX5 hown hw (yf_0_5 t ad) (hts _ qfX5_20) dX5_plainRun_90 ?_
                refine lv_iload_n hx hb dX5_plainRun_93 rfl (lv_at hl 2 rfl) ?_
                refine sr_iald hx hb hw (ya_4 t ad) h dX5_plainRun_94 (fun v27 h => ?_)
                refine sr_iald hx hb hw (ya_20 t ad) h dX5_plainRun_95 (fun v28 h => ?_)
                refine lv_bipush (v := (-2)) hx hb dX5_plainRun_96 (by decide) ?_
                refine sr_jn_rule (fun (K29 : Int32 → Option ((Int32 × Int32) ⊕ (Int32))) => ∀ (v30 : Int32), K29 v30 = some y13 → ∀ (H : Heap) (locs : List Loc) (ls : Array Slot), yH D t ad A s M12 H locs → lv_has ls 4 [(0, .ref (ad 0)), (1, .int v14), (2, .int v15)] → W p l e ({ frames := 1, cells := 0, slots := 0, locals := 22 }) s m args below meth c H locs 0 0 Q (F0 m 106 ls [.int v30, .int v26])) h ?_ (fun K29 hK29 h => ?_)
                · intro v30 h H locs ls hw hl
                  refine lv_icmp_eq (tgt := 113) hx hb dX5_plainRun_106 (by decide) (fun hc => ?_) (fun hc => ?_)
                  · have h := sr_ifp h hc
                    exact hK22  h _ _ _ hw (lv_sub hl [0, 1, 2] rfl)
                  · have h := sr_ifn h hc
                    refine lv_iconst (v := 1) hx hb dX5_plainRun_109 (by decide) ?_
                    refine lv_goto (tgt := 114) hx hb dX5_plainRun_110 (by decide) ?_
                    exact hK18 1 h _ _ _ hw (lv_sub hl [0, 1, 2] rfl)
                · refine lv_icmp_ne (tgt := 105) hx hb dX5_plainRun_98 (by decide) (fun hc => ?_) (fun hc => ?_)
                  · have h := sr_ifn h hc
                    refine lv_iconst (v := 0) hx hb dX5_plainRun_105 (by decide) ?_
                    exact hK29 0 h _ _ _ hw (lv_sub hl [0, 1, 2] rfl)
                  · have h := sr_ifp h hc
                    refine lv_iconst (v := 1) hx hb dX5_plainRun_101 (by decide) ?_
                    refine lv_goto (tgt := 106) hx hb dX5_plainRun_102 (by decide) ?_
                    exact hK29 1 h _ _ _ hw (lv_sub hl [0, 1, 2] rfl)
              · refine lv_icmp_ne (tgt := 84) hx hb dX5_plainRun_77 (by decide) (fun hc => ?_) (fun hc => ?_)
                · have h := sr_ifn h hc
                  refine lv_iconst (v := 0) hx hb dX5_plainRun_84 (by decide) ?_
                  exact hK25 0 h _ _ _ hw (lv_sub hl [0, 1, 2] rfl)
                · have h := sr_ifp h hc
                  refine lv_iconst (v := 1) hx hb dX5_plainRun_80 (by decide) ?_
                  refine lv_goto (tgt := 85) hx hb dX5_plainRun_81 (by decide) ?_
                  exact hK25 1 h _ _ _ hw (lv_sub hl [0, 1, 2] rfl)
  refine sr_lp_rule (fun (z1 : Int32 × sr_M) => ∀ (H : Heap) (locs : List Loc) (ls : Array Slot), yH D t ad A s z1.2 H locs → lv_has ls 4 [(0, .ref (ad 0)), (1, .int z1.1)] → W p l e ({ frames := 1, cells := 0, slots := 0, locals := 22 }) s m args below meth c H locs 0 0 Q (F0 m 2 ls [])) ?_ hlp _ _ _ hw (lv_sub hl [1, 0] rfl)
  rintro ⟨v2, M3⟩ y1 h hi1 he1 H locs ls hw hl
  have h : f5_plainRun_L2 v2 M3 = some y1 := h
  have hw : yH D t ad A s M3 H locs := hw
  have hl : lv_has ls 4 [(0, .ref (ad 0)), (1, .int v2)] := hl
  unfold f5_plainRun_L2 at h
  refine lv_iload_n hx hb dX5_plainRun_2 rfl (lv_at hl 1 rfl) ?_
  refine lv_aload_n hx hb dX5_plainRun_3 rfl (lv_at hl 0 rfl) ?_
  refine sr_geti hx hb hts qzX5 hown hw (yf_0_0 t ad) (hts _ qfX5_88) h dX5_plainRun_4 (fun v4 h => ?_)
  refine lv_icmp_ge (tgt := 37) hx hb dX5_plainRun_7 (by decide) (fun hc => ?_) (fun hc => ?_)
  · have h := sr_ifp h hc
    exact hX1  M3 (he1 _ (Option.some.inj h).symm) _ _ _ hw (lv_sub hl [0] rfl)
  · have h := sr_ifn h hc
    refine lv_aload_n hx hb dX5_plainRun_10 rfl (lv_at hl 0 rfl) ?_
    refine sr_getr hx hb hts qzX5 hown hw (yf_0_26 t ad) (hts _ qfX5_70) dX5_plainRun_11 ?_
    refine lv_iload_n hx hb dX5_plainRun_14 rfl (lv_at hl 1 rfl) ?_
    refine lv_aload_n hx hb dX5_plainRun_15 rfl (lv_at hl 0 rfl) ?_
    refine sr_getr hx hb hts qzX5 hown hw (yf_0_2 t ad) (hts _ qfX5_13) dX5_plainRun_16 ?_
    refine lv_iload_n hx hb dX5_plainRun_19 rfl (lv_at hl 1 rfl) ?_
    refine sr_zald hx hb hw (ya_2 t ad) h dX5_plainRun_20 (fun v5 h => ?_)
    refine sr_jn_rule (fun (K6 : Int32 → Option ((Int32 × sr_M) ⊕ (sr_M))) => ∀ (v7 : Int32), K6 v7 = some y1 → ∀ (H : Heap) (locs : List Loc) (ls : Array Slot), yH D t ad A s M3 H locs → lv_has ls 4 [(0, .ref (ad 0)), (1, .int v2)] → W p l e ({ frames := 1, cells := 0, slots := 0, locals := 22 }) s m args below meth c H locs 0 0 Q (F0 m 30 ls [.int v7, .int v2, .ref (ad 20)])) h ?_ (fun K6 hK6 h => ?_)
    · intro v7 h H locs ls hw hl
      refine sr_iast hx hb hw (ya_20 t ad) h dX5_plainRun_30 (fun M8 H locs h hw => ?_)
      refine lv_iinc (v := (v2 + 1)) (lv' := [(1, .int (v2 + 1)), (0, .ref (ad 0))]) hx hb dX5_plainRun_31 hl (k := 1) rfl rfl (by decide) rfl (fun ls hl => ?_)
      refine lv_goto (tgt := 2) hx hb dX5_plainRun_34 (by decide) ?_
      exact hi1 ((v2 + 1), M8) (Option.some.inj h).symm _ _ _ hw (lv_sub hl [1, 0] rfl)
    · refine lv_if_eq (tgt := 28) hx hb dX5_plainRun_21 (by decide) (fun hc => ?_) (fun hc => ?_)
      · have h := sr_ifp h hc
        refine lv_bipush (v := (-2)) hx hb dX5_plainRun_28 (by decide) ?_
        exact hK6 (-2) h _ _ _ hw (lv_sub hl [0, 1] rfl)
      · have h := sr_ifn h hc
        refine lv_iconst (v := (-1)) hx hb dX5_plainRun_24 (by decide) ?_
        refine lv_goto (tgt := 30) hx hb dX5_plainRun_25 (by decide) ?_
        exact hK6 (-1) h _ _ _ hw (lv_sub hl [0, 1] rfl)

noncomputable def f5_behind (a1 : Int32) (M : sr_M) : Option (Int32) :=
sr_ld a1 120 (M.1 20) fun v1 =>
sr_ld v1 300 (M.1 3) fun v2 =>
if v2 = a1 then
(sr_ld v1 300 (M.1 4) fun v4 =>
some v4)
else
(sr_ld v1 300 (M.1 3) fun v3 =>
some v3)
set_option maxHeartbeats 4000000 in
set_option maxRecDepth 100000 in
theorem k5_behind (l : Launch) (D : va_G) (t : Nat → ClassId) (ad : Nat → Nat) (a1 : Int32) (M : sr_M) (r : Int32) (h : f5_behind a1 M = some r) : sr_Mi l D vwCl (yty t) ad (ycf t ad) 26 yX5_behind (.code yX5_behind cX5_behind 3 (some .int) :: sr_tbl) ({ frames := 0, cells := 0, slots := 0, locals := 0 }) [.ref (ad 0), .int a1] M r M := by
  refine sr_open_i (cc := cX5_behind) (maxL := 3) (by decide) rfl (Nat.le_of_ble_eq_true rfl) ?_
  intro p e s m args below meth c A Q ls hx hb hml hts0 hown hA hw hl ret
  have hts : ∀ w ∈ sr_tbl, w.before args s = true := fun w hw => hts0 w (List.mem_cons_of_mem _ hw)
  have hown : s.vm.findClass RX5 = some m.cls := hown
  have hl : lv_has ls 3 [(0, .ref (ad 0)), (1, .int a1)] := hl
  have hw : yH D t ad A s M s.heap [] := hw
  unfold f5_behind at h
  refine lv_aload_n hx hb dX5_behind_0 rfl (lv_at hl 0 rfl) ?_
  refine sr_getr hx hb hts qzX5 hown hw (yf_0_26 t ad) (hts _ qfX5_70) dX5_behind_1 ?_
  refine lv_iload_n hx hb dX5_behind_4 rfl (lv_at hl 1 rfl) ?_
  refine sr_iald hx hb hw (ya_20 t ad) h dX5_behind_5 (fun v1 h => ?_)
  refine lv_istore_n (lv' := [(2, .int v1), (0, .ref (ad 0)), (1, .int a1)]) hx hb dX5_behind_6 rfl hl (by decide) rfl (fun ls hl => ?_)
  refine lv_aload_n hx hb dX5_behind_7 rfl (lv_at hl 1 rfl) ?_
  refine sr_getr hx hb hts qzX5 hown hw (yf_0_4 t ad) (hts _ qfX5_17) dX5_behind_8 ?_
  refine lv_iload_n hx hb dX5_behind_11 rfl (lv_at hl 0 rfl) ?_
  refine sr_iald hx hb hw (ya_3 t ad) h dX5_behind_12 (fun v2 h => ?_)
  refine lv_iload_n hx hb dX5_behind_13 rfl (lv_at hl 2 rfl) ?_
  refine lv_icmp_ne (tgt := 26) hx hb dX5_behind_14 (by decide) (fun hc => ?_) (fun hc => ?_)
  · have h := sr_ifn h hc
    refine lv_aload_n hx hb dX5_behind_26 rfl (lv_at hl 1 rfl) ?_
    refine sr_getr hx hb hts qzX5 hown hw (yf_0_4 t ad) (hts _ qfX5_17) dX5_behind_27 ?_
    refine lv_iload_n hx hb dX5_behind_30 rfl (lv_at hl 0 rfl) ?_
    refine sr_iald hx hb hw (ya_3 t ad) h dX5_behind_31 (fun v3 h => ?_)
    obtain rfl := Option.some.inj h
    exact ret _ _ _ _ hw rfl dX5_behind_32
  · have h := sr_ifp h hc
    refine lv_aload_n hx hb dX5_behind_17 rfl (lv_at hl 1 rfl) ?_
    refine sr_getr hx hb hts qzX5 hown hw (yf_0_5 t ad) (hts _ qfX5_20) dX5_behind_18 ?_
    refine lv_iload_n hx hb dX5_behind_21 rfl (lv_at hl 0 rfl) ?_
    refine sr_iald hx hb hw (ya_4 t ad) h dX5_behind_22 (fun v4 h => ?_)
    refine lv_goto (tgt := 32) hx hb dX5_behind_23 (by decide) ?_
    obtain rfl := Option.some.inj h
    exact ret _ _ _ _ hw rfl dX5_behind_32

noncomputable def f5_worst_L33 (M2 : sr_M) (v5 : Int32) (v6 : Int32) : Option ((Int32 × Int32) ⊕ (Int32)) :=
sr_ld v6 120 (M2.1 20) fun v7 =>
if v7 < 0 then
(some (.inr v5))
else
(sr_ld v6 120 (M2.1 20) fun v8 =>
(f5_rank v8 M2).bind fun v9 =>
sr_jn (fun (v11 : Int32) =>
(f5_behind v6 M2).bind fun v12 =>
some (.inl (v11, v12))) fun (K10 : Int32 → Option ((Int32 × Int32) ⊕ (Int32))) =>
if v9 ≤ v5 then
(K10 v5)
else
(K10 v9))
noncomputable def f5_worst (a1 : Int32) (M : sr_M) : Option (Int32 × sr_M) :=
(f5_isPore a1 M).bind fun v1 =>
if v1 = 0 then
(some ((-2), M))
else
((f5_plainRun M).bind fun M2 =>
sr_ld a1 120 (M2.1 20) fun v3 =>
if v3 = (-2) then
(some ((-8), M2))
else
((sr_lp (fun z4 : Int32 × Int32 => f5_worst_L33 M2 z4.1 z4.2) ((-1), a1)).bind fun w4 =>
some (w4, M2)))
set_option maxHeartbeats 4000000 in
set_option maxRecDepth 100000 in
theorem k5_worst (l : Launch) (D : va_G) (t : Nat → ClassId) (ad : Nat → Nat) (a1 : Int32) (M : sr_M) (r : Int32) (M' : sr_M) (h : f5_worst a1 M = some (r, M')) : sr_Mi l D vwCl (yty t) ad (ycf t ad) 26 yX5_worst (.code yX5_worst cX5_worst 5 (some .int) :: sr_tbl) ({ frames := 2, cells := 0, slots := 0, locals := 45 }) [.ref (ad 0), .int a1] M r M' := by
  refine sr_open_i (cc := cX5_worst) (maxL := 5) (by decide) rfl (Nat.le_of_ble_eq_true rfl) ?_
  intro p e s m args below meth c A Q ls hx hb hml hts0 hown hA hw hl ret
  have hts : ∀ w ∈ sr_tbl, w.before args s = true := fun w hw => hts0 w (List.mem_cons_of_mem _ hw)
  have hown : s.vm.findClass RX5 = some m.cls := hown
  have hl : lv_has ls 5 [(0, .ref (ad 0)), (1, .int a1)] := hl
  have hw : yH D t ad A s M s.heap [] := hw
  unfold f5_worst at h
  refine lv_aload_n hx hb dX5_worst_0 rfl (lv_at hl 0 rfl) ?_
  refine lv_iload_n hx hb dX5_worst_1 rfl (lv_at hl 1 rfl) ?_
  obtain ⟨v1, hc, h⟩ := sr_bind1 h
  refine sr_cVi (As := [.int a1]) (rest := []) ⟨hx, hb, hml, hown, hts⟩ (k5_isPore l D t ad a1 M _ hc) (cwV 1 hts (sr_goodV qmX5_99 qiX5_isPore qsX5_isPore qnX5 qcX5_isPore) rfl rfl rfl qdX5_isPore ⟨Nat.le_of_ble_eq_true rfl, Nat.le_of_ble_eq_true rfl⟩) hw hA (yo_0 t ad) rfl hl.1 rfl (Nat.le_of_ble_eq_true rfl) dX5_worst_2 (fun H locs hw => ?_)
  refine lv_if_ne (tgt := 11) hx hb dX5_worst_5 (by decide) (fun hc => ?_) (fun hc => ?_)
  · have h := sr_ifn h hc
    refine lv_aload_n hx hb dX5_worst_11 rfl (lv_at hl 0 rfl) ?_
    obtain ⟨M2, hc, h⟩ := sr_bind1 h
    refine sr_cVv (As := []) (rest := []) ⟨hx, hb, hml, hown, hts⟩ (k5_plainRun l D t ad  M _ hc) (cwV 0 hts (sr_goodV qmX5_194 qiX5_plainRun qsX5_plainRun qnX5 qcX5_plainRun) rfl rfl rfl qdX5_plainRun ⟨Nat.le_of_ble_eq_true rfl, Nat.le_of_ble_eq_true rfl⟩) hw hA (yo_0 t ad) rfl hl.1 rfl (Nat.le_of_ble_eq_true rfl) dX5_worst_12 (fun H locs hw => ?_)
    refine lv_aload_n hx hb dX5_worst_15 rfl (lv_at hl 0 rfl) ?_
    refine sr_getr hx hb hts qzX5 hown hw (yf_0_26 t ad) (hts _ qfX5_70) dX5_worst_16 ?_
    refine lv_iload_n hx hb dX5_worst_19 rfl (lv_at hl 1 rfl) ?_
    refine sr_iald hx hb hw (ya_20 t ad) h dX5_worst_20 (fun v3 h => ?_)
    refine lv_bipush (v := (-2)) hx hb dX5_worst_21 (by decide) ?_
    refine lv_icmp_ne (tgt := 29) hx hb dX5_worst_23 (by decide) (fun hc => ?_) (fun hc => ?_)
    · have h := sr_ifn h hc
      refine lv_iconst (v := (-1)) hx hb dX5_worst_29 (by decide) ?_
      refine lv_istore_n (lv' := [(2, .int (-1)), (0, .ref (ad 0)), (1, .int a1)]) hx hb dX5_worst_30 rfl hl (by decide) rfl (fun ls hl => ?_)
      refine lv_iload_n hx hb dX5_worst_31 rfl (lv_at hl 2 rfl) ?_
      refine lv_istore_n (lv' := [(3, .int a1), (2, .int (-1)), (0, .ref (ad 0)), (1, .int a1)]) hx hb dX5_worst_32 rfl hl (by decide) rfl (fun ls hl => ?_)
      obtain ⟨x4, hlp, hE4⟩ := sr_bind h
      have hX4 : ∀ (v13 : Int32), v13 = x4 → ∀ (H : Heap) (locs : List Loc) (ls : Array Slot), yH D t ad A s M2 H locs → lv_has ls 5 [(2, .int v13)] → W p l e ({ frames := 2, cells := 0, slots := 0, locals := 45 }) s m args below meth c H locs 0 0 Q (F0 m 76 ls []) := by
        intro v13 ex H locs ls hw hl
        have h := hE4 _ ex
        try dsimp only at h
        refine lv_iload_n hx hb dX5_worst_76 rfl (lv_at hl 0 rfl) ?_
        obtain ⟨rfl, rfl⟩ := Prod.mk.inj (Option.some.inj h)
        exact ret _ _ _ _ hw rfl dX5_worst_77
      refine sr_lp_rule (fun (z4 : Int32 × Int32) => ∀ (H : Heap) (locs : List Loc) (ls : Array Slot), yH D t ad A s M2 H locs → lv_has ls 5 [(0, .ref (ad 0)), (2, .int z4.1), (3, .int z4.2)] → W p l e ({ frames := 2, cells := 0, slots := 0, locals := 45 }) s m args below meth c H locs 0 0 Q (F0 m 33 ls [])) ?_ hlp _ _ _ hw (lv_sub hl [2, 1, 0] rfl)
      rintro ⟨v5, v6⟩ y4 h hi4 he4 H locs ls hw hl
      have h : f5_worst_L33 M2 v5 v6 = some y4 := h
      have hw : yH D t ad A s M2 H locs := hw
      have hl : lv_has ls 5 [(0, .ref (ad 0)), (2, .int v5), (3, .int v6)] := hl
      unfold f5_worst_L33 at h
      refine lv_aload_n hx hb dX5_worst_33 rfl (lv_at hl 0 rfl) ?_
      refine sr_getr hx hb hts qzX5 hown hw (yf_0_26 t ad) (hts _ qfX5_70) dX5_worst_34 ?_
      refine lv_iload_n hx hb dX5_worst_37 rfl (lv_at hl 2 rfl) ?_
      refine sr_iald hx hb hw (ya_20 t ad) h dX5_worst_38 (fun v7 h => ?_)
      refine lv_if_lt (tgt := 76) hx hb dX5_worst_39 (by decide) (fun hc => ?_) (fun hc => ?_)
      · have h := sr_ifp h hc
        exact hX4 v5 (he4 _ (Option.some.inj h).symm) _ _ _ hw (lv_sub hl [1] rfl)
      · have h := sr_ifn h hc
        refine lv_aload_n hx hb dX5_worst_42 rfl (lv_at hl 0 rfl) ?_
        refine lv_aload_n hx hb dX5_worst_43 rfl (lv_at hl 0 rfl) ?_
        refine sr_getr hx hb hts qzX5 hown hw (yf_0_26 t ad) (hts _ qfX5_70) dX5_worst_44 ?_
        refine lv_iload_n hx hb dX5_worst_47 rfl (lv_at hl 2 rfl) ?_
        refine sr_iald hx hb hw (ya_20 t ad) h dX5_worst_48 (fun v8 h => ?_)
        obtain ⟨v9, hc, h⟩ := sr_bind1 h
        refine sr_cVi (As := [.int v8]) (rest := []) ⟨hx, hb, hml, hown, hts⟩ (k5_rank l D t ad v8 M2 _ hc) (cwV 1 hts (sr_goodV qmX5_114 qiX5_rank qsX5_rank qnX5 qcX5_rank) rfl rfl rfl qdX5_rank ⟨Nat.le_of_ble_eq_true rfl, Nat.le_of_ble_eq_true rfl⟩) hw hA (yo_0 t ad) rfl hl.1 rfl (Nat.le_of_ble_eq_true rfl) dX5_worst_49 (fun H locs hw => ?_)
        refine lv_istore (lv' := [(4, .int v9), (0, .ref (ad 0)), (2, .int v5), (3, .int v6)]) hx hb dX5_worst_52 hl (by decide) rfl (fun ls hl => ?_)
        refine lv_iload hx hb dX5_worst_54 (lv_at hl 0 rfl) ?_
        refine lv_iload_n hx hb dX5_worst_56 rfl (lv_at hl 2 rfl) ?_
        refine sr_jn_rule (fun (K10 : Int32 → Option ((Int32 × Int32) ⊕ (Int32))) => ∀ (v11 : Int32), K10 v11 = some y4 → ∀ (H : Heap) (locs : List Loc) (ls : Array Slot), yH D t ad A s M2 H locs → lv_has ls 5 [(0, .ref (ad 0)), (3, .int v6)] → W p l e ({ frames := 2, cells := 0, slots := 0, locals := 45 }) s m args below meth c H locs 0 0 Q (F0 m 66 ls [.int v11])) h ?_ (fun K10 hK10 h => ?_)
        · intro v11 h H locs ls hw hl
          refine lv_istore_n (lv' := [(2, .int v11), (0, .ref (ad 0)), (3, .int v6)]) hx hb dX5_worst_66 rfl hl (by decide) rfl (fun ls hl => ?_)
          refine lv_aload_n hx hb dX5_worst_67 rfl (lv_at hl 1 rfl) ?_
          refine lv_iload_n hx hb dX5_worst_68 rfl (lv_at hl 2 rfl) ?_
          obtain ⟨v12, hc, h⟩ := sr_bind1 h
          refine sr_cVi (As := [.int v6]) (rest := []) ⟨hx, hb, hml, hown, hts⟩ (k5_behind l D t ad v6 M2 _ hc) (cwV 1 hts (sr_goodV qmX5_197 qiX5_behind qsX5_behind qnX5 qcX5_behind) rfl rfl rfl qdX5_behind ⟨Nat.le_of_ble_eq_true rfl, Nat.le_of_ble_eq_true rfl⟩) hw hA (yo_0 t ad) rfl hl.1 rfl (Nat.le_of_ble_eq_true rfl) dX5_worst_69 (fun H locs hw => ?_)
          refine lv_istore_n (lv' := [(3, .int v12), (2, .int v11), (0, .ref (ad 0))]) hx hb dX5_worst_72 rfl hl (by decide) rfl (fun ls hl => ?_)
          refine lv_goto (tgt := 33) hx hb dX5_worst_73 (by decide) ?_
          exact hi4 (v11, v12) (Option.some.inj h).symm _ _ _ hw (lv_sub hl [2, 1, 0] rfl)
        · refine lv_icmp_le (tgt := 65) hx hb dX5_worst_57 (by decide) (fun hc => ?_) (fun hc => ?_)
          · have h := sr_ifp h hc
            refine lv_iload_n hx hb dX5_worst_65 rfl (lv_at hl 2 rfl) ?_
            exact hK10 v5 h _ _ _ hw (lv_sub hl [1, 3] rfl)
          · have h := sr_ifn h hc
            refine lv_iload hx hb dX5_worst_60 (lv_at hl 0 rfl) ?_
            refine lv_goto (tgt := 66) hx hb dX5_worst_62 (by decide) ?_
            exact hK10 v9 h _ _ _ hw (lv_sub hl [1, 3] rfl)
    · have h := sr_ifp h hc
      refine lv_bipush (v := (-8)) hx hb dX5_worst_26 (by decide) ?_
      obtain ⟨rfl, rfl⟩ := Prod.mk.inj (Option.some.inj h)
      exact ret _ _ _ _ hw rfl dX5_worst_28
  · have h := sr_ifp h hc
    refine lv_bipush (v := (-2)) hx hb dX5_worst_8 (by decide) ?_
    obtain ⟨rfl, rfl⟩ := Prod.mk.inj (Option.some.inj h)
    exact ret _ _ _ _ hw rfl dX5_worst_10

noncomputable def f5_way_L23 (M2 : sr_M) (v4 : Int32) (v5 : Int32) : Option ((Int32 × Int32) ⊕ (Int32)) :=
sr_ld v5 120 (M2.1 20) fun v6 =>
if v6 < 0 then
(some (.inr v4))
else
((f5_behind v5 M2).bind fun v7 =>
some (.inl ((v4 + 1), v7)))
noncomputable def f5_way_L62 (a2 : Int32) (M2 : sr_M) (v10 : Int32) (v11 : Int32) : Option ((Int32 × Int32) ⊕ (Int32)) :=
if v11 ≤ a2 then
(some (.inr v10))
else
((f5_behind v10 M2).bind fun v12 =>
some (.inl (v12, (v11 + (-1)))))
noncomputable def f5_way (a1 : Int32) (a2 : Int32) (M : sr_M) : Option (Int32 × sr_M) :=
(f5_isPore a1 M).bind fun v1 =>
if v1 = 0 then
(some ((-1), M))
else
(if 0 ≤ a2 then
((f5_plainRun M).bind fun M2 =>
(sr_lp (fun z3 : Int32 × Int32 => f5_way_L23 M2 z3.1 z3.2) (0, a1)).bind fun w3 =>
if a2 < w3 then
((sr_lp (fun z9 : Int32 × Int32 => f5_way_L62 a2 M2 z9.1 z9.2) (a1, (w3 - 1))).bind fun w9 =>
sr_ld w9 120 (M2.1 20) fun v14 =>
some (v14, M2))
else
(some ((-1), M2)))
else
(some ((-1), M)))
set_option maxHeartbeats 4000000 in
set_option maxRecDepth 100000 in
theorem k5_way (l : Launch) (D : va_G) (t : Nat → ClassId) (ad : Nat → Nat) (a1 : Int32) (a2 : Int32) (M : sr_M) (r : Int32) (M' : sr_M) (h : f5_way a1 a2 M = some (r, M')) : sr_Mi l D vwCl (yty t) ad (ycf t ad) 26 yX5_way (.code yX5_way cX5_way 6 (some .int) :: sr_tbl) ({ frames := 2, cells := 0, slots := 0, locals := 45 }) [.ref (ad 0), .int a1, .int a2] M r M' := by
  refine sr_open_i (cc := cX5_way) (maxL := 6) (by decide) rfl (Nat.le_of_ble_eq_true rfl) ?_
  intro p e s m args below meth c A Q ls hx hb hml hts0 hown hA hw hl ret
  have hts : ∀ w ∈ sr_tbl, w.before args s = true := fun w hw => hts0 w (List.mem_cons_of_mem _ hw)
  have hown : s.vm.findClass RX5 = some m.cls := hown
  have hl : lv_has ls 6 [(0, .ref (ad 0)), (1, .int a1), (2, .int a2)] := hl
  have hw : yH D t ad A s M s.heap [] := hw
  unfold f5_way at h
  refine lv_aload_n hx hb dX5_way_0 rfl (lv_at hl 0 rfl) ?_
  refine lv_iload_n hx hb dX5_way_1 rfl (lv_at hl 1 rfl) ?_
  obtain ⟨v1, hc, h⟩ := sr_bind1 h
  refine sr_cVi (As := [.int a1]) (rest := []) ⟨hx, hb, hml, hown, hts⟩ (k5_isPore l D t ad a1 M _ hc) (cwV 1 hts (sr_goodV qmX5_99 qiX5_isPore qsX5_isPore qnX5 qcX5_isPore) rfl rfl rfl qdX5_isPore ⟨Nat.le_of_ble_eq_true rfl, Nat.le_of_ble_eq_true rfl⟩) hw hA (yo_0 t ad) rfl hl.1 rfl (Nat.le_of_ble_eq_true rfl) dX5_way_2 (fun H locs hw => ?_)
  refine lv_if_eq (tgt := 12) hx hb dX5_way_5 (by decide) (fun hc => ?_) (fun hc => ?_)
  · have h := sr_ifp h hc
    refine lv_iconst (v := (-1)) hx hb dX5_way_12 (by decide) ?_
    obtain ⟨rfl, rfl⟩ := Prod.mk.inj (Option.some.inj h)
    exact ret _ _ _ _ hw rfl dX5_way_13
  · have h := sr_ifn h hc
    refine lv_iload_n hx hb dX5_way_8 rfl (lv_at hl 2 rfl) ?_
    refine lv_if_ge (tgt := 14) hx hb dX5_way_9 (by decide) (fun hc => ?_) (fun hc => ?_)
    · have h := sr_ifp h hc
      refine lv_aload_n hx hb dX5_way_14 rfl (lv_at hl 0 rfl) ?_
      obtain ⟨M2, hc, h⟩ := sr_bind1 h
      refine sr_cVv (As := []) (rest := []) ⟨hx, hb, hml, hown, hts⟩ (k5_plainRun l D t ad  M _ hc) (cwV 0 hts (sr_goodV qmX5_194 qiX5_plainRun qsX5_plainRun qnX5 qcX5_plainRun) rfl rfl rfl qdX5_plainRun ⟨Nat.le_of_ble_eq_true rfl, Nat.le_of_ble_eq_true rfl⟩) hw hA (yo_0 t ad) rfl hl.1 rfl (Nat.le_of_ble_eq_true rfl) dX5_way_15 (fun H locs hw => ?_)
      refine lv_iconst (v := 0) hx hb dX5_way_18 (by decide) ?_
      refine lv_istore_n (lv' := [(3, .int 0), (0, .ref (ad 0)), (1, .int a1), (2, .int a2)]) hx hb dX5_way_19 rfl hl (by decide) rfl (fun ls hl => ?_)
      refine lv_iload_n hx hb dX5_way_20 rfl (lv_at hl 2 rfl) ?_
      refine lv_istore (lv' := [(4, .int a1), (3, .int 0), (0, .ref (ad 0)), (1, .int a1), (2, .int a2)]) hx hb dX5_way_21 hl (by decide) rfl (fun ls hl => ?_)
      obtain ⟨x3, hlp, hE3⟩ := sr_bind h
      have hX3 : ∀ (v8 : Int32), v8 = x3 → ∀ (H : Heap) (locs : List Loc) (ls : Array Slot), yH D t ad A s M2 H locs → lv_has ls 6 [(0, .ref (ad 0)), (1, .int a1), (2, .int a2), (3, .int v8)] → W p l e ({ frames := 2, cells := 0, slots := 0, locals := 45 }) s m args below meth c H locs 0 0 Q (F0 m 47 ls []) := by
        intro v8 ex H locs ls hw hl
        have h := hE3 _ ex
        try dsimp only at h
        refine lv_iload_n hx hb dX5_way_47 rfl (lv_at hl 2 rfl) ?_
        refine lv_iload_n hx hb dX5_way_48 rfl (lv_at hl 3 rfl) ?_
        refine lv_icmp_lt (tgt := 54) hx hb dX5_way_49 (by decide) (fun hc => ?_) (fun hc => ?_)
        · have h := sr_ifp h hc
          refine lv_iload_n hx hb dX5_way_54 rfl (lv_at hl 1 rfl) ?_
          refine lv_istore (lv' := [(4, .int a1), (0, .ref (ad 0)), (1, .int a1), (2, .int a2), (3, .int v8)]) hx hb dX5_way_55 hl (by decide) rfl (fun ls hl => ?_)
          refine lv_iload_n hx hb dX5_way_57 rfl (lv_at hl 4 rfl) ?_
          refine lv_iconst (v := 1) hx hb dX5_way_58 (by decide) ?_
          refine lv_isub hx hb dX5_way_59 ?_
          refine lv_istore (lv' := [(5, .int (v8 - 1)), (4, .int a1), (0, .ref (ad 0)), (1, .int a1), (2, .int a2), (3, .int v8)]) hx hb dX5_way_60 hl (by decide) rfl (fun ls hl => ?_)
          obtain ⟨x9, hlp, hE9⟩ := sr_bind h
          have hX9 : ∀ (v13 : Int32), v13 = x9 → ∀ (H : Heap) (locs : List Loc) (ls : Array Slot), yH D t ad A s M2 H locs → lv_has ls 6 [(0, .ref (ad 0)), (4, .int v13)] → W p l e ({ frames := 2, cells := 0, slots := 0, locals := 45 }) s m args below meth c H locs 0 0 Q (F0 m 82 ls []) := by
            intro v13 ex H locs ls hw hl
            have h := hE9 _ ex
            try dsimp only at h
            refine lv_aload_n hx hb dX5_way_82 rfl (lv_at hl 0 rfl) ?_
            refine sr_getr hx hb hts qzX5 hown hw (yf_0_26 t ad) (hts _ qfX5_70) dX5_way_83 ?_
            refine lv_iload hx hb dX5_way_86 (lv_at hl 1 rfl) ?_
            refine sr_iald hx hb hw (ya_20 t ad) h dX5_way_88 (fun v14 h => ?_)
            obtain ⟨rfl, rfl⟩ := Prod.mk.inj (Option.some.inj h)
            exact ret _ _ _ _ hw rfl dX5_way_89
          refine sr_lp_rule (fun (z9 : Int32 × Int32) => ∀ (H : Heap) (locs : List Loc) (ls : Array Slot), yH D t ad A s M2 H locs → lv_has ls 6 [(0, .ref (ad 0)), (2, .int a2), (4, .int z9.1), (5, .int z9.2)] → W p l e ({ frames := 2, cells := 0, slots := 0, locals := 45 }) s m args below meth c H locs 0 0 Q (F0 m 62 ls [])) ?_ hlp _ _ _ hw (lv_sub hl [2, 4, 1, 0] rfl)
          rintro ⟨v10, v11⟩ y9 h hi9 he9 H locs ls hw hl
          have h : f5_way_L62 a2 M2 v10 v11 = some y9 := h
          have hw : yH D t ad A s M2 H locs := hw
          have hl : lv_has ls 6 [(0, .ref (ad 0)), (2, .int a2), (4, .int v10), (5, .int v11)] := hl
          unfold f5_way_L62 at h
          refine lv_iload hx hb dX5_way_62 (lv_at hl 3 rfl) ?_
          refine lv_iload_n hx hb dX5_way_64 rfl (lv_at hl 1 rfl) ?_
          refine lv_icmp_le (tgt := 82) hx hb dX5_way_65 (by decide) (fun hc => ?_) (fun hc => ?_)
          · have h := sr_ifp h hc
            exact hX9 v10 (he9 _ (Option.some.inj h).symm) _ _ _ hw (lv_sub hl [0, 2] rfl)
          · have h := sr_ifn h hc
            refine lv_aload_n hx hb dX5_way_68 rfl (lv_at hl 0 rfl) ?_
            refine lv_iload hx hb dX5_way_69 (lv_at hl 2 rfl) ?_
            obtain ⟨v12, hc, h⟩ := sr_bind1 h
            refine sr_cVi (As := [.int v10]) (rest := []) ⟨hx, hb, hml, hown, hts⟩ (k5_behind l D t ad v10 M2 _ hc) (cwV 1 hts (sr_goodV qmX5_197 qiX5_behind qsX5_behind qnX5 qcX5_behind) rfl rfl rfl qdX5_behind ⟨Nat.le_of_ble_eq_true rfl, Nat.le_of_ble_eq_true rfl⟩) hw hA (yo_0 t ad) rfl hl.1 rfl (Nat.le_of_ble_eq_true rfl) dX5_way_71 (fun H locs hw => ?_)
            refine lv_istore (lv' := [(4, .int v12), (0, .ref (ad 0)), (2, .int a2), (5, .int v11)]) hx hb dX5_way_74 hl (by decide) rfl (fun ls hl => ?_)
            refine lv_iinc (v := (v11 + (-1))) (lv' := [(5, .int (v11 + (-1))), (4, .int v12), (0, .ref (ad 0)), (2, .int a2)]) hx hb dX5_way_76 hl (k := 3) rfl rfl (by decide) rfl (fun ls hl => ?_)
            refine lv_goto (tgt := 62) hx hb dX5_way_79 (by decide) ?_
            exact hi9 (v12, (v11 + (-1))) (Option.some.inj h).symm _ _ _ hw (lv_sub hl [2, 3, 1, 0] rfl)
        · have h := sr_ifn h hc
          refine lv_iconst (v := (-1)) hx hb dX5_way_52 (by decide) ?_
          obtain ⟨rfl, rfl⟩ := Prod.mk.inj (Option.some.inj h)
          exact ret _ _ _ _ hw rfl dX5_way_53
      refine sr_lp_rule (fun (z3 : Int32 × Int32) => ∀ (H : Heap) (locs : List Loc) (ls : Array Slot), yH D t ad A s M2 H locs → lv_has ls 6 [(0, .ref (ad 0)), (1, .int a1), (2, .int a2), (3, .int z3.1), (4, .int z3.2)] → W p l e ({ frames := 2, cells := 0, slots := 0, locals := 45 }) s m args below meth c H locs 0 0 Q (F0 m 23 ls [])) ?_ hlp _ _ _ hw (lv_sub hl [2, 3, 4, 1, 0] rfl)
      rintro ⟨v4, v5⟩ y3 h hi3 he3 H locs ls hw hl
      have h : f5_way_L23 M2 v4 v5 = some y3 := h
      have hw : yH D t ad A s M2 H locs := hw
      have hl : lv_has ls 6 [(0, .ref (ad 0)), (1, .int a1), (2, .int a2), (3, .int v4), (4, .int v5)] := hl
      unfold f5_way_L23 at h
      refine lv_aload_n hx hb dX5_way_23 rfl (lv_at hl 0 rfl) ?_
      refine sr_getr hx hb hts qzX5 hown hw (yf_0_26 t ad) (hts _ qfX5_70) dX5_way_24 ?_
      refine lv_iload hx hb dX5_way_27 (lv_at hl 4 rfl) ?_
      refine sr_iald hx hb hw (ya_20 t ad) h dX5_way_29 (fun v6 h => ?_)
      refine lv_if_lt (tgt := 47) hx hb dX5_way_30 (by decide) (fun hc => ?_) (fun hc => ?_)
      · have h := sr_ifp h hc
        exact hX3 v4 (he3 _ (Option.some.inj h).symm) _ _ _ hw (lv_sub hl [0, 1, 2, 3] rfl)
      · have h := sr_ifn h hc
        refine lv_iinc (v := (v4 + 1)) (lv' := [(3, .int (v4 + 1)), (0, .ref (ad 0)), (1, .int a1), (2, .int a2), (4, .int v5)]) hx hb dX5_way_33 hl (k := 3) rfl rfl (by decide) rfl (fun ls hl => ?_)
        refine lv_aload_n hx hb dX5_way_36 rfl (lv_at hl 1 rfl) ?_
        refine lv_iload hx hb dX5_way_37 (lv_at hl 4 rfl) ?_
        obtain ⟨v7, hc, h⟩ := sr_bind1 h
        refine sr_cVi (As := [.int v5]) (rest := []) ⟨hx, hb, hml, hown, hts⟩ (k5_behind l D t ad v5 M2 _ hc) (cwV 1 hts (sr_goodV qmX5_197 qiX5_behind qsX5_behind qnX5 qcX5_behind) rfl rfl rfl qdX5_behind ⟨Nat.le_of_ble_eq_true rfl, Nat.le_of_ble_eq_true rfl⟩) hw hA (yo_0 t ad) rfl hl.1 rfl (Nat.le_of_ble_eq_true rfl) dX5_way_39 (fun H locs hw => ?_)
        refine lv_istore (lv' := [(4, .int v7), (3, .int (v4 + 1)), (0, .ref (ad 0)), (1, .int a1), (2, .int a2)]) hx hb dX5_way_42 hl (by decide) rfl (fun ls hl => ?_)
        refine lv_goto (tgt := 23) hx hb dX5_way_44 (by decide) ?_
        exact hi3 ((v4 + 1), v7) (Option.some.inj h).symm _ _ _ hw (lv_sub hl [2, 3, 4, 1, 0] rfl)
    · have h := sr_ifn h hc
      refine lv_iconst (v := (-1)) hx hb dX5_way_12 (by decide) ?_
      obtain ⟨rfl, rfl⟩ := Prod.mk.inj (Option.some.inj h)
      exact ret _ _ _ _ hw rfl dX5_way_13

noncomputable def f5_apart_L2 (v2 : Int32) (M3 : sr_M) : Option ((Int32 × sr_M) ⊕ (sr_M)) :=
sr_bnd (M3.1 0 0) fun v4 =>
if v4 ≤ v2 then
(some (.inr M3))
else
(sr_st v2 120 M3 21 v2 fun M5 =>
some (.inl ((v2 + 1), M5)))
noncomputable def f5_apart (M : sr_M) : Option (sr_M) :=
(sr_lp (fun z1 : Int32 × sr_M => f5_apart_L2 z1.1 z1.2) (0, M)).bind fun w1 =>
some w1
set_option maxHeartbeats 4000000 in
set_option maxRecDepth 100000 in
theorem k5_apart (l : Launch) (D : va_G) (t : Nat → ClassId) (ad : Nat → Nat) (M : sr_M) (M' : sr_M) (h : f5_apart M = some M') : sr_Mv l D vwCl (yty t) ad (ycf t ad) 26 yX5_apart (.code yX5_apart cX5_apart 2 (none) :: sr_tbl) ({ frames := 0, cells := 0, slots := 0, locals := 0 }) [.ref (ad 0)] M M' := by
  refine sr_open_v (cc := cX5_apart) (maxL := 2) (by decide) rfl (Nat.le_of_ble_eq_true rfl) ?_
  intro p e s m args below meth c A Q ls hx hb hml hts0 hown hA hw hl ret
  have hts : ∀ w ∈ sr_tbl, w.before args s = true := fun w hw => hts0 w (List.mem_cons_of_mem _ hw)
  have hown : s.vm.findClass RX5 = some m.cls := hown
  have hl : lv_has ls 2 [(0, .ref (ad 0))] := hl
  have hw : yH D t ad A s M s.heap [] := hw
  unfold f5_apart at h
  refine lv_iconst (v := 0) hx hb dX5_apart_0 (by decide) ?_
  refine lv_istore_n (lv' := [(1, .int 0), (0, .ref (ad 0))]) hx hb dX5_apart_1 rfl hl (by decide) rfl (fun ls hl => ?_)
  obtain ⟨x1, hlp, hE1⟩ := sr_bind h
  have hX1 : ∀ (M6 : sr_M), M6 = x1 → ∀ (H : Heap) (locs : List Loc) (ls : Array Slot), yH D t ad A s M6 H locs → lv_has ls 2 [] → W p l e ({ frames := 0, cells := 0, slots := 0, locals := 0 }) s m args below meth c H locs 0 0 Q (F0 m 23 ls []) := by
    intro M6 ex H locs ls hw hl
    have h := hE1 _ ex
    try dsimp only at h
    obtain rfl := Option.some.inj h
    exact ret _ _ _ _ hw dX5_apart_23
  refine sr_lp_rule (fun (z1 : Int32 × sr_M) => ∀ (H : Heap) (locs : List Loc) (ls : Array Slot), yH D t ad A s z1.2 H locs → lv_has ls 2 [(0, .ref (ad 0)), (1, .int z1.1)] → W p l e ({ frames := 0, cells := 0, slots := 0, locals := 0 }) s m args below meth c H locs 0 0 Q (F0 m 2 ls [])) ?_ hlp _ _ _ hw (lv_sub hl [1, 0] rfl)
  rintro ⟨v2, M3⟩ y1 h hi1 he1 H locs ls hw hl
  have h : f5_apart_L2 v2 M3 = some y1 := h
  have hw : yH D t ad A s M3 H locs := hw
  have hl : lv_has ls 2 [(0, .ref (ad 0)), (1, .int v2)] := hl
  unfold f5_apart_L2 at h
  refine lv_iload_n hx hb dX5_apart_2 rfl (lv_at hl 1 rfl) ?_
  refine lv_aload_n hx hb dX5_apart_3 rfl (lv_at hl 0 rfl) ?_
  refine sr_geti hx hb hts qzX5 hown hw (yf_0_0 t ad) (hts _ qfX5_88) h dX5_apart_4 (fun v4 h => ?_)
  refine lv_icmp_ge (tgt := 23) hx hb dX5_apart_7 (by decide) (fun hc => ?_) (fun hc => ?_)
  · have h := sr_ifp h hc
    exact hX1  M3 (he1 _ (Option.some.inj h).symm) _ _ _ hw (lv_sub hl [] rfl)
  · have h := sr_ifn h hc
    refine lv_aload_n hx hb dX5_apart_10 rfl (lv_at hl 0 rfl) ?_
    refine sr_getr hx hb hts qzX5 hown hw (yf_0_27 t ad) (hts _ qfX5_73) dX5_apart_11 ?_
    refine lv_iload_n hx hb dX5_apart_14 rfl (lv_at hl 1 rfl) ?_
    refine lv_iload_n hx hb dX5_apart_15 rfl (lv_at hl 1 rfl) ?_
    refine sr_iast hx hb hw (ya_21 t ad) h dX5_apart_16 (fun M5 H locs h hw => ?_)
    refine lv_iinc (v := (v2 + 1)) (lv' := [(1, .int (v2 + 1)), (0, .ref (ad 0))]) hx hb dX5_apart_17 hl (k := 1) rfl rfl (by decide) rfl (fun ls hl => ?_)
    refine lv_goto (tgt := 2) hx hb dX5_apart_20 (by decide) ?_
    exact hi1 ((v2 + 1), M5) (Option.some.inj h).symm _ _ _ hw (lv_sub hl [1, 0] rfl)

noncomputable def f5_tie_L27 (v2 : Int32) (v4 : Int32) (v6 : Int32) (M7 : sr_M) : Option ((Int32 × sr_M) ⊕ (sr_M)) :=
sr_bnd (M7.1 0 0) fun v8 =>
if v8 ≤ v6 then
(some (.inr M7))
else
(sr_ld v6 120 (M7.1 21) fun v9 =>
sr_jn (fun (v11 : Int32) =>
sr_st v6 120 M7 21 v11 fun M12 =>
some (.inl ((v6 + 1), M12))) fun (K10 : Int32 → Option ((Int32 × sr_M) ⊕ (sr_M))) =>
if v9 = v2 then
(K10 v4)
else
(sr_ld v6 120 (M7.1 21) fun v13 =>
K10 v13))
noncomputable def f5_tie (a1 : Int32) (M : sr_M) : Option (Int32 × sr_M) :=
sr_ld a1 300 (M.1 3) fun v1 =>
sr_ld v1 120 (M.1 21) fun v2 =>
sr_ld a1 300 (M.1 4) fun v3 =>
sr_ld v3 120 (M.1 21) fun v4 =>
(sr_lp (fun z5 : Int32 × sr_M => f5_tie_L27 v2 v4 z5.1 z5.2) (0, M)).bind fun w5 =>
if v2 = v4 then
(some (0, w5))
else
(some (1, w5))
set_option maxHeartbeats 4000000 in
set_option maxRecDepth 100000 in
theorem k5_tie (l : Launch) (D : va_G) (t : Nat → ClassId) (ad : Nat → Nat) (a1 : Int32) (M : sr_M) (r : Int32) (M' : sr_M) (h : f5_tie a1 M = some (r, M')) : sr_Mi l D vwCl (yty t) ad (ycf t ad) 26 yX5_tie (.code yX5_tie cX5_tie 5 (some .boolean) :: sr_tbl) ({ frames := 0, cells := 0, slots := 0, locals := 0 }) [.ref (ad 0), .int a1] M r M' := by
  refine sr_open_i (cc := cX5_tie) (maxL := 5) (by decide) rfl (Nat.le_of_ble_eq_true rfl) ?_
  intro p e s m args below meth c A Q ls hx hb hml hts0 hown hA hw hl ret
  have hts : ∀ w ∈ sr_tbl, w.before args s = true := fun w hw => hts0 w (List.mem_cons_of_mem _ hw)
  have hown : s.vm.findClass RX5 = some m.cls := hown
  have hl : lv_has ls 5 [(0, .ref (ad 0)), (1, .int a1)] := hl
  have hw : yH D t ad A s M s.heap [] := hw
  unfold f5_tie at h
  refine lv_aload_n hx hb dX5_tie_0 rfl (lv_at hl 0 rfl) ?_
  refine sr_getr hx hb hts qzX5 hown hw (yf_0_27 t ad) (hts _ qfX5_73) dX5_tie_1 ?_
  refine lv_aload_n hx hb dX5_tie_4 rfl (lv_at hl 0 rfl) ?_
  refine sr_getr hx hb hts qzX5 hown hw (yf_0_4 t ad) (hts _ qfX5_17) dX5_tie_5 ?_
  refine lv_iload_n hx hb dX5_tie_8 rfl (lv_at hl 1 rfl) ?_
  refine sr_iald hx hb hw (ya_3 t ad) h dX5_tie_9 (fun v1 h => ?_)
  refine sr_iald hx hb hw (ya_21 t ad) h dX5_tie_10 (fun v2 h => ?_)
  refine lv_istore_n (lv' := [(2, .int v2), (0, .ref (ad 0)), (1, .int a1)]) hx hb dX5_tie_11 rfl hl (by decide) rfl (fun ls hl => ?_)
  refine lv_aload_n hx hb dX5_tie_12 rfl (lv_at hl 1 rfl) ?_
  refine sr_getr hx hb hts qzX5 hown hw (yf_0_27 t ad) (hts _ qfX5_73) dX5_tie_13 ?_
  refine lv_aload_n hx hb dX5_tie_16 rfl (lv_at hl 1 rfl) ?_
  refine sr_getr hx hb hts qzX5 hown hw (yf_0_5 t ad) (hts _ qfX5_20) dX5_tie_17 ?_
  refine lv_iload_n hx hb dX5_tie_20 rfl (lv_at hl 2 rfl) ?_
  refine sr_iald hx hb hw (ya_4 t ad) h dX5_tie_21 (fun v3 h => ?_)
  refine sr_iald hx hb hw (ya_21 t ad) h dX5_tie_22 (fun v4 h => ?_)
  refine lv_istore_n (lv' := [(3, .int v4), (2, .int v2), (0, .ref (ad 0)), (1, .int a1)]) hx hb dX5_tie_23 rfl hl (by decide) rfl (fun ls hl => ?_)
  refine lv_iconst (v := 0) hx hb dX5_tie_24 (by decide) ?_
  refine lv_istore (lv' := [(4, .int 0), (3, .int v4), (2, .int v2), (0, .ref (ad 0)), (1, .int a1)]) hx hb dX5_tie_25 hl (by decide) rfl (fun ls hl => ?_)
  obtain ⟨x5, hlp, hE5⟩ := sr_bind h
  have hX5 : ∀ (M14 : sr_M), M14 = x5 → ∀ (H : Heap) (locs : List Loc) (ls : Array Slot), yH D t ad A s M14 H locs → lv_has ls 5 [(2, .int v2), (3, .int v4)] → W p l e ({ frames := 0, cells := 0, slots := 0, locals := 0 }) s m args below meth c H locs 0 0 Q (F0 m 71 ls []) := by
    intro M14 ex H locs ls hw hl
    have h := hE5 _ ex
    try dsimp only at h
    refine lv_iload_n hx hb dX5_tie_71 rfl (lv_at hl 0 rfl) ?_
    refine lv_iload_n hx hb dX5_tie_72 rfl (lv_at hl 1 rfl) ?_
    refine lv_icmp_eq (tgt := 80) hx hb dX5_tie_73 (by decide) (fun hc => ?_) (fun hc => ?_)
    · have h := sr_ifp h hc
      refine lv_iconst (v := 0) hx hb dX5_tie_80 (by decide) ?_
      obtain ⟨rfl, rfl⟩ := Prod.mk.inj (Option.some.inj h)
      exact ret _ _ _ _ hw rfl dX5_tie_81
    · have h := sr_ifn h hc
      refine lv_iconst (v := 1) hx hb dX5_tie_76 (by decide) ?_
      refine lv_goto (tgt := 81) hx hb dX5_tie_77 (by decide) ?_
      obtain ⟨rfl, rfl⟩ := Prod.mk.inj (Option.some.inj h)
      exact ret _ _ _ _ hw rfl dX5_tie_81
  refine sr_lp_rule (fun (z5 : Int32 × sr_M) => ∀ (H : Heap) (locs : List Loc) (ls : Array Slot), yH D t ad A s z5.2 H locs → lv_has ls 5 [(0, .ref (ad 0)), (2, .int v2), (3, .int v4), (4, .int z5.1)] → W p l e ({ frames := 0, cells := 0, slots := 0, locals := 0 }) s m args below meth c H locs 0 0 Q (F0 m 27 ls [])) ?_ hlp _ _ _ hw (lv_sub hl [3, 2, 1, 0] rfl)
  rintro ⟨v6, M7⟩ y5 h hi5 he5 H locs ls hw hl
  have h : f5_tie_L27 v2 v4 v6 M7 = some y5 := h
  have hw : yH D t ad A s M7 H locs := hw
  have hl : lv_has ls 5 [(0, .ref (ad 0)), (2, .int v2), (3, .int v4), (4, .int v6)] := hl
  unfold f5_tie_L27 at h
  refine lv_iload hx hb dX5_tie_27 (lv_at hl 3 rfl) ?_
  refine lv_aload_n hx hb dX5_tie_29 rfl (lv_at hl 0 rfl) ?_
  refine sr_geti hx hb hts qzX5 hown hw (yf_0_0 t ad) (hts _ qfX5_88) h dX5_tie_30 (fun v8 h => ?_)
  refine lv_icmp_ge (tgt := 71) hx hb dX5_tie_33 (by decide) (fun hc => ?_) (fun hc => ?_)
  · have h := sr_ifp h hc
    exact hX5  M7 (he5 _ (Option.some.inj h).symm) _ _ _ hw (lv_sub hl [1, 2] rfl)
  · have h := sr_ifn h hc
    refine lv_aload_n hx hb dX5_tie_36 rfl (lv_at hl 0 rfl) ?_
    refine sr_getr hx hb hts qzX5 hown hw (yf_0_27 t ad) (hts _ qfX5_73) dX5_tie_37 ?_
    refine lv_iload hx hb dX5_tie_40 (lv_at hl 3 rfl) ?_
    refine lv_aload_n hx hb dX5_tie_42 rfl (lv_at hl 0 rfl) ?_
    refine sr_getr hx hb hts qzX5 hown hw (yf_0_27 t ad) (hts _ qfX5_73) dX5_tie_43 ?_
    refine lv_iload hx hb dX5_tie_46 (lv_at hl 3 rfl) ?_
    refine sr_iald hx hb hw (ya_21 t ad) h dX5_tie_48 (fun v9 h => ?_)
    refine lv_iload_n hx hb dX5_tie_49 rfl (lv_at hl 1 rfl) ?_
    refine sr_jn_rule (fun (K10 : Int32 → Option ((Int32 × sr_M) ⊕ (sr_M))) => ∀ (v11 : Int32), K10 v11 = some y5 → ∀ (H : Heap) (locs : List Loc) (ls : Array Slot), yH D t ad A s M7 H locs → lv_has ls 5 [(0, .ref (ad 0)), (2, .int v2), (3, .int v4), (4, .int v6)] → W p l e ({ frames := 0, cells := 0, slots := 0, locals := 0 }) s m args below meth c H locs 0 0 Q (F0 m 64 ls [.int v11, .int v6, .ref (ad 21)])) h ?_ (fun K10 hK10 h => ?_)
    · intro v11 h H locs ls hw hl
      refine sr_iast hx hb hw (ya_21 t ad) h dX5_tie_64 (fun M12 H locs h hw => ?_)
      refine lv_iinc (v := (v6 + 1)) (lv' := [(4, .int (v6 + 1)), (0, .ref (ad 0)), (2, .int v2), (3, .int v4)]) hx hb dX5_tie_65 hl (k := 3) rfl rfl (by decide) rfl (fun ls hl => ?_)
      refine lv_goto (tgt := 27) hx hb dX5_tie_68 (by decide) ?_
      exact hi5 ((v6 + 1), M12) (Option.some.inj h).symm _ _ _ hw (lv_sub hl [1, 2, 3, 0] rfl)
    · refine lv_icmp_ne (tgt := 57) hx hb dX5_tie_50 (by decide) (fun hc => ?_) (fun hc => ?_)
      · have h := sr_ifn h hc
        refine lv_aload_n hx hb dX5_tie_57 rfl (lv_at hl 0 rfl) ?_
        refine sr_getr hx hb hts qzX5 hown hw (yf_0_27 t ad) (hts _ qfX5_73) dX5_tie_58 ?_
        refine lv_iload hx hb dX5_tie_61 (lv_at hl 3 rfl) ?_
        refine sr_iald hx hb hw (ya_21 t ad) h dX5_tie_63 (fun v13 h => ?_)
        exact hK10 v13 h _ _ _ hw (lv_sub hl [0, 1, 2, 3] rfl)
      · have h := sr_ifp h hc
        refine lv_iload_n hx hb dX5_tie_53 rfl (lv_at hl 2 rfl) ?_
        refine lv_goto (tgt := 64) hx hb dX5_tie_54 (by decide) ?_
        exact hK10 v4 h _ _ _ hw (lv_sub hl [0, 1, 2, 3] rfl)

noncomputable def f5_join_L32 (a1 : Int32) (a2 : Int32) (v5 : Int32) (M6 : sr_M) : Option ((Int32 × sr_M) ⊕ ((sr_M) ⊕ (Int32 × sr_M))) :=
sr_bnd (M6.1 0 3) fun v7 =>
if v7 ≤ v5 then
(some (.inr (.inl M6)))
else
((f5_ranked v5 M6).bind fun v8 =>
if v8 < 0 then
(some (.inl ((v5 + 1), M6)))
else
(sr_bd2 (f5_tie v8 M6) fun v9 M10 =>
if v9 = 0 then
(some (.inl ((v5 + 1), M10)))
else
(sr_ld a1 120 (M10.1 21) fun v11 =>
sr_ld a2 120 (M10.1 21) fun v12 =>
if v11 = v12 then
(some (.inr (.inr (v5, M10))))
else
(some (.inl ((v5 + 1), M10))))))
noncomputable def f5_join (a1 : Int32) (a2 : Int32) (M : sr_M) : Option (Int32 × sr_M) :=
(f5_isPore a1 M).bind fun v1 =>
if v1 = 0 then
(some ((-2), M))
else
((f5_isPore a2 M).bind fun v2 =>
if v2 = 0 then
(some ((-2), M))
else
(if a1 = a2 then
(some ((-1), M))
else
((f5_apart M).bind fun M3 =>
(sr_lp (fun z4 : Int32 × sr_M => f5_join_L32 a1 a2 z4.1 z4.2) (0, M3)).bind (sr_se (fun w4 =>
some ((-8), w4))
(fun q4 => some q4)))))
set_option maxHeartbeats 4000000 in
set_option maxRecDepth 100000 in
theorem k5_join (l : Launch) (D : va_G) (t : Nat → ClassId) (ad : Nat → Nat) (a1 : Int32) (a2 : Int32) (M : sr_M) (r : Int32) (M' : sr_M) (h : f5_join a1 a2 M = some (r, M')) : sr_Mi l D vwCl (yty t) ad (ycf t ad) 26 yX5_join (.code yX5_join cX5_join 5 (some .int) :: sr_tbl) ({ frames := 3, cells := 0, slots := 0, locals := 67 }) [.ref (ad 0), .int a1, .int a2] M r M' := by
  refine sr_open_i (cc := cX5_join) (maxL := 5) (by decide) rfl (Nat.le_of_ble_eq_true rfl) ?_
  intro p e s m args below meth c A Q ls hx hb hml hts0 hown hA hw hl ret
  have hts : ∀ w ∈ sr_tbl, w.before args s = true := fun w hw => hts0 w (List.mem_cons_of_mem _ hw)
  have hown : s.vm.findClass RX5 = some m.cls := hown
  have hl : lv_has ls 5 [(0, .ref (ad 0)), (1, .int a1), (2, .int a2)] := hl
  have hw : yH D t ad A s M s.heap [] := hw
  unfold f5_join at h
  refine lv_aload_n hx hb dX5_join_0 rfl (lv_at hl 0 rfl) ?_
  refine lv_iload_n hx hb dX5_join_1 rfl (lv_at hl 1 rfl) ?_
  obtain ⟨v1, hc, h⟩ := sr_bind1 h
  refine sr_cVi (As := [.int a1]) (rest := []) ⟨hx, hb, hml, hown, hts⟩ (k5_isPore l D t ad a1 M _ hc) (cwV 1 hts (sr_goodV qmX5_99 qiX5_isPore qsX5_isPore qnX5 qcX5_isPore) rfl rfl rfl qdX5_isPore ⟨Nat.le_of_ble_eq_true rfl, Nat.le_of_ble_eq_true rfl⟩) hw hA (yo_0 t ad) rfl hl.1 rfl (Nat.le_of_ble_eq_true rfl) dX5_join_2 (fun H locs hw => ?_)
  refine lv_if_eq (tgt := 16) hx hb dX5_join_5 (by decide) (fun hc => ?_) (fun hc => ?_)
  · have h := sr_ifp h hc
    refine lv_bipush (v := (-2)) hx hb dX5_join_16 (by decide) ?_
    obtain ⟨rfl, rfl⟩ := Prod.mk.inj (Option.some.inj h)
    exact ret _ _ _ _ hw rfl dX5_join_18
  · have h := sr_ifn h hc
    refine lv_aload_n hx hb dX5_join_8 rfl (lv_at hl 0 rfl) ?_
    refine lv_iload_n hx hb dX5_join_9 rfl (lv_at hl 2 rfl) ?_
    obtain ⟨v2, hc, h⟩ := sr_bind1 h
    refine sr_cVi (As := [.int a2]) (rest := []) ⟨hx, hb, hml, hown, hts⟩ (k5_isPore l D t ad a2 M _ hc) (cwV 1 hts (sr_goodV qmX5_99 qiX5_isPore qsX5_isPore qnX5 qcX5_isPore) rfl rfl rfl qdX5_isPore ⟨Nat.le_of_ble_eq_true rfl, Nat.le_of_ble_eq_true rfl⟩) hw hA (yo_0 t ad) rfl hl.1 rfl (Nat.le_of_ble_eq_true rfl) dX5_join_10 (fun H locs hw => ?_)
    refine lv_if_ne (tgt := 19) hx hb dX5_join_13 (by decide) (fun hc => ?_) (fun hc => ?_)
    · have h := sr_ifn h hc
      refine lv_iload_n hx hb dX5_join_19 rfl (lv_at hl 1 rfl) ?_
      refine lv_iload_n hx hb dX5_join_20 rfl (lv_at hl 2 rfl) ?_
      refine lv_icmp_ne (tgt := 26) hx hb dX5_join_21 (by decide) (fun hc => ?_) (fun hc => ?_)
      · have h := sr_ifn h hc
        refine lv_aload_n hx hb dX5_join_26 rfl (lv_at hl 0 rfl) ?_
        obtain ⟨M3, hc, h⟩ := sr_bind1 h
        refine sr_cVv (As := []) (rest := []) ⟨hx, hb, hml, hown, hts⟩ (k5_apart l D t ad  M _ hc) (cwV 0 hts (sr_goodV qmX5_200 qiX5_apart qsX5_apart qnX5 qcX5_apart) rfl rfl rfl qdX5_apart ⟨Nat.le_of_ble_eq_true rfl, Nat.le_of_ble_eq_true rfl⟩) hw hA (yo_0 t ad) rfl hl.1 rfl (Nat.le_of_ble_eq_true rfl) dX5_join_27 (fun H locs hw => ?_)
        refine lv_iconst (v := 0) hx hb dX5_join_30 (by decide) ?_
        refine lv_istore_n (lv' := [(3, .int 0), (0, .ref (ad 0)), (1, .int a1), (2, .int a2)]) hx hb dX5_join_31 rfl hl (by decide) rfl (fun ls hl => ?_)
        obtain ⟨x4, hlp, hE4⟩ := sr_bind h
        have hX4 : ∀ (M13 : sr_M), Sum.inl M13 = x4 → ∀ (H : Heap) (locs : List Loc) (ls : Array Slot), yH D t ad A s M13 H locs → lv_has ls 5 [] → W p l e ({ frames := 3, cells := 0, slots := 0, locals := 67 }) s m args below meth c H locs 0 0 Q (F0 m 84 ls []) := by
          intro M13 ex H locs ls hw hl
          have h := sr_sel (hE4 _ ex)
          try dsimp only at h
          refine lv_bipush (v := (-8)) hx hb dX5_join_84 (by decide) ?_
          obtain ⟨rfl, rfl⟩ := Prod.mk.inj (Option.some.inj h)
          exact ret _ _ _ _ hw rfl dX5_join_86
        refine sr_lp_rule (fun (z4 : Int32 × sr_M) => ∀ (H : Heap) (locs : List Loc) (ls : Array Slot), yH D t ad A s z4.2 H locs → lv_has ls 5 [(0, .ref (ad 0)), (1, .int a1), (2, .int a2), (3, .int z4.1)] → W p l e ({ frames := 3, cells := 0, slots := 0, locals := 67 }) s m args below meth c H locs 0 0 Q (F0 m 32 ls [])) ?_ hlp _ _ _ hw (lv_sub hl [1, 2, 3, 0] rfl)
        rintro ⟨v5, M6⟩ y4 h hi4 he4 H locs ls hw hl
        have h : f5_join_L32 a1 a2 v5 M6 = some y4 := h
        have hw : yH D t ad A s M6 H locs := hw
        have hl : lv_has ls 5 [(0, .ref (ad 0)), (1, .int a1), (2, .int a2), (3, .int v5)] := hl
        unfold f5_join_L32 at h
        refine lv_iload_n hx hb dX5_join_32 rfl (lv_at hl 3 rfl) ?_
        refine lv_aload_n hx hb dX5_join_33 rfl (lv_at hl 0 rfl) ?_
        refine sr_geti hx hb hts qzX5 hown hw (yf_0_3 t ad) (hts _ qfX5_92) h dX5_join_34 (fun v7 h => ?_)
        refine lv_icmp_ge (tgt := 84) hx hb dX5_join_37 (by decide) (fun hc => ?_) (fun hc => ?_)
        · have h := sr_ifp h hc
          exact hX4  M6 (he4 _ (Option.some.inj h).symm) _ _ _ hw (lv_sub hl [] rfl)
        · have h := sr_ifn h hc
          refine lv_aload_n hx hb dX5_join_40 rfl (lv_at hl 0 rfl) ?_
          refine lv_iload_n hx hb dX5_join_41 rfl (lv_at hl 3 rfl) ?_
          obtain ⟨v8, hc, h⟩ := sr_bind1 h
          refine sr_cVi (As := [.int v5]) (rest := []) ⟨hx, hb, hml, hown, hts⟩ (k5_ranked l D t ad v5 M6 _ hc) (cwV 1 hts (sr_goodV qmX5_203 qiX5_ranked qsX5_ranked qnX5 qcX5_ranked) rfl rfl rfl qdX5_ranked ⟨Nat.le_of_ble_eq_true rfl, Nat.le_of_ble_eq_true rfl⟩) hw hA (yo_0 t ad) rfl hl.1 rfl (Nat.le_of_ble_eq_true rfl) dX5_join_42 (fun H locs hw => ?_)
          refine lv_istore (lv' := [(4, .int v8), (0, .ref (ad 0)), (1, .int a1), (2, .int a2), (3, .int v5)]) hx hb dX5_join_45 hl (by decide) rfl (fun ls hl => ?_)
          refine lv_iload hx hb dX5_join_47 (lv_at hl 0 rfl) ?_
          refine lv_if_lt (tgt := 78) hx hb dX5_join_49 (by decide) (fun hc => ?_) (fun hc => ?_)
          · have h := sr_ifp h hc
            refine lv_iinc (v := (v5 + 1)) (lv' := [(3, .int (v5 + 1)), (4, .int v8), (0, .ref (ad 0)), (1, .int a1), (2, .int a2)]) hx hb dX5_join_78 hl (k := 4) rfl rfl (by decide) rfl (fun ls hl => ?_)
            refine lv_goto (tgt := 32) hx hb dX5_join_81 (by decide) ?_
            exact hi4 ((v5 + 1), M6) (Option.some.inj h).symm _ _ _ hw (lv_sub hl [2, 3, 4, 0] rfl)
          · have h := sr_ifn h hc
            refine lv_aload_n hx hb dX5_join_52 rfl (lv_at hl 1 rfl) ?_
            refine lv_iload hx hb dX5_join_53 (lv_at hl 0 rfl) ?_
            obtain ⟨v9, M10, hc, h⟩ := sr_bind2 h
            refine sr_cVi (As := [.int v8]) (rest := []) ⟨hx, hb, hml, hown, hts⟩ (k5_tie l D t ad v8 M6 _ _ hc) (cwV 1 hts (sr_goodV qmX5_206 qiX5_tie qsX5_tie qnX5 qcX5_tie) rfl rfl rfl qdX5_tie ⟨Nat.le_of_ble_eq_true rfl, Nat.le_of_ble_eq_true rfl⟩) hw hA (yo_0 t ad) rfl hl.1 rfl (Nat.le_of_ble_eq_true rfl) dX5_join_55 (fun H locs hw => ?_)
            refine lv_if_eq (tgt := 78) hx hb dX5_join_58 (by decide) (fun hc => ?_) (fun hc => ?_)
            · have h := sr_ifp h hc
              refine lv_iinc (v := (v5 + 1)) (lv' := [(3, .int (v5 + 1)), (4, .int v8), (0, .ref (ad 0)), (1, .int a1), (2, .int a2)]) hx hb dX5_join_78 hl (k := 4) rfl rfl (by decide) rfl (fun ls hl => ?_)
              refine lv_goto (tgt := 32) hx hb dX5_join_81 (by decide) ?_
              exact hi4 ((v5 + 1), M10) (Option.some.inj h).symm _ _ _ hw (lv_sub hl [2, 3, 4, 0] rfl)
            · have h := sr_ifn h hc
              refine lv_aload_n hx hb dX5_join_61 rfl (lv_at hl 1 rfl) ?_
              refine sr_getr hx hb hts qzX5 hown hw (yf_0_27 t ad) (hts _ qfX5_73) dX5_join_62 ?_
              refine lv_iload_n hx hb dX5_join_65 rfl (lv_at hl 2 rfl) ?_
              refine sr_iald hx hb hw (ya_21 t ad) h dX5_join_66 (fun v11 h => ?_)
              refine lv_aload_n hx hb dX5_join_67 rfl (lv_at hl 1 rfl) ?_
              refine sr_getr hx hb hts qzX5 hown hw (yf_0_27 t ad) (hts _ qfX5_73) dX5_join_68 ?_
              refine lv_iload_n hx hb dX5_join_71 rfl (lv_at hl 3 rfl) ?_
              refine sr_iald hx hb hw (ya_21 t ad) h dX5_join_72 (fun v12 h => ?_)
              refine lv_icmp_ne (tgt := 78) hx hb dX5_join_73 (by decide) (fun hc => ?_) (fun hc => ?_)
              · have h := sr_ifn h hc
                refine lv_iinc (v := (v5 + 1)) (lv' := [(3, .int (v5 + 1)), (4, .int v8), (0, .ref (ad 0)), (1, .int a1), (2, .int a2)]) hx hb dX5_join_78 hl (k := 4) rfl rfl (by decide) rfl (fun ls hl => ?_)
                refine lv_goto (tgt := 32) hx hb dX5_join_81 (by decide) ?_
                exact hi4 ((v5 + 1), M10) (Option.some.inj h).symm _ _ _ hw (lv_sub hl [2, 3, 4, 0] rfl)
              · have h := sr_ifp h hc
                refine lv_iload_n hx hb dX5_join_76 rfl (lv_at hl 4 rfl) ?_
                have h := sr_ser (hE4 _ (he4 _ (Option.some.inj h).symm))
                obtain ⟨rfl, rfl⟩ := Prod.mk.inj (Option.some.inj h)
                exact ret _ _ _ _ hw rfl dX5_join_77
      · have h := sr_ifp h hc
        refine lv_iconst (v := (-1)) hx hb dX5_join_24 (by decide) ?_
        obtain ⟨rfl, rfl⟩ := Prod.mk.inj (Option.some.inj h)
        exact ret _ _ _ _ hw rfl dX5_join_25
    · have h := sr_ifp h hc
      refine lv_bipush (v := (-2)) hx hb dX5_join_16 (by decide) ?_
      obtain ⟨rfl, rfl⟩ := Prod.mk.inj (Option.some.inj h)
      exact ret _ _ _ _ hw rfl dX5_join_18

noncomputable def f5_tree_L8 (a1 : Int32) (v3 : Int32) (v4 : Int32) (M5 : sr_M) : Option ((Int32 × Int32 × sr_M) ⊕ ((sr_M) ⊕ (Int32 × sr_M))) :=
sr_bnd (M5.1 0 3) fun v6 =>
if v6 ≤ v4 then
(some (.inr (.inl M5)))
else
((f5_ranked v4 M5).bind fun v7 =>
if v7 < 0 then
(some (.inl (v3, (v4 + 1), M5)))
else
(sr_bd2 (f5_tie v7 M5) fun v8 M9 =>
if v8 = 0 then
(some (.inl (v3, (v4 + 1), M9)))
else
(if v3 = a1 then
(some (.inr (.inr (v7, M9))))
else
(some (.inl ((v3 + 1), (v4 + 1), M9))))))
noncomputable def f5_tree (a1 : Int32) (M : sr_M) : Option (Int32 × sr_M) :=
(f5_apart M).bind fun M1 =>
(sr_lp (fun z2 : Int32 × Int32 × sr_M => f5_tree_L8 a1 z2.1 z2.2.1 z2.2.2) (0, 0, M1)).bind (sr_se (fun w2 =>
some ((-1), w2))
(fun q2 => some q2))
set_option maxHeartbeats 4000000 in
set_option maxRecDepth 100000 in
theorem k5_tree (l : Launch) (D : va_G) (t : Nat → ClassId) (ad : Nat → Nat) (a1 : Int32) (M : sr_M) (r : Int32) (M' : sr_M) (h : f5_tree a1 M = some (r, M')) : sr_Mi l D vwCl (yty t) ad (ycf t ad) 26 yX5_tree (.code yX5_tree cX5_tree 5 (some .int) :: sr_tbl) ({ frames := 3, cells := 0, slots := 0, locals := 67 }) [.ref (ad 0), .int a1] M r M' := by
  refine sr_open_i (cc := cX5_tree) (maxL := 5) (by decide) rfl (Nat.le_of_ble_eq_true rfl) ?_
  intro p e s m args below meth c A Q ls hx hb hml hts0 hown hA hw hl ret
  have hts : ∀ w ∈ sr_tbl, w.before args s = true := fun w hw => hts0 w (List.mem_cons_of_mem _ hw)
  have hown : s.vm.findClass RX5 = some m.cls := hown
  have hl : lv_has ls 5 [(0, .ref (ad 0)), (1, .int a1)] := hl
  have hw : yH D t ad A s M s.heap [] := hw
  unfold f5_tree at h
  refine lv_aload_n hx hb dX5_tree_0 rfl (lv_at hl 0 rfl) ?_
  obtain ⟨M1, hc, h⟩ := sr_bind1 h
  refine sr_cVv (As := []) (rest := []) ⟨hx, hb, hml, hown, hts⟩ (k5_apart l D t ad  M _ hc) (cwV 0 hts (sr_goodV qmX5_200 qiX5_apart qsX5_apart qnX5 qcX5_apart) rfl rfl rfl qdX5_apart ⟨Nat.le_of_ble_eq_true rfl, Nat.le_of_ble_eq_true rfl⟩) hw hA (yo_0 t ad) rfl hl.1 rfl (Nat.le_of_ble_eq_true rfl) dX5_tree_1 (fun H locs hw => ?_)
  refine lv_iconst (v := 0) hx hb dX5_tree_4 (by decide) ?_
  refine lv_istore_n (lv' := [(2, .int 0), (0, .ref (ad 0)), (1, .int a1)]) hx hb dX5_tree_5 rfl hl (by decide) rfl (fun ls hl => ?_)
  refine lv_iconst (v := 0) hx hb dX5_tree_6 (by decide) ?_
  refine lv_istore_n (lv' := [(3, .int 0), (2, .int 0), (0, .ref (ad 0)), (1, .int a1)]) hx hb dX5_tree_7 rfl hl (by decide) rfl (fun ls hl => ?_)
  obtain ⟨x2, hlp, hE2⟩ := sr_bind h
  have hX2 : ∀ (M10 : sr_M), Sum.inl M10 = x2 → ∀ (H : Heap) (locs : List Loc) (ls : Array Slot), yH D t ad A s M10 H locs → lv_has ls 5 [] → W p l e ({ frames := 3, cells := 0, slots := 0, locals := 67 }) s m args below meth c H locs 0 0 Q (F0 m 54 ls []) := by
    intro M10 ex H locs ls hw hl
    have h := sr_sel (hE2 _ ex)
    try dsimp only at h
    refine lv_iconst (v := (-1)) hx hb dX5_tree_54 (by decide) ?_
    obtain ⟨rfl, rfl⟩ := Prod.mk.inj (Option.some.inj h)
    exact ret _ _ _ _ hw rfl dX5_tree_55
  refine sr_lp_rule (fun (z2 : Int32 × Int32 × sr_M) => ∀ (H : Heap) (locs : List Loc) (ls : Array Slot), yH D t ad A s z2.2.2 H locs → lv_has ls 5 [(0, .ref (ad 0)), (1, .int a1), (2, .int z2.1), (3, .int z2.2.1)] → W p l e ({ frames := 3, cells := 0, slots := 0, locals := 67 }) s m args below meth c H locs 0 0 Q (F0 m 8 ls [])) ?_ hlp _ _ _ hw (lv_sub hl [2, 3, 1, 0] rfl)
  rintro ⟨v3, v4, M5⟩ y2 h hi2 he2 H locs ls hw hl
  have h : f5_tree_L8 a1 v3 v4 M5 = some y2 := h
  have hw : yH D t ad A s M5 H locs := hw
  have hl : lv_has ls 5 [(0, .ref (ad 0)), (1, .int a1), (2, .int v3), (3, .int v4)] := hl
  unfold f5_tree_L8 at h
  refine lv_iload_n hx hb dX5_tree_8 rfl (lv_at hl 3 rfl) ?_
  refine lv_aload_n hx hb dX5_tree_9 rfl (lv_at hl 0 rfl) ?_
  refine sr_geti hx hb hts qzX5 hown hw (yf_0_3 t ad) (hts _ qfX5_92) h dX5_tree_10 (fun v6 h => ?_)
  refine lv_icmp_ge (tgt := 54) hx hb dX5_tree_13 (by decide) (fun hc => ?_) (fun hc => ?_)
  · have h := sr_ifp h hc
    exact hX2  M5 (he2 _ (Option.some.inj h).symm) _ _ _ hw (lv_sub hl [] rfl)
  · have h := sr_ifn h hc
    refine lv_aload_n hx hb dX5_tree_16 rfl (lv_at hl 0 rfl) ?_
    refine lv_iload_n hx hb dX5_tree_17 rfl (lv_at hl 3 rfl) ?_
    obtain ⟨v7, hc, h⟩ := sr_bind1 h
    refine sr_cVi (As := [.int v4]) (rest := []) ⟨hx, hb, hml, hown, hts⟩ (k5_ranked l D t ad v4 M5 _ hc) (cwV 1 hts (sr_goodV qmX5_203 qiX5_ranked qsX5_ranked qnX5 qcX5_ranked) rfl rfl rfl qdX5_ranked ⟨Nat.le_of_ble_eq_true rfl, Nat.le_of_ble_eq_true rfl⟩) hw hA (yo_0 t ad) rfl hl.1 rfl (Nat.le_of_ble_eq_true rfl) dX5_tree_18 (fun H locs hw => ?_)
    refine lv_istore (lv' := [(4, .int v7), (0, .ref (ad 0)), (1, .int a1), (2, .int v3), (3, .int v4)]) hx hb dX5_tree_21 hl (by decide) rfl (fun ls hl => ?_)
    refine lv_iload hx hb dX5_tree_23 (lv_at hl 0 rfl) ?_
    refine lv_if_lt (tgt := 48) hx hb dX5_tree_25 (by decide) (fun hc => ?_) (fun hc => ?_)
    · have h := sr_ifp h hc
      refine lv_iinc (v := (v4 + 1)) (lv' := [(3, .int (v4 + 1)), (4, .int v7), (0, .ref (ad 0)), (1, .int a1), (2, .int v3)]) hx hb dX5_tree_48 hl (k := 4) rfl rfl (by decide) rfl (fun ls hl => ?_)
      refine lv_goto (tgt := 8) hx hb dX5_tree_51 (by decide) ?_
      exact hi2 (v3, (v4 + 1), M5) (Option.some.inj h).symm _ _ _ hw (lv_sub hl [2, 3, 4, 0] rfl)
    · have h := sr_ifn h hc
      refine lv_aload_n hx hb dX5_tree_28 rfl (lv_at hl 1 rfl) ?_
      refine lv_iload hx hb dX5_tree_29 (lv_at hl 0 rfl) ?_
      obtain ⟨v8, M9, hc, h⟩ := sr_bind2 h
      refine sr_cVi (As := [.int v7]) (rest := []) ⟨hx, hb, hml, hown, hts⟩ (k5_tie l D t ad v7 M5 _ _ hc) (cwV 1 hts (sr_goodV qmX5_206 qiX5_tie qsX5_tie qnX5 qcX5_tie) rfl rfl rfl qdX5_tie ⟨Nat.le_of_ble_eq_true rfl, Nat.le_of_ble_eq_true rfl⟩) hw hA (yo_0 t ad) rfl hl.1 rfl (Nat.le_of_ble_eq_true rfl) dX5_tree_31 (fun H locs hw => ?_)
      refine lv_if_eq (tgt := 48) hx hb dX5_tree_34 (by decide) (fun hc => ?_) (fun hc => ?_)
      · have h := sr_ifp h hc
        refine lv_iinc (v := (v4 + 1)) (lv' := [(3, .int (v4 + 1)), (4, .int v7), (0, .ref (ad 0)), (1, .int a1), (2, .int v3)]) hx hb dX5_tree_48 hl (k := 4) rfl rfl (by decide) rfl (fun ls hl => ?_)
        refine lv_goto (tgt := 8) hx hb dX5_tree_51 (by decide) ?_
        exact hi2 (v3, (v4 + 1), M9) (Option.some.inj h).symm _ _ _ hw (lv_sub hl [2, 3, 4, 0] rfl)
      · have h := sr_ifn h hc
        refine lv_iload_n hx hb dX5_tree_37 rfl (lv_at hl 3 rfl) ?_
        refine lv_iload_n hx hb dX5_tree_38 rfl (lv_at hl 2 rfl) ?_
        refine lv_icmp_ne (tgt := 45) hx hb dX5_tree_39 (by decide) (fun hc => ?_) (fun hc => ?_)
        · have h := sr_ifn h hc
          refine lv_iinc (v := (v3 + 1)) (lv' := [(2, .int (v3 + 1)), (4, .int v7), (0, .ref (ad 0)), (1, .int a1), (3, .int v4)]) hx hb dX5_tree_45 hl (k := 3) rfl rfl (by decide) rfl (fun ls hl => ?_)
          refine lv_iinc (v := (v4 + 1)) (lv' := [(3, .int (v4 + 1)), (2, .int (v3 + 1)), (4, .int v7), (0, .ref (ad 0)), (1, .int a1)]) hx hb dX5_tree_48 hl (k := 4) rfl rfl (by decide) rfl (fun ls hl => ?_)
          refine lv_goto (tgt := 8) hx hb dX5_tree_51 (by decide) ?_
          exact hi2 ((v3 + 1), (v4 + 1), M9) (Option.some.inj h).symm _ _ _ hw (lv_sub hl [3, 4, 1, 0] rfl)
        · have h := sr_ifp h hc
          refine lv_iload hx hb dX5_tree_42 (lv_at hl 0 rfl) ?_
          have h := sr_ser (hE2 _ (he2 _ (Option.some.inj h).symm))
          obtain ⟨rfl, rfl⟩ := Prod.mk.inj (Option.some.inj h)
          exact ret _ _ _ _ hw rfl dX5_tree_44

noncomputable def f5_claim (a1 : Int32) (M : sr_M) : Option (Int32 × sr_M) :=
(f5_isThroat a1 M).bind fun v1 =>
if v1 = 0 then
(some ((-1), M))
else
(sr_bnd (M.1 0 19) fun v2 =>
if v2 = 200 then
(some ((-2), M))
else
(sr_bnd (M.1 0 19) fun v3 =>
sr_st v3 200 M 15 a1 fun M4 =>
sr_bnd (M4.1 0 19) fun v5 =>
sr_put M4 0 19 (v5 + 1) fun M6 =>
sr_bnd (M6.1 0 19) fun v7 =>
some (v7, M6)))
set_option maxHeartbeats 4000000 in
set_option maxRecDepth 100000 in
theorem k5_claim (l : Launch) (D : va_G) (t : Nat → ClassId) (ad : Nat → Nat) (a1 : Int32) (M : sr_M) (r : Int32) (M' : sr_M) (h : f5_claim a1 M = some (r, M')) : sr_Mi l D vwCl (yty t) ad (ycf t ad) 26 yX5_claim (.code yX5_claim cX5_claim 2 (some .int) :: sr_tbl) ({ frames := 1, cells := 0, slots := 0, locals := 21 }) [.ref (ad 0), .int a1] M r M' := by
  refine sr_open_i (cc := cX5_claim) (maxL := 2) (by decide) rfl (Nat.le_of_ble_eq_true rfl) ?_
  intro p e s m args below meth c A Q ls hx hb hml hts0 hown hA hw hl ret
  have hts : ∀ w ∈ sr_tbl, w.before args s = true := fun w hw => hts0 w (List.mem_cons_of_mem _ hw)
  have hown : s.vm.findClass RX5 = some m.cls := hown
  have hl : lv_has ls 2 [(0, .ref (ad 0)), (1, .int a1)] := hl
  have hw : yH D t ad A s M s.heap [] := hw
  unfold f5_claim at h
  refine lv_aload_n hx hb dX5_claim_0 rfl (lv_at hl 0 rfl) ?_
  refine lv_iload_n hx hb dX5_claim_1 rfl (lv_at hl 1 rfl) ?_
  obtain ⟨v1, hc, h⟩ := sr_bind1 h
  refine sr_cVi (As := [.int a1]) (rest := []) ⟨hx, hb, hml, hown, hts⟩ (k5_isThroat l D t ad a1 M _ hc) (cwV 1 hts (sr_goodV qmX5_103 qiX5_isThroat qsX5_isThroat qnX5 qcX5_isThroat) rfl rfl rfl qdX5_isThroat ⟨Nat.le_of_ble_eq_true rfl, Nat.le_of_ble_eq_true rfl⟩) hw hA (yo_0 t ad) rfl hl.1 rfl (Nat.le_of_ble_eq_true rfl) dX5_claim_2 (fun H locs hw => ?_)
  refine lv_if_ne (tgt := 10) hx hb dX5_claim_5 (by decide) (fun hc => ?_) (fun hc => ?_)
  · have h := sr_ifn h hc
    refine lv_aload_n hx hb dX5_claim_10 rfl (lv_at hl 0 rfl) ?_
    refine sr_geti hx hb hts qzX5 hown hw (yf_0_19 t ad) (hts _ qfX5_185) h dX5_claim_11 (fun v2 h => ?_)
    refine lv_sipush (v := 200) hx hb dX5_claim_14 (by decide) ?_
    refine lv_icmp_ne (tgt := 23) hx hb dX5_claim_17 (by decide) (fun hc => ?_) (fun hc => ?_)
    · have h := sr_ifn h hc
      refine lv_aload_n hx hb dX5_claim_23 rfl (lv_at hl 0 rfl) ?_
      refine sr_getr hx hb hts qzX5 hown hw (yf_0_20 t ad) (hts _ qfX5_55) dX5_claim_24 ?_
      refine lv_aload_n hx hb dX5_claim_27 rfl (lv_at hl 0 rfl) ?_
      refine sr_geti hx hb hts qzX5 hown hw (yf_0_19 t ad) (hts _ qfX5_185) h dX5_claim_28 (fun v3 h => ?_)
      refine lv_iload_n hx hb dX5_claim_31 rfl (lv_at hl 1 rfl) ?_
      refine sr_iast hx hb hw (ya_15 t ad) h dX5_claim_32 (fun M4 H locs h hw => ?_)
      refine lv_aload_n hx hb dX5_claim_33 rfl (lv_at hl 0 rfl) ?_
      refine lv_dup hx hb dX5_claim_34 rfl ?_
      refine sr_geti hx hb hts qzX5 hown hw (yf_0_19 t ad) (hts _ qfX5_185) h dX5_claim_35 (fun v5 h => ?_)
      refine lv_iconst (v := 1) hx hb dX5_claim_38 (by decide) ?_
      refine lv_iadd hx hb dX5_claim_39 ?_
      refine sr_puti hx hb hts qzX5 tyX5 tyX5_ok nmX5 hown hw (yf_0_19 t ad) rfl rfl (hts _ qfX5_185) h dX5_claim_40 (fun M6 H locs h hw => ?_)
      refine lv_aload_n hx hb dX5_claim_43 rfl (lv_at hl 0 rfl) ?_
      refine sr_geti hx hb hts qzX5 hown hw (yf_0_19 t ad) (hts _ qfX5_185) h dX5_claim_44 (fun v7 h => ?_)
      obtain ⟨rfl, rfl⟩ := Prod.mk.inj (Option.some.inj h)
      exact ret _ _ _ _ hw rfl dX5_claim_47
    · have h := sr_ifp h hc
      refine lv_bipush (v := (-2)) hx hb dX5_claim_20 (by decide) ?_
      obtain ⟨rfl, rfl⟩ := Prod.mk.inj (Option.some.inj h)
      exact ret _ _ _ _ hw rfl dX5_claim_22
  · have h := sr_ifp h hc
    refine lv_iconst (v := (-1)) hx hb dX5_claim_8 (by decide) ?_
    obtain ⟨rfl, rfl⟩ := Prod.mk.inj (Option.some.inj h)
    exact ret _ _ _ _ hw rfl dX5_claim_9

noncomputable def f5_copy_L20 (v5 : Int32) (M6 : sr_M) : Option ((Int32 × sr_M) ⊕ (sr_M)) :=
sr_bnd (M6.1 0 14) fun v7 =>
if v7 ≤ v5 then
(some (.inr M6))
else
(sr_ld (v5 + 1) 121 (M6.1 11) fun v8 =>
sr_st v5 200 M6 15 v8 fun M9 =>
some (.inl ((v5 + 1), M9)))
noncomputable def f5_copy (M : sr_M) : Option (Int32 × sr_M) :=
sr_bnd (M.1 0 13) fun v1 =>
if v1 = 0 then
(some ((-6), M))
else
(sr_bnd (M.1 0 14) fun v2 =>
sr_put M 0 19 v2 fun M3 =>
(sr_lp (fun z4 : Int32 × sr_M => f5_copy_L20 z4.1 z4.2) (0, M3)).bind fun w4 =>
sr_bnd (w4.1 0 19) fun v11 =>
some (v11, w4))
set_option maxHeartbeats 4000000 in
set_option maxRecDepth 100000 in
theorem k5_copy (l : Launch) (D : va_G) (t : Nat → ClassId) (ad : Nat → Nat) (M : sr_M) (r : Int32) (M' : sr_M) (h : f5_copy M = some (r, M')) : sr_Mi l D vwCl (yty t) ad (ycf t ad) 26 yX5_copy (.code yX5_copy cX5_copy 2 (some .int) :: sr_tbl) ({ frames := 0, cells := 0, slots := 0, locals := 0 }) [.ref (ad 0)] M r M' := by
  refine sr_open_i (cc := cX5_copy) (maxL := 2) (by decide) rfl (Nat.le_of_ble_eq_true rfl) ?_
  intro p e s m args below meth c A Q ls hx hb hml hts0 hown hA hw hl ret
  have hts : ∀ w ∈ sr_tbl, w.before args s = true := fun w hw => hts0 w (List.mem_cons_of_mem _ hw)
  have hown : s.vm.findClass RX5 = some m.cls := hown
  have hl : lv_has ls 2 [(0, .ref (ad 0))] := hl
  have hw : yH D t ad A s M s.heap [] := hw
  unfold f5_copy at h
  refine lv_aload_n hx hb dX5_copy_0 rfl (lv_at hl 0 rfl) ?_
  refine sr_geti hx hb hts qzX5 hown hw (yf_0_13 t ad) (hts _ qfX5_95) h dX5_copy_1 (fun v1 h => ?_)
  refine lv_if_ne (tgt := 10) hx hb dX5_copy_4 (by decide) (fun hc => ?_) (fun hc => ?_)
  · have h := sr_ifn h hc
    refine lv_aload_n hx hb dX5_copy_10 rfl (lv_at hl 0 rfl) ?_
    refine lv_aload_n hx hb dX5_copy_11 rfl (lv_at hl 0 rfl) ?_
    refine sr_geti hx hb hts qzX5 hown hw (yf_0_14 t ad) (hts _ qfX5_152) h dX5_copy_12 (fun v2 h => ?_)
    refine sr_puti hx hb hts qzX5 tyX5 tyX5_ok nmX5 hown hw (yf_0_19 t ad) rfl rfl (hts _ qfX5_185) h dX5_copy_15 (fun M3 H locs h hw => ?_)
    refine lv_iconst (v := 0) hx hb dX5_copy_18 (by decide) ?_
    refine lv_istore_n (lv' := [(1, .int 0), (0, .ref (ad 0))]) hx hb dX5_copy_19 rfl hl (by decide) rfl (fun ls hl => ?_)
    obtain ⟨x4, hlp, hE4⟩ := sr_bind h
    have hX4 : ∀ (M10 : sr_M), M10 = x4 → ∀ (H : Heap) (locs : List Loc) (ls : Array Slot), yH D t ad A s M10 H locs → lv_has ls 2 [(0, .ref (ad 0))] → W p l e ({ frames := 0, cells := 0, slots := 0, locals := 0 }) s m args below meth c H locs 0 0 Q (F0 m 48 ls []) := by
      intro M10 ex H locs ls hw hl
      have h := hE4 _ ex
      try dsimp only at h
      refine lv_aload_n hx hb dX5_copy_48 rfl (lv_at hl 0 rfl) ?_
      refine sr_geti hx hb hts qzX5 hown hw (yf_0_19 t ad) (hts _ qfX5_185) h dX5_copy_49 (fun v11 h => ?_)
      obtain ⟨rfl, rfl⟩ := Prod.mk.inj (Option.some.inj h)
      exact ret _ _ _ _ hw rfl dX5_copy_52
    refine sr_lp_rule (fun (z4 : Int32 × sr_M) => ∀ (H : Heap) (locs : List Loc) (ls : Array Slot), yH D t ad A s z4.2 H locs → lv_has ls 2 [(0, .ref (ad 0)), (1, .int z4.1)] → W p l e ({ frames := 0, cells := 0, slots := 0, locals := 0 }) s m args below meth c H locs 0 0 Q (F0 m 20 ls [])) ?_ hlp _ _ _ hw (lv_sub hl [1, 0] rfl)
    rintro ⟨v5, M6⟩ y4 h hi4 he4 H locs ls hw hl
    have h : f5_copy_L20 v5 M6 = some y4 := h
    have hw : yH D t ad A s M6 H locs := hw
    have hl : lv_has ls 2 [(0, .ref (ad 0)), (1, .int v5)] := hl
    unfold f5_copy_L20 at h
    refine lv_iload_n hx hb dX5_copy_20 rfl (lv_at hl 1 rfl) ?_
    refine lv_aload_n hx hb dX5_copy_21 rfl (lv_at hl 0 rfl) ?_
    refine sr_geti hx hb hts qzX5 hown hw (yf_0_14 t ad) (hts _ qfX5_152) h dX5_copy_22 (fun v7 h => ?_)
    refine lv_icmp_ge (tgt := 48) hx hb dX5_copy_25 (by decide) (fun hc => ?_) (fun hc => ?_)
    · have h := sr_ifp h hc
      exact hX4  M6 (he4 _ (Option.some.inj h).symm) _ _ _ hw (lv_sub hl [0] rfl)
    · have h := sr_ifn h hc
      refine lv_aload_n hx hb dX5_copy_28 rfl (lv_at hl 0 rfl) ?_
      refine sr_getr hx hb hts qzX5 hown hw (yf_0_20 t ad) (hts _ qfX5_55) dX5_copy_29 ?_
      refine lv_iload_n hx hb dX5_copy_32 rfl (lv_at hl 1 rfl) ?_
      refine lv_aload_n hx hb dX5_copy_33 rfl (lv_at hl 0 rfl) ?_
      refine sr_getr hx hb hts qzX5 hown hw (yf_0_15 t ad) (hts _ qfX5_43) dX5_copy_34 ?_
      refine lv_iload_n hx hb dX5_copy_37 rfl (lv_at hl 1 rfl) ?_
      refine lv_iconst (v := 1) hx hb dX5_copy_38 (by decide) ?_
      refine lv_iadd hx hb dX5_copy_39 ?_
      refine sr_iald hx hb hw (ya_11 t ad) h dX5_copy_40 (fun v8 h => ?_)
      refine sr_iast hx hb hw (ya_15 t ad) h dX5_copy_41 (fun M9 H locs h hw => ?_)
      refine lv_iinc (v := (v5 + 1)) (lv' := [(1, .int (v5 + 1)), (0, .ref (ad 0))]) hx hb dX5_copy_42 hl (k := 1) rfl rfl (by decide) rfl (fun ls hl => ?_)
      refine lv_goto (tgt := 20) hx hb dX5_copy_45 (by decide) ?_
      exact hi4 ((v5 + 1), M9) (Option.some.inj h).symm _ _ _ hw (lv_sub hl [1, 0] rfl)
  · have h := sr_ifp h hc
    refine lv_bipush (v := (-6)) hx hb dX5_copy_7 (by decide) ?_
    obtain ⟨rfl, rfl⟩ := Prod.mk.inj (Option.some.inj h)
    exact ret _ _ _ _ hw rfl dX5_copy_9

noncomputable def f5_alter (a1 : Int32) (a2 : Int32) (M : sr_M) : Option (Int32 × sr_M) :=
if a1 < 0 then
(some ((-1), M))
else
(sr_bnd (M.1 0 19) fun v1 =>
if v1 ≤ a1 then
(some ((-1), M))
else
((f5_isThroat a2 M).bind fun v2 =>
if v2 = 0 then
(some ((-1), M))
else
(sr_st a1 200 M 15 a2 fun M3 =>
some (1, M3))))
set_option maxHeartbeats 4000000 in
set_option maxRecDepth 100000 in
theorem k5_alter (l : Launch) (D : va_G) (t : Nat → ClassId) (ad : Nat → Nat) (a1 : Int32) (a2 : Int32) (M : sr_M) (r : Int32) (M' : sr_M) (h : f5_alter a1 a2 M = some (r, M')) : sr_Mi l D vwCl (yty t) ad (ycf t ad) 26 yX5_alter (.code yX5_alter cX5_alter 3 (some .int) :: sr_tbl) ({ frames := 1, cells := 0, slots := 0, locals := 21 }) [.ref (ad 0), .int a1, .int a2] M r M' := by
  refine sr_open_i (cc := cX5_alter) (maxL := 3) (by decide) rfl (Nat.le_of_ble_eq_true rfl) ?_
  intro p e s m args below meth c A Q ls hx hb hml hts0 hown hA hw hl ret
  have hts : ∀ w ∈ sr_tbl, w.before args s = true := fun w hw => hts0 w (List.mem_cons_of_mem _ hw)
  have hown : s.vm.findClass RX5 = some m.cls := hown
  have hl : lv_has ls 3 [(0, .ref (ad 0)), (1, .int a1), (2, .int a2)] := hl
  have hw : yH D t ad A s M s.heap [] := hw
  unfold f5_alter at h
  refine lv_iload_n hx hb dX5_alter_0 rfl (lv_at hl 1 rfl) ?_
  refine lv_if_lt (tgt := 20) hx hb dX5_alter_1 (by decide) (fun hc => ?_) (fun hc => ?_)
  · have h := sr_ifp h hc
    refine lv_iconst (v := (-1)) hx hb dX5_alter_20 (by decide) ?_
    obtain ⟨rfl, rfl⟩ := Prod.mk.inj (Option.some.inj h)
    exact ret _ _ _ _ hw rfl dX5_alter_21
  · have h := sr_ifn h hc
    refine lv_iload_n hx hb dX5_alter_4 rfl (lv_at hl 1 rfl) ?_
    refine lv_aload_n hx hb dX5_alter_5 rfl (lv_at hl 0 rfl) ?_
    refine sr_geti hx hb hts qzX5 hown hw (yf_0_19 t ad) (hts _ qfX5_185) h dX5_alter_6 (fun v1 h => ?_)
    refine lv_icmp_ge (tgt := 20) hx hb dX5_alter_9 (by decide) (fun hc => ?_) (fun hc => ?_)
    · have h := sr_ifp h hc
      refine lv_iconst (v := (-1)) hx hb dX5_alter_20 (by decide) ?_
      obtain ⟨rfl, rfl⟩ := Prod.mk.inj (Option.some.inj h)
      exact ret _ _ _ _ hw rfl dX5_alter_21
    · have h := sr_ifn h hc
      refine lv_aload_n hx hb dX5_alter_12 rfl (lv_at hl 0 rfl) ?_
      refine lv_iload_n hx hb dX5_alter_13 rfl (lv_at hl 2 rfl) ?_
      obtain ⟨v2, hc, h⟩ := sr_bind1 h
      refine sr_cVi (As := [.int a2]) (rest := []) ⟨hx, hb, hml, hown, hts⟩ (k5_isThroat l D t ad a2 M _ hc) (cwV 1 hts (sr_goodV qmX5_103 qiX5_isThroat qsX5_isThroat qnX5 qcX5_isThroat) rfl rfl rfl qdX5_isThroat ⟨Nat.le_of_ble_eq_true rfl, Nat.le_of_ble_eq_true rfl⟩) hw hA (yo_0 t ad) rfl hl.1 rfl (Nat.le_of_ble_eq_true rfl) dX5_alter_14 (fun H locs hw => ?_)
      refine lv_if_ne (tgt := 22) hx hb dX5_alter_17 (by decide) (fun hc => ?_) (fun hc => ?_)
      · have h := sr_ifn h hc
        refine lv_aload_n hx hb dX5_alter_22 rfl (lv_at hl 0 rfl) ?_
        refine sr_getr hx hb hts qzX5 hown hw (yf_0_20 t ad) (hts _ qfX5_55) dX5_alter_23 ?_
        refine lv_iload_n hx hb dX5_alter_26 rfl (lv_at hl 1 rfl) ?_
        refine lv_iload_n hx hb dX5_alter_27 rfl (lv_at hl 2 rfl) ?_
        refine sr_iast hx hb hw (ya_15 t ad) h dX5_alter_28 (fun M3 H locs h hw => ?_)
        refine lv_iconst (v := 1) hx hb dX5_alter_29 (by decide) ?_
        obtain ⟨rfl, rfl⟩ := Prod.mk.inj (Option.some.inj h)
        exact ret _ _ _ _ hw rfl dX5_alter_30
      · have h := sr_ifp h hc
        refine lv_iconst (v := (-1)) hx hb dX5_alter_20 (by decide) ?_
        obtain ⟨rfl, rfl⟩ := Prod.mk.inj (Option.some.inj h)
        exact ret _ _ _ _ hw rfl dX5_alter_21

noncomputable def f5_unclaim (M : sr_M) : Option (Int32 × sr_M) :=
sr_bnd (M.1 0 19) fun v1 =>
sr_put M 0 19 0 fun M2 =>
some (v1, M2)
set_option maxHeartbeats 4000000 in
set_option maxRecDepth 100000 in
theorem k5_unclaim (l : Launch) (D : va_G) (t : Nat → ClassId) (ad : Nat → Nat) (M : sr_M) (r : Int32) (M' : sr_M) (h : f5_unclaim M = some (r, M')) : sr_Mi l D vwCl (yty t) ad (ycf t ad) 26 yX5_unclaim (.code yX5_unclaim cX5_unclaim 2 (some .int) :: sr_tbl) ({ frames := 0, cells := 0, slots := 0, locals := 0 }) [.ref (ad 0)] M r M' := by
  refine sr_open_i (cc := cX5_unclaim) (maxL := 2) (by decide) rfl (Nat.le_of_ble_eq_true rfl) ?_
  intro p e s m args below meth c A Q ls hx hb hml hts0 hown hA hw hl ret
  have hts : ∀ w ∈ sr_tbl, w.before args s = true := fun w hw => hts0 w (List.mem_cons_of_mem _ hw)
  have hown : s.vm.findClass RX5 = some m.cls := hown
  have hl : lv_has ls 2 [(0, .ref (ad 0))] := hl
  have hw : yH D t ad A s M s.heap [] := hw
  unfold f5_unclaim at h
  refine lv_aload_n hx hb dX5_unclaim_0 rfl (lv_at hl 0 rfl) ?_
  refine sr_geti hx hb hts qzX5 hown hw (yf_0_19 t ad) (hts _ qfX5_185) h dX5_unclaim_1 (fun v1 h => ?_)
  refine lv_istore_n (lv' := [(1, .int v1), (0, .ref (ad 0))]) hx hb dX5_unclaim_4 rfl hl (by decide) rfl (fun ls hl => ?_)
  refine lv_aload_n hx hb dX5_unclaim_5 rfl (lv_at hl 1 rfl) ?_
  refine lv_iconst (v := 0) hx hb dX5_unclaim_6 (by decide) ?_
  refine sr_puti hx hb hts qzX5 tyX5 tyX5_ok nmX5 hown hw (yf_0_19 t ad) rfl rfl (hts _ qfX5_185) h dX5_unclaim_7 (fun M2 H locs h hw => ?_)
  refine lv_iload_n hx hb dX5_unclaim_10 rfl (lv_at hl 0 rfl) ?_
  obtain ⟨rfl, rfl⟩ := Prod.mk.inj (Option.some.inj h)
  exact ret _ _ _ _ hw rfl dX5_unclaim_11

noncomputable def f5_keep_L25 (a1 : Int32) (v4 : Int32) (M5 : sr_M) : Option ((Int32 × sr_M) ⊕ (sr_M)) :=
if 120 ≤ v4 then
(some (.inr M5))
else
(if a1 = 0 then
(sr_ld v4 120 (M5.1 12) fun v6 =>
sr_st v4 120 M5 23 v6 fun M7 =>
sr_ld v4 120 (M7.1 13) fun v8 =>
sr_st v4 120 M7 24 v8 fun M9 =>
sr_ld v4 120 (M9.1 14) fun v10 =>
sr_st v4 120 M9 25 v10 fun M11 =>
sr_ld (v4 + 1) 121 (M11.1 11) fun v12 =>
sr_st (v4 + 1) 121 M11 22 v12 fun M13 =>
some (.inl ((v4 + 1), M13)))
else
(sr_ld v4 120 (M5.1 23) fun v14 =>
sr_st v4 120 M5 12 v14 fun M15 =>
sr_ld v4 120 (M15.1 24) fun v16 =>
sr_st v4 120 M15 13 v16 fun M17 =>
sr_ld v4 120 (M17.1 25) fun v18 =>
sr_st v4 120 M17 14 v18 fun M19 =>
sr_ld (v4 + 1) 121 (M19.1 22) fun v20 =>
sr_st (v4 + 1) 121 M19 11 v20 fun M21 =>
some (.inl ((v4 + 1), M21))))
noncomputable def f5_keep (a1 : Int32) (M : sr_M) : Option (sr_M) :=
sr_jn (fun (M2 : sr_M) =>
(sr_lp (fun z3 : Int32 × sr_M => f5_keep_L25 a1 z3.1 z3.2) (0, M2)).bind fun w3 =>
some w3) fun (K1 : sr_M → Option (sr_M)) =>
if a1 = 0 then
(sr_bnd (M.1 0 14) fun v23 =>
sr_put M 0 32 v23 fun M24 =>
K1 M24)
else
(sr_bnd (M.1 0 32) fun v25 =>
sr_put M 0 14 v25 fun M26 =>
K1 M26)
set_option maxHeartbeats 4000000 in
set_option maxRecDepth 100000 in
theorem k5_keep (l : Launch) (D : va_G) (t : Nat → ClassId) (ad : Nat → Nat) (a1 : Int32) (M : sr_M) (M' : sr_M) (h : f5_keep a1 M = some M') : sr_Mv l D vwCl (yty t) ad (ycf t ad) 26 yX5_keep (.code yX5_keep cX5_keep 3 (none) :: sr_tbl) ({ frames := 0, cells := 0, slots := 0, locals := 0 }) [.ref (ad 0), .int a1] M M' := by
  refine sr_open_v (cc := cX5_keep) (maxL := 3) (by decide) rfl (Nat.le_of_ble_eq_true rfl) ?_
  intro p e s m args below meth c A Q ls hx hb hml hts0 hown hA hw hl ret
  have hts : ∀ w ∈ sr_tbl, w.before args s = true := fun w hw => hts0 w (List.mem_cons_of_mem _ hw)
  have hown : s.vm.findClass RX5 = some m.cls := hown
  have hl : lv_has ls 3 [(0, .ref (ad 0)), (1, .int a1)] := hl
  have hw : yH D t ad A s M s.heap [] := hw
  unfold f5_keep at h
  refine lv_iload_n hx hb dX5_keep_0 rfl (lv_at hl 1 rfl) ?_
  refine sr_jn_rule (fun (K1 : sr_M → Option (sr_M)) => ∀ (M2 : sr_M), K1 M2 = some M' → ∀ (H : Heap) (locs : List Loc) (ls : Array Slot), yH D t ad A s M2 H locs → lv_has ls 3 [(0, .ref (ad 0)), (1, .int a1)] → W p l e ({ frames := 0, cells := 0, slots := 0, locals := 0 }) s m args below meth c H locs 0 0 Q (F0 m 23 ls [])) h ?_ (fun K1 hK1 h => ?_)
  · intro M2 h H locs ls hw hl
    refine lv_iconst (v := 0) hx hb dX5_keep_23 (by decide) ?_
    refine lv_istore_n (lv' := [(2, .int 0), (0, .ref (ad 0)), (1, .int a1)]) hx hb dX5_keep_24 rfl hl (by decide) rfl (fun ls hl => ?_)
    obtain ⟨x3, hlp, hE3⟩ := sr_bind h
    have hX3 : ∀ (M22 : sr_M), M22 = x3 → ∀ (H : Heap) (locs : List Loc) (ls : Array Slot), yH D t ad A s M22 H locs → lv_has ls 3 [] → W p l e ({ frames := 0, cells := 0, slots := 0, locals := 0 }) s m args below meth c H locs 0 0 Q (F0 m 148 ls []) := by
      intro M22 ex H locs ls hw hl
      have h := hE3 _ ex
      try dsimp only at h
      obtain rfl := Option.some.inj h
      exact ret _ _ _ _ hw dX5_keep_148
    refine sr_lp_rule (fun (z3 : Int32 × sr_M) => ∀ (H : Heap) (locs : List Loc) (ls : Array Slot), yH D t ad A s z3.2 H locs → lv_has ls 3 [(0, .ref (ad 0)), (1, .int a1), (2, .int z3.1)] → W p l e ({ frames := 0, cells := 0, slots := 0, locals := 0 }) s m args below meth c H locs 0 0 Q (F0 m 25 ls [])) ?_ hlp _ _ _ hw (lv_sub hl [1, 2, 0] rfl)
    rintro ⟨v4, M5⟩ y3 h hi3 he3 H locs ls hw hl
    have h : f5_keep_L25 a1 v4 M5 = some y3 := h
    have hw : yH D t ad A s M5 H locs := hw
    have hl : lv_has ls 3 [(0, .ref (ad 0)), (1, .int a1), (2, .int v4)] := hl
    unfold f5_keep_L25 at h
    refine lv_iload_n hx hb dX5_keep_25 rfl (lv_at hl 2 rfl) ?_
    refine lv_bipush (v := 120) hx hb dX5_keep_26 (by decide) ?_
    refine lv_icmp_ge (tgt := 148) hx hb dX5_keep_28 (by decide) (fun hc => ?_) (fun hc => ?_)
    · have h := sr_ifp h hc
      exact hX3  M5 (he3 _ (Option.some.inj h).symm) _ _ _ hw (lv_sub hl [] rfl)
    · have h := sr_ifn h hc
      refine lv_iload_n hx hb dX5_keep_31 rfl (lv_at hl 1 rfl) ?_
      refine lv_if_eq (tgt := 90) hx hb dX5_keep_32 (by decide) (fun hc => ?_) (fun hc => ?_)
      · have h := sr_ifp h hc
        refine lv_aload_n hx hb dX5_keep_90 rfl (lv_at hl 0 rfl) ?_
        refine sr_getr hx hb hts qzX5 hown hw (yf_0_29 t ad) (hts _ qfX5_79) dX5_keep_91 ?_
        refine lv_iload_n hx hb dX5_keep_94 rfl (lv_at hl 2 rfl) ?_
        refine lv_aload_n hx hb dX5_keep_95 rfl (lv_at hl 0 rfl) ?_
        refine sr_getr hx hb hts qzX5 hown hw (yf_0_16 t ad) (hts _ qfX5_46) dX5_keep_96 ?_
        refine lv_iload_n hx hb dX5_keep_99 rfl (lv_at hl 2 rfl) ?_
        refine sr_iald hx hb hw (ya_12 t ad) h dX5_keep_100 (fun v6 h => ?_)
        refine sr_iast hx hb hw (ya_23 t ad) h dX5_keep_101 (fun M7 H locs h hw => ?_)
        refine lv_aload_n hx hb dX5_keep_102 rfl (lv_at hl 0 rfl) ?_
        refine sr_getr hx hb hts qzX5 hown hw (yf_0_30 t ad) (hts _ qfX5_82) dX5_keep_103 ?_
        refine lv_iload_n hx hb dX5_keep_106 rfl (lv_at hl 2 rfl) ?_
        refine lv_aload_n hx hb dX5_keep_107 rfl (lv_at hl 0 rfl) ?_
        refine sr_getr hx hb hts qzX5 hown hw (yf_0_17 t ad) (hts _ qfX5_49) dX5_keep_108 ?_
        refine lv_iload_n hx hb dX5_keep_111 rfl (lv_at hl 2 rfl) ?_
        refine sr_iald hx hb hw (ya_13 t ad) h dX5_keep_112 (fun v8 h => ?_)
        refine sr_iast hx hb hw (ya_24 t ad) h dX5_keep_113 (fun M9 H locs h hw => ?_)
        refine lv_aload_n hx hb dX5_keep_114 rfl (lv_at hl 0 rfl) ?_
        refine sr_getr hx hb hts qzX5 hown hw (yf_0_31 t ad) (hts _ qfX5_85) dX5_keep_115 ?_
        refine lv_iload_n hx hb dX5_keep_118 rfl (lv_at hl 2 rfl) ?_
        refine lv_aload_n hx hb dX5_keep_119 rfl (lv_at hl 0 rfl) ?_
        refine sr_getr hx hb hts qzX5 hown hw (yf_0_18 t ad) (hts _ qfX5_52) dX5_keep_120 ?_
        refine lv_iload_n hx hb dX5_keep_123 rfl (lv_at hl 2 rfl) ?_
        refine sr_iald hx hb hw (ya_14 t ad) h dX5_keep_124 (fun v10 h => ?_)
        refine sr_iast hx hb hw (ya_25 t ad) h dX5_keep_125 (fun M11 H locs h hw => ?_)
        refine lv_aload_n hx hb dX5_keep_126 rfl (lv_at hl 0 rfl) ?_
        refine sr_getr hx hb hts qzX5 hown hw (yf_0_28 t ad) (hts _ qfX5_76) dX5_keep_127 ?_
        refine lv_iload_n hx hb dX5_keep_130 rfl (lv_at hl 2 rfl) ?_
        refine lv_iconst (v := 1) hx hb dX5_keep_131 (by decide) ?_
        refine lv_iadd hx hb dX5_keep_132 ?_
        refine lv_aload_n hx hb dX5_keep_133 rfl (lv_at hl 0 rfl) ?_
        refine sr_getr hx hb hts qzX5 hown hw (yf_0_15 t ad) (hts _ qfX5_43) dX5_keep_134 ?_
        refine lv_iload_n hx hb dX5_keep_137 rfl (lv_at hl 2 rfl) ?_
        refine lv_iconst (v := 1) hx hb dX5_keep_138 (by decide) ?_
        refine lv_iadd hx hb dX5_keep_139 ?_
        refine sr_iald hx hb hw (ya_11 t ad) h dX5_keep_140 (fun v12 h => ?_)
        refine sr_iast hx hb hw (ya_22 t ad) h dX5_keep_141 (fun M13 H locs h hw => ?_)
        refine lv_iinc (v := (v4 + 1)) (lv' := [(2, .int (v4 + 1)), (0, .ref (ad 0)), (1, .int a1)]) hx hb dX5_keep_142 hl (k := 2) rfl rfl (by decide) rfl (fun ls hl => ?_)
        refine lv_goto (tgt := 25) hx hb dX5_keep_145 (by decide) ?_
        exact hi3 ((v4 + 1), M13) (Option.some.inj h).symm _ _ _ hw (lv_sub hl [1, 2, 0] rfl)
      · have h := sr_ifn h hc
        refine lv_aload_n hx hb dX5_keep_35 rfl (lv_at hl 0 rfl) ?_
        refine sr_getr hx hb hts qzX5 hown hw (yf_0_16 t ad) (hts _ qfX5_46) dX5_keep_36 ?_
        refine lv_iload_n hx hb dX5_keep_39 rfl (lv_at hl 2 rfl) ?_
        refine lv_aload_n hx hb dX5_keep_40 rfl (lv_at hl 0 rfl) ?_
        refine sr_getr hx hb hts qzX5 hown hw (yf_0_29 t ad) (hts _ qfX5_79) dX5_keep_41 ?_
        refine lv_iload_n hx hb dX5_keep_44 rfl (lv_at hl 2 rfl) ?_
        refine sr_iald hx hb hw (ya_23 t ad) h dX5_keep_45 (fun v14 h => ?_)
        refine sr_iast hx hb hw (ya_12 t ad) h dX5_keep_46 (fun M15 H locs h hw => ?_)
        refine lv_aload_n hx hb dX5_keep_47 rfl (lv_at hl 0 rfl) ?_
        refine sr_getr hx hb hts qzX5 hown hw (yf_0_17 t ad) (hts _ qfX5_49) dX5_keep_48 ?_
        refine lv_iload_n hx hb dX5_keep_51 rfl (lv_at hl 2 rfl) ?_
        refine lv_aload_n hx hb dX5_keep_52 rfl (lv_at hl 0 rfl) ?_
        refine sr_getr hx hb hts qzX5 hown hw (yf_0_30 t ad) (hts _ qfX5_82) dX5_keep_53 ?_
        refine lv_iload_n hx hb dX5_keep_56 rfl (lv_at hl 2 rfl) ?_
        refine sr_iald hx hb hw (ya_24 t ad) h dX5_keep_57 (fun v16 h => ?_)
        refine sr_iast hx hb hw (ya_13 t ad) h dX5_keep_58 (fun M17 H locs h hw => ?_)
        refine lv_aload_n hx hb dX5_keep_59 rfl (lv_at hl 0 rfl) ?_
        refine sr_getr hx hb hts qzX5 hown hw (yf_0_18 t ad) (hts _ qfX5_52) dX5_keep_60 ?_
        refine lv_iload_n hx hb dX5_keep_63 rfl (lv_at hl 2 rfl) ?_
        refine lv_aload_n hx hb dX5_keep_64 rfl (lv_at hl 0 rfl) ?_
        refine sr_getr hx hb hts qzX5 hown hw (yf_0_31 t ad) (hts _ qfX5_85) dX5_keep_65 ?_
        refine lv_iload_n hx hb dX5_keep_68 rfl (lv_at hl 2 rfl) ?_
        refine sr_iald hx hb hw (ya_25 t ad) h dX5_keep_69 (fun v18 h => ?_)
        refine sr_iast hx hb hw (ya_14 t ad) h dX5_keep_70 (fun M19 H locs h hw => ?_)
        refine lv_aload_n hx hb dX5_keep_71 rfl (lv_at hl 0 rfl) ?_
        refine sr_getr hx hb hts qzX5 hown hw (yf_0_15 t ad) (hts _ qfX5_43) dX5_keep_72 ?_
        refine lv_iload_n hx hb dX5_keep_75 rfl (lv_at hl 2 rfl) ?_
        refine lv_iconst (v := 1) hx hb dX5_keep_76 (by decide) ?_
        refine lv_iadd hx hb dX5_keep_77 ?_
        refine lv_aload_n hx hb dX5_keep_78 rfl (lv_at hl 0 rfl) ?_
        refine sr_getr hx hb hts qzX5 hown hw (yf_0_28 t ad) (hts _ qfX5_76) dX5_keep_79 ?_
        refine lv_iload_n hx hb dX5_keep_82 rfl (lv_at hl 2 rfl) ?_
        refine lv_iconst (v := 1) hx hb dX5_keep_83 (by decide) ?_
        refine lv_iadd hx hb dX5_keep_84 ?_
        refine sr_iald hx hb hw (ya_22 t ad) h dX5_keep_85 (fun v20 h => ?_)
        refine sr_iast hx hb hw (ya_11 t ad) h dX5_keep_86 (fun M21 H locs h hw => ?_)
        refine lv_goto (tgt := 142) hx hb dX5_keep_87 (by decide) ?_
        refine lv_iinc (v := (v4 + 1)) (lv' := [(2, .int (v4 + 1)), (0, .ref (ad 0)), (1, .int a1)]) hx hb dX5_keep_142 hl (k := 2) rfl rfl (by decide) rfl (fun ls hl => ?_)
        refine lv_goto (tgt := 25) hx hb dX5_keep_145 (by decide) ?_
        exact hi3 ((v4 + 1), M21) (Option.some.inj h).symm _ _ _ hw (lv_sub hl [1, 2, 0] rfl)
  · refine lv_if_eq (tgt := 15) hx hb dX5_keep_1 (by decide) (fun hc => ?_) (fun hc => ?_)
    · have h := sr_ifp h hc
      refine lv_aload_n hx hb dX5_keep_15 rfl (lv_at hl 0 rfl) ?_
      refine lv_aload_n hx hb dX5_keep_16 rfl (lv_at hl 0 rfl) ?_
      refine sr_geti hx hb hts qzX5 hown hw (yf_0_14 t ad) (hts _ qfX5_152) h dX5_keep_17 (fun v23 h => ?_)
      refine sr_puti hx hb hts qzX5 tyX5 tyX5_ok nmX5 hown hw (yf_0_32 t ad) rfl rfl (hts _ qfX5_209) h dX5_keep_20 (fun M24 H locs h hw => ?_)
      exact hK1 M24 h _ _ _ hw (lv_sub hl [0, 1] rfl)
    · have h := sr_ifn h hc
      refine lv_aload_n hx hb dX5_keep_4 rfl (lv_at hl 0 rfl) ?_
      refine lv_aload_n hx hb dX5_keep_5 rfl (lv_at hl 0 rfl) ?_
      refine sr_geti hx hb hts qzX5 hown hw (yf_0_32 t ad) (hts _ qfX5_209) h dX5_keep_6 (fun v25 h => ?_)
      refine sr_puti hx hb hts qzX5 tyX5 tyX5_ok nmX5 hown hw (yf_0_14 t ad) rfl rfl (hts _ qfX5_152) h dX5_keep_9 (fun M26 H locs h hw => ?_)
      refine lv_goto (tgt := 23) hx hb dX5_keep_12 (by decide) ?_
      exact hK1 M26 h _ _ _ hw (lv_sub hl [0, 1] rfl)

noncomputable def f5_check_L13 (v4 : Int32) (v5 : Int32) (M6 : sr_M) : Option ((Int32 × Int32 × sr_M) ⊕ (Int32 × Int32 × sr_M)) :=
if v5 = 0 then
(some (.inr (v4, v5, M6)))
else
(sr_bnd (M6.1 0 19) fun v7 =>
if v7 ≤ v4 then
(some (.inr (v4, v5, M6)))
else
((f5_nextThroat M6).bind fun v8 =>
sr_ld v4 200 (M6.1 15) fun v9 =>
sr_jn (fun (v11 : Int32) =>
if v11 = 0 then
(some (.inl (v4, v11, M6)))
else
((f5_open v8 M6).bind fun M12 =>
some (.inl ((v4 + 1), v11, M12)))) fun (K10 : Int32 → Option ((Int32 × Int32 × sr_M) ⊕ (Int32 × Int32 × sr_M))) =>
if v8 = v9 then
(K10 1)
else
(K10 0)))
noncomputable def f5_check (M : sr_M) : Option (Int32 × sr_M) :=
(f5_keep 0 M).bind fun M1 =>
(f5_start M1).bind fun M2 =>
(sr_lp (fun z3 : Int32 × Int32 × sr_M => f5_check_L13 z3.1 z3.2.1 z3.2.2) (0, 1, M2)).bind fun w3 =>
(f5_keep 1 w3.2.2).bind fun M16 =>
if w3.2.1 = 0 then
(some (w3.1, M16))
else
(some ((-1), M16))
set_option maxHeartbeats 4000000 in
set_option maxRecDepth 100000 in
theorem k5_check (l : Launch) (D : va_G) (t : Nat → ClassId) (ad : Nat → Nat) (M : sr_M) (r : Int32) (M' : sr_M) (h : f5_check M = some (r, M')) : sr_Mi l D vwCl (yty t) ad (ycf t ad) 26 yX5_check (.code yX5_check cX5_check 4 (some .int) :: sr_tbl) ({ frames := 5, cells := 0, slots := 0, locals := 111 }) [.ref (ad 0)] M r M' := by
  refine sr_open_i (cc := cX5_check) (maxL := 4) (by decide) rfl (Nat.le_of_ble_eq_true rfl) ?_
  intro p e s m args below meth c A Q ls hx hb hml hts0 hown hA hw hl ret
  have hts : ∀ w ∈ sr_tbl, w.before args s = true := fun w hw => hts0 w (List.mem_cons_of_mem _ hw)
  have hown : s.vm.findClass RX5 = some m.cls := hown
  have hl : lv_has ls 4 [(0, .ref (ad 0))] := hl
  have hw : yH D t ad A s M s.heap [] := hw
  unfold f5_check at h
  refine lv_aload_n hx hb dX5_check_0 rfl (lv_at hl 0 rfl) ?_
  refine lv_iconst (v := 0) hx hb dX5_check_1 (by decide) ?_
  obtain ⟨M1, hc, h⟩ := sr_bind1 h
  refine sr_cVv (As := [.int 0]) (rest := []) ⟨hx, hb, hml, hown, hts⟩ (k5_keep l D t ad 0 M _ hc) (cwV 1 hts (sr_goodV qmX5_212 qiX5_keep qsX5_keep qnX5 qcX5_keep) rfl rfl rfl qdX5_keep ⟨Nat.le_of_ble_eq_true rfl, Nat.le_of_ble_eq_true rfl⟩) hw hA (yo_0 t ad) rfl hl.1 rfl (Nat.le_of_ble_eq_true rfl) dX5_check_2 (fun H locs hw => ?_)
  refine lv_aload_n hx hb dX5_check_5 rfl (lv_at hl 0 rfl) ?_
  obtain ⟨M2, hc, h⟩ := sr_bind1 h
  refine sr_cVv (As := []) (rest := []) ⟨hx, hb, hml, hown, hts⟩ (k5_start l D t ad  M1 _ hc) (cwV 0 hts (sr_goodV qmX5_158 qiX5_start qsX5_start qnX5 qcX5_start) rfl rfl rfl qdX5_start ⟨Nat.le_of_ble_eq_true rfl, Nat.le_of_ble_eq_true rfl⟩) hw hA (yo_0 t ad) rfl hl.1 rfl (Nat.le_of_ble_eq_true rfl) dX5_check_6 (fun H locs hw => ?_)
  refine lv_iconst (v := 0) hx hb dX5_check_9 (by decide) ?_
  refine lv_istore_n (lv' := [(1, .int 0), (0, .ref (ad 0))]) hx hb dX5_check_10 rfl hl (by decide) rfl (fun ls hl => ?_)
  refine lv_iconst (v := 1) hx hb dX5_check_11 (by decide) ?_
  refine lv_istore_n (lv' := [(2, .int 1), (1, .int 0), (0, .ref (ad 0))]) hx hb dX5_check_12 rfl hl (by decide) rfl (fun ls hl => ?_)
  obtain ⟨x3, hlp, hE3⟩ := sr_bind h
  have hX3 : ∀ (v13 : Int32) (v14 : Int32) (M15 : sr_M), (v13, v14, M15) = x3 → ∀ (H : Heap) (locs : List Loc) (ls : Array Slot), yH D t ad A s M15 H locs → lv_has ls 4 [(0, .ref (ad 0)), (1, .int v13), (2, .int v14)] → W p l e ({ frames := 5, cells := 0, slots := 0, locals := 111 }) s m args below meth c H locs 0 0 Q (F0 m 61 ls []) := by
    intro v13 v14 M15 ex H locs ls hw hl
    have h := hE3 _ ex
    try dsimp only at h
    refine lv_aload_n hx hb dX5_check_61 rfl (lv_at hl 0 rfl) ?_
    refine lv_iconst (v := 1) hx hb dX5_check_62 (by decide) ?_
    obtain ⟨M16, hc, h⟩ := sr_bind1 h
    refine sr_cVv (As := [.int 1]) (rest := []) ⟨hx, hb, hml, hown, hts⟩ (k5_keep l D t ad 1 M15 _ hc) (cwV 1 hts (sr_goodV qmX5_212 qiX5_keep qsX5_keep qnX5 qcX5_keep) rfl rfl rfl qdX5_keep ⟨Nat.le_of_ble_eq_true rfl, Nat.le_of_ble_eq_true rfl⟩) hw hA (yo_0 t ad) rfl hl.1 rfl (Nat.le_of_ble_eq_true rfl) dX5_check_63 (fun H locs hw => ?_)
    refine lv_iload_n hx hb dX5_check_66 rfl (lv_at hl 2 rfl) ?_
    refine lv_if_eq (tgt := 74) hx hb dX5_check_67 (by decide) (fun hc => ?_) (fun hc => ?_)
    · have h := sr_ifp h hc
      refine lv_iload_n hx hb dX5_check_74 rfl (lv_at hl 1 rfl) ?_
      obtain ⟨rfl, rfl⟩ := Prod.mk.inj (Option.some.inj h)
      exact ret _ _ _ _ hw rfl dX5_check_75
    · have h := sr_ifn h hc
      refine lv_iconst (v := (-1)) hx hb dX5_check_70 (by decide) ?_
      refine lv_goto (tgt := 75) hx hb dX5_check_71 (by decide) ?_
      obtain ⟨rfl, rfl⟩ := Prod.mk.inj (Option.some.inj h)
      exact ret _ _ _ _ hw rfl dX5_check_75
  refine sr_lp_rule (fun (z3 : Int32 × Int32 × sr_M) => ∀ (H : Heap) (locs : List Loc) (ls : Array Slot), yH D t ad A s z3.2.2 H locs → lv_has ls 4 [(0, .ref (ad 0)), (1, .int z3.1), (2, .int z3.2.1)] → W p l e ({ frames := 5, cells := 0, slots := 0, locals := 111 }) s m args below meth c H locs 0 0 Q (F0 m 13 ls [])) ?_ hlp _ _ _ hw (lv_sub hl [2, 1, 0] rfl)
  rintro ⟨v4, v5, M6⟩ y3 h hi3 he3 H locs ls hw hl
  have h : f5_check_L13 v4 v5 M6 = some y3 := h
  have hw : yH D t ad A s M6 H locs := hw
  have hl : lv_has ls 4 [(0, .ref (ad 0)), (1, .int v4), (2, .int v5)] := hl
  unfold f5_check_L13 at h
  refine lv_iload_n hx hb dX5_check_13 rfl (lv_at hl 2 rfl) ?_
  refine lv_if_eq (tgt := 61) hx hb dX5_check_14 (by decide) (fun hc => ?_) (fun hc => ?_)
  · have h := sr_ifp h hc
    exact hX3 v4 v5 M6 (he3 _ (Option.some.inj h).symm) _ _ _ hw (lv_sub hl [0, 1, 2] rfl)
  · have h := sr_ifn h hc
    refine lv_iload_n hx hb dX5_check_17 rfl (lv_at hl 1 rfl) ?_
    refine lv_aload_n hx hb dX5_check_18 rfl (lv_at hl 0 rfl) ?_
    refine sr_geti hx hb hts qzX5 hown hw (yf_0_19 t ad) (hts _ qfX5_185) h dX5_check_19 (fun v7 h => ?_)
    refine lv_icmp_ge (tgt := 61) hx hb dX5_check_22 (by decide) (fun hc => ?_) (fun hc => ?_)
    · have h := sr_ifp h hc
      exact hX3 v4 v5 M6 (he3 _ (Option.some.inj h).symm) _ _ _ hw (lv_sub hl [0, 1, 2] rfl)
    · have h := sr_ifn h hc
      refine lv_aload_n hx hb dX5_check_25 rfl (lv_at hl 0 rfl) ?_
      obtain ⟨v8, hc, h⟩ := sr_bind1 h
      refine sr_cVi (As := []) (rest := []) ⟨hx, hb, hml, hown, hts⟩ (k5_nextThroat l D t ad  M6 _ hc) (cwV 0 hts (sr_goodV qmX5_171 qiX5_nextThroat qsX5_nextThroat qnX5 qcX5_nextThroat) rfl rfl rfl qdX5_nextThroat ⟨Nat.le_of_ble_eq_true rfl, Nat.le_of_ble_eq_true rfl⟩) hw hA (yo_0 t ad) rfl hl.1 rfl (Nat.le_of_ble_eq_true rfl) dX5_check_26 (fun H locs hw => ?_)
      refine lv_istore_n (lv' := [(3, .int v8), (0, .ref (ad 0)), (1, .int v4), (2, .int v5)]) hx hb dX5_check_29 rfl hl (by decide) rfl (fun ls hl => ?_)
      refine lv_iload_n hx hb dX5_check_30 rfl (lv_at hl 0 rfl) ?_
      refine lv_aload_n hx hb dX5_check_31 rfl (lv_at hl 1 rfl) ?_
      refine sr_getr hx hb hts qzX5 hown hw (yf_0_20 t ad) (hts _ qfX5_55) dX5_check_32 ?_
      refine lv_iload_n hx hb dX5_check_35 rfl (lv_at hl 2 rfl) ?_
      refine sr_iald hx hb hw (ya_15 t ad) h dX5_check_36 (fun v9 h => ?_)
      refine sr_jn_rule (fun (K10 : Int32 → Option ((Int32 × Int32 × sr_M) ⊕ (Int32 × Int32 × sr_M))) => ∀ (v11 : Int32), K10 v11 = some y3 → ∀ (H : Heap) (locs : List Loc) (ls : Array Slot), yH D t ad A s M6 H locs → lv_has ls 4 [(0, .ref (ad 0)), (1, .int v4), (3, .int v8)] → W p l e ({ frames := 5, cells := 0, slots := 0, locals := 111 }) s m args below meth c H locs 0 0 Q (F0 m 45 ls [.int v11])) h ?_ (fun K10 hK10 h => ?_)
      · intro v11 h H locs ls hw hl
        refine lv_istore_n (lv' := [(2, .int v11), (0, .ref (ad 0)), (1, .int v4), (3, .int v8)]) hx hb dX5_check_45 rfl hl (by decide) rfl (fun ls hl => ?_)
        refine lv_iload_n hx hb dX5_check_46 rfl (lv_at hl 0 rfl) ?_
        refine lv_if_eq (tgt := 58) hx hb dX5_check_47 (by decide) (fun hc => ?_) (fun hc => ?_)
        · have h := sr_ifp h hc
          refine lv_goto (tgt := 13) hx hb dX5_check_58 (by decide) ?_
          exact hi3 (v4, v11, M6) (Option.some.inj h).symm _ _ _ hw (lv_sub hl [1, 2, 0] rfl)
        · have h := sr_ifn h hc
          refine lv_aload_n hx hb dX5_check_50 rfl (lv_at hl 1 rfl) ?_
          refine lv_iload_n hx hb dX5_check_51 rfl (lv_at hl 3 rfl) ?_
          obtain ⟨M12, hc, h⟩ := sr_bind1 h
          refine sr_cVv (As := [.int v8]) (rest := []) ⟨hx, hb, hml, hown, hts⟩ (k5_open l D t ad v8 M6 _ hc) (cwV 1 hts (sr_goodV qmX5_175 qiX5_open qsX5_open qnX5 qcX5_open) rfl rfl rfl qdX5_open ⟨Nat.le_of_ble_eq_true rfl, Nat.le_of_ble_eq_true rfl⟩) hw hA (yo_0 t ad) rfl hl.1 rfl (Nat.le_of_ble_eq_true rfl) dX5_check_52 (fun H locs hw => ?_)
          refine lv_iinc (v := (v4 + 1)) (lv' := [(1, .int (v4 + 1)), (2, .int v11), (0, .ref (ad 0)), (3, .int v8)]) hx hb dX5_check_55 hl (k := 2) rfl rfl (by decide) rfl (fun ls hl => ?_)
          refine lv_goto (tgt := 13) hx hb dX5_check_58 (by decide) ?_
          exact hi3 ((v4 + 1), v11, M12) (Option.some.inj h).symm _ _ _ hw (lv_sub hl [2, 0, 1] rfl)
      · refine lv_icmp_ne (tgt := 44) hx hb dX5_check_37 (by decide) (fun hc => ?_) (fun hc => ?_)
        · have h := sr_ifn h hc
          refine lv_iconst (v := 0) hx hb dX5_check_44 (by decide) ?_
          exact hK10 0 h _ _ _ hw (lv_sub hl [1, 2, 0] rfl)
        · have h := sr_ifp h hc
          refine lv_iconst (v := 1) hx hb dX5_check_40 (by decide) ?_
          refine lv_goto (tgt := 45) hx hb dX5_check_41 (by decide) ?_
          exact hK10 1 h _ _ _ hw (lv_sub hl [1, 2, 0] rfl)

