noncomputable def f2_hasPore (a1 : Int32) (M : sr_M) : Option (Int32) :=
if a1 < 0 then
(some 0)
else
(sr_bnd (M.1 1 0) fun v1 =>
if v1 ≤ a1 then
(some 0)
else
(some 1))
set_option maxHeartbeats 4000000 in
set_option maxRecDepth 100000 in
theorem k2_hasPore (l : Launch) (D : va_G) (t : Nat → ClassId) (ad : Nat → Nat) (a1 : Int32) (M : sr_M) (r : Int32) (h : f2_hasPore a1 M = some r) : sr_Mi l D vwCl (xty t) ad (xcf t ad) 62 yX2_hasPore (.code yX2_hasPore cX2_hasPore 2 (some .boolean) :: sr_tbl) ({ frames := 0, cells := 0, slots := 0, locals := 0 }) [.ref (ad 1), .int a1] M r M := by
  refine sr_open_i (cc := cX2_hasPore) (maxL := 2) (by decide) rfl (Nat.le_of_ble_eq_true rfl) ?_
  intro p e s m args below meth c A Q ls hx hb hml hts0 hown hA hw hl ret
  have hts : ∀ w ∈ sr_tbl, w.before args s = true := fun w hw => hts0 w (List.mem_cons_of_mem _ hw)
  have hown : s.vm.findClass RX2 = some m.cls := hown
  have hl : lv_has ls 2 [(0, .ref (ad 1)), (1, .int a1)] := hl
  have hw : xH D t ad A s M s.heap [] := hw
  unfold f2_hasPore at h
  refine lv_iload_n hx hb dX2_hasPore_0 rfl (lv_at hl 1 rfl) ?_
  refine lv_if_lt (tgt := 16) hx hb dX2_hasPore_1 (by decide) (fun hc => ?_) (fun hc => ?_)
  · have h := sr_ifp h hc
    refine lv_iconst (v := 0) hx hb dX2_hasPore_16 (by decide) ?_
    obtain rfl := Option.some.inj h
    exact ret _ _ _ _ hw rfl dX2_hasPore_17
  · have h := sr_ifn h hc
    refine lv_iload_n hx hb dX2_hasPore_4 rfl (lv_at hl 1 rfl) ?_
    refine lv_aload_n hx hb dX2_hasPore_5 rfl (lv_at hl 0 rfl) ?_
    refine sr_geti hx hb hts qzX2 hown hw (xf_1_0 t ad) (hts _ qfX2_40) h dX2_hasPore_6 (fun v1 h => ?_)
    refine lv_icmp_ge (tgt := 16) hx hb dX2_hasPore_9 (by decide) (fun hc => ?_) (fun hc => ?_)
    · have h := sr_ifp h hc
      refine lv_iconst (v := 0) hx hb dX2_hasPore_16 (by decide) ?_
      obtain rfl := Option.some.inj h
      exact ret _ _ _ _ hw rfl dX2_hasPore_17
    · have h := sr_ifn h hc
      refine lv_iconst (v := 1) hx hb dX2_hasPore_12 (by decide) ?_
      refine lv_goto (tgt := 17) hx hb dX2_hasPore_13 (by decide) ?_
      obtain rfl := Option.some.inj h
      exact ret _ _ _ _ hw rfl dX2_hasPore_17

noncomputable def f2_hasThroat (a1 : Int32) (M : sr_M) : Option (Int32) :=
if a1 < 0 then
(some 0)
else
(sr_bnd (M.1 1 3) fun v1 =>
if v1 ≤ a1 then
(some 0)
else
(some 1))
set_option maxHeartbeats 4000000 in
set_option maxRecDepth 100000 in
theorem k2_hasThroat (l : Launch) (D : va_G) (t : Nat → ClassId) (ad : Nat → Nat) (a1 : Int32) (M : sr_M) (r : Int32) (h : f2_hasThroat a1 M = some r) : sr_Mi l D vwCl (xty t) ad (xcf t ad) 62 yX2_hasThroat (.code yX2_hasThroat cX2_hasThroat 2 (some .boolean) :: sr_tbl) ({ frames := 0, cells := 0, slots := 0, locals := 0 }) [.ref (ad 1), .int a1] M r M := by
  refine sr_open_i (cc := cX2_hasThroat) (maxL := 2) (by decide) rfl (Nat.le_of_ble_eq_true rfl) ?_
  intro p e s m args below meth c A Q ls hx hb hml hts0 hown hA hw hl ret
  have hts : ∀ w ∈ sr_tbl, w.before args s = true := fun w hw => hts0 w (List.mem_cons_of_mem _ hw)
  have hown : s.vm.findClass RX2 = some m.cls := hown
  have hl : lv_has ls 2 [(0, .ref (ad 1)), (1, .int a1)] := hl
  have hw : xH D t ad A s M s.heap [] := hw
  unfold f2_hasThroat at h
  refine lv_iload_n hx hb dX2_hasThroat_0 rfl (lv_at hl 1 rfl) ?_
  refine lv_if_lt (tgt := 16) hx hb dX2_hasThroat_1 (by decide) (fun hc => ?_) (fun hc => ?_)
  · have h := sr_ifp h hc
    refine lv_iconst (v := 0) hx hb dX2_hasThroat_16 (by decide) ?_
    obtain rfl := Option.some.inj h
    exact ret _ _ _ _ hw rfl dX2_hasThroat_17
  · have h := sr_ifn h hc
    refine lv_iload_n hx hb dX2_hasThroat_4 rfl (lv_at hl 1 rfl) ?_
    refine lv_aload_n hx hb dX2_hasThroat_5 rfl (lv_at hl 0 rfl) ?_
    refine sr_geti hx hb hts qzX2 hown hw (xf_1_3 t ad) (hts _ qfX2_44) h dX2_hasThroat_6 (fun v1 h => ?_)
    refine lv_icmp_ge (tgt := 16) hx hb dX2_hasThroat_9 (by decide) (fun hc => ?_) (fun hc => ?_)
    · have h := sr_ifp h hc
      refine lv_iconst (v := 0) hx hb dX2_hasThroat_16 (by decide) ?_
      obtain rfl := Option.some.inj h
      exact ret _ _ _ _ hw rfl dX2_hasThroat_17
    · have h := sr_ifn h hc
      refine lv_iconst (v := 1) hx hb dX2_hasThroat_12 (by decide) ?_
      refine lv_goto (tgt := 17) hx hb dX2_hasThroat_13 (by decide) ?_
      obtain rfl := Option.some.inj h
      exact ret _ _ _ _ hw rfl dX2_hasThroat_17

noncomputable def f2_isOpen (a1 : Int32) (M : sr_M) : Option (Int32) :=
sr_ld a1 300 (M.1 7) fun v1 =>
if v1 < 0 then
(some 0)
else
(some 1)
set_option maxHeartbeats 4000000 in
set_option maxRecDepth 100000 in
theorem k2_isOpen (l : Launch) (D : va_G) (t : Nat → ClassId) (ad : Nat → Nat) (a1 : Int32) (M : sr_M) (r : Int32) (h : f2_isOpen a1 M = some r) : sr_Mi l D vwCl (xty t) ad (xcf t ad) 62 yX2_isOpen (.code yX2_isOpen cX2_isOpen 2 (some .boolean) :: sr_tbl) ({ frames := 0, cells := 0, slots := 0, locals := 0 }) [.ref (ad 1), .int a1] M r M := by
  refine sr_open_i (cc := cX2_isOpen) (maxL := 2) (by decide) rfl (Nat.le_of_ble_eq_true rfl) ?_
  intro p e s m args below meth c A Q ls hx hb hml hts0 hown hA hw hl ret
  have hts : ∀ w ∈ sr_tbl, w.before args s = true := fun w hw => hts0 w (List.mem_cons_of_mem _ hw)
  have hown : s.vm.findClass RX2 = some m.cls := hown
  have hl : lv_has ls 2 [(0, .ref (ad 1)), (1, .int a1)] := hl
  have hw : xH D t ad A s M s.heap [] := hw
  unfold f2_isOpen at h
  refine lv_aload_n hx hb dX2_isOpen_0 rfl (lv_at hl 0 rfl) ?_
  refine sr_getr hx hb hts qzX2 hown hw (xf_1_7 t ad) (hts _ qfX2_28) dX2_isOpen_1 ?_
  refine lv_iload_n hx hb dX2_isOpen_4 rfl (lv_at hl 1 rfl) ?_
  refine sr_iald hx hb hw (xa_7 t ad) h dX2_isOpen_5 (fun v1 h => ?_)
  refine lv_if_lt (tgt := 13) hx hb dX2_isOpen_6 (by decide) (fun hc => ?_) (fun hc => ?_)
  · have h := sr_ifp h hc
    refine lv_iconst (v := 0) hx hb dX2_isOpen_13 (by decide) ?_
    obtain rfl := Option.some.inj h
    exact ret _ _ _ _ hw rfl dX2_isOpen_14
  · have h := sr_ifn h hc
    refine lv_iconst (v := 1) hx hb dX2_isOpen_9 (by decide) ?_
    refine lv_goto (tgt := 14) hx hb dX2_isOpen_10 (by decide) ?_
    obtain rfl := Option.some.inj h
    exact ret _ _ _ _ hw rfl dX2_isOpen_14

noncomputable def f2_across (a1 : Int32) (a2 : Int32) (M : sr_M) : Option (Int32) :=
sr_ld a1 300 (M.1 4) fun v1 =>
if v1 = a2 then
(sr_ld a1 300 (M.1 5) fun v3 =>
some v3)
else
(sr_ld a1 300 (M.1 4) fun v2 =>
some v2)
set_option maxHeartbeats 4000000 in
set_option maxRecDepth 100000 in
theorem k2_across (l : Launch) (D : va_G) (t : Nat → ClassId) (ad : Nat → Nat) (a1 : Int32) (a2 : Int32) (M : sr_M) (r : Int32) (h : f2_across a1 a2 M = some r) : sr_Mi l D vwCl (xty t) ad (xcf t ad) 62 yX2_across (.code yX2_across cX2_across 3 (some .int) :: sr_tbl) ({ frames := 0, cells := 0, slots := 0, locals := 0 }) [.ref (ad 1), .int a1, .int a2] M r M := by
  refine sr_open_i (cc := cX2_across) (maxL := 3) (by decide) rfl (Nat.le_of_ble_eq_true rfl) ?_
  intro p e s m args below meth c A Q ls hx hb hml hts0 hown hA hw hl ret
  have hts : ∀ w ∈ sr_tbl, w.before args s = true := fun w hw => hts0 w (List.mem_cons_of_mem _ hw)
  have hown : s.vm.findClass RX2 = some m.cls := hown
  have hl : lv_has ls 3 [(0, .ref (ad 1)), (1, .int a1), (2, .int a2)] := hl
  have hw : xH D t ad A s M s.heap [] := hw
  unfold f2_across at h
  refine lv_aload_n hx hb dX2_across_0 rfl (lv_at hl 0 rfl) ?_
  refine sr_getr hx hb hts qzX2 hown hw (xf_1_4 t ad) (hts _ qfX2_19) dX2_across_1 ?_
  refine lv_iload_n hx hb dX2_across_4 rfl (lv_at hl 1 rfl) ?_
  refine sr_iald hx hb hw (xa_4 t ad) h dX2_across_5 (fun v1 h => ?_)
  refine lv_iload_n hx hb dX2_across_6 rfl (lv_at hl 2 rfl) ?_
  refine lv_icmp_ne (tgt := 19) hx hb dX2_across_7 (by decide) (fun hc => ?_) (fun hc => ?_)
  · have h := sr_ifn h hc
    refine lv_aload_n hx hb dX2_across_19 rfl (lv_at hl 0 rfl) ?_
    refine sr_getr hx hb hts qzX2 hown hw (xf_1_4 t ad) (hts _ qfX2_19) dX2_across_20 ?_
    refine lv_iload_n hx hb dX2_across_23 rfl (lv_at hl 1 rfl) ?_
    refine sr_iald hx hb hw (xa_4 t ad) h dX2_across_24 (fun v2 h => ?_)
    obtain rfl := Option.some.inj h
    exact ret _ _ _ _ hw rfl dX2_across_25
  · have h := sr_ifp h hc
    refine lv_aload_n hx hb dX2_across_10 rfl (lv_at hl 0 rfl) ?_
    refine sr_getr hx hb hts qzX2 hown hw (xf_1_5 t ad) (hts _ qfX2_22) dX2_across_11 ?_
    refine lv_iload_n hx hb dX2_across_14 rfl (lv_at hl 1 rfl) ?_
    refine sr_iald hx hb hw (xa_5 t ad) h dX2_across_15 (fun v3 h => ?_)
    refine lv_goto (tgt := 25) hx hb dX2_across_16 (by decide) ?_
    obtain rfl := Option.some.inj h
    exact ret _ _ _ _ hw rfl dX2_across_25

noncomputable def f2_addPore (a1 : Int32) (M : sr_M) : Option (Int32 × sr_M) :=
sr_bnd (M.1 1 0) fun v1 =>
sr_bnd (M.1 1 0) fun v2 =>
sr_put M 1 0 (v2 + 1) fun M3 =>
sr_st v1 120 M3 2 a1 fun M4 =>
sr_bnd (M4.1 1 0) fun v5 =>
sr_ld v1 121 (M4.1 9) fun v6 =>
sr_st v5 121 M4 9 v6 fun M7 =>
some (v1, M7)
set_option maxHeartbeats 4000000 in
set_option maxRecDepth 100000 in
theorem k2_addPore (l : Launch) (D : va_G) (t : Nat → ClassId) (ad : Nat → Nat) (a1 : Int32) (M : sr_M) (r : Int32) (M' : sr_M) (h : f2_addPore a1 M = some (r, M')) : sr_Mi l D vwCl (xty t) ad (xcf t ad) 62 yX2_addPore (.code yX2_addPore cX2_addPore 3 (some .int) :: sr_tbl) ({ frames := 0, cells := 0, slots := 0, locals := 0 }) [.ref (ad 1), .int a1] M r M' := by
  refine sr_open_i (cc := cX2_addPore) (maxL := 3) (by decide) rfl (Nat.le_of_ble_eq_true rfl) ?_
  intro p e s m args below meth c A Q ls hx hb hml hts0 hown hA hw hl ret
  have hts : ∀ w ∈ sr_tbl, w.before args s = true := fun w hw => hts0 w (List.mem_cons_of_mem _ hw)
  have hown : s.vm.findClass RX2 = some m.cls := hown
  have hl : lv_has ls 3 [(0, .ref (ad 1)), (1, .int a1)] := hl
  have hw : xH D t ad A s M s.heap [] := hw
  unfold f2_addPore at h
  refine lv_aload_n hx hb dX2_addPore_0 rfl (lv_at hl 0 rfl) ?_
  refine sr_geti hx hb hts qzX2 hown hw (xf_1_0 t ad) (hts _ qfX2_40) h dX2_addPore_1 (fun v1 h => ?_)
  refine lv_istore_n (lv' := [(2, .int v1), (0, .ref (ad 1)), (1, .int a1)]) hx hb dX2_addPore_4 rfl hl (by decide) rfl (fun ls hl => ?_)
  refine lv_aload_n hx hb dX2_addPore_5 rfl (lv_at hl 1 rfl) ?_
  refine lv_dup hx hb dX2_addPore_6 rfl ?_
  refine sr_geti hx hb hts qzX2 hown hw (xf_1_0 t ad) (hts _ qfX2_40) h dX2_addPore_7 (fun v2 h => ?_)
  refine lv_iconst (v := 1) hx hb dX2_addPore_10 (by decide) ?_
  refine lv_iadd hx hb dX2_addPore_11 ?_
  refine sr_puti hx hb hts qzX2 tyX2 tyX2_ok nmX2 hown hw (xf_1_0 t ad) rfl rfl (hts _ qfX2_40) h dX2_addPore_12 (fun M3 H locs h hw => ?_)
  refine lv_aload_n hx hb dX2_addPore_15 rfl (lv_at hl 1 rfl) ?_
  refine sr_getr hx hb hts qzX2 hown hw (xf_1_1 t ad) (hts _ qfX2_9) dX2_addPore_16 ?_
  refine lv_iload_n hx hb dX2_addPore_19 rfl (lv_at hl 0 rfl) ?_
  refine lv_iload_n hx hb dX2_addPore_20 rfl (lv_at hl 2 rfl) ?_
  refine sr_iast hx hb hw (xa_2 t ad) h dX2_addPore_21 (fun M4 H locs h hw => ?_)
  refine lv_aload_n hx hb dX2_addPore_22 rfl (lv_at hl 1 rfl) ?_
  refine sr_getr hx hb hts qzX2 hown hw (xf_1_10 t ad) (hts _ qfX2_34) dX2_addPore_23 ?_
  refine lv_aload_n hx hb dX2_addPore_26 rfl (lv_at hl 1 rfl) ?_
  refine sr_geti hx hb hts qzX2 hown hw (xf_1_0 t ad) (hts _ qfX2_40) h dX2_addPore_27 (fun v5 h => ?_)
  refine lv_aload_n hx hb dX2_addPore_30 rfl (lv_at hl 1 rfl) ?_
  refine sr_getr hx hb hts qzX2 hown hw (xf_1_10 t ad) (hts _ qfX2_34) dX2_addPore_31 ?_
  refine lv_iload_n hx hb dX2_addPore_34 rfl (lv_at hl 0 rfl) ?_
  refine sr_iald hx hb hw (xa_9 t ad) h dX2_addPore_35 (fun v6 h => ?_)
  refine sr_iast hx hb hw (xa_9 t ad) h dX2_addPore_36 (fun M7 H locs h hw => ?_)
  refine lv_iload_n hx hb dX2_addPore_37 rfl (lv_at hl 0 rfl) ?_
  obtain ⟨rfl, rfl⟩ := Prod.mk.inj (Option.some.inj h)
  exact ret _ _ _ _ hw rfl dX2_addPore_38

noncomputable def f2_listAt_L20 (v1 : Int32) (v5 : Int32) (M6 : sr_M) : Option ((Int32 × sr_M) ⊕ (sr_M)) :=
if v5 ≤ v1 then
(some (.inr M6))
else
(sr_ld (v5 - 1) 600 (M6.1 10) fun v7 =>
sr_st v5 600 M6 10 v7 fun M8 =>
some (.inl ((v5 + (-1)), M8)))
noncomputable def f2_listAt_L60 (v12 : Int32) (M13 : sr_M) : Option ((Int32 × sr_M) ⊕ (sr_M)) :=
sr_bnd (M13.1 1 0) fun v14 =>
if v14 < v12 then
(some (.inr M13))
else
(sr_ld v12 121 (M13.1 9) fun v15 =>
sr_st v12 121 M13 9 (v15 + 1) fun M16 =>
some (.inl ((v12 + 1), M16)))
noncomputable def f2_listAt (a1 : Int32) (a2 : Int32) (M : sr_M) : Option (sr_M) :=
sr_ld (a1 + 1) 121 (M.1 9) fun v1 =>
sr_bnd (M.1 1 0) fun v2 =>
sr_ld v2 121 (M.1 9) fun v3 =>
(sr_lp (fun z4 : Int32 × sr_M => f2_listAt_L20 v1 z4.1 z4.2) (v3, M)).bind fun w4 =>
sr_st v1 600 w4 10 a2 fun M10 =>
(sr_lp (fun z11 : Int32 × sr_M => f2_listAt_L60 z11.1 z11.2) ((a1 + 1), M10)).bind fun w11 =>
some w11
set_option maxHeartbeats 4000000 in
set_option maxRecDepth 100000 in
theorem k2_listAt (l : Launch) (D : va_G) (t : Nat → ClassId) (ad : Nat → Nat) (a1 : Int32) (a2 : Int32) (M : sr_M) (M' : sr_M) (h : f2_listAt a1 a2 M = some M') : sr_Mv l D vwCl (xty t) ad (xcf t ad) 62 yX2_listAt (.code yX2_listAt cX2_listAt 5 (none) :: sr_tbl) ({ frames := 0, cells := 0, slots := 0, locals := 0 }) [.ref (ad 1), .int a1, .int a2] M M' := by
  refine sr_open_v (cc := cX2_listAt) (maxL := 5) (by decide) rfl (Nat.le_of_ble_eq_true rfl) ?_
  intro p e s m args below meth c A Q ls hx hb hml hts0 hown hA hw hl ret
  have hts : ∀ w ∈ sr_tbl, w.before args s = true := fun w hw => hts0 w (List.mem_cons_of_mem _ hw)
  have hown : s.vm.findClass RX2 = some m.cls := hown
  have hl : lv_has ls 5 [(0, .ref (ad 1)), (1, .int a1), (2, .int a2)] := hl
  have hw : xH D t ad A s M s.heap [] := hw
  unfold f2_listAt at h
  refine lv_aload_n hx hb dX2_listAt_0 rfl (lv_at hl 0 rfl) ?_
  refine sr_getr hx hb hts qzX2 hown hw (xf_1_10 t ad) (hts _ qfX2_34) dX2_listAt_1 ?_
  refine lv_iload_n hx hb dX2_listAt_4 rfl (lv_at hl 1 rfl) ?_
  refine lv_iconst (v := 1) hx hb dX2_listAt_5 (by decide) ?_
  refine lv_iadd hx hb dX2_listAt_6 ?_
  refine sr_iald hx hb hw (xa_9 t ad) h dX2_listAt_7 (fun v1 h => ?_)
  refine lv_istore_n (lv' := [(3, .int v1), (0, .ref (ad 1)), (1, .int a1), (2, .int a2)]) hx hb dX2_listAt_8 rfl hl (by decide) rfl (fun ls hl => ?_)
  refine lv_aload_n hx hb dX2_listAt_9 rfl (lv_at hl 1 rfl) ?_
  refine sr_getr hx hb hts qzX2 hown hw (xf_1_10 t ad) (hts _ qfX2_34) dX2_listAt_10 ?_
  refine lv_aload_n hx hb dX2_listAt_13 rfl (lv_at hl 1 rfl) ?_
  refine sr_geti hx hb hts qzX2 hown hw (xf_1_0 t ad) (hts _ qfX2_40) h dX2_listAt_14 (fun v2 h => ?_)
  refine sr_iald hx hb hw (xa_9 t ad) h dX2_listAt_17 (fun v3 h => ?_)
  refine lv_istore (lv' := [(4, .int v3), (3, .int v1), (0, .ref (ad 1)), (1, .int a1), (2, .int a2)]) hx hb dX2_listAt_18 hl (by decide) rfl (fun ls hl => ?_)
  obtain ⟨x4, hlp, hE4⟩ := sr_bind h
  have hX4 : ∀ (M9 : sr_M), M9 = x4 → ∀ (H : Heap) (locs : List Loc) (ls : Array Slot), xH D t ad A s M9 H locs → lv_has ls 5 [(0, .ref (ad 1)), (1, .int a1), (2, .int a2), (3, .int v1)] → W p l e ({ frames := 0, cells := 0, slots := 0, locals := 0 }) s m args below meth c H locs 0 0 Q (F0 m 48 ls []) := by
    intro M9 ex H locs ls hw hl
    have h := hE4 _ ex
    try dsimp only at h
    refine lv_aload_n hx hb dX2_listAt_48 rfl (lv_at hl 0 rfl) ?_
    refine sr_getr hx hb hts qzX2 hown hw (xf_1_11 t ad) (hts _ qfX2_37) dX2_listAt_49 ?_
    refine lv_iload_n hx hb dX2_listAt_52 rfl (lv_at hl 3 rfl) ?_
    refine lv_iload_n hx hb dX2_listAt_53 rfl (lv_at hl 2 rfl) ?_
    refine sr_iast hx hb hw (xa_10 t ad) h dX2_listAt_54 (fun M10 H locs h hw => ?_)
    refine lv_iload_n hx hb dX2_listAt_55 rfl (lv_at hl 1 rfl) ?_
    refine lv_iconst (v := 1) hx hb dX2_listAt_56 (by decide) ?_
    refine lv_iadd hx hb dX2_listAt_57 ?_
    refine lv_istore (lv' := [(4, .int (a1 + 1)), (0, .ref (ad 1)), (1, .int a1), (2, .int a2), (3, .int v1)]) hx hb dX2_listAt_58 hl (by decide) rfl (fun ls hl => ?_)
    obtain ⟨x11, hlp, hE11⟩ := sr_bind h
    have hX11 : ∀ (M17 : sr_M), M17 = x11 → ∀ (H : Heap) (locs : List Loc) (ls : Array Slot), xH D t ad A s M17 H locs → lv_has ls 5 [] → W p l e ({ frames := 0, cells := 0, slots := 0, locals := 0 }) s m args below meth c H locs 0 0 Q (F0 m 86 ls []) := by
      intro M17 ex H locs ls hw hl
      have h := hE11 _ ex
      try dsimp only at h
      obtain rfl := Option.some.inj h
      exact ret _ _ _ _ hw dX2_listAt_86
    refine sr_lp_rule (fun (z11 : Int32 × sr_M) => ∀ (H : Heap) (locs : List Loc) (ls : Array Slot), xH D t ad A s z11.2 H locs → lv_has ls 5 [(0, .ref (ad 1)), (4, .int z11.1)] → W p l e ({ frames := 0, cells := 0, slots := 0, locals := 0 }) s m args below meth c H locs 0 0 Q (F0 m 60 ls [])) ?_ hlp _ _ _ hw (lv_sub hl [1, 0] rfl)
    rintro ⟨v12, M13⟩ y11 h hi11 he11 H locs ls hw hl
    have h : f2_listAt_L60 v12 M13 = some y11 := h
    have hw : xH D t ad A s M13 H locs := hw
    have hl : lv_has ls 5 [(0, .ref (ad 1)), (4, .int v12)] := hl
    unfold f2_listAt_L60 at h
    refine lv_iload hx hb dX2_listAt_60 (lv_at hl 1 rfl) ?_
    refine lv_aload_n hx hb dX2_listAt_62 rfl (lv_at hl 0 rfl) ?_
    refine sr_geti hx hb hts qzX2 hown hw (xf_1_0 t ad) (hts _ qfX2_40) h dX2_listAt_63 (fun v14 h => ?_)
    refine lv_icmp_gt (tgt := 86) hx hb dX2_listAt_66 (by decide) (fun hc => ?_) (fun hc => ?_)
    · have h := sr_ifp h hc
      exact hX11  M13 (he11 _ (Option.some.inj h).symm) _ _ _ hw (lv_sub hl [] rfl)
    · have h := sr_ifn h hc
      refine lv_aload_n hx hb dX2_listAt_69 rfl (lv_at hl 0 rfl) ?_
      refine sr_getr hx hb hts qzX2 hown hw (xf_1_10 t ad) (hts _ qfX2_34) dX2_listAt_70 ?_
      refine lv_iload hx hb dX2_listAt_73 (lv_at hl 1 rfl) ?_
      refine lv_dup2_11 hx hb dX2_listAt_75 rfl rfl ?_
      refine sr_iald hx hb hw (xa_9 t ad) h dX2_listAt_76 (fun v15 h => ?_)
      refine lv_iconst (v := 1) hx hb dX2_listAt_77 (by decide) ?_
      refine lv_iadd hx hb dX2_listAt_78 ?_
      refine sr_iast hx hb hw (xa_9 t ad) h dX2_listAt_79 (fun M16 H locs h hw => ?_)
      refine lv_iinc (v := (v12 + 1)) (lv' := [(4, .int (v12 + 1)), (0, .ref (ad 1))]) hx hb dX2_listAt_80 hl (k := 1) rfl rfl (by decide) rfl (fun ls hl => ?_)
      refine lv_goto (tgt := 60) hx hb dX2_listAt_83 (by decide) ?_
      exact hi11 ((v12 + 1), M16) (Option.some.inj h).symm _ _ _ hw (lv_sub hl [1, 0] rfl)
  refine sr_lp_rule (fun (z4 : Int32 × sr_M) => ∀ (H : Heap) (locs : List Loc) (ls : Array Slot), xH D t ad A s z4.2 H locs → lv_has ls 5 [(0, .ref (ad 1)), (1, .int a1), (2, .int a2), (3, .int v1), (4, .int z4.1)] → W p l e ({ frames := 0, cells := 0, slots := 0, locals := 0 }) s m args below meth c H locs 0 0 Q (F0 m 20 ls [])) ?_ hlp _ _ _ hw (lv_sub hl [2, 3, 4, 1, 0] rfl)
  rintro ⟨v5, M6⟩ y4 h hi4 he4 H locs ls hw hl
  have h : f2_listAt_L20 v1 v5 M6 = some y4 := h
  have hw : xH D t ad A s M6 H locs := hw
  have hl : lv_has ls 5 [(0, .ref (ad 1)), (1, .int a1), (2, .int a2), (3, .int v1), (4, .int v5)] := hl
  unfold f2_listAt_L20 at h
  refine lv_iload hx hb dX2_listAt_20 (lv_at hl 4 rfl) ?_
  refine lv_iload_n hx hb dX2_listAt_22 rfl (lv_at hl 3 rfl) ?_
  refine lv_icmp_le (tgt := 48) hx hb dX2_listAt_23 (by decide) (fun hc => ?_) (fun hc => ?_)
  · have h := sr_ifp h hc
    exact hX4  M6 (he4 _ (Option.some.inj h).symm) _ _ _ hw (lv_sub hl [0, 1, 2, 3] rfl)
  · have h := sr_ifn h hc
    refine lv_aload_n hx hb dX2_listAt_26 rfl (lv_at hl 0 rfl) ?_
    refine sr_getr hx hb hts qzX2 hown hw (xf_1_11 t ad) (hts _ qfX2_37) dX2_listAt_27 ?_
    refine lv_iload hx hb dX2_listAt_30 (lv_at hl 4 rfl) ?_
    refine lv_aload_n hx hb dX2_listAt_32 rfl (lv_at hl 0 rfl) ?_
    refine sr_getr hx hb hts qzX2 hown hw (xf_1_11 t ad) (hts _ qfX2_37) dX2_listAt_33 ?_
    refine lv_iload hx hb dX2_listAt_36 (lv_at hl 4 rfl) ?_
    refine lv_iconst (v := 1) hx hb dX2_listAt_38 (by decide) ?_
    refine lv_isub hx hb dX2_listAt_39 ?_
    refine sr_iald hx hb hw (xa_10 t ad) h dX2_listAt_40 (fun v7 h => ?_)
    refine sr_iast hx hb hw (xa_10 t ad) h dX2_listAt_41 (fun M8 H locs h hw => ?_)
    refine lv_iinc (v := (v5 + (-1))) (lv' := [(4, .int (v5 + (-1))), (0, .ref (ad 1)), (1, .int a1), (2, .int a2), (3, .int v1)]) hx hb dX2_listAt_42 hl (k := 4) rfl rfl (by decide) rfl (fun ls hl => ?_)
    refine lv_goto (tgt := 20) hx hb dX2_listAt_45 (by decide) ?_
    exact hi4 ((v5 + (-1)), M8) (Option.some.inj h).symm _ _ _ hw (lv_sub hl [1, 2, 3, 4, 0] rfl)

noncomputable def f2_isAhead (a1 : Int32) (a2 : Int32) (M : sr_M) : Option (Int32) :=
sr_ld a1 300 (M.1 6) fun v1 =>
sr_ld a2 300 (M.1 6) fun v2 =>
if v1 < v2 then
(some 1)
else
(sr_ld a1 300 (M.1 6) fun v3 =>
sr_ld a2 300 (M.1 6) fun v4 =>
if v3 = v4 then
(if a2 ≤ a1 then
(some 0)
else
(some 1))
else
(some 0))
set_option maxHeartbeats 4000000 in
set_option maxRecDepth 100000 in
theorem k2_isAhead (l : Launch) (D : va_G) (t : Nat → ClassId) (ad : Nat → Nat) (a1 : Int32) (a2 : Int32) (M : sr_M) (r : Int32) (h : f2_isAhead a1 a2 M = some r) : sr_Mi l D vwCl (xty t) ad (xcf t ad) 62 yX2_isAhead (.code yX2_isAhead cX2_isAhead 3 (some .boolean) :: sr_tbl) ({ frames := 0, cells := 0, slots := 0, locals := 0 }) [.ref (ad 1), .int a1, .int a2] M r M := by
  refine sr_open_i (cc := cX2_isAhead) (maxL := 3) (by decide) rfl (Nat.le_of_ble_eq_true rfl) ?_
  intro p e s m args below meth c A Q ls hx hb hml hts0 hown hA hw hl ret
  have hts : ∀ w ∈ sr_tbl, w.before args s = true := fun w hw => hts0 w (List.mem_cons_of_mem _ hw)
  have hown : s.vm.findClass RX2 = some m.cls := hown
  have hl : lv_has ls 3 [(0, .ref (ad 1)), (1, .int a1), (2, .int a2)] := hl
  have hw : xH D t ad A s M s.heap [] := hw
  unfold f2_isAhead at h
  refine lv_aload_n hx hb dX2_isAhead_0 rfl (lv_at hl 0 rfl) ?_
  refine sr_getr hx hb hts qzX2 hown hw (xf_1_6 t ad) (hts _ qfX2_25) dX2_isAhead_1 ?_
  refine lv_iload_n hx hb dX2_isAhead_4 rfl (lv_at hl 1 rfl) ?_
  refine sr_iald hx hb hw (xa_6 t ad) h dX2_isAhead_5 (fun v1 h => ?_)
  refine lv_aload_n hx hb dX2_isAhead_6 rfl (lv_at hl 0 rfl) ?_
  refine sr_getr hx hb hts qzX2 hown hw (xf_1_6 t ad) (hts _ qfX2_25) dX2_isAhead_7 ?_
  refine lv_iload_n hx hb dX2_isAhead_10 rfl (lv_at hl 2 rfl) ?_
  refine sr_iald hx hb hw (xa_6 t ad) h dX2_isAhead_11 (fun v2 h => ?_)
  refine lv_icmp_lt (tgt := 35) hx hb dX2_isAhead_12 (by decide) (fun hc => ?_) (fun hc => ?_)
  · have h := sr_ifp h hc
    refine lv_iconst (v := 1) hx hb dX2_isAhead_35 (by decide) ?_
    refine lv_goto (tgt := 40) hx hb dX2_isAhead_36 (by decide) ?_
    obtain rfl := Option.some.inj h
    exact ret _ _ _ _ hw rfl dX2_isAhead_40
  · have h := sr_ifn h hc
    refine lv_aload_n hx hb dX2_isAhead_15 rfl (lv_at hl 0 rfl) ?_
    refine sr_getr hx hb hts qzX2 hown hw (xf_1_6 t ad) (hts _ qfX2_25) dX2_isAhead_16 ?_
    refine lv_iload_n hx hb dX2_isAhead_19 rfl (lv_at hl 1 rfl) ?_
    refine sr_iald hx hb hw (xa_6 t ad) h dX2_isAhead_20 (fun v3 h => ?_)
    refine lv_aload_n hx hb dX2_isAhead_21 rfl (lv_at hl 0 rfl) ?_
    refine sr_getr hx hb hts qzX2 hown hw (xf_1_6 t ad) (hts _ qfX2_25) dX2_isAhead_22 ?_
    refine lv_iload_n hx hb dX2_isAhead_25 rfl (lv_at hl 2 rfl) ?_
    refine sr_iald hx hb hw (xa_6 t ad) h dX2_isAhead_26 (fun v4 h => ?_)
    refine lv_icmp_ne (tgt := 39) hx hb dX2_isAhead_27 (by decide) (fun hc => ?_) (fun hc => ?_)
    · have h := sr_ifn h hc
      refine lv_iconst (v := 0) hx hb dX2_isAhead_39 (by decide) ?_
      obtain rfl := Option.some.inj h
      exact ret _ _ _ _ hw rfl dX2_isAhead_40
    · have h := sr_ifp h hc
      refine lv_iload_n hx hb dX2_isAhead_30 rfl (lv_at hl 1 rfl) ?_
      refine lv_iload_n hx hb dX2_isAhead_31 rfl (lv_at hl 2 rfl) ?_
      refine lv_icmp_ge (tgt := 39) hx hb dX2_isAhead_32 (by decide) (fun hc => ?_) (fun hc => ?_)
      · have h := sr_ifp h hc
        refine lv_iconst (v := 0) hx hb dX2_isAhead_39 (by decide) ?_
        obtain rfl := Option.some.inj h
        exact ret _ _ _ _ hw rfl dX2_isAhead_40
      · have h := sr_ifn h hc
        refine lv_iconst (v := 1) hx hb dX2_isAhead_35 (by decide) ?_
        refine lv_goto (tgt := 40) hx hb dX2_isAhead_36 (by decide) ?_
        obtain rfl := Option.some.inj h
        exact ret _ _ _ _ hw rfl dX2_isAhead_40

noncomputable def f2_place (a1 : Int32) (a2 : Int32) (M : sr_M) : Option (sr_M) :=
sr_st a2 300 M 8 a1 fun M1 =>
sr_st a1 300 M1 7 a2 fun M2 =>
some M2
set_option maxHeartbeats 4000000 in
set_option maxRecDepth 100000 in
theorem k2_place (l : Launch) (D : va_G) (t : Nat → ClassId) (ad : Nat → Nat) (a1 : Int32) (a2 : Int32) (M : sr_M) (M' : sr_M) (h : f2_place a1 a2 M = some M') : sr_Mv l D vwCl (xty t) ad (xcf t ad) 62 yX2_place (.code yX2_place cX2_place 3 (none) :: sr_tbl) ({ frames := 0, cells := 0, slots := 0, locals := 0 }) [.ref (ad 1), .int a1, .int a2] M M' := by
  refine sr_open_v (cc := cX2_place) (maxL := 3) (by decide) rfl (Nat.le_of_ble_eq_true rfl) ?_
  intro p e s m args below meth c A Q ls hx hb hml hts0 hown hA hw hl ret
  have hts : ∀ w ∈ sr_tbl, w.before args s = true := fun w hw => hts0 w (List.mem_cons_of_mem _ hw)
  have hown : s.vm.findClass RX2 = some m.cls := hown
  have hl : lv_has ls 3 [(0, .ref (ad 1)), (1, .int a1), (2, .int a2)] := hl
  have hw : xH D t ad A s M s.heap [] := hw
  unfold f2_place at h
  refine lv_aload_n hx hb dX2_place_0 rfl (lv_at hl 0 rfl) ?_
  refine sr_getr hx hb hts qzX2 hown hw (xf_1_8 t ad) (hts _ qfX2_31) dX2_place_1 ?_
  refine lv_iload_n hx hb dX2_place_4 rfl (lv_at hl 2 rfl) ?_
  refine lv_iload_n hx hb dX2_place_5 rfl (lv_at hl 1 rfl) ?_
  refine sr_iast hx hb hw (xa_8 t ad) h dX2_place_6 (fun M1 H locs h hw => ?_)
  refine lv_aload_n hx hb dX2_place_7 rfl (lv_at hl 0 rfl) ?_
  refine sr_getr hx hb hts qzX2 hown hw (xf_1_7 t ad) (hts _ qfX2_28) dX2_place_8 ?_
  refine lv_iload_n hx hb dX2_place_11 rfl (lv_at hl 1 rfl) ?_
  refine lv_iload_n hx hb dX2_place_12 rfl (lv_at hl 2 rfl) ?_
  refine sr_iast hx hb hw (xa_7 t ad) h dX2_place_13 (fun M2 H locs h hw => ?_)
  obtain rfl := Option.some.inj h
  exact ret _ _ _ _ hw dX2_place_14

noncomputable def f2_rankIn_L5 (a1 : Int32) (v3 : Int32) (M4 : sr_M) : Option ((Int32 × sr_M) ⊕ (Int32 × sr_M)) :=
if v3 ≤ 0 then
(some (.inr (v3, M4)))
else
(sr_ld (v3 - 1) 300 (M4.1 8) fun v5 =>
(f2_isAhead a1 v5 M4).bind fun v6 =>
if v6 = 0 then
(some (.inr (v3, M4)))
else
(sr_ld (v3 - 1) 300 (M4.1 8) fun v7 =>
(f2_place v7 v3 M4).bind fun M8 =>
some (.inl ((v3 + (-1)), M8))))
noncomputable def f2_rankIn (a1 : Int32) (M : sr_M) : Option (sr_M) :=
sr_bnd (M.1 1 9) fun v1 =>
(sr_lp (fun z2 : Int32 × sr_M => f2_rankIn_L5 a1 z2.1 z2.2) (v1, M)).bind fun w2 =>
(f2_place a1 w2.1 w2.2).bind fun M11 =>
sr_bnd (M11.1 1 9) fun v12 =>
sr_put M11 1 9 (v12 + 1) fun M13 =>
some M13
set_option maxHeartbeats 4000000 in
set_option maxRecDepth 100000 in
theorem k2_rankIn (l : Launch) (D : va_G) (t : Nat → ClassId) (ad : Nat → Nat) (a1 : Int32) (M : sr_M) (M' : sr_M) (h : f2_rankIn a1 M = some M') : sr_Mv l D vwCl (xty t) ad (xcf t ad) 62 yX2_rankIn (.code yX2_rankIn cX2_rankIn 3 (none) :: sr_tbl) ({ frames := 1, cells := 0, slots := 0, locals := 22 }) [.ref (ad 1), .int a1] M M' := by
  refine sr_open_v (cc := cX2_rankIn) (maxL := 3) (by decide) rfl (Nat.le_of_ble_eq_true rfl) ?_
  intro p e s m args below meth c A Q ls hx hb hml hts0 hown hA hw hl ret
  have hts : ∀ w ∈ sr_tbl, w.before args s = true := fun w hw => hts0 w (List.mem_cons_of_mem _ hw)
  have hown : s.vm.findClass RX2 = some m.cls := hown
  have hl : lv_has ls 3 [(0, .ref (ad 1)), (1, .int a1)] := hl
  have hw : xH D t ad A s M s.heap [] := hw
  unfold f2_rankIn at h
  refine lv_aload_n hx hb dX2_rankIn_0 rfl (lv_at hl 0 rfl) ?_
  refine sr_geti hx hb hts qzX2 hown hw (xf_1_9 t ad) (hts _ qfX2_62) h dX2_rankIn_1 (fun v1 h => ?_)
  refine lv_istore_n (lv' := [(2, .int v1), (0, .ref (ad 1)), (1, .int a1)]) hx hb dX2_rankIn_4 rfl hl (by decide) rfl (fun ls hl => ?_)
  obtain ⟨x2, hlp, hE2⟩ := sr_bind h
  have hX2 : ∀ (v9 : Int32) (M10 : sr_M), (v9, M10) = x2 → ∀ (H : Heap) (locs : List Loc) (ls : Array Slot), xH D t ad A s M10 H locs → lv_has ls 3 [(0, .ref (ad 1)), (1, .int a1), (2, .int v9)] → W p l e ({ frames := 1, cells := 0, slots := 0, locals := 22 }) s m args below meth c H locs 0 0 Q (F0 m 44 ls []) := by
    intro v9 M10 ex H locs ls hw hl
    have h := hE2 _ ex
    try dsimp only at h
    refine lv_aload_n hx hb dX2_rankIn_44 rfl (lv_at hl 0 rfl) ?_
    refine lv_iload_n hx hb dX2_rankIn_45 rfl (lv_at hl 1 rfl) ?_
    refine lv_iload_n hx hb dX2_rankIn_46 rfl (lv_at hl 2 rfl) ?_
    obtain ⟨M11, hc, h⟩ := sr_bind1 h
    refine sr_cVv (As := [.int a1, .int v9]) (rest := []) ⟨hx, hb, hml, hown, hts⟩ (k2_place l D t ad a1 v9 M10 _ hc) (cwV 2 hts (sr_goodV qmX2_65 qiX2_place qsX2_place qnX2 qcX2_place) rfl rfl rfl qdX2_place ⟨Nat.le_of_ble_eq_true rfl, Nat.le_of_ble_eq_true rfl⟩) hw hA (xo_1 t ad) rfl hl.1 rfl (Nat.le_of_ble_eq_true rfl) dX2_rankIn_47 (fun H locs hw => ?_)
    refine lv_aload_n hx hb dX2_rankIn_50 rfl (lv_at hl 0 rfl) ?_
    refine lv_dup hx hb dX2_rankIn_51 rfl ?_
    refine sr_geti hx hb hts qzX2 hown hw (xf_1_9 t ad) (hts _ qfX2_62) h dX2_rankIn_52 (fun v12 h => ?_)
    refine lv_iconst (v := 1) hx hb dX2_rankIn_55 (by decide) ?_
    refine lv_iadd hx hb dX2_rankIn_56 ?_
    refine sr_puti hx hb hts qzX2 tyX2 tyX2_ok nmX2 hown hw (xf_1_9 t ad) rfl rfl (hts _ qfX2_62) h dX2_rankIn_57 (fun M13 H locs h hw => ?_)
    obtain rfl := Option.some.inj h
    exact ret _ _ _ _ hw dX2_rankIn_60
  refine sr_lp_rule (fun (z2 : Int32 × sr_M) => ∀ (H : Heap) (locs : List Loc) (ls : Array Slot), xH D t ad A s z2.2 H locs → lv_has ls 3 [(0, .ref (ad 1)), (1, .int a1), (2, .int z2.1)] → W p l e ({ frames := 1, cells := 0, slots := 0, locals := 22 }) s m args below meth c H locs 0 0 Q (F0 m 5 ls [])) ?_ hlp _ _ _ hw (lv_sub hl [1, 2, 0] rfl)
  rintro ⟨v3, M4⟩ y2 h hi2 he2 H locs ls hw hl
  have h : f2_rankIn_L5 a1 v3 M4 = some y2 := h
  have hw : xH D t ad A s M4 H locs := hw
  have hl : lv_has ls 3 [(0, .ref (ad 1)), (1, .int a1), (2, .int v3)] := hl
  unfold f2_rankIn_L5 at h
  refine lv_iload_n hx hb dX2_rankIn_5 rfl (lv_at hl 2 rfl) ?_
  refine lv_if_le (tgt := 44) hx hb dX2_rankIn_6 (by decide) (fun hc => ?_) (fun hc => ?_)
  · have h := sr_ifp h hc
    exact hX2 v3 M4 (he2 _ (Option.some.inj h).symm) _ _ _ hw (lv_sub hl [0, 1, 2] rfl)
  · have h := sr_ifn h hc
    refine lv_aload_n hx hb dX2_rankIn_9 rfl (lv_at hl 0 rfl) ?_
    refine lv_iload_n hx hb dX2_rankIn_10 rfl (lv_at hl 1 rfl) ?_
    refine lv_aload_n hx hb dX2_rankIn_11 rfl (lv_at hl 0 rfl) ?_
    refine sr_getr hx hb hts qzX2 hown hw (xf_1_8 t ad) (hts _ qfX2_31) dX2_rankIn_12 ?_
    refine lv_iload_n hx hb dX2_rankIn_15 rfl (lv_at hl 2 rfl) ?_
    refine lv_iconst (v := 1) hx hb dX2_rankIn_16 (by decide) ?_
    refine lv_isub hx hb dX2_rankIn_17 ?_
    refine sr_iald hx hb hw (xa_8 t ad) h dX2_rankIn_18 (fun v5 h => ?_)
    obtain ⟨v6, hc, h⟩ := sr_bind1 h
    refine sr_cVi (As := [.int a1, .int v5]) (rest := []) ⟨hx, hb, hml, hown, hts⟩ (k2_isAhead l D t ad a1 v5 M4 _ hc) (cwV 2 hts (sr_goodV qmX2_68 qiX2_isAhead qsX2_isAhead qnX2 qcX2_isAhead) rfl rfl rfl qdX2_isAhead ⟨Nat.le_of_ble_eq_true rfl, Nat.le_of_ble_eq_true rfl⟩) hw hA (xo_1 t ad) rfl hl.1 rfl (Nat.le_of_ble_eq_true rfl) dX2_rankIn_19 (fun H locs hw => ?_)
    refine lv_if_eq (tgt := 44) hx hb dX2_rankIn_22 (by decide) (fun hc => ?_) (fun hc => ?_)
    · have h := sr_ifp h hc
      exact hX2 v3 M4 (he2 _ (Option.some.inj h).symm) _ _ _ hw (lv_sub hl [0, 1, 2] rfl)
    · have h := sr_ifn h hc
      refine lv_aload_n hx hb dX2_rankIn_25 rfl (lv_at hl 0 rfl) ?_
      refine lv_aload_n hx hb dX2_rankIn_26 rfl (lv_at hl 0 rfl) ?_
      refine sr_getr hx hb hts qzX2 hown hw (xf_1_8 t ad) (hts _ qfX2_31) dX2_rankIn_27 ?_
      refine lv_iload_n hx hb dX2_rankIn_30 rfl (lv_at hl 2 rfl) ?_
      refine lv_iconst (v := 1) hx hb dX2_rankIn_31 (by decide) ?_
      refine lv_isub hx hb dX2_rankIn_32 ?_
      refine sr_iald hx hb hw (xa_8 t ad) h dX2_rankIn_33 (fun v7 h => ?_)
      refine lv_iload_n hx hb dX2_rankIn_34 rfl (lv_at hl 2 rfl) ?_
      obtain ⟨M8, hc, h⟩ := sr_bind1 h
      refine sr_cVv (As := [.int v7, .int v3]) (rest := []) ⟨hx, hb, hml, hown, hts⟩ (k2_place l D t ad v7 v3 M4 _ hc) (cwV 2 hts (sr_goodV qmX2_65 qiX2_place qsX2_place qnX2 qcX2_place) rfl rfl rfl qdX2_place ⟨Nat.le_of_ble_eq_true rfl, Nat.le_of_ble_eq_true rfl⟩) hw hA (xo_1 t ad) rfl hl.1 rfl (Nat.le_of_ble_eq_true rfl) dX2_rankIn_35 (fun H locs hw => ?_)
      refine lv_iinc (v := (v3 + (-1))) (lv' := [(2, .int (v3 + (-1))), (0, .ref (ad 1)), (1, .int a1)]) hx hb dX2_rankIn_38 hl (k := 2) rfl rfl (by decide) rfl (fun ls hl => ?_)
      refine lv_goto (tgt := 5) hx hb dX2_rankIn_41 (by decide) ?_
      exact hi2 ((v3 + (-1)), M8) (Option.some.inj h).symm _ _ _ hw (lv_sub hl [1, 2, 0] rfl)

noncomputable def f2_addThroat (a1 : Int32) (a2 : Int32) (M : sr_M) : Option (Int32 × sr_M) :=
sr_bnd (M.1 1 3) fun v1 =>
sr_bnd (M.1 1 3) fun v2 =>
sr_put M 1 3 (v2 + 1) fun M3 =>
sr_st v1 300 M3 4 a1 fun M4 =>
sr_st v1 300 M4 5 a2 fun M5 =>
(f2_listAt a1 v1 M5).bind fun M6 =>
(f2_listAt a2 v1 M6).bind fun M7 =>
(f2_rankIn v1 M7).bind fun M8 =>
some (v1, M8)
set_option maxHeartbeats 4000000 in
set_option maxRecDepth 100000 in
theorem k2_addThroat (l : Launch) (D : va_G) (t : Nat → ClassId) (ad : Nat → Nat) (a1 : Int32) (a2 : Int32) (M : sr_M) (r : Int32) (M' : sr_M) (h : f2_addThroat a1 a2 M = some (r, M')) : sr_Mi l D vwCl (xty t) ad (xcf t ad) 62 yX2_addThroat (.code yX2_addThroat cX2_addThroat 4 (some .int) :: sr_tbl) ({ frames := 2, cells := 0, slots := 0, locals := 44 }) [.ref (ad 1), .int a1, .int a2] M r M' := by
  refine sr_open_i (cc := cX2_addThroat) (maxL := 4) (by decide) rfl (Nat.le_of_ble_eq_true rfl) ?_
  intro p e s m args below meth c A Q ls hx hb hml hts0 hown hA hw hl ret
  have hts : ∀ w ∈ sr_tbl, w.before args s = true := fun w hw => hts0 w (List.mem_cons_of_mem _ hw)
  have hown : s.vm.findClass RX2 = some m.cls := hown
  have hl : lv_has ls 4 [(0, .ref (ad 1)), (1, .int a1), (2, .int a2)] := hl
  have hw : xH D t ad A s M s.heap [] := hw
  unfold f2_addThroat at h
  refine lv_aload_n hx hb dX2_addThroat_0 rfl (lv_at hl 0 rfl) ?_
  refine sr_geti hx hb hts qzX2 hown hw (xf_1_3 t ad) (hts _ qfX2_44) h dX2_addThroat_1 (fun v1 h => ?_)
  refine lv_istore_n (lv' := [(3, .int v1), (0, .ref (ad 1)), (1, .int a1), (2, .int a2)]) hx hb dX2_addThroat_4 rfl hl (by decide) rfl (fun ls hl => ?_)
  refine lv_aload_n hx hb dX2_addThroat_5 rfl (lv_at hl 1 rfl) ?_
  refine lv_dup hx hb dX2_addThroat_6 rfl ?_
  refine sr_geti hx hb hts qzX2 hown hw (xf_1_3 t ad) (hts _ qfX2_44) h dX2_addThroat_7 (fun v2 h => ?_)
  refine lv_iconst (v := 1) hx hb dX2_addThroat_10 (by decide) ?_
  refine lv_iadd hx hb dX2_addThroat_11 ?_
  refine sr_puti hx hb hts qzX2 tyX2 tyX2_ok nmX2 hown hw (xf_1_3 t ad) rfl rfl (hts _ qfX2_44) h dX2_addThroat_12 (fun M3 H locs h hw => ?_)
  refine lv_aload_n hx hb dX2_addThroat_15 rfl (lv_at hl 1 rfl) ?_
  refine sr_getr hx hb hts qzX2 hown hw (xf_1_4 t ad) (hts _ qfX2_19) dX2_addThroat_16 ?_
  refine lv_iload_n hx hb dX2_addThroat_19 rfl (lv_at hl 0 rfl) ?_
  refine lv_iload_n hx hb dX2_addThroat_20 rfl (lv_at hl 2 rfl) ?_
  refine sr_iast hx hb hw (xa_4 t ad) h dX2_addThroat_21 (fun M4 H locs h hw => ?_)
  refine lv_aload_n hx hb dX2_addThroat_22 rfl (lv_at hl 1 rfl) ?_
  refine sr_getr hx hb hts qzX2 hown hw (xf_1_5 t ad) (hts _ qfX2_22) dX2_addThroat_23 ?_
  refine lv_iload_n hx hb dX2_addThroat_26 rfl (lv_at hl 0 rfl) ?_
  refine lv_iload_n hx hb dX2_addThroat_27 rfl (lv_at hl 3 rfl) ?_
  refine sr_iast hx hb hw (xa_5 t ad) h dX2_addThroat_28 (fun M5 H locs h hw => ?_)
  refine lv_aload_n hx hb dX2_addThroat_29 rfl (lv_at hl 1 rfl) ?_
  refine lv_iload_n hx hb dX2_addThroat_30 rfl (lv_at hl 2 rfl) ?_
  refine lv_iload_n hx hb dX2_addThroat_31 rfl (lv_at hl 0 rfl) ?_
  obtain ⟨M6, hc, h⟩ := sr_bind1 h
  refine sr_cVv (As := [.int a1, .int v1]) (rest := []) ⟨hx, hb, hml, hown, hts⟩ (k2_listAt l D t ad a1 v1 M5 _ hc) (cwV 2 hts (sr_goodV qmX2_47 qiX2_listAt qsX2_listAt qnX2 qcX2_listAt) rfl rfl rfl qdX2_listAt ⟨Nat.le_of_ble_eq_true rfl, Nat.le_of_ble_eq_true rfl⟩) hw hA (xo_1 t ad) rfl hl.1 rfl (Nat.le_of_ble_eq_true rfl) dX2_addThroat_32 (fun H locs hw => ?_)
  refine lv_aload_n hx hb dX2_addThroat_35 rfl (lv_at hl 1 rfl) ?_
  refine lv_iload_n hx hb dX2_addThroat_36 rfl (lv_at hl 3 rfl) ?_
  refine lv_iload_n hx hb dX2_addThroat_37 rfl (lv_at hl 0 rfl) ?_
  obtain ⟨M7, hc, h⟩ := sr_bind1 h
  refine sr_cVv (As := [.int a2, .int v1]) (rest := []) ⟨hx, hb, hml, hown, hts⟩ (k2_listAt l D t ad a2 v1 M6 _ hc) (cwV 2 hts (sr_goodV qmX2_47 qiX2_listAt qsX2_listAt qnX2 qcX2_listAt) rfl rfl rfl qdX2_listAt ⟨Nat.le_of_ble_eq_true rfl, Nat.le_of_ble_eq_true rfl⟩) hw hA (xo_1 t ad) rfl hl.1 rfl (Nat.le_of_ble_eq_true rfl) dX2_addThroat_38 (fun H locs hw => ?_)
  refine lv_aload_n hx hb dX2_addThroat_41 rfl (lv_at hl 1 rfl) ?_
  refine lv_iload_n hx hb dX2_addThroat_42 rfl (lv_at hl 0 rfl) ?_
  obtain ⟨M8, hc, h⟩ := sr_bind1 h
  refine sr_cVv (As := [.int v1]) (rest := []) ⟨hx, hb, hml, hown, hts⟩ (k2_rankIn l D t ad v1 M7 _ hc) (cwV 1 hts (sr_goodV qmX2_51 qiX2_rankIn qsX2_rankIn qnX2 qcX2_rankIn) rfl rfl rfl qdX2_rankIn ⟨Nat.le_of_ble_eq_true rfl, Nat.le_of_ble_eq_true rfl⟩) hw hA (xo_1 t ad) rfl hl.1 rfl (Nat.le_of_ble_eq_true rfl) dX2_addThroat_43 (fun H locs hw => ?_)
  refine lv_iload_n hx hb dX2_addThroat_46 rfl (lv_at hl 0 rfl) ?_
  obtain ⟨rfl, rfl⟩ := Prod.mk.inj (Option.some.inj h)
  exact ret _ _ _ _ hw rfl dX2_addThroat_47

noncomputable def f2_rankOut_L17 (v5 : Int32) (M6 : sr_M) : Option ((Int32 × sr_M) ⊕ (sr_M)) :=
sr_bnd (M6.1 1 9) fun v7 =>
if v7 ≤ v5 then
(some (.inr M6))
else
(sr_ld (v5 + 1) 300 (M6.1 8) fun v8 =>
(f2_place v8 v5 M6).bind fun M9 =>
some (.inl ((v5 + 1), M9)))
noncomputable def f2_rankOut (a1 : Int32) (M : sr_M) : Option (sr_M) :=
sr_bnd (M.1 1 9) fun v1 =>
sr_put M 1 9 (v1 - 1) fun M2 =>
sr_ld a1 300 (M2.1 7) fun v3 =>
(sr_lp (fun z4 : Int32 × sr_M => f2_rankOut_L17 z4.1 z4.2) (v3, M2)).bind fun w4 =>
sr_st a1 300 w4 7 (-2) fun M11 =>
some M11
set_option maxHeartbeats 4000000 in
set_option maxRecDepth 100000 in
theorem k2_rankOut (l : Launch) (D : va_G) (t : Nat → ClassId) (ad : Nat → Nat) (a1 : Int32) (M : sr_M) (M' : sr_M) (h : f2_rankOut a1 M = some M') : sr_Mv l D vwCl (xty t) ad (xcf t ad) 62 yX2_rankOut (.code yX2_rankOut cX2_rankOut 3 (none) :: sr_tbl) ({ frames := 1, cells := 0, slots := 0, locals := 22 }) [.ref (ad 1), .int a1] M M' := by
  refine sr_open_v (cc := cX2_rankOut) (maxL := 3) (by decide) rfl (Nat.le_of_ble_eq_true rfl) ?_
  intro p e s m args below meth c A Q ls hx hb hml hts0 hown hA hw hl ret
  have hts : ∀ w ∈ sr_tbl, w.before args s = true := fun w hw => hts0 w (List.mem_cons_of_mem _ hw)
  have hown : s.vm.findClass RX2 = some m.cls := hown
  have hl : lv_has ls 3 [(0, .ref (ad 1)), (1, .int a1)] := hl
  have hw : xH D t ad A s M s.heap [] := hw
  unfold f2_rankOut at h
  refine lv_aload_n hx hb dX2_rankOut_0 rfl (lv_at hl 0 rfl) ?_
  refine lv_dup hx hb dX2_rankOut_1 rfl ?_
  refine sr_geti hx hb hts qzX2 hown hw (xf_1_9 t ad) (hts _ qfX2_62) h dX2_rankOut_2 (fun v1 h => ?_)
  refine lv_iconst (v := 1) hx hb dX2_rankOut_5 (by decide) ?_
  refine lv_isub hx hb dX2_rankOut_6 ?_
  refine sr_puti hx hb hts qzX2 tyX2 tyX2_ok nmX2 hown hw (xf_1_9 t ad) rfl rfl (hts _ qfX2_62) h dX2_rankOut_7 (fun M2 H locs h hw => ?_)
  refine lv_aload_n hx hb dX2_rankOut_10 rfl (lv_at hl 0 rfl) ?_
  refine sr_getr hx hb hts qzX2 hown hw (xf_1_7 t ad) (hts _ qfX2_28) dX2_rankOut_11 ?_
  refine lv_iload_n hx hb dX2_rankOut_14 rfl (lv_at hl 1 rfl) ?_
  refine sr_iald hx hb hw (xa_7 t ad) h dX2_rankOut_15 (fun v3 h => ?_)
  refine lv_istore_n (lv' := [(2, .int v3), (0, .ref (ad 1)), (1, .int a1)]) hx hb dX2_rankOut_16 rfl hl (by decide) rfl (fun ls hl => ?_)
  obtain ⟨x4, hlp, hE4⟩ := sr_bind h
  have hX4 : ∀ (M10 : sr_M), M10 = x4 → ∀ (H : Heap) (locs : List Loc) (ls : Array Slot), xH D t ad A s M10 H locs → lv_has ls 3 [(0, .ref (ad 1)), (1, .int a1)] → W p l e ({ frames := 1, cells := 0, slots := 0, locals := 22 }) s m args below meth c H locs 0 0 Q (F0 m 44 ls []) := by
    intro M10 ex H locs ls hw hl
    have h := hE4 _ ex
    try dsimp only at h
    refine lv_aload_n hx hb dX2_rankOut_44 rfl (lv_at hl 0 rfl) ?_
    refine sr_getr hx hb hts qzX2 hown hw (xf_1_7 t ad) (hts _ qfX2_28) dX2_rankOut_45 ?_
    refine lv_iload_n hx hb dX2_rankOut_48 rfl (lv_at hl 1 rfl) ?_
    refine lv_bipush (v := (-2)) hx hb dX2_rankOut_49 (by decide) ?_
    refine sr_iast hx hb hw (xa_7 t ad) h dX2_rankOut_51 (fun M11 H locs h hw => ?_)
    obtain rfl := Option.some.inj h
    exact ret _ _ _ _ hw dX2_rankOut_52
  refine sr_lp_rule (fun (z4 : Int32 × sr_M) => ∀ (H : Heap) (locs : List Loc) (ls : Array Slot), xH D t ad A s z4.2 H locs → lv_has ls 3 [(0, .ref (ad 1)), (1, .int a1), (2, .int z4.1)] → W p l e ({ frames := 1, cells := 0, slots := 0, locals := 22 }) s m args below meth c H locs 0 0 Q (F0 m 17 ls [])) ?_ hlp _ _ _ hw (lv_sub hl [1, 2, 0] rfl)
  rintro ⟨v5, M6⟩ y4 h hi4 he4 H locs ls hw hl
  have h : f2_rankOut_L17 v5 M6 = some y4 := h
  have hw : xH D t ad A s M6 H locs := hw
  have hl : lv_has ls 3 [(0, .ref (ad 1)), (1, .int a1), (2, .int v5)] := hl
  unfold f2_rankOut_L17 at h
  refine lv_iload_n hx hb dX2_rankOut_17 rfl (lv_at hl 2 rfl) ?_
  refine lv_aload_n hx hb dX2_rankOut_18 rfl (lv_at hl 0 rfl) ?_
  refine sr_geti hx hb hts qzX2 hown hw (xf_1_9 t ad) (hts _ qfX2_62) h dX2_rankOut_19 (fun v7 h => ?_)
  refine lv_icmp_ge (tgt := 44) hx hb dX2_rankOut_22 (by decide) (fun hc => ?_) (fun hc => ?_)
  · have h := sr_ifp h hc
    exact hX4  M6 (he4 _ (Option.some.inj h).symm) _ _ _ hw (lv_sub hl [0, 1] rfl)
  · have h := sr_ifn h hc
    refine lv_aload_n hx hb dX2_rankOut_25 rfl (lv_at hl 0 rfl) ?_
    refine lv_aload_n hx hb dX2_rankOut_26 rfl (lv_at hl 0 rfl) ?_
    refine sr_getr hx hb hts qzX2 hown hw (xf_1_8 t ad) (hts _ qfX2_31) dX2_rankOut_27 ?_
    refine lv_iload_n hx hb dX2_rankOut_30 rfl (lv_at hl 2 rfl) ?_
    refine lv_iconst (v := 1) hx hb dX2_rankOut_31 (by decide) ?_
    refine lv_iadd hx hb dX2_rankOut_32 ?_
    refine sr_iald hx hb hw (xa_8 t ad) h dX2_rankOut_33 (fun v8 h => ?_)
    refine lv_iload_n hx hb dX2_rankOut_34 rfl (lv_at hl 2 rfl) ?_
    obtain ⟨M9, hc, h⟩ := sr_bind1 h
    refine sr_cVv (As := [.int v8, .int v5]) (rest := []) ⟨hx, hb, hml, hown, hts⟩ (k2_place l D t ad v8 v5 M6 _ hc) (cwV 2 hts (sr_goodV qmX2_65 qiX2_place qsX2_place qnX2 qcX2_place) rfl rfl rfl qdX2_place ⟨Nat.le_of_ble_eq_true rfl, Nat.le_of_ble_eq_true rfl⟩) hw hA (xo_1 t ad) rfl hl.1 rfl (Nat.le_of_ble_eq_true rfl) dX2_rankOut_35 (fun H locs hw => ?_)
    refine lv_iinc (v := (v5 + 1)) (lv' := [(2, .int (v5 + 1)), (0, .ref (ad 1)), (1, .int a1)]) hx hb dX2_rankOut_38 hl (k := 2) rfl rfl (by decide) rfl (fun ls hl => ?_)
    refine lv_goto (tgt := 17) hx hb dX2_rankOut_41 (by decide) ?_
    exact hi4 ((v5 + 1), M9) (Option.some.inj h).symm _ _ _ hw (lv_sub hl [1, 2, 0] rfl)

noncomputable def f2_settle (a1 : Int32) (a2 : Int32) (a3 : Int32) (M : sr_M) : Option (sr_M) :=
(f2_isOpen a1 M).bind fun v1 =>
sr_jn (fun (M3 : sr_M) =>
sr_st a1 300 M3 6 a2 fun M4 =>
if a3 = 0 then
(some M4)
else
((f2_rankIn a1 M4).bind fun M5 =>
some M5)) fun (K2 : sr_M → Option (sr_M)) =>
if v1 = 0 then
(K2 M)
else
((f2_rankOut a1 M).bind fun M6 =>
K2 M6)
set_option maxHeartbeats 4000000 in
set_option maxRecDepth 100000 in
theorem k2_settle (l : Launch) (D : va_G) (t : Nat → ClassId) (ad : Nat → Nat) (a1 : Int32) (a2 : Int32) (a3 : Int32) (M : sr_M) (M' : sr_M) (h : f2_settle a1 a2 a3 M = some M') : sr_Mv l D vwCl (xty t) ad (xcf t ad) 62 yX2_settle (.code yX2_settle cX2_settle 4 (none) :: sr_tbl) ({ frames := 2, cells := 0, slots := 0, locals := 44 }) [.ref (ad 1), .int a1, .int a2, .int a3] M M' := by
  refine sr_open_v (cc := cX2_settle) (maxL := 4) (by decide) rfl (Nat.le_of_ble_eq_true rfl) ?_
  intro p e s m args below meth c A Q ls hx hb hml hts0 hown hA hw hl ret
  have hts : ∀ w ∈ sr_tbl, w.before args s = true := fun w hw => hts0 w (List.mem_cons_of_mem _ hw)
  have hown : s.vm.findClass RX2 = some m.cls := hown
  have hl : lv_has ls 4 [(0, .ref (ad 1)), (1, .int a1), (2, .int a2), (3, .int a3)] := hl
  have hw : xH D t ad A s M s.heap [] := hw
  unfold f2_settle at h
  refine lv_aload_n hx hb dX2_settle_0 rfl (lv_at hl 0 rfl) ?_
  refine lv_iload_n hx hb dX2_settle_1 rfl (lv_at hl 1 rfl) ?_
  obtain ⟨v1, hc, h⟩ := sr_bind1 h
  refine sr_cVi (As := [.int a1]) (rest := []) ⟨hx, hb, hml, hown, hts⟩ (k2_isOpen l D t ad a1 M _ hc) (cwV 1 hts (sr_goodV qmX2_55 qiX2_isOpen qsX2_isOpen qnX2 qcX2_isOpen) rfl rfl rfl qdX2_isOpen ⟨Nat.le_of_ble_eq_true rfl, Nat.le_of_ble_eq_true rfl⟩) hw hA (xo_1 t ad) rfl hl.1 rfl (Nat.le_of_ble_eq_true rfl) dX2_settle_2 (fun H locs hw => ?_)
  refine sr_jn_rule (fun (K2 : sr_M → Option (sr_M)) => ∀ (M3 : sr_M), K2 M3 = some M' → ∀ (H : Heap) (locs : List Loc) (ls : Array Slot), xH D t ad A s M3 H locs → lv_has ls 4 [(0, .ref (ad 1)), (1, .int a1), (2, .int a2), (3, .int a3)] → W p l e ({ frames := 2, cells := 0, slots := 0, locals := 44 }) s m args below meth c H locs 0 0 Q (F0 m 13 ls [])) h ?_ (fun K2 hK2 h => ?_)
  · intro M3 h H locs ls hw hl
    refine lv_aload_n hx hb dX2_settle_13 rfl (lv_at hl 0 rfl) ?_
    refine sr_getr hx hb hts qzX2 hown hw (xf_1_6 t ad) (hts _ qfX2_25) dX2_settle_14 ?_
    refine lv_iload_n hx hb dX2_settle_17 rfl (lv_at hl 1 rfl) ?_
    refine lv_iload_n hx hb dX2_settle_18 rfl (lv_at hl 2 rfl) ?_
    refine sr_iast hx hb hw (xa_6 t ad) h dX2_settle_19 (fun M4 H locs h hw => ?_)
    refine lv_iload_n hx hb dX2_settle_20 rfl (lv_at hl 3 rfl) ?_
    refine lv_if_eq (tgt := 29) hx hb dX2_settle_21 (by decide) (fun hc => ?_) (fun hc => ?_)
    · have h := sr_ifp h hc
      obtain rfl := Option.some.inj h
      exact ret _ _ _ _ hw dX2_settle_29
    · have h := sr_ifn h hc
      refine lv_aload_n hx hb dX2_settle_24 rfl (lv_at hl 0 rfl) ?_
      refine lv_iload_n hx hb dX2_settle_25 rfl (lv_at hl 1 rfl) ?_
      obtain ⟨M5, hc, h⟩ := sr_bind1 h
      refine sr_cVv (As := [.int a1]) (rest := []) ⟨hx, hb, hml, hown, hts⟩ (k2_rankIn l D t ad a1 M4 _ hc) (cwV 1 hts (sr_goodV qmX2_51 qiX2_rankIn qsX2_rankIn qnX2 qcX2_rankIn) rfl rfl rfl qdX2_rankIn ⟨Nat.le_of_ble_eq_true rfl, Nat.le_of_ble_eq_true rfl⟩) hw hA (xo_1 t ad) rfl hl.1 rfl (Nat.le_of_ble_eq_true rfl) dX2_settle_26 (fun H locs hw => ?_)
      obtain rfl := Option.some.inj h
      exact ret _ _ _ _ hw dX2_settle_29
  · refine lv_if_eq (tgt := 13) hx hb dX2_settle_5 (by decide) (fun hc => ?_) (fun hc => ?_)
    · have h := sr_ifp h hc
      exact hK2 M h _ _ _ hw (lv_sub hl [0, 1, 2, 3] rfl)
    · have h := sr_ifn h hc
      refine lv_aload_n hx hb dX2_settle_8 rfl (lv_at hl 0 rfl) ?_
      refine lv_iload_n hx hb dX2_settle_9 rfl (lv_at hl 1 rfl) ?_
      obtain ⟨M6, hc, h⟩ := sr_bind1 h
      refine sr_cVv (As := [.int a1]) (rest := []) ⟨hx, hb, hml, hown, hts⟩ (k2_rankOut l D t ad a1 M _ hc) (cwV 1 hts (sr_goodV qmX2_59 qiX2_rankOut qsX2_rankOut qnX2 qcX2_rankOut) rfl rfl rfl qdX2_rankOut ⟨Nat.le_of_ble_eq_true rfl, Nat.le_of_ble_eq_true rfl⟩) hw hA (xo_1 t ad) rfl hl.1 rfl (Nat.le_of_ble_eq_true rfl) dX2_settle_10 (fun H locs hw => ?_)
      exact hK2 M6 h _ _ _ hw (lv_sub hl [0, 1, 2, 3] rfl)

