noncomputable def f0_renew_L17 (o : Nat) (a2 : Int32) (v5 : Int32) (M6 : sr_M) : Option ((Int32 × sr_M) ⊕ (sr_M)) :=
if a2 ≤ v5 then
(some (.inr M6))
else
(sr_stJ v5 60 M6 (o + 1) 0 fun M7 =>
sr_stB v5 60 M7 (o + 2) 0 fun M8 =>
some (.inl ((v5 + 1), M8)))
noncomputable def f0_renew (o : Nat) (a1 : Int32) (a2 : Int32) (M : sr_M) : Option (sr_M) :=
sr_putB M o 0 1 fun M1 =>
sr_put M1 o 1 a1 fun M2 =>
sr_put M2 o 2 a2 fun M3 =>
(sr_lp (fun z4 : Int32 × sr_M => f0_renew_L17 o a2 z4.1 z4.2) (0, M3)).bind fun w4 =>
some w4
set_option maxHeartbeats 4000000 in
set_option maxRecDepth 100000 in
theorem k0_renew (l : Launch) (D : va_G) (t : Nat → ClassId) (ad : Nat → Nat) (o : Nat) (ho : xoC o) (a1 : Int32) (a2 : Int32) (M : sr_M) (M' : sr_M) (h : f0_renew o a1 a2 M = some M') : sr_Mv l D vwCl (xty t) ad (xcf t ad) 62 yX0_renew (.code yX0_renew cX0_renew 4 (none) :: sr_tbl) ({ frames := 0, cells := 0, slots := 0, locals := 0 }) [.ref (ad o), .int a1, .int a2] M M' := by
  refine sr_open_v (cc := cX0_renew) (maxL := 4) (by decide) rfl (Nat.le_of_ble_eq_true rfl) ?_
  intro p e s m args below meth c A Q ls hx hb hml hts0 hown hA hw hl ret
  have hts : ∀ w ∈ sr_tbl, w.before args s = true := fun w hw => hts0 w (List.mem_cons_of_mem _ hw)
  have hown : s.vm.findClass RX0 = some m.cls := hown
  have hl : lv_has ls 4 [(0, .ref (ad o)), (1, .int a1), (2, .int a2)] := hl
  have hw : xH D t ad A s M s.heap [] := hw
  unfold f0_renew at h
  refine lv_aload_n hx hb dX0_renew_0 rfl (lv_at hl 0 rfl) ?_
  refine lv_iconst (v := 1) hx hb dX0_renew_1 (by decide) ?_
  refine sr_putz hx hb hts qzX0 tyX0 tyX0_ok nmX0 hown hw (xfC_0 t ad ho) rfl rfl (hts _ qfX0_19) h dX0_renew_2 (fun M1 H locs h hw => ?_)
  refine lv_aload_n hx hb dX0_renew_5 rfl (lv_at hl 0 rfl) ?_
  refine lv_iload_n hx hb dX0_renew_6 rfl (lv_at hl 1 rfl) ?_
  refine sr_puti hx hb hts qzX0 tyX0 tyX0_ok nmX0 hown hw (xfC_1 t ad ho) rfl rfl (hts _ qfX0_23) h dX0_renew_7 (fun M2 H locs h hw => ?_)
  refine lv_aload_n hx hb dX0_renew_10 rfl (lv_at hl 0 rfl) ?_
  refine lv_iload_n hx hb dX0_renew_11 rfl (lv_at hl 2 rfl) ?_
  refine sr_puti hx hb hts qzX0 tyX0 tyX0_ok nmX0 hown hw (xfC_2 t ad ho) rfl rfl (hts _ qfX0_27) h dX0_renew_12 (fun M3 H locs h hw => ?_)
  refine lv_iconst (v := 0) hx hb dX0_renew_15 (by decide) ?_
  refine lv_istore_n (lv' := [(3, .int 0), (0, .ref (ad o)), (1, .int a1), (2, .int a2)]) hx hb dX0_renew_16 rfl hl (by decide) rfl (fun ls hl => ?_)
  obtain ⟨x4, hlp, hE4⟩ := sr_bind h
  have hX4 : ∀ (M9 : sr_M), M9 = x4 → ∀ (H : Heap) (locs : List Loc) (ls : Array Slot), xH D t ad A s M9 H locs → lv_has ls 4 [] → W p l e ({ frames := 0, cells := 0, slots := 0, locals := 0 }) s m args below meth c H locs 0 0 Q (F0 m 42 ls []) := by
    intro M9 ex H locs ls hw hl
    have h := hE4 _ ex
    try dsimp only at h
    obtain rfl := Option.some.inj h
    exact ret _ _ _ _ hw dX0_renew_42
  refine sr_lp_rule (fun (z4 : Int32 × sr_M) => ∀ (H : Heap) (locs : List Loc) (ls : Array Slot), xH D t ad A s z4.2 H locs → lv_has ls 4 [(0, .ref (ad o)), (2, .int a2), (3, .int z4.1)] → W p l e ({ frames := 0, cells := 0, slots := 0, locals := 0 }) s m args below meth c H locs 0 0 Q (F0 m 17 ls [])) ?_ hlp _ _ _ hw (lv_sub hl [1, 3, 0] rfl)
  rintro ⟨v5, M6⟩ y4 h hi4 he4 H locs ls hw hl
  have h : f0_renew_L17 o a2 v5 M6 = some y4 := h
  have hw : xH D t ad A s M6 H locs := hw
  have hl : lv_has ls 4 [(0, .ref (ad o)), (2, .int a2), (3, .int v5)] := hl
  unfold f0_renew_L17 at h
  refine lv_iload_n hx hb dX0_renew_17 rfl (lv_at hl 2 rfl) ?_
  refine lv_iload_n hx hb dX0_renew_18 rfl (lv_at hl 1 rfl) ?_
  refine lv_icmp_ge (tgt := 42) hx hb dX0_renew_19 (by decide) (fun hc => ?_) (fun hc => ?_)
  · have h := sr_ifp h hc
    exact hX4  M6 (he4 _ (Option.some.inj h).symm) _ _ _ hw (lv_sub hl [] rfl)
  · have h := sr_ifn h hc
    refine lv_aload_n hx hb dX0_renew_22 rfl (lv_at hl 0 rfl) ?_
    refine sr_getr hx hb hts qzX0 hown hw (xfC_3 t ad ho) (hts _ qfX0_9) dX0_renew_23 ?_
    refine lv_iload_n hx hb dX0_renew_26 rfl (lv_at hl 2 rfl) ?_
    refine lv_lconst (v := 0) hx hb dX0_renew_27 (by decide) ?_
    refine sr_last hx hb hw (xaC_1 t ad ho) h dX0_renew_28 (fun M7 H locs h hw => ?_)
    refine lv_aload_n hx hb dX0_renew_29 rfl (lv_at hl 0 rfl) ?_
    refine sr_getr hx hb hts qzX0 hown hw (xfC_4 t ad ho) (hts _ qfX0_15) dX0_renew_30 ?_
    refine lv_iload_n hx hb dX0_renew_33 rfl (lv_at hl 2 rfl) ?_
    refine lv_iconst (v := 0) hx hb dX0_renew_34 (by decide) ?_
    refine sr_bast hx hb hw (xaC_2 t ad ho) h dX0_renew_35 (fun M8 H locs h hw => ?_)
    refine lv_iinc (v := (v5 + 1)) (lv' := [(3, .int (v5 + 1)), (0, .ref (ad o)), (2, .int a2)]) hx hb dX0_renew_36 hl (k := 2) rfl rfl (by decide) rfl (fun ls hl => ?_)
    refine lv_goto (tgt := 17) hx hb dX0_renew_39 (by decide) ?_
    exact hi4 ((v5 + 1), M8) (Option.some.inj h).symm _ _ _ hw (lv_sub hl [1, 2, 0] rfl)

noncomputable def f0_hasNumber (o : Nat) (a1 : Int32) (M : sr_M) : Option (Int32) :=
if a1 < 0 then
(some 0)
else
(sr_bnd (M.1 o 2) fun v1 =>
if v1 ≤ a1 then
(some 0)
else
(some 1))
set_option maxHeartbeats 4000000 in
set_option maxRecDepth 100000 in
theorem k0_hasNumber (l : Launch) (D : va_G) (t : Nat → ClassId) (ad : Nat → Nat) (o : Nat) (ho : xoC o) (a1 : Int32) (M : sr_M) (r : Int32) (h : f0_hasNumber o a1 M = some r) : sr_Mi l D vwCl (xty t) ad (xcf t ad) 62 yX0_hasNumber (.code yX0_hasNumber cX0_hasNumber 2 (some .boolean) :: sr_tbl) ({ frames := 0, cells := 0, slots := 0, locals := 0 }) [.ref (ad o), .int a1] M r M := by
  refine sr_open_i (cc := cX0_hasNumber) (maxL := 2) (by decide) rfl (Nat.le_of_ble_eq_true rfl) ?_
  intro p e s m args below meth c A Q ls hx hb hml hts0 hown hA hw hl ret
  have hts : ∀ w ∈ sr_tbl, w.before args s = true := fun w hw => hts0 w (List.mem_cons_of_mem _ hw)
  have hown : s.vm.findClass RX0 = some m.cls := hown
  have hl : lv_has ls 2 [(0, .ref (ad o)), (1, .int a1)] := hl
  have hw : xH D t ad A s M s.heap [] := hw
  unfold f0_hasNumber at h
  refine lv_iload_n hx hb dX0_hasNumber_0 rfl (lv_at hl 1 rfl) ?_
  refine lv_if_lt (tgt := 16) hx hb dX0_hasNumber_1 (by decide) (fun hc => ?_) (fun hc => ?_)
  · have h := sr_ifp h hc
    refine lv_iconst (v := 0) hx hb dX0_hasNumber_16 (by decide) ?_
    obtain rfl := Option.some.inj h
    exact ret _ _ _ _ hw rfl dX0_hasNumber_17
  · have h := sr_ifn h hc
    refine lv_iload_n hx hb dX0_hasNumber_4 rfl (lv_at hl 1 rfl) ?_
    refine lv_aload_n hx hb dX0_hasNumber_5 rfl (lv_at hl 0 rfl) ?_
    refine sr_geti hx hb hts qzX0 hown hw (xfC_2 t ad ho) (hts _ qfX0_27) h dX0_hasNumber_6 (fun v1 h => ?_)
    refine lv_icmp_ge (tgt := 16) hx hb dX0_hasNumber_9 (by decide) (fun hc => ?_) (fun hc => ?_)
    · have h := sr_ifp h hc
      refine lv_iconst (v := 0) hx hb dX0_hasNumber_16 (by decide) ?_
      obtain rfl := Option.some.inj h
      exact ret _ _ _ _ hw rfl dX0_hasNumber_17
    · have h := sr_ifn h hc
      refine lv_iconst (v := 1) hx hb dX0_hasNumber_12 (by decide) ?_
      refine lv_goto (tgt := 17) hx hb dX0_hasNumber_13 (by decide) ?_
      obtain rfl := Option.some.inj h
      exact ret _ _ _ _ hw rfl dX0_hasNumber_17

noncomputable def f0_isNoNumber (o : Nat) (a1 : Int32) (M : sr_M) : Option (Int32) :=
sr_ld a1 60 (M.1 (o + 2)) fun v1 =>
if v1 = 0 then
(some 0)
else
(some 1)
set_option maxHeartbeats 4000000 in
set_option maxRecDepth 100000 in
theorem k0_isNoNumber (l : Launch) (D : va_G) (t : Nat → ClassId) (ad : Nat → Nat) (o : Nat) (ho : xoC o) (a1 : Int32) (M : sr_M) (r : Int32) (h : f0_isNoNumber o a1 M = some r) : sr_Mi l D vwCl (xty t) ad (xcf t ad) 62 yX0_isNoNumber (.code yX0_isNoNumber cX0_isNoNumber 2 (some .boolean) :: sr_tbl) ({ frames := 0, cells := 0, slots := 0, locals := 0 }) [.ref (ad o), .int a1] M r M := by
  refine sr_open_i (cc := cX0_isNoNumber) (maxL := 2) (by decide) rfl (Nat.le_of_ble_eq_true rfl) ?_
  intro p e s m args below meth c A Q ls hx hb hml hts0 hown hA hw hl ret
  have hts : ∀ w ∈ sr_tbl, w.before args s = true := fun w hw => hts0 w (List.mem_cons_of_mem _ hw)
  have hown : s.vm.findClass RX0 = some m.cls := hown
  have hl : lv_has ls 2 [(0, .ref (ad o)), (1, .int a1)] := hl
  have hw : xH D t ad A s M s.heap [] := hw
  unfold f0_isNoNumber at h
  refine lv_aload_n hx hb dX0_isNoNumber_0 rfl (lv_at hl 0 rfl) ?_
  refine sr_getr hx hb hts qzX0 hown hw (xfC_4 t ad ho) (hts _ qfX0_15) dX0_isNoNumber_1 ?_
  refine lv_iload_n hx hb dX0_isNoNumber_4 rfl (lv_at hl 1 rfl) ?_
  refine sr_bald hx hb hw (xaC_2 t ad ho) h dX0_isNoNumber_5 (fun v1 h => ?_)
  refine lv_if_eq (tgt := 13) hx hb dX0_isNoNumber_6 (by decide) (fun hc => ?_) (fun hc => ?_)
  · have h := sr_ifp h hc
    refine lv_iconst (v := 0) hx hb dX0_isNoNumber_13 (by decide) ?_
    obtain rfl := Option.some.inj h
    exact ret _ _ _ _ hw rfl dX0_isNoNumber_14
  · have h := sr_ifn h hc
    refine lv_iconst (v := 1) hx hb dX0_isNoNumber_9 (by decide) ?_
    refine lv_goto (tgt := 14) hx hb dX0_isNoNumber_10 (by decide) ?_
    obtain rfl := Option.some.inj h
    exact ret _ _ _ _ hw rfl dX0_isNoNumber_14

noncomputable def f0_spans (o : Nat) (a1 : Int32) (a2 : Int32) (M : sr_M) : Option (Int32) :=
if a2 < 0 then
(some 0)
else
(if a1 < 0 then
(some 0)
else
(sr_bnd (M.1 o 2) fun v1 =>
if v1 < a1 then
(some 0)
else
(sr_bnd (M.1 o 2) fun v2 =>
if (v2 - a1) < a2 then
(some 0)
else
(some 1))))
set_option maxHeartbeats 4000000 in
set_option maxRecDepth 100000 in
theorem k0_spans (l : Launch) (D : va_G) (t : Nat → ClassId) (ad : Nat → Nat) (o : Nat) (ho : xoC o) (a1 : Int32) (a2 : Int32) (M : sr_M) (r : Int32) (h : f0_spans o a1 a2 M = some r) : sr_Mi l D vwCl (xty t) ad (xcf t ad) 62 yX0_spans (.code yX0_spans cX0_spans 3 (some .boolean) :: sr_tbl) ({ frames := 0, cells := 0, slots := 0, locals := 0 }) [.ref (ad o), .int a1, .int a2] M r M := by
  refine sr_open_i (cc := cX0_spans) (maxL := 3) (by decide) rfl (Nat.le_of_ble_eq_true rfl) ?_
  intro p e s m args below meth c A Q ls hx hb hml hts0 hown hA hw hl ret
  have hts : ∀ w ∈ sr_tbl, w.before args s = true := fun w hw => hts0 w (List.mem_cons_of_mem _ hw)
  have hown : s.vm.findClass RX0 = some m.cls := hown
  have hl : lv_has ls 3 [(0, .ref (ad o)), (1, .int a1), (2, .int a2)] := hl
  have hw : xH D t ad A s M s.heap [] := hw
  unfold f0_spans at h
  refine lv_iload_n hx hb dX0_spans_0 rfl (lv_at hl 2 rfl) ?_
  refine lv_if_lt (tgt := 30) hx hb dX0_spans_1 (by decide) (fun hc => ?_) (fun hc => ?_)
  · have h := sr_ifp h hc
    refine lv_iconst (v := 0) hx hb dX0_spans_30 (by decide) ?_
    obtain rfl := Option.some.inj h
    exact ret _ _ _ _ hw rfl dX0_spans_31
  · have h := sr_ifn h hc
    refine lv_iload_n hx hb dX0_spans_4 rfl (lv_at hl 1 rfl) ?_
    refine lv_if_lt (tgt := 30) hx hb dX0_spans_5 (by decide) (fun hc => ?_) (fun hc => ?_)
    · have h := sr_ifp h hc
      refine lv_iconst (v := 0) hx hb dX0_spans_30 (by decide) ?_
      obtain rfl := Option.some.inj h
      exact ret _ _ _ _ hw rfl dX0_spans_31
    · have h := sr_ifn h hc
      refine lv_iload_n hx hb dX0_spans_8 rfl (lv_at hl 1 rfl) ?_
      refine lv_aload_n hx hb dX0_spans_9 rfl (lv_at hl 0 rfl) ?_
      refine sr_geti hx hb hts qzX0 hown hw (xfC_2 t ad ho) (hts _ qfX0_27) h dX0_spans_10 (fun v1 h => ?_)
      refine lv_icmp_gt (tgt := 30) hx hb dX0_spans_13 (by decide) (fun hc => ?_) (fun hc => ?_)
      · have h := sr_ifp h hc
        refine lv_iconst (v := 0) hx hb dX0_spans_30 (by decide) ?_
        obtain rfl := Option.some.inj h
        exact ret _ _ _ _ hw rfl dX0_spans_31
      · have h := sr_ifn h hc
        refine lv_iload_n hx hb dX0_spans_16 rfl (lv_at hl 2 rfl) ?_
        refine lv_aload_n hx hb dX0_spans_17 rfl (lv_at hl 0 rfl) ?_
        refine sr_geti hx hb hts qzX0 hown hw (xfC_2 t ad ho) (hts _ qfX0_27) h dX0_spans_18 (fun v2 h => ?_)
        refine lv_iload_n hx hb dX0_spans_21 rfl (lv_at hl 1 rfl) ?_
        refine lv_isub hx hb dX0_spans_22 ?_
        refine lv_icmp_gt (tgt := 30) hx hb dX0_spans_23 (by decide) (fun hc => ?_) (fun hc => ?_)
        · have h := sr_ifp h hc
          refine lv_iconst (v := 0) hx hb dX0_spans_30 (by decide) ?_
          obtain rfl := Option.some.inj h
          exact ret _ _ _ _ hw rfl dX0_spans_31
        · have h := sr_ifn h hc
          refine lv_iconst (v := 1) hx hb dX0_spans_26 (by decide) ?_
          refine lv_goto (tgt := 31) hx hb dX0_spans_27 (by decide) ?_
          obtain rfl := Option.some.inj h
          exact ret _ _ _ _ hw rfl dX0_spans_31

noncomputable def f0_wholeOf (o : Nat) (a1 : Int64) (a2 : Int32) (M : sr_M) : Option (Int64) :=
sr_bnd (M.1 o 1) fun v1 =>
(if v1 = 0 then
(some a1.toInt32.toInt8.toInt32.toInt64)
else
(if v1 = 1 then
(some a1.toInt32.toInt16.toInt32.toInt64)
else
(if v1 = 2 then
(some a1.toInt32.toInt64)
else
(if v1 = 3 then
(some a1)
else
(if v1 = 4 then
(sr_grd (vf_n32 (FP.fdiv (FP.l2f a1) (FP.i2f a2))) <|
some (FP.f2l (FP.fdiv (FP.l2f a1) (FP.i2f a2))))
else
(if v1 = 5 then
(sr_grd (vf_n64 (FP.ddiv (FP.l2d a1) (FP.i2d a2))) <|
some (FP.d2l (FP.ddiv (FP.l2d a1) (FP.i2d a2))))
else
(some a1)))))))
set_option maxHeartbeats 4000000 in
set_option maxRecDepth 100000 in
theorem k0_wholeOf (l : Launch) (D : va_G) (t : Nat → ClassId) (ad : Nat → Nat) (o : Nat) (ho : xoC o) (a1 : Int64) (a2 : Int32) (M : sr_M) (r : Int64) (h : f0_wholeOf o a1 a2 M = some r) : sr_Ml l D vwCl (xty t) ad (xcf t ad) 62 yX0_wholeOf (.code yX0_wholeOf cX0_wholeOf 4 (some .long) :: sr_tbl) ({ frames := 0, cells := 0, slots := 0, locals := 0 }) [.ref (ad o), .long a1, .int a2] M r M := by
  refine sr_open_l (cc := cX0_wholeOf) (maxL := 4) (by decide) rfl (Nat.le_of_ble_eq_true rfl) ?_
  intro p e s m args below meth c A Q ls hx hb hml hts0 hown hA hw hl ret
  have hts : ∀ w ∈ sr_tbl, w.before args s = true := fun w hw => hts0 w (List.mem_cons_of_mem _ hw)
  have hown : s.vm.findClass RX0 = some m.cls := hown
  have hl : lv_has ls 4 [(0, .ref (ad o)), (1, .long a1), (3, .int a2)] := hl
  have hw : xH D t ad A s M s.heap [] := hw
  unfold f0_wholeOf at h
  refine lv_aload_n hx hb dX0_wholeOf_0 rfl (lv_at hl 0 rfl) ?_
  refine sr_geti hx hb hts qzX0 hown hw (xfC_1 t ad ho) (hts _ qfX0_23) h dX0_wholeOf_1 (fun v1 h => ?_)
  rcases Classical.em (v1 = 0) with hc0 | hc0
  · have h := sr_ifp h hc0
    have ex := hc0
    refine lv_tableIn (off := 40) (tgt := 44) hx hb dX0_wholeOf_4 (by rw [ex]; decide) (by rw [ex]; decide) (by rw [ex]; decide) (by decide) ?_
    refine lv_lload_n hx hb dX0_wholeOf_44 rfl (lv_at hl 1 rfl) ?_
    refine lv_l2i (v := a1.toInt32) hx hb dX0_wholeOf_45 rfl ?_
    refine lv_i2b (v := a1.toInt32.toInt8.toInt32) hx hb dX0_wholeOf_46 rfl ?_
    refine lv_i2l (v := a1.toInt32.toInt8.toInt32.toInt64) hx hb dX0_wholeOf_47 rfl ?_
    obtain rfl := Option.some.inj h
    exact ret _ _ _ _ hw dX0_wholeOf_48
  · have h := sr_ifn h hc0
    rcases Classical.em (v1 = 1) with hc1 | hc1
    · have h := sr_ifp h hc1
      have ex := hc1
      refine lv_tableIn (off := 45) (tgt := 49) hx hb dX0_wholeOf_4 (by rw [ex]; decide) (by rw [ex]; decide) (by rw [ex]; decide) (by decide) ?_
      refine lv_lload_n hx hb dX0_wholeOf_49 rfl (lv_at hl 1 rfl) ?_
      refine lv_l2i (v := a1.toInt32) hx hb dX0_wholeOf_50 rfl ?_
      refine lv_i2s (v := a1.toInt32.toInt16.toInt32) hx hb dX0_wholeOf_51 rfl ?_
      refine lv_i2l (v := a1.toInt32.toInt16.toInt32.toInt64) hx hb dX0_wholeOf_52 rfl ?_
      obtain rfl := Option.some.inj h
      exact ret _ _ _ _ hw dX0_wholeOf_53
    · have h := sr_ifn h hc1
      rcases Classical.em (v1 = 2) with hc2 | hc2
      · have h := sr_ifp h hc2
        have ex := hc2
        refine lv_tableIn (off := 50) (tgt := 54) hx hb dX0_wholeOf_4 (by rw [ex]; decide) (by rw [ex]; decide) (by rw [ex]; decide) (by decide) ?_
        refine lv_lload_n hx hb dX0_wholeOf_54 rfl (lv_at hl 1 rfl) ?_
        refine lv_l2i (v := a1.toInt32) hx hb dX0_wholeOf_55 rfl ?_
        refine lv_i2l (v := a1.toInt32.toInt64) hx hb dX0_wholeOf_56 rfl ?_
        obtain rfl := Option.some.inj h
        exact ret _ _ _ _ hw dX0_wholeOf_57
      · have h := sr_ifn h hc2
        rcases Classical.em (v1 = 3) with hc3 | hc3
        · have h := sr_ifp h hc3
          have ex := hc3
          refine lv_tableIn (off := 68) (tgt := 72) hx hb dX0_wholeOf_4 (by rw [ex]; decide) (by rw [ex]; decide) (by rw [ex]; decide) (by decide) ?_
          refine lv_lload_n hx hb dX0_wholeOf_72 rfl (lv_at hl 1 rfl) ?_
          obtain rfl := Option.some.inj h
          exact ret _ _ _ _ hw dX0_wholeOf_73
        · have h := sr_ifn h hc3
          rcases Classical.em (v1 = 4) with hc4 | hc4
          · have h := sr_ifp h hc4
            have ex := hc4
            refine lv_tableIn (off := 54) (tgt := 58) hx hb dX0_wholeOf_4 (by rw [ex]; decide) (by rw [ex]; decide) (by rw [ex]; decide) (by decide) ?_
            refine lv_lload_n hx hb dX0_wholeOf_58 rfl (lv_at hl 1 rfl) ?_
            refine lv_l2f hx hb dX0_wholeOf_59 ?_
            refine lv_iload_n hx hb dX0_wholeOf_60 rfl (lv_at hl 2 rfl) ?_
            refine lv_i2f hx hb dX0_wholeOf_61 ?_
            obtain ⟨hne, h⟩ := sr_grd_some h
            refine lv_fdiv hx hb dX0_wholeOf_62 hne ?_
            refine lv_f2l hx hb dX0_wholeOf_63 ?_
            obtain rfl := Option.some.inj h
            exact ret _ _ _ _ hw dX0_wholeOf_64
          · have h := sr_ifn h hc4
            rcases Classical.em (v1 = 5) with hc5 | hc5
            · have h := sr_ifp h hc5
              have ex := hc5
              refine lv_tableIn (off := 61) (tgt := 65) hx hb dX0_wholeOf_4 (by rw [ex]; decide) (by rw [ex]; decide) (by rw [ex]; decide) (by decide) ?_
              refine lv_lload_n hx hb dX0_wholeOf_65 rfl (lv_at hl 1 rfl) ?_
              refine lv_l2d hx hb dX0_wholeOf_66 ?_
              refine lv_iload_n hx hb dX0_wholeOf_67 rfl (lv_at hl 2 rfl) ?_
              refine lv_i2d hx hb dX0_wholeOf_68 ?_
              obtain ⟨hne, h⟩ := sr_grd_some h
              refine lv_ddiv hx hb dX0_wholeOf_69 hne ?_
              refine lv_d2l hx hb dX0_wholeOf_70 ?_
              obtain rfl := Option.some.inj h
              exact ret _ _ _ _ hw dX0_wholeOf_71
            · have h := sr_ifn h hc5
              refine lv_tableOut (tgt := 72) hx hb dX0_wholeOf_4 (sr_tout0_5 hc0 hc1 hc2 hc3 hc4 hc5) (by decide) ?_
              refine lv_lload_n hx hb dX0_wholeOf_72 rfl (lv_at hl 1 rfl) ?_
              obtain rfl := Option.some.inj h
              exact ret _ _ _ _ hw dX0_wholeOf_73

noncomputable def f0_put (o : Nat) (a1 : Int32) (a2 : Int64) (a3 : Int32) (M : sr_M) : Option (sr_M) :=
(f0_wholeOf o a2 ((1 : Int32) <<< (a3 &&& 31)) M).bind fun v1 =>
sr_stJ a1 60 M (o + 1) v1 fun M2 =>
sr_stB a1 60 M2 (o + 2) 0 fun M3 =>
some M3
set_option maxHeartbeats 4000000 in
set_option maxRecDepth 100000 in
theorem k0_put (l : Launch) (D : va_G) (t : Nat → ClassId) (ad : Nat → Nat) (o : Nat) (ho : xoC o) (a1 : Int32) (a2 : Int64) (a3 : Int32) (M : sr_M) (M' : sr_M) (h : f0_put o a1 a2 a3 M = some M') : sr_Mv l D vwCl (xty t) ad (xcf t ad) 62 yX0_put (.code yX0_put cX0_put 5 (none) :: sr_tbl) ({ frames := 1, cells := 0, slots := 0, locals := 23 }) [.ref (ad o), .int a1, .long a2, .int a3] M M' := by
  refine sr_open_v (cc := cX0_put) (maxL := 5) (by decide) rfl (Nat.le_of_ble_eq_true rfl) ?_
  intro p e s m args below meth c A Q ls hx hb hml hts0 hown hA hw hl ret
  have hts : ∀ w ∈ sr_tbl, w.before args s = true := fun w hw => hts0 w (List.mem_cons_of_mem _ hw)
  have hown : s.vm.findClass RX0 = some m.cls := hown
  have hl : lv_has ls 5 [(0, .ref (ad o)), (1, .int a1), (2, .long a2), (4, .int a3)] := hl
  have hw : xH D t ad A s M s.heap [] := hw
  unfold f0_put at h
  refine lv_aload_n hx hb dX0_put_0 rfl (lv_at hl 0 rfl) ?_
  refine sr_getr hx hb hts qzX0 hown hw (xfC_3 t ad ho) (hts _ qfX0_9) dX0_put_1 ?_
  refine lv_iload_n hx hb dX0_put_4 rfl (lv_at hl 1 rfl) ?_
  refine lv_aload_n hx hb dX0_put_5 rfl (lv_at hl 0 rfl) ?_
  refine lv_lload_n hx hb dX0_put_6 rfl (lv_at hl 2 rfl) ?_
  refine lv_iconst (v := 1) hx hb dX0_put_7 (by decide) ?_
  refine lv_iload hx hb dX0_put_8 (lv_at hl 3 rfl) ?_
  refine lv_ishl hx hb dX0_put_10 ?_
  obtain ⟨v1, hc, h⟩ := sr_bind1 h
  refine sr_cVl (As := [.long a2, .int ((1 : Int32) <<< (a3 &&& 31))]) (rest := [.int a1, .ref (ad (o + 1))]) ⟨hx, hb, hml, hown, hts⟩ (k0_wholeOf l D t ad o ho a2 ((1 : Int32) <<< (a3 &&& 31)) M _ hc) (cwV 2 hts (sr_goodV qmX0_30 qiX0_wholeOf qsX0_wholeOf qnX0 qcX0_wholeOf) rfl rfl rfl qdX0_wholeOf ⟨Nat.le_of_ble_eq_true rfl, Nat.le_of_ble_eq_true rfl⟩) hw hA (xobC t ad ho) rfl hl.1 rfl (Nat.le_of_ble_eq_true rfl) dX0_put_11 (fun H locs hw => ?_)
  refine sr_last hx hb hw (xaC_1 t ad ho) h dX0_put_14 (fun M2 H locs h hw => ?_)
  refine lv_aload_n hx hb dX0_put_15 rfl (lv_at hl 0 rfl) ?_
  refine sr_getr hx hb hts qzX0 hown hw (xfC_4 t ad ho) (hts _ qfX0_15) dX0_put_16 ?_
  refine lv_iload_n hx hb dX0_put_19 rfl (lv_at hl 1 rfl) ?_
  refine lv_iconst (v := 0) hx hb dX0_put_20 (by decide) ?_
  refine sr_bast hx hb hw (xaC_2 t ad ho) h dX0_put_21 (fun M3 H locs h hw => ?_)
  obtain rfl := Option.some.inj h
  exact ret _ _ _ _ hw dX0_put_22

noncomputable def f0_putWild (o : Nat) (a1 : Int32) (a2 : Int32) (M : sr_M) : Option (sr_M) :=
sr_jn (fun (v2 : Int32) =>
sr_stB a1 60 M (o + 2) v2.toInt8.toInt32 fun M3 =>
sr_jn (fun (v5 : Int64) =>
sr_stJ a1 60 M3 (o + 1) v5 fun M6 =>
some M6) fun (K4 : Int64 → Option (sr_M)) =>
if a2 = 1 then
(K4 9223372036854775807)
else
(if a2 = 2 then
(K4 (-9223372036854775808))
else
(K4 0))) fun (K1 : Int32 → Option (sr_M)) =>
if a2 = 0 then
(K1 1)
else
(K1 0)
set_option maxHeartbeats 4000000 in
set_option maxRecDepth 100000 in
theorem k0_putWild (l : Launch) (D : va_G) (t : Nat → ClassId) (ad : Nat → Nat) (o : Nat) (ho : xoC o) (a1 : Int32) (a2 : Int32) (M : sr_M) (M' : sr_M) (h : f0_putWild o a1 a2 M = some M') : sr_Mv l D vwCl (xty t) ad (xcf t ad) 62 yX0_putWild (.code yX0_putWild cX0_putWild 3 (none) :: sr_tbl) ({ frames := 0, cells := 0, slots := 0, locals := 0 }) [.ref (ad o), .int a1, .int a2] M M' := by
  refine sr_open_v (cc := cX0_putWild) (maxL := 3) (by decide) rfl (Nat.le_of_ble_eq_true rfl) ?_
  intro p e s m args below meth c A Q ls hx hb hml hts0 hown hA hw hl ret
  have hts : ∀ w ∈ sr_tbl, w.before args s = true := fun w hw => hts0 w (List.mem_cons_of_mem _ hw)
  have hown : s.vm.findClass RX0 = some m.cls := hown
  have hl : lv_has ls 3 [(0, .ref (ad o)), (1, .int a1), (2, .int a2)] := hl
  have hw : xH D t ad A s M s.heap [] := hw
  unfold f0_putWild at h
  refine lv_aload_n hx hb dX0_putWild_0 rfl (lv_at hl 0 rfl) ?_
  refine sr_getr hx hb hts qzX0 hown hw (xfC_4 t ad ho) (hts _ qfX0_15) dX0_putWild_1 ?_
  refine lv_iload_n hx hb dX0_putWild_4 rfl (lv_at hl 1 rfl) ?_
  refine lv_iload_n hx hb dX0_putWild_5 rfl (lv_at hl 2 rfl) ?_
  refine sr_jn_rule (fun (K1 : Int32 → Option (sr_M)) => ∀ (v2 : Int32), K1 v2 = some M' → ∀ (H : Heap) (locs : List Loc) (ls : Array Slot), xH D t ad A s M H locs → lv_has ls 3 [(0, .ref (ad o)), (1, .int a1), (2, .int a2)] → W p l e ({ frames := 0, cells := 0, slots := 0, locals := 0 }) s m args below meth c H locs 0 0 Q (F0 m 14 ls [.int v2, .int a1, .ref (ad (o + 2))])) h ?_ (fun K1 hK1 h => ?_)
  · intro v2 h H locs ls hw hl
    refine lv_i2b (v := v2.toInt8.toInt32) hx hb dX0_putWild_14 rfl ?_
    refine sr_bast hx hb hw (xaC_2 t ad ho) h dX0_putWild_15 (fun M3 H locs h hw => ?_)
    refine lv_aload_n hx hb dX0_putWild_16 rfl (lv_at hl 0 rfl) ?_
    refine sr_getr hx hb hts qzX0 hown hw (xfC_3 t ad ho) (hts _ qfX0_9) dX0_putWild_17 ?_
    refine lv_iload_n hx hb dX0_putWild_20 rfl (lv_at hl 1 rfl) ?_
    refine lv_iload_n hx hb dX0_putWild_21 rfl (lv_at hl 2 rfl) ?_
    refine lv_iconst (v := 1) hx hb dX0_putWild_22 (by decide) ?_
    refine sr_jn_rule (fun (K4 : Int64 → Option (sr_M)) => ∀ (v5 : Int64), K4 v5 = some M' → ∀ (H : Heap) (locs : List Loc) (ls : Array Slot), xH D t ad A s M3 H locs → lv_has ls 3 [] → W p l e ({ frames := 0, cells := 0, slots := 0, locals := 0 }) s m args below meth c H locs 0 0 Q (F0 m 44 ls [.long v5, .int a1, .ref (ad (o + 1))])) h ?_ (fun K4 hK4 h => ?_)
    · intro v5 h H locs ls hw hl
      refine sr_last hx hb hw (xaC_1 t ad ho) h dX0_putWild_44 (fun M6 H locs h hw => ?_)
      obtain rfl := Option.some.inj h
      exact ret _ _ _ _ hw dX0_putWild_45
    · refine lv_icmp_ne (tgt := 32) hx hb dX0_putWild_23 (by decide) (fun hc => ?_) (fun hc => ?_)
      · have h := sr_ifn h hc
        refine lv_iload_n hx hb dX0_putWild_32 rfl (lv_at hl 2 rfl) ?_
        refine lv_iconst (v := 2) hx hb dX0_putWild_33 (by decide) ?_
        refine lv_icmp_ne (tgt := 43) hx hb dX0_putWild_34 (by decide) (fun hc => ?_) (fun hc => ?_)
        · have h := sr_ifn h hc
          refine lv_lconst (v := 0) hx hb dX0_putWild_43 (by decide) ?_
          exact hK4 0 h _ _ _ hw (lv_sub hl [] rfl)
        · have h := sr_ifp h hc
          refine lv_ldc2 (v := (-9223372036854775808)) hx hb hown (hts _ qkX0_36) dX0_putWild_37 ?_
          refine lv_goto (tgt := 44) hx hb dX0_putWild_40 (by decide) ?_
          exact hK4 (-9223372036854775808) h _ _ _ hw (lv_sub hl [] rfl)
      · have h := sr_ifp h hc
        refine lv_ldc2 (v := 9223372036854775807) hx hb hown (hts _ qkX0_34) dX0_putWild_26 ?_
        refine lv_goto (tgt := 44) hx hb dX0_putWild_29 (by decide) ?_
        exact hK4 9223372036854775807 h _ _ _ hw (lv_sub hl [] rfl)
  · refine lv_if_ne (tgt := 13) hx hb dX0_putWild_6 (by decide) (fun hc => ?_) (fun hc => ?_)
    · have h := sr_ifn h hc
      refine lv_iconst (v := 0) hx hb dX0_putWild_13 (by decide) ?_
      exact hK1 0 h _ _ _ hw (lv_sub hl [0, 1, 2] rfl)
    · have h := sr_ifp h hc
      refine lv_iconst (v := 1) hx hb dX0_putWild_9 (by decide) ?_
      refine lv_goto (tgt := 14) hx hb dX0_putWild_10 (by decide) ?_
      exact hK1 1 h _ _ _ hw (lv_sub hl [0, 1, 2] rfl)

noncomputable def f0_putFrom (o : Nat) (a1 : Int32) (o2 : Nat) (a3 : Int32) (a4 : Int32) (M : sr_M) : Option (sr_M) :=
sr_cpJ M (o2 + 1) (o + 1) 60 60 a3 a1 a4 fun M1 =>
sr_cpI M1 (o2 + 2) (o + 2) 60 60 a3 a1 a4 fun M2 =>
some M2
set_option maxHeartbeats 4000000 in
set_option maxRecDepth 100000 in
theorem k0_putFrom (l : Launch) (D : va_G) (t : Nat → ClassId) (ad : Nat → Nat) (o : Nat) (ho : xoC o) (a1 : Int32) (o2 : Nat) (ho2 : xoC o2) (a3 : Int32) (a4 : Int32) (M : sr_M) (M' : sr_M) (h : f0_putFrom o a1 o2 a3 a4 M = some M') : sr_Mv l D vwCl (xty t) ad (xcf t ad) 62 yX0_putFrom (.code yX0_putFrom cX0_putFrom 5 (none) :: sr_tbl) ({ frames := 1, cells := 0, slots := 0, locals := 68 }) [.ref (ad o), .int a1, .ref (ad o2), .int a3, .int a4] M M' := by
  refine sr_open_v (cc := cX0_putFrom) (maxL := 5) (by decide) rfl (Nat.le_of_ble_eq_true rfl) ?_
  intro p e s m args below meth c A Q ls hx hb hml hts0 hown hA hw hl ret
  have hts : ∀ w ∈ sr_tbl, w.before args s = true := fun w hw => hts0 w (List.mem_cons_of_mem _ hw)
  have hown : s.vm.findClass RX0 = some m.cls := hown
  have hl : lv_has ls 5 [(0, .ref (ad o)), (1, .int a1), (2, .ref (ad o2)), (3, .int a3), (4, .int a4)] := hl
  have hw : xH D t ad A s M s.heap [] := hw
  unfold f0_putFrom at h
  refine lv_aload_n hx hb dX0_putFrom_0 rfl (lv_at hl 2 rfl) ?_
  refine sr_getr hx hb hts qzX0 hown hw (xfC_3 t ad ho2) (hts _ qfX0_9) dX0_putFrom_1 ?_
  refine lv_iload_n hx hb dX0_putFrom_4 rfl (lv_at hl 3 rfl) ?_
  refine lv_aload_n hx hb dX0_putFrom_5 rfl (lv_at hl 0 rfl) ?_
  refine sr_getr hx hb hts qzX0 hown hw (xfC_3 t ad ho) (hts _ qfX0_9) dX0_putFrom_6 ?_
  refine lv_iload_n hx hb dX0_putFrom_9 rfl (lv_at hl 1 rfl) ?_
  refine lv_iload hx hb dX0_putFrom_10 (lv_at hl 4 rfl) ?_
  refine sr_copylong hx hb (hml.trans hl.1.symm) hown (hts _ qmX0_38) (hts _ q_native) (hts _ q_static) (hts _ qnJ10) hw (xaC_1 t ad ho2) (xaC_1 t ad ho) h (Nat.le_of_ble_eq_true rfl) (Nat.le_of_ble_eq_true rfl) dX0_putFrom_12 (fun M1 H locs h hw => ?_)
  refine lv_aload_n hx hb dX0_putFrom_15 rfl (lv_at hl 2 rfl) ?_
  refine sr_getr hx hb hts qzX0 hown hw (xfC_4 t ad ho2) (hts _ qfX0_15) dX0_putFrom_16 ?_
  refine lv_iload_n hx hb dX0_putFrom_19 rfl (lv_at hl 3 rfl) ?_
  refine lv_aload_n hx hb dX0_putFrom_20 rfl (lv_at hl 0 rfl) ?_
  refine sr_getr hx hb hts qzX0 hown hw (xfC_4 t ad ho) (hts _ qfX0_15) dX0_putFrom_21 ?_
  refine lv_iload_n hx hb dX0_putFrom_24 rfl (lv_at hl 1 rfl) ?_
  refine lv_iload hx hb dX0_putFrom_25 (lv_at hl 4 rfl) ?_
  refine sr_copybyte hx hb (hml.trans hl.1.symm) hown (hts _ qmX0_38) (hts _ q_native) (hts _ q_static) (hts _ qnJ10) hw (xaC_2 t ad ho2) (xaC_2 t ad ho) h (Nat.le_of_ble_eq_true rfl) (Nat.le_of_ble_eq_true rfl) dX0_putFrom_27 (fun M2 H locs h hw => ?_)
  obtain rfl := Option.some.inj h
  exact ret _ _ _ _ hw dX0_putFrom_30

