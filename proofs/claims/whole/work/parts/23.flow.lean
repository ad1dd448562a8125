noncomputable def f1_reachAround_L13 (o : Nat) (a1 : Int32) (v3 : Int32) (v4 : Int32) (M5 : sr_M) : Option ((Int32 × Int32 × sr_M) ⊕ (Int32 × sr_M)) :=
sr_ld (a1 + 1) 121 (M5.1 9) fun v6 =>
if v6 ≤ v4 then
(some (.inr (v3, M5)))
else
(sr_ld v4 600 (M5.1 10) fun v7 =>
(f2_across v7 a1 M5).bind fun v8 =>
sr_ld v4 600 (M5.1 10) fun v9 =>
(f2_isOpen v9 M5).bind fun v10 =>
if v10 = 0 then
(some (.inl (v3, (v4 + 1), M5)))
else
(sr_ld v8 120 (M5.1 (o + 3)) fun v11 =>
if 0 ≤ v11 then
(some (.inl (v3, (v4 + 1), M5)))
else
(sr_ld v8 120 (M5.1 (o + 12)) fun v12 =>
if v12 = 0 then
(sr_stB v8 120 M5 (o + 12) 1 fun M13 =>
sr_st v3 120 M13 (o + 11) v8 fun M14 =>
some (.inl ((v3 + 1), (v4 + 1), M14)))
else
(some (.inl (v3, (v4 + 1), M5))))))
noncomputable def f1_reachAround (o : Nat) (a1 : Int32) (a2 : Int32) (M : sr_M) : Option (Int32 × sr_M) :=
sr_ld a1 121 (M.1 9) fun v1 =>
(sr_lp (fun z2 : Int32 × Int32 × sr_M => f1_reachAround_L13 o a1 z2.1 z2.2.1 z2.2.2) (a2, v1, M)).bind fun w2 =>
some (w2.1, w2.2)
set_option maxHeartbeats 4000000 in
set_option maxRecDepth 100000 in
theorem k1_reachAround (l : Launch) (D : va_G) (t : Nat → ClassId) (ad : Nat → Nat) (o : Nat) (ho : xoF o) (a1 : Int32) (a2 : Int32) (M : sr_M) (r : Int32) (M' : sr_M) (h : f1_reachAround o a1 a2 M = some (r, M')) : sr_Mi l D vwCl (xty t) ad (xcf t ad) 62 yX1_reachAround (.code yX1_reachAround cX1_reachAround 6 (some .int) :: sr_tbl) ({ frames := 1, cells := 0, slots := 0, locals := 22 }) [.ref (ad o), .int a1, .int a2] M r M' := by
  refine sr_open_i (cc := cX1_reachAround) (maxL := 6) (by decide) rfl (Nat.le_of_ble_eq_true rfl) ?_
  intro p e s m args below meth c A Q ls hx hb hml hts0 hown hA hw hl ret
  have hts : ∀ w ∈ sr_tbl, w.before args s = true := fun w hw => hts0 w (List.mem_cons_of_mem _ hw)
  have hown : s.vm.findClass RX1 = some m.cls := hown
  have hl : lv_has ls 6 [(0, .ref (ad o)), (1, .int a1), (2, .int a2)] := hl
  have hw : xH D t ad A s M s.heap [] := hw
  unfold f1_reachAround at h
  refine lv_iload_n hx hb dX1_reachAround_0 rfl (lv_at hl 2 rfl) ?_
  refine lv_istore_n (lv' := [(3, .int a2), (0, .ref (ad o)), (1, .int a1), (2, .int a2)]) hx hb dX1_reachAround_1 rfl hl (by decide) rfl (fun ls hl => ?_)
  refine lv_aload_n hx hb dX1_reachAround_2 rfl (lv_at hl 1 rfl) ?_
  refine sr_getr hx hb hts qzX1 hown hw (xfF_0 t ad ho) (hts _ qfX1_49) dX1_reachAround_3 ?_
  refine sr_getr hx hb hts qzX2 hown hw (xf_1_10 t ad) (hts _ qfX1_105) dX1_reachAround_6 ?_
  refine lv_iload_n hx hb dX1_reachAround_9 rfl (lv_at hl 2 rfl) ?_
  refine sr_iald hx hb hw (xa_9 t ad) h dX1_reachAround_10 (fun v1 h => ?_)
  refine lv_istore (lv' := [(4, .int v1), (3, .int a2), (0, .ref (ad o)), (1, .int a1), (2, .int a2)]) hx hb dX1_reachAround_11 hl (by decide) rfl (fun ls hl => ?_)
  obtain ⟨x2, hlp, hE2⟩ := sr_bind h
  have hX2 : ∀ (v15 : Int32) (M16 : sr_M), (v15, M16) = x2 → ∀ (H : Heap) (locs : List Loc) (ls : Array Slot), xH D t ad A s M16 H locs → lv_has ls 6 [(3, .int v15)] → W p l e ({ frames := 1, cells := 0, slots := 0, locals := 22 }) s m args below meth c H locs 0 0 Q (F0 m 114 ls []) := by
    intro v15 M16 ex H locs ls hw hl
    have h := hE2 _ ex
    try dsimp only at h
    refine lv_iload_n hx hb dX1_reachAround_114 rfl (lv_at hl 0 rfl) ?_
    obtain ⟨rfl, rfl⟩ := Prod.mk.inj (Option.some.inj h)
    exact ret _ _ _ _ hw rfl dX1_reachAround_115
  refine sr_lp_rule (fun (z2 : Int32 × Int32 × sr_M) => ∀ (H : Heap) (locs : List Loc) (ls : Array Slot), xH D t ad A s z2.2.2 H locs → lv_has ls 6 [(0, .ref (ad o)), (1, .int a1), (3, .int z2.1), (4, .int z2.2.1)] → W p l e ({ frames := 1, cells := 0, slots := 0, locals := 22 }) s m args below meth c H locs 0 0 Q (F0 m 13 ls [])) ?_ hlp _ _ _ hw (lv_sub hl [2, 3, 1, 0] rfl)
  rintro ⟨v3, v4, M5⟩ y2 h hi2 he2 H locs ls hw hl
  have h : f1_reachAround_L13 o a1 v3 v4 M5 = some y2 := h
  have hw : xH D t ad A s M5 H locs := hw
  have hl : lv_has ls 6 [(0, .ref (ad o)), (1, .int a1), (3, .int v3), (4, .int v4)] := hl
  unfold f1_reachAround_L13 at h
  refine lv_iload hx hb dX1_reachAround_13 (lv_at hl 3 rfl) ?_
  refine lv_aload_n hx hb dX1_reachAround_15 rfl (lv_at hl 0 rfl) ?_
  refine sr_getr hx hb hts qzX1 hown hw (xfF_0 t ad ho) (hts _ qfX1_49) dX1_reachAround_16 ?_
  refine sr_getr hx hb hts qzX2 hown hw (xf_1_10 t ad) (hts _ qfX1_105) dX1_reachAround_19 ?_
  refine lv_iload_n hx hb dX1_reachAround_22 rfl (lv_at hl 1 rfl) ?_
  refine lv_iconst (v := 1) hx hb dX1_reachAround_23 (by decide) ?_
  refine lv_iadd hx hb dX1_reachAround_24 ?_
  refine sr_iald hx hb hw (xa_9 t ad) h dX1_reachAround_25 (fun v6 h => ?_)
  refine lv_icmp_ge (tgt := 114) hx hb dX1_reachAround_26 (by decide) (fun hc => ?_) (fun hc => ?_)
  · have h := sr_ifp h hc
    exact hX2 v3 M5 (he2 _ (Option.some.inj h).symm) _ _ _ hw (lv_sub hl [2] rfl)
  · have h := sr_ifn h hc
    refine lv_aload_n hx hb dX1_reachAround_29 rfl (lv_at hl 0 rfl) ?_
    refine sr_getr hx hb hts qzX1 hown hw (xfF_0 t ad ho) (hts _ qfX1_49) dX1_reachAround_30 ?_
    refine lv_aload_n hx hb dX1_reachAround_33 rfl (lv_at hl 0 rfl) ?_
    refine sr_getr hx hb hts qzX1 hown hw (xfF_0 t ad ho) (hts _ qfX1_49) dX1_reachAround_34 ?_
    refine sr_getr hx hb hts qzX2 hown hw (xf_1_11 t ad) (hts _ qfX1_108) dX1_reachAround_37 ?_
    refine lv_iload hx hb dX1_reachAround_40 (lv_at hl 3 rfl) ?_
    refine sr_iald hx hb hw (xa_10 t ad) h dX1_reachAround_42 (fun v7 h => ?_)
    refine lv_iload_n hx hb dX1_reachAround_43 rfl (lv_at hl 1 rfl) ?_
    obtain ⟨v8, hc, h⟩ := sr_bind1 h
    refine sr_cVi (As := [.int v7, .int a1]) (rest := []) ⟨hx, hb, hml, hown, hts⟩ (k2_across l D t ad v7 a1 M5 _ hc) (cwV 2 hts (sr_goodV qmX1_139 qiX2_across qsX2_across qnX2 qcX2_across) rfl rfl rfl qdX2_across ⟨Nat.le_of_ble_eq_true rfl, Nat.le_of_ble_eq_true rfl⟩) hw hA (xo_1 t ad) rfl hl.1 rfl (Nat.le_of_ble_eq_true rfl) dX1_reachAround_44 (fun H locs hw => ?_)
    refine lv_istore (lv' := [(5, .int v8), (0, .ref (ad o)), (1, .int a1), (3, .int v3), (4, .int v4)]) hx hb dX1_reachAround_47 hl (by decide) rfl (fun ls hl => ?_)
    refine lv_aload_n hx hb dX1_reachAround_49 rfl (lv_at hl 1 rfl) ?_
    refine sr_getr hx hb hts qzX1 hown hw (xfF_0 t ad ho) (hts _ qfX1_49) dX1_reachAround_50 ?_
    refine lv_aload_n hx hb dX1_reachAround_53 rfl (lv_at hl 1 rfl) ?_
    refine sr_getr hx hb hts qzX1 hown hw (xfF_0 t ad ho) (hts _ qfX1_49) dX1_reachAround_54 ?_
    refine sr_getr hx hb hts qzX2 hown hw (xf_1_11 t ad) (hts _ qfX1_108) dX1_reachAround_57 ?_
    refine lv_iload hx hb dX1_reachAround_60 (lv_at hl 4 rfl) ?_
    refine sr_iald hx hb hw (xa_10 t ad) h dX1_reachAround_62 (fun v9 h => ?_)
    obtain ⟨v10, hc, h⟩ := sr_bind1 h
    refine sr_cVi (As := [.int v9]) (rest := []) ⟨hx, hb, hml, hown, hts⟩ (k2_isOpen l D t ad v9 M5 _ hc) (cwV 1 hts (sr_goodV qmX1_111 qiX2_isOpen qsX2_isOpen qnX2 qcX2_isOpen) rfl rfl rfl qdX2_isOpen ⟨Nat.le_of_ble_eq_true rfl, Nat.le_of_ble_eq_true rfl⟩) hw hA (xo_1 t ad) rfl hl.1 rfl (Nat.le_of_ble_eq_true rfl) dX1_reachAround_63 (fun H locs hw => ?_)
    refine lv_if_eq (tgt := 108) hx hb dX1_reachAround_66 (by decide) (fun hc => ?_) (fun hc => ?_)
    · have h := sr_ifp h hc
      refine lv_iinc (v := (v4 + 1)) (lv' := [(4, .int (v4 + 1)), (5, .int v8), (0, .ref (ad o)), (1, .int a1), (3, .int v3)]) hx hb dX1_reachAround_108 hl (k := 4) rfl rfl (by decide) rfl (fun ls hl => ?_)
      refine lv_goto (tgt := 13) hx hb dX1_reachAround_111 (by decide) ?_
      exact hi2 (v3, (v4 + 1), M5) (Option.some.inj h).symm _ _ _ hw (lv_sub hl [2, 3, 4, 0] rfl)
    · have h := sr_ifn h hc
      refine lv_aload_n hx hb dX1_reachAround_69 rfl (lv_at hl 1 rfl) ?_
      refine sr_getr hx hb hts qzX1 hown hw (xfF_5 t ad ho) (hts _ qfX1_18) dX1_reachAround_70 ?_
      refine lv_iload hx hb dX1_reachAround_73 (lv_at hl 0 rfl) ?_
      refine sr_iald hx hb hw (xaF_3 t ad ho) h dX1_reachAround_75 (fun v11 h => ?_)
      refine lv_if_ge (tgt := 108) hx hb dX1_reachAround_76 (by decide) (fun hc => ?_) (fun hc => ?_)
      · have h := sr_ifp h hc
        refine lv_iinc (v := (v4 + 1)) (lv' := [(4, .int (v4 + 1)), (5, .int v8), (0, .ref (ad o)), (1, .int a1), (3, .int v3)]) hx hb dX1_reachAround_108 hl (k := 4) rfl rfl (by decide) rfl (fun ls hl => ?_)
        refine lv_goto (tgt := 13) hx hb dX1_reachAround_111 (by decide) ?_
        exact hi2 (v3, (v4 + 1), M5) (Option.some.inj h).symm _ _ _ hw (lv_sub hl [2, 3, 4, 0] rfl)
      · have h := sr_ifn h hc
        refine lv_aload_n hx hb dX1_reachAround_79 rfl (lv_at hl 1 rfl) ?_
        refine sr_getr hx hb hts qzX1 hown hw (xfF_15 t ad ho) (hts _ qfX1_45) dX1_reachAround_80 ?_
        refine lv_iload hx hb dX1_reachAround_83 (lv_at hl 0 rfl) ?_
        refine sr_zald hx hb hw (xaF_12 t ad ho) h dX1_reachAround_85 (fun v12 h => ?_)
        refine lv_if_ne (tgt := 108) hx hb dX1_reachAround_86 (by decide) (fun hc => ?_) (fun hc => ?_)
        · have h := sr_ifn h hc
          refine lv_iinc (v := (v4 + 1)) (lv' := [(4, .int (v4 + 1)), (5, .int v8), (0, .ref (ad o)), (1, .int a1), (3, .int v3)]) hx hb dX1_reachAround_108 hl (k := 4) rfl rfl (by decide) rfl (fun ls hl => ?_)
          refine lv_goto (tgt := 13) hx hb dX1_reachAround_111 (by decide) ?_
          exact hi2 (v3, (v4 + 1), M5) (Option.some.inj h).symm _ _ _ hw (lv_sub hl [2, 3, 4, 0] rfl)
        · have h := sr_ifp h hc
          refine lv_aload_n hx hb dX1_reachAround_89 rfl (lv_at hl 1 rfl) ?_
          refine sr_getr hx hb hts qzX1 hown hw (xfF_15 t ad ho) (hts _ qfX1_45) dX1_reachAround_90 ?_
          refine lv_iload hx hb dX1_reachAround_93 (lv_at hl 0 rfl) ?_
          refine lv_iconst (v := 1) hx hb dX1_reachAround_95 (by decide) ?_
          refine sr_zast hx hb hw (xaF_12 t ad ho) h dX1_reachAround_96 (fun M13 H locs h hw => ?_)
          refine lv_aload_n hx hb dX1_reachAround_97 rfl (lv_at hl 1 rfl) ?_
          refine sr_getr hx hb hts qzX1 hown hw (xfF_14 t ad ho) (hts _ qfX1_42) dX1_reachAround_98 ?_
          refine lv_iload_n hx hb dX1_reachAround_101 rfl (lv_at hl 3 rfl) ?_
          refine lv_iload hx hb dX1_reachAround_102 (lv_at hl 0 rfl) ?_
          refine sr_iast hx hb hw (xaF_11 t ad ho) h dX1_reachAround_104 (fun M14 H locs h hw => ?_)
          refine lv_iinc (v := (v3 + 1)) (lv' := [(3, .int (v3 + 1)), (5, .int v8), (0, .ref (ad o)), (1, .int a1), (4, .int v4)]) hx hb dX1_reachAround_105 hl (k := 3) rfl rfl (by decide) rfl (fun ls hl => ?_)
          refine lv_iinc (v := (v4 + 1)) (lv' := [(4, .int (v4 + 1)), (3, .int (v3 + 1)), (5, .int v8), (0, .ref (ad o)), (1, .int a1)]) hx hb dX1_reachAround_108 hl (k := 4) rfl rfl (by decide) rfl (fun ls hl => ?_)
          refine lv_goto (tgt := 13) hx hb dX1_reachAround_111 (by decide) ?_
          exact hi2 ((v3 + 1), (v4 + 1), M14) (Option.some.inj h).symm _ _ _ hw (lv_sub hl [3, 4, 1, 0] rfl)

noncomputable def f1_reachFromOutlets_L4 (o : Nat) (v2 : Int32) (v3 : Int32) (M4 : sr_M) : Option ((Int32 × Int32 × sr_M) ⊕ (Int32 × sr_M)) :=
sr_bnd (M4.1 1 0) fun v5 =>
if v5 ≤ v3 then
(some (.inr (v2, M4)))
else
(sr_ld v3 120 (M4.1 2) fun v6 =>
sr_jn (fun (v8 : Int32) =>
sr_stB v3 120 M4 (o + 12) v8 fun M9 =>
sr_ld v3 120 (M9.1 (o + 12)) fun v10 =>
if v10 = 0 then
(some (.inl (v2, (v3 + 1), M9)))
else
(sr_st v2 120 M9 (o + 11) v3 fun M11 =>
some (.inl ((v2 + 1), (v3 + 1), M11)))) fun (K7 : Int32 → Option ((Int32 × Int32 × sr_M) ⊕ (Int32 × sr_M))) =>
sr_jn (K7 0) fun (K12 : Option ((Int32 × Int32 × sr_M) ⊕ (Int32 × sr_M))) =>
if v6 = 4 then
(sr_ld v3 120 (M4.1 (o + 3)) fun v13 =>
if 0 ≤ v13 then
(K12)
else
(K7 1))
else
(K12))
noncomputable def f1_reachFromOutlets_L75 (o : Nat) (v17 : Int32) (v18 : Int32) (M19 : sr_M) : Option ((Int32 × Int32 × sr_M) ⊕ (sr_M)) :=
if v17 ≤ v18 then
(some (.inr M19))
else
(if 120 ≤ v18 then
(some (.inr M19))
else
(sr_ld v18 120 (M19.1 (o + 11)) fun v20 =>
sr_bd2 (f1_reachAround o v20 v17 M19) fun v21 M22 =>
some (.inl (v21, (v18 + 1), M22))))
noncomputable def f1_reachFromOutlets (o : Nat) (M : sr_M) : Option (sr_M) :=
(sr_lp (fun z1 : Int32 × Int32 × sr_M => f1_reachFromOutlets_L4 o z1.1 z1.2.1 z1.2.2) (0, 0, M)).bind fun w1 =>
(sr_lp (fun z16 : Int32 × Int32 × sr_M => f1_reachFromOutlets_L75 o z16.1 z16.2.1 z16.2.2) (w1.1, 0, w1.2)).bind fun w16 =>
some w16
set_option maxHeartbeats 4000000 in
set_option maxRecDepth 100000 in
theorem k1_reachFromOutlets (l : Launch) (D : va_G) (t : Nat → ClassId) (ad : Nat → Nat) (o : Nat) (ho : xoF o) (M : sr_M) (M' : sr_M) (h : f1_reachFromOutlets o M = some M') : sr_Mv l D vwCl (xty t) ad (xcf t ad) 62 yX1_reachFromOutlets (.code yX1_reachFromOutlets cX1_reachFromOutlets 3 (none) :: sr_tbl) ({ frames := 2, cells := 0, slots := 0, locals := 47 }) [.ref (ad o)] M M' := by
  refine sr_open_v (cc := cX1_reachFromOutlets) (maxL := 3) (by decide) rfl (Nat.le_of_ble_eq_true rfl) ?_
  intro p e s m args below meth c A Q ls hx hb hml hts0 hown hA hw hl ret
  have hts : ∀ w ∈ sr_tbl, w.before args s = true := fun w hw => hts0 w (List.mem_cons_of_mem _ hw)
  have hown : s.vm.findClass RX1 = some m.cls := hown
  have hl : lv_has ls 3 [(0, .ref (ad o))] := hl
  have hw : xH D t ad A s M s.heap [] := hw
  unfold f1_reachFromOutlets at h
  refine lv_iconst (v := 0) hx hb dX1_reachFromOutlets_0 (by decide) ?_
  refine lv_istore_n (lv' := [(1, .int 0), (0, .ref (ad o))]) hx hb dX1_reachFromOutlets_1 rfl hl (by decide) rfl (fun ls hl => ?_)
  refine lv_iconst (v := 0) hx hb dX1_reachFromOutlets_2 (by decide) ?_
  refine lv_istore_n (lv' := [(2, .int 0), (1, .int 0), (0, .ref (ad o))]) hx hb dX1_reachFromOutlets_3 rfl hl (by decide) rfl (fun ls hl => ?_)
  obtain ⟨x1, hlp, hE1⟩ := sr_bind h
  have hX1 : ∀ (v14 : Int32) (M15 : sr_M), (v14, M15) = x1 → ∀ (H : Heap) (locs : List Loc) (ls : Array Slot), xH D t ad A s M15 H locs → lv_has ls 3 [(0, .ref (ad o)), (1, .int v14)] → W p l e ({ frames := 2, cells := 0, slots := 0, locals := 47 }) s m args below meth c H locs 0 0 Q (F0 m 73 ls []) := by
    intro v14 M15 ex H locs ls hw hl
    have h := hE1 _ ex
    try dsimp only at h
    refine lv_iconst (v := 0) hx hb dX1_reachFromOutlets_73 (by decide) ?_
    refine lv_istore_n (lv' := [(2, .int 0), (0, .ref (ad o)), (1, .int v14)]) hx hb dX1_reachFromOutlets_74 rfl hl (by decide) rfl (fun ls hl => ?_)
    obtain ⟨x16, hlp, hE16⟩ := sr_bind h
    have hX16 : ∀ (M23 : sr_M), M23 = x16 → ∀ (H : Heap) (locs : List Loc) (ls : Array Slot), xH D t ad A s M23 H locs → lv_has ls 3 [] → W p l e ({ frames := 2, cells := 0, slots := 0, locals := 47 }) s m args below meth c H locs 0 0 Q (F0 m 104 ls []) := by
      intro M23 ex H locs ls hw hl
      have h := hE16 _ ex
      try dsimp only at h
      obtain rfl := Option.some.inj h
      exact ret _ _ _ _ hw dX1_reachFromOutlets_104
    refine sr_lp_rule (fun (z16 : Int32 × Int32 × sr_M) => ∀ (H : Heap) (locs : List Loc) (ls : Array Slot), xH D t ad A s z16.2.2 H locs → lv_has ls 3 [(0, .ref (ad o)), (1, .int z16.1), (2, .int z16.2.1)] → W p l e ({ frames := 2, cells := 0, slots := 0, locals := 47 }) s m args below meth c H locs 0 0 Q (F0 m 75 ls [])) ?_ hlp _ _ _ hw (lv_sub hl [1, 2, 0] rfl)
    rintro ⟨v17, v18, M19⟩ y16 h hi16 he16 H locs ls hw hl
    have h : f1_reachFromOutlets_L75 o v17 v18 M19 = some y16 := h
    have hw : xH D t ad A s M19 H locs := hw
    have hl : lv_has ls 3 [(0, .ref (ad o)), (1, .int v17), (2, .int v18)] := hl
    unfold f1_reachFromOutlets_L75 at h
    refine lv_iload_n hx hb dX1_reachFromOutlets_75 rfl (lv_at hl 2 rfl) ?_
    refine lv_iload_n hx hb dX1_reachFromOutlets_76 rfl (lv_at hl 1 rfl) ?_
    refine lv_icmp_ge (tgt := 104) hx hb dX1_reachFromOutlets_77 (by decide) (fun hc => ?_) (fun hc => ?_)
    · have h := sr_ifp h hc
      exact hX16  M19 (he16 _ (Option.some.inj h).symm) _ _ _ hw (lv_sub hl [] rfl)
    · have h := sr_ifn h hc
      refine lv_iload_n hx hb dX1_reachFromOutlets_80 rfl (lv_at hl 2 rfl) ?_
      refine lv_bipush (v := 120) hx hb dX1_reachFromOutlets_81 (by decide) ?_
      refine lv_icmp_ge (tgt := 104) hx hb dX1_reachFromOutlets_83 (by decide) (fun hc => ?_) (fun hc => ?_)
      · have h := sr_ifp h hc
        exact hX16  M19 (he16 _ (Option.some.inj h).symm) _ _ _ hw (lv_sub hl [] rfl)
      · have h := sr_ifn h hc
        refine lv_aload_n hx hb dX1_reachFromOutlets_86 rfl (lv_at hl 0 rfl) ?_
        refine lv_aload_n hx hb dX1_reachFromOutlets_87 rfl (lv_at hl 0 rfl) ?_
        refine sr_getr hx hb hts qzX1 hown hw (xfF_14 t ad ho) (hts _ qfX1_42) dX1_reachFromOutlets_88 ?_
        refine lv_iload_n hx hb dX1_reachFromOutlets_91 rfl (lv_at hl 2 rfl) ?_
        refine sr_iald hx hb hw (xaF_11 t ad ho) h dX1_reachFromOutlets_92 (fun v20 h => ?_)
        refine lv_iload_n hx hb dX1_reachFromOutlets_93 rfl (lv_at hl 1 rfl) ?_
        obtain ⟨v21, M22, hc, h⟩ := sr_bind2 h
        refine sr_cVi (As := [.int v20, .int v17]) (rest := []) ⟨hx, hb, hml, hown, hts⟩ (k1_reachAround l D t ad o ho v20 v17 M19 _ _ hc) (cwV 2 hts (sr_goodV qmX1_135 qiX1_reachAround qsX1_reachAround qnX1 qcX1_reachAround) rfl rfl rfl qdX1_reachAround ⟨Nat.le_of_ble_eq_true rfl, Nat.le_of_ble_eq_true rfl⟩) hw hA (xobF t ad ho) rfl hl.1 rfl (Nat.le_of_ble_eq_true rfl) dX1_reachFromOutlets_94 (fun H locs hw => ?_)
        refine lv_istore_n (lv' := [(1, .int v21), (0, .ref (ad o)), (2, .int v18)]) hx hb dX1_reachFromOutlets_97 rfl hl (by decide) rfl (fun ls hl => ?_)
        refine lv_iinc (v := (v18 + 1)) (lv' := [(2, .int (v18 + 1)), (1, .int v21), (0, .ref (ad o))]) hx hb dX1_reachFromOutlets_98 hl (k := 2) rfl rfl (by decide) rfl (fun ls hl => ?_)
        refine lv_goto (tgt := 75) hx hb dX1_reachFromOutlets_101 (by decide) ?_
        exact hi16 (v21, (v18 + 1), M22) (Option.some.inj h).symm _ _ _ hw (lv_sub hl [2, 1, 0] rfl)
  refine sr_lp_rule (fun (z1 : Int32 × Int32 × sr_M) => ∀ (H : Heap) (locs : List Loc) (ls : Array Slot), xH D t ad A s z1.2.2 H locs → lv_has ls 3 [(0, .ref (ad o)), (1, .int z1.1), (2, .int z1.2.1)] → W p l e ({ frames := 2, cells := 0, slots := 0, locals := 47 }) s m args below meth c H locs 0 0 Q (F0 m 4 ls [])) ?_ hlp _ _ _ hw (lv_sub hl [2, 1, 0] rfl)
  rintro ⟨v2, v3, M4⟩ y1 h hi1 he1 H locs ls hw hl
  have h : f1_reachFromOutlets_L4 o v2 v3 M4 = some y1 := h
  have hw : xH D t ad A s M4 H locs := hw
  have hl : lv_has ls 3 [(0, .ref (ad o)), (1, .int v2), (2, .int v3)] := hl
  unfold f1_reachFromOutlets_L4 at h
  refine lv_iload_n hx hb dX1_reachFromOutlets_4 rfl (lv_at hl 2 rfl) ?_
  refine lv_aload_n hx hb dX1_reachFromOutlets_5 rfl (lv_at hl 0 rfl) ?_
  refine sr_getr hx hb hts qzX1 hown hw (xfF_0 t ad ho) (hts _ qfX1_49) dX1_reachFromOutlets_6 ?_
  refine sr_geti hx hb hts qzX2 hown hw (xf_1_0 t ad) (hts _ qfX1_64) h dX1_reachFromOutlets_9 (fun v5 h => ?_)
  refine lv_icmp_ge (tgt := 73) hx hb dX1_reachFromOutlets_12 (by decide) (fun hc => ?_) (fun hc => ?_)
  · have h := sr_ifp h hc
    exact hX1 v2 M4 (he1 _ (Option.some.inj h).symm) _ _ _ hw (lv_sub hl [0, 1] rfl)
  · have h := sr_ifn h hc
    refine lv_aload_n hx hb dX1_reachFromOutlets_15 rfl (lv_at hl 0 rfl) ?_
    refine sr_getr hx hb hts qzX1 hown hw (xfF_15 t ad ho) (hts _ qfX1_45) dX1_reachFromOutlets_16 ?_
    refine lv_iload_n hx hb dX1_reachFromOutlets_19 rfl (lv_at hl 2 rfl) ?_
    refine lv_aload_n hx hb dX1_reachFromOutlets_20 rfl (lv_at hl 0 rfl) ?_
    refine sr_getr hx hb hts qzX1 hown hw (xfF_0 t ad ho) (hts _ qfX1_49) dX1_reachFromOutlets_21 ?_
    refine sr_getr hx hb hts qzX2 hown hw (xf_1_1 t ad) (hts _ qfX1_95) dX1_reachFromOutlets_24 ?_
    refine lv_iload_n hx hb dX1_reachFromOutlets_27 rfl (lv_at hl 2 rfl) ?_
    refine sr_iald hx hb hw (xa_2 t ad) h dX1_reachFromOutlets_28 (fun v6 h => ?_)
    refine lv_iconst (v := 4) hx hb dX1_reachFromOutlets_29 (by decide) ?_
    refine sr_jn_rule (fun (K7 : Int32 → Option ((Int32 × Int32 × sr_M) ⊕ (Int32 × sr_M))) => ∀ (v8 : Int32), K7 v8 = some y1 → ∀ (H : Heap) (locs : List Loc) (ls : Array Slot), xH D t ad A s M4 H locs → lv_has ls 3 [(0, .ref (ad o)), (1, .int v2), (2, .int v3)] → W p l e ({ frames := 2, cells := 0, slots := 0, locals := 47 }) s m args below meth c H locs 0 0 Q (F0 m 47 ls [.int v8, .int v3, .ref (ad (o + 12))])) h ?_ (fun K7 hK7 h => ?_)
    · intro v8 h H locs ls hw hl
      refine sr_zast hx hb hw (xaF_12 t ad ho) h dX1_reachFromOutlets_47 (fun M9 H locs h hw => ?_)
      refine lv_aload_n hx hb dX1_reachFromOutlets_48 rfl (lv_at hl 0 rfl) ?_
      refine sr_getr hx hb hts qzX1 hown hw (xfF_15 t ad ho) (hts _ qfX1_45) dX1_reachFromOutlets_49 ?_
      refine lv_iload_n hx hb dX1_reachFromOutlets_52 rfl (lv_at hl 2 rfl) ?_
      refine sr_zald hx hb hw (xaF_12 t ad ho) h dX1_reachFromOutlets_53 (fun v10 h => ?_)
      refine lv_if_eq (tgt := 67) hx hb dX1_reachFromOutlets_54 (by decide) (fun hc => ?_) (fun hc => ?_)
      · have h := sr_ifp h hc
        refine lv_iinc (v := (v3 + 1)) (lv' := [(2, .int (v3 + 1)), (0, .ref (ad o)), (1, .int v2)]) hx hb dX1_reachFromOutlets_67 hl (k := 2) rfl rfl (by decide) rfl (fun ls hl => ?_)
        refine lv_goto (tgt := 4) hx hb dX1_reachFromOutlets_70 (by decide) ?_
        exact hi1 (v2, (v3 + 1), M9) (Option.some.inj h).symm _ _ _ hw (lv_sub hl [1, 2, 0] rfl)
      · have h := sr_ifn h hc
        refine lv_aload_n hx hb dX1_reachFromOutlets_57 rfl (lv_at hl 0 rfl) ?_
        refine sr_getr hx hb hts qzX1 hown hw (xfF_14 t ad ho) (hts _ qfX1_42) dX1_reachFromOutlets_58 ?_
        refine lv_iload_n hx hb dX1_reachFromOutlets_61 rfl (lv_at hl 1 rfl) ?_
        refine lv_iload_n hx hb dX1_reachFromOutlets_62 rfl (lv_at hl 2 rfl) ?_
        refine sr_iast hx hb hw (xaF_11 t ad ho) h dX1_reachFromOutlets_63 (fun M11 H locs h hw => ?_)
        refine lv_iinc (v := (v2 + 1)) (lv' := [(1, .int (v2 + 1)), (0, .ref (ad o)), (2, .int v3)]) hx hb dX1_reachFromOutlets_64 hl (k := 1) rfl rfl (by decide) rfl (fun ls hl => ?_)
        refine lv_iinc (v := (v3 + 1)) (lv' := [(2, .int (v3 + 1)), (1, .int (v2 + 1)), (0, .ref (ad o))]) hx hb dX1_reachFromOutlets_67 hl (k := 2) rfl rfl (by decide) rfl (fun ls hl => ?_)
        refine lv_goto (tgt := 4) hx hb dX1_reachFromOutlets_70 (by decide) ?_
        exact hi1 ((v2 + 1), (v3 + 1), M11) (Option.some.inj h).symm _ _ _ hw (lv_sub hl [2, 1, 0] rfl)
    · refine sr_jn_rule (fun (K12 : Option ((Int32 × Int32 × sr_M) ⊕ (Int32 × sr_M))) => K12 = some y1 → ∀ (H : Heap) (locs : List Loc) (ls : Array Slot), xH D t ad A s M4 H locs → lv_has ls 3 [(0, .ref (ad o)), (1, .int v2), (2, .int v3)] → W p l e ({ frames := 2, cells := 0, slots := 0, locals := 47 }) s m args below meth c H locs 0 0 Q (F0 m 46 ls [.int v3, .ref (ad (o + 12))])) h ?_ (fun K12 hK12 h => ?_)
      · intro  h H locs ls hw hl
        refine lv_iconst (v := 0) hx hb dX1_reachFromOutlets_46 (by decide) ?_
        exact hK7 0 h _ _ _ hw (lv_sub hl [0, 1, 2] rfl)
      · refine lv_icmp_ne (tgt := 46) hx hb dX1_reachFromOutlets_30 (by decide) (fun hc => ?_) (fun hc => ?_)
        · have h := sr_ifn h hc
          exact hK12  h _ _ _ hw (lv_sub hl [0, 1, 2] rfl)
        · have h := sr_ifp h hc
          refine lv_aload_n hx hb dX1_reachFromOutlets_33 rfl (lv_at hl 0 rfl) ?_
          refine sr_getr hx hb hts qzX1 hown hw (xfF_5 t ad ho) (hts _ qfX1_18) dX1_reachFromOutlets_34 ?_
          refine lv_iload_n hx hb dX1_reachFromOutlets_37 rfl (lv_at hl 2 rfl) ?_
          refine sr_iald hx hb hw (xaF_3 t ad ho) h dX1_reachFromOutlets_38 (fun v13 h => ?_)
          refine lv_if_ge (tgt := 46) hx hb dX1_reachFromOutlets_39 (by decide) (fun hc => ?_) (fun hc => ?_)
          · have h := sr_ifp h hc
            exact hK12  h _ _ _ hw (lv_sub hl [0, 1, 2] rfl)
          · have h := sr_ifn h hc
            refine lv_iconst (v := 1) hx hb dX1_reachFromOutlets_42 (by decide) ?_
            refine lv_goto (tgt := 47) hx hb dX1_reachFromOutlets_43 (by decide) ?_
            exact hK7 1 h _ _ _ hw (lv_sub hl [0, 1, 2] rfl)

noncomputable def f1_drownAround_L13 (o : Nat) (a1 : Int32) (v3 : Int32) (v4 : Int32) (M5 : sr_M) : Option ((Int32 × Int32 × sr_M) ⊕ (Int32 × sr_M)) :=
sr_ld (a1 + 1) 121 (M5.1 9) fun v6 =>
if v6 ≤ v4 then
(some (.inr (v3, M5)))
else
(sr_ld v4 600 (M5.1 10) fun v7 =>
(f2_across v7 a1 M5).bind fun v8 =>
sr_ld v4 600 (M5.1 10) fun v9 =>
(f2_isOpen v9 M5).bind fun v10 =>
if v10 = 0 then
(some (.inl (v3, (v4 + 1), M5)))
else
(sr_ld v8 120 (M5.1 (o + 5)) fun v11 =>
sr_bnd (M5.1 o 2) fun v12 =>
if v11 = v12 then
(sr_ld v8 120 (M5.1 (o + 6)) fun v13 =>
if 0 ≤ v13 then
(some (.inl (v3, (v4 + 1), M5)))
else
(sr_bnd (M5.1 o 9) fun v14 =>
sr_st v8 120 M5 (o + 6) v14 fun M15 =>
sr_st v3 120 M15 (o + 11) v8 fun M16 =>
some (.inl ((v3 + 1), (v4 + 1), M16))))
else
(some (.inl (v3, (v4 + 1), M5)))))
noncomputable def f1_drownAround (o : Nat) (a1 : Int32) (a2 : Int32) (M : sr_M) : Option (Int32 × sr_M) :=
sr_ld a1 121 (M.1 9) fun v1 =>
(sr_lp (fun z2 : Int32 × Int32 × sr_M => f1_drownAround_L13 o a1 z2.1 z2.2.1 z2.2.2) (a2, v1, M)).bind fun w2 =>
some (w2.1, w2.2)
set_option maxHeartbeats 4000000 in
set_option maxRecDepth 100000 in
theorem k1_drownAround (l : Launch) (D : va_G) (t : Nat → ClassId) (ad : Nat → Nat) (o : Nat) (ho : xoF o) (a1 : Int32) (a2 : Int32) (M : sr_M) (r : Int32) (M' : sr_M) (h : f1_drownAround o a1 a2 M = some (r, M')) : sr_Mi l D vwCl (xty t) ad (xcf t ad) 62 yX1_drownAround (.code yX1_drownAround cX1_drownAround 6 (some .int) :: sr_tbl) ({ frames := 1, cells := 0, slots := 0, locals := 22 }) [.ref (ad o), .int a1, .int a2] M r M' := by
  refine sr_open_i (cc := cX1_drownAround) (maxL := 6) (by decide) rfl (Nat.le_of_ble_eq_true rfl) ?_
  intro p e s m args below meth c A Q ls hx hb hml hts0 hown hA hw hl ret
  have hts : ∀ w ∈ sr_tbl, w.before args s = true := fun w hw => hts0 w (List.mem_cons_of_mem _ hw)
  have hown : s.vm.findClass RX1 = some m.cls := hown
  have hl : lv_has ls 6 [(0, .ref (ad o)), (1, .int a1), (2, .int a2)] := hl
  have hw : xH D t ad A s M s.heap [] := hw
  unfold f1_drownAround at h
  refine lv_iload_n hx hb dX1_drownAround_0 rfl (lv_at hl 2 rfl) ?_
  refine lv_istore_n (lv' := [(3, .int a2), (0, .ref (ad o)), (1, .int a1), (2, .int a2)]) hx hb dX1_drownAround_1 rfl hl (by decide) rfl (fun ls hl => ?_)
  refine lv_aload_n hx hb dX1_drownAround_2 rfl (lv_at hl 1 rfl) ?_
  refine sr_getr hx hb hts qzX1 hown hw (xfF_0 t ad ho) (hts _ qfX1_49) dX1_drownAround_3 ?_
  refine sr_getr hx hb hts qzX2 hown hw (xf_1_10 t ad) (hts _ qfX1_105) dX1_drownAround_6 ?_
  refine lv_iload_n hx hb dX1_drownAround_9 rfl (lv_at hl 2 rfl) ?_
  refine sr_iald hx hb hw (xa_9 t ad) h dX1_drownAround_10 (fun v1 h => ?_)
  refine lv_istore (lv' := [(4, .int v1), (3, .int a2), (0, .ref (ad o)), (1, .int a1), (2, .int a2)]) hx hb dX1_drownAround_11 hl (by decide) rfl (fun ls hl => ?_)
  obtain ⟨x2, hlp, hE2⟩ := sr_bind h
  have hX2 : ∀ (v17 : Int32) (M18 : sr_M), (v17, M18) = x2 → ∀ (H : Heap) (locs : List Loc) (ls : Array Slot), xH D t ad A s M18 H locs → lv_has ls 6 [(3, .int v17)] → W p l e ({ frames := 1, cells := 0, slots := 0, locals := 22 }) s m args below meth c H locs 0 0 Q (F0 m 121 ls []) := by
    intro v17 M18 ex H locs ls hw hl
    have h := hE2 _ ex
    try dsimp only at h
    refine lv_iload_n hx hb dX1_drownAround_121 rfl (lv_at hl 0 rfl) ?_
    obtain ⟨rfl, rfl⟩ := Prod.mk.inj (Option.some.inj h)
    exact ret _ _ _ _ hw rfl dX1_drownAround_122
  refine sr_lp_rule (fun (z2 : Int32 × Int32 × sr_M) => ∀ (H : Heap) (locs : List Loc) (ls : Array Slot), xH D t ad A s z2.2.2 H locs → lv_has ls 6 [(0, .ref (ad o)), (1, .int a1), (3, .int z2.1), (4, .int z2.2.1)] → W p l e ({ frames := 1, cells := 0, slots := 0, locals := 22 }) s m args below meth c H locs 0 0 Q (F0 m 13 ls [])) ?_ hlp _ _ _ hw (lv_sub hl [2, 3, 1, 0] rfl)
  rintro ⟨v3, v4, M5⟩ y2 h hi2 he2 H locs ls hw hl
  have h : f1_drownAround_L13 o a1 v3 v4 M5 = some y2 := h
  have hw : xH D t ad A s M5 H locs := hw
  have hl : lv_has ls 6 [(0, .ref (ad o)), (1, .int a1), (3, .int v3), (4, .int v4)] := hl
  unfold f1_drownAround_L13 at h
  refine lv_iload hx hb dX1_drownAround_13 (lv_at hl 3 rfl) ?_
  refine lv_aload_n hx hb dX1_drownAround_15 rfl (lv_at hl 0 rfl) ?_
  refine sr_getr hx hb hts qzX1 hown hw (xfF_0 t ad ho) (hts _ qfX1_49) dX1_drownAround_16 ?_
  refine sr_getr hx hb hts qzX2 hown hw (xf_1_10 t ad) (hts _ qfX1_105) dX1_drownAround_19 ?_
  refine lv_iload_n hx hb dX1_drownAround_22 rfl (lv_at hl 1 rfl) ?_
  refine lv_iconst (v := 1) hx hb dX1_drownAround_23 (by decide) ?_
  refine lv_iadd hx hb dX1_drownAround_24 ?_
  refine sr_iald hx hb hw (xa_9 t ad) h dX1_drownAround_25 (fun v6 h => ?_)
  refine lv_icmp_ge (tgt := 121) hx hb dX1_drownAround_26 (by decide) (fun hc => ?_) (fun hc => ?_)
  · have h := sr_ifp h hc
    exact hX2 v3 M5 (he2 _ (Option.some.inj h).symm) _ _ _ hw (lv_sub hl [2] rfl)
  · have h := sr_ifn h hc
    refine lv_aload_n hx hb dX1_drownAround_29 rfl (lv_at hl 0 rfl) ?_
    refine sr_getr hx hb hts qzX1 hown hw (xfF_0 t ad ho) (hts _ qfX1_49) dX1_drownAround_30 ?_
    refine lv_aload_n hx hb dX1_drownAround_33 rfl (lv_at hl 0 rfl) ?_
    refine sr_getr hx hb hts qzX1 hown hw (xfF_0 t ad ho) (hts _ qfX1_49) dX1_drownAround_34 ?_
    refine sr_getr hx hb hts qzX2 hown hw (xf_1_11 t ad) (hts _ qfX1_108) dX1_drownAround_37 ?_
    refine lv_iload hx hb dX1_drownAround_40 (lv_at hl 3 rfl) ?_
    refine sr_iald hx hb hw (xa_10 t ad) h dX1_drownAround_42 (fun v7 h => ?_)
    refine lv_iload_n hx hb dX1_drownAround_43 rfl (lv_at hl 1 rfl) ?_
    obtain ⟨v8, hc, h⟩ := sr_bind1 h
    refine sr_cVi (As := [.int v7, .int a1]) (rest := []) ⟨hx, hb, hml, hown, hts⟩ (k2_across l D t ad v7 a1 M5 _ hc) (cwV 2 hts (sr_goodV qmX1_139 qiX2_across qsX2_across qnX2 qcX2_across) rfl rfl rfl qdX2_across ⟨Nat.le_of_ble_eq_true rfl, Nat.le_of_ble_eq_true rfl⟩) hw hA (xo_1 t ad) rfl hl.1 rfl (Nat.le_of_ble_eq_true rfl) dX1_drownAround_44 (fun H locs hw => ?_)
    refine lv_istore (lv' := [(5, .int v8), (0, .ref (ad o)), (1, .int a1), (3, .int v3), (4, .int v4)]) hx hb dX1_drownAround_47 hl (by decide) rfl (fun ls hl => ?_)
    refine lv_aload_n hx hb dX1_drownAround_49 rfl (lv_at hl 1 rfl) ?_
    refine sr_getr hx hb hts qzX1 hown hw (xfF_0 t ad ho) (hts _ qfX1_49) dX1_drownAround_50 ?_
    refine lv_aload_n hx hb dX1_drownAround_53 rfl (lv_at hl 1 rfl) ?_
    refine sr_getr hx hb hts qzX1 hown hw (xfF_0 t ad ho) (hts _ qfX1_49) dX1_drownAround_54 ?_
    refine sr_getr hx hb hts qzX2 hown hw (xf_1_11 t ad) (hts _ qfX1_108) dX1_drownAround_57 ?_
    refine lv_iload hx hb dX1_drownAround_60 (lv_at hl 4 rfl) ?_
    refine sr_iald hx hb hw (xa_10 t ad) h dX1_drownAround_62 (fun v9 h => ?_)
    obtain ⟨v10, hc, h⟩ := sr_bind1 h
    refine sr_cVi (As := [.int v9]) (rest := []) ⟨hx, hb, hml, hown, hts⟩ (k2_isOpen l D t ad v9 M5 _ hc) (cwV 1 hts (sr_goodV qmX1_111 qiX2_isOpen qsX2_isOpen qnX2 qcX2_isOpen) rfl rfl rfl qdX2_isOpen ⟨Nat.le_of_ble_eq_true rfl, Nat.le_of_ble_eq_true rfl⟩) hw hA (xo_1 t ad) rfl hl.1 rfl (Nat.le_of_ble_eq_true rfl) dX1_drownAround_63 (fun H locs hw => ?_)
    refine lv_if_eq (tgt := 115) hx hb dX1_drownAround_66 (by decide) (fun hc => ?_) (fun hc => ?_)
    · have h := sr_ifp h hc
      refine lv_iinc (v := (v4 + 1)) (lv' := [(4, .int (v4 + 1)), (5, .int v8), (0, .ref (ad o)), (1, .int a1), (3, .int v3)]) hx hb dX1_drownAround_115 hl (k := 4) rfl rfl (by decide) rfl (fun ls hl => ?_)
      refine lv_goto (tgt := 13) hx hb dX1_drownAround_118 (by decide) ?_
      exact hi2 (v3, (v4 + 1), M5) (Option.some.inj h).symm _ _ _ hw (lv_sub hl [2, 3, 4, 0] rfl)
    · have h := sr_ifn h hc
      refine lv_aload_n hx hb dX1_drownAround_69 rfl (lv_at hl 1 rfl) ?_
      refine sr_getr hx hb hts qzX1 hown hw (xfF_7 t ad ho) (hts _ qfX1_24) dX1_drownAround_70 ?_
      refine lv_iload hx hb dX1_drownAround_73 (lv_at hl 0 rfl) ?_
      refine sr_iald hx hb hw (xaF_5 t ad ho) h dX1_drownAround_75 (fun v11 h => ?_)
      refine lv_aload_n hx hb dX1_drownAround_76 rfl (lv_at hl 1 rfl) ?_
      refine sr_geti hx hb hts qzX1 hown hw (xfF_2 t ad ho) (hts _ qfX1_57) h dX1_drownAround_77 (fun v12 h => ?_)
      refine lv_icmp_ne (tgt := 115) hx hb dX1_drownAround_80 (by decide) (fun hc => ?_) (fun hc => ?_)
      · have h := sr_ifn h hc
        refine lv_iinc (v := (v4 + 1)) (lv' := [(4, .int (v4 + 1)), (5, .int v8), (0, .ref (ad o)), (1, .int a1), (3, .int v3)]) hx hb dX1_drownAround_115 hl (k := 4) rfl rfl (by decide) rfl (fun ls hl => ?_)
        refine lv_goto (tgt := 13) hx hb dX1_drownAround_118 (by decide) ?_
        exact hi2 (v3, (v4 + 1), M5) (Option.some.inj h).symm _ _ _ hw (lv_sub hl [2, 3, 4, 0] rfl)
      · have h := sr_ifp h hc
        refine lv_aload_n hx hb dX1_drownAround_83 rfl (lv_at hl 1 rfl) ?_
        refine sr_getr hx hb hts qzX1 hown hw (xfF_8 t ad ho) (hts _ qfX1_27) dX1_drownAround_84 ?_
        refine lv_iload hx hb dX1_drownAround_87 (lv_at hl 0 rfl) ?_
        refine sr_iald hx hb hw (xaF_6 t ad ho) h dX1_drownAround_89 (fun v13 h => ?_)
        refine lv_if_ge (tgt := 115) hx hb dX1_drownAround_90 (by decide) (fun hc => ?_) (fun hc => ?_)
        · have h := sr_ifp h hc
          refine lv_iinc (v := (v4 + 1)) (lv' := [(4, .int (v4 + 1)), (5, .int v8), (0, .ref (ad o)), (1, .int a1), (3, .int v3)]) hx hb dX1_drownAround_115 hl (k := 4) rfl rfl (by decide) rfl (fun ls hl => ?_)
          refine lv_goto (tgt := 13) hx hb dX1_drownAround_118 (by decide) ?_
          exact hi2 (v3, (v4 + 1), M5) (Option.some.inj h).symm _ _ _ hw (lv_sub hl [2, 3, 4, 0] rfl)
        · have h := sr_ifn h hc
          refine lv_aload_n hx hb dX1_drownAround_93 rfl (lv_at hl 1 rfl) ?_
          refine sr_getr hx hb hts qzX1 hown hw (xfF_8 t ad ho) (hts _ qfX1_27) dX1_drownAround_94 ?_
          refine lv_iload hx hb dX1_drownAround_97 (lv_at hl 0 rfl) ?_
          refine lv_aload_n hx hb dX1_drownAround_99 rfl (lv_at hl 1 rfl) ?_
          refine sr_geti hx hb hts qzX1 hown hw (xfF_9 t ad ho) (hts _ qfX1_61) h dX1_drownAround_100 (fun v14 h => ?_)
          refine sr_iast hx hb hw (xaF_6 t ad ho) h dX1_drownAround_103 (fun M15 H locs h hw => ?_)
          refine lv_aload_n hx hb dX1_drownAround_104 rfl (lv_at hl 1 rfl) ?_
          refine sr_getr hx hb hts qzX1 hown hw (xfF_14 t ad ho) (hts _ qfX1_42) dX1_drownAround_105 ?_
          refine lv_iload_n hx hb dX1_drownAround_108 rfl (lv_at hl 3 rfl) ?_
          refine lv_iload hx hb dX1_drownAround_109 (lv_at hl 0 rfl) ?_
          refine sr_iast hx hb hw (xaF_11 t ad ho) h dX1_drownAround_111 (fun M16 H locs h hw => ?_)
          refine lv_iinc (v := (v3 + 1)) (lv' := [(3, .int (v3 + 1)), (5, .int v8), (0, .ref (ad o)), (1, .int a1), (4, .int v4)]) hx hb dX1_drownAround_112 hl (k := 3) rfl rfl (by decide) rfl (fun ls hl => ?_)
          refine lv_iinc (v := (v4 + 1)) (lv' := [(4, .int (v4 + 1)), (3, .int (v3 + 1)), (5, .int v8), (0, .ref (ad o)), (1, .int a1)]) hx hb dX1_drownAround_115 hl (k := 4) rfl rfl (by decide) rfl (fun ls hl => ?_)
          refine lv_goto (tgt := 13) hx hb dX1_drownAround_118 (by decide) ?_
          exact hi2 ((v3 + 1), (v4 + 1), M16) (Option.some.inj h).symm _ _ _ hw (lv_sub hl [3, 4, 1, 0] rfl)

noncomputable def f1_greatestRankOpened_L4 (o : Nat) (M : sr_M) (v2 : Int32) (v3 : Int32) : Option ((Int32 × Int32) ⊕ (Int32)) :=
sr_bnd (M.1 o 2) fun v4 =>
if v4 < v3 then
(some (.inr v2))
else
(sr_ld v3 121 (M.1 (o + 1)) fun v5 =>
sr_ld v5 300 (M.1 7) fun v6 =>
sr_bnd (if v2 < v6 then v6 else v2) fun (v7 : Int32) =>
some (.inl (v7, (v3 + 1))))
noncomputable def f1_greatestRankOpened (o : Nat) (M : sr_M) : Option (Int32) :=
(sr_lp (fun z1 : Int32 × Int32 => f1_greatestRankOpened_L4 o M z1.1 z1.2) ((-1), 1)).bind fun w1 =>
some w1
set_option maxHeartbeats 4000000 in
set_option maxRecDepth 100000 in
theorem k1_greatestRankOpened (l : Launch) (D : va_G) (t : Nat → ClassId) (ad : Nat → Nat) (o : Nat) (ho : xoF o) (M : sr_M) (r : Int32) (h : f1_greatestRankOpened o M = some r) : sr_Mi l D vwCl (xty t) ad (xcf t ad) 62 yX1_greatestRankOpened (.code yX1_greatestRankOpened cX1_greatestRankOpened 3 (some .int) :: sr_tbl) ({ frames := 1, cells := 0, slots := 0, locals := 21 }) [.ref (ad o)] M r M := by
  refine sr_open_i (cc := cX1_greatestRankOpened) (maxL := 3) (by decide) rfl (Nat.le_of_ble_eq_true rfl) ?_
  intro p e s m args below meth c A Q ls hx hb hml hts0 hown hA hw hl ret
  have hts : ∀ w ∈ sr_tbl, w.before args s = true := fun w hw => hts0 w (List.mem_cons_of_mem _ hw)
  have hown : s.vm.findClass RX1 = some m.cls := hown
  have hl : lv_has ls 3 [(0, .ref (ad o))] := hl
  have hw : xH D t ad A s M s.heap [] := hw
  unfold f1_greatestRankOpened at h
  refine lv_iconst (v := (-1)) hx hb dX1_greatestRankOpened_0 (by decide) ?_
  refine lv_istore_n (lv' := [(1, .int (-1)), (0, .ref (ad o))]) hx hb dX1_greatestRankOpened_1 rfl hl (by decide) rfl (fun ls hl => ?_)
  refine lv_iconst (v := 1) hx hb dX1_greatestRankOpened_2 (by decide) ?_
  refine lv_istore_n (lv' := [(2, .int 1), (1, .int (-1)), (0, .ref (ad o))]) hx hb dX1_greatestRankOpened_3 rfl hl (by decide) rfl (fun ls hl => ?_)
  obtain ⟨x1, hlp, hE1⟩ := sr_bind h
  have hX1 : ∀ (v8 : Int32), v8 = x1 → ∀ (H : Heap) (locs : List Loc) (ls : Array Slot), xH D t ad A s M H locs → lv_has ls 3 [(1, .int v8)] → W p l e ({ frames := 1, cells := 0, slots := 0, locals := 21 }) s m args below meth c H locs 0 0 Q (F0 m 37 ls []) := by
    intro v8 ex H locs ls hw hl
    have h := hE1 _ ex
    try dsimp only at h
    refine lv_iload_n hx hb dX1_greatestRankOpened_37 rfl (lv_at hl 0 rfl) ?_
    obtain rfl := Option.some.inj h
    exact ret _ _ _ _ hw rfl dX1_greatestRankOpened_38
  refine sr_lp_rule (fun (z1 : Int32 × Int32) => ∀ (H : Heap) (locs : List Loc) (ls : Array Slot), xH D t ad A s M H locs → lv_has ls 3 [(0, .ref (ad o)), (1, .int z1.1), (2, .int z1.2)] → W p l e ({ frames := 1, cells := 0, slots := 0, locals := 21 }) s m args below meth c H locs 0 0 Q (F0 m 4 ls [])) ?_ hlp _ _ _ hw (lv_sub hl [2, 1, 0] rfl)
  rintro ⟨v2, v3⟩ y1 h hi1 he1 H locs ls hw hl
  have h : f1_greatestRankOpened_L4 o M v2 v3 = some y1 := h
  have hw : xH D t ad A s M H locs := hw
  have hl : lv_has ls 3 [(0, .ref (ad o)), (1, .int v2), (2, .int v3)] := hl
  unfold f1_greatestRankOpened_L4 at h
  refine lv_iload_n hx hb dX1_greatestRankOpened_4 rfl (lv_at hl 2 rfl) ?_
  refine lv_aload_n hx hb dX1_greatestRankOpened_5 rfl (lv_at hl 0 rfl) ?_
  refine sr_geti hx hb hts qzX1 hown hw (xfF_2 t ad ho) (hts _ qfX1_57) h dX1_greatestRankOpened_6 (fun v4 h => ?_)
  refine lv_icmp_gt (tgt := 37) hx hb dX1_greatestRankOpened_9 (by decide) (fun hc => ?_) (fun hc => ?_)
  · have h := sr_ifp h hc
    exact hX1 v2 (he1 _ (Option.some.inj h).symm) _ _ _ hw (lv_sub hl [1] rfl)
  · have h := sr_ifn h hc
    refine lv_iload_n hx hb dX1_greatestRankOpened_12 rfl (lv_at hl 1 rfl) ?_
    refine lv_aload_n hx hb dX1_greatestRankOpened_13 rfl (lv_at hl 0 rfl) ?_
    refine sr_getr hx hb hts qzX1 hown hw (xfF_0 t ad ho) (hts _ qfX1_49) dX1_greatestRankOpened_14 ?_
    refine sr_getr hx hb hts qzX2 hown hw (xf_1_7 t ad) (hts _ qfX1_118) dX1_greatestRankOpened_17 ?_
    refine lv_aload_n hx hb dX1_greatestRankOpened_20 rfl (lv_at hl 0 rfl) ?_
    refine sr_getr hx hb hts qzX1 hown hw (xfF_3 t ad ho) (hts _ qfX1_9) dX1_greatestRankOpened_21 ?_
    refine lv_iload_n hx hb dX1_greatestRankOpened_24 rfl (lv_at hl 2 rfl) ?_
    refine sr_iald hx hb hw (xaF_1 t ad ho) h dX1_greatestRankOpened_25 (fun v5 h => ?_)
    refine sr_iald hx hb hw (xa_7 t ad) h dX1_greatestRankOpened_26 (fun v6 h => ?_)
    refine va_mmax hx hb (hml.trans hl.1.symm) hown (hts _ qmX1_148) (hts _ qtJ9_max_7cf53) (hts _ qnJ9) (hts _ qcJ9_max_7cf53) (Nat.le_of_ble_eq_true rfl) (Nat.le_of_ble_eq_true rfl) (Nat.zero_le _) (Nat.zero_le _) dX1_greatestRankOpened_27 ?_
    obtain ⟨v7, ev7⟩ : ∃ z : Int32, z = if v2 < v6 then v6 else v2 := ⟨_, rfl⟩
    rw [← ev7]
    have h := sr_bnde h v7 ev7
    refine lv_istore_n (lv' := [(1, .int v7), (0, .ref (ad o)), (2, .int v3)]) hx hb dX1_greatestRankOpened_30 rfl hl (by decide) rfl (fun ls hl => ?_)
    refine lv_iinc (v := (v3 + 1)) (lv' := [(2, .int (v3 + 1)), (1, .int v7), (0, .ref (ad o))]) hx hb dX1_greatestRankOpened_31 hl (k := 2) rfl rfl (by decide) rfl (fun ls hl => ?_)
    refine lv_goto (tgt := 4) hx hb dX1_greatestRankOpened_34 (by decide) ?_
    exact hi1 (v7, (v3 + 1)) (Option.some.inj h).symm _ _ _ hw (lv_sub hl [2, 1, 0] rfl)

noncomputable def f1_addLake_L21 (o : Nat) (v5 : Int32) (v6 : Int32) (M7 : sr_M) : Option ((Int32 × Int32 × sr_M) ⊕ (Int32 × sr_M)) :=
if v5 ≤ v6 then
(some (.inr (v5, M7)))
else
(if 120 ≤ v6 then
(some (.inr (v5, M7)))
else
(sr_ld v6 120 (M7.1 (o + 11)) fun v8 =>
sr_bd2 (f1_drownAround o v8 v5 M7) fun v9 M10 =>
some (.inl (v9, (v6 + 1), M10))))
noncomputable def f1_addLake (o : Nat) (a1 : Int32) (M : sr_M) : Option (sr_M) :=
sr_bnd (M.1 o 9) fun v1 =>
sr_st a1 120 M (o + 6) v1 fun M2 =>
sr_st 0 120 M2 (o + 11) a1 fun M3 =>
(sr_lp (fun z4 : Int32 × Int32 × sr_M => f1_addLake_L21 o z4.1 z4.2.1 z4.2.2) (1, 0, M3)).bind fun w4 =>
sr_bnd (w4.2.1 o 9) fun v13 =>
sr_bnd (w4.2.1 o 2) fun v14 =>
sr_st v13 120 w4.2 (o + 7) v14 fun M15 =>
sr_bnd (M15.1 o 9) fun v16 =>
sr_st v16 120 M15 (o + 8) w4.1 fun M17 =>
sr_bnd (M17.1 o 9) fun v18 =>
sr_st v18 120 M17 (o + 9) a1 fun M19 =>
sr_bnd (M19.1 o 9) fun v20 =>
(f1_greatestRankOpened o M19).bind fun v21 =>
sr_st v20 120 M19 (o + 10) v21 fun M22 =>
sr_bnd (M22.1 o 9) fun v23 =>
sr_put M22 o 9 (v23 + 1) fun M24 =>
some M24
set_option maxHeartbeats 4000000 in
set_option maxRecDepth 100000 in
theorem k1_addLake (l : Launch) (D : va_G) (t : Nat → ClassId) (ad : Nat → Nat) (o : Nat) (ho : xoF o) (a1 : Int32) (M : sr_M) (M' : sr_M) (h : f1_addLake o a1 M = some M') : sr_Mv l D vwCl (xty t) ad (xcf t ad) 62 yX1_addLake (.code yX1_addLake cX1_addLake 4 (none) :: sr_tbl) ({ frames := 2, cells := 0, slots := 0, locals := 47 }) [.ref (ad o), .int a1] M M' := by
  refine sr_open_v (cc := cX1_addLake) (maxL := 4) (by decide) rfl (Nat.le_of_ble_eq_true rfl) ?_
  intro p e s m args below meth c A Q ls hx hb hml hts0 hown hA hw hl ret
  have hts : ∀ w ∈ sr_tbl, w.before args s = true := fun w hw => hts0 w (List.mem_cons_of_mem _ hw)
  have hown : s.vm.findClass RX1 = some m.cls := hown
  have hl : lv_has ls 4 [(0, .ref (ad o)), (1, .int a1)] := hl
  have hw : xH D t ad A s M s.heap [] := hw
  unfold f1_addLake at h
  refine lv_aload_n hx hb dX1_addLake_0 rfl (lv_at hl 0 rfl) ?_
  refine sr_getr hx hb hts qzX1 hown hw (xfF_8 t ad ho) (hts _ qfX1_27) dX1_addLake_1 ?_
  refine lv_iload_n hx hb dX1_addLake_4 rfl (lv_at hl 1 rfl) ?_
  refine lv_aload_n hx hb dX1_addLake_5 rfl (lv_at hl 0 rfl) ?_
  refine sr_geti hx hb hts qzX1 hown hw (xfF_9 t ad ho) (hts _ qfX1_61) h dX1_addLake_6 (fun v1 h => ?_)
  refine sr_iast hx hb hw (xaF_6 t ad ho) h dX1_addLake_9 (fun M2 H locs h hw => ?_)
  refine lv_aload_n hx hb dX1_addLake_10 rfl (lv_at hl 0 rfl) ?_
  refine sr_getr hx hb hts qzX1 hown hw (xfF_14 t ad ho) (hts _ qfX1_42) dX1_addLake_11 ?_
  refine lv_iconst (v := 0) hx hb dX1_addLake_14 (by decide) ?_
  refine lv_iload_n hx hb dX1_addLake_15 rfl (lv_at hl 1 rfl) ?_
  refine sr_iast hx hb hw (xaF_11 t ad ho) h dX1_addLake_16 (fun M3 H locs h hw => ?_)
  refine lv_iconst (v := 1) hx hb dX1_addLake_17 (by decide) ?_
  refine lv_istore_n (lv' := [(2, .int 1), (0, .ref (ad o)), (1, .int a1)]) hx hb dX1_addLake_18 rfl hl (by decide) rfl (fun ls hl => ?_)
  refine lv_iconst (v := 0) hx hb dX1_addLake_19 (by decide) ?_
  refine lv_istore_n (lv' := [(3, .int 0), (2, .int 1), (0, .ref (ad o)), (1, .int a1)]) hx hb dX1_addLake_20 rfl hl (by decide) rfl (fun ls hl => ?_)
  obtain ⟨x4, hlp, hE4⟩ := sr_bind h
  have hX4 : ∀ (v11 : Int32) (M12 : sr_M), (v11, M12) = x4 → ∀ (H : Heap) (locs : List Loc) (ls : Array Slot), xH D t ad A s M12 H locs → lv_has ls 4 [(0, .ref (ad o)), (1, .int a1), (2, .int v11)] → W p l e ({ frames := 2, cells := 0, slots := 0, locals := 47 }) s m args below meth c H locs 0 0 Q (F0 m 50 ls []) := by
    intro v11 M12 ex H locs ls hw hl
    have h := hE4 _ ex
    try dsimp only at h
    refine lv_aload_n hx hb dX1_addLake_50 rfl (lv_at hl 0 rfl) ?_
    refine sr_getr hx hb hts qzX1 hown hw (xfF_10 t ad ho) (hts _ qfX1_30) dX1_addLake_51 ?_
    refine lv_aload_n hx hb dX1_addLake_54 rfl (lv_at hl 0 rfl) ?_
    refine sr_geti hx hb hts qzX1 hown hw (xfF_9 t ad ho) (hts _ qfX1_61) h dX1_addLake_55 (fun v13 h => ?_)
    refine lv_aload_n hx hb dX1_addLake_58 rfl (lv_at hl 0 rfl) ?_
    refine sr_geti hx hb hts qzX1 hown hw (xfF_2 t ad ho) (hts _ qfX1_57) h dX1_addLake_59 (fun v14 h => ?_)
    refine sr_iast hx hb hw (xaF_7 t ad ho) h dX1_addLake_62 (fun M15 H locs h hw => ?_)
    refine lv_aload_n hx hb dX1_addLake_63 rfl (lv_at hl 0 rfl) ?_
    refine sr_getr hx hb hts qzX1 hown hw (xfF_11 t ad ho) (hts _ qfX1_33) dX1_addLake_64 ?_
    refine lv_aload_n hx hb dX1_addLake_67 rfl (lv_at hl 0 rfl) ?_
    refine sr_geti hx hb hts qzX1 hown hw (xfF_9 t ad ho) (hts _ qfX1_61) h dX1_addLake_68 (fun v16 h => ?_)
    refine lv_iload_n hx hb dX1_addLake_71 rfl (lv_at hl 2 rfl) ?_
    refine sr_iast hx hb hw (xaF_8 t ad ho) h dX1_addLake_72 (fun M17 H locs h hw => ?_)
    refine lv_aload_n hx hb dX1_addLake_73 rfl (lv_at hl 0 rfl) ?_
    refine sr_getr hx hb hts qzX1 hown hw (xfF_12 t ad ho) (hts _ qfX1_36) dX1_addLake_74 ?_
    refine lv_aload_n hx hb dX1_addLake_77 rfl (lv_at hl 0 rfl) ?_
    refine sr_geti hx hb hts qzX1 hown hw (xfF_9 t ad ho) (hts _ qfX1_61) h dX1_addLake_78 (fun v18 h => ?_)
    refine lv_iload_n hx hb dX1_addLake_81 rfl (lv_at hl 1 rfl) ?_
    refine sr_iast hx hb hw (xaF_9 t ad ho) h dX1_addLake_82 (fun M19 H locs h hw => ?_)
    refine lv_aload_n hx hb dX1_addLake_83 rfl (lv_at hl 0 rfl) ?_
    refine sr_getr hx hb hts qzX1 hown hw (xfF_13 t ad ho) (hts _ qfX1_39) dX1_addLake_84 ?_
    refine lv_aload_n hx hb dX1_addLake_87 rfl (lv_at hl 0 rfl) ?_
    refine sr_geti hx hb hts qzX1 hown hw (xfF_9 t ad ho) (hts _ qfX1_61) h dX1_addLake_88 (fun v20 h => ?_)
    refine lv_aload_n hx hb dX1_addLake_91 rfl (lv_at hl 0 rfl) ?_
    obtain ⟨v21, hc, h⟩ := sr_bind1 h
    refine sr_cVi (As := []) (rest := [.int v20, .ref (ad (o + 10))]) ⟨hx, hb, hml, hown, hts⟩ (k1_greatestRankOpened l D t ad o ho M19 _ hc) (cwV 0 hts (sr_goodV qmX1_145 qiX1_greatestRankOpened qsX1_greatestRankOpened qnX1 qcX1_greatestRankOpened) rfl rfl rfl qdX1_greatestRankOpened ⟨Nat.le_of_ble_eq_true rfl, Nat.le_of_ble_eq_true rfl⟩) hw hA (xobF t ad ho) rfl hl.1 rfl (Nat.le_of_ble_eq_true rfl) dX1_addLake_92 (fun H locs hw => ?_)
    refine sr_iast hx hb hw (xaF_10 t ad ho) h dX1_addLake_95 (fun M22 H locs h hw => ?_)
    refine lv_aload_n hx hb dX1_addLake_96 rfl (lv_at hl 0 rfl) ?_
    refine lv_dup hx hb dX1_addLake_97 rfl ?_
    refine sr_geti hx hb hts qzX1 hown hw (xfF_9 t ad ho) (hts _ qfX1_61) h dX1_addLake_98 (fun v23 h => ?_)
    refine lv_iconst (v := 1) hx hb dX1_addLake_101 (by decide) ?_
    refine lv_iadd hx hb dX1_addLake_102 ?_
    refine sr_puti hx hb hts qzX1 tyX1 tyX1_ok nmX1 hown hw (xfF_9 t ad ho) rfl rfl (hts _ qfX1_61) h dX1_addLake_103 (fun M24 H locs h hw => ?_)
    obtain rfl := Option.some.inj h
    exact ret _ _ _ _ hw dX1_addLake_106
  refine sr_lp_rule (fun (z4 : Int32 × Int32 × sr_M) => ∀ (H : Heap) (locs : List Loc) (ls : Array Slot), xH D t ad A s z4.2.2 H locs → lv_has ls 4 [(0, .ref (ad o)), (1, .int a1), (2, .int z4.1), (3, .int z4.2.1)] → W p l e ({ frames := 2, cells := 0, slots := 0, locals := 47 }) s m args below meth c H locs 0 0 Q (F0 m 21 ls [])) ?_ hlp _ _ _ hw (lv_sub hl [2, 3, 1, 0] rfl)
  rintro ⟨v5, v6, M7⟩ y4 h hi4 he4 H locs ls hw hl
  have h : f1_addLake_L21 o v5 v6 M7 = some y4 := h
  have hw : xH D t ad A s M7 H locs := hw
  have hl : lv_has ls 4 [(0, .ref (ad o)), (1, .int a1), (2, .int v5), (3, .int v6)] := hl
  unfold f1_addLake_L21 at h
  refine lv_iload_n hx hb dX1_addLake_21 rfl (lv_at hl 3 rfl) ?_
  refine lv_iload_n hx hb dX1_addLake_22 rfl (lv_at hl 2 rfl) ?_
  refine lv_icmp_ge (tgt := 50) hx hb dX1_addLake_23 (by decide) (fun hc => ?_) (fun hc => ?_)
  · have h := sr_ifp h hc
    exact hX4 v5 M7 (he4 _ (Option.some.inj h).symm) _ _ _ hw (lv_sub hl [0, 1, 2] rfl)
  · have h := sr_ifn h hc
    refine lv_iload_n hx hb dX1_addLake_26 rfl (lv_at hl 3 rfl) ?_
    refine lv_bipush (v := 120) hx hb dX1_addLake_27 (by decide) ?_
    refine lv_icmp_ge (tgt := 50) hx hb dX1_addLake_29 (by decide) (fun hc => ?_) (fun hc => ?_)
    · have h := sr_ifp h hc
      exact hX4 v5 M7 (he4 _ (Option.some.inj h).symm) _ _ _ hw (lv_sub hl [0, 1, 2] rfl)
    · have h := sr_ifn h hc
      refine lv_aload_n hx hb dX1_addLake_32 rfl (lv_at hl 0 rfl) ?_
      refine lv_aload_n hx hb dX1_addLake_33 rfl (lv_at hl 0 rfl) ?_
      refine sr_getr hx hb hts qzX1 hown hw (xfF_14 t ad ho) (hts _ qfX1_42) dX1_addLake_34 ?_
      refine lv_iload_n hx hb dX1_addLake_37 rfl (lv_at hl 3 rfl) ?_
      refine sr_iald hx hb hw (xaF_11 t ad ho) h dX1_addLake_38 (fun v8 h => ?_)
      refine lv_iload_n hx hb dX1_addLake_39 rfl (lv_at hl 2 rfl) ?_
      obtain ⟨v9, M10, hc, h⟩ := sr_bind2 h
      refine sr_cVi (As := [.int v8, .int v5]) (rest := []) ⟨hx, hb, hml, hown, hts⟩ (k1_drownAround l D t ad o ho v8 v5 M7 _ _ hc) (cwV 2 hts (sr_goodV qmX1_142 qiX1_drownAround qsX1_drownAround qnX1 qcX1_drownAround) rfl rfl rfl qdX1_drownAround ⟨Nat.le_of_ble_eq_true rfl, Nat.le_of_ble_eq_true rfl⟩) hw hA (xobF t ad ho) rfl hl.1 rfl (Nat.le_of_ble_eq_true rfl) dX1_addLake_40 (fun H locs hw => ?_)
      refine lv_istore_n (lv' := [(2, .int v9), (0, .ref (ad o)), (1, .int a1), (3, .int v6)]) hx hb dX1_addLake_43 rfl hl (by decide) rfl (fun ls hl => ?_)
      refine lv_iinc (v := (v6 + 1)) (lv' := [(3, .int (v6 + 1)), (2, .int v9), (0, .ref (ad o)), (1, .int a1)]) hx hb dX1_addLake_44 hl (k := 3) rfl rfl (by decide) rfl (fun ls hl => ?_)
      refine lv_goto (tgt := 21) hx hb dX1_addLake_47 (by decide) ?_
      exact hi4 (v9, (v6 + 1), M10) (Option.some.inj h).symm _ _ _ hw (lv_sub hl [2, 3, 1, 0] rfl)

noncomputable def f1_cutOff_L17 (o : Nat) (v4 : Int32) (M5 : sr_M) : Option ((Int32 × sr_M) ⊕ (sr_M)) :=
sr_bnd (M5.1 1 0) fun v6 =>
if v6 ≤ v4 then
(some (.inr M5))
else
(sr_ld v4 120 (M5.1 (o + 3)) fun v7 =>
if 0 ≤ v7 then
(some (.inl ((v4 + 1), M5)))
else
(sr_ld v4 120 (M5.1 (o + 5)) fun v8 =>
if 0 ≤ v8 then
(some (.inl ((v4 + 1), M5)))
else
(sr_ld v4 120 (M5.1 (o + 12)) fun v9 =>
if v9 = 0 then
(sr_bnd (M5.1 o 2) fun v10 =>
sr_st v4 120 M5 (o + 5) v10 fun M11 =>
some (.inl ((v4 + 1), M11)))
else
(some (.inl ((v4 + 1), M5))))))
noncomputable def f1_cutOff_L73 (o : Nat) (v14 : Int32) (M15 : sr_M) : Option ((Int32 × sr_M) ⊕ (sr_M)) :=
sr_bnd (M15.1 1 0) fun v16 =>
if v16 ≤ v14 then
(some (.inr M15))
else
(sr_ld v14 120 (M15.1 (o + 5)) fun v17 =>
sr_bnd (M15.1 o 2) fun v18 =>
if v17 = v18 then
(sr_ld v14 120 (M15.1 (o + 6)) fun v19 =>
if 0 ≤ v19 then
(some (.inl ((v14 + 1), M15)))
else
((f1_addLake o v14 M15).bind fun M20 =>
some (.inl ((v14 + 1), M20))))
else
(some (.inl ((v14 + 1), M15))))
noncomputable def f1_cutOff (o : Nat) (M : sr_M) : Option (sr_M) :=
sr_bnd (M.1 1 12) fun v1 =>
if v1 = 0 then
(some M)
else
((f1_reachFromOutlets o M).bind fun M2 =>
(sr_lp (fun z3 : Int32 × sr_M => f1_cutOff_L17 o z3.1 z3.2) (0, M2)).bind fun w3 =>
(sr_lp (fun z13 : Int32 × sr_M => f1_cutOff_L73 o z13.1 z13.2) (0, w3)).bind fun w13 =>
some w13)
set_option maxHeartbeats 4000000 in
set_option maxRecDepth 100000 in
theorem k1_cutOff (l : Launch) (D : va_G) (t : Nat → ClassId) (ad : Nat → Nat) (o : Nat) (ho : xoF o) (M : sr_M) (M' : sr_M) (h : f1_cutOff o M = some M') : sr_Mv l D vwCl (xty t) ad (xcf t ad) 62 yX1_cutOff (.code yX1_cutOff cX1_cutOff 2 (none) :: sr_tbl) ({ frames := 3, cells := 0, slots := 0, locals := 70 }) [.ref (ad o)] M M' := by
  refine sr_open_v (cc := cX1_cutOff) (maxL := 2) (by decide) rfl (Nat.le_of_ble_eq_true rfl) ?_
  intro p e s m args below meth c A Q ls hx hb hml hts0 hown hA hw hl ret
  have hts : ∀ w ∈ sr_tbl, w.before args s = true := fun w hw => hts0 w (List.mem_cons_of_mem _ hw)
  have hown : s.vm.findClass RX1 = some m.cls := hown
  have hl : lv_has ls 2 [(0, .ref (ad o))] := hl
  have hw : xH D t ad A s M s.heap [] := hw
  unfold f1_cutOff at h
  refine lv_aload_n hx hb dX1_cutOff_0 rfl (lv_at hl 0 rfl) ?_
  refine sr_getr hx hb hts qzX1 hown hw (xfF_0 t ad ho) (hts _ qfX1_49) dX1_cutOff_1 ?_
  refine sr_geti hx hb hts qzX2 hown hw (xf_1_12 t ad) (hts _ qfX1_125) h dX1_cutOff_4 (fun v1 h => ?_)
  refine lv_if_ne (tgt := 11) hx hb dX1_cutOff_7 (by decide) (fun hc => ?_) (fun hc => ?_)
  · have h := sr_ifn h hc
    refine lv_aload_n hx hb dX1_cutOff_11 rfl (lv_at hl 0 rfl) ?_
    obtain ⟨M2, hc, h⟩ := sr_bind1 h
    refine sr_cVv (As := []) (rest := []) ⟨hx, hb, hml, hown, hts⟩ (k1_reachFromOutlets l D t ad o ho M _ hc) (cwV 0 hts (sr_goodV qmX1_128 qiX1_reachFromOutlets qsX1_reachFromOutlets qnX1 qcX1_reachFromOutlets) rfl rfl rfl qdX1_reachFromOutlets ⟨Nat.le_of_ble_eq_true rfl, Nat.le_of_ble_eq_true rfl⟩) hw hA (xobF t ad ho) rfl hl.1 rfl (Nat.le_of_ble_eq_true rfl) dX1_cutOff_12 (fun H locs hw => ?_)
    refine lv_iconst (v := 0) hx hb dX1_cutOff_15 (by decide) ?_
    refine lv_istore_n (lv' := [(1, .int 0), (0, .ref (ad o))]) hx hb dX1_cutOff_16 rfl hl (by decide) rfl (fun ls hl => ?_)
    obtain ⟨x3, hlp, hE3⟩ := sr_bind h
    have hX3 : ∀ (M12 : sr_M), M12 = x3 → ∀ (H : Heap) (locs : List Loc) (ls : Array Slot), xH D t ad A s M12 H locs → lv_has ls 2 [(0, .ref (ad o))] → W p l e ({ frames := 3, cells := 0, slots := 0, locals := 70 }) s m args below meth c H locs 0 0 Q (F0 m 71 ls []) := by
      intro M12 ex H locs ls hw hl
      have h := hE3 _ ex
      try dsimp only at h
      refine lv_iconst (v := 0) hx hb dX1_cutOff_71 (by decide) ?_
      refine lv_istore_n (lv' := [(1, .int 0), (0, .ref (ad o))]) hx hb dX1_cutOff_72 rfl hl (by decide) rfl (fun ls hl => ?_)
      obtain ⟨x13, hlp, hE13⟩ := sr_bind h
      have hX13 : ∀ (M21 : sr_M), M21 = x13 → ∀ (H : Heap) (locs : List Loc) (ls : Array Slot), xH D t ad A s M21 H locs → lv_has ls 2 [] → W p l e ({ frames := 3, cells := 0, slots := 0, locals := 70 }) s m args below meth c H locs 0 0 Q (F0 m 117 ls []) := by
        intro M21 ex H locs ls hw hl
        have h := hE13 _ ex
        try dsimp only at h
        obtain rfl := Option.some.inj h
        exact ret _ _ _ _ hw dX1_cutOff_117
      refine sr_lp_rule (fun (z13 : Int32 × sr_M) => ∀ (H : Heap) (locs : List Loc) (ls : Array Slot), xH D t ad A s z13.2 H locs → lv_has ls 2 [(0, .ref (ad o)), (1, .int z13.1)] → W p l e ({ frames := 3, cells := 0, slots := 0, locals := 70 }) s m args below meth c H locs 0 0 Q (F0 m 73 ls [])) ?_ hlp _ _ _ hw (lv_sub hl [1, 0] rfl)
      rintro ⟨v14, M15⟩ y13 h hi13 he13 H locs ls hw hl
      have h : f1_cutOff_L73 o v14 M15 = some y13 := h
      have hw : xH D t ad A s M15 H locs := hw
      have hl : lv_has ls 2 [(0, .ref (ad o)), (1, .int v14)] := hl
      unfold f1_cutOff_L73 at h
      refine lv_iload_n hx hb dX1_cutOff_73 rfl (lv_at hl 1 rfl) ?_
      refine lv_aload_n hx hb dX1_cutOff_74 rfl (lv_at hl 0 rfl) ?_
      refine sr_getr hx hb hts qzX1 hown hw (xfF_0 t ad ho) (hts _ qfX1_49) dX1_cutOff_75 ?_
      refine sr_geti hx hb hts qzX2 hown hw (xf_1_0 t ad) (hts _ qfX1_64) h dX1_cutOff_78 (fun v16 h => ?_)
      refine lv_icmp_ge (tgt := 117) hx hb dX1_cutOff_81 (by decide) (fun hc => ?_) (fun hc => ?_)
      · have h := sr_ifp h hc
        exact hX13  M15 (he13 _ (Option.some.inj h).symm) _ _ _ hw (lv_sub hl [] rfl)
      · have h := sr_ifn h hc
        refine lv_aload_n hx hb dX1_cutOff_84 rfl (lv_at hl 0 rfl) ?_
        refine sr_getr hx hb hts qzX1 hown hw (xfF_7 t ad ho) (hts _ qfX1_24) dX1_cutOff_85 ?_
        refine lv_iload_n hx hb dX1_cutOff_88 rfl (lv_at hl 1 rfl) ?_
        refine sr_iald hx hb hw (xaF_5 t ad ho) h dX1_cutOff_89 (fun v17 h => ?_)
        refine lv_aload_n hx hb dX1_cutOff_90 rfl (lv_at hl 0 rfl) ?_
        refine sr_geti hx hb hts qzX1 hown hw (xfF_2 t ad ho) (hts _ qfX1_57) h dX1_cutOff_91 (fun v18 h => ?_)
        refine lv_icmp_ne (tgt := 111) hx hb dX1_cutOff_94 (by decide) (fun hc => ?_) (fun hc => ?_)
        · have h := sr_ifn h hc
          refine lv_iinc (v := (v14 + 1)) (lv' := [(1, .int (v14 + 1)), (0, .ref (ad o))]) hx hb dX1_cutOff_111 hl (k := 1) rfl rfl (by decide) rfl (fun ls hl => ?_)
          refine lv_goto (tgt := 73) hx hb dX1_cutOff_114 (by decide) ?_
          exact hi13 ((v14 + 1), M15) (Option.some.inj h).symm _ _ _ hw (lv_sub hl [1, 0] rfl)
        · have h := sr_ifp h hc
          refine lv_aload_n hx hb dX1_cutOff_97 rfl (lv_at hl 0 rfl) ?_
          refine sr_getr hx hb hts qzX1 hown hw (xfF_8 t ad ho) (hts _ qfX1_27) dX1_cutOff_98 ?_
          refine lv_iload_n hx hb dX1_cutOff_101 rfl (lv_at hl 1 rfl) ?_
          refine sr_iald hx hb hw (xaF_6 t ad ho) h dX1_cutOff_102 (fun v19 h => ?_)
          refine lv_if_ge (tgt := 111) hx hb dX1_cutOff_103 (by decide) (fun hc => ?_) (fun hc => ?_)
          · have h := sr_ifp h hc
            refine lv_iinc (v := (v14 + 1)) (lv' := [(1, .int (v14 + 1)), (0, .ref (ad o))]) hx hb dX1_cutOff_111 hl (k := 1) rfl rfl (by decide) rfl (fun ls hl => ?_)
            refine lv_goto (tgt := 73) hx hb dX1_cutOff_114 (by decide) ?_
            exact hi13 ((v14 + 1), M15) (Option.some.inj h).symm _ _ _ hw (lv_sub hl [1, 0] rfl)
          · have h := sr_ifn h hc
            refine lv_aload_n hx hb dX1_cutOff_106 rfl (lv_at hl 0 rfl) ?_
            refine lv_iload_n hx hb dX1_cutOff_107 rfl (lv_at hl 1 rfl) ?_
            obtain ⟨M20, hc, h⟩ := sr_bind1 h
            refine sr_cVv (As := [.int v14]) (rest := []) ⟨hx, hb, hml, hown, hts⟩ (k1_addLake l D t ad o ho v14 M15 _ hc) (cwV 1 hts (sr_goodV qmX1_131 qiX1_addLake qsX1_addLake qnX1 qcX1_addLake) rfl rfl rfl qdX1_addLake ⟨Nat.le_of_ble_eq_true rfl, Nat.le_of_ble_eq_true rfl⟩) hw hA (xobF t ad ho) rfl hl.1 rfl (Nat.le_of_ble_eq_true rfl) dX1_cutOff_108 (fun H locs hw => ?_)
            refine lv_iinc (v := (v14 + 1)) (lv' := [(1, .int (v14 + 1)), (0, .ref (ad o))]) hx hb dX1_cutOff_111 hl (k := 1) rfl rfl (by decide) rfl (fun ls hl => ?_)
            refine lv_goto (tgt := 73) hx hb dX1_cutOff_114 (by decide) ?_
            exact hi13 ((v14 + 1), M20) (Option.some.inj h).symm _ _ _ hw (lv_sub hl [1, 0] rfl)
    refine sr_lp_rule (fun (z3 : Int32 × sr_M) => ∀ (H : Heap) (locs : List Loc) (ls : Array Slot), xH D t ad A s z3.2 H locs → lv_has ls 2 [(0, .ref (ad o)), (1, .int z3.1)] → W p l e ({ frames := 3, cells := 0, slots := 0, locals := 70 }) s m args below meth c H locs 0 0 Q (F0 m 17 ls [])) ?_ hlp _ _ _ hw (lv_sub hl [1, 0] rfl)
    rintro ⟨v4, M5⟩ y3 h hi3 he3 H locs ls hw hl
    have h : f1_cutOff_L17 o v4 M5 = some y3 := h
    have hw : xH D t ad A s M5 H locs := hw
    have hl : lv_has ls 2 [(0, .ref (ad o)), (1, .int v4)] := hl
    unfold f1_cutOff_L17 at h
    refine lv_iload_n hx hb dX1_cutOff_17 rfl (lv_at hl 1 rfl) ?_
    refine lv_aload_n hx hb dX1_cutOff_18 rfl (lv_at hl 0 rfl) ?_
    refine sr_getr hx hb hts qzX1 hown hw (xfF_0 t ad ho) (hts _ qfX1_49) dX1_cutOff_19 ?_
    refine sr_geti hx hb hts qzX2 hown hw (xf_1_0 t ad) (hts _ qfX1_64) h dX1_cutOff_22 (fun v6 h => ?_)
    refine lv_icmp_ge (tgt := 71) hx hb dX1_cutOff_25 (by decide) (fun hc => ?_) (fun hc => ?_)
    · have h := sr_ifp h hc
      exact hX3  M5 (he3 _ (Option.some.inj h).symm) _ _ _ hw (lv_sub hl [0] rfl)
    · have h := sr_ifn h hc
      refine lv_aload_n hx hb dX1_cutOff_28 rfl (lv_at hl 0 rfl) ?_
      refine sr_getr hx hb hts qzX1 hown hw (xfF_5 t ad ho) (hts _ qfX1_18) dX1_cutOff_29 ?_
      refine lv_iload_n hx hb dX1_cutOff_32 rfl (lv_at hl 1 rfl) ?_
      refine sr_iald hx hb hw (xaF_3 t ad ho) h dX1_cutOff_33 (fun v7 h => ?_)
      refine lv_if_ge (tgt := 65) hx hb dX1_cutOff_34 (by decide) (fun hc => ?_) (fun hc => ?_)
      · have h := sr_ifp h hc
        refine lv_iinc (v := (v4 + 1)) (lv' := [(1, .int (v4 + 1)), (0, .ref (ad o))]) hx hb dX1_cutOff_65 hl (k := 1) rfl rfl (by decide) rfl (fun ls hl => ?_)
        refine lv_goto (tgt := 17) hx hb dX1_cutOff_68 (by decide) ?_
        exact hi3 ((v4 + 1), M5) (Option.some.inj h).symm _ _ _ hw (lv_sub hl [1, 0] rfl)
      · have h := sr_ifn h hc
        refine lv_aload_n hx hb dX1_cutOff_37 rfl (lv_at hl 0 rfl) ?_
        refine sr_getr hx hb hts qzX1 hown hw (xfF_7 t ad ho) (hts _ qfX1_24) dX1_cutOff_38 ?_
        refine lv_iload_n hx hb dX1_cutOff_41 rfl (lv_at hl 1 rfl) ?_
        refine sr_iald hx hb hw (xaF_5 t ad ho) h dX1_cutOff_42 (fun v8 h => ?_)
        refine lv_if_ge (tgt := 65) hx hb dX1_cutOff_43 (by decide) (fun hc => ?_) (fun hc => ?_)
        · have h := sr_ifp h hc
          refine lv_iinc (v := (v4 + 1)) (lv' := [(1, .int (v4 + 1)), (0, .ref (ad o))]) hx hb dX1_cutOff_65 hl (k := 1) rfl rfl (by decide) rfl (fun ls hl => ?_)
          refine lv_goto (tgt := 17) hx hb dX1_cutOff_68 (by decide) ?_
          exact hi3 ((v4 + 1), M5) (Option.some.inj h).symm _ _ _ hw (lv_sub hl [1, 0] rfl)
        · have h := sr_ifn h hc
          refine lv_aload_n hx hb dX1_cutOff_46 rfl (lv_at hl 0 rfl) ?_
          refine sr_getr hx hb hts qzX1 hown hw (xfF_15 t ad ho) (hts _ qfX1_45) dX1_cutOff_47 ?_
          refine lv_iload_n hx hb dX1_cutOff_50 rfl (lv_at hl 1 rfl) ?_
          refine sr_zald hx hb hw (xaF_12 t ad ho) h dX1_cutOff_51 (fun v9 h => ?_)
          refine lv_if_ne (tgt := 65) hx hb dX1_cutOff_52 (by decide) (fun hc => ?_) (fun hc => ?_)
          · have h := sr_ifn h hc
            refine lv_iinc (v := (v4 + 1)) (lv' := [(1, .int (v4 + 1)), (0, .ref (ad o))]) hx hb dX1_cutOff_65 hl (k := 1) rfl rfl (by decide) rfl (fun ls hl => ?_)
            refine lv_goto (tgt := 17) hx hb dX1_cutOff_68 (by decide) ?_
            exact hi3 ((v4 + 1), M5) (Option.some.inj h).symm _ _ _ hw (lv_sub hl [1, 0] rfl)
          · have h := sr_ifp h hc
            refine lv_aload_n hx hb dX1_cutOff_55 rfl (lv_at hl 0 rfl) ?_
            refine sr_getr hx hb hts qzX1 hown hw (xfF_7 t ad ho) (hts _ qfX1_24) dX1_cutOff_56 ?_
            refine lv_iload_n hx hb dX1_cutOff_59 rfl (lv_at hl 1 rfl) ?_
            refine lv_aload_n hx hb dX1_cutOff_60 rfl (lv_at hl 0 rfl) ?_
            refine sr_geti hx hb hts qzX1 hown hw (xfF_2 t ad ho) (hts _ qfX1_57) h dX1_cutOff_61 (fun v10 h => ?_)
            refine sr_iast hx hb hw (xaF_5 t ad ho) h dX1_cutOff_64 (fun M11 H locs h hw => ?_)
            refine lv_iinc (v := (v4 + 1)) (lv' := [(1, .int (v4 + 1)), (0, .ref (ad o))]) hx hb dX1_cutOff_65 hl (k := 1) rfl rfl (by decide) rfl (fun ls hl => ?_)
            refine lv_goto (tgt := 17) hx hb dX1_cutOff_68 (by decide) ?_
            exact hi3 ((v4 + 1), M11) (Option.some.inj h).symm _ _ _ hw (lv_sub hl [1, 0] rfl)
  · have h := sr_ifp h hc
    obtain rfl := Option.some.inj h
    exact ret _ _ _ _ hw dX1_cutOff_10

noncomputable def f1_start_L17 (o : Nat) (v5 : Int32) (M6 : sr_M) : Option ((Int32 × sr_M) ⊕ (sr_M)) :=
sr_bnd (M6.1 1 0) fun v7 =>
if v7 ≤ v5 then
(some (.inr M6))
else
(sr_ld v5 120 (M6.1 3) fun v8 =>
sr_jn (fun (v10 : Int32) =>
sr_st v5 120 M6 (o + 3) v10 fun M11 =>
sr_st v5 120 M11 (o + 4) (-1) fun M12 =>
sr_st v5 120 M12 (o + 5) (-1) fun M13 =>
sr_st v5 120 M13 (o + 6) (-1) fun M14 =>
some (.inl ((v5 + 1), M14))) fun (K9 : Int32 → Option ((Int32 × sr_M) ⊕ (sr_M))) =>
if v8 = 0 then
(K9 (-1))
else
(K9 0))
noncomputable def f1_start (o : Nat) (M : sr_M) : Option (sr_M) :=
sr_putB M o 1 1 fun M1 =>
sr_put M1 o 2 0 fun M2 =>
sr_put M2 o 9 0 fun M3 =>
(sr_lp (fun z4 : Int32 × sr_M => f1_start_L17 o z4.1 z4.2) (0, M3)).bind fun w4 =>
(f1_cutOff o w4).bind fun M16 =>
some M16
set_option maxHeartbeats 4000000 in
set_option maxRecDepth 100000 in
theorem k1_start (l : Launch) (D : va_G) (t : Nat → ClassId) (ad : Nat → Nat) (o : Nat) (ho : xoF o) (M : sr_M) (M' : sr_M) (h : f1_start o M = some M') : sr_Mv l D vwCl (xty t) ad (xcf t ad) 62 yX1_start (.code yX1_start cX1_start 2 (none) :: sr_tbl) ({ frames := 4, cells := 0, slots := 0, locals := 91 }) [.ref (ad o)] M M' := by
  refine sr_open_v (cc := cX1_start) (maxL := 2) (by decide) rfl (Nat.le_of_ble_eq_true rfl) ?_
  intro p e s m args below meth c A Q ls hx hb hml hts0 hown hA hw hl ret
  have hts : ∀ w ∈ sr_tbl, w.before args s = true := fun w hw => hts0 w (List.mem_cons_of_mem _ hw)
  have hown : s.vm.findClass RX1 = some m.cls := hown
  have hl : lv_has ls 2 [(0, .ref (ad o))] := hl
  have hw : xH D t ad A s M s.heap [] := hw
  unfold f1_start at h
  refine lv_aload_n hx hb dX1_start_0 rfl (lv_at hl 0 rfl) ?_
  refine lv_iconst (v := 1) hx hb dX1_start_1 (by decide) ?_
  refine sr_putz hx hb hts qzX1 tyX1 tyX1_ok nmX1 hown hw (xfF_1 t ad ho) rfl rfl (hts _ qfX1_53) h dX1_start_2 (fun M1 H locs h hw => ?_)
  refine lv_aload_n hx hb dX1_start_5 rfl (lv_at hl 0 rfl) ?_
  refine lv_iconst (v := 0) hx hb dX1_start_6 (by decide) ?_
  refine sr_puti hx hb hts qzX1 tyX1 tyX1_ok nmX1 hown hw (xfF_2 t ad ho) rfl rfl (hts _ qfX1_57) h dX1_start_7 (fun M2 H locs h hw => ?_)
  refine lv_aload_n hx hb dX1_start_10 rfl (lv_at hl 0 rfl) ?_
  refine lv_iconst (v := 0) hx hb dX1_start_11 (by decide) ?_
  refine sr_puti hx hb hts qzX1 tyX1 tyX1_ok nmX1 hown hw (xfF_9 t ad ho) rfl rfl (hts _ qfX1_61) h dX1_start_12 (fun M3 H locs h hw => ?_)
  refine lv_iconst (v := 0) hx hb dX1_start_15 (by decide) ?_
  refine lv_istore_n (lv' := [(1, .int 0), (0, .ref (ad o))]) hx hb dX1_start_16 rfl hl (by decide) rfl (fun ls hl => ?_)
  obtain ⟨x4, hlp, hE4⟩ := sr_bind h
  have hX4 : ∀ (M15 : sr_M), M15 = x4 → ∀ (H : Heap) (locs : List Loc) (ls : Array Slot), xH D t ad A s M15 H locs → lv_has ls 2 [(0, .ref (ad o))] → W p l e ({ frames := 4, cells := 0, slots := 0, locals := 91 }) s m args below meth c H locs 0 0 Q (F0 m 78 ls []) := by
    intro M15 ex H locs ls hw hl
    have h := hE4 _ ex
    try dsimp only at h
    refine lv_aload_n hx hb dX1_start_78 rfl (lv_at hl 0 rfl) ?_
    obtain ⟨M16, hc, h⟩ := sr_bind1 h
    refine sr_cVv (As := []) (rest := []) ⟨hx, hb, hml, hown, hts⟩ (k1_cutOff l D t ad o ho M15 _ hc) (cwV 0 hts (sr_goodV qmX1_72 qiX1_cutOff qsX1_cutOff qnX1 qcX1_cutOff) rfl rfl rfl qdX1_cutOff ⟨Nat.le_of_ble_eq_true rfl, Nat.le_of_ble_eq_true rfl⟩) hw hA (xobF t ad ho) rfl hl.1 rfl (Nat.le_of_ble_eq_true rfl) dX1_start_79 (fun H locs hw => ?_)
    obtain rfl := Option.some.inj h
    exact ret _ _ _ _ hw dX1_start_82
  refine sr_lp_rule (fun (z4 : Int32 × sr_M) => ∀ (H : Heap) (locs : List Loc) (ls : Array Slot), xH D t ad A s z4.2 H locs → lv_has ls 2 [(0, .ref (ad o)), (1, .int z4.1)] → W p l e ({ frames := 4, cells := 0, slots := 0, locals := 91 }) s m args below meth c H locs 0 0 Q (F0 m 17 ls [])) ?_ hlp _ _ _ hw (lv_sub hl [1, 0] rfl)
  rintro ⟨v5, M6⟩ y4 h hi4 he4 H locs ls hw hl
  have h : f1_start_L17 o v5 M6 = some y4 := h
  have hw : xH D t ad A s M6 H locs := hw
  have hl : lv_has ls 2 [(0, .ref (ad o)), (1, .int v5)] := hl
  unfold f1_start_L17 at h
  refine lv_iload_n hx hb dX1_start_17 rfl (lv_at hl 1 rfl) ?_
  refine lv_aload_n hx hb dX1_start_18 rfl (lv_at hl 0 rfl) ?_
  refine sr_getr hx hb hts qzX1 hown hw (xfF_0 t ad ho) (hts _ qfX1_49) dX1_start_19 ?_
  refine sr_geti hx hb hts qzX2 hown hw (xf_1_0 t ad) (hts _ qfX1_64) h dX1_start_22 (fun v7 h => ?_)
  refine lv_icmp_ge (tgt := 78) hx hb dX1_start_25 (by decide) (fun hc => ?_) (fun hc => ?_)
  · have h := sr_ifp h hc
    exact hX4  M6 (he4 _ (Option.some.inj h).symm) _ _ _ hw (lv_sub hl [0] rfl)
  · have h := sr_ifn h hc
    refine lv_aload_n hx hb dX1_start_28 rfl (lv_at hl 0 rfl) ?_
    refine sr_getr hx hb hts qzX1 hown hw (xfF_5 t ad ho) (hts _ qfX1_18) dX1_start_29 ?_
    refine lv_iload_n hx hb dX1_start_32 rfl (lv_at hl 1 rfl) ?_
    refine lv_aload_n hx hb dX1_start_33 rfl (lv_at hl 0 rfl) ?_
    refine sr_getr hx hb hts qzX1 hown hw (xfF_0 t ad ho) (hts _ qfX1_49) dX1_start_34 ?_
    refine sr_getr hx hb hts qzX2 hown hw (xf_1_2 t ad) (hts _ qfX1_69) dX1_start_37 ?_
    refine lv_iload_n hx hb dX1_start_40 rfl (lv_at hl 1 rfl) ?_
    refine sr_zald hx hb hw (xa_3 t ad) h dX1_start_41 (fun v8 h => ?_)
    refine sr_jn_rule (fun (K9 : Int32 → Option ((Int32 × sr_M) ⊕ (sr_M))) => ∀ (v10 : Int32), K9 v10 = some y4 → ∀ (H : Heap) (locs : List Loc) (ls : Array Slot), xH D t ad A s M6 H locs → lv_has ls 2 [(0, .ref (ad o)), (1, .int v5)] → W p l e ({ frames := 4, cells := 0, slots := 0, locals := 91 }) s m args below meth c H locs 0 0 Q (F0 m 50 ls [.int v10, .int v5, .ref (ad (o + 3))])) h ?_ (fun K9 hK9 h => ?_)
    · intro v10 h H locs ls hw hl
      refine sr_iast hx hb hw (xaF_3 t ad ho) h dX1_start_50 (fun M11 H locs h hw => ?_)
      refine lv_aload_n hx hb dX1_start_51 rfl (lv_at hl 0 rfl) ?_
      refine sr_getr hx hb hts qzX1 hown hw (xfF_6 t ad ho) (hts _ qfX1_21) dX1_start_52 ?_
      refine lv_iload_n hx hb dX1_start_55 rfl (lv_at hl 1 rfl) ?_
      refine lv_iconst (v := (-1)) hx hb dX1_start_56 (by decide) ?_
      refine sr_iast hx hb hw (xaF_4 t ad ho) h dX1_start_57 (fun M12 H locs h hw => ?_)
      refine lv_aload_n hx hb dX1_start_58 rfl (lv_at hl 0 rfl) ?_
      refine sr_getr hx hb hts qzX1 hown hw (xfF_7 t ad ho) (hts _ qfX1_24) dX1_start_59 ?_
      refine lv_iload_n hx hb dX1_start_62 rfl (lv_at hl 1 rfl) ?_
      refine lv_iconst (v := (-1)) hx hb dX1_start_63 (by decide) ?_
      refine sr_iast hx hb hw (xaF_5 t ad ho) h dX1_start_64 (fun M13 H locs h hw => ?_)
      refine lv_aload_n hx hb dX1_start_65 rfl (lv_at hl 0 rfl) ?_
      refine sr_getr hx hb hts qzX1 hown hw (xfF_8 t ad ho) (hts _ qfX1_27) dX1_start_66 ?_
      refine lv_iload_n hx hb dX1_start_69 rfl (lv_at hl 1 rfl) ?_
      refine lv_iconst (v := (-1)) hx hb dX1_start_70 (by decide) ?_
      refine sr_iast hx hb hw (xaF_6 t ad ho) h dX1_start_71 (fun M14 H locs h hw => ?_)
      refine lv_iinc (v := (v5 + 1)) (lv' := [(1, .int (v5 + 1)), (0, .ref (ad o))]) hx hb dX1_start_72 hl (k := 1) rfl rfl (by decide) rfl (fun ls hl => ?_)
      refine lv_goto (tgt := 17) hx hb dX1_start_75 (by decide) ?_
      exact hi4 ((v5 + 1), M14) (Option.some.inj h).symm _ _ _ hw (lv_sub hl [1, 0] rfl)
    · refine lv_if_eq (tgt := 49) hx hb dX1_start_42 (by decide) (fun hc => ?_) (fun hc => ?_)
      · have h := sr_ifp h hc
        refine lv_iconst (v := (-1)) hx hb dX1_start_49 (by decide) ?_
        exact hK9 (-1) h _ _ _ hw (lv_sub hl [0, 1] rfl)
      · have h := sr_ifn h hc
        refine lv_iconst (v := 0) hx hb dX1_start_45 (by decide) ?_
        refine lv_goto (tgt := 50) hx hb dX1_start_46 (by decide) ?_
        exact hK9 0 h _ _ _ hw (lv_sub hl [0, 1] rfl)

noncomputable def f1_leads (o : Nat) (a1 : Int32) (a2 : Int32) (M : sr_M) : Option (Int32) :=
sr_ld a1 120 (M.1 (o + 3)) fun v1 =>
if v1 < 0 then
(some 0)
else
(sr_ld a1 120 (M.1 2) fun v2 =>
if v2 = 3 then
(some 0)
else
(sr_ld a2 120 (M.1 (o + 3)) fun v3 =>
if 0 ≤ v3 then
(some 0)
else
(sr_ld a2 120 (M.1 (o + 5)) fun v4 =>
if 0 ≤ v4 then
(some 0)
else
(some 1))))
set_option maxHeartbeats 4000000 in
set_option maxRecDepth 100000 in
theorem k1_leads (l : Launch) (D : va_G) (t : Nat → ClassId) (ad : Nat → Nat) (o : Nat) (ho : xoF o) (a1 : Int32) (a2 : Int32) (M : sr_M) (r : Int32) (h : f1_leads o a1 a2 M = some r) : sr_Mi l D vwCl (xty t) ad (xcf t ad) 62 yX1_leads (.code yX1_leads cX1_leads 3 (some .boolean) :: sr_tbl) ({ frames := 0, cells := 0, slots := 0, locals := 0 }) [.ref (ad o), .int a1, .int a2] M r M := by
  refine sr_open_i (cc := cX1_leads) (maxL := 3) (by decide) rfl (Nat.le_of_ble_eq_true rfl) ?_
  intro p e s m args below meth c A Q ls hx hb hml hts0 hown hA hw hl ret
  have hts : ∀ w ∈ sr_tbl, w.before args s = true := fun w hw => hts0 w (List.mem_cons_of_mem _ hw)
  have hown : s.vm.findClass RX1 = some m.cls := hown
  have hl : lv_has ls 3 [(0, .ref (ad o)), (1, .int a1), (2, .int a2)] := hl
  have hw : xH D t ad A s M s.heap [] := hw
  unfold f1_leads at h
  refine lv_aload_n hx hb dX1_leads_0 rfl (lv_at hl 0 rfl) ?_
  refine sr_getr hx hb hts qzX1 hown hw (xfF_5 t ad ho) (hts _ qfX1_18) dX1_leads_1 ?_
  refine lv_iload_n hx hb dX1_leads_4 rfl (lv_at hl 1 rfl) ?_
  refine sr_iald hx hb hw (xaF_3 t ad ho) h dX1_leads_5 (fun v1 h => ?_)
  refine lv_if_lt (tgt := 44) hx hb dX1_leads_6 (by decide) (fun hc => ?_) (fun hc => ?_)
  · have h := sr_ifp h hc
    refine lv_iconst (v := 0) hx hb dX1_leads_44 (by decide) ?_
    obtain rfl := Option.some.inj h
    exact ret _ _ _ _ hw rfl dX1_leads_45
  · have h := sr_ifn h hc
    refine lv_aload_n hx hb dX1_leads_9 rfl (lv_at hl 0 rfl) ?_
    refine sr_getr hx hb hts qzX1 hown hw (xfF_0 t ad ho) (hts _ qfX1_49) dX1_leads_10 ?_
    refine sr_getr hx hb hts qzX2 hown hw (xf_1_1 t ad) (hts _ qfX1_95) dX1_leads_13 ?_
    refine lv_iload_n hx hb dX1_leads_16 rfl (lv_at hl 1 rfl) ?_
    refine sr_iald hx hb hw (xa_2 t ad) h dX1_leads_17 (fun v2 h => ?_)
    refine lv_iconst (v := 3) hx hb dX1_leads_18 (by decide) ?_
    refine lv_icmp_eq (tgt := 44) hx hb dX1_leads_19 (by decide) (fun hc => ?_) (fun hc => ?_)
    · have h := sr_ifp h hc
      refine lv_iconst (v := 0) hx hb dX1_leads_44 (by decide) ?_
      obtain rfl := Option.some.inj h
      exact ret _ _ _ _ hw rfl dX1_leads_45
    · have h := sr_ifn h hc
      refine lv_aload_n hx hb dX1_leads_22 rfl (lv_at hl 0 rfl) ?_
      refine sr_getr hx hb hts qzX1 hown hw (xfF_5 t ad ho) (hts _ qfX1_18) dX1_leads_23 ?_
      refine lv_iload_n hx hb dX1_leads_26 rfl (lv_at hl 2 rfl) ?_
      refine sr_iald hx hb hw (xaF_3 t ad ho) h dX1_leads_27 (fun v3 h => ?_)
      refine lv_if_ge (tgt := 44) hx hb dX1_leads_28 (by decide) (fun hc => ?_) (fun hc => ?_)
      · have h := sr_ifp h hc
        refine lv_iconst (v := 0) hx hb dX1_leads_44 (by decide) ?_
        obtain rfl := Option.some.inj h
        exact ret _ _ _ _ hw rfl dX1_leads_45
      · have h := sr_ifn h hc
        refine lv_aload_n hx hb dX1_leads_31 rfl (lv_at hl 0 rfl) ?_
        refine sr_getr hx hb hts qzX1 hown hw (xfF_7 t ad ho) (hts _ qfX1_24) dX1_leads_32 ?_
        refine lv_iload_n hx hb dX1_leads_35 rfl (lv_at hl 2 rfl) ?_
        refine sr_iald hx hb hw (xaF_5 t ad ho) h dX1_leads_36 (fun v4 h => ?_)
        refine lv_if_ge (tgt := 44) hx hb dX1_leads_37 (by decide) (fun hc => ?_) (fun hc => ?_)
        · have h := sr_ifp h hc
          refine lv_iconst (v := 0) hx hb dX1_leads_44 (by decide) ?_
          obtain rfl := Option.some.inj h
          exact ret _ _ _ _ hw rfl dX1_leads_45
        · have h := sr_ifn h hc
          refine lv_iconst (v := 1) hx hb dX1_leads_40 (by decide) ?_
          refine lv_goto (tgt := 45) hx hb dX1_leads_41 (by decide) ?_
          obtain rfl := Option.some.inj h
          exact ret _ _ _ _ hw rfl dX1_leads_45

noncomputable def f1_isCandidate (o : Nat) (a1 : Int32) (M : sr_M) : Option (Int32) :=
sr_ld a1 300 (M.1 4) fun v1 =>
sr_ld a1 300 (M.1 5) fun v2 =>
(f1_leads o v1 v2 M).bind fun v3 =>
if v3 = 0 then
(sr_ld a1 300 (M.1 5) fun v4 =>
sr_ld a1 300 (M.1 4) fun v5 =>
(f1_leads o v4 v5 M).bind fun v6 =>
if v6 = 0 then
(some 0)
else
(some 1))
else
(some 1)
set_option maxHeartbeats 4000000 in
set_option maxRecDepth 100000 in
theorem k1_isCandidate (l : Launch) (D : va_G) (t : Nat → ClassId) (ad : Nat → Nat) (o : Nat) (ho : xoF o) (a1 : Int32) (M : sr_M) (r : Int32) (h : f1_isCandidate o a1 M = some r) : sr_Mi l D vwCl (xty t) ad (xcf t ad) 62 yX1_isCandidate (.code yX1_isCandidate cX1_isCandidate 2 (some .boolean) :: sr_tbl) ({ frames := 1, cells := 0, slots := 0, locals := 22 }) [.ref (ad o), .int a1] M r M := by
  refine sr_open_i (cc := cX1_isCandidate) (maxL := 2) (by decide) rfl (Nat.le_of_ble_eq_true rfl) ?_
  intro p e s m args below meth c A Q ls hx hb hml hts0 hown hA hw hl ret
  have hts : ∀ w ∈ sr_tbl, w.before args s = true := fun w hw => hts0 w (List.mem_cons_of_mem _ hw)
  have hown : s.vm.findClass RX1 = some m.cls := hown
  have hl : lv_has ls 2 [(0, .ref (ad o)), (1, .int a1)] := hl
  have hw : xH D t ad A s M s.heap [] := hw
  unfold f1_isCandidate at h
  refine lv_aload_n hx hb dX1_isCandidate_0 rfl (lv_at hl 0 rfl) ?_
  refine lv_aload_n hx hb dX1_isCandidate_1 rfl (lv_at hl 0 rfl) ?_
  refine sr_getr hx hb hts qzX1 hown hw (xfF_0 t ad ho) (hts _ qfX1_49) dX1_isCandidate_2 ?_
  refine sr_getr hx hb hts qzX2 hown hw (xf_1_4 t ad) (hts _ qfX1_79) dX1_isCandidate_5 ?_
  refine lv_iload_n hx hb dX1_isCandidate_8 rfl (lv_at hl 1 rfl) ?_
  refine sr_iald hx hb hw (xa_4 t ad) h dX1_isCandidate_9 (fun v1 h => ?_)
  refine lv_aload_n hx hb dX1_isCandidate_10 rfl (lv_at hl 0 rfl) ?_
  refine sr_getr hx hb hts qzX1 hown hw (xfF_0 t ad ho) (hts _ qfX1_49) dX1_isCandidate_11 ?_
  refine sr_getr hx hb hts qzX2 hown hw (xf_1_5 t ad) (hts _ qfX1_82) dX1_isCandidate_14 ?_
  refine lv_iload_n hx hb dX1_isCandidate_17 rfl (lv_at hl 1 rfl) ?_
  refine sr_iald hx hb hw (xa_5 t ad) h dX1_isCandidate_18 (fun v2 h => ?_)
  obtain ⟨v3, hc, h⟩ := sr_bind1 h
  refine sr_cVi (As := [.int v1, .int v2]) (rest := []) ⟨hx, hb, hml, hown, hts⟩ (k1_leads l D t ad o ho v1 v2 M _ hc) (cwV 2 hts (sr_goodV qmX1_121 qiX1_leads qsX1_leads qnX1 qcX1_leads) rfl rfl rfl qdX1_leads ⟨Nat.le_of_ble_eq_true rfl, Nat.le_of_ble_eq_true rfl⟩) hw hA (xobF t ad ho) rfl hl.1 rfl (Nat.le_of_ble_eq_true rfl) dX1_isCandidate_19 (fun H locs hw => ?_)
  refine lv_if_ne (tgt := 50) hx hb dX1_isCandidate_22 (by decide) (fun hc => ?_) (fun hc => ?_)
  · have h := sr_ifn h hc
    refine lv_iconst (v := 1) hx hb dX1_isCandidate_50 (by decide) ?_
    refine lv_goto (tgt := 55) hx hb dX1_isCandidate_51 (by decide) ?_
    obtain rfl := Option.some.inj h
    exact ret _ _ _ _ hw rfl dX1_isCandidate_55
  · have h := sr_ifp h hc
    refine lv_aload_n hx hb dX1_isCandidate_25 rfl (lv_at hl 0 rfl) ?_
    refine lv_aload_n hx hb dX1_isCandidate_26 rfl (lv_at hl 0 rfl) ?_
    refine sr_getr hx hb hts qzX1 hown hw (xfF_0 t ad ho) (hts _ qfX1_49) dX1_isCandidate_27 ?_
    refine sr_getr hx hb hts qzX2 hown hw (xf_1_5 t ad) (hts _ qfX1_82) dX1_isCandidate_30 ?_
    refine lv_iload_n hx hb dX1_isCandidate_33 rfl (lv_at hl 1 rfl) ?_
    refine sr_iald hx hb hw (xa_5 t ad) h dX1_isCandidate_34 (fun v4 h => ?_)
    refine lv_aload_n hx hb dX1_isCandidate_35 rfl (lv_at hl 0 rfl) ?_
    refine sr_getr hx hb hts qzX1 hown hw (xfF_0 t ad ho) (hts _ qfX1_49) dX1_isCandidate_36 ?_
    refine sr_getr hx hb hts qzX2 hown hw (xf_1_4 t ad) (hts _ qfX1_79) dX1_isCandidate_39 ?_
    refine lv_iload_n hx hb dX1_isCandidate_42 rfl (lv_at hl 1 rfl) ?_
    refine sr_iald hx hb hw (xa_4 t ad) h dX1_isCandidate_43 (fun v5 h => ?_)
    obtain ⟨v6, hc, h⟩ := sr_bind1 h
    refine sr_cVi (As := [.int v4, .int v5]) (rest := []) ⟨hx, hb, hml, hown, hts⟩ (k1_leads l D t ad o ho v4 v5 M _ hc) (cwV 2 hts (sr_goodV qmX1_121 qiX1_leads qsX1_leads qnX1 qcX1_leads) rfl rfl rfl qdX1_leads ⟨Nat.le_of_ble_eq_true rfl, Nat.le_of_ble_eq_true rfl⟩) hw hA (xobF t ad ho) rfl hl.1 rfl (Nat.le_of_ble_eq_true rfl) dX1_isCandidate_44 (fun H locs hw => ?_)
    refine lv_if_eq (tgt := 54) hx hb dX1_isCandidate_47 (by decide) (fun hc => ?_) (fun hc => ?_)
    · have h := sr_ifp h hc
      refine lv_iconst (v := 0) hx hb dX1_isCandidate_54 (by decide) ?_
      obtain rfl := Option.some.inj h
      exact ret _ _ _ _ hw rfl dX1_isCandidate_55
    · have h := sr_ifn h hc
      refine lv_iconst (v := 1) hx hb dX1_isCandidate_50 (by decide) ?_
      refine lv_goto (tgt := 55) hx hb dX1_isCandidate_51 (by decide) ?_
      obtain rfl := Option.some.inj h
      exact ret _ _ _ _ hw rfl dX1_isCandidate_55

noncomputable def f1_isPreferred (o : Nat) (a1 : Int32) (a2 : Int32) (a3 : Int32) (M : sr_M) : Option (Int32) :=
if a3 = 0 then
(sr_ld a1 300 (M.1 7) fun v1 =>
sr_ld a2 300 (M.1 7) fun v2 =>
if v2 ≤ v1 then
(some 0)
else
(some 1))
else
(sr_ld a1 300 (M.1 7) fun v3 =>
sr_ld a2 300 (M.1 7) fun v4 =>
if v3 ≤ v4 then
(some 0)
else
(some 1))
set_option maxHeartbeats 4000000 in
set_option maxRecDepth 100000 in
theorem k1_isPreferred (l : Launch) (D : va_G) (t : Nat → ClassId) (ad : Nat → Nat) (o : Nat) (ho : xoF o) (a1 : Int32) (a2 : Int32) (a3 : Int32) (M : sr_M) (r : Int32) (h : f1_isPreferred o a1 a2 a3 M = some r) : sr_Mi l D vwCl (xty t) ad (xcf t ad) 62 yX1_isPreferred (.code yX1_isPreferred cX1_isPreferred 4 (some .boolean) :: sr_tbl) ({ frames := 0, cells := 0, slots := 0, locals := 0 }) [.ref (ad o), .int a1, .int a2, .int a3] M r M := by
  refine sr_open_i (cc := cX1_isPreferred) (maxL := 4) (by decide) rfl (Nat.le_of_ble_eq_true rfl) ?_
  intro p e s m args below meth c A Q ls hx hb hml hts0 hown hA hw hl ret
  have hts : ∀ w ∈ sr_tbl, w.before args s = true := fun w hw => hts0 w (List.mem_cons_of_mem _ hw)
  have hown : s.vm.findClass RX1 = some m.cls := hown
  have hl : lv_has ls 4 [(0, .ref (ad o)), (1, .int a1), (2, .int a2), (3, .int a3)] := hl
  have hw : xH D t ad A s M s.heap [] := hw
  unfold f1_isPreferred at h
  refine lv_iload_n hx hb dX1_isPreferred_0 rfl (lv_at hl 3 rfl) ?_
  refine lv_if_eq (tgt := 33) hx hb dX1_isPreferred_1 (by decide) (fun hc => ?_) (fun hc => ?_)
  · have h := sr_ifp h hc
    refine lv_aload_n hx hb dX1_isPreferred_33 rfl (lv_at hl 0 rfl) ?_
    refine sr_getr hx hb hts qzX1 hown hw (xfF_0 t ad ho) (hts _ qfX1_49) dX1_isPreferred_34 ?_
    refine sr_getr hx hb hts qzX2 hown hw (xf_1_7 t ad) (hts _ qfX1_118) dX1_isPreferred_37 ?_
    refine lv_iload_n hx hb dX1_isPreferred_40 rfl (lv_at hl 1 rfl) ?_
    refine sr_iald hx hb hw (xa_7 t ad) h dX1_isPreferred_41 (fun v1 h => ?_)
    refine lv_aload_n hx hb dX1_isPreferred_42 rfl (lv_at hl 0 rfl) ?_
    refine sr_getr hx hb hts qzX1 hown hw (xfF_0 t ad ho) (hts _ qfX1_49) dX1_isPreferred_43 ?_
    refine sr_getr hx hb hts qzX2 hown hw (xf_1_7 t ad) (hts _ qfX1_118) dX1_isPreferred_46 ?_
    refine lv_iload_n hx hb dX1_isPreferred_49 rfl (lv_at hl 2 rfl) ?_
    refine sr_iald hx hb hw (xa_7 t ad) h dX1_isPreferred_50 (fun v2 h => ?_)
    refine lv_icmp_ge (tgt := 58) hx hb dX1_isPreferred_51 (by decide) (fun hc => ?_) (fun hc => ?_)
    · have h := sr_ifp h hc
      refine lv_iconst (v := 0) hx hb dX1_isPreferred_58 (by decide) ?_
      obtain rfl := Option.some.inj h
      exact ret _ _ _ _ hw rfl dX1_isPreferred_59
    · have h := sr_ifn h hc
      refine lv_iconst (v := 1) hx hb dX1_isPreferred_54 (by decide) ?_
      refine lv_goto (tgt := 59) hx hb dX1_isPreferred_55 (by decide) ?_
      obtain rfl := Option.some.inj h
      exact ret _ _ _ _ hw rfl dX1_isPreferred_59
  · have h := sr_ifn h hc
    refine lv_aload_n hx hb dX1_isPreferred_4 rfl (lv_at hl 0 rfl) ?_
    refine sr_getr hx hb hts qzX1 hown hw (xfF_0 t ad ho) (hts _ qfX1_49) dX1_isPreferred_5 ?_
    refine sr_getr hx hb hts qzX2 hown hw (xf_1_7 t ad) (hts _ qfX1_118) dX1_isPreferred_8 ?_
    refine lv_iload_n hx hb dX1_isPreferred_11 rfl (lv_at hl 1 rfl) ?_
    refine sr_iald hx hb hw (xa_7 t ad) h dX1_isPreferred_12 (fun v3 h => ?_)
    refine lv_aload_n hx hb dX1_isPreferred_13 rfl (lv_at hl 0 rfl) ?_
    refine sr_getr hx hb hts qzX1 hown hw (xfF_0 t ad ho) (hts _ qfX1_49) dX1_isPreferred_14 ?_
    refine sr_getr hx hb hts qzX2 hown hw (xf_1_7 t ad) (hts _ qfX1_118) dX1_isPreferred_17 ?_
    refine lv_iload_n hx hb dX1_isPreferred_20 rfl (lv_at hl 2 rfl) ?_
    refine sr_iald hx hb hw (xa_7 t ad) h dX1_isPreferred_21 (fun v4 h => ?_)
    refine lv_icmp_le (tgt := 29) hx hb dX1_isPreferred_22 (by decide) (fun hc => ?_) (fun hc => ?_)
    · have h := sr_ifp h hc
      refine lv_iconst (v := 0) hx hb dX1_isPreferred_29 (by decide) ?_
      refine lv_goto (tgt := 59) hx hb dX1_isPreferred_30 (by decide) ?_
      obtain rfl := Option.some.inj h
      exact ret _ _ _ _ hw rfl dX1_isPreferred_59
    · have h := sr_ifn h hc
      refine lv_iconst (v := 1) hx hb dX1_isPreferred_25 (by decide) ?_
      refine lv_goto (tgt := 59) hx hb dX1_isPreferred_26 (by decide) ?_
      obtain rfl := Option.some.inj h
      exact ret _ _ _ _ hw rfl dX1_isPreferred_59

noncomputable def f1_preferredAt_L51 (o : Nat) (a1 : Int32) (M : sr_M) (v3 : Int32) (v7 : Int32) (v8 : Int32) : Option ((Int32 × Int32) ⊕ (Int32)) :=
sr_ld (a1 + 1) 121 (M.1 9) fun v9 =>
if v9 ≤ v8 then
(some (.inr v7))
else
(sr_ld v8 600 (M.1 10) fun v10 =>
(f2_isOpen v10 M).bind fun v11 =>
if v11 = 0 then
(some (.inl (v7, (v8 + 1))))
else
((f1_isCandidate o v10 M).bind fun v12 =>
if v12 = 0 then
(some (.inl (v7, (v8 + 1))))
else
(if v7 < 0 then
(some (.inl (v10, (v8 + 1))))
else
((f1_isPreferred o v10 v7 v3 M).bind fun v13 =>
if v13 = 0 then
(some (.inl (v7, (v8 + 1))))
else
(some (.inl (v10, (v8 + 1))))))))
noncomputable def f1_preferredAt (o : Nat) (a1 : Int32) (M : sr_M) : Option (Int32) :=
sr_ld a1 120 (M.1 2) fun v1 =>
sr_jn (fun (v3 : Int32) =>
sr_jn (sr_ld a1 121 (M.1 9) fun v5 =>
(sr_lp (fun z6 : Int32 × Int32 => f1_preferredAt_L51 o a1 M v3 z6.1 z6.2) ((-1), v5)).bind fun w6 =>
some w6) fun (K4 : Option (Int32)) =>
if v3 = 0 then
(sr_ld a1 120 (M.1 2) fun v15 =>
if v15 = 1 then
(K4)
else
(some (-1)))
else
(K4)) fun (K2 : Int32 → Option (Int32)) =>
if v1 = 2 then
(K2 1)
else
(K2 0)
set_option maxHeartbeats 4000000 in
set_option maxRecDepth 100000 in
theorem k1_preferredAt (l : Launch) (D : va_G) (t : Nat → ClassId) (ad : Nat → Nat) (o : Nat) (ho : xoF o) (a1 : Int32) (M : sr_M) (r : Int32) (h : f1_preferredAt o a1 M = some r) : sr_Mi l D vwCl (xty t) ad (xcf t ad) 62 yX1_preferredAt (.code yX1_preferredAt cX1_preferredAt 6 (some .int) :: sr_tbl) ({ frames := 2, cells := 0, slots := 0, locals := 43 }) [.ref (ad o), .int a1] M r M := by
  refine sr_open_i (cc := cX1_preferredAt) (maxL := 6) (by decide) rfl (Nat.le_of_ble_eq_true rfl) ?_
  intro p e s m args below meth c A Q ls hx hb hml hts0 hown hA hw hl ret
  have hts : ∀ w ∈ sr_tbl, w.before args s = true := fun w hw => hts0 w (List.mem_cons_of_mem _ hw)
  have hown : s.vm.findClass RX1 = some m.cls := hown
  have hl : lv_has ls 6 [(0, .ref (ad o)), (1, .int a1)] := hl
  have hw : xH D t ad A s M s.heap [] := hw
  unfold f1_preferredAt at h
  refine lv_aload_n hx hb dX1_preferredAt_0 rfl (lv_at hl 0 rfl) ?_
  refine sr_getr hx hb hts qzX1 hown hw (xfF_0 t ad ho) (hts _ qfX1_49) dX1_preferredAt_1 ?_
  refine sr_getr hx hb hts qzX2 hown hw (xf_1_1 t ad) (hts _ qfX1_95) dX1_preferredAt_4 ?_
  refine lv_iload_n hx hb dX1_preferredAt_7 rfl (lv_at hl 1 rfl) ?_
  refine sr_iald hx hb hw (xa_2 t ad) h dX1_preferredAt_8 (fun v1 h => ?_)
  refine lv_iconst (v := 2) hx hb dX1_preferredAt_9 (by decide) ?_
  refine sr_jn_rule (fun (K2 : Int32 → Option (Int32)) => ∀ (v3 : Int32), K2 v3 = some r → ∀ (H : Heap) (locs : List Loc) (ls : Array Slot), xH D t ad A s M H locs → lv_has ls 6 [(0, .ref (ad o)), (1, .int a1)] → W p l e ({ frames := 2, cells := 0, slots := 0, locals := 43 }) s m args below meth c H locs 0 0 Q (F0 m 18 ls [.int v3])) h ?_ (fun K2 hK2 h => ?_)
  · intro v3 h H locs ls hw hl
    refine lv_istore_n (lv' := [(2, .int v3), (0, .ref (ad o)), (1, .int a1)]) hx hb dX1_preferredAt_18 rfl hl (by decide) rfl (fun ls hl => ?_)
    refine lv_iload_n hx hb dX1_preferredAt_19 rfl (lv_at hl 0 rfl) ?_
    refine sr_jn_rule (fun (K4 : Option (Int32)) => K4 = some r → ∀ (H : Heap) (locs : List Loc) (ls : Array Slot), xH D t ad A s M H locs → lv_has ls 6 [(0, .ref (ad o)), (1, .int a1), (2, .int v3)] → W p l e ({ frames := 2, cells := 0, slots := 0, locals := 43 }) s m args below meth c H locs 0 0 Q (F0 m 38 ls [])) h ?_ (fun K4 hK4 h => ?_)
    · intro  h H locs ls hw hl
      refine lv_iconst (v := (-1)) hx hb dX1_preferredAt_38 (by decide) ?_
      refine lv_istore_n (lv' := [(3, .int (-1)), (0, .ref (ad o)), (1, .int a1), (2, .int v3)]) hx hb dX1_preferredAt_39 rfl hl (by decide) rfl (fun ls hl => ?_)
      refine lv_aload_n hx hb dX1_preferredAt_40 rfl (lv_at hl 1 rfl) ?_
      refine sr_getr hx hb hts qzX1 hown hw (xfF_0 t ad ho) (hts _ qfX1_49) dX1_preferredAt_41 ?_
      refine sr_getr hx hb hts qzX2 hown hw (xf_1_10 t ad) (hts _ qfX1_105) dX1_preferredAt_44 ?_
      refine lv_iload_n hx hb dX1_preferredAt_47 rfl (lv_at hl 2 rfl) ?_
      refine sr_iald hx hb hw (xa_9 t ad) h dX1_preferredAt_48 (fun v5 h => ?_)
      refine lv_istore (lv' := [(4, .int v5), (3, .int (-1)), (0, .ref (ad o)), (1, .int a1), (2, .int v3)]) hx hb dX1_preferredAt_49 hl (by decide) rfl (fun ls hl => ?_)
      obtain ⟨x6, hlp, hE6⟩ := sr_bind h
      have hX6 : ∀ (v14 : Int32), v14 = x6 → ∀ (H : Heap) (locs : List Loc) (ls : Array Slot), xH D t ad A s M H locs → lv_has ls 6 [(3, .int v14)] → W p l e ({ frames := 2, cells := 0, slots := 0, locals := 43 }) s m args below meth c H locs 0 0 Q (F0 m 124 ls []) := by
        intro v14 ex H locs ls hw hl
        have h := hE6 _ ex
        try dsimp only at h
        refine lv_iload_n hx hb dX1_preferredAt_124 rfl (lv_at hl 0 rfl) ?_
        obtain rfl := Option.some.inj h
        exact ret _ _ _ _ hw rfl dX1_preferredAt_125
      refine sr_lp_rule (fun (z6 : Int32 × Int32) => ∀ (H : Heap) (locs : List Loc) (ls : Array Slot), xH D t ad A s M H locs → lv_has ls 6 [(0, .ref (ad o)), (1, .int a1), (2, .int v3), (3, .int z6.1), (4, .int z6.2)] → W p l e ({ frames := 2, cells := 0, slots := 0, locals := 43 }) s m args below meth c H locs 0 0 Q (F0 m 51 ls [])) ?_ hlp _ _ _ hw (lv_sub hl [2, 3, 4, 1, 0] rfl)
      rintro ⟨v7, v8⟩ y6 h hi6 he6 H locs ls hw hl
      have h : f1_preferredAt_L51 o a1 M v3 v7 v8 = some y6 := h
      have hw : xH D t ad A s M H locs := hw
      have hl : lv_has ls 6 [(0, .ref (ad o)), (1, .int a1), (2, .int v3), (3, .int v7), (4, .int v8)] := hl
      unfold f1_preferredAt_L51 at h
      refine lv_iload hx hb dX1_preferredAt_51 (lv_at hl 4 rfl) ?_
      refine lv_aload_n hx hb dX1_preferredAt_53 rfl (lv_at hl 0 rfl) ?_
      refine sr_getr hx hb hts qzX1 hown hw (xfF_0 t ad ho) (hts _ qfX1_49) dX1_preferredAt_54 ?_
      refine sr_getr hx hb hts qzX2 hown hw (xf_1_10 t ad) (hts _ qfX1_105) dX1_preferredAt_57 ?_
      refine lv_iload_n hx hb dX1_preferredAt_60 rfl (lv_at hl 1 rfl) ?_
      refine lv_iconst (v := 1) hx hb dX1_preferredAt_61 (by decide) ?_
      refine lv_iadd hx hb dX1_preferredAt_62 ?_
      refine sr_iald hx hb hw (xa_9 t ad) h dX1_preferredAt_63 (fun v9 h => ?_)
      refine lv_icmp_ge (tgt := 124) hx hb dX1_preferredAt_64 (by decide) (fun hc => ?_) (fun hc => ?_)
      · have h := sr_ifp h hc
        exact hX6 v7 (he6 _ (Option.some.inj h).symm) _ _ _ hw (lv_sub hl [3] rfl)
      · have h := sr_ifn h hc
        refine lv_aload_n hx hb dX1_preferredAt_67 rfl (lv_at hl 0 rfl) ?_
        refine sr_getr hx hb hts qzX1 hown hw (xfF_0 t ad ho) (hts _ qfX1_49) dX1_preferredAt_68 ?_
        refine sr_getr hx hb hts qzX2 hown hw (xf_1_11 t ad) (hts _ qfX1_108) dX1_preferredAt_71 ?_
        refine lv_iload hx hb dX1_preferredAt_74 (lv_at hl 4 rfl) ?_
        refine sr_iald hx hb hw (xa_10 t ad) h dX1_preferredAt_76 (fun v10 h => ?_)
        refine lv_istore (lv' := [(5, .int v10), (0, .ref (ad o)), (1, .int a1), (2, .int v3), (3, .int v7), (4, .int v8)]) hx hb dX1_preferredAt_77 hl (by decide) rfl (fun ls hl => ?_)
        refine lv_aload_n hx hb dX1_preferredAt_79 rfl (lv_at hl 1 rfl) ?_
        refine sr_getr hx hb hts qzX1 hown hw (xfF_0 t ad ho) (hts _ qfX1_49) dX1_preferredAt_80 ?_
        refine lv_iload hx hb dX1_preferredAt_83 (lv_at hl 0 rfl) ?_
        obtain ⟨v11, hc, h⟩ := sr_bind1 h
        refine sr_cVi (As := [.int v10]) (rest := []) ⟨hx, hb, hml, hown, hts⟩ (k2_isOpen l D t ad v10 M _ hc) (cwV 1 hts (sr_goodV qmX1_111 qiX2_isOpen qsX2_isOpen qnX2 qcX2_isOpen) rfl rfl rfl qdX2_isOpen ⟨Nat.le_of_ble_eq_true rfl, Nat.le_of_ble_eq_true rfl⟩) hw hA (xo_1 t ad) rfl hl.1 rfl (Nat.le_of_ble_eq_true rfl) dX1_preferredAt_85 (fun H locs hw => ?_)
        refine lv_if_eq (tgt := 118) hx hb dX1_preferredAt_88 (by decide) (fun hc => ?_) (fun hc => ?_)
        · have h := sr_ifp h hc
          refine lv_iinc (v := (v8 + 1)) (lv' := [(4, .int (v8 + 1)), (5, .int v10), (0, .ref (ad o)), (1, .int a1), (2, .int v3), (3, .int v7)]) hx hb dX1_preferredAt_118 hl (k := 5) rfl rfl (by decide) rfl (fun ls hl => ?_)
          refine lv_goto (tgt := 51) hx hb dX1_preferredAt_121 (by decide) ?_
          exact hi6 (v7, (v8 + 1)) (Option.some.inj h).symm _ _ _ hw (lv_sub hl [2, 3, 4, 5, 0] rfl)
        · have h := sr_ifn h hc
          refine lv_aload_n hx hb dX1_preferredAt_91 rfl (lv_at hl 1 rfl) ?_
          refine lv_iload hx hb dX1_preferredAt_92 (lv_at hl 0 rfl) ?_
          obtain ⟨v12, hc, h⟩ := sr_bind1 h
          refine sr_cVi (As := [.int v10]) (rest := []) ⟨hx, hb, hml, hown, hts⟩ (k1_isCandidate l D t ad o ho v10 M _ hc) (cwV 1 hts (sr_goodV qmX1_91 qiX1_isCandidate qsX1_isCandidate qnX1 qcX1_isCandidate) rfl rfl rfl qdX1_isCandidate ⟨Nat.le_of_ble_eq_true rfl, Nat.le_of_ble_eq_true rfl⟩) hw hA (xobF t ad ho) rfl hl.1 rfl (Nat.le_of_ble_eq_true rfl) dX1_preferredAt_94 (fun H locs hw => ?_)
          refine lv_if_eq (tgt := 118) hx hb dX1_preferredAt_97 (by decide) (fun hc => ?_) (fun hc => ?_)
          · have h := sr_ifp h hc
            refine lv_iinc (v := (v8 + 1)) (lv' := [(4, .int (v8 + 1)), (5, .int v10), (0, .ref (ad o)), (1, .int a1), (2, .int v3), (3, .int v7)]) hx hb dX1_preferredAt_118 hl (k := 5) rfl rfl (by decide) rfl (fun ls hl => ?_)
            refine lv_goto (tgt := 51) hx hb dX1_preferredAt_121 (by decide) ?_
            exact hi6 (v7, (v8 + 1)) (Option.some.inj h).symm _ _ _ hw (lv_sub hl [2, 3, 4, 5, 0] rfl)
          · have h := sr_ifn h hc
            refine lv_iload_n hx hb dX1_preferredAt_100 rfl (lv_at hl 4 rfl) ?_
            refine lv_if_lt (tgt := 115) hx hb dX1_preferredAt_101 (by decide) (fun hc => ?_) (fun hc => ?_)
            · have h := sr_ifp h hc
              refine lv_iload hx hb dX1_preferredAt_115 (lv_at hl 0 rfl) ?_
              refine lv_istore_n (lv' := [(3, .int v10), (5, .int v10), (0, .ref (ad o)), (1, .int a1), (2, .int v3), (4, .int v8)]) hx hb dX1_preferredAt_117 rfl hl (by decide) rfl (fun ls hl => ?_)
              refine lv_iinc (v := (v8 + 1)) (lv' := [(4, .int (v8 + 1)), (3, .int v10), (5, .int v10), (0, .ref (ad o)), (1, .int a1), (2, .int v3)]) hx hb dX1_preferredAt_118 hl (k := 5) rfl rfl (by decide) rfl (fun ls hl => ?_)
              refine lv_goto (tgt := 51) hx hb dX1_preferredAt_121 (by decide) ?_
              exact hi6 (v10, (v8 + 1)) (Option.some.inj h).symm _ _ _ hw (lv_sub hl [3, 4, 5, 1, 0] rfl)
            · have h := sr_ifn h hc
              refine lv_aload_n hx hb dX1_preferredAt_104 rfl (lv_at hl 1 rfl) ?_
              refine lv_iload hx hb dX1_preferredAt_105 (lv_at hl 0 rfl) ?_
              refine lv_iload_n hx hb dX1_preferredAt_107 rfl (lv_at hl 4 rfl) ?_
              refine lv_iload_n hx hb dX1_preferredAt_108 rfl (lv_at hl 3 rfl) ?_
              obtain ⟨v13, hc, h⟩ := sr_bind1 h
              refine sr_cVi (As := [.int v10, .int v7, .int v3]) (rest := []) ⟨hx, hb, hml, hown, hts⟩ (k1_isPreferred l D t ad o ho v10 v7 v3 M _ hc) (cwV 3 hts (sr_goodV qmX1_114 qiX1_isPreferred qsX1_isPreferred qnX1 qcX1_isPreferred) rfl rfl rfl qdX1_isPreferred ⟨Nat.le_of_ble_eq_true rfl, Nat.le_of_ble_eq_true rfl⟩) hw hA (xobF t ad ho) rfl hl.1 rfl (Nat.le_of_ble_eq_true rfl) dX1_preferredAt_109 (fun H locs hw => ?_)
              refine lv_if_eq (tgt := 118) hx hb dX1_preferredAt_112 (by decide) (fun hc => ?_) (fun hc => ?_)
              · have h := sr_ifp h hc
                refine lv_iinc (v := (v8 + 1)) (lv' := [(4, .int (v8 + 1)), (5, .int v10), (0, .ref (ad o)), (1, .int a1), (2, .int v3), (3, .int v7)]) hx hb dX1_preferredAt_118 hl (k := 5) rfl rfl (by decide) rfl (fun ls hl => ?_)
                refine lv_goto (tgt := 51) hx hb dX1_preferredAt_121 (by decide) ?_
                exact hi6 (v7, (v8 + 1)) (Option.some.inj h).symm _ _ _ hw (lv_sub hl [2, 3, 4, 5, 0] rfl)
              · have h := sr_ifn h hc
                refine lv_iload hx hb dX1_preferredAt_115 (lv_at hl 0 rfl) ?_
                refine lv_istore_n (lv' := [(3, .int v10), (5, .int v10), (0, .ref (ad o)), (1, .int a1), (2, .int v3), (4, .int v8)]) hx hb dX1_preferredAt_117 rfl hl (by decide) rfl (fun ls hl => ?_)
                refine lv_iinc (v := (v8 + 1)) (lv' := [(4, .int (v8 + 1)), (3, .int v10), (5, .int v10), (0, .ref (ad o)), (1, .int a1), (2, .int v3)]) hx hb dX1_preferredAt_118 hl (k := 5) rfl rfl (by decide) rfl (fun ls hl => ?_)
                refine lv_goto (tgt := 51) hx hb dX1_preferredAt_121 (by decide) ?_
                exact hi6 (v10, (v8 + 1)) (Option.some.inj h).symm _ _ _ hw (lv_sub hl [3, 4, 5, 1, 0] rfl)
    · refine lv_if_ne (tgt := 38) hx hb dX1_preferredAt_20 (by decide) (fun hc => ?_) (fun hc => ?_)
      · have h := sr_ifn h hc
        exact hK4  h _ _ _ hw (lv_sub hl [1, 2, 0] rfl)
      · have h := sr_ifp h hc
        refine lv_aload_n hx hb dX1_preferredAt_23 rfl (lv_at hl 1 rfl) ?_
        refine sr_getr hx hb hts qzX1 hown hw (xfF_0 t ad ho) (hts _ qfX1_49) dX1_preferredAt_24 ?_
        refine sr_getr hx hb hts qzX2 hown hw (xf_1_1 t ad) (hts _ qfX1_95) dX1_preferredAt_27 ?_
        refine lv_iload_n hx hb dX1_preferredAt_30 rfl (lv_at hl 2 rfl) ?_
        refine sr_iald hx hb hw (xa_2 t ad) h dX1_preferredAt_31 (fun v15 h => ?_)
        refine lv_iconst (v := 1) hx hb dX1_preferredAt_32 (by decide) ?_
        refine lv_icmp_eq (tgt := 38) hx hb dX1_preferredAt_33 (by decide) (fun hc => ?_) (fun hc => ?_)
        · have h := sr_ifp h hc
          exact hK4  h _ _ _ hw (lv_sub hl [1, 2, 0] rfl)
        · have h := sr_ifn h hc
          refine lv_iconst (v := (-1)) hx hb dX1_preferredAt_36 (by decide) ?_
          obtain rfl := Option.some.inj h
          exact ret _ _ _ _ hw rfl dX1_preferredAt_37
  · refine lv_icmp_ne (tgt := 17) hx hb dX1_preferredAt_10 (by decide) (fun hc => ?_) (fun hc => ?_)
    · have h := sr_ifn h hc
      refine lv_iconst (v := 0) hx hb dX1_preferredAt_17 (by decide) ?_
      exact hK2 0 h _ _ _ hw (lv_sub hl [0, 1] rfl)
    · have h := sr_ifp h hc
      refine lv_iconst (v := 1) hx hb dX1_preferredAt_13 (by decide) ?_
      refine lv_goto (tgt := 18) hx hb dX1_preferredAt_14 (by decide) ?_
      exact hK2 1 h _ _ _ hw (lv_sub hl [0, 1] rfl)

noncomputable def f1_candidate_L4 (o : Nat) (a1 : Int32) (M : sr_M) (v2 : Int32) (v3 : Int32) : Option ((Int32 × Int32) ⊕ ((Unit) ⊕ (Int32))) :=
sr_bnd (M.1 1 9) fun v4 =>
if v4 ≤ v3 then
(some (.inr (.inl ())))
else
(sr_ld v3 300 (M.1 8) fun v5 =>
(f1_isCandidate o v5 M).bind fun v6 =>
if v6 = 0 then
(some (.inl (v2, (v3 + 1))))
else
(if v2 = a1 then
(sr_ld v3 300 (M.1 8) fun v7 =>
some (.inr (.inr v7)))
else
(some (.inl ((v2 + 1), (v3 + 1))))))
noncomputable def f1_candidate (o : Nat) (a1 : Int32) (M : sr_M) : Option (Int32) :=
(sr_lp (fun z1 : Int32 × Int32 => f1_candidate_L4 o a1 M z1.1 z1.2) (0, 0)).bind (sr_se (fun w1 =>
some (-1))
(fun q1 => some q1))
set_option maxHeartbeats 4000000 in
set_option maxRecDepth 100000 in
theorem k1_candidate (l : Launch) (D : va_G) (t : Nat → ClassId) (ad : Nat → Nat) (o : Nat) (ho : xoF o) (a1 : Int32) (M : sr_M) (r : Int32) (h : f1_candidate o a1 M = some r) : sr_Mi l D vwCl (xty t) ad (xcf t ad) 62 yX1_candidate (.code yX1_candidate cX1_candidate 4 (some .int) :: sr_tbl) ({ frames := 2, cells := 0, slots := 0, locals := 43 }) [.ref (ad o), .int a1] M r M := by
  refine sr_open_i (cc := cX1_candidate) (maxL := 4) (by decide) rfl (Nat.le_of_ble_eq_true rfl) ?_
  intro p e s m args below meth c A Q ls hx hb hml hts0 hown hA hw hl ret
  have hts : ∀ w ∈ sr_tbl, w.before args s = true := fun w hw => hts0 w (List.mem_cons_of_mem _ hw)
  have hown : s.vm.findClass RX1 = some m.cls := hown
  have hl : lv_has ls 4 [(0, .ref (ad o)), (1, .int a1)] := hl
  have hw : xH D t ad A s M s.heap [] := hw
  unfold f1_candidate at h
  refine lv_iconst (v := 0) hx hb dX1_candidate_0 (by decide) ?_
  refine lv_istore_n (lv' := [(2, .int 0), (0, .ref (ad o)), (1, .int a1)]) hx hb dX1_candidate_1 rfl hl (by decide) rfl (fun ls hl => ?_)
  refine lv_iconst (v := 0) hx hb dX1_candidate_2 (by decide) ?_
  refine lv_istore_n (lv' := [(3, .int 0), (2, .int 0), (0, .ref (ad o)), (1, .int a1)]) hx hb dX1_candidate_3 rfl hl (by decide) rfl (fun ls hl => ?_)
  obtain ⟨x1, hlp, hE1⟩ := sr_bind h
  have hX1 : ∀ (_u : Unit), Sum.inl _u = x1 → ∀ (H : Heap) (locs : List Loc) (ls : Array Slot), xH D t ad A s M H locs → lv_has ls 4 [] → W p l e ({ frames := 2, cells := 0, slots := 0, locals := 43 }) s m args below meth c H locs 0 0 Q (F0 m 55 ls []) := by
    intro _u ex H locs ls hw hl
    have h := sr_sel (hE1 _ ex)
    try dsimp only at h
    refine lv_iconst (v := (-1)) hx hb dX1_candidate_55 (by decide) ?_
    obtain rfl := Option.some.inj h
    exact ret _ _ _ _ hw rfl dX1_candidate_56
  refine sr_lp_rule (fun (z1 : Int32 × Int32) => ∀ (H : Heap) (locs : List Loc) (ls : Array Slot), xH D t ad A s M H locs → lv_has ls 4 [(0, .ref (ad o)), (1, .int a1), (2, .int z1.1), (3, .int z1.2)] → W p l e ({ frames := 2, cells := 0, slots := 0, locals := 43 }) s m args below meth c H locs 0 0 Q (F0 m 4 ls [])) ?_ hlp _ _ _ hw (lv_sub hl [2, 3, 1, 0] rfl)
  rintro ⟨v2, v3⟩ y1 h hi1 he1 H locs ls hw hl
  have h : f1_candidate_L4 o a1 M v2 v3 = some y1 := h
  have hw : xH D t ad A s M H locs := hw
  have hl : lv_has ls 4 [(0, .ref (ad o)), (1, .int a1), (2, .int v2), (3, .int v3)] := hl
  unfold f1_candidate_L4 at h
  refine lv_iload_n hx hb dX1_candidate_4 rfl (lv_at hl 3 rfl) ?_
  refine lv_aload_n hx hb dX1_candidate_5 rfl (lv_at hl 0 rfl) ?_
  refine sr_getr hx hb hts qzX1 hown hw (xfF_0 t ad ho) (hts _ qfX1_49) dX1_candidate_6 ?_
  refine sr_geti hx hb hts qzX2 hown hw (xf_1_9 t ad) (hts _ qfX1_85) h dX1_candidate_9 (fun v4 h => ?_)
  refine lv_icmp_ge (tgt := 55) hx hb dX1_candidate_12 (by decide) (fun hc => ?_) (fun hc => ?_)
  · have h := sr_ifp h hc
    exact hX1 () (he1 _ (Option.some.inj h).symm) _ _ _ hw (lv_sub hl [] rfl)
  · have h := sr_ifn h hc
    refine lv_aload_n hx hb dX1_candidate_15 rfl (lv_at hl 0 rfl) ?_
    refine lv_aload_n hx hb dX1_candidate_16 rfl (lv_at hl 0 rfl) ?_
    refine sr_getr hx hb hts qzX1 hown hw (xfF_0 t ad ho) (hts _ qfX1_49) dX1_candidate_17 ?_
    refine sr_getr hx hb hts qzX2 hown hw (xf_1_8 t ad) (hts _ qfX1_88) dX1_candidate_20 ?_
    refine lv_iload_n hx hb dX1_candidate_23 rfl (lv_at hl 3 rfl) ?_
    refine sr_iald hx hb hw (xa_8 t ad) h dX1_candidate_24 (fun v5 h => ?_)
    obtain ⟨v6, hc, h⟩ := sr_bind1 h
    refine sr_cVi (As := [.int v5]) (rest := []) ⟨hx, hb, hml, hown, hts⟩ (k1_isCandidate l D t ad o ho v5 M _ hc) (cwV 1 hts (sr_goodV qmX1_91 qiX1_isCandidate qsX1_isCandidate qnX1 qcX1_isCandidate) rfl rfl rfl qdX1_isCandidate ⟨Nat.le_of_ble_eq_true rfl, Nat.le_of_ble_eq_true rfl⟩) hw hA (xobF t ad ho) rfl hl.1 rfl (Nat.le_of_ble_eq_true rfl) dX1_candidate_25 (fun H locs hw => ?_)
    refine lv_if_eq (tgt := 49) hx hb dX1_candidate_28 (by decide) (fun hc => ?_) (fun hc => ?_)
    · have h := sr_ifp h hc
      refine lv_iinc (v := (v3 + 1)) (lv' := [(3, .int (v3 + 1)), (0, .ref (ad o)), (1, .int a1), (2, .int v2)]) hx hb dX1_candidate_49 hl (k := 3) rfl rfl (by decide) rfl (fun ls hl => ?_)
      refine lv_goto (tgt := 4) hx hb dX1_candidate_52 (by decide) ?_
      exact hi1 (v2, (v3 + 1)) (Option.some.inj h).symm _ _ _ hw (lv_sub hl [1, 2, 3, 0] rfl)
    · have h := sr_ifn h hc
      refine lv_iload_n hx hb dX1_candidate_31 rfl (lv_at hl 2 rfl) ?_
      refine lv_iload_n hx hb dX1_candidate_32 rfl (lv_at hl 1 rfl) ?_
      refine lv_icmp_ne (tgt := 46) hx hb dX1_candidate_33 (by decide) (fun hc => ?_) (fun hc => ?_)
      · have h := sr_ifn h hc
        refine lv_iinc (v := (v2 + 1)) (lv' := [(2, .int (v2 + 1)), (0, .ref (ad o)), (1, .int a1), (3, .int v3)]) hx hb dX1_candidate_46 hl (k := 2) rfl rfl (by decide) rfl (fun ls hl => ?_)
        refine lv_iinc (v := (v3 + 1)) (lv' := [(3, .int (v3 + 1)), (2, .int (v2 + 1)), (0, .ref (ad o)), (1, .int a1)]) hx hb dX1_candidate_49 hl (k := 3) rfl rfl (by decide) rfl (fun ls hl => ?_)
        refine lv_goto (tgt := 4) hx hb dX1_candidate_52 (by decide) ?_
        exact hi1 ((v2 + 1), (v3 + 1)) (Option.some.inj h).symm _ _ _ hw (lv_sub hl [2, 3, 1, 0] rfl)
      · have h := sr_ifp h hc
        refine lv_aload_n hx hb dX1_candidate_36 rfl (lv_at hl 0 rfl) ?_
        refine sr_getr hx hb hts qzX1 hown hw (xfF_0 t ad ho) (hts _ qfX1_49) dX1_candidate_37 ?_
        refine sr_getr hx hb hts qzX2 hown hw (xf_1_8 t ad) (hts _ qfX1_88) dX1_candidate_40 ?_
        refine lv_iload_n hx hb dX1_candidate_43 rfl (lv_at hl 3 rfl) ?_
        refine sr_iald hx hb hw (xa_8 t ad) h dX1_candidate_44 (fun v7 h => ?_)
        have h := sr_ser (hE1 _ (he1 _ (Option.some.inj h).symm))
        obtain rfl := Option.some.inj h
        exact ret _ _ _ _ hw rfl dX1_candidate_45

noncomputable def f1_nextThroat (o : Nat) (M : sr_M) : Option (Int32) :=
sr_bnd (M.1 o 2) fun v1 =>
sr_jn (fun (v3 : Int32) =>
if v3 < 0 then
((f1_candidate o 0 M).bind fun v4 =>
some v4)
else
(some v3)) fun (K2 : Int32 → Option (Int32)) =>
if v1 ≤ 0 then
(K2 (-1))
else
(sr_bnd (M.1 o 2) fun v5 =>
sr_ld v5 121 (M.1 (o + 2)) fun v6 =>
(f1_preferredAt o v6 M).bind fun v7 =>
K2 v7)
set_option maxHeartbeats 4000000 in
set_option maxRecDepth 100000 in
theorem k1_nextThroat (l : Launch) (D : va_G) (t : Nat → ClassId) (ad : Nat → Nat) (o : Nat) (ho : xoF o) (M : sr_M) (r : Int32) (h : f1_nextThroat o M = some r) : sr_Mi l D vwCl (xty t) ad (xcf t ad) 62 yX1_nextThroat (.code yX1_nextThroat cX1_nextThroat 2 (some .int) :: sr_tbl) ({ frames := 3, cells := 0, slots := 0, locals := 68 }) [.ref (ad o)] M r M := by
  refine sr_open_i (cc := cX1_nextThroat) (maxL := 2) (by decide) rfl (Nat.le_of_ble_eq_true rfl) ?_
  intro p e s m args below meth c A Q ls hx hb hml hts0 hown hA hw hl ret
  have hts : ∀ w ∈ sr_tbl, w.before args s = true := fun w hw => hts0 w (List.mem_cons_of_mem _ hw)
  have hown : s.vm.findClass RX1 = some m.cls := hown
  have hl : lv_has ls 2 [(0, .ref (ad o))] := hl
  have hw : xH D t ad A s M s.heap [] := hw
  unfold f1_nextThroat at h
  refine lv_aload_n hx hb dX1_nextThroat_0 rfl (lv_at hl 0 rfl) ?_
  refine sr_geti hx hb hts qzX1 hown hw (xfF_2 t ad ho) (hts _ qfX1_57) h dX1_nextThroat_1 (fun v1 h => ?_)
  refine sr_jn_rule (fun (K2 : Int32 → Option (Int32)) => ∀ (v3 : Int32), K2 v3 = some r → ∀ (H : Heap) (locs : List Loc) (ls : Array Slot), xH D t ad A s M H locs → lv_has ls 2 [(0, .ref (ad o))] → W p l e ({ frames := 3, cells := 0, slots := 0, locals := 68 }) s m args below meth c H locs 0 0 Q (F0 m 24 ls [.int v3])) h ?_ (fun K2 hK2 h => ?_)
  · intro v3 h H locs ls hw hl
    refine lv_istore_n (lv' := [(1, .int v3), (0, .ref (ad o))]) hx hb dX1_nextThroat_24 rfl hl (by decide) rfl (fun ls hl => ?_)
    refine lv_iload_n hx hb dX1_nextThroat_25 rfl (lv_at hl 0 rfl) ?_
    refine lv_if_lt (tgt := 33) hx hb dX1_nextThroat_26 (by decide) (fun hc => ?_) (fun hc => ?_)
    · have h := sr_ifp h hc
      refine lv_aload_n hx hb dX1_nextThroat_33 rfl (lv_at hl 1 rfl) ?_
      refine lv_iconst (v := 0) hx hb dX1_nextThroat_34 (by decide) ?_
      obtain ⟨v4, hc, h⟩ := sr_bind1 h
      refine sr_cVi (As := [.int 0]) (rest := []) ⟨hx, hb, hml, hown, hts⟩ (k1_candidate l D t ad o ho 0 M _ hc) (cwV 1 hts (sr_goodV qmX1_102 qiX1_candidate qsX1_candidate qnX1 qcX1_candidate) rfl rfl rfl qdX1_candidate ⟨Nat.le_of_ble_eq_true rfl, Nat.le_of_ble_eq_true rfl⟩) hw hA (xobF t ad ho) rfl hl.1 rfl (Nat.le_of_ble_eq_true rfl) dX1_nextThroat_35 (fun H locs hw => ?_)
      obtain rfl := Option.some.inj h
      exact ret _ _ _ _ hw rfl dX1_nextThroat_38
    · have h := sr_ifn h hc
      refine lv_iload_n hx hb dX1_nextThroat_29 rfl (lv_at hl 0 rfl) ?_
      refine lv_goto (tgt := 38) hx hb dX1_nextThroat_30 (by decide) ?_
      obtain rfl := Option.some.inj h
      exact ret _ _ _ _ hw rfl dX1_nextThroat_38
  · refine lv_if_le (tgt := 23) hx hb dX1_nextThroat_4 (by decide) (fun hc => ?_) (fun hc => ?_)
    · have h := sr_ifp h hc
      refine lv_iconst (v := (-1)) hx hb dX1_nextThroat_23 (by decide) ?_
      exact hK2 (-1) h _ _ _ hw (lv_sub hl [0] rfl)
    · have h := sr_ifn h hc
      refine lv_aload_n hx hb dX1_nextThroat_7 rfl (lv_at hl 0 rfl) ?_
      refine lv_aload_n hx hb dX1_nextThroat_8 rfl (lv_at hl 0 rfl) ?_
      refine sr_getr hx hb hts qzX1 hown hw (xfF_4 t ad ho) (hts _ qfX1_15) dX1_nextThroat_9 ?_
      refine lv_aload_n hx hb dX1_nextThroat_12 rfl (lv_at hl 0 rfl) ?_
      refine sr_geti hx hb hts qzX1 hown hw (xfF_2 t ad ho) (hts _ qfX1_57) h dX1_nextThroat_13 (fun v5 h => ?_)
      refine sr_iald hx hb hw (xaF_2 t ad ho) h dX1_nextThroat_16 (fun v6 h => ?_)
      obtain ⟨v7, hc, h⟩ := sr_bind1 h
      refine sr_cVi (As := [.int v6]) (rest := []) ⟨hx, hb, hml, hown, hts⟩ (k1_preferredAt l D t ad o ho v6 M _ hc) (cwV 1 hts (sr_goodV qmX1_98 qiX1_preferredAt qsX1_preferredAt qnX1 qcX1_preferredAt) rfl rfl rfl qdX1_preferredAt ⟨Nat.le_of_ble_eq_true rfl, Nat.le_of_ble_eq_true rfl⟩) hw hA (xobF t ad ho) rfl hl.1 rfl (Nat.le_of_ble_eq_true rfl) dX1_nextThroat_17 (fun H locs hw => ?_)
      refine lv_goto (tgt := 24) hx hb dX1_nextThroat_20 (by decide) ?_
      exact hK2 v7 h _ _ _ hw (lv_sub hl [0] rfl)

noncomputable def f1_advance (o : Nat) (M : sr_M) : Option (Int32 × sr_M) :=
(f1_nextThroat o M).bind fun v1 =>
if 0 ≤ v1 then
(sr_ld v1 300 (M.1 4) fun v2 =>
sr_ld v2 120 (M.1 (o + 3)) fun v3 =>
sr_jn (fun (v5 : Int32) =>
sr_bnd (M.1 o 2) fun v6 =>
sr_put M o 2 (v6 + 1) fun M7 =>
sr_bnd (M7.1 o 2) fun v8 =>
sr_st v8 121 M7 (o + 1) v1 fun M9 =>
sr_bnd (M9.1 o 2) fun v10 =>
sr_st v10 121 M9 (o + 2) v5 fun M11 =>
sr_bnd (M11.1 o 2) fun v12 =>
sr_st v5 120 M11 (o + 3) v12 fun M13 =>
sr_st v5 120 M13 (o + 4) v1 fun M14 =>
(f1_cutOff o M14).bind fun M15 =>
some (v1, M15)) fun (K4 : Int32 → Option (Int32 × sr_M)) =>
if v3 < 0 then
(K4 v2)
else
(sr_ld v1 300 (M.1 5) fun v16 =>
K4 v16))
else
(some ((-1), M))
set_option maxHeartbeats 4000000 in
set_option maxRecDepth 100000 in
theorem k1_advance (l : Launch) (D : va_G) (t : Nat → ClassId) (ad : Nat → Nat) (o : Nat) (ho : xoF o) (M : sr_M) (r : Int32) (M' : sr_M) (h : f1_advance o M = some (r, M')) : sr_Mi l D vwCl (xty t) ad (xcf t ad) 62 yX1_advance (.code yX1_advance cX1_advance 3 (some .int) :: sr_tbl) ({ frames := 4, cells := 0, slots := 0, locals := 91 }) [.ref (ad o)] M r M' := by
  refine sr_open_i (cc := cX1_advance) (maxL := 3) (by decide) rfl (Nat.le_of_ble_eq_true rfl) ?_
  intro p e s m args below meth c A Q ls hx hb hml hts0 hown hA hw hl ret
  have hts : ∀ w ∈ sr_tbl, w.before args s = true := fun w hw => hts0 w (List.mem_cons_of_mem _ hw)
  have hown : s.vm.findClass RX1 = some m.cls := hown
  have hl : lv_has ls 3 [(0, .ref (ad o))] := hl
  have hw : xH D t ad A s M s.heap [] := hw
  unfold f1_advance at h
  refine lv_aload_n hx hb dX1_advance_0 rfl (lv_at hl 0 rfl) ?_
  obtain ⟨v1, hc, h⟩ := sr_bind1 h
  refine sr_cVi (As := []) (rest := []) ⟨hx, hb, hml, hown, hts⟩ (k1_nextThroat l D t ad o ho M _ hc) (cwV 0 hts (sr_goodV qmX1_75 qiX1_nextThroat qsX1_nextThroat qnX1 qcX1_nextThroat) rfl rfl rfl qdX1_nextThroat ⟨Nat.le_of_ble_eq_true rfl, Nat.le_of_ble_eq_true rfl⟩) hw hA (xobF t ad ho) rfl hl.1 rfl (Nat.le_of_ble_eq_true rfl) dX1_advance_1 (fun H locs hw => ?_)
  refine lv_istore_n (lv' := [(1, .int v1), (0, .ref (ad o))]) hx hb dX1_advance_4 rfl hl (by decide) rfl (fun ls hl => ?_)
  refine lv_iload_n hx hb dX1_advance_5 rfl (lv_at hl 0 rfl) ?_
  refine lv_if_ge (tgt := 11) hx hb dX1_advance_6 (by decide) (fun hc => ?_) (fun hc => ?_)
  · have h := sr_ifp h hc
    refine lv_aload_n hx hb dX1_advance_11 rfl (lv_at hl 1 rfl) ?_
    refine sr_getr hx hb hts qzX1 hown hw (xfF_0 t ad ho) (hts _ qfX1_49) dX1_advance_12 ?_
    refine sr_getr hx hb hts qzX2 hown hw (xf_1_4 t ad) (hts _ qfX1_79) dX1_advance_15 ?_
    refine lv_iload_n hx hb dX1_advance_18 rfl (lv_at hl 0 rfl) ?_
    refine sr_iald hx hb hw (xa_4 t ad) h dX1_advance_19 (fun v2 h => ?_)
    refine lv_istore_n (lv' := [(2, .int v2), (1, .int v1), (0, .ref (ad o))]) hx hb dX1_advance_20 rfl hl (by decide) rfl (fun ls hl => ?_)
    refine lv_aload_n hx hb dX1_advance_21 rfl (lv_at hl 2 rfl) ?_
    refine sr_getr hx hb hts qzX1 hown hw (xfF_5 t ad ho) (hts _ qfX1_18) dX1_advance_22 ?_
    refine lv_iload_n hx hb dX1_advance_25 rfl (lv_at hl 0 rfl) ?_
    refine sr_iald hx hb hw (xaF_3 t ad ho) h dX1_advance_26 (fun v3 h => ?_)
    refine sr_jn_rule (fun (K4 : Int32 → Option (Int32 × sr_M)) => ∀ (v5 : Int32), K4 v5 = some (r, M') → ∀ (H : Heap) (locs : List Loc) (ls : Array Slot), xH D t ad A s M H locs → lv_has ls 3 [(0, .ref (ad o)), (1, .int v1), (2, .int v5)] → W p l e ({ frames := 4, cells := 0, slots := 0, locals := 91 }) s m args below meth c H locs 0 0 Q (F0 m 40 ls [])) h ?_ (fun K4 hK4 h => ?_)
    · intro v5 h H locs ls hw hl
      refine lv_aload_n hx hb dX1_advance_40 rfl (lv_at hl 0 rfl) ?_
      refine lv_dup hx hb dX1_advance_41 rfl ?_
      refine sr_geti hx hb hts qzX1 hown hw (xfF_2 t ad ho) (hts _ qfX1_57) h dX1_advance_42 (fun v6 h => ?_)
      refine lv_iconst (v := 1) hx hb dX1_advance_45 (by decide) ?_
      refine lv_iadd hx hb dX1_advance_46 ?_
      refine sr_puti hx hb hts qzX1 tyX1 tyX1_ok nmX1 hown hw (xfF_2 t ad ho) rfl rfl (hts _ qfX1_57) h dX1_advance_47 (fun M7 H locs h hw => ?_)
      refine lv_aload_n hx hb dX1_advance_50 rfl (lv_at hl 0 rfl) ?_
      refine sr_getr hx hb hts qzX1 hown hw (xfF_3 t ad ho) (hts _ qfX1_9) dX1_advance_51 ?_
      refine lv_aload_n hx hb dX1_advance_54 rfl (lv_at hl 0 rfl) ?_
      refine sr_geti hx hb hts qzX1 hown hw (xfF_2 t ad ho) (hts _ qfX1_57) h dX1_advance_55 (fun v8 h => ?_)
      refine lv_iload_n hx hb dX1_advance_58 rfl (lv_at hl 1 rfl) ?_
      refine sr_iast hx hb hw (xaF_1 t ad ho) h dX1_advance_59 (fun M9 H locs h hw => ?_)
      refine lv_aload_n hx hb dX1_advance_60 rfl (lv_at hl 0 rfl) ?_
      refine sr_getr hx hb hts qzX1 hown hw (xfF_4 t ad ho) (hts _ qfX1_15) dX1_advance_61 ?_
      refine lv_aload_n hx hb dX1_advance_64 rfl (lv_at hl 0 rfl) ?_
      refine sr_geti hx hb hts qzX1 hown hw (xfF_2 t ad ho) (hts _ qfX1_57) h dX1_advance_65 (fun v10 h => ?_)
      refine lv_iload_n hx hb dX1_advance_68 rfl (lv_at hl 2 rfl) ?_
      refine sr_iast hx hb hw (xaF_2 t ad ho) h dX1_advance_69 (fun M11 H locs h hw => ?_)
      refine lv_aload_n hx hb dX1_advance_70 rfl (lv_at hl 0 rfl) ?_
      refine sr_getr hx hb hts qzX1 hown hw (xfF_5 t ad ho) (hts _ qfX1_18) dX1_advance_71 ?_
      refine lv_iload_n hx hb dX1_advance_74 rfl (lv_at hl 2 rfl) ?_
      refine lv_aload_n hx hb dX1_advance_75 rfl (lv_at hl 0 rfl) ?_
      refine sr_geti hx hb hts qzX1 hown hw (xfF_2 t ad ho) (hts _ qfX1_57) h dX1_advance_76 (fun v12 h => ?_)
      refine sr_iast hx hb hw (xaF_3 t ad ho) h dX1_advance_79 (fun M13 H locs h hw => ?_)
      refine lv_aload_n hx hb dX1_advance_80 rfl (lv_at hl 0 rfl) ?_
      refine sr_getr hx hb hts qzX1 hown hw (xfF_6 t ad ho) (hts _ qfX1_21) dX1_advance_81 ?_
      refine lv_iload_n hx hb dX1_advance_84 rfl (lv_at hl 2 rfl) ?_
      refine lv_iload_n hx hb dX1_advance_85 rfl (lv_at hl 1 rfl) ?_
      refine sr_iast hx hb hw (xaF_4 t ad ho) h dX1_advance_86 (fun M14 H locs h hw => ?_)
      refine lv_aload_n hx hb dX1_advance_87 rfl (lv_at hl 0 rfl) ?_
      obtain ⟨M15, hc, h⟩ := sr_bind1 h
      refine sr_cVv (As := []) (rest := []) ⟨hx, hb, hml, hown, hts⟩ (k1_cutOff l D t ad o ho M14 _ hc) (cwV 0 hts (sr_goodV qmX1_72 qiX1_cutOff qsX1_cutOff qnX1 qcX1_cutOff) rfl rfl rfl qdX1_cutOff ⟨Nat.le_of_ble_eq_true rfl, Nat.le_of_ble_eq_true rfl⟩) hw hA (xobF t ad ho) rfl hl.1 rfl (Nat.le_of_ble_eq_true rfl) dX1_advance_88 (fun H locs hw => ?_)
      refine lv_iload_n hx hb dX1_advance_91 rfl (lv_at hl 1 rfl) ?_
      obtain ⟨rfl, rfl⟩ := Prod.mk.inj (Option.some.inj h)
      exact ret _ _ _ _ hw rfl dX1_advance_92
    · refine lv_if_lt (tgt := 40) hx hb dX1_advance_27 (by decide) (fun hc => ?_) (fun hc => ?_)
      · have h := sr_ifp h hc
        exact hK4 v2 h _ _ _ hw (lv_sub hl [2, 1, 0] rfl)
      · have h := sr_ifn h hc
        refine lv_aload_n hx hb dX1_advance_30 rfl (lv_at hl 2 rfl) ?_
        refine sr_getr hx hb hts qzX1 hown hw (xfF_0 t ad ho) (hts _ qfX1_49) dX1_advance_31 ?_
        refine sr_getr hx hb hts qzX2 hown hw (xf_1_5 t ad) (hts _ qfX1_82) dX1_advance_34 ?_
        refine lv_iload_n hx hb dX1_advance_37 rfl (lv_at hl 1 rfl) ?_
        refine sr_iald hx hb hw (xa_5 t ad) h dX1_advance_38 (fun v16 h => ?_)
        refine lv_istore_n (lv' := [(2, .int v16), (1, .int v1), (0, .ref (ad o))]) hx hb dX1_advance_39 rfl hl (by decide) rfl (fun ls hl => ?_)
        exact hK4 v16 h _ _ _ hw (lv_sub hl [2, 1, 0] rfl)
  · have h := sr_ifn h hc
    refine lv_iconst (v := (-1)) hx hb dX1_advance_9 (by decide) ?_
    obtain ⟨rfl, rfl⟩ := Prod.mk.inj (Option.some.inj h)
    exact ret _ _ _ _ hw rfl dX1_advance_10

noncomputable def f1_takeBackTo_L7 (o : Nat) (a1 : Int32) (v3 : Int32) (M4 : sr_M) : Option ((Int32 × sr_M) ⊕ (sr_M)) :=
sr_bnd (M4.1 1 0) fun v5 =>
if v5 ≤ v3 then
(some (.inr M4))
else
(sr_ld v3 120 (M4.1 (o + 3)) fun v6 =>
sr_jn (fun (M8 : sr_M) =>
sr_ld v3 120 (M8.1 (o + 5)) fun v9 =>
if v9 ≤ a1 then
(some (.inl ((v3 + 1), M8)))
else
(sr_st v3 120 M8 (o + 5) (-1) fun M10 =>
sr_st v3 120 M10 (o + 6) (-1) fun M11 =>
some (.inl ((v3 + 1), M11)))) fun (K7 : sr_M → Option ((Int32 × sr_M) ⊕ (sr_M))) =>
if v6 ≤ a1 then
(K7 M4)
else
(sr_st v3 120 M4 (o + 3) (-1) fun M12 =>
sr_st v3 120 M12 (o + 4) (-1) fun M13 =>
K7 M13))
noncomputable def f1_takeBackTo_L72 (o : Nat) (a1 : Int32) (M16 : sr_M) : Option ((sr_M) ⊕ (sr_M)) :=
sr_bnd (M16.1 o 9) fun v17 =>
if v17 ≤ 0 then
(some (.inr M16))
else
(sr_bnd (M16.1 o 9) fun v18 =>
sr_ld (v18 - 1) 120 (M16.1 (o + 7)) fun v19 =>
if v19 ≤ a1 then
(some (.inr M16))
else
(sr_bnd (M16.1 o 9) fun v20 =>
sr_put M16 o 9 (v20 - 1) fun M21 =>
some (.inl M21)))
noncomputable def f1_takeBackTo (o : Nat) (a1 : Int32) (M : sr_M) : Option (sr_M) :=
sr_put M o 2 a1 fun M1 =>
(sr_lp (fun z2 : Int32 × sr_M => f1_takeBackTo_L7 o a1 z2.1 z2.2) (0, M1)).bind fun w2 =>
(sr_lp (fun z15 : sr_M => f1_takeBackTo_L72 o a1 z15) w2).bind fun w15 =>
some w15
set_option maxHeartbeats 4000000 in
set_option maxRecDepth 100000 in
theorem k1_takeBackTo (l : Launch) (D : va_G) (t : Nat → ClassId) (ad : Nat → Nat) (o : Nat) (ho : xoF o) (a1 : Int32) (M : sr_M) (M' : sr_M) (h : f1_takeBackTo o a1 M = some M') : sr_Mv l D vwCl (xty t) ad (xcf t ad) 62 yX1_takeBackTo (.code yX1_takeBackTo cX1_takeBackTo 3 (none) :: sr_tbl) ({ frames := 0, cells := 0, slots := 0, locals := 0 }) [.ref (ad o), .int a1] M M' := by
  refine sr_open_v (cc := cX1_takeBackTo) (maxL := 3) (by decide) rfl (Nat.le_of_ble_eq_true rfl) ?_
  intro p e s m args below meth c A Q ls hx hb hml hts0 hown hA hw hl ret
  have hts : ∀ w ∈ sr_tbl, w.before args s = true := fun w hw => hts0 w (List.mem_cons_of_mem _ hw)
  have hown : s.vm.findClass RX1 = some m.cls := hown
  have hl : lv_has ls 3 [(0, .ref (ad o)), (1, .int a1)] := hl
  have hw : xH D t ad A s M s.heap [] := hw
  unfold f1_takeBackTo at h
  refine lv_aload_n hx hb dX1_takeBackTo_0 rfl (lv_at hl 0 rfl) ?_
  refine lv_iload_n hx hb dX1_takeBackTo_1 rfl (lv_at hl 1 rfl) ?_
  refine sr_puti hx hb hts qzX1 tyX1 tyX1_ok nmX1 hown hw (xfF_2 t ad ho) rfl rfl (hts _ qfX1_57) h dX1_takeBackTo_2 (fun M1 H locs h hw => ?_)
  refine lv_iconst (v := 0) hx hb dX1_takeBackTo_5 (by decide) ?_
  refine lv_istore_n (lv' := [(2, .int 0), (0, .ref (ad o)), (1, .int a1)]) hx hb dX1_takeBackTo_6 rfl hl (by decide) rfl (fun ls hl => ?_)
  obtain ⟨x2, hlp, hE2⟩ := sr_bind h
  have hX2 : ∀ (M14 : sr_M), M14 = x2 → ∀ (H : Heap) (locs : List Loc) (ls : Array Slot), xH D t ad A s M14 H locs → lv_has ls 3 [(0, .ref (ad o)), (1, .int a1)] → W p l e ({ frames := 0, cells := 0, slots := 0, locals := 0 }) s m args below meth c H locs 0 0 Q (F0 m 72 ls []) := by
    intro M14 ex H locs ls hw hl
    have h := hE2 _ ex
    try dsimp only at h
    obtain ⟨x15, hlp, hE15⟩ := sr_bind h
    have hX15 : ∀ (M22 : sr_M), M22 = x15 → ∀ (H : Heap) (locs : List Loc) (ls : Array Slot), xH D t ad A s M22 H locs → lv_has ls 3 [] → W p l e ({ frames := 0, cells := 0, slots := 0, locals := 0 }) s m args below meth c H locs 0 0 Q (F0 m 107 ls []) := by
      intro M22 ex H locs ls hw hl
      have h := hE15 _ ex
      try dsimp only at h
      obtain rfl := Option.some.inj h
      exact ret _ _ _ _ hw dX1_takeBackTo_107
    refine sr_lp_rule (fun (z15 : sr_M) => ∀ (H : Heap) (locs : List Loc) (ls : Array Slot), xH D t ad A s z15 H locs → lv_has ls 3 [(0, .ref (ad o)), (1, .int a1)] → W p l e ({ frames := 0, cells := 0, slots := 0, locals := 0 }) s m args below meth c H locs 0 0 Q (F0 m 72 ls [])) ?_ hlp _ _ _ hw (lv_sub hl [0, 1] rfl)
    rintro M16 y15 h hi15 he15 H locs ls hw hl
    have h : f1_takeBackTo_L72 o a1 M16 = some y15 := h
    have hw : xH D t ad A s M16 H locs := hw
    have hl : lv_has ls 3 [(0, .ref (ad o)), (1, .int a1)] := hl
    unfold f1_takeBackTo_L72 at h
    refine lv_aload_n hx hb dX1_takeBackTo_72 rfl (lv_at hl 0 rfl) ?_
    refine sr_geti hx hb hts qzX1 hown hw (xfF_9 t ad ho) (hts _ qfX1_61) h dX1_takeBackTo_73 (fun v17 h => ?_)
    refine lv_if_le (tgt := 107) hx hb dX1_takeBackTo_76 (by decide) (fun hc => ?_) (fun hc => ?_)
    · have h := sr_ifp h hc
      exact hX15  M16 (he15 _ (Option.some.inj h).symm) _ _ _ hw (lv_sub hl [] rfl)
    · have h := sr_ifn h hc
      refine lv_aload_n hx hb dX1_takeBackTo_79 rfl (lv_at hl 0 rfl) ?_
      refine sr_getr hx hb hts qzX1 hown hw (xfF_10 t ad ho) (hts _ qfX1_30) dX1_takeBackTo_80 ?_
      refine lv_aload_n hx hb dX1_takeBackTo_83 rfl (lv_at hl 0 rfl) ?_
      refine sr_geti hx hb hts qzX1 hown hw (xfF_9 t ad ho) (hts _ qfX1_61) h dX1_takeBackTo_84 (fun v18 h => ?_)
      refine lv_iconst (v := 1) hx hb dX1_takeBackTo_87 (by decide) ?_
      refine lv_isub hx hb dX1_takeBackTo_88 ?_
      refine sr_iald hx hb hw (xaF_7 t ad ho) h dX1_takeBackTo_89 (fun v19 h => ?_)
      refine lv_iload_n hx hb dX1_takeBackTo_90 rfl (lv_at hl 1 rfl) ?_
      refine lv_icmp_le (tgt := 107) hx hb dX1_takeBackTo_91 (by decide) (fun hc => ?_) (fun hc => ?_)
      · have h := sr_ifp h hc
        exact hX15  M16 (he15 _ (Option.some.inj h).symm) _ _ _ hw (lv_sub hl [] rfl)
      · have h := sr_ifn h hc
        refine lv_aload_n hx hb dX1_takeBackTo_94 rfl (lv_at hl 0 rfl) ?_
        refine lv_dup hx hb dX1_takeBackTo_95 rfl ?_
        refine sr_geti hx hb hts qzX1 hown hw (xfF_9 t ad ho) (hts _ qfX1_61) h dX1_takeBackTo_96 (fun v20 h => ?_)
        refine lv_iconst (v := 1) hx hb dX1_takeBackTo_99 (by decide) ?_
        refine lv_isub hx hb dX1_takeBackTo_100 ?_
        refine sr_puti hx hb hts qzX1 tyX1 tyX1_ok nmX1 hown hw (xfF_9 t ad ho) rfl rfl (hts _ qfX1_61) h dX1_takeBackTo_101 (fun M21 H locs h hw => ?_)
        refine lv_goto (tgt := 72) hx hb dX1_takeBackTo_104 (by decide) ?_
        exact hi15 M21 (Option.some.inj h).symm _ _ _ hw (lv_sub hl [0, 1] rfl)
  refine sr_lp_rule (fun (z2 : Int32 × sr_M) => ∀ (H : Heap) (locs : List Loc) (ls : Array Slot), xH D t ad A s z2.2 H locs → lv_has ls 3 [(0, .ref (ad o)), (1, .int a1), (2, .int z2.1)] → W p l e ({ frames := 0, cells := 0, slots := 0, locals := 0 }) s m args below meth c H locs 0 0 Q (F0 m 7 ls [])) ?_ hlp _ _ _ hw (lv_sub hl [1, 2, 0] rfl)
  rintro ⟨v3, M4⟩ y2 h hi2 he2 H locs ls hw hl
  have h : f1_takeBackTo_L7 o a1 v3 M4 = some y2 := h
  have hw : xH D t ad A s M4 H locs := hw
  have hl : lv_has ls 3 [(0, .ref (ad o)), (1, .int a1), (2, .int v3)] := hl
  unfold f1_takeBackTo_L7 at h
  refine lv_iload_n hx hb dX1_takeBackTo_7 rfl (lv_at hl 2 rfl) ?_
  refine lv_aload_n hx hb dX1_takeBackTo_8 rfl (lv_at hl 0 rfl) ?_
  refine sr_getr hx hb hts qzX1 hown hw (xfF_0 t ad ho) (hts _ qfX1_49) dX1_takeBackTo_9 ?_
  refine sr_geti hx hb hts qzX2 hown hw (xf_1_0 t ad) (hts _ qfX1_64) h dX1_takeBackTo_12 (fun v5 h => ?_)
  refine lv_icmp_ge (tgt := 72) hx hb dX1_takeBackTo_15 (by decide) (fun hc => ?_) (fun hc => ?_)
  · have h := sr_ifp h hc
    exact hX2  M4 (he2 _ (Option.some.inj h).symm) _ _ _ hw (lv_sub hl [0, 1] rfl)
  · have h := sr_ifn h hc
    refine lv_aload_n hx hb dX1_takeBackTo_18 rfl (lv_at hl 0 rfl) ?_
    refine sr_getr hx hb hts qzX1 hown hw (xfF_5 t ad ho) (hts _ qfX1_18) dX1_takeBackTo_19 ?_
    refine lv_iload_n hx hb dX1_takeBackTo_22 rfl (lv_at hl 2 rfl) ?_
    refine sr_iald hx hb hw (xaF_3 t ad ho) h dX1_takeBackTo_23 (fun v6 h => ?_)
    refine lv_iload_n hx hb dX1_takeBackTo_24 rfl (lv_at hl 1 rfl) ?_
    refine sr_jn_rule (fun (K7 : sr_M → Option ((Int32 × sr_M) ⊕ (sr_M))) => ∀ (M8 : sr_M), K7 M8 = some y2 → ∀ (H : Heap) (locs : List Loc) (ls : Array Slot), xH D t ad A s M8 H locs → lv_has ls 3 [(0, .ref (ad o)), (1, .int a1), (2, .int v3)] → W p l e ({ frames := 0, cells := 0, slots := 0, locals := 0 }) s m args below meth c H locs 0 0 Q (F0 m 42 ls [])) h ?_ (fun K7 hK7 h => ?_)
    · intro M8 h H locs ls hw hl
      refine lv_aload_n hx hb dX1_takeBackTo_42 rfl (lv_at hl 0 rfl) ?_
      refine sr_getr hx hb hts qzX1 hown hw (xfF_7 t ad ho) (hts _ qfX1_24) dX1_takeBackTo_43 ?_
      refine lv_iload_n hx hb dX1_takeBackTo_46 rfl (lv_at hl 2 rfl) ?_
      refine sr_iald hx hb hw (xaF_5 t ad ho) h dX1_takeBackTo_47 (fun v9 h => ?_)
      refine lv_iload_n hx hb dX1_takeBackTo_48 rfl (lv_at hl 1 rfl) ?_
      refine lv_icmp_le (tgt := 66) hx hb dX1_takeBackTo_49 (by decide) (fun hc => ?_) (fun hc => ?_)
      · have h := sr_ifp h hc
        refine lv_iinc (v := (v3 + 1)) (lv' := [(2, .int (v3 + 1)), (0, .ref (ad o)), (1, .int a1)]) hx hb dX1_takeBackTo_66 hl (k := 2) rfl rfl (by decide) rfl (fun ls hl => ?_)
        refine lv_goto (tgt := 7) hx hb dX1_takeBackTo_69 (by decide) ?_
        exact hi2 ((v3 + 1), M8) (Option.some.inj h).symm _ _ _ hw (lv_sub hl [1, 2, 0] rfl)
      · have h := sr_ifn h hc
        refine lv_aload_n hx hb dX1_takeBackTo_52 rfl (lv_at hl 0 rfl) ?_
        refine sr_getr hx hb hts qzX1 hown hw (xfF_7 t ad ho) (hts _ qfX1_24) dX1_takeBackTo_53 ?_
        refine lv_iload_n hx hb dX1_takeBackTo_56 rfl (lv_at hl 2 rfl) ?_
        refine lv_iconst (v := (-1)) hx hb dX1_takeBackTo_57 (by decide) ?_
        refine sr_iast hx hb hw (xaF_5 t ad ho) h dX1_takeBackTo_58 (fun M10 H locs h hw => ?_)
        refine lv_aload_n hx hb dX1_takeBackTo_59 rfl (lv_at hl 0 rfl) ?_
        refine sr_getr hx hb hts qzX1 hown hw (xfF_8 t ad ho) (hts _ qfX1_27) dX1_takeBackTo_60 ?_
        refine lv_iload_n hx hb dX1_takeBackTo_63 rfl (lv_at hl 2 rfl) ?_
        refine lv_iconst (v := (-1)) hx hb dX1_takeBackTo_64 (by decide) ?_
        refine sr_iast hx hb hw (xaF_6 t ad ho) h dX1_takeBackTo_65 (fun M11 H locs h hw => ?_)
        refine lv_iinc (v := (v3 + 1)) (lv' := [(2, .int (v3 + 1)), (0, .ref (ad o)), (1, .int a1)]) hx hb dX1_takeBackTo_66 hl (k := 2) rfl rfl (by decide) rfl (fun ls hl => ?_)
        refine lv_goto (tgt := 7) hx hb dX1_takeBackTo_69 (by decide) ?_
        exact hi2 ((v3 + 1), M11) (Option.some.inj h).symm _ _ _ hw (lv_sub hl [1, 2, 0] rfl)
    · refine lv_icmp_le (tgt := 42) hx hb dX1_takeBackTo_25 (by decide) (fun hc => ?_) (fun hc => ?_)
      · have h := sr_ifp h hc
        exact hK7 M4 h _ _ _ hw (lv_sub hl [0, 1, 2] rfl)
      · have h := sr_ifn h hc
        refine lv_aload_n hx hb dX1_takeBackTo_28 rfl (lv_at hl 0 rfl) ?_
        refine sr_getr hx hb hts qzX1 hown hw (xfF_5 t ad ho) (hts _ qfX1_18) dX1_takeBackTo_29 ?_
        refine lv_iload_n hx hb dX1_takeBackTo_32 rfl (lv_at hl 2 rfl) ?_
        refine lv_iconst (v := (-1)) hx hb dX1_takeBackTo_33 (by decide) ?_
        refine sr_iast hx hb hw (xaF_3 t ad ho) h dX1_takeBackTo_34 (fun M12 H locs h hw => ?_)
        refine lv_aload_n hx hb dX1_takeBackTo_35 rfl (lv_at hl 0 rfl) ?_
        refine sr_getr hx hb hts qzX1 hown hw (xfF_6 t ad ho) (hts _ qfX1_21) dX1_takeBackTo_36 ?_
        refine lv_iload_n hx hb dX1_takeBackTo_39 rfl (lv_at hl 2 rfl) ?_
        refine lv_iconst (v := (-1)) hx hb dX1_takeBackTo_40 (by decide) ?_
        refine sr_iast hx hb hw (xaF_4 t ad ho) h dX1_takeBackTo_41 (fun M13 H locs h hw => ?_)
        exact hK7 M13 h _ _ _ hw (lv_sub hl [0, 1, 2] rfl)

noncomputable def f1_countCandidates_L4 (o : Nat) (M : sr_M) (v2 : Int32) (v3 : Int32) : Option ((Int32 × Int32) ⊕ (Int32)) :=
sr_bnd (M.1 1 9) fun v4 =>
if v4 ≤ v3 then
(some (.inr v2))
else
(sr_ld v3 300 (M.1 8) fun v5 =>
(f1_isCandidate o v5 M).bind fun v6 =>
if v6 = 0 then
(some (.inl ((v2 + 0), (v3 + 1))))
else
(some (.inl ((v2 + 1), (v3 + 1)))))
noncomputable def f1_countCandidates (o : Nat) (M : sr_M) : Option (Int32) :=
(sr_lp (fun z1 : Int32 × Int32 => f1_countCandidates_L4 o M z1.1 z1.2) (0, 0)).bind fun w1 =>
some w1
set_option maxHeartbeats 4000000 in
set_option maxRecDepth 100000 in
theorem k1_countCandidates (l : Launch) (D : va_G) (t : Nat → ClassId) (ad : Nat → Nat) (o : Nat) (ho : xoF o) (M : sr_M) (r : Int32) (h : f1_countCandidates o M = some r) : sr_Mi l D vwCl (xty t) ad (xcf t ad) 62 yX1_countCandidates (.code yX1_countCandidates cX1_countCandidates 3 (some .int) :: sr_tbl) ({ frames := 2, cells := 0, slots := 0, locals := 43 }) [.ref (ad o)] M r M := by
  refine sr_open_i (cc := cX1_countCandidates) (maxL := 3) (by decide) rfl (Nat.le_of_ble_eq_true rfl) ?_
  intro p e s m args below meth c A Q ls hx hb hml hts0 hown hA hw hl ret
  have hts : ∀ w ∈ sr_tbl, w.before args s = true := fun w hw => hts0 w (List.mem_cons_of_mem _ hw)
  have hown : s.vm.findClass RX1 = some m.cls := hown
  have hl : lv_has ls 3 [(0, .ref (ad o))] := hl
  have hw : xH D t ad A s M s.heap [] := hw
  unfold f1_countCandidates at h
  refine lv_iconst (v := 0) hx hb dX1_countCandidates_0 (by decide) ?_
  refine lv_istore_n (lv' := [(1, .int 0), (0, .ref (ad o))]) hx hb dX1_countCandidates_1 rfl hl (by decide) rfl (fun ls hl => ?_)
  refine lv_iconst (v := 0) hx hb dX1_countCandidates_2 (by decide) ?_
  refine lv_istore_n (lv' := [(2, .int 0), (1, .int 0), (0, .ref (ad o))]) hx hb dX1_countCandidates_3 rfl hl (by decide) rfl (fun ls hl => ?_)
  obtain ⟨x1, hlp, hE1⟩ := sr_bind h
  have hX1 : ∀ (v7 : Int32), v7 = x1 → ∀ (H : Heap) (locs : List Loc) (ls : Array Slot), xH D t ad A s M H locs → lv_has ls 3 [(1, .int v7)] → W p l e ({ frames := 2, cells := 0, slots := 0, locals := 43 }) s m args below meth c H locs 0 0 Q (F0 m 45 ls []) := by
    intro v7 ex H locs ls hw hl
    have h := hE1 _ ex
    try dsimp only at h
    refine lv_iload_n hx hb dX1_countCandidates_45 rfl (lv_at hl 0 rfl) ?_
    obtain rfl := Option.some.inj h
    exact ret _ _ _ _ hw rfl dX1_countCandidates_46
  refine sr_lp_rule (fun (z1 : Int32 × Int32) => ∀ (H : Heap) (locs : List Loc) (ls : Array Slot), xH D t ad A s M H locs → lv_has ls 3 [(0, .ref (ad o)), (1, .int z1.1), (2, .int z1.2)] → W p l e ({ frames := 2, cells := 0, slots := 0, locals := 43 }) s m args below meth c H locs 0 0 Q (F0 m 4 ls [])) ?_ hlp _ _ _ hw (lv_sub hl [2, 1, 0] rfl)
  rintro ⟨v2, v3⟩ y1 h hi1 he1 H locs ls hw hl
  have h : f1_countCandidates_L4 o M v2 v3 = some y1 := h
  have hw : xH D t ad A s M H locs := hw
  have hl : lv_has ls 3 [(0, .ref (ad o)), (1, .int v2), (2, .int v3)] := hl
  unfold f1_countCandidates_L4 at h
  refine lv_iload_n hx hb dX1_countCandidates_4 rfl (lv_at hl 2 rfl) ?_
  refine lv_aload_n hx hb dX1_countCandidates_5 rfl (lv_at hl 0 rfl) ?_
  refine sr_getr hx hb hts qzX1 hown hw (xfF_0 t ad ho) (hts _ qfX1_49) dX1_countCandidates_6 ?_
  refine sr_geti hx hb hts qzX2 hown hw (xf_1_9 t ad) (hts _ qfX1_85) h dX1_countCandidates_9 (fun v4 h => ?_)
  refine lv_icmp_ge (tgt := 45) hx hb dX1_countCandidates_12 (by decide) (fun hc => ?_) (fun hc => ?_)
  · have h := sr_ifp h hc
    exact hX1 v2 (he1 _ (Option.some.inj h).symm) _ _ _ hw (lv_sub hl [1] rfl)
  · have h := sr_ifn h hc
    refine lv_iload_n hx hb dX1_countCandidates_15 rfl (lv_at hl 1 rfl) ?_
    refine lv_aload_n hx hb dX1_countCandidates_16 rfl (lv_at hl 0 rfl) ?_
    refine lv_aload_n hx hb dX1_countCandidates_17 rfl (lv_at hl 0 rfl) ?_
    refine sr_getr hx hb hts qzX1 hown hw (xfF_0 t ad ho) (hts _ qfX1_49) dX1_countCandidates_18 ?_
    refine sr_getr hx hb hts qzX2 hown hw (xf_1_8 t ad) (hts _ qfX1_88) dX1_countCandidates_21 ?_
    refine lv_iload_n hx hb dX1_countCandidates_24 rfl (lv_at hl 2 rfl) ?_
    refine sr_iald hx hb hw (xa_8 t ad) h dX1_countCandidates_25 (fun v5 h => ?_)
    obtain ⟨v6, hc, h⟩ := sr_bind1 h
    refine sr_cVi (As := [.int v5]) (rest := [.int v2]) ⟨hx, hb, hml, hown, hts⟩ (k1_isCandidate l D t ad o ho v5 M _ hc) (cwV 1 hts (sr_goodV qmX1_91 qiX1_isCandidate qsX1_isCandidate qnX1 qcX1_isCandidate) rfl rfl rfl qdX1_isCandidate ⟨Nat.le_of_ble_eq_true rfl, Nat.le_of_ble_eq_true rfl⟩) hw hA (xobF t ad ho) rfl hl.1 rfl (Nat.le_of_ble_eq_true rfl) dX1_countCandidates_26 (fun H locs hw => ?_)
    refine lv_if_eq (tgt := 36) hx hb dX1_countCandidates_29 (by decide) (fun hc => ?_) (fun hc => ?_)
    · have h := sr_ifp h hc
      refine lv_iconst (v := 0) hx hb dX1_countCandidates_36 (by decide) ?_
      refine lv_iadd hx hb dX1_countCandidates_37 ?_
      refine lv_istore_n (lv' := [(1, .int (v2 + 0)), (0, .ref (ad o)), (2, .int v3)]) hx hb dX1_countCandidates_38 rfl hl (by decide) rfl (fun ls hl => ?_)
      refine lv_iinc (v := (v3 + 1)) (lv' := [(2, .int (v3 + 1)), (1, .int (v2 + 0)), (0, .ref (ad o))]) hx hb dX1_countCandidates_39 hl (k := 2) rfl rfl (by decide) rfl (fun ls hl => ?_)
      refine lv_goto (tgt := 4) hx hb dX1_countCandidates_42 (by decide) ?_
      exact hi1 ((v2 + 0), (v3 + 1)) (Option.some.inj h).symm _ _ _ hw (lv_sub hl [2, 1, 0] rfl)
    · have h := sr_ifn h hc
      refine lv_iconst (v := 1) hx hb dX1_countCandidates_32 (by decide) ?_
      refine lv_goto (tgt := 37) hx hb dX1_countCandidates_33 (by decide) ?_
      refine lv_iadd hx hb dX1_countCandidates_37 ?_
      refine lv_istore_n (lv' := [(1, .int (v2 + 1)), (0, .ref (ad o)), (2, .int v3)]) hx hb dX1_countCandidates_38 rfl hl (by decide) rfl (fun ls hl => ?_)
      refine lv_iinc (v := (v3 + 1)) (lv' := [(2, .int (v3 + 1)), (1, .int (v2 + 1)), (0, .ref (ad o))]) hx hb dX1_countCandidates_39 hl (k := 2) rfl rfl (by decide) rfl (fun ls hl => ?_)
      refine lv_goto (tgt := 4) hx hb dX1_countCandidates_42 (by decide) ?_
      exact hi1 ((v2 + 1), (v3 + 1)) (Option.some.inj h).symm _ _ _ hw (lv_sub hl [2, 1, 0] rfl)

noncomputable def f1_countFilled_L4 (o : Nat) (M : sr_M) (v2 : Int32) (v3 : Int32) : Option ((Int32 × Int32) ⊕ (Int32)) :=
sr_bnd (M.1 1 0) fun v4 =>
if v4 ≤ v3 then
(some (.inr v2))
else
(sr_ld v3 120 (M.1 (o + 3)) fun v5 =>
if v5 < 0 then
(some (.inl ((v2 + 0), (v3 + 1))))
else
(some (.inl ((v2 + 1), (v3 + 1)))))
noncomputable def f1_countFilled (o : Nat) (M : sr_M) : Option (Int32) :=
(sr_lp (fun z1 : Int32 × Int32 => f1_countFilled_L4 o M z1.1 z1.2) (0, 0)).bind fun w1 =>
some w1
set_option maxHeartbeats 4000000 in
set_option maxRecDepth 100000 in
theorem k1_countFilled (l : Launch) (D : va_G) (t : Nat → ClassId) (ad : Nat → Nat) (o : Nat) (ho : xoF o) (M : sr_M) (r : Int32) (h : f1_countFilled o M = some r) : sr_Mi l D vwCl (xty t) ad (xcf t ad) 62 yX1_countFilled (.code yX1_countFilled cX1_countFilled 3 (some .int) :: sr_tbl) ({ frames := 0, cells := 0, slots := 0, locals := 0 }) [.ref (ad o)] M r M := by
  refine sr_open_i (cc := cX1_countFilled) (maxL := 3) (by decide) rfl (Nat.le_of_ble_eq_true rfl) ?_
  intro p e s m args below meth c A Q ls hx hb hml hts0 hown hA hw hl ret
  have hts : ∀ w ∈ sr_tbl, w.before args s = true := fun w hw => hts0 w (List.mem_cons_of_mem _ hw)
  have hown : s.vm.findClass RX1 = some m.cls := hown
  have hl : lv_has ls 3 [(0, .ref (ad o))] := hl
  have hw : xH D t ad A s M s.heap [] := hw
  unfold f1_countFilled at h
  refine lv_iconst (v := 0) hx hb dX1_countFilled_0 (by decide) ?_
  refine lv_istore_n (lv' := [(1, .int 0), (0, .ref (ad o))]) hx hb dX1_countFilled_1 rfl hl (by decide) rfl (fun ls hl => ?_)
  refine lv_iconst (v := 0) hx hb dX1_countFilled_2 (by decide) ?_
  refine lv_istore_n (lv' := [(2, .int 0), (1, .int 0), (0, .ref (ad o))]) hx hb dX1_countFilled_3 rfl hl (by decide) rfl (fun ls hl => ?_)
  obtain ⟨x1, hlp, hE1⟩ := sr_bind h
  have hX1 : ∀ (v6 : Int32), v6 = x1 → ∀ (H : Heap) (locs : List Loc) (ls : Array Slot), xH D t ad A s M H locs → lv_has ls 3 [(1, .int v6)] → W p l e ({ frames := 0, cells := 0, slots := 0, locals := 0 }) s m args below meth c H locs 0 0 Q (F0 m 38 ls []) := by
    intro v6 ex H locs ls hw hl
    have h := hE1 _ ex
    try dsimp only at h
    refine lv_iload_n hx hb dX1_countFilled_38 rfl (lv_at hl 0 rfl) ?_
    obtain rfl := Option.some.inj h
    exact ret _ _ _ _ hw rfl dX1_countFilled_39
  refine sr_lp_rule (fun (z1 : Int32 × Int32) => ∀ (H : Heap) (locs : List Loc) (ls : Array Slot), xH D t ad A s M H locs → lv_has ls 3 [(0, .ref (ad o)), (1, .int z1.1), (2, .int z1.2)] → W p l e ({ frames := 0, cells := 0, slots := 0, locals := 0 }) s m args below meth c H locs 0 0 Q (F0 m 4 ls [])) ?_ hlp _ _ _ hw (lv_sub hl [2, 1, 0] rfl)
  rintro ⟨v2, v3⟩ y1 h hi1 he1 H locs ls hw hl
  have h : f1_countFilled_L4 o M v2 v3 = some y1 := h
  have hw : xH D t ad A s M H locs := hw
  have hl : lv_has ls 3 [(0, .ref (ad o)), (1, .int v2), (2, .int v3)] := hl
  unfold f1_countFilled_L4 at h
  refine lv_iload_n hx hb dX1_countFilled_4 rfl (lv_at hl 2 rfl) ?_
  refine lv_aload_n hx hb dX1_countFilled_5 rfl (lv_at hl 0 rfl) ?_
  refine sr_getr hx hb hts qzX1 hown hw (xfF_0 t ad ho) (hts _ qfX1_49) dX1_countFilled_6 ?_
  refine sr_geti hx hb hts qzX2 hown hw (xf_1_0 t ad) (hts _ qfX1_64) h dX1_countFilled_9 (fun v4 h => ?_)
  refine lv_icmp_ge (tgt := 38) hx hb dX1_countFilled_12 (by decide) (fun hc => ?_) (fun hc => ?_)
  · have h := sr_ifp h hc
    exact hX1 v2 (he1 _ (Option.some.inj h).symm) _ _ _ hw (lv_sub hl [1] rfl)
  · have h := sr_ifn h hc
    refine lv_iload_n hx hb dX1_countFilled_15 rfl (lv_at hl 1 rfl) ?_
    refine lv_aload_n hx hb dX1_countFilled_16 rfl (lv_at hl 0 rfl) ?_
    refine sr_getr hx hb hts qzX1 hown hw (xfF_5 t ad ho) (hts _ qfX1_18) dX1_countFilled_17 ?_
    refine lv_iload_n hx hb dX1_countFilled_20 rfl (lv_at hl 2 rfl) ?_
    refine sr_iald hx hb hw (xaF_3 t ad ho) h dX1_countFilled_21 (fun v5 h => ?_)
    refine lv_if_lt (tgt := 29) hx hb dX1_countFilled_22 (by decide) (fun hc => ?_) (fun hc => ?_)
    · have h := sr_ifp h hc
      refine lv_iconst (v := 0) hx hb dX1_countFilled_29 (by decide) ?_
      refine lv_iadd hx hb dX1_countFilled_30 ?_
      refine lv_istore_n (lv' := [(1, .int (v2 + 0)), (0, .ref (ad o)), (2, .int v3)]) hx hb dX1_countFilled_31 rfl hl (by decide) rfl (fun ls hl => ?_)
      refine lv_iinc (v := (v3 + 1)) (lv' := [(2, .int (v3 + 1)), (1, .int (v2 + 0)), (0, .ref (ad o))]) hx hb dX1_countFilled_32 hl (k := 2) rfl rfl (by decide) rfl (fun ls hl => ?_)
      refine lv_goto (tgt := 4) hx hb dX1_countFilled_35 (by decide) ?_
      exact hi1 ((v2 + 0), (v3 + 1)) (Option.some.inj h).symm _ _ _ hw (lv_sub hl [2, 1, 0] rfl)
    · have h := sr_ifn h hc
      refine lv_iconst (v := 1) hx hb dX1_countFilled_25 (by decide) ?_
      refine lv_goto (tgt := 30) hx hb dX1_countFilled_26 (by decide) ?_
      refine lv_iadd hx hb dX1_countFilled_30 ?_
      refine lv_istore_n (lv' := [(1, .int (v2 + 1)), (0, .ref (ad o)), (2, .int v3)]) hx hb dX1_countFilled_31 rfl hl (by decide) rfl (fun ls hl => ?_)
      refine lv_iinc (v := (v3 + 1)) (lv' := [(2, .int (v3 + 1)), (1, .int (v2 + 1)), (0, .ref (ad o))]) hx hb dX1_countFilled_32 hl (k := 2) rfl rfl (by decide) rfl (fun ls hl => ?_)
      refine lv_goto (tgt := 4) hx hb dX1_countFilled_35 (by decide) ?_
      exact hi1 ((v2 + 1), (v3 + 1)) (Option.some.inj h).symm _ _ _ hw (lv_sub hl [2, 1, 0] rfl)

noncomputable def f1_countCut_L4 (o : Nat) (M : sr_M) (v2 : Int32) (v3 : Int32) : Option ((Int32 × Int32) ⊕ (Int32)) :=
sr_bnd (M.1 1 0) fun v4 =>
if v4 ≤ v3 then
(some (.inr v2))
else
(sr_ld v3 120 (M.1 (o + 5)) fun v5 =>
if v5 < 0 then
(some (.inl ((v2 + 0), (v3 + 1))))
else
(some (.inl ((v2 + 1), (v3 + 1)))))
noncomputable def f1_countCut (o : Nat) (M : sr_M) : Option (Int32) :=
(sr_lp (fun z1 : Int32 × Int32 => f1_countCut_L4 o M z1.1 z1.2) (0, 0)).bind fun w1 =>
some w1
set_option maxHeartbeats 4000000 in
set_option maxRecDepth 100000 in
theorem k1_countCut (l : Launch) (D : va_G) (t : Nat → ClassId) (ad : Nat → Nat) (o : Nat) (ho : xoF o) (M : sr_M) (r : Int32) (h : f1_countCut o M = some r) : sr_Mi l D vwCl (xty t) ad (xcf t ad) 62 yX1_countCut (.code yX1_countCut cX1_countCut 3 (some .int) :: sr_tbl) ({ frames := 0, cells := 0, slots := 0, locals := 0 }) [.ref (ad o)] M r M := by
  refine sr_open_i (cc := cX1_countCut) (maxL := 3) (by decide) rfl (Nat.le_of_ble_eq_true rfl) ?_
  intro p e s m args below meth c A Q ls hx hb hml hts0 hown hA hw hl ret
  have hts : ∀ w ∈ sr_tbl, w.before args s = true := fun w hw => hts0 w (List.mem_cons_of_mem _ hw)
  have hown : s.vm.findClass RX1 = some m.cls := hown
  have hl : lv_has ls 3 [(0, .ref (ad o))] := hl
  have hw : xH D t ad A s M s.heap [] := hw
  unfold f1_countCut at h
  refine lv_iconst (v := 0) hx hb dX1_countCut_0 (by decide) ?_
  refine lv_istore_n (lv' := [(1, .int 0), (0, .ref (ad o))]) hx hb dX1_countCut_1 rfl hl (by decide) rfl (fun ls hl => ?_)
  refine lv_iconst (v := 0) hx hb dX1_countCut_2 (by decide) ?_
  refine lv_istore_n (lv' := [(2, .int 0), (1, .int 0), (0, .ref (ad o))]) hx hb dX1_countCut_3 rfl hl (by decide) rfl (fun ls hl => ?_)
  obtain ⟨x1, hlp, hE1⟩ := sr_bind h
  have hX1 : ∀ (v6 : Int32), v6 = x1 → ∀ (H : Heap) (locs : List Loc) (ls : Array Slot), xH D t ad A s M H locs → lv_has ls 3 [(1, .int v6)] → W p l e ({ frames := 0, cells := 0, slots := 0, locals := 0 }) s m args below meth c H locs 0 0 Q (F0 m 38 ls []) := by
    intro v6 ex H locs ls hw hl
    have h := hE1 _ ex
    try dsimp only at h
    refine lv_iload_n hx hb dX1_countCut_38 rfl (lv_at hl 0 rfl) ?_
    obtain rfl := Option.some.inj h
    exact ret _ _ _ _ hw rfl dX1_countCut_39
  refine sr_lp_rule (fun (z1 : Int32 × Int32) => ∀ (H : Heap) (locs : List Loc) (ls : Array Slot), xH D t ad A s M H locs → lv_has ls 3 [(0, .ref (ad o)), (1, .int z1.1), (2, .int z1.2)] → W p l e ({ frames := 0, cells := 0, slots := 0, locals := 0 }) s m args below meth c H locs 0 0 Q (F0 m 4 ls [])) ?_ hlp _ _ _ hw (lv_sub hl [2, 1, 0] rfl)
  rintro ⟨v2, v3⟩ y1 h hi1 he1 H locs ls hw hl
  have h : f1_countCut_L4 o M v2 v3 = some y1 := h
  have hw : xH D t ad A s M H locs := hw
  have hl : lv_has ls 3 [(0, .ref (ad o)), (1, .int v2), (2, .int v3)] := hl
  unfold f1_countCut_L4 at h
  refine lv_iload_n hx hb dX1_countCut_4 rfl (lv_at hl 2 rfl) ?_
  refine lv_aload_n hx hb dX1_countCut_5 rfl (lv_at hl 0 rfl) ?_
  refine sr_getr hx hb hts qzX1 hown hw (xfF_0 t ad ho) (hts _ qfX1_49) dX1_countCut_6 ?_
  refine sr_geti hx hb hts qzX2 hown hw (xf_1_0 t ad) (hts _ qfX1_64) h dX1_countCut_9 (fun v4 h => ?_)
  refine lv_icmp_ge (tgt := 38) hx hb dX1_countCut_12 (by decide) (fun hc => ?_) (fun hc => ?_)
  · have h := sr_ifp h hc
    exact hX1 v2 (he1 _ (Option.some.inj h).symm) _ _ _ hw (lv_sub hl [1] rfl)
  · have h := sr_ifn h hc
    refine lv_iload_n hx hb dX1_countCut_15 rfl (lv_at hl 1 rfl) ?_
    refine lv_aload_n hx hb dX1_countCut_16 rfl (lv_at hl 0 rfl) ?_
    refine sr_getr hx hb hts qzX1 hown hw (xfF_7 t ad ho) (hts _ qfX1_24) dX1_countCut_17 ?_
    refine lv_iload_n hx hb dX1_countCut_20 rfl (lv_at hl 2 rfl) ?_
    refine sr_iald hx hb hw (xaF_5 t ad ho) h dX1_countCut_21 (fun v5 h => ?_)
    refine lv_if_lt (tgt := 29) hx hb dX1_countCut_22 (by decide) (fun hc => ?_) (fun hc => ?_)
    · have h := sr_ifp h hc
      refine lv_iconst (v := 0) hx hb dX1_countCut_29 (by decide) ?_
      refine lv_iadd hx hb dX1_countCut_30 ?_
      refine lv_istore_n (lv' := [(1, .int (v2 + 0)), (0, .ref (ad o)), (2, .int v3)]) hx hb dX1_countCut_31 rfl hl (by decide) rfl (fun ls hl => ?_)
      refine lv_iinc (v := (v3 + 1)) (lv' := [(2, .int (v3 + 1)), (1, .int (v2 + 0)), (0, .ref (ad o))]) hx hb dX1_countCut_32 hl (k := 2) rfl rfl (by decide) rfl (fun ls hl => ?_)
      refine lv_goto (tgt := 4) hx hb dX1_countCut_35 (by decide) ?_
      exact hi1 ((v2 + 0), (v3 + 1)) (Option.some.inj h).symm _ _ _ hw (lv_sub hl [2, 1, 0] rfl)
    · have h := sr_ifn h hc
      refine lv_iconst (v := 1) hx hb dX1_countCut_25 (by decide) ?_
      refine lv_goto (tgt := 30) hx hb dX1_countCut_26 (by decide) ?_
      refine lv_iadd hx hb dX1_countCut_30 ?_
      refine lv_istore_n (lv' := [(1, .int (v2 + 1)), (0, .ref (ad o)), (2, .int v3)]) hx hb dX1_countCut_31 rfl hl (by decide) rfl (fun ls hl => ?_)
      refine lv_iinc (v := (v3 + 1)) (lv' := [(2, .int (v3 + 1)), (1, .int (v2 + 1)), (0, .ref (ad o))]) hx hb dX1_countCut_32 hl (k := 2) rfl rfl (by decide) rfl (fun ls hl => ?_)
      refine lv_goto (tgt := 4) hx hb dX1_countCut_35 (by decide) ?_
      exact hi1 ((v2 + 1), (v3 + 1)) (Option.some.inj h).symm _ _ _ hw (lv_sub hl [2, 1, 0] rfl)

noncomputable def f1_firstOutletStep_L4 (o : Nat) (M : sr_M) (v2 : Int32) (v3 : Int32) : Option ((Int32 × Int32) ⊕ (Int32)) :=
sr_bnd (M.1 1 0) fun v4 =>
if v4 ≤ v3 then
(some (.inr v2))
else
(sr_ld v3 120 (M.1 2) fun v5 =>
sr_jn (fun (v7 : Int32) =>
if v7 = 0 then
(some (.inl (v2, (v3 + 1))))
else
(sr_jn (sr_ld v3 120 (M.1 (o + 3)) fun v9 =>
some (.inl (v9, (v3 + 1)))) fun (K8 : Option ((Int32 × Int32) ⊕ (Int32))) =>
if v2 < 0 then
(K8)
else
(sr_ld v3 120 (M.1 (o + 3)) fun v10 =>
if v2 ≤ v10 then
(some (.inl (v2, (v3 + 1))))
else
(K8)))) fun (K6 : Int32 → Option ((Int32 × Int32) ⊕ (Int32))) =>
sr_jn (K6 0) fun (K11 : Option ((Int32 × Int32) ⊕ (Int32))) =>
if v5 = 4 then
(sr_ld v3 120 (M.1 (o + 3)) fun v12 =>
if v12 < 0 then
(K11)
else
(K6 1))
else
(K11))
noncomputable def f1_firstOutletStep (o : Nat) (M : sr_M) : Option (Int32) :=
(sr_lp (fun z1 : Int32 × Int32 => f1_firstOutletStep_L4 o M z1.1 z1.2) ((-1), 0)).bind fun w1 =>
some w1
set_option maxHeartbeats 4000000 in
set_option maxRecDepth 100000 in
theorem k1_firstOutletStep (l : Launch) (D : va_G) (t : Nat → ClassId) (ad : Nat → Nat) (o : Nat) (ho : xoF o) (M : sr_M) (r : Int32) (h : f1_firstOutletStep o M = some r) : sr_Mi l D vwCl (xty t) ad (xcf t ad) 62 yX1_firstOutletStep (.code yX1_firstOutletStep cX1_firstOutletStep 4 (some .int) :: sr_tbl) ({ frames := 0, cells := 0, slots := 0, locals := 0 }) [.ref (ad o)] M r M := by
  refine sr_open_i (cc := cX1_firstOutletStep) (maxL := 4) (by decide) rfl (Nat.le_of_ble_eq_true rfl) ?_
  intro p e s m args below meth c A Q ls hx hb hml hts0 hown hA hw hl ret
  have hts : ∀ w ∈ sr_tbl, w.before args s = true := fun w hw => hts0 w (List.mem_cons_of_mem _ hw)
  have hown : s.vm.findClass RX1 = some m.cls := hown
  have hl : lv_has ls 4 [(0, .ref (ad o))] := hl
  have hw : xH D t ad A s M s.heap [] := hw
  unfold f1_firstOutletStep at h
  refine lv_iconst (v := (-1)) hx hb dX1_firstOutletStep_0 (by decide) ?_
  refine lv_istore_n (lv' := [(1, .int (-1)), (0, .ref (ad o))]) hx hb dX1_firstOutletStep_1 rfl hl (by decide) rfl (fun ls hl => ?_)
  refine lv_iconst (v := 0) hx hb dX1_firstOutletStep_2 (by decide) ?_
  refine lv_istore_n (lv' := [(2, .int 0), (1, .int (-1)), (0, .ref (ad o))]) hx hb dX1_firstOutletStep_3 rfl hl (by decide) rfl (fun ls hl => ?_)
  obtain ⟨x1, hlp, hE1⟩ := sr_bind h
  have hX1 : ∀ (v13 : Int32), v13 = x1 → ∀ (H : Heap) (locs : List Loc) (ls : Array Slot), xH D t ad A s M H locs → lv_has ls 4 [(1, .int v13)] → W p l e ({ frames := 0, cells := 0, slots := 0, locals := 0 }) s m args below meth c H locs 0 0 Q (F0 m 74 ls []) := by
    intro v13 ex H locs ls hw hl
    have h := hE1 _ ex
    try dsimp only at h
    refine lv_iload_n hx hb dX1_firstOutletStep_74 rfl (lv_at hl 0 rfl) ?_
    obtain rfl := Option.some.inj h
    exact ret _ _ _ _ hw rfl dX1_firstOutletStep_75
  refine sr_lp_rule (fun (z1 : Int32 × Int32) => ∀ (H : Heap) (locs : List Loc) (ls : Array Slot), xH D t ad A s M H locs → lv_has ls 4 [(0, .ref (ad o)), (1, .int z1.1), (2, .int z1.2)] → W p l e ({ frames := 0, cells := 0, slots := 0, locals := 0 }) s m args below meth c H locs 0 0 Q (F0 m 4 ls [])) ?_ hlp _ _ _ hw (lv_sub hl [2, 1, 0] rfl)
  rintro ⟨v2, v3⟩ y1 h hi1 he1 H locs ls hw hl
  have h : f1_firstOutletStep_L4 o M v2 v3 = some y1 := h
  have hw : xH D t ad A s M H locs := hw
  have hl : lv_has ls 4 [(0, .ref (ad o)), (1, .int v2), (2, .int v3)] := hl
  unfold f1_firstOutletStep_L4 at h
  refine lv_iload_n hx hb dX1_firstOutletStep_4 rfl (lv_at hl 2 rfl) ?_
  refine lv_aload_n hx hb dX1_firstOutletStep_5 rfl (lv_at hl 0 rfl) ?_
  refine sr_getr hx hb hts qzX1 hown hw (xfF_0 t ad ho) (hts _ qfX1_49) dX1_firstOutletStep_6 ?_
  refine sr_geti hx hb hts qzX2 hown hw (xf_1_0 t ad) (hts _ qfX1_64) h dX1_firstOutletStep_9 (fun v4 h => ?_)
  refine lv_icmp_ge (tgt := 74) hx hb dX1_firstOutletStep_12 (by decide) (fun hc => ?_) (fun hc => ?_)
  · have h := sr_ifp h hc
    exact hX1 v2 (he1 _ (Option.some.inj h).symm) _ _ _ hw (lv_sub hl [1] rfl)
  · have h := sr_ifn h hc
    refine lv_aload_n hx hb dX1_firstOutletStep_15 rfl (lv_at hl 0 rfl) ?_
    refine sr_getr hx hb hts qzX1 hown hw (xfF_0 t ad ho) (hts _ qfX1_49) dX1_firstOutletStep_16 ?_
    refine sr_getr hx hb hts qzX2 hown hw (xf_1_1 t ad) (hts _ qfX1_95) dX1_firstOutletStep_19 ?_
    refine lv_iload_n hx hb dX1_firstOutletStep_22 rfl (lv_at hl 2 rfl) ?_
    refine sr_iald hx hb hw (xa_2 t ad) h dX1_firstOutletStep_23 (fun v5 h => ?_)
    refine lv_iconst (v := 4) hx hb dX1_firstOutletStep_24 (by decide) ?_
    refine sr_jn_rule (fun (K6 : Int32 → Option ((Int32 × Int32) ⊕ (Int32))) => ∀ (v7 : Int32), K6 v7 = some y1 → ∀ (H : Heap) (locs : List Loc) (ls : Array Slot), xH D t ad A s M H locs → lv_has ls 4 [(0, .ref (ad o)), (1, .int v2), (2, .int v3)] → W p l e ({ frames := 0, cells := 0, slots := 0, locals := 0 }) s m args below meth c H locs 0 0 Q (F0 m 42 ls [.int v7])) h ?_ (fun K6 hK6 h => ?_)
    · intro v7 h H locs ls hw hl
      refine lv_istore_n (lv' := [(3, .int v7), (0, .ref (ad o)), (1, .int v2), (2, .int v3)]) hx hb dX1_firstOutletStep_42 rfl hl (by decide) rfl (fun ls hl => ?_)
      refine lv_iload_n hx hb dX1_firstOutletStep_43 rfl (lv_at hl 0 rfl) ?_
      refine lv_if_eq (tgt := 68) hx hb dX1_firstOutletStep_44 (by decide) (fun hc => ?_) (fun hc => ?_)
      · have h := sr_ifp h hc
        refine lv_iinc (v := (v3 + 1)) (lv' := [(2, .int (v3 + 1)), (3, .int v7), (0, .ref (ad o)), (1, .int v2)]) hx hb dX1_firstOutletStep_68 hl (k := 3) rfl rfl (by decide) rfl (fun ls hl => ?_)
        refine lv_goto (tgt := 4) hx hb dX1_firstOutletStep_71 (by decide) ?_
        exact hi1 (v2, (v3 + 1)) (Option.some.inj h).symm _ _ _ hw (lv_sub hl [2, 3, 0] rfl)
      · have h := sr_ifn h hc
        refine lv_iload_n hx hb dX1_firstOutletStep_47 rfl (lv_at hl 2 rfl) ?_
        refine sr_jn_rule (fun (K8 : Option ((Int32 × Int32) ⊕ (Int32))) => K8 = some y1 → ∀ (H : Heap) (locs : List Loc) (ls : Array Slot), xH D t ad A s M H locs → lv_has ls 4 [(0, .ref (ad o)), (2, .int v3)] → W p l e ({ frames := 0, cells := 0, slots := 0, locals := 0 }) s m args below meth c H locs 0 0 Q (F0 m 61 ls [])) h ?_ (fun K8 hK8 h => ?_)
        · intro  h H locs ls hw hl
          refine lv_aload_n hx hb dX1_firstOutletStep_61 rfl (lv_at hl 0 rfl) ?_
          refine sr_getr hx hb hts qzX1 hown hw (xfF_5 t ad ho) (hts _ qfX1_18) dX1_firstOutletStep_62 ?_
          refine lv_iload_n hx hb dX1_firstOutletStep_65 rfl (lv_at hl 1 rfl) ?_
          refine sr_iald hx hb hw (xaF_3 t ad ho) h dX1_firstOutletStep_66 (fun v9 h => ?_)
          refine lv_istore_n (lv' := [(1, .int v9), (0, .ref (ad o)), (2, .int v3)]) hx hb dX1_firstOutletStep_67 rfl hl (by decide) rfl (fun ls hl => ?_)
          refine lv_iinc (v := (v3 + 1)) (lv' := [(2, .int (v3 + 1)), (1, .int v9), (0, .ref (ad o))]) hx hb dX1_firstOutletStep_68 hl (k := 2) rfl rfl (by decide) rfl (fun ls hl => ?_)
          refine lv_goto (tgt := 4) hx hb dX1_firstOutletStep_71 (by decide) ?_
          exact hi1 (v9, (v3 + 1)) (Option.some.inj h).symm _ _ _ hw (lv_sub hl [2, 1, 0] rfl)
        · refine lv_if_lt (tgt := 61) hx hb dX1_firstOutletStep_48 (by decide) (fun hc => ?_) (fun hc => ?_)
          · have h := sr_ifp h hc
            exact hK8  h _ _ _ hw (lv_sub hl [1, 3] rfl)
          · have h := sr_ifn h hc
            refine lv_aload_n hx hb dX1_firstOutletStep_51 rfl (lv_at hl 1 rfl) ?_
            refine sr_getr hx hb hts qzX1 hown hw (xfF_5 t ad ho) (hts _ qfX1_18) dX1_firstOutletStep_52 ?_
            refine lv_iload_n hx hb dX1_firstOutletStep_55 rfl (lv_at hl 3 rfl) ?_
            refine sr_iald hx hb hw (xaF_3 t ad ho) h dX1_firstOutletStep_56 (fun v10 h => ?_)
            refine lv_iload_n hx hb dX1_firstOutletStep_57 rfl (lv_at hl 2 rfl) ?_
            refine lv_icmp_ge (tgt := 68) hx hb dX1_firstOutletStep_58 (by decide) (fun hc => ?_) (fun hc => ?_)
            · have h := sr_ifp h hc
              refine lv_iinc (v := (v3 + 1)) (lv' := [(2, .int (v3 + 1)), (3, .int v7), (0, .ref (ad o)), (1, .int v2)]) hx hb dX1_firstOutletStep_68 hl (k := 3) rfl rfl (by decide) rfl (fun ls hl => ?_)
              refine lv_goto (tgt := 4) hx hb dX1_firstOutletStep_71 (by decide) ?_
              exact hi1 (v2, (v3 + 1)) (Option.some.inj h).symm _ _ _ hw (lv_sub hl [2, 3, 0] rfl)
            · have h := sr_ifn h hc
              exact hK8  h _ _ _ hw (lv_sub hl [1, 3] rfl)
    · refine sr_jn_rule (fun (K11 : Option ((Int32 × Int32) ⊕ (Int32))) => K11 = some y1 → ∀ (H : Heap) (locs : List Loc) (ls : Array Slot), xH D t ad A s M H locs → lv_has ls 4 [(0, .ref (ad o)), (1, .int v2), (2, .int v3)] → W p l e ({ frames := 0, cells := 0, slots := 0, locals := 0 }) s m args below meth c H locs 0 0 Q (F0 m 41 ls [])) h ?_ (fun K11 hK11 h => ?_)
      · intro  h H locs ls hw hl
        refine lv_iconst (v := 0) hx hb dX1_firstOutletStep_41 (by decide) ?_
        exact hK6 0 h _ _ _ hw (lv_sub hl [0, 1, 2] rfl)
      · refine lv_icmp_ne (tgt := 41) hx hb dX1_firstOutletStep_25 (by decide) (fun hc => ?_) (fun hc => ?_)
        · have h := sr_ifn h hc
          exact hK11  h _ _ _ hw (lv_sub hl [0, 1, 2] rfl)
        · have h := sr_ifp h hc
          refine lv_aload_n hx hb dX1_firstOutletStep_28 rfl (lv_at hl 0 rfl) ?_
          refine sr_getr hx hb hts qzX1 hown hw (xfF_5 t ad ho) (hts _ qfX1_18) dX1_firstOutletStep_29 ?_
          refine lv_iload_n hx hb dX1_firstOutletStep_32 rfl (lv_at hl 2 rfl) ?_
          refine sr_iald hx hb hw (xaF_3 t ad ho) h dX1_firstOutletStep_33 (fun v12 h => ?_)
          refine lv_if_lt (tgt := 41) hx hb dX1_firstOutletStep_34 (by decide) (fun hc => ?_) (fun hc => ?_)
          · have h := sr_ifp h hc
            exact hK11  h _ _ _ hw (lv_sub hl [0, 1, 2] rfl)
          · have h := sr_ifn h hc
            refine lv_iconst (v := 1) hx hb dX1_firstOutletStep_37 (by decide) ?_
            refine lv_goto (tgt := 42) hx hb dX1_firstOutletStep_38 (by decide) ?_
            exact hK6 1 h _ _ _ hw (lv_sub hl [0, 1, 2] rfl)

