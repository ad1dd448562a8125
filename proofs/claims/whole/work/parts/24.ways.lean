noncomputable def f3_fill (a1 : Int32) (a2 : Int32) (M : sr_M) : Option (sr_M) :=
(f2_across a1 a2 M).bind fun v1 =>
sr_ld a2 120 (M.1 57) fun v2 =>
sr_st v1 120 M 57 (v2 + 1) fun M3 =>
sr_ld a2 120 (M3.1 58) fun v4 =>
sr_ld a1 300 (M3.1 7) fun v5 =>
sr_bnd (if v4 < v5 then v5 else v4) fun (v6 : Int32) =>
sr_st v1 120 M3 58 v6 fun M7 =>
sr_st v1 120 M7 59 a1 fun M8 =>
some M8
set_option maxHeartbeats 4000000 in
set_option maxRecDepth 100000 in
theorem k3_fill (l : Launch) (D : va_G) (t : Nat → ClassId) (ad : Nat → Nat) (a1 : Int32) (a2 : Int32) (M : sr_M) (M' : sr_M) (h : f3_fill a1 a2 M = some M') : sr_Mv l D vwCl (xty t) ad (xcf t ad) 62 yX3_fill (.code yX3_fill cX3_fill 4 (none) :: sr_tbl) ({ frames := 1, cells := 0, slots := 0, locals := 22 }) [.ref (ad 56), .int a1, .int a2] M M' := by
  refine sr_open_v (cc := cX3_fill) (maxL := 4) (by decide) rfl (Nat.le_of_ble_eq_true rfl) ?_
  intro p e s m args below meth c A Q ls hx hb hml hts0 hown hA hw hl ret
  have hts : ∀ w ∈ sr_tbl, w.before args s = true := fun w hw => hts0 w (List.mem_cons_of_mem _ hw)
  have hown : s.vm.findClass RX3 = some m.cls := hown
  have hl : lv_has ls 4 [(0, .ref (ad 56)), (1, .int a1), (2, .int a2)] := hl
  have hw : xH D t ad A s M s.heap [] := hw
  unfold f3_fill at h
  refine lv_aload_n hx hb dX3_fill_0 rfl (lv_at hl 0 rfl) ?_
  refine sr_getr hx hb hts qzX3 hown hw (xf_56_0 t ad) (hts _ qfX3_24) dX3_fill_1 ?_
  refine lv_iload_n hx hb dX3_fill_4 rfl (lv_at hl 1 rfl) ?_
  refine lv_iload_n hx hb dX3_fill_5 rfl (lv_at hl 2 rfl) ?_
  obtain ⟨v1, hc, h⟩ := sr_bind1 h
  refine sr_cVi (As := [.int a1, .int a2]) (rest := []) ⟨hx, hb, hml, hown, hts⟩ (k2_across l D t ad a1 a2 M _ hc) (cwV 2 hts (sr_goodV qmX3_42 qiX2_across qsX2_across qnX2 qcX2_across) rfl rfl rfl qdX2_across ⟨Nat.le_of_ble_eq_true rfl, Nat.le_of_ble_eq_true rfl⟩) hw hA (xo_1 t ad) rfl hl.1 rfl (Nat.le_of_ble_eq_true rfl) dX3_fill_6 (fun H locs hw => ?_)
  refine lv_istore_n (lv' := [(3, .int v1), (0, .ref (ad 56)), (1, .int a1), (2, .int a2)]) hx hb dX3_fill_9 rfl hl (by decide) rfl (fun ls hl => ?_)
  refine lv_aload_n hx hb dX3_fill_10 rfl (lv_at hl 1 rfl) ?_
  refine sr_getr hx hb hts qzX3 hown hw (xf_56_1 t ad) (hts _ qfX3_9) dX3_fill_11 ?_
  refine lv_iload_n hx hb dX3_fill_14 rfl (lv_at hl 0 rfl) ?_
  refine lv_aload_n hx hb dX3_fill_15 rfl (lv_at hl 1 rfl) ?_
  refine sr_getr hx hb hts qzX3 hown hw (xf_56_1 t ad) (hts _ qfX3_9) dX3_fill_16 ?_
  refine lv_iload_n hx hb dX3_fill_19 rfl (lv_at hl 3 rfl) ?_
  refine sr_iald hx hb hw (xa_57 t ad) h dX3_fill_20 (fun v2 h => ?_)
  refine lv_iconst (v := 1) hx hb dX3_fill_21 (by decide) ?_
  refine lv_iadd hx hb dX3_fill_22 ?_
  refine sr_iast hx hb hw (xa_57 t ad) h dX3_fill_23 (fun M3 H locs h hw => ?_)
  refine lv_aload_n hx hb dX3_fill_24 rfl (lv_at hl 1 rfl) ?_
  refine sr_getr hx hb hts qzX3 hown hw (xf_56_2 t ad) (hts _ qfX3_15) dX3_fill_25 ?_
  refine lv_iload_n hx hb dX3_fill_28 rfl (lv_at hl 0 rfl) ?_
  refine lv_aload_n hx hb dX3_fill_29 rfl (lv_at hl 1 rfl) ?_
  refine sr_getr hx hb hts qzX3 hown hw (xf_56_2 t ad) (hts _ qfX3_15) dX3_fill_30 ?_
  refine lv_iload_n hx hb dX3_fill_33 rfl (lv_at hl 3 rfl) ?_
  refine sr_iald hx hb hw (xa_58 t ad) h dX3_fill_34 (fun v4 h => ?_)
  refine lv_aload_n hx hb dX3_fill_35 rfl (lv_at hl 1 rfl) ?_
  refine sr_getr hx hb hts qzX3 hown hw (xf_56_0 t ad) (hts _ qfX3_24) dX3_fill_36 ?_
  refine sr_getr hx hb hts qzX2 hown hw (xf_1_7 t ad) (hts _ qfX3_69) dX3_fill_39 ?_
  refine lv_iload_n hx hb dX3_fill_42 rfl (lv_at hl 2 rfl) ?_
  refine sr_iald hx hb hw (xa_7 t ad) h dX3_fill_43 (fun v5 h => ?_)
  refine va_mmax hx hb (hml.trans hl.1.symm) hown (hts _ qmX3_72) (hts _ qtJ9_max_7cf53) (hts _ qnJ9) (hts _ qcJ9_max_7cf53) (Nat.le_of_ble_eq_true rfl) (Nat.le_of_ble_eq_true rfl) (Nat.zero_le _) (Nat.zero_le _) dX3_fill_44 ?_
  obtain ⟨v6, ev6⟩ : ∃ z : Int32, z = if v4 < v5 then v5 else v4 := ⟨_, rfl⟩
  rw [← ev6]
  have h := sr_bnde h v6 ev6
  refine sr_iast hx hb hw (xa_58 t ad) h dX3_fill_47 (fun M7 H locs h hw => ?_)
  refine lv_aload_n hx hb dX3_fill_48 rfl (lv_at hl 1 rfl) ?_
  refine sr_getr hx hb hts qzX3 hown hw (xf_56_3 t ad) (hts _ qfX3_18) dX3_fill_49 ?_
  refine lv_iload_n hx hb dX3_fill_52 rfl (lv_at hl 0 rfl) ?_
  refine lv_iload_n hx hb dX3_fill_53 rfl (lv_at hl 2 rfl) ?_
  refine sr_iast hx hb hw (xa_59 t ad) h dX3_fill_54 (fun M8 H locs h hw => ?_)
  obtain rfl := Option.some.inj h
  exact ret _ _ _ _ hw dX3_fill_55

noncomputable def f3_fillNext_L2 (v2 : Int32) (M3 : sr_M) : Option ((Int32 × sr_M) ⊕ ((sr_M) ⊕ (Int32 × sr_M))) :=
sr_bnd (M3.1 1 9) fun v4 =>
if v4 ≤ v2 then
(some (.inr (.inl M3)))
else
(sr_ld v2 300 (M3.1 8) fun v5 =>
sr_ld v5 300 (M3.1 4) fun v6 =>
sr_ld v5 300 (M3.1 5) fun v7 =>
sr_ld v6 120 (M3.1 57) fun v8 =>
sr_jn (fun (v10 : Int32) =>
sr_ld v7 120 (M3.1 57) fun v11 =>
sr_jn (fun (v13 : Int32) =>
if v10 = v13 then
(some (.inl ((v2 + 1), M3)))
else
(sr_ld v6 120 (M3.1 57) fun v14 =>
sr_jn (fun (v16 : Int32) =>
(f3_fill v5 v16 M3).bind fun M17 =>
some (.inr (.inr (1, M17)))) fun (K15 : Int32 → Option ((Int32 × sr_M) ⊕ ((sr_M) ⊕ (Int32 × sr_M)))) =>
if v14 < 0 then
(K15 v7)
else
(K15 v6))) fun (K12 : Int32 → Option ((Int32 × sr_M) ⊕ ((sr_M) ⊕ (Int32 × sr_M)))) =>
if v11 < 0 then
(K12 0)
else
(K12 1)) fun (K9 : Int32 → Option ((Int32 × sr_M) ⊕ ((sr_M) ⊕ (Int32 × sr_M)))) =>
if v8 < 0 then
(K9 0)
else
(K9 1))
noncomputable def f3_fillNext (M : sr_M) : Option (Int32 × sr_M) :=
(sr_lp (fun z1 : Int32 × sr_M => f3_fillNext_L2 z1.1 z1.2) (0, M)).bind (sr_se (fun w1 =>
some (0, w1))
(fun q1 => some q1))
set_option maxHeartbeats 4000000 in
set_option maxRecDepth 100000 in
theorem k3_fillNext (l : Launch) (D : va_G) (t : Nat → ClassId) (ad : Nat → Nat) (M : sr_M) (r : Int32) (M' : sr_M) (h : f3_fillNext M = some (r, M')) : sr_Mi l D vwCl (xty t) ad (xcf t ad) 62 yX3_fillNext (.code yX3_fillNext cX3_fillNext 5 (some .boolean) :: sr_tbl) ({ frames := 2, cells := 0, slots := 0, locals := 45 }) [.ref (ad 56)] M r M' := by
  refine sr_open_i (cc := cX3_fillNext) (maxL := 5) (by decide) rfl (Nat.le_of_ble_eq_true rfl) ?_
  intro p e s m args below meth c A Q ls hx hb hml hts0 hown hA hw hl ret
  have hts : ∀ w ∈ sr_tbl, w.before args s = true := fun w hw => hts0 w (List.mem_cons_of_mem _ hw)
  have hown : s.vm.findClass RX3 = some m.cls := hown
  have hl : lv_has ls 5 [(0, .ref (ad 56))] := hl
  have hw : xH D t ad A s M s.heap [] := hw
  unfold f3_fillNext at h
  refine lv_iconst (v := 0) hx hb dX3_fillNext_0 (by decide) ?_
  refine lv_istore_n (lv' := [(1, .int 0), (0, .ref (ad 56))]) hx hb dX3_fillNext_1 rfl hl (by decide) rfl (fun ls hl => ?_)
  obtain ⟨x1, hlp, hE1⟩ := sr_bind h
  have hX1 : ∀ (M18 : sr_M), Sum.inl M18 = x1 → ∀ (H : Heap) (locs : List Loc) (ls : Array Slot), xH D t ad A s M18 H locs → lv_has ls 5 [] → W p l e ({ frames := 2, cells := 0, slots := 0, locals := 45 }) s m args below meth c H locs 0 0 Q (F0 m 104 ls []) := by
    intro M18 ex H locs ls hw hl
    have h := sr_sel (hE1 _ ex)
    try dsimp only at h
    refine lv_iconst (v := 0) hx hb dX3_fillNext_104 (by decide) ?_
    obtain ⟨rfl, rfl⟩ := Prod.mk.inj (Option.some.inj h)
    exact ret _ _ _ _ hw rfl dX3_fillNext_105
  refine sr_lp_rule (fun (z1 : Int32 × sr_M) => ∀ (H : Heap) (locs : List Loc) (ls : Array Slot), xH D t ad A s z1.2 H locs → lv_has ls 5 [(0, .ref (ad 56)), (1, .int z1.1)] → W p l e ({ frames := 2, cells := 0, slots := 0, locals := 45 }) s m args below meth c H locs 0 0 Q (F0 m 2 ls [])) ?_ hlp _ _ _ hw (lv_sub hl [1, 0] rfl)
  rintro ⟨v2, M3⟩ y1 h hi1 he1 H locs ls hw hl
  have h : f3_fillNext_L2 v2 M3 = some y1 := h
  have hw : xH D t ad A s M3 H locs := hw
  have hl : lv_has ls 5 [(0, .ref (ad 56)), (1, .int v2)] := hl
  unfold f3_fillNext_L2 at h
  refine lv_iload_n hx hb dX3_fillNext_2 rfl (lv_at hl 1 rfl) ?_
  refine lv_aload_n hx hb dX3_fillNext_3 rfl (lv_at hl 0 rfl) ?_
  refine sr_getr hx hb hts qzX3 hown hw (xf_56_0 t ad) (hts _ qfX3_24) dX3_fillNext_4 ?_
  refine sr_geti hx hb hts qzX2 hown hw (xf_1_9 t ad) (hts _ qfX3_49) h dX3_fillNext_7 (fun v4 h => ?_)
  refine lv_icmp_ge (tgt := 104) hx hb dX3_fillNext_10 (by decide) (fun hc => ?_) (fun hc => ?_)
  · have h := sr_ifp h hc
    exact hX1  M3 (he1 _ (Option.some.inj h).symm) _ _ _ hw (lv_sub hl [] rfl)
  · have h := sr_ifn h hc
    refine lv_aload_n hx hb dX3_fillNext_13 rfl (lv_at hl 0 rfl) ?_
    refine sr_getr hx hb hts qzX3 hown hw (xf_56_0 t ad) (hts _ qfX3_24) dX3_fillNext_14 ?_
    refine sr_getr hx hb hts qzX2 hown hw (xf_1_8 t ad) (hts _ qfX3_52) dX3_fillNext_17 ?_
    refine lv_iload_n hx hb dX3_fillNext_20 rfl (lv_at hl 1 rfl) ?_
    refine sr_iald hx hb hw (xa_8 t ad) h dX3_fillNext_21 (fun v5 h => ?_)
    refine lv_istore_n (lv' := [(2, .int v5), (0, .ref (ad 56)), (1, .int v2)]) hx hb dX3_fillNext_22 rfl hl (by decide) rfl (fun ls hl => ?_)
    refine lv_aload_n hx hb dX3_fillNext_23 rfl (lv_at hl 1 rfl) ?_
    refine sr_getr hx hb hts qzX3 hown hw (xf_56_0 t ad) (hts _ qfX3_24) dX3_fillNext_24 ?_
    refine sr_getr hx hb hts qzX2 hown hw (xf_1_4 t ad) (hts _ qfX3_59) dX3_fillNext_27 ?_
    refine lv_iload_n hx hb dX3_fillNext_30 rfl (lv_at hl 0 rfl) ?_
    refine sr_iald hx hb hw (xa_4 t ad) h dX3_fillNext_31 (fun v6 h => ?_)
    refine lv_istore_n (lv' := [(3, .int v6), (2, .int v5), (0, .ref (ad 56)), (1, .int v2)]) hx hb dX3_fillNext_32 rfl hl (by decide) rfl (fun ls hl => ?_)
    refine lv_aload_n hx hb dX3_fillNext_33 rfl (lv_at hl 2 rfl) ?_
    refine sr_getr hx hb hts qzX3 hown hw (xf_56_0 t ad) (hts _ qfX3_24) dX3_fillNext_34 ?_
    refine sr_getr hx hb hts qzX2 hown hw (xf_1_5 t ad) (hts _ qfX3_62) dX3_fillNext_37 ?_
    refine lv_iload_n hx hb dX3_fillNext_40 rfl (lv_at hl 1 rfl) ?_
    refine sr_iald hx hb hw (xa_5 t ad) h dX3_fillNext_41 (fun v7 h => ?_)
    refine lv_istore (lv' := [(4, .int v7), (3, .int v6), (2, .int v5), (0, .ref (ad 56)), (1, .int v2)]) hx hb dX3_fillNext_42 hl (by decide) rfl (fun ls hl => ?_)
    refine lv_aload_n hx hb dX3_fillNext_44 rfl (lv_at hl 3 rfl) ?_
    refine sr_getr hx hb hts qzX3 hown hw (xf_56_1 t ad) (hts _ qfX3_9) dX3_fillNext_45 ?_
    refine lv_iload_n hx hb dX3_fillNext_48 rfl (lv_at hl 1 rfl) ?_
    refine sr_iald hx hb hw (xa_57 t ad) h dX3_fillNext_49 (fun v8 h => ?_)
    refine sr_jn_rule (fun (K9 : Int32 → Option ((Int32 × sr_M) ⊕ ((sr_M) ⊕ (Int32 × sr_M)))) => ∀ (v10 : Int32), K9 v10 = some y1 → ∀ (H : Heap) (locs : List Loc) (ls : Array Slot), xH D t ad A s M3 H locs → lv_has ls 5 [(0, .ref (ad 56)), (1, .int v2), (2, .int v5), (3, .int v6), (4, .int v7)] → W p l e ({ frames := 2, cells := 0, slots := 0, locals := 45 }) s m args below meth c H locs 0 0 Q (F0 m 58 ls [.int v10])) h ?_ (fun K9 hK9 h => ?_)
    · intro v10 h H locs ls hw hl
      refine lv_aload_n hx hb dX3_fillNext_58 rfl (lv_at hl 0 rfl) ?_
      refine sr_getr hx hb hts qzX3 hown hw (xf_56_1 t ad) (hts _ qfX3_9) dX3_fillNext_59 ?_
      refine lv_iload hx hb dX3_fillNext_62 (lv_at hl 4 rfl) ?_
      refine sr_iald hx hb hw (xa_57 t ad) h dX3_fillNext_64 (fun v11 h => ?_)
      refine sr_jn_rule (fun (K12 : Int32 → Option ((Int32 × sr_M) ⊕ ((sr_M) ⊕ (Int32 × sr_M)))) => ∀ (v13 : Int32), K12 v13 = some y1 → ∀ (H : Heap) (locs : List Loc) (ls : Array Slot), xH D t ad A s M3 H locs → lv_has ls 5 [(0, .ref (ad 56)), (1, .int v2), (2, .int v5), (3, .int v6), (4, .int v7)] → W p l e ({ frames := 2, cells := 0, slots := 0, locals := 45 }) s m args below meth c H locs 0 0 Q (F0 m 73 ls [.int v13, .int v10])) h ?_ (fun K12 hK12 h => ?_)
      · intro v13 h H locs ls hw hl
        refine lv_icmp_eq (tgt := 98) hx hb dX3_fillNext_73 (by decide) (fun hc => ?_) (fun hc => ?_)
        · have h := sr_ifp h hc
          refine lv_iinc (v := (v2 + 1)) (lv' := [(1, .int (v2 + 1)), (0, .ref (ad 56)), (2, .int v5), (3, .int v6), (4, .int v7)]) hx hb dX3_fillNext_98 hl (k := 1) rfl rfl (by decide) rfl (fun ls hl => ?_)
          refine lv_goto (tgt := 2) hx hb dX3_fillNext_101 (by decide) ?_
          exact hi1 ((v2 + 1), M3) (Option.some.inj h).symm _ _ _ hw (lv_sub hl [1, 0] rfl)
        · have h := sr_ifn h hc
          refine lv_aload_n hx hb dX3_fillNext_76 rfl (lv_at hl 0 rfl) ?_
          refine lv_iload_n hx hb dX3_fillNext_77 rfl (lv_at hl 2 rfl) ?_
          refine lv_aload_n hx hb dX3_fillNext_78 rfl (lv_at hl 0 rfl) ?_
          refine sr_getr hx hb hts qzX3 hown hw (xf_56_1 t ad) (hts _ qfX3_9) dX3_fillNext_79 ?_
          refine lv_iload_n hx hb dX3_fillNext_82 rfl (lv_at hl 3 rfl) ?_
          refine sr_iald hx hb hw (xa_57 t ad) h dX3_fillNext_83 (fun v14 h => ?_)
          refine sr_jn_rule (fun (K15 : Int32 → Option ((Int32 × sr_M) ⊕ ((sr_M) ⊕ (Int32 × sr_M)))) => ∀ (v16 : Int32), K15 v16 = some y1 → ∀ (H : Heap) (locs : List Loc) (ls : Array Slot), xH D t ad A s M3 H locs → lv_has ls 5 [] → W p l e ({ frames := 2, cells := 0, slots := 0, locals := 45 }) s m args below meth c H locs 0 0 Q (F0 m 93 ls [.int v16, .int v5, .ref (ad 56)])) h ?_ (fun K15 hK15 h => ?_)
          · intro v16 h H locs ls hw hl
            obtain ⟨M17, hc, h⟩ := sr_bind1 h
            refine sr_cVv (As := [.int v5, .int v16]) (rest := []) ⟨hx, hb, hml, hown, hts⟩ (k3_fill l D t ad v5 v16 M3 _ hc) (cwV 2 hts (sr_goodV qmX3_65 qiX3_fill qsX3_fill qnX3 qcX3_fill) rfl rfl rfl qdX3_fill ⟨Nat.le_of_ble_eq_true rfl, Nat.le_of_ble_eq_true rfl⟩) hw hA (xo_56 t ad) rfl hl.1 rfl (Nat.le_of_ble_eq_true rfl) dX3_fillNext_93 (fun H locs hw => ?_)
            refine lv_iconst (v := 1) hx hb dX3_fillNext_96 (by decide) ?_
            have h := sr_ser (hE1 _ (he1 _ (Option.some.inj h).symm))
            obtain ⟨rfl, rfl⟩ := Prod.mk.inj (Option.some.inj h)
            exact ret _ _ _ _ hw rfl dX3_fillNext_97
          · refine lv_if_lt (tgt := 91) hx hb dX3_fillNext_84 (by decide) (fun hc => ?_) (fun hc => ?_)
            · have h := sr_ifp h hc
              refine lv_iload hx hb dX3_fillNext_91 (lv_at hl 4 rfl) ?_
              exact hK15 v7 h _ _ _ hw (lv_sub hl [] rfl)
            · have h := sr_ifn h hc
              refine lv_iload_n hx hb dX3_fillNext_87 rfl (lv_at hl 3 rfl) ?_
              refine lv_goto (tgt := 93) hx hb dX3_fillNext_88 (by decide) ?_
              exact hK15 v6 h _ _ _ hw (lv_sub hl [] rfl)
      · refine lv_if_lt (tgt := 72) hx hb dX3_fillNext_65 (by decide) (fun hc => ?_) (fun hc => ?_)
        · have h := sr_ifp h hc
          refine lv_iconst (v := 0) hx hb dX3_fillNext_72 (by decide) ?_
          exact hK12 0 h _ _ _ hw (lv_sub hl [0, 1, 2, 3, 4] rfl)
        · have h := sr_ifn h hc
          refine lv_iconst (v := 1) hx hb dX3_fillNext_68 (by decide) ?_
          refine lv_goto (tgt := 73) hx hb dX3_fillNext_69 (by decide) ?_
          exact hK12 1 h _ _ _ hw (lv_sub hl [0, 1, 2, 3, 4] rfl)
    · refine lv_if_lt (tgt := 57) hx hb dX3_fillNext_50 (by decide) (fun hc => ?_) (fun hc => ?_)
      · have h := sr_ifp h hc
        refine lv_iconst (v := 0) hx hb dX3_fillNext_57 (by decide) ?_
        exact hK9 0 h _ _ _ hw (lv_sub hl [3, 4, 2, 1, 0] rfl)
      · have h := sr_ifn h hc
        refine lv_iconst (v := 1) hx hb dX3_fillNext_53 (by decide) ?_
        refine lv_goto (tgt := 58) hx hb dX3_fillNext_54 (by decide) ?_
        exact hK9 1 h _ _ _ hw (lv_sub hl [3, 4, 2, 1, 0] rfl)

noncomputable def f3_flood_L2 (v2 : Int32) (M3 : sr_M) : Option ((Int32 × sr_M) ⊕ (sr_M)) :=
sr_bnd (M3.1 1 0) fun v4 =>
if v4 ≤ v2 then
(some (.inr M3))
else
(sr_ld v2 120 (M3.1 3) fun v5 =>
sr_jn (fun (v7 : Int32) =>
sr_st v2 120 M3 57 v7 fun M8 =>
sr_st v2 120 M8 58 (-1) fun M9 =>
sr_st v2 120 M9 59 (-1) fun M10 =>
some (.inl ((v2 + 1), M10))) fun (K6 : Int32 → Option ((Int32 × sr_M) ⊕ (sr_M))) =>
if v5 = 0 then
(K6 (-1))
else
(K6 0))
noncomputable def f3_flood_L58 (v13 : Int32) (M14 : sr_M) : Option ((Int32 × sr_M) ⊕ (sr_M)) :=
sr_bnd (M14.1 1 0) fun v15 =>
if v15 ≤ v13 then
(some (.inr M14))
else
(sr_bd2 (f3_fillNext M14) fun v16 M17 =>
if v16 = 0 then
(some (.inr M17))
else
(some (.inl ((v13 + 1), M17))))
noncomputable def f3_flood (M : sr_M) : Option (sr_M) :=
(sr_lp (fun z1 : Int32 × sr_M => f3_flood_L2 z1.1 z1.2) (0, M)).bind fun w1 =>
(sr_lp (fun z12 : Int32 × sr_M => f3_flood_L58 z12.1 z12.2) (0, w1)).bind fun w12 =>
some w12
set_option maxHeartbeats 4000000 in
set_option maxRecDepth 100000 in
theorem k3_flood (l : Launch) (D : va_G) (t : Nat → ClassId) (ad : Nat → Nat) (M : sr_M) (M' : sr_M) (h : f3_flood M = some M') : sr_Mv l D vwCl (xty t) ad (xcf t ad) 62 yX3_flood (.code yX3_flood cX3_flood 2 (none) :: sr_tbl) ({ frames := 3, cells := 0, slots := 0, locals := 69 }) [.ref (ad 56)] M M' := by
  refine sr_open_v (cc := cX3_flood) (maxL := 2) (by decide) rfl (Nat.le_of_ble_eq_true rfl) ?_
  intro p e s m args below meth c A Q ls hx hb hml hts0 hown hA hw hl ret
  have hts : ∀ w ∈ sr_tbl, w.before args s = true := fun w hw => hts0 w (List.mem_cons_of_mem _ hw)
  have hown : s.vm.findClass RX3 = some m.cls := hown
  have hl : lv_has ls 2 [(0, .ref (ad 56))] := hl
  have hw : xH D t ad A s M s.heap [] := hw
  unfold f3_flood at h
  refine lv_iconst (v := 0) hx hb dX3_flood_0 (by decide) ?_
  refine lv_istore_n (lv' := [(1, .int 0), (0, .ref (ad 56))]) hx hb dX3_flood_1 rfl hl (by decide) rfl (fun ls hl => ?_)
  obtain ⟨x1, hlp, hE1⟩ := sr_bind h
  have hX1 : ∀ (M11 : sr_M), M11 = x1 → ∀ (H : Heap) (locs : List Loc) (ls : Array Slot), xH D t ad A s M11 H locs → lv_has ls 2 [(0, .ref (ad 56))] → W p l e ({ frames := 3, cells := 0, slots := 0, locals := 69 }) s m args below meth c H locs 0 0 Q (F0 m 56 ls []) := by
    intro M11 ex H locs ls hw hl
    have h := hE1 _ ex
    try dsimp only at h
    refine lv_iconst (v := 0) hx hb dX3_flood_56 (by decide) ?_
    refine lv_istore_n (lv' := [(1, .int 0), (0, .ref (ad 56))]) hx hb dX3_flood_57 rfl hl (by decide) rfl (fun ls hl => ?_)
    obtain ⟨x12, hlp, hE12⟩ := sr_bind h
    have hX12 : ∀ (M18 : sr_M), M18 = x12 → ∀ (H : Heap) (locs : List Loc) (ls : Array Slot), xH D t ad A s M18 H locs → lv_has ls 2 [] → W p l e ({ frames := 3, cells := 0, slots := 0, locals := 69 }) s m args below meth c H locs 0 0 Q (F0 m 85 ls []) := by
      intro M18 ex H locs ls hw hl
      have h := hE12 _ ex
      try dsimp only at h
      obtain rfl := Option.some.inj h
      exact ret _ _ _ _ hw dX3_flood_85
    refine sr_lp_rule (fun (z12 : Int32 × sr_M) => ∀ (H : Heap) (locs : List Loc) (ls : Array Slot), xH D t ad A s z12.2 H locs → lv_has ls 2 [(0, .ref (ad 56)), (1, .int z12.1)] → W p l e ({ frames := 3, cells := 0, slots := 0, locals := 69 }) s m args below meth c H locs 0 0 Q (F0 m 58 ls [])) ?_ hlp _ _ _ hw (lv_sub hl [1, 0] rfl)
    rintro ⟨v13, M14⟩ y12 h hi12 he12 H locs ls hw hl
    have h : f3_flood_L58 v13 M14 = some y12 := h
    have hw : xH D t ad A s M14 H locs := hw
    have hl : lv_has ls 2 [(0, .ref (ad 56)), (1, .int v13)] := hl
    unfold f3_flood_L58 at h
    refine lv_iload_n hx hb dX3_flood_58 rfl (lv_at hl 1 rfl) ?_
    refine lv_aload_n hx hb dX3_flood_59 rfl (lv_at hl 0 rfl) ?_
    refine sr_getr hx hb hts qzX3 hown hw (xf_56_0 t ad) (hts _ qfX3_24) dX3_flood_60 ?_
    refine sr_geti hx hb hts qzX2 hown hw (xf_1_0 t ad) (hts _ qfX3_28) h dX3_flood_63 (fun v15 h => ?_)
    refine lv_icmp_ge (tgt := 85) hx hb dX3_flood_66 (by decide) (fun hc => ?_) (fun hc => ?_)
    · have h := sr_ifp h hc
      exact hX12  M14 (he12 _ (Option.some.inj h).symm) _ _ _ hw (lv_sub hl [] rfl)
    · have h := sr_ifn h hc
      refine lv_aload_n hx hb dX3_flood_69 rfl (lv_at hl 0 rfl) ?_
      obtain ⟨v16, M17, hc, h⟩ := sr_bind2 h
      refine sr_cVi (As := []) (rest := []) ⟨hx, hb, hml, hown, hts⟩ (k3_fillNext l D t ad  M14 _ _ hc) (cwV 0 hts (sr_goodV qmX3_38 qiX3_fillNext qsX3_fillNext qnX3 qcX3_fillNext) rfl rfl rfl qdX3_fillNext ⟨Nat.le_of_ble_eq_true rfl, Nat.le_of_ble_eq_true rfl⟩) hw hA (xo_56 t ad) rfl hl.1 rfl (Nat.le_of_ble_eq_true rfl) dX3_flood_70 (fun H locs hw => ?_)
      refine lv_if_ne (tgt := 79) hx hb dX3_flood_73 (by decide) (fun hc => ?_) (fun hc => ?_)
      · have h := sr_ifn h hc
        refine lv_iinc (v := (v13 + 1)) (lv' := [(1, .int (v13 + 1)), (0, .ref (ad 56))]) hx hb dX3_flood_79 hl (k := 1) rfl rfl (by decide) rfl (fun ls hl => ?_)
        refine lv_goto (tgt := 58) hx hb dX3_flood_82 (by decide) ?_
        exact hi12 ((v13 + 1), M17) (Option.some.inj h).symm _ _ _ hw (lv_sub hl [1, 0] rfl)
      · have h := sr_ifp h hc
        refine lv_goto (tgt := 85) hx hb dX3_flood_76 (by decide) ?_
        exact hX12  M17 (he12 _ (Option.some.inj h).symm) _ _ _ hw (lv_sub hl [] rfl)
  refine sr_lp_rule (fun (z1 : Int32 × sr_M) => ∀ (H : Heap) (locs : List Loc) (ls : Array Slot), xH D t ad A s z1.2 H locs → lv_has ls 2 [(0, .ref (ad 56)), (1, .int z1.1)] → W p l e ({ frames := 3, cells := 0, slots := 0, locals := 69 }) s m args below meth c H locs 0 0 Q (F0 m 2 ls [])) ?_ hlp _ _ _ hw (lv_sub hl [1, 0] rfl)
  rintro ⟨v2, M3⟩ y1 h hi1 he1 H locs ls hw hl
  have h : f3_flood_L2 v2 M3 = some y1 := h
  have hw : xH D t ad A s M3 H locs := hw
  have hl : lv_has ls 2 [(0, .ref (ad 56)), (1, .int v2)] := hl
  unfold f3_flood_L2 at h
  refine lv_iload_n hx hb dX3_flood_2 rfl (lv_at hl 1 rfl) ?_
  refine lv_aload_n hx hb dX3_flood_3 rfl (lv_at hl 0 rfl) ?_
  refine sr_getr hx hb hts qzX3 hown hw (xf_56_0 t ad) (hts _ qfX3_24) dX3_flood_4 ?_
  refine sr_geti hx hb hts qzX2 hown hw (xf_1_0 t ad) (hts _ qfX3_28) h dX3_flood_7 (fun v4 h => ?_)
  refine lv_icmp_ge (tgt := 56) hx hb dX3_flood_10 (by decide) (fun hc => ?_) (fun hc => ?_)
  · have h := sr_ifp h hc
    exact hX1  M3 (he1 _ (Option.some.inj h).symm) _ _ _ hw (lv_sub hl [0] rfl)
  · have h := sr_ifn h hc
    refine lv_aload_n hx hb dX3_flood_13 rfl (lv_at hl 0 rfl) ?_
    refine sr_getr hx hb hts qzX3 hown hw (xf_56_1 t ad) (hts _ qfX3_9) dX3_flood_14 ?_
    refine lv_iload_n hx hb dX3_flood_17 rfl (lv_at hl 1 rfl) ?_
    refine lv_aload_n hx hb dX3_flood_18 rfl (lv_at hl 0 rfl) ?_
    refine sr_getr hx hb hts qzX3 hown hw (xf_56_0 t ad) (hts _ qfX3_24) dX3_flood_19 ?_
    refine sr_getr hx hb hts qzX2 hown hw (xf_1_2 t ad) (hts _ qfX3_34) dX3_flood_22 ?_
    refine lv_iload_n hx hb dX3_flood_25 rfl (lv_at hl 1 rfl) ?_
    refine sr_zald hx hb hw (xa_3 t ad) h dX3_flood_26 (fun v5 h => ?_)
    refine sr_jn_rule (fun (K6 : Int32 → Option ((Int32 × sr_M) ⊕ (sr_M))) => ∀ (v7 : Int32), K6 v7 = some y1 → ∀ (H : Heap) (locs : List Loc) (ls : Array Slot), xH D t ad A s M3 H locs → lv_has ls 2 [(0, .ref (ad 56)), (1, .int v2)] → W p l e ({ frames := 3, cells := 0, slots := 0, locals := 69 }) s m args below meth c H locs 0 0 Q (F0 m 35 ls [.int v7, .int v2, .ref (ad 57)])) h ?_ (fun K6 hK6 h => ?_)
    · intro v7 h H locs ls hw hl
      refine sr_iast hx hb hw (xa_57 t ad) h dX3_flood_35 (fun M8 H locs h hw => ?_)
      refine lv_aload_n hx hb dX3_flood_36 rfl (lv_at hl 0 rfl) ?_
      refine sr_getr hx hb hts qzX3 hown hw (xf_56_2 t ad) (hts _ qfX3_15) dX3_flood_37 ?_
      refine lv_iload_n hx hb dX3_flood_40 rfl (lv_at hl 1 rfl) ?_
      refine lv_iconst (v := (-1)) hx hb dX3_flood_41 (by decide) ?_
      refine sr_iast hx hb hw (xa_58 t ad) h dX3_flood_42 (fun M9 H locs h hw => ?_)
      refine lv_aload_n hx hb dX3_flood_43 rfl (lv_at hl 0 rfl) ?_
      refine sr_getr hx hb hts qzX3 hown hw (xf_56_3 t ad) (hts _ qfX3_18) dX3_flood_44 ?_
      refine lv_iload_n hx hb dX3_flood_47 rfl (lv_at hl 1 rfl) ?_
      refine lv_iconst (v := (-1)) hx hb dX3_flood_48 (by decide) ?_
      refine sr_iast hx hb hw (xa_59 t ad) h dX3_flood_49 (fun M10 H locs h hw => ?_)
      refine lv_iinc (v := (v2 + 1)) (lv' := [(1, .int (v2 + 1)), (0, .ref (ad 56))]) hx hb dX3_flood_50 hl (k := 1) rfl rfl (by decide) rfl (fun ls hl => ?_)
      refine lv_goto (tgt := 2) hx hb dX3_flood_53 (by decide) ?_
      exact hi1 ((v2 + 1), M10) (Option.some.inj h).symm _ _ _ hw (lv_sub hl [1, 0] rfl)
    · refine lv_if_eq (tgt := 34) hx hb dX3_flood_27 (by decide) (fun hc => ?_) (fun hc => ?_)
      · have h := sr_ifp h hc
        refine lv_iconst (v := (-1)) hx hb dX3_flood_34 (by decide) ?_
        exact hK6 (-1) h _ _ _ hw (lv_sub hl [0, 1] rfl)
      · have h := sr_ifn h hc
        refine lv_iconst (v := 0) hx hb dX3_flood_30 (by decide) ?_
        refine lv_goto (tgt := 35) hx hb dX3_flood_31 (by decide) ?_
        exact hK6 0 h _ _ _ hw (lv_sub hl [0, 1] rfl)

noncomputable def f3_throatOnWay_L12 (a2 : Int32) (M : sr_M) (v3 : Int32) (v4 : Int32) : Option ((Int32 × Int32) ⊕ (Int32)) :=
if v4 ≤ a2 then
(some (.inr v3))
else
(sr_ld v3 120 (M.1 59) fun v5 =>
(f2_across v5 v3 M).bind fun v6 =>
some (.inl (v6, (v4 + (-1)))))
noncomputable def f3_throatOnWay (a1 : Int32) (a2 : Int32) (M : sr_M) : Option (Int32) :=
sr_ld a1 120 (M.1 57) fun v1 =>
(sr_lp (fun z2 : Int32 × Int32 => f3_throatOnWay_L12 a2 M z2.1 z2.2) (a1, (v1 - 1))).bind fun w2 =>
sr_ld w2 120 (M.1 59) fun v8 =>
some v8
set_option maxHeartbeats 4000000 in
set_option maxRecDepth 100000 in
theorem k3_throatOnWay (l : Launch) (D : va_G) (t : Nat → ClassId) (ad : Nat → Nat) (a1 : Int32) (a2 : Int32) (M : sr_M) (r : Int32) (h : f3_throatOnWay a1 a2 M = some r) : sr_Mi l D vwCl (xty t) ad (xcf t ad) 62 yX3_throatOnWay (.code yX3_throatOnWay cX3_throatOnWay 5 (some .int) :: sr_tbl) ({ frames := 1, cells := 0, slots := 0, locals := 22 }) [.ref (ad 56), .int a1, .int a2] M r M := by
  refine sr_open_i (cc := cX3_throatOnWay) (maxL := 5) (by decide) rfl (Nat.le_of_ble_eq_true rfl) ?_
  intro p e s m args below meth c A Q ls hx hb hml hts0 hown hA hw hl ret
  have hts : ∀ w ∈ sr_tbl, w.before args s = true := fun w hw => hts0 w (List.mem_cons_of_mem _ hw)
  have hown : s.vm.findClass RX3 = some m.cls := hown
  have hl : lv_has ls 5 [(0, .ref (ad 56)), (1, .int a1), (2, .int a2)] := hl
  have hw : xH D t ad A s M s.heap [] := hw
  unfold f3_throatOnWay at h
  refine lv_iload_n hx hb dX3_throatOnWay_0 rfl (lv_at hl 1 rfl) ?_
  refine lv_istore_n (lv' := [(3, .int a1), (0, .ref (ad 56)), (1, .int a1), (2, .int a2)]) hx hb dX3_throatOnWay_1 rfl hl (by decide) rfl (fun ls hl => ?_)
  refine lv_aload_n hx hb dX3_throatOnWay_2 rfl (lv_at hl 1 rfl) ?_
  refine sr_getr hx hb hts qzX3 hown hw (xf_56_1 t ad) (hts _ qfX3_9) dX3_throatOnWay_3 ?_
  refine lv_iload_n hx hb dX3_throatOnWay_6 rfl (lv_at hl 2 rfl) ?_
  refine sr_iald hx hb hw (xa_57 t ad) h dX3_throatOnWay_7 (fun v1 h => ?_)
  refine lv_iconst (v := 1) hx hb dX3_throatOnWay_8 (by decide) ?_
  refine lv_isub hx hb dX3_throatOnWay_9 ?_
  refine lv_istore (lv' := [(4, .int (v1 - 1)), (3, .int a1), (0, .ref (ad 56)), (1, .int a1), (2, .int a2)]) hx hb dX3_throatOnWay_10 hl (by decide) rfl (fun ls hl => ?_)
  obtain ⟨x2, hlp, hE2⟩ := sr_bind h
  have hX2 : ∀ (v7 : Int32), v7 = x2 → ∀ (H : Heap) (locs : List Loc) (ls : Array Slot), xH D t ad A s M H locs → lv_has ls 5 [(0, .ref (ad 56)), (3, .int v7)] → W p l e ({ frames := 1, cells := 0, slots := 0, locals := 22 }) s m args below meth c H locs 0 0 Q (F0 m 39 ls []) := by
    intro v7 ex H locs ls hw hl
    have h := hE2 _ ex
    try dsimp only at h
    refine lv_aload_n hx hb dX3_throatOnWay_39 rfl (lv_at hl 0 rfl) ?_
    refine sr_getr hx hb hts qzX3 hown hw (xf_56_3 t ad) (hts _ qfX3_18) dX3_throatOnWay_40 ?_
    refine lv_iload_n hx hb dX3_throatOnWay_43 rfl (lv_at hl 1 rfl) ?_
    refine sr_iald hx hb hw (xa_59 t ad) h dX3_throatOnWay_44 (fun v8 h => ?_)
    obtain rfl := Option.some.inj h
    exact ret _ _ _ _ hw rfl dX3_throatOnWay_45
  refine sr_lp_rule (fun (z2 : Int32 × Int32) => ∀ (H : Heap) (locs : List Loc) (ls : Array Slot), xH D t ad A s M H locs → lv_has ls 5 [(0, .ref (ad 56)), (2, .int a2), (3, .int z2.1), (4, .int z2.2)] → W p l e ({ frames := 1, cells := 0, slots := 0, locals := 22 }) s m args below meth c H locs 0 0 Q (F0 m 12 ls [])) ?_ hlp _ _ _ hw (lv_sub hl [2, 4, 1, 0] rfl)
  rintro ⟨v3, v4⟩ y2 h hi2 he2 H locs ls hw hl
  have h : f3_throatOnWay_L12 a2 M v3 v4 = some y2 := h
  have hw : xH D t ad A s M H locs := hw
  have hl : lv_has ls 5 [(0, .ref (ad 56)), (2, .int a2), (3, .int v3), (4, .int v4)] := hl
  unfold f3_throatOnWay_L12 at h
  refine lv_iload hx hb dX3_throatOnWay_12 (lv_at hl 3 rfl) ?_
  refine lv_iload_n hx hb dX3_throatOnWay_14 rfl (lv_at hl 1 rfl) ?_
  refine lv_icmp_le (tgt := 39) hx hb dX3_throatOnWay_15 (by decide) (fun hc => ?_) (fun hc => ?_)
  · have h := sr_ifp h hc
    exact hX2 v3 (he2 _ (Option.some.inj h).symm) _ _ _ hw (lv_sub hl [0, 2] rfl)
  · have h := sr_ifn h hc
    refine lv_aload_n hx hb dX3_throatOnWay_18 rfl (lv_at hl 0 rfl) ?_
    refine sr_getr hx hb hts qzX3 hown hw (xf_56_0 t ad) (hts _ qfX3_24) dX3_throatOnWay_19 ?_
    refine lv_aload_n hx hb dX3_throatOnWay_22 rfl (lv_at hl 0 rfl) ?_
    refine sr_getr hx hb hts qzX3 hown hw (xf_56_3 t ad) (hts _ qfX3_18) dX3_throatOnWay_23 ?_
    refine lv_iload_n hx hb dX3_throatOnWay_26 rfl (lv_at hl 2 rfl) ?_
    refine sr_iald hx hb hw (xa_59 t ad) h dX3_throatOnWay_27 (fun v5 h => ?_)
    refine lv_iload_n hx hb dX3_throatOnWay_28 rfl (lv_at hl 2 rfl) ?_
    obtain ⟨v6, hc, h⟩ := sr_bind1 h
    refine sr_cVi (As := [.int v5, .int v3]) (rest := []) ⟨hx, hb, hml, hown, hts⟩ (k2_across l D t ad v5 v3 M _ hc) (cwV 2 hts (sr_goodV qmX3_42 qiX2_across qsX2_across qnX2 qcX2_across) rfl rfl rfl qdX2_across ⟨Nat.le_of_ble_eq_true rfl, Nat.le_of_ble_eq_true rfl⟩) hw hA (xo_1 t ad) rfl hl.1 rfl (Nat.le_of_ble_eq_true rfl) dX3_throatOnWay_29 (fun H locs hw => ?_)
    refine lv_istore_n (lv' := [(3, .int v6), (0, .ref (ad 56)), (2, .int a2), (4, .int v4)]) hx hb dX3_throatOnWay_32 rfl hl (by decide) rfl (fun ls hl => ?_)
    refine lv_iinc (v := (v4 + (-1))) (lv' := [(4, .int (v4 + (-1))), (3, .int v6), (0, .ref (ad 56)), (2, .int a2)]) hx hb dX3_throatOnWay_33 hl (k := 3) rfl rfl (by decide) rfl (fun ls hl => ?_)
    refine lv_goto (tgt := 12) hx hb dX3_throatOnWay_36 (by decide) ?_
    exact hi2 (v6, (v4 + (-1))) (Option.some.inj h).symm _ _ _ hw (lv_sub hl [2, 3, 1, 0] rfl)

noncomputable def f3_stand_L2 (v2 : Int32) (M3 : sr_M) : Option ((Int32 × sr_M) ⊕ (sr_M)) :=
sr_bnd (M3.1 1 0) fun v4 =>
if v4 ≤ v2 then
(some (.inr M3))
else
(sr_st v2 120 M3 60 v2 fun M5 =>
some (.inl ((v2 + 1), M5)))
noncomputable def f3_stand (M : sr_M) : Option (sr_M) :=
(sr_lp (fun z1 : Int32 × sr_M => f3_stand_L2 z1.1 z1.2) (0, M)).bind fun w1 =>
some w1
set_option maxHeartbeats 4000000 in
set_option maxRecDepth 100000 in
theorem k3_stand (l : Launch) (D : va_G) (t : Nat → ClassId) (ad : Nat → Nat) (M : sr_M) (M' : sr_M) (h : f3_stand M = some M') : sr_Mv l D vwCl (xty t) ad (xcf t ad) 62 yX3_stand (.code yX3_stand cX3_stand 2 (none) :: sr_tbl) ({ frames := 0, cells := 0, slots := 0, locals := 0 }) [.ref (ad 56)] M M' := by
  refine sr_open_v (cc := cX3_stand) (maxL := 2) (by decide) rfl (Nat.le_of_ble_eq_true rfl) ?_
  intro p e s m args below meth c A Q ls hx hb hml hts0 hown hA hw hl ret
  have hts : ∀ w ∈ sr_tbl, w.before args s = true := fun w hw => hts0 w (List.mem_cons_of_mem _ hw)
  have hown : s.vm.findClass RX3 = some m.cls := hown
  have hl : lv_has ls 2 [(0, .ref (ad 56))] := hl
  have hw : xH D t ad A s M s.heap [] := hw
  unfold f3_stand at h
  refine lv_iconst (v := 0) hx hb dX3_stand_0 (by decide) ?_
  refine lv_istore_n (lv' := [(1, .int 0), (0, .ref (ad 56))]) hx hb dX3_stand_1 rfl hl (by decide) rfl (fun ls hl => ?_)
  obtain ⟨x1, hlp, hE1⟩ := sr_bind h
  have hX1 : ∀ (M6 : sr_M), M6 = x1 → ∀ (H : Heap) (locs : List Loc) (ls : Array Slot), xH D t ad A s M6 H locs → lv_has ls 2 [] → W p l e ({ frames := 0, cells := 0, slots := 0, locals := 0 }) s m args below meth c H locs 0 0 Q (F0 m 26 ls []) := by
    intro M6 ex H locs ls hw hl
    have h := hE1 _ ex
    try dsimp only at h
    obtain rfl := Option.some.inj h
    exact ret _ _ _ _ hw dX3_stand_26
  refine sr_lp_rule (fun (z1 : Int32 × sr_M) => ∀ (H : Heap) (locs : List Loc) (ls : Array Slot), xH D t ad A s z1.2 H locs → lv_has ls 2 [(0, .ref (ad 56)), (1, .int z1.1)] → W p l e ({ frames := 0, cells := 0, slots := 0, locals := 0 }) s m args below meth c H locs 0 0 Q (F0 m 2 ls [])) ?_ hlp _ _ _ hw (lv_sub hl [1, 0] rfl)
  rintro ⟨v2, M3⟩ y1 h hi1 he1 H locs ls hw hl
  have h : f3_stand_L2 v2 M3 = some y1 := h
  have hw : xH D t ad A s M3 H locs := hw
  have hl : lv_has ls 2 [(0, .ref (ad 56)), (1, .int v2)] := hl
  unfold f3_stand_L2 at h
  refine lv_iload_n hx hb dX3_stand_2 rfl (lv_at hl 1 rfl) ?_
  refine lv_aload_n hx hb dX3_stand_3 rfl (lv_at hl 0 rfl) ?_
  refine sr_getr hx hb hts qzX3 hown hw (xf_56_0 t ad) (hts _ qfX3_24) dX3_stand_4 ?_
  refine sr_geti hx hb hts qzX2 hown hw (xf_1_0 t ad) (hts _ qfX3_28) h dX3_stand_7 (fun v4 h => ?_)
  refine lv_icmp_ge (tgt := 26) hx hb dX3_stand_10 (by decide) (fun hc => ?_) (fun hc => ?_)
  · have h := sr_ifp h hc
    exact hX1  M3 (he1 _ (Option.some.inj h).symm) _ _ _ hw (lv_sub hl [] rfl)
  · have h := sr_ifn h hc
    refine lv_aload_n hx hb dX3_stand_13 rfl (lv_at hl 0 rfl) ?_
    refine sr_getr hx hb hts qzX3 hown hw (xf_56_4 t ad) (hts _ qfX3_21) dX3_stand_14 ?_
    refine lv_iload_n hx hb dX3_stand_17 rfl (lv_at hl 1 rfl) ?_
    refine lv_iload_n hx hb dX3_stand_18 rfl (lv_at hl 1 rfl) ?_
    refine sr_iast hx hb hw (xa_60 t ad) h dX3_stand_19 (fun M5 H locs h hw => ?_)
    refine lv_iinc (v := (v2 + 1)) (lv' := [(1, .int (v2 + 1)), (0, .ref (ad 56))]) hx hb dX3_stand_20 hl (k := 1) rfl rfl (by decide) rfl (fun ls hl => ?_)
    refine lv_goto (tgt := 2) hx hb dX3_stand_23 (by decide) ?_
    exact hi1 ((v2 + 1), M5) (Option.some.inj h).symm _ _ _ hw (lv_sub hl [1, 0] rfl)

noncomputable def f3_unite_L40 (v2 : Int32) (v4 : Int32) (v6 : Int32) (M7 : sr_M) : Option ((Int32 × sr_M) ⊕ (sr_M)) :=
sr_bnd (M7.1 1 0) fun v8 =>
if v8 ≤ v6 then
(some (.inr M7))
else
(sr_ld v6 120 (M7.1 60) fun v9 =>
if v9 = v4 then
(sr_st v6 120 M7 60 v2 fun M10 =>
some (.inl ((v6 + 1), M10)))
else
(some (.inl ((v6 + 1), M7))))
noncomputable def f3_unite (a1 : Int32) (M : sr_M) : Option (Int32 × sr_M) :=
sr_ld a1 300 (M.1 4) fun v1 =>
sr_ld v1 120 (M.1 60) fun v2 =>
sr_ld a1 300 (M.1 5) fun v3 =>
sr_ld v3 120 (M.1 60) fun v4 =>
if v2 = v4 then
(some (0, M))
else
((sr_lp (fun z5 : Int32 × sr_M => f3_unite_L40 v2 v4 z5.1 z5.2) (0, M)).bind fun w5 =>
some (1, w5))
set_option maxHeartbeats 4000000 in
set_option maxRecDepth 100000 in
theorem k3_unite (l : Launch) (D : va_G) (t : Nat → ClassId) (ad : Nat → Nat) (a1 : Int32) (M : sr_M) (r : Int32) (M' : sr_M) (h : f3_unite a1 M = some (r, M')) : sr_Mi l D vwCl (xty t) ad (xcf t ad) 62 yX3_unite (.code yX3_unite cX3_unite 5 (some .boolean) :: sr_tbl) ({ frames := 0, cells := 0, slots := 0, locals := 0 }) [.ref (ad 56), .int a1] M r M' := by
  refine sr_open_i (cc := cX3_unite) (maxL := 5) (by decide) rfl (Nat.le_of_ble_eq_true rfl) ?_
  intro p e s m args below meth c A Q ls hx hb hml hts0 hown hA hw hl ret
  have hts : ∀ w ∈ sr_tbl, w.before args s = true := fun w hw => hts0 w (List.mem_cons_of_mem _ hw)
  have hown : s.vm.findClass RX3 = some m.cls := hown
  have hl : lv_has ls 5 [(0, .ref (ad 56)), (1, .int a1)] := hl
  have hw : xH D t ad A s M s.heap [] := hw
  unfold f3_unite at h
  refine lv_aload_n hx hb dX3_unite_0 rfl (lv_at hl 0 rfl) ?_
  refine sr_getr hx hb hts qzX3 hown hw (xf_56_4 t ad) (hts _ qfX3_21) dX3_unite_1 ?_
  refine lv_aload_n hx hb dX3_unite_4 rfl (lv_at hl 0 rfl) ?_
  refine sr_getr hx hb hts qzX3 hown hw (xf_56_0 t ad) (hts _ qfX3_24) dX3_unite_5 ?_
  refine sr_getr hx hb hts qzX2 hown hw (xf_1_4 t ad) (hts _ qfX3_59) dX3_unite_8 ?_
  refine lv_iload_n hx hb dX3_unite_11 rfl (lv_at hl 1 rfl) ?_
  refine sr_iald hx hb hw (xa_4 t ad) h dX3_unite_12 (fun v1 h => ?_)
  refine sr_iald hx hb hw (xa_60 t ad) h dX3_unite_13 (fun v2 h => ?_)
  refine lv_istore_n (lv' := [(2, .int v2), (0, .ref (ad 56)), (1, .int a1)]) hx hb dX3_unite_14 rfl hl (by decide) rfl (fun ls hl => ?_)
  refine lv_aload_n hx hb dX3_unite_15 rfl (lv_at hl 1 rfl) ?_
  refine sr_getr hx hb hts qzX3 hown hw (xf_56_4 t ad) (hts _ qfX3_21) dX3_unite_16 ?_
  refine lv_aload_n hx hb dX3_unite_19 rfl (lv_at hl 1 rfl) ?_
  refine sr_getr hx hb hts qzX3 hown hw (xf_56_0 t ad) (hts _ qfX3_24) dX3_unite_20 ?_
  refine sr_getr hx hb hts qzX2 hown hw (xf_1_5 t ad) (hts _ qfX3_62) dX3_unite_23 ?_
  refine lv_iload_n hx hb dX3_unite_26 rfl (lv_at hl 2 rfl) ?_
  refine sr_iald hx hb hw (xa_5 t ad) h dX3_unite_27 (fun v3 h => ?_)
  refine sr_iald hx hb hw (xa_60 t ad) h dX3_unite_28 (fun v4 h => ?_)
  refine lv_istore_n (lv' := [(3, .int v4), (2, .int v2), (0, .ref (ad 56)), (1, .int a1)]) hx hb dX3_unite_29 rfl hl (by decide) rfl (fun ls hl => ?_)
  refine lv_iload_n hx hb dX3_unite_30 rfl (lv_at hl 1 rfl) ?_
  refine lv_iload_n hx hb dX3_unite_31 rfl (lv_at hl 0 rfl) ?_
  refine lv_icmp_ne (tgt := 37) hx hb dX3_unite_32 (by decide) (fun hc => ?_) (fun hc => ?_)
  · have h := sr_ifn h hc
    refine lv_iconst (v := 0) hx hb dX3_unite_37 (by decide) ?_
    refine lv_istore (lv' := [(4, .int 0), (3, .int v4), (2, .int v2), (0, .ref (ad 56)), (1, .int a1)]) hx hb dX3_unite_38 hl (by decide) rfl (fun ls hl => ?_)
    obtain ⟨x5, hlp, hE5⟩ := sr_bind h
    have hX5 : ∀ (M11 : sr_M), M11 = x5 → ∀ (H : Heap) (locs : List Loc) (ls : Array Slot), xH D t ad A s M11 H locs → lv_has ls 5 [] → W p l e ({ frames := 0, cells := 0, slots := 0, locals := 0 }) s m args below meth c H locs 0 0 Q (F0 m 77 ls []) := by
      intro M11 ex H locs ls hw hl
      have h := hE5 _ ex
      try dsimp only at h
      refine lv_iconst (v := 1) hx hb dX3_unite_77 (by decide) ?_
      obtain ⟨rfl, rfl⟩ := Prod.mk.inj (Option.some.inj h)
      exact ret _ _ _ _ hw rfl dX3_unite_78
    refine sr_lp_rule (fun (z5 : Int32 × sr_M) => ∀ (H : Heap) (locs : List Loc) (ls : Array Slot), xH D t ad A s z5.2 H locs → lv_has ls 5 [(0, .ref (ad 56)), (2, .int v2), (3, .int v4), (4, .int z5.1)] → W p l e ({ frames := 0, cells := 0, slots := 0, locals := 0 }) s m args below meth c H locs 0 0 Q (F0 m 40 ls [])) ?_ hlp _ _ _ hw (lv_sub hl [3, 2, 1, 0] rfl)
    rintro ⟨v6, M7⟩ y5 h hi5 he5 H locs ls hw hl
    have h : f3_unite_L40 v2 v4 v6 M7 = some y5 := h
    have hw : xH D t ad A s M7 H locs := hw
    have hl : lv_has ls 5 [(0, .ref (ad 56)), (2, .int v2), (3, .int v4), (4, .int v6)] := hl
    unfold f3_unite_L40 at h
    refine lv_iload hx hb dX3_unite_40 (lv_at hl 3 rfl) ?_
    refine lv_aload_n hx hb dX3_unite_42 rfl (lv_at hl 0 rfl) ?_
    refine sr_getr hx hb hts qzX3 hown hw (xf_56_0 t ad) (hts _ qfX3_24) dX3_unite_43 ?_
    refine sr_geti hx hb hts qzX2 hown hw (xf_1_0 t ad) (hts _ qfX3_28) h dX3_unite_46 (fun v8 h => ?_)
    refine lv_icmp_ge (tgt := 77) hx hb dX3_unite_49 (by decide) (fun hc => ?_) (fun hc => ?_)
    · have h := sr_ifp h hc
      exact hX5  M7 (he5 _ (Option.some.inj h).symm) _ _ _ hw (lv_sub hl [] rfl)
    · have h := sr_ifn h hc
      refine lv_aload_n hx hb dX3_unite_52 rfl (lv_at hl 0 rfl) ?_
      refine sr_getr hx hb hts qzX3 hown hw (xf_56_4 t ad) (hts _ qfX3_21) dX3_unite_53 ?_
      refine lv_iload hx hb dX3_unite_56 (lv_at hl 3 rfl) ?_
      refine sr_iald hx hb hw (xa_60 t ad) h dX3_unite_58 (fun v9 h => ?_)
      refine lv_iload_n hx hb dX3_unite_59 rfl (lv_at hl 2 rfl) ?_
      refine lv_icmp_ne (tgt := 71) hx hb dX3_unite_60 (by decide) (fun hc => ?_) (fun hc => ?_)
      · have h := sr_ifn h hc
        refine lv_iinc (v := (v6 + 1)) (lv' := [(4, .int (v6 + 1)), (0, .ref (ad 56)), (2, .int v2), (3, .int v4)]) hx hb dX3_unite_71 hl (k := 3) rfl rfl (by decide) rfl (fun ls hl => ?_)
        refine lv_goto (tgt := 40) hx hb dX3_unite_74 (by decide) ?_
        exact hi5 ((v6 + 1), M7) (Option.some.inj h).symm _ _ _ hw (lv_sub hl [1, 2, 3, 0] rfl)
      · have h := sr_ifp h hc
        refine lv_aload_n hx hb dX3_unite_63 rfl (lv_at hl 0 rfl) ?_
        refine sr_getr hx hb hts qzX3 hown hw (xf_56_4 t ad) (hts _ qfX3_21) dX3_unite_64 ?_
        refine lv_iload hx hb dX3_unite_67 (lv_at hl 3 rfl) ?_
        refine lv_iload_n hx hb dX3_unite_69 rfl (lv_at hl 1 rfl) ?_
        refine sr_iast hx hb hw (xa_60 t ad) h dX3_unite_70 (fun M10 H locs h hw => ?_)
        refine lv_iinc (v := (v6 + 1)) (lv' := [(4, .int (v6 + 1)), (0, .ref (ad 56)), (2, .int v2), (3, .int v4)]) hx hb dX3_unite_71 hl (k := 3) rfl rfl (by decide) rfl (fun ls hl => ?_)
        refine lv_goto (tgt := 40) hx hb dX3_unite_74 (by decide) ?_
        exact hi5 ((v6 + 1), M10) (Option.some.inj h).symm _ _ _ hw (lv_sub hl [1, 2, 3, 0] rfl)
  · have h := sr_ifp h hc
    refine lv_iconst (v := 0) hx hb dX3_unite_35 (by decide) ?_
    obtain ⟨rfl, rfl⟩ := Prod.mk.inj (Option.some.inj h)
    exact ret _ _ _ _ hw rfl dX3_unite_36

noncomputable def f3_rankJoining_L6 (a1 : Int32) (a2 : Int32) (v3 : Int32) (M4 : sr_M) : Option ((Int32 × sr_M) ⊕ ((sr_M) ⊕ (Int32 × sr_M))) :=
sr_bnd (M4.1 1 9) fun v5 =>
if v5 ≤ v3 then
(some (.inr (.inl M4)))
else
(sr_ld v3 300 (M4.1 8) fun v6 =>
sr_bd2 (f3_unite v6 M4) fun v7 M8 =>
sr_ld a1 120 (M8.1 60) fun v9 =>
sr_ld a2 120 (M8.1 60) fun v10 =>
if v9 = v10 then
(some (.inr (.inr (v3, M8))))
else
(some (.inl ((v3 + 1), M8))))
noncomputable def f3_rankJoining (a1 : Int32) (a2 : Int32) (M : sr_M) : Option (Int32 × sr_M) :=
(f3_stand M).bind fun M1 =>
(sr_lp (fun z2 : Int32 × sr_M => f3_rankJoining_L6 a1 a2 z2.1 z2.2) (0, M1)).bind (sr_se (fun w2 =>
some ((-8), w2))
(fun q2 => some q2))
set_option maxHeartbeats 4000000 in
set_option maxRecDepth 100000 in
theorem k3_rankJoining (l : Launch) (D : va_G) (t : Nat → ClassId) (ad : Nat → Nat) (a1 : Int32) (a2 : Int32) (M : sr_M) (r : Int32) (M' : sr_M) (h : f3_rankJoining a1 a2 M = some (r, M')) : sr_Mi l D vwCl (xty t) ad (xcf t ad) 62 yX3_rankJoining (.code yX3_rankJoining cX3_rankJoining 4 (some .int) :: sr_tbl) ({ frames := 1, cells := 0, slots := 0, locals := 24 }) [.ref (ad 56), .int a1, .int a2] M r M' := by
  refine sr_open_i (cc := cX3_rankJoining) (maxL := 4) (by decide) rfl (Nat.le_of_ble_eq_true rfl) ?_
  intro p e s m args below meth c A Q ls hx hb hml hts0 hown hA hw hl ret
  have hts : ∀ w ∈ sr_tbl, w.before args s = true := fun w hw => hts0 w (List.mem_cons_of_mem _ hw)
  have hown : s.vm.findClass RX3 = some m.cls := hown
  have hl : lv_has ls 4 [(0, .ref (ad 56)), (1, .int a1), (2, .int a2)] := hl
  have hw : xH D t ad A s M s.heap [] := hw
  unfold f3_rankJoining at h
  refine lv_aload_n hx hb dX3_rankJoining_0 rfl (lv_at hl 0 rfl) ?_
  obtain ⟨M1, hc, h⟩ := sr_bind1 h
  refine sr_cVv (As := []) (rest := []) ⟨hx, hb, hml, hown, hts⟩ (k3_stand l D t ad  M _ hc) (cwV 0 hts (sr_goodV qmX3_46 qiX3_stand qsX3_stand qnX3 qcX3_stand) rfl rfl rfl qdX3_stand ⟨Nat.le_of_ble_eq_true rfl, Nat.le_of_ble_eq_true rfl⟩) hw hA (xo_56 t ad) rfl hl.1 rfl (Nat.le_of_ble_eq_true rfl) dX3_rankJoining_1 (fun H locs hw => ?_)
  refine lv_iconst (v := 0) hx hb dX3_rankJoining_4 (by decide) ?_
  refine lv_istore_n (lv' := [(3, .int 0), (0, .ref (ad 56)), (1, .int a1), (2, .int a2)]) hx hb dX3_rankJoining_5 rfl hl (by decide) rfl (fun ls hl => ?_)
  obtain ⟨x2, hlp, hE2⟩ := sr_bind h
  have hX2 : ∀ (M11 : sr_M), Sum.inl M11 = x2 → ∀ (H : Heap) (locs : List Loc) (ls : Array Slot), xH D t ad A s M11 H locs → lv_has ls 4 [] → W p l e ({ frames := 1, cells := 0, slots := 0, locals := 24 }) s m args below meth c H locs 0 0 Q (F0 m 54 ls []) := by
    intro M11 ex H locs ls hw hl
    have h := sr_sel (hE2 _ ex)
    try dsimp only at h
    refine lv_bipush (v := (-8)) hx hb dX3_rankJoining_54 (by decide) ?_
    obtain ⟨rfl, rfl⟩ := Prod.mk.inj (Option.some.inj h)
    exact ret _ _ _ _ hw rfl dX3_rankJoining_56
  refine sr_lp_rule (fun (z2 : Int32 × sr_M) => ∀ (H : Heap) (locs : List Loc) (ls : Array Slot), xH D t ad A s z2.2 H locs → lv_has ls 4 [(0, .ref (ad 56)), (1, .int a1), (2, .int a2), (3, .int z2.1)] → W p l e ({ frames := 1, cells := 0, slots := 0, locals := 24 }) s m args below meth c H locs 0 0 Q (F0 m 6 ls [])) ?_ hlp _ _ _ hw (lv_sub hl [1, 2, 3, 0] rfl)
  rintro ⟨v3, M4⟩ y2 h hi2 he2 H locs ls hw hl
  have h : f3_rankJoining_L6 a1 a2 v3 M4 = some y2 := h
  have hw : xH D t ad A s M4 H locs := hw
  have hl : lv_has ls 4 [(0, .ref (ad 56)), (1, .int a1), (2, .int a2), (3, .int v3)] := hl
  unfold f3_rankJoining_L6 at h
  refine lv_iload_n hx hb dX3_rankJoining_6 rfl (lv_at hl 3 rfl) ?_
  refine lv_aload_n hx hb dX3_rankJoining_7 rfl (lv_at hl 0 rfl) ?_
  refine sr_getr hx hb hts qzX3 hown hw (xf_56_0 t ad) (hts _ qfX3_24) dX3_rankJoining_8 ?_
  refine sr_geti hx hb hts qzX2 hown hw (xf_1_9 t ad) (hts _ qfX3_49) h dX3_rankJoining_11 (fun v5 h => ?_)
  refine lv_icmp_ge (tgt := 54) hx hb dX3_rankJoining_14 (by decide) (fun hc => ?_) (fun hc => ?_)
  · have h := sr_ifp h hc
    exact hX2  M4 (he2 _ (Option.some.inj h).symm) _ _ _ hw (lv_sub hl [] rfl)
  · have h := sr_ifn h hc
    refine lv_aload_n hx hb dX3_rankJoining_17 rfl (lv_at hl 0 rfl) ?_
    refine lv_aload_n hx hb dX3_rankJoining_18 rfl (lv_at hl 0 rfl) ?_
    refine sr_getr hx hb hts qzX3 hown hw (xf_56_0 t ad) (hts _ qfX3_24) dX3_rankJoining_19 ?_
    refine sr_getr hx hb hts qzX2 hown hw (xf_1_8 t ad) (hts _ qfX3_52) dX3_rankJoining_22 ?_
    refine lv_iload_n hx hb dX3_rankJoining_25 rfl (lv_at hl 3 rfl) ?_
    refine sr_iald hx hb hw (xa_8 t ad) h dX3_rankJoining_26 (fun v6 h => ?_)
    obtain ⟨v7, M8, hc, h⟩ := sr_bind2 h
    refine sr_cVi (As := [.int v6]) (rest := []) ⟨hx, hb, hml, hown, hts⟩ (k3_unite l D t ad v6 M4 _ _ hc) (cwV 1 hts (sr_goodV qmX3_55 qiX3_unite qsX3_unite qnX3 qcX3_unite) rfl rfl rfl qdX3_unite ⟨Nat.le_of_ble_eq_true rfl, Nat.le_of_ble_eq_true rfl⟩) hw hA (xo_56 t ad) rfl hl.1 rfl (Nat.le_of_ble_eq_true rfl) dX3_rankJoining_27 (fun H locs hw => ?_)
    refine lv_pop hx hb dX3_rankJoining_30 rfl ?_
    refine lv_aload_n hx hb dX3_rankJoining_31 rfl (lv_at hl 0 rfl) ?_
    refine sr_getr hx hb hts qzX3 hown hw (xf_56_4 t ad) (hts _ qfX3_21) dX3_rankJoining_32 ?_
    refine lv_iload_n hx hb dX3_rankJoining_35 rfl (lv_at hl 1 rfl) ?_
    refine sr_iald hx hb hw (xa_60 t ad) h dX3_rankJoining_36 (fun v9 h => ?_)
    refine lv_aload_n hx hb dX3_rankJoining_37 rfl (lv_at hl 0 rfl) ?_
    refine sr_getr hx hb hts qzX3 hown hw (xf_56_4 t ad) (hts _ qfX3_21) dX3_rankJoining_38 ?_
    refine lv_iload_n hx hb dX3_rankJoining_41 rfl (lv_at hl 2 rfl) ?_
    refine sr_iald hx hb hw (xa_60 t ad) h dX3_rankJoining_42 (fun v10 h => ?_)
    refine lv_icmp_ne (tgt := 48) hx hb dX3_rankJoining_43 (by decide) (fun hc => ?_) (fun hc => ?_)
    · have h := sr_ifn h hc
      refine lv_iinc (v := (v3 + 1)) (lv' := [(3, .int (v3 + 1)), (0, .ref (ad 56)), (1, .int a1), (2, .int a2)]) hx hb dX3_rankJoining_48 hl (k := 3) rfl rfl (by decide) rfl (fun ls hl => ?_)
      refine lv_goto (tgt := 6) hx hb dX3_rankJoining_51 (by decide) ?_
      exact hi2 ((v3 + 1), M8) (Option.some.inj h).symm _ _ _ hw (lv_sub hl [1, 2, 3, 0] rfl)
    · have h := sr_ifp h hc
      refine lv_iload_n hx hb dX3_rankJoining_46 rfl (lv_at hl 3 rfl) ?_
      have h := sr_ser (hE2 _ (he2 _ (Option.some.inj h).symm))
      obtain ⟨rfl, rfl⟩ := Prod.mk.inj (Option.some.inj h)
      exact ret _ _ _ _ hw rfl dX3_rankJoining_47

noncomputable def f3_branch_L8 (a1 : Int32) (v3 : Int32) (v4 : Int32) (M5 : sr_M) : Option ((Int32 × Int32 × sr_M) ⊕ ((sr_M) ⊕ (Int32 × sr_M))) :=
sr_bnd (M5.1 1 9) fun v6 =>
if v6 ≤ v4 then
(some (.inr (.inl M5)))
else
(sr_ld v4 300 (M5.1 8) fun v7 =>
sr_bd2 (f3_unite v7 M5) fun v8 M9 =>
if v8 = 0 then
(some (.inl (v3, (v4 + 1), M9)))
else
(if v3 = a1 then
(sr_ld v4 300 (M9.1 8) fun v10 =>
some (.inr (.inr (v10, M9))))
else
(some (.inl ((v3 + 1), (v4 + 1), M9)))))
noncomputable def f3_branch (a1 : Int32) (M : sr_M) : Option (Int32 × sr_M) :=
(f3_stand M).bind fun M1 =>
(sr_lp (fun z2 : Int32 × Int32 × sr_M => f3_branch_L8 a1 z2.1 z2.2.1 z2.2.2) (0, 0, M1)).bind (sr_se (fun w2 =>
some ((-1), w2))
(fun q2 => some q2))
set_option maxHeartbeats 4000000 in
set_option maxRecDepth 100000 in
theorem k3_branch (l : Launch) (D : va_G) (t : Nat → ClassId) (ad : Nat → Nat) (a1 : Int32) (M : sr_M) (r : Int32) (M' : sr_M) (h : f3_branch a1 M = some (r, M')) : sr_Mi l D vwCl (xty t) ad (xcf t ad) 62 yX3_branch (.code yX3_branch cX3_branch 4 (some .int) :: sr_tbl) ({ frames := 1, cells := 0, slots := 0, locals := 24 }) [.ref (ad 56), .int a1] M r M' := by
  refine sr_open_i (cc := cX3_branch) (maxL := 4) (by decide) rfl (Nat.le_of_ble_eq_true rfl) ?_
  intro p e s m args below meth c A Q ls hx hb hml hts0 hown hA hw hl ret
  have hts : ∀ w ∈ sr_tbl, w.before args s = true := fun w hw => hts0 w (List.mem_cons_of_mem _ hw)
  have hown : s.vm.findClass RX3 = some m.cls := hown
  have hl : lv_has ls 4 [(0, .ref (ad 56)), (1, .int a1)] := hl
  have hw : xH D t ad A s M s.heap [] := hw
  unfold f3_branch at h
  refine lv_aload_n hx hb dX3_branch_0 rfl (lv_at hl 0 rfl) ?_
  obtain ⟨M1, hc, h⟩ := sr_bind1 h
  refine sr_cVv (As := []) (rest := []) ⟨hx, hb, hml, hown, hts⟩ (k3_stand l D t ad  M _ hc) (cwV 0 hts (sr_goodV qmX3_46 qiX3_stand qsX3_stand qnX3 qcX3_stand) rfl rfl rfl qdX3_stand ⟨Nat.le_of_ble_eq_true rfl, Nat.le_of_ble_eq_true rfl⟩) hw hA (xo_56 t ad) rfl hl.1 rfl (Nat.le_of_ble_eq_true rfl) dX3_branch_1 (fun H locs hw => ?_)
  refine lv_iconst (v := 0) hx hb dX3_branch_4 (by decide) ?_
  refine lv_istore_n (lv' := [(2, .int 0), (0, .ref (ad 56)), (1, .int a1)]) hx hb dX3_branch_5 rfl hl (by decide) rfl (fun ls hl => ?_)
  refine lv_iconst (v := 0) hx hb dX3_branch_6 (by decide) ?_
  refine lv_istore_n (lv' := [(3, .int 0), (2, .int 0), (0, .ref (ad 56)), (1, .int a1)]) hx hb dX3_branch_7 rfl hl (by decide) rfl (fun ls hl => ?_)
  obtain ⟨x2, hlp, hE2⟩ := sr_bind h
  have hX2 : ∀ (M11 : sr_M), Sum.inl M11 = x2 → ∀ (H : Heap) (locs : List Loc) (ls : Array Slot), xH D t ad A s M11 H locs → lv_has ls 4 [] → W p l e ({ frames := 1, cells := 0, slots := 0, locals := 24 }) s m args below meth c H locs 0 0 Q (F0 m 59 ls []) := by
    intro M11 ex H locs ls hw hl
    have h := sr_sel (hE2 _ ex)
    try dsimp only at h
    refine lv_iconst (v := (-1)) hx hb dX3_branch_59 (by decide) ?_
    obtain ⟨rfl, rfl⟩ := Prod.mk.inj (Option.some.inj h)
    exact ret _ _ _ _ hw rfl dX3_branch_60
  refine sr_lp_rule (fun (z2 : Int32 × Int32 × sr_M) => ∀ (H : Heap) (locs : List Loc) (ls : Array Slot), xH D t ad A s z2.2.2 H locs → lv_has ls 4 [(0, .ref (ad 56)), (1, .int a1), (2, .int z2.1), (3, .int z2.2.1)] → W p l e ({ frames := 1, cells := 0, slots := 0, locals := 24 }) s m args below meth c H locs 0 0 Q (F0 m 8 ls [])) ?_ hlp _ _ _ hw (lv_sub hl [2, 3, 1, 0] rfl)
  rintro ⟨v3, v4, M5⟩ y2 h hi2 he2 H locs ls hw hl
  have h : f3_branch_L8 a1 v3 v4 M5 = some y2 := h
  have hw : xH D t ad A s M5 H locs := hw
  have hl : lv_has ls 4 [(0, .ref (ad 56)), (1, .int a1), (2, .int v3), (3, .int v4)] := hl
  unfold f3_branch_L8 at h
  refine lv_iload_n hx hb dX3_branch_8 rfl (lv_at hl 3 rfl) ?_
  refine lv_aload_n hx hb dX3_branch_9 rfl (lv_at hl 0 rfl) ?_
  refine sr_getr hx hb hts qzX3 hown hw (xf_56_0 t ad) (hts _ qfX3_24) dX3_branch_10 ?_
  refine sr_geti hx hb hts qzX2 hown hw (xf_1_9 t ad) (hts _ qfX3_49) h dX3_branch_13 (fun v6 h => ?_)
  refine lv_icmp_ge (tgt := 59) hx hb dX3_branch_16 (by decide) (fun hc => ?_) (fun hc => ?_)
  · have h := sr_ifp h hc
    exact hX2  M5 (he2 _ (Option.some.inj h).symm) _ _ _ hw (lv_sub hl [] rfl)
  · have h := sr_ifn h hc
    refine lv_aload_n hx hb dX3_branch_19 rfl (lv_at hl 0 rfl) ?_
    refine lv_aload_n hx hb dX3_branch_20 rfl (lv_at hl 0 rfl) ?_
    refine sr_getr hx hb hts qzX3 hown hw (xf_56_0 t ad) (hts _ qfX3_24) dX3_branch_21 ?_
    refine sr_getr hx hb hts qzX2 hown hw (xf_1_8 t ad) (hts _ qfX3_52) dX3_branch_24 ?_
    refine lv_iload_n hx hb dX3_branch_27 rfl (lv_at hl 3 rfl) ?_
    refine sr_iald hx hb hw (xa_8 t ad) h dX3_branch_28 (fun v7 h => ?_)
    obtain ⟨v8, M9, hc, h⟩ := sr_bind2 h
    refine sr_cVi (As := [.int v7]) (rest := []) ⟨hx, hb, hml, hown, hts⟩ (k3_unite l D t ad v7 M5 _ _ hc) (cwV 1 hts (sr_goodV qmX3_55 qiX3_unite qsX3_unite qnX3 qcX3_unite) rfl rfl rfl qdX3_unite ⟨Nat.le_of_ble_eq_true rfl, Nat.le_of_ble_eq_true rfl⟩) hw hA (xo_56 t ad) rfl hl.1 rfl (Nat.le_of_ble_eq_true rfl) dX3_branch_29 (fun H locs hw => ?_)
    refine lv_if_eq (tgt := 53) hx hb dX3_branch_32 (by decide) (fun hc => ?_) (fun hc => ?_)
    · have h := sr_ifp h hc
      refine lv_iinc (v := (v4 + 1)) (lv' := [(3, .int (v4 + 1)), (0, .ref (ad 56)), (1, .int a1), (2, .int v3)]) hx hb dX3_branch_53 hl (k := 3) rfl rfl (by decide) rfl (fun ls hl => ?_)
      refine lv_goto (tgt := 8) hx hb dX3_branch_56 (by decide) ?_
      exact hi2 (v3, (v4 + 1), M9) (Option.some.inj h).symm _ _ _ hw (lv_sub hl [1, 2, 3, 0] rfl)
    · have h := sr_ifn h hc
      refine lv_iload_n hx hb dX3_branch_35 rfl (lv_at hl 2 rfl) ?_
      refine lv_iload_n hx hb dX3_branch_36 rfl (lv_at hl 1 rfl) ?_
      refine lv_icmp_ne (tgt := 50) hx hb dX3_branch_37 (by decide) (fun hc => ?_) (fun hc => ?_)
      · have h := sr_ifn h hc
        refine lv_iinc (v := (v3 + 1)) (lv' := [(2, .int (v3 + 1)), (0, .ref (ad 56)), (1, .int a1), (3, .int v4)]) hx hb dX3_branch_50 hl (k := 2) rfl rfl (by decide) rfl (fun ls hl => ?_)
        refine lv_iinc (v := (v4 + 1)) (lv' := [(3, .int (v4 + 1)), (2, .int (v3 + 1)), (0, .ref (ad 56)), (1, .int a1)]) hx hb dX3_branch_53 hl (k := 3) rfl rfl (by decide) rfl (fun ls hl => ?_)
        refine lv_goto (tgt := 8) hx hb dX3_branch_56 (by decide) ?_
        exact hi2 ((v3 + 1), (v4 + 1), M9) (Option.some.inj h).symm _ _ _ hw (lv_sub hl [2, 3, 1, 0] rfl)
      · have h := sr_ifp h hc
        refine lv_aload_n hx hb dX3_branch_40 rfl (lv_at hl 0 rfl) ?_
        refine sr_getr hx hb hts qzX3 hown hw (xf_56_0 t ad) (hts _ qfX3_24) dX3_branch_41 ?_
        refine sr_getr hx hb hts qzX2 hown hw (xf_1_8 t ad) (hts _ qfX3_52) dX3_branch_44 ?_
        refine lv_iload_n hx hb dX3_branch_47 rfl (lv_at hl 3 rfl) ?_
        refine sr_iald hx hb hw (xa_8 t ad) h dX3_branch_48 (fun v10 h => ?_)
        have h := sr_ser (hE2 _ (he2 _ (Option.some.inj h).symm))
        obtain ⟨rfl, rfl⟩ := Prod.mk.inj (Option.some.inj h)
        exact ret _ _ _ _ hw rfl dX3_branch_49

