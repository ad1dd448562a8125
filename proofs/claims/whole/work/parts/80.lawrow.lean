/-! THE LAW'S ROWS: two worlds side by side; a call of the one leaves the other -/
theorem sr_other {D : va_G} {cl : List vw_C} {ad ad2 : Nat → Nat} {cf cf2 : sr_CF} {N N2 : Nat} {M M2 : sr_M} {H H1 : Heap} (hP2 : va_P D cl (sr_w ad2 cf2 N2 M2) H) (hdis : ∀ i j, i < N → j < N2 → ad i ≠ ad2 j) (hk : ∀ q : Nat, q < H.size → ¬ va_A (sr_w ad cf N M) H.size q → H1[q]? = H[q]?) : va_P D cl (sr_w ad2 cf2 N2 M2) H1 := by
  refine hP2.kept (fun k q hq => ?_)
  have hlt := (hP2 k q hq).lt
  obtain ⟨hkN, e⟩ := sr_w_of hq
  subst e
  refine hk _ hlt (fun h => ?_)
  rcases h with ⟨i, e2, h⟩ | h
  · obtain ⟨hi, e3⟩ := sr_w_of h
    exact hdis i k hi hkN (congrArg Prod.fst e3).symm
  · exact absurd hlt (Nat.not_lt.mpr h)
section SRL
variable {p : Program} {l : Launch} {e : Env} {R : Room} {s : State} {m : MethodId} {args : Array Value} {below : List Frame} {meth : Method} {c : Code} {H : Heap} {locs : List Loc} {Q : State → Prop} {kc ks : Nat}
variable {cc : ByteArray} {pc nL : Nat} {ls : Array Slot} {rest st0 : List Value}
variable {D : va_G} {cl : List vw_C} {tys : List (ClassId × FieldType)} {ad ad2 : Nat → Nat} {cf cf2 : sr_CF} {N N2 : Nat} {A : Nat → Prop} {M M1 M2 : sr_M}
variable {y : MethodName} {bytes : ByteArray} {maxL n index : Nat} {ret : Option FieldType} {ws : List Cond} {rm : Room} {Ts : List Cond} {own C : String} {As : List Value}
theorem sr_lVi {r : Int32} {k : Nat} (S : CallFix p m c cc nL s args Ts own) (hM : sr_Mi l D cl tys ad cf N y ws rm (.ref (ad k) :: As) M r M1) (cw : CallW R s args own C index y bytes maxL ret ws rm 0 0 n) (hw : sr_H D cl tys ad cf N A s M H locs) (hP2 : va_P D cl (sr_w ad2 cf2 N2 M2) H) (hdis : ∀ i j, i < N → j < N2 → ad i ≠ ad2 j) (hA : ∀ q : Nat, s.heap.size ≤ q → A q) (hob : sr_ob cl cf N k C) (hn : As.length = n) (hls : ls.size = nL) (hst : st0 = As.reverse ++ .ref (ad k) :: rest) (hW : (rest.map fun v => v.category).sum ≤ 8) (hroom : kc ≤ R.cells ∧ ks ≤ R.slots) (hdg : decode cc pc = .ok (.invokevirtual index, 3))
    (kk : ∀ (H1 : Heap) (locs1 : List Loc), sr_H D cl tys ad cf N A s M1 H1 locs1 → va_P D cl (sr_w ad2 cf2 N2 M2) H1 → W p l e R s m args below meth c H1 locs1 kc ks Q (F0 m (pc + 3) ls (.int r :: rest))) : W p l e R s m args below meth c H locs kc ks Q (F0 m pc ls st0) := by
  obtain ⟨hk, ci, q, fs, hc, hqC, hs⟩ := hob
  have hF := sr_free hw.2.2.1 hw.2.2.2 hA
  refine va_calli (va_runV (As := As) (rest := rest) S (hM H.size) cw ⟨sr_blind, ?_, fun U hU hW => ⟨rfl, by rw [hU], by rw [hU]; exact hw.2.1, va_K.moved hW.alike hw.1, hw.2.2.1.weaken (fun _ _ _ _ => trivial)⟩⟩ rfl hn hls hst (lv_room hW) hdg hroom) hw.2.2.2 (fun q _ h => hF q h) hF (fun r2 u t H1 locs1 ht hvm hr hB hz hk1 hS => ?_)
  · have h := va_recv hw.1 hw.2.1 hc (q0 := k) (by rw [sr_w_get hk, hs])
    rw [hqC] at h
    exact h
  · obtain ⟨rfl, rfl⟩ := hr
    obtain ⟨hP1, hK1, hD1⟩ := hB
    rw [ht] at hP1
    exact kk H1 locs1 ⟨va_K.moved hvm.symm hK1, hP1, hD1.weaken (fun _ q _ h => hF q.1 h), hS⟩ (sr_other hP2 hdis hk1)
theorem sr_lVl {r : Int64} {k : Nat} (S : CallFix p m c cc nL s args Ts own) (hM : sr_Ml l D cl tys ad cf N y ws rm (.ref (ad k) :: As) M r M1) (cw : CallW R s args own C index y bytes maxL ret ws rm 0 0 n) (hw : sr_H D cl tys ad cf N A s M H locs) (hP2 : va_P D cl (sr_w ad2 cf2 N2 M2) H) (hdis : ∀ i j, i < N → j < N2 → ad i ≠ ad2 j) (hA : ∀ q : Nat, s.heap.size ≤ q → A q) (hob : sr_ob cl cf N k C) (hn : As.length = n) (hls : ls.size = nL) (hst : st0 = As.reverse ++ .ref (ad k) :: rest) (hW : (rest.map fun v => v.category).sum ≤ 8) (hroom : kc ≤ R.cells ∧ ks ≤ R.slots) (hdg : decode cc pc = .ok (.invokevirtual index, 3))
    (kk : ∀ (H1 : Heap) (locs1 : List Loc), sr_H D cl tys ad cf N A s M1 H1 locs1 → va_P D cl (sr_w ad2 cf2 N2 M2) H1 → W p l e R s m args below meth c H1 locs1 kc ks Q (F0 m (pc + 3) ls (.long r :: rest))) : W p l e R s m args below meth c H locs kc ks Q (F0 m pc ls st0) := by
  obtain ⟨hk, ci, q, fs, hc, hqC, hs⟩ := hob
  have hF := sr_free hw.2.2.1 hw.2.2.2 hA
  refine va_calll (va_runV (As := As) (rest := rest) S (hM H.size) cw ⟨sr_blind, ?_, fun U hU hW => ⟨rfl, by rw [hU], by rw [hU]; exact hw.2.1, va_K.moved hW.alike hw.1, hw.2.2.1.weaken (fun _ _ _ _ => trivial)⟩⟩ rfl hn hls hst (lv_room hW) hdg hroom) hw.2.2.2 (fun q _ h => hF q h) hF (fun r2 u t H1 locs1 ht hvm hr hB hz hk1 hS => ?_)
  · have h := va_recv hw.1 hw.2.1 hc (q0 := k) (by rw [sr_w_get hk, hs])
    rw [hqC] at h
    exact h
  · obtain ⟨rfl, rfl⟩ := hr
    obtain ⟨hP1, hK1, hD1⟩ := hB
    rw [ht] at hP1
    exact kk H1 locs1 ⟨va_K.moved hvm.symm hK1, hP1, hD1.weaken (fun _ q _ h => hF q.1 h), hS⟩ (sr_other hP2 hdis hk1)
end SRL
/-- the law's fixed ground -/
def lz_F (p : Program) (s : State) (m : MethodId) (c : Code) (b L : Nat) (xs : Nat → Int32) : Prop :=
  p.tables.exec = Jvm.exec ∧ c.code = code ∧ c.maxLocals = 4 ∧ s.vm.findClass RL = some m.cls ∧ (∀ w ∈ sr_tbl, w.before #[Value.ref b] s = true) ∧ va_X b L xs s s.heap ∧ b < s.heap.size
abbrev lz_A (s : State) : Nat → Prop := fun q => s.heap.size ≤ q
/-- the two worlds -/
def lz_Z (D : va_G) (tX tY : Nat → ClassId) (aX aY : Nat → Nat) (s : State) (Mx My : sr_M) (H : Heap) (locs : List Loc) : Prop :=
  sr_H D vwCl (xty tX) aX (xcf tX aX) 62 (lz_A s) s Mx H locs ∧ sr_H D vwCl (yty tY) aY (ycf tY aY) 26 (lz_A s) s My H locs ∧ ∀ i j, i < 62 → j < 26 → aX i ≠ aY j
def lz_l (aX aY : Nat → Nat) (b i : Nat) : List (Nat × Value) := [(3, .int (nI i)), (2, .ref (aY 0)), (1, .ref (aX 0)), (0, .ref b)]
def lz_J (a b : Int32) : Int64 := (a.toInt64 <<< ((32 : Int32).toInt64 &&& 63)) ||| (b.toInt64 &&& 4294967295)
section SRL2
variable {p : Program} {l : Launch} {e : Env} {s : State} {m : MethodId} {below : List Frame} {meth : Method} {c : Code} {H : Heap} {locs : List Loc} {Q : State → Prop} {kc ks b L : Nat} {xs : Nat → Int32}
variable {pc : Nat} {ls : Array Slot} {rest : List Value}
variable {D : va_G} {tX tY : Nat → ClassId} {aX aY : Nat → Nat} {Mx My Mx' My' : sr_M} {i j : Nat}
theorem lz_arg {n : Int} (hF : lz_F p s m c b L xs) (hS : va_S (lz_A s) s.heap H locs) (hl : lv_has ls 4 (lz_l aX aY b i)) (hi : i + j < L) (hL : L ≤ 3072) (hn : Int32.ofInt n = nI j) (d0 : decode code pc = .ok (.aload_n 0, 1)) (d1 : decode code (pc + 1) = .ok (.iload_n 3, 1)) (d2 : decode code (pc + 1 + 1) = .ok (.iconst n, 1)) (d3 : decode code (pc + 1 + 1 + 1) = .ok (.iadd, 1)) (d4 : decode code (pc + 1 + 1 + 1 + 1) = .ok (.iaload, 1))
    (kk : W p l e room_1 s m #[Value.ref b] below meth c H locs kc ks Q (F0 m (pc + 1 + 1 + 1 + 1 + 1) ls (.int (xs (i + j)) :: rest))) : W p l e room_1 s m #[Value.ref b] below meth c H locs kc ks Q (F0 m pc ls rest) := by
  obtain ⟨hx, hb, hml, hown, hts, hX, hbl⟩ := hF
  have hbA : ¬ lz_A s b := Nat.not_le.mpr hbl
  refine lv_aload_n hx hb d0 rfl (lv_at hl 3 rfl) ?_
  refine lv_iload_n hx hb d1 rfl (lv_at hl 0 rfl) ?_
  refine lv_iconst (v := nI j) hx hb d2 hn ?_
  refine lv_iadd hx hb d3 ?_
  rw [nI_add]
  refine va_sld hx hb hX hbl hbA hS (vp_in_nI hi (by omega)) d4 ?_
  rw [nI_clamp (by omega)]
  exact kk
theorem lz_argB {n : Int} (hF : lz_F p s m c b L xs) (hS : va_S (lz_A s) s.heap H locs) (hl : lv_has ls 4 (lz_l aX aY b i)) (hi : i + j < L) (hL : L ≤ 3072) (hn : Int32.ofInt n = nI j) (d0 : decode code pc = .ok (.aload_n 0, 1)) (d1 : decode code (pc + 1) = .ok (.iload_n 3, 1)) (d2 : decode code (pc + 1 + 1) = .ok (.iconst n, 1)) (d3 : decode code (pc + 1 + 1 + 1) = .ok (.iadd, 1)) (d4 : decode code (pc + 1 + 1 + 1 + 1) = .ok (.iaload, 1))
    (d5 : decode code (pc + 5) = .ok (.ifCond .eq 7, 3)) (d6 : decode code (pc + 8) = .ok (.iconst 1, 1)) (d7 : decode code (pc + 9) = .ok (.goto 4, 3)) (d8 : decode code (pc + 12) = .ok (.iconst 0, 1))
    (kk : W p l e room_1 s m #[Value.ref b] below meth c H locs kc ks Q (F0 m (pc + 13) ls (.int (pp_bI (decide (xs (i + j) ≠ 0))) :: rest))) : W p l e room_1 s m #[Value.ref b] below meth c H locs kc ks Q (F0 m pc ls rest) := by
  refine lz_arg hF hS hl hi hL hn d0 d1 d2 d3 d4 ?_
  obtain ⟨hx, hb, hml, hown, hts, hX, hbl⟩ := hF
  refine lv_if_eq (tgt := pc + 12) hx hb d5 (by omega) (fun h0 => ?_) (fun h0 => ?_)
  · refine lv_iconst (v := 0) hx hb d8 (by decide) ?_
    have e1 : pp_bI (decide (xs (i + j) ≠ 0)) = 0 := by simp [pp_bI, h0]
    rw [e1] at kk
    exact kk
  · refine lv_iconst (v := 1) hx hb d6 (by decide) ?_
    refine lv_goto (tgt := pc + 13) hx hb d7 (by omega) ?_
    have e1 : pp_bI (decide (xs (i + j) ≠ 0)) = 1 := by simp [pp_bI, h0]
    rw [e1] at kk
    exact kk
theorem lz_argJ (hF : lz_F p s m c b L xs) (hS : va_S (lz_A s) s.heap H locs) (hl : lv_has ls 4 (lz_l aX aY b i)) (hi : i + 6 ≤ L) (hL : L ≤ 3072) (d0 : decode code pc = .ok (.aload_n 0, 1)) (d1 : decode code (pc + 1) = .ok (.iload_n 3, 1)) (d2 : decode code (pc + 1 + 1) = .ok (.iconst 3, 1)) (d3 : decode code (pc + 1 + 1 + 1) = .ok (.iadd, 1)) (d4 : decode code (pc + 1 + 1 + 1 + 1) = .ok (.iaload, 1))
    (d5 : decode code (pc + 5) = .ok (.i2l, 1)) (d6 : decode code (pc + 6) = .ok (.bipush 32, 2)) (d8 : decode code (pc + 8) = .ok (.lshl, 1))
    (e0 : decode code (pc + 9) = .ok (.aload_n 0, 1)) (e1 : decode code (pc + 9 + 1) = .ok (.iload_n 3, 1)) (e2 : decode code (pc + 9 + 1 + 1) = .ok (.iconst 4, 1)) (e3 : decode code (pc + 9 + 1 + 1 + 1) = .ok (.iadd, 1)) (e4 : decode code (pc + 9 + 1 + 1 + 1 + 1) = .ok (.iaload, 1))
    (e5 : decode code (pc + 14) = .ok (.i2l, 1)) (e6 : decode code (pc + 15) = .ok (.ldc2_w 58, 3)) (e9 : decode code (pc + 18) = .ok (.land, 1)) (e10 : decode code (pc + 19) = .ok (.lor, 1))
    (kk : W p l e room_1 s m #[Value.ref b] below meth c H locs kc ks Q (F0 m (pc + 20) ls (.long (lz_J (xs (i + 3)) (xs (i + 4))) :: rest))) : W p l e room_1 s m #[Value.ref b] below meth c H locs kc ks Q (F0 m pc ls rest) := by
  refine lz_arg (j := 3) hF hS hl (by omega) hL rfl d0 d1 d2 d3 d4 ?_
  refine lv_i2l (v := (xs (i + 3)).toInt64) hF.1 hF.2.1 d5 rfl ?_
  refine lv_bipush (v := 32) hF.1 hF.2.1 d6 (by decide) ?_
  refine lv_lshl (v := (xs (i + 3)).toInt64 <<< ((32 : Int32).toInt64 &&& 63)) hF.1 hF.2.1 d8 rfl ?_
  refine lz_arg (j := 4) hF hS hl (by omega) hL rfl e0 e1 e2 e3 e4 ?_
  refine lv_i2l (v := (xs (i + 4)).toInt64) hF.1 hF.2.1 e5 rfl ?_
  refine lv_ldc2 (v := 4294967295) hF.1 hF.2.1 hF.2.2.2.1 (hF.2.2.2.2.1 _ qkL_58) e6 ?_
  refine lv_land hF.1 hF.2.1 e9 ?_
  refine lv_lor hF.1 hF.2.1 e10 ?_
  exact kk
theorem lz_fix (hF : lz_F p s m c b L xs) : CallFix p m c code 4 s #[Value.ref b] sr_tbl RL := ⟨hF.1, hF.2.1, hF.2.2.1, hF.2.2.2.1, hF.2.2.2.2.1⟩
end SRL2
