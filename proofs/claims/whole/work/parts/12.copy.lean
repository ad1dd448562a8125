set_option maxRecDepth 20000 in
theorem qmX0_38 : (.methodLink RX0 38 arraycopyName : Cond) ∈ sr_tbl := sr_in 415 rfl rfl
set_option maxRecDepth 20000 in
theorem q_static : (.static arraycopyName : Cond) ∈ sr_tbl := sr_in 416 rfl rfl
set_option maxRecDepth 20000 in
theorem q_native : (.native arraycopyName : Cond) ∈ sr_tbl := sr_in 417 rfl rfl
section SRY
variable {p : Program} {l : Launch} {e : Env} {R : Room} {s : State} {m : MethodId} {args : Array Value} {below : List Frame} {meth : Method} {c : Code} {H : Heap} {locs : List Loc} {Q : State → Prop}
variable {cc : ByteArray} {pc : Nat} {ls : Array Slot} {rest : List Value}
variable {D : va_G} {cl : List vw_C} {tys : List (ClassId × FieldType)} {ad : Nat → Nat} {cf : sr_CF} {N : Nat} {A : Nat → Prop} {M : sr_M} {ρ : Type} {res : ρ}
theorem sr_copylong (hx : p.tables.exec = Jvm.exec) (hb : c.code = cc) (hml : c.maxLocals = ls.size) {own : String} {index : Nat} (hown : s.vm.findClass own = some m.cls) (hlink : (Cond.methodLink own index arraycopyName).before args s = true) (hnat : (Cond.native arraycopyName).before args s = true) (hstat : (Cond.static arraycopyName).before args s = true) (hini : (Cond.initialized "java/lang/System").before args s = true) (hw : sr_H D cl tys ad cf N A s M H locs) {k0 k n0 n1 : Nat} (hs0 : sr_ja cf tys N k0 n0) (hs1 : sr_ja cf tys N k n1) {sp dp n : Int32} {F : sr_M → Option ρ} (h : sr_cpJ M k0 k n0 n1 sp dp n F = some res)
    (hframes : 1 ≤ R.frames) (hlocals : (rest.map fun v => v.category).sum + (nativeFrameWords "java/lang/System" "arraycopy" 5 + 11) ≤ R.locals) (hdg : decode cc pc = .ok (.invokestatic index, 3))
    (kk : ∀ (M1 : sr_M) (H1 : Heap) (locs1 : List Loc), F M1 = some res → sr_H D cl tys ad cf N A s M1 H1 locs1 → W p l e R s m args below meth c H1 locs1 0 0 Q (F0 m (pc + 3) ls rest)) : W p l e R s m args below meth c H locs 0 0 Q (F0 m pc ls (.int n :: .int dp :: .ref (ad k) :: .int sp :: .ref (ad k0) :: rest)) := by
  obtain ⟨⟨⟨h1, h2, h3⟩, h4, h5⟩, h⟩ := sr_grd_some h
  obtain ⟨hk0, c0, t0, hs0, ht0⟩ := hs0
  obtain ⟨hk1, c1, t1, hs1, ht1⟩ := hs1
  refine va_copyl hx hb hml hown hlink hnat hstat hini hw.1 hw.2.1 hw.2.2.1 hw.2.2.2 k0 k t0 t1 (by rw [sr_w_get hk0, hs0]) (by rw [sr_w_get hk1, hs1]) ht0 ht1 rfl h1 h2 h3 h4 h5 (fun _ _ => rfl) hframes hlocals hdg (fun H1 locs1 hP hD hS => kk _ H1 locs1 h (sr_H_set hw hk1 (fun i hi => ⟨rfl, sr_up_ne hi, rfl⟩) ?_ hP hD hS))
  rw [hs1]
  simp only [sr_cJ, sr_up_self]
theorem sr_copybyte (hx : p.tables.exec = Jvm.exec) (hb : c.code = cc) (hml : c.maxLocals = ls.size) {own : String} {index : Nat} (hown : s.vm.findClass own = some m.cls) (hlink : (Cond.methodLink own index arraycopyName).before args s = true) (hnat : (Cond.native arraycopyName).before args s = true) (hstat : (Cond.static arraycopyName).before args s = true) (hini : (Cond.initialized "java/lang/System").before args s = true) (hw : sr_H D cl tys ad cf N A s M H locs) {k0 k n0 n1 : Nat} (hs0 : sr_ia cf tys N k0 n0 .byte) (hs1 : sr_ia cf tys N k n1 .byte) {sp dp n : Int32} {F : sr_M → Option ρ} (h : sr_cpI M k0 k n0 n1 sp dp n F = some res)
    (hframes : 1 ≤ R.frames) (hlocals : (rest.map fun v => v.category).sum + (nativeFrameWords "java/lang/System" "arraycopy" 5 + 11) ≤ R.locals) (hdg : decode cc pc = .ok (.invokestatic index, 3))
    (kk : ∀ (M1 : sr_M) (H1 : Heap) (locs1 : List Loc), F M1 = some res → sr_H D cl tys ad cf N A s M1 H1 locs1 → W p l e R s m args below meth c H1 locs1 0 0 Q (F0 m (pc + 3) ls rest)) : W p l e R s m args below meth c H locs 0 0 Q (F0 m pc ls (.int n :: .int dp :: .ref (ad k) :: .int sp :: .ref (ad k0) :: rest)) := by
  obtain ⟨⟨⟨h1, h2, h3⟩, h4, h5, h6⟩, h⟩ := sr_grd_some h
  obtain ⟨hk0, c0, t0, hs0, ht0⟩ := hs0
  obtain ⟨hk1, c1, t1, hs1, ht1⟩ := hs1
  refine va_copyi hx hb hml hown hlink hnat hstat hini hw.1 hw.2.1 hw.2.2.1 hw.2.2.2 k0 k t0 t1 (by rw [sr_w_get hk0, hs0]) (by rw [sr_w_get hk1, hs1]) ht0 ht1 rfl h1 h2 h3 h4 h5 (fun i hi => by rcases h6 i hi with e | e <;> rw [e] <;> rfl) hframes hlocals hdg (fun H1 locs1 hP hD hS => kk _ H1 locs1 h (sr_H_set hw hk1 (fun i hi => ⟨sr_up_ne hi, rfl, rfl⟩) ?_ hP hD hS))
  rw [hs1]
  simp only [sr_cI, sr_up_self]
end SRY
