def xcl (t : Nat → ClassId) (ad : Nat → Nat) (R : Nat → Int32) (L : Nat → Int64) (D : Nat → UInt64) : List va_E :=
  [.inr (4, [.ref (ad 1), .ref (ad 11), .ref (ad 30), .ref (ad 43), .ref (ad 56), .ref (ad 61), .int (R 6)]),
   .inr (2, [.int (R 0), .ref (ad 2), .ref (ad 3), .int (R 3), .ref (ad 4), .ref (ad 5), .ref (ad 6), .ref (ad 7), .ref (ad 8), .int (R 9), .ref (ad 9), .ref (ad 10), .int (R 12)]),
   .inl (t 2, 120, .inl R),
   .inl (t 3, 120, .inl R),
   .inl (t 4, 300, .inl R),
   .inl (t 5, 300, .inl R),
   .inl (t 6, 300, .inl R),
   .inl (t 7, 300, .inl R),
   .inl (t 8, 300, .inl R),
   .inl (t 9, 121, .inl R),
   .inl (t 10, 600, .inl R),
   .inl (t 11, 6, .inr (.inr (.inr (.inr (fun i => if i < 6 then some (ad (12 + 3 * i)) else none))))),
   .inr (0, [.int (R 0), .int (R 1), .int (R 2), .ref (ad 13), .ref (ad 14)]),
   .inl (t 13, 60, .inr (.inl L)),
   .inl (t 14, 60, .inl R),
   .inr (0, [.int (R 0), .int (R 1), .int (R 2), .ref (ad 16), .ref (ad 17)]),
   .inl (t 16, 60, .inr (.inl L)),
   .inl (t 17, 60, .inl R),
   .inr (0, [.int (R 0), .int (R 1), .int (R 2), .ref (ad 19), .ref (ad 20)]),
   .inl (t 19, 60, .inr (.inl L)),
   .inl (t 20, 60, .inl R),
   .inr (0, [.int (R 0), .int (R 1), .int (R 2), .ref (ad 22), .ref (ad 23)]),
   .inl (t 22, 60, .inr (.inl L)),
   .inl (t 23, 60, .inl R),
   .inr (0, [.int (R 0), .int (R 1), .int (R 2), .ref (ad 25), .ref (ad 26)]),
   .inl (t 25, 60, .inr (.inl L)),
   .inl (t 26, 60, .inl R),
   .inr (0, [.int (R 0), .int (R 1), .int (R 2), .ref (ad 28), .ref (ad 29)]),
   .inl (t 28, 60, .inr (.inl L)),
   .inl (t 29, 60, .inl R),
   .inr (1, [.ref (ad 1), .int (R 1), .int (R 2), .ref (ad 31), .ref (ad 32), .ref (ad 33), .ref (ad 34), .ref (ad 35), .ref (ad 36), .int (R 9), .ref (ad 37), .ref (ad 38), .ref (ad 39), .ref (ad 40), .ref (ad 41), .ref (ad 42)]),
   .inl (t 31, 121, .inl R),
   .inl (t 32, 121, .inl R),
   .inl (t 33, 120, .inl R),
   .inl (t 34, 120, .inl R),
   .inl (t 35, 120, .inl R),
   .inl (t 36, 120, .inl R),
   .inl (t 37, 120, .inl R),
   .inl (t 38, 120, .inl R),
   .inl (t 39, 120, .inl R),
   .inl (t 40, 120, .inl R),
   .inl (t 41, 120, .inl R),
   .inl (t 42, 120, .inl R),
   .inr (1, [.ref (ad 1), .int (R 1), .int (R 2), .ref (ad 44), .ref (ad 45), .ref (ad 46), .ref (ad 47), .ref (ad 48), .ref (ad 49), .int (R 9), .ref (ad 50), .ref (ad 51), .ref (ad 52), .ref (ad 53), .ref (ad 54), .ref (ad 55)]),
   .inl (t 44, 121, .inl R),
   .inl (t 45, 121, .inl R),
   .inl (t 46, 120, .inl R),
   .inl (t 47, 120, .inl R),
   .inl (t 48, 120, .inl R),
   .inl (t 49, 120, .inl R),
   .inl (t 50, 120, .inl R),
   .inl (t 51, 120, .inl R),
   .inl (t 52, 120, .inl R),
   .inl (t 53, 120, .inl R),
   .inl (t 54, 120, .inl R),
   .inl (t 55, 120, .inl R),
   .inr (3, [.ref (ad 1), .ref (ad 57), .ref (ad 58), .ref (ad 59), .ref (ad 60)]),
   .inl (t 57, 120, .inl R),
   .inl (t 58, 120, .inl R),
   .inl (t 59, 120, .inl R),
   .inl (t 60, 120, .inl R),
   .inl (t 61, 200, .inl R)]
def xcf (t : Nat → ClassId) (ad : Nat → Nat) : sr_CF := fun k R L D => (xcl t ad R L D).getD k (.inl (t 0, 0, .inl R))
def xty (t : Nat → ClassId) : List (ClassId × FieldType) :=
  [(t 2, .int), (t 3, .boolean), (t 4, .int), (t 5, .int), (t 6, .int), (t 7, .int), (t 8, .int), (t 9, .int), (t 10, .int), (t 11, .object "SeepingRock$Core"), (t 13, .long), (t 14, .byte), (t 16, .long), (t 17, .byte), (t 19, .long), (t 20, .byte), (t 22, .long), (t 23, .byte), (t 25, .long), (t 26, .byte), (t 28, .long), (t 29, .byte), (t 31, .int), (t 32, .int), (t 33, .int), (t 34, .int), (t 35, .int), (t 36, .int), (t 37, .int), (t 38, .int), (t 39, .int), (t 40, .int), (t 41, .int), (t 42, .boolean), (t 44, .int), (t 45, .int), (t 46, .int), (t 47, .int), (t 48, .int), (t 49, .int), (t 50, .int), (t 51, .int), (t 52, .int), (t 53, .int), (t 54, .int), (t 55, .boolean), (t 57, .int), (t 58, .int), (t 59, .int), (t 60, .int), (t 61, .int)]
abbrev xH (D : va_G) (t : Nat → ClassId) (ad : Nat → Nat) (A : Nat → Prop) (s : State) (M : sr_M) (H : Heap) (locs : List Loc) : Prop := sr_H D vwCl (xty t) ad (xcf t ad) 62 A s M H locs
theorem xo_0 (t : Nat → ClassId) (ad : Nat → Nat) : sr_ob vwCl (xcf t ad) 62 0 RX4 := ⟨by decide, 4, (RX4, TX4, 7), fun R => [.ref (ad 1), .ref (ad 11), .ref (ad 30), .ref (ad 43), .ref (ad 56), .ref (ad 61), .int (R 6)], rfl, rfl, fun _ _ _ => rfl⟩
theorem xf_0_0 (t : Nat → ClassId) (ad : Nat → Nat) : sr_fr vwCl (xcf t ad) 62 0 RX4 TX4 7 0 (ad 1) := ⟨by decide, by decide, rfl, 4, fun R => [.ref (ad 1), .ref (ad 11), .ref (ad 30), .ref (ad 43), .ref (ad 56), .ref (ad 61), .int (R 6)], rfl, fun _ _ _ => rfl, fun _ => rfl⟩
theorem xf_0_1 (t : Nat → ClassId) (ad : Nat → Nat) : sr_fr vwCl (xcf t ad) 62 0 RX4 TX4 7 1 (ad 11) := ⟨by decide, by decide, rfl, 4, fun R => [.ref (ad 1), .ref (ad 11), .ref (ad 30), .ref (ad 43), .ref (ad 56), .ref (ad 61), .int (R 6)], rfl, fun _ _ _ => rfl, fun _ => rfl⟩
theorem xf_0_2 (t : Nat → ClassId) (ad : Nat → Nat) : sr_fr vwCl (xcf t ad) 62 0 RX4 TX4 7 2 (ad 30) := ⟨by decide, by decide, rfl, 4, fun R => [.ref (ad 1), .ref (ad 11), .ref (ad 30), .ref (ad 43), .ref (ad 56), .ref (ad 61), .int (R 6)], rfl, fun _ _ _ => rfl, fun _ => rfl⟩
theorem xf_0_3 (t : Nat → ClassId) (ad : Nat → Nat) : sr_fr vwCl (xcf t ad) 62 0 RX4 TX4 7 3 (ad 43) := ⟨by decide, by decide, rfl, 4, fun R => [.ref (ad 1), .ref (ad 11), .ref (ad 30), .ref (ad 43), .ref (ad 56), .ref (ad 61), .int (R 6)], rfl, fun _ _ _ => rfl, fun _ => rfl⟩
theorem xf_0_4 (t : Nat → ClassId) (ad : Nat → Nat) : sr_fr vwCl (xcf t ad) 62 0 RX4 TX4 7 4 (ad 56) := ⟨by decide, by decide, rfl, 4, fun R => [.ref (ad 1), .ref (ad 11), .ref (ad 30), .ref (ad 43), .ref (ad 56), .ref (ad 61), .int (R 6)], rfl, fun _ _ _ => rfl, fun _ => rfl⟩
theorem xf_0_5 (t : Nat → ClassId) (ad : Nat → Nat) : sr_fr vwCl (xcf t ad) 62 0 RX4 TX4 7 5 (ad 61) := ⟨by decide, by decide, rfl, 4, fun R => [.ref (ad 1), .ref (ad 11), .ref (ad 30), .ref (ad 43), .ref (ad 56), .ref (ad 61), .int (R 6)], rfl, fun _ _ _ => rfl, fun _ => rfl⟩
theorem xf_0_6 (t : Nat → ClassId) (ad : Nat → Nat) : sr_fi vwCl (xcf t ad) 62 0 RX4 TX4 7 6 := ⟨by decide, by decide, rfl, 4, fun R => [.ref (ad 1), .ref (ad 11), .ref (ad 30), .ref (ad 43), .ref (ad 56), .ref (ad 61), .int (R 6)], rfl, fun _ _ _ => rfl, fun _ => rfl, fun _ _ => rfl⟩
theorem xo_1 (t : Nat → ClassId) (ad : Nat → Nat) : sr_ob vwCl (xcf t ad) 62 1 RX2 := ⟨by decide, 2, (RX2, TX2, 13), fun R => [.int (R 0), .ref (ad 2), .ref (ad 3), .int (R 3), .ref (ad 4), .ref (ad 5), .ref (ad 6), .ref (ad 7), .ref (ad 8), .int (R 9), .ref (ad 9), .ref (ad 10), .int (R 12)], rfl, rfl, fun _ _ _ => rfl⟩
theorem xf_1_0 (t : Nat → ClassId) (ad : Nat → Nat) : sr_fi vwCl (xcf t ad) 62 1 RX2 TX2 13 0 := ⟨by decide, by decide, rfl, 2, fun R => [.int (R 0), .ref (ad 2), .ref (ad 3), .int (R 3), .ref (ad 4), .ref (ad 5), .ref (ad 6), .ref (ad 7), .ref (ad 8), .int (R 9), .ref (ad 9), .ref (ad 10), .int (R 12)], rfl, fun _ _ _ => rfl, fun _ => rfl, fun _ _ => rfl⟩
theorem xf_1_1 (t : Nat → ClassId) (ad : Nat → Nat) : sr_fr vwCl (xcf t ad) 62 1 RX2 TX2 13 1 (ad 2) := ⟨by decide, by decide, rfl, 2, fun R => [.int (R 0), .ref (ad 2), .ref (ad 3), .int (R 3), .ref (ad 4), .ref (ad 5), .ref (ad 6), .ref (ad 7), .ref (ad 8), .int (R 9), .ref (ad 9), .ref (ad 10), .int (R 12)], rfl, fun _ _ _ => rfl, fun _ => rfl⟩
theorem xf_1_2 (t : Nat → ClassId) (ad : Nat → Nat) : sr_fr vwCl (xcf t ad) 62 1 RX2 TX2 13 2 (ad 3) := ⟨by decide, by decide, rfl, 2, fun R => [.int (R 0), .ref (ad 2), .ref (ad 3), .int (R 3), .ref (ad 4), .ref (ad 5), .ref (ad 6), .ref (ad 7), .ref (ad 8), .int (R 9), .ref (ad 9), .ref (ad 10), .int (R 12)], rfl, fun _ _ _ => rfl, fun _ => rfl⟩
theorem xf_1_3 (t : Nat → ClassId) (ad : Nat → Nat) : sr_fi vwCl (xcf t ad) 62 1 RX2 TX2 13 3 := ⟨by decide, by decide, rfl, 2, fun R => [.int (R 0), .ref (ad 2), .ref (ad 3), .int (R 3), .ref (ad 4), .ref (ad 5), .ref (ad 6), .ref (ad 7), .ref (ad 8), .int (R 9), .ref (ad 9), .ref (ad 10), .int (R 12)], rfl, fun _ _ _ => rfl, fun _ => rfl, fun _ _ => rfl⟩
theorem xf_1_4 (t : Nat → ClassId) (ad : Nat → Nat) : sr_fr vwCl (xcf t ad) 62 1 RX2 TX2 13 4 (ad 4) := ⟨by decide, by decide, rfl, 2, fun R => [.int (R 0), .ref (ad 2), .ref (ad 3), .int (R 3), .ref (ad 4), .ref (ad 5), .ref (ad 6), .ref (ad 7), .ref (ad 8), .int (R 9), .ref (ad 9), .ref (ad 10), .int (R 12)], rfl, fun _ _ _ => rfl, fun _ => rfl⟩
theorem xf_1_5 (t : Nat → ClassId) (ad : Nat → Nat) : sr_fr vwCl (xcf t ad) 62 1 RX2 TX2 13 5 (ad 5) := ⟨by decide, by decide, rfl, 2, fun R => [.int (R 0), .ref (ad 2), .ref (ad 3), .int (R 3), .ref (ad 4), .ref (ad 5), .ref (ad 6), .ref (ad 7), .ref (ad 8), .int (R 9), .ref (ad 9), .ref (ad 10), .int (R 12)], rfl, fun _ _ _ => rfl, fun _ => rfl⟩
theorem xf_1_6 (t : Nat → ClassId) (ad : Nat → Nat) : sr_fr vwCl (xcf t ad) 62 1 RX2 TX2 13 6 (ad 6) := ⟨by decide, by decide, rfl, 2, fun R => [.int (R 0), .ref (ad 2), .ref (ad 3), .int (R 3), .ref (ad 4), .ref (ad 5), .ref (ad 6), .ref (ad 7), .ref (ad 8), .int (R 9), .ref (ad 9), .ref (ad 10), .int (R 12)], rfl, fun _ _ _ => rfl, fun _ => rfl⟩
theorem xf_1_7 (t : Nat → ClassId) (ad : Nat → Nat) : sr_fr vwCl (xcf t ad) 62 1 RX2 TX2 13 7 (ad 7) := ⟨by decide, by decide, rfl, 2, fun R => [.int (R 0), .ref (ad 2), .ref (ad 3), .int (R 3), .ref (ad 4), .ref (ad 5), .ref (ad 6), .ref (ad 7), .ref (ad 8), .int (R 9), .ref (ad 9), .ref (ad 10), .int (R 12)], rfl, fun _ _ _ => rfl, fun _ => rfl⟩
theorem xf_1_8 (t : Nat → ClassId) (ad : Nat → Nat) : sr_fr vwCl (xcf t ad) 62 1 RX2 TX2 13 8 (ad 8) := ⟨by decide, by decide, rfl, 2, fun R => [.int (R 0), .ref (ad 2), .ref (ad 3), .int (R 3), .ref (ad 4), .ref (ad 5), .ref (ad 6), .ref (ad 7), .ref (ad 8), .int (R 9), .ref (ad 9), .ref (ad 10), .int (R 12)], rfl, fun _ _ _ => rfl, fun _ => rfl⟩
theorem xf_1_9 (t : Nat → ClassId) (ad : Nat → Nat) : sr_fi vwCl (xcf t ad) 62 1 RX2 TX2 13 9 := ⟨by decide, by decide, rfl, 2, fun R => [.int (R 0), .ref (ad 2), .ref (ad 3), .int (R 3), .ref (ad 4), .ref (ad 5), .ref (ad 6), .ref (ad 7), .ref (ad 8), .int (R 9), .ref (ad 9), .ref (ad 10), .int (R 12)], rfl, fun _ _ _ => rfl, fun _ => rfl, fun _ _ => rfl⟩
theorem xf_1_10 (t : Nat → ClassId) (ad : Nat → Nat) : sr_fr vwCl (xcf t ad) 62 1 RX2 TX2 13 10 (ad 9) := ⟨by decide, by decide, rfl, 2, fun R => [.int (R 0), .ref (ad 2), .ref (ad 3), .int (R 3), .ref (ad 4), .ref (ad 5), .ref (ad 6), .ref (ad 7), .ref (ad 8), .int (R 9), .ref (ad 9), .ref (ad 10), .int (R 12)], rfl, fun _ _ _ => rfl, fun _ => rfl⟩
theorem xf_1_11 (t : Nat → ClassId) (ad : Nat → Nat) : sr_fr vwCl (xcf t ad) 62 1 RX2 TX2 13 11 (ad 10) := ⟨by decide, by decide, rfl, 2, fun R => [.int (R 0), .ref (ad 2), .ref (ad 3), .int (R 3), .ref (ad 4), .ref (ad 5), .ref (ad 6), .ref (ad 7), .ref (ad 8), .int (R 9), .ref (ad 9), .ref (ad 10), .int (R 12)], rfl, fun _ _ _ => rfl, fun _ => rfl⟩
theorem xf_1_12 (t : Nat → ClassId) (ad : Nat → Nat) : sr_fi vwCl (xcf t ad) 62 1 RX2 TX2 13 12 := ⟨by decide, by decide, rfl, 2, fun R => [.int (R 0), .ref (ad 2), .ref (ad 3), .int (R 3), .ref (ad 4), .ref (ad 5), .ref (ad 6), .ref (ad 7), .ref (ad 8), .int (R 9), .ref (ad 9), .ref (ad 10), .int (R 12)], rfl, fun _ _ _ => rfl, fun _ => rfl, fun _ _ => rfl⟩
theorem xa_2 (t : Nat → ClassId) (ad : Nat → Nat) : sr_ia (xcf t ad) (xty t) 62 2 120 .int := ⟨by decide, t 2, 0, fun _ _ _ => rfl, rfl⟩
theorem xa_3 (t : Nat → ClassId) (ad : Nat → Nat) : sr_ia (xcf t ad) (xty t) 62 3 120 .boolean := ⟨by decide, t 3, 1, fun _ _ _ => rfl, rfl⟩
theorem xa_4 (t : Nat → ClassId) (ad : Nat → Nat) : sr_ia (xcf t ad) (xty t) 62 4 300 .int := ⟨by decide, t 4, 2, fun _ _ _ => rfl, rfl⟩
theorem xa_5 (t : Nat → ClassId) (ad : Nat → Nat) : sr_ia (xcf t ad) (xty t) 62 5 300 .int := ⟨by decide, t 5, 3, fun _ _ _ => rfl, rfl⟩
theorem xa_6 (t : Nat → ClassId) (ad : Nat → Nat) : sr_ia (xcf t ad) (xty t) 62 6 300 .int := ⟨by decide, t 6, 4, fun _ _ _ => rfl, rfl⟩
theorem xa_7 (t : Nat → ClassId) (ad : Nat → Nat) : sr_ia (xcf t ad) (xty t) 62 7 300 .int := ⟨by decide, t 7, 5, fun _ _ _ => rfl, rfl⟩
theorem xa_8 (t : Nat → ClassId) (ad : Nat → Nat) : sr_ia (xcf t ad) (xty t) 62 8 300 .int := ⟨by decide, t 8, 6, fun _ _ _ => rfl, rfl⟩
theorem xa_9 (t : Nat → ClassId) (ad : Nat → Nat) : sr_ia (xcf t ad) (xty t) 62 9 121 .int := ⟨by decide, t 9, 7, fun _ _ _ => rfl, rfl⟩
theorem xa_10 (t : Nat → ClassId) (ad : Nat → Nat) : sr_ia (xcf t ad) (xty t) 62 10 600 .int := ⟨by decide, t 10, 8, fun _ _ _ => rfl, rfl⟩
theorem xq_11 (t : Nat → ClassId) (ad : Nat → Nat) : sr_qa (xcf t ad) (xty t) 62 11 6 "SeepingRock$Core" (fun i => if i < 6 then some (ad (12 + 3 * i)) else none) := ⟨by decide, t 11, 9, fun _ _ _ => rfl, rfl⟩
theorem xo_12 (t : Nat → ClassId) (ad : Nat → Nat) : sr_ob vwCl (xcf t ad) 62 12 RX0 := ⟨by decide, 0, (RX0, TX0, 5), fun R => [.int (R 0), .int (R 1), .int (R 2), .ref (ad 13), .ref (ad 14)], rfl, rfl, fun _ _ _ => rfl⟩
theorem xf_12_0 (t : Nat → ClassId) (ad : Nat → Nat) : sr_fi vwCl (xcf t ad) 62 12 RX0 TX0 5 0 := ⟨by decide, by decide, rfl, 0, fun R => [.int (R 0), .int (R 1), .int (R 2), .ref (ad 13), .ref (ad 14)], rfl, fun _ _ _ => rfl, fun _ => rfl, fun _ _ => rfl⟩
theorem xf_12_1 (t : Nat → ClassId) (ad : Nat → Nat) : sr_fi vwCl (xcf t ad) 62 12 RX0 TX0 5 1 := ⟨by decide, by decide, rfl, 0, fun R => [.int (R 0), .int (R 1), .int (R 2), .ref (ad 13), .ref (ad 14)], rfl, fun _ _ _ => rfl, fun _ => rfl, fun _ _ => rfl⟩
theorem xf_12_2 (t : Nat → ClassId) (ad : Nat → Nat) : sr_fi vwCl (xcf t ad) 62 12 RX0 TX0 5 2 := ⟨by decide, by decide, rfl, 0, fun R => [.int (R 0), .int (R 1), .int (R 2), .ref (ad 13), .ref (ad 14)], rfl, fun _ _ _ => rfl, fun _ => rfl, fun _ _ => rfl⟩
theorem xf_12_3 (t : Nat → ClassId) (ad : Nat → Nat) : sr_fr vwCl (xcf t ad) 62 12 RX0 TX0 5 3 (ad 13) := ⟨by decide, by decide, rfl, 0, fun R => [.int (R 0), .int (R 1), .int (R 2), .ref (ad 13), .ref (ad 14)], rfl, fun _ _ _ => rfl, fun _ => rfl⟩
theorem xf_12_4 (t : Nat → ClassId) (ad : Nat → Nat) : sr_fr vwCl (xcf t ad) 62 12 RX0 TX0 5 4 (ad 14) := ⟨by decide, by decide, rfl, 0, fun R => [.int (R 0), .int (R 1), .int (R 2), .ref (ad 13), .ref (ad 14)], rfl, fun _ _ _ => rfl, fun _ => rfl⟩
theorem xa_13 (t : Nat → ClassId) (ad : Nat → Nat) : sr_ja (xcf t ad) (xty t) 62 13 60 := ⟨by decide, t 13, 10, fun _ _ _ => rfl, rfl⟩
theorem xa_14 (t : Nat → ClassId) (ad : Nat → Nat) : sr_ia (xcf t ad) (xty t) 62 14 60 .byte := ⟨by decide, t 14, 11, fun _ _ _ => rfl, rfl⟩
theorem xo_15 (t : Nat → ClassId) (ad : Nat → Nat) : sr_ob vwCl (xcf t ad) 62 15 RX0 := ⟨by decide, 0, (RX0, TX0, 5), fun R => [.int (R 0), .int (R 1), .int (R 2), .ref (ad 16), .ref (ad 17)], rfl, rfl, fun _ _ _ => rfl⟩
theorem xf_15_0 (t : Nat → ClassId) (ad : Nat → Nat) : sr_fi vwCl (xcf t ad) 62 15 RX0 TX0 5 0 := ⟨by decide, by decide, rfl, 0, fun R => [.int (R 0), .int (R 1), .int (R 2), .ref (ad 16), .ref (ad 17)], rfl, fun _ _ _ => rfl, fun _ => rfl, fun _ _ => rfl⟩
theorem xf_15_1 (t : Nat → ClassId) (ad : Nat → Nat) : sr_fi vwCl (xcf t ad) 62 15 RX0 TX0 5 1 := ⟨by decide, by decide, rfl, 0, fun R => [.int (R 0), .int (R 1), .int (R 2), .ref (ad 16), .ref (ad 17)], rfl, fun _ _ _ => rfl, fun _ => rfl, fun _ _ => rfl⟩
theorem xf_15_2 (t : Nat → ClassId) (ad : Nat → Nat) : sr_fi vwCl (xcf t ad) 62 15 RX0 TX0 5 2 := ⟨by decide, by decide, rfl, 0, fun R => [.int (R 0), .int (R 1), .int (R 2), .ref (ad 16), .ref (ad 17)], rfl, fun _ _ _ => rfl, fun _ => rfl, fun _ _ => rfl⟩
theorem xf_15_3 (t : Nat → ClassId) (ad : Nat → Nat) : sr_fr vwCl (xcf t ad) 62 15 RX0 TX0 5 3 (ad 16) := ⟨by decide, by decide, rfl, 0, fun R => [.int (R 0), .int (R 1), .int (R 2), .ref (ad 16), .ref (ad 17)], rfl, fun _ _ _ => rfl, fun _ => rfl⟩
theorem xf_15_4 (t : Nat → ClassId) (ad : Nat → Nat) : sr_fr vwCl (xcf t ad) 62 15 RX0 TX0 5 4 (ad 17) := ⟨by decide, by decide, rfl, 0, fun R => [.int (R 0), .int (R 1), .int (R 2), .ref (ad 16), .ref (ad 17)], rfl, fun _ _ _ => rfl, fun _ => rfl⟩
theorem xa_16 (t : Nat → ClassId) (ad : Nat → Nat) : sr_ja (xcf t ad) (xty t) 62 16 60 := ⟨by decide, t 16, 12, fun _ _ _ => rfl, rfl⟩
theorem xa_17 (t : Nat → ClassId) (ad : Nat → Nat) : sr_ia (xcf t ad) (xty t) 62 17 60 .byte := ⟨by decide, t 17, 13, fun _ _ _ => rfl, rfl⟩
theorem xo_18 (t : Nat → ClassId) (ad : Nat → Nat) : sr_ob vwCl (xcf t ad) 62 18 RX0 := ⟨by decide, 0, (RX0, TX0, 5), fun R => [.int (R 0), .int (R 1), .int (R 2), .ref (ad 19), .ref (ad 20)], rfl, rfl, fun _ _ _ => rfl⟩
theorem xf_18_0 (t : Nat → ClassId) (ad : Nat → Nat) : sr_fi vwCl (xcf t ad) 62 18 RX0 TX0 5 0 := ⟨by decide, by decide, rfl, 0, fun R => [.int (R 0), .int (R 1), .int (R 2), .ref (ad 19), .ref (ad 20)], rfl, fun _ _ _ => rfl, fun _ => rfl, fun _ _ => rfl⟩
theorem xf_18_1 (t : Nat → ClassId) (ad : Nat → Nat) : sr_fi vwCl (xcf t ad) 62 18 RX0 TX0 5 1 := ⟨by decide, by decide, rfl, 0, fun R => [.int (R 0), .int (R 1), .int (R 2), .ref (ad 19), .ref (ad 20)], rfl, fun _ _ _ => rfl, fun _ => rfl, fun _ _ => rfl⟩
theorem xf_18_2 (t : Nat → ClassId) (ad : Nat → Nat) : sr_fi vwCl (xcf t ad) 62 18 RX0 TX0 5 2 := ⟨by decide, by decide, rfl, 0, fun R => [.int (R 0), .int (R 1), .int (R 2), .ref (ad 19), .ref (ad 20)], rfl, fun _ _ _ => rfl, fun _ => rfl, fun _ _ => rfl⟩
theorem xf_18_3 (t : Nat → ClassId) (ad : Nat → Nat) : sr_fr vwCl (xcf t ad) 62 18 RX0 TX0 5 3 (ad 19) := ⟨by decide, by decide, rfl, 0, fun R => [.int (R 0), .int (R 1), .int (R 2), .ref (ad 19), .ref (ad 20)], rfl, fun _ _ _ => rfl, fun _ => rfl⟩
theorem xf_18_4 (t : Nat → ClassId) (ad : Nat → Nat) : sr_fr vwCl (xcf t ad) 62 18 RX0 TX0 5 4 (ad 20) := ⟨by decide, by decide, rfl, 0, fun R => [.int (R 0), .int (R 1), .int (R 2), .ref (ad 19), .ref (ad 20)], rfl, fun _ _ _ => rfl, fun _ => rfl⟩
theorem xa_19 (t : Nat → ClassId) (ad : Nat → Nat) : sr_ja (xcf t ad) (xty t) 62 19 60 := ⟨by decide, t 19, 14, fun _ _ _ => rfl, rfl⟩
theorem xa_20 (t : Nat → ClassId) (ad : Nat → Nat) : sr_ia (xcf t ad) (xty t) 62 20 60 .byte := ⟨by decide, t 20, 15, fun _ _ _ => rfl, rfl⟩
theorem xo_21 (t : Nat → ClassId) (ad : Nat → Nat) : sr_ob vwCl (xcf t ad) 62 21 RX0 := ⟨by decide, 0, (RX0, TX0, 5), fun R => [.int (R 0), .int (R 1), .int (R 2), .ref (ad 22), .ref (ad 23)], rfl, rfl, fun _ _ _ => rfl⟩
theorem xf_21_0 (t : Nat → ClassId) (ad : Nat → Nat) : sr_fi vwCl (xcf t ad) 62 21 RX0 TX0 5 0 := ⟨by decide, by decide, rfl, 0, fun R => [.int (R 0), .int (R 1), .int (R 2), .ref (ad 22), .ref (ad 23)], rfl, fun _ _ _ => rfl, fun _ => rfl, fun _ _ => rfl⟩
theorem xf_21_1 (t : Nat → ClassId) (ad : Nat → Nat) : sr_fi vwCl (xcf t ad) 62 21 RX0 TX0 5 1 := ⟨by decide, by decide, rfl, 0, fun R => [.int (R 0), .int (R 1), .int (R 2), .ref (ad 22), .ref (ad 23)], rfl, fun _ _ _ => rfl, fun _ => rfl, fun _ _ => rfl⟩
theorem xf_21_2 (t : Nat → ClassId) (ad : Nat → Nat) : sr_fi vwCl (xcf t ad) 62 21 RX0 TX0 5 2 := ⟨by decide, by decide, rfl, 0, fun R => [.int (R 0), .int (R 1), .int (R 2), .ref (ad 22), .ref (ad 23)], rfl, fun _ _ _ => rfl, fun _ => rfl, fun _ _ => rfl⟩
theorem xf_21_3 (t : Nat → ClassId) (ad : Nat → Nat) : sr_fr vwCl (xcf t ad) 62 21 RX0 TX0 5 3 (ad 22) := ⟨by decide, by decide, rfl, 0, fun R => [.int (R 0), .int (R 1), .int (R 2), .ref (ad 22), .ref (ad 23)], rfl, fun _ _ _ => rfl, fun _ => rfl⟩
theorem xf_21_4 (t : Nat → ClassId) (ad : Nat → Nat) : sr_fr vwCl (xcf t ad) 62 21 RX0 TX0 5 4 (ad 23) := ⟨by decide, by decide, rfl, 0, fun R => [.int (R 0), .int (R 1), .int (R 2), .ref (ad 22), .ref (ad 23)], rfl, fun _ _ _ => rfl, fun _ => rfl⟩
theorem xa_22 (t : Nat → ClassId) (ad : Nat → Nat) : sr_ja (xcf t ad) (xty t) 62 22 60 := ⟨by decide, t 22, 16, fun _ _ _ => rfl, rfl⟩
theorem xa_23 (t : Nat → ClassId) (ad : Nat → Nat) : sr_ia (xcf t ad) (xty t) 62 23 60 .byte := ⟨by decide, t 23, 17, fun _ _ _ => rfl, rfl⟩
theorem xo_24 (t : Nat → ClassId) (ad : Nat → Nat) : sr_ob vwCl (xcf t ad) 62 24 RX0 := ⟨by decide, 0, (RX0, TX0, 5), fun R => [.int (R 0), .int (R 1), .int (R 2), .ref (ad 25), .ref (ad 26)], rfl, rfl, fun _ _ _ => rfl⟩
theorem xf_24_0 (t : Nat → ClassId) (ad : Nat → Nat) : sr_fi vwCl (xcf t ad) 62 24 RX0 TX0 5 0 := ⟨by decide, by decide, rfl, 0, fun R => [.int (R 0), .int (R 1), .int (R 2), .ref (ad 25), .ref (ad 26)], rfl, fun _ _ _ => rfl, fun _ => rfl, fun _ _ => rfl⟩
theorem xf_24_1 (t : Nat → ClassId) (ad : Nat → Nat) : sr_fi vwCl (xcf t ad) 62 24 RX0 TX0 5 1 := ⟨by decide, by decide, rfl, 0, fun R => [.int (R 0), .int (R 1), .int (R 2), .ref (ad 25), .ref (ad 26)], rfl, fun _ _ _ => rfl, fun _ => rfl, fun _ _ => rfl⟩
theorem xf_24_2 (t : Nat → ClassId) (ad : Nat → Nat) : sr_fi vwCl (xcf t ad) 62 24 RX0 TX0 5 2 := ⟨by decide, by decide, rfl, 0, fun R => [.int (R 0), .int (R 1), .int (R 2), .ref (ad 25), .ref (ad 26)], rfl, fun _ _ _ => rfl, fun _ => rfl, fun _ _ => rfl⟩
theorem xf_24_3 (t : Nat → ClassId) (ad : Nat → Nat) : sr_fr vwCl (xcf t ad) 62 24 RX0 TX0 5 3 (ad 25) := ⟨by decide, by decide, rfl, 0, fun R => [.int (R 0), .int (R 1), .int (R 2), .ref (ad 25), .ref (ad 26)], rfl, fun _ _ _ => rfl, fun _ => rfl⟩
theorem xf_24_4 (t : Nat → ClassId) (ad : Nat → Nat) : sr_fr vwCl (xcf t ad) 62 24 RX0 TX0 5 4 (ad 26) := ⟨by decide, by decide, rfl, 0, fun R => [.int (R 0), .int (R 1), .int (R 2), .ref (ad 25), .ref (ad 26)], rfl, fun _ _ _ => rfl, fun _ => rfl⟩
theorem xa_25 (t : Nat → ClassId) (ad : Nat → Nat) : sr_ja (xcf t ad) (xty t) 62 25 60 := ⟨by decide, t 25, 18, fun _ _ _ => rfl, rfl⟩
theorem xa_26 (t : Nat → ClassId) (ad : Nat → Nat) : sr_ia (xcf t ad) (xty t) 62 26 60 .byte := ⟨by decide, t 26, 19, fun _ _ _ => rfl, rfl⟩
theorem xo_27 (t : Nat → ClassId) (ad : Nat → Nat) : sr_ob vwCl (xcf t ad) 62 27 RX0 := ⟨by decide, 0, (RX0, TX0, 5), fun R => [.int (R 0), .int (R 1), .int (R 2), .ref (ad 28), .ref (ad 29)], rfl, rfl, fun _ _ _ => rfl⟩
theorem xf_27_0 (t : Nat → ClassId) (ad : Nat → Nat) : sr_fi vwCl (xcf t ad) 62 27 RX0 TX0 5 0 := ⟨by decide, by decide, rfl, 0, fun R => [.int (R 0), .int (R 1), .int (R 2), .ref (ad 28), .ref (ad 29)], rfl, fun _ _ _ => rfl, fun _ => rfl, fun _ _ => rfl⟩
theorem xf_27_1 (t : Nat → ClassId) (ad : Nat → Nat) : sr_fi vwCl (xcf t ad) 62 27 RX0 TX0 5 1 := ⟨by decide, by decide, rfl, 0, fun R => [.int (R 0), .int (R 1), .int (R 2), .ref (ad 28), .ref (ad 29)], rfl, fun _ _ _ => rfl, fun _ => rfl, fun _ _ => rfl⟩
theorem xf_27_2 (t : Nat → ClassId) (ad : Nat → Nat) : sr_fi vwCl (xcf t ad) 62 27 RX0 TX0 5 2 := ⟨by decide, by decide, rfl, 0, fun R => [.int (R 0), .int (R 1), .int (R 2), .ref (ad 28), .ref (ad 29)], rfl, fun _ _ _ => rfl, fun _ => rfl, fun _ _ => rfl⟩
theorem xf_27_3 (t : Nat → ClassId) (ad : Nat → Nat) : sr_fr vwCl (xcf t ad) 62 27 RX0 TX0 5 3 (ad 28) := ⟨by decide, by decide, rfl, 0, fun R => [.int (R 0), .int (R 1), .int (R 2), .ref (ad 28), .ref (ad 29)], rfl, fun _ _ _ => rfl, fun _ => rfl⟩
theorem xf_27_4 (t : Nat → ClassId) (ad : Nat → Nat) : sr_fr vwCl (xcf t ad) 62 27 RX0 TX0 5 4 (ad 29) := ⟨by decide, by decide, rfl, 0, fun R => [.int (R 0), .int (R 1), .int (R 2), .ref (ad 28), .ref (ad 29)], rfl, fun _ _ _ => rfl, fun _ => rfl⟩
theorem xa_28 (t : Nat → ClassId) (ad : Nat → Nat) : sr_ja (xcf t ad) (xty t) 62 28 60 := ⟨by decide, t 28, 20, fun _ _ _ => rfl, rfl⟩
theorem xa_29 (t : Nat → ClassId) (ad : Nat → Nat) : sr_ia (xcf t ad) (xty t) 62 29 60 .byte := ⟨by decide, t 29, 21, fun _ _ _ => rfl, rfl⟩
theorem xo_30 (t : Nat → ClassId) (ad : Nat → Nat) : sr_ob vwCl (xcf t ad) 62 30 RX1 := ⟨by decide, 1, (RX1, TX1, 16), fun R => [.ref (ad 1), .int (R 1), .int (R 2), .ref (ad 31), .ref (ad 32), .ref (ad 33), .ref (ad 34), .ref (ad 35), .ref (ad 36), .int (R 9), .ref (ad 37), .ref (ad 38), .ref (ad 39), .ref (ad 40), .ref (ad 41), .ref (ad 42)], rfl, rfl, fun _ _ _ => rfl⟩
theorem xf_30_0 (t : Nat → ClassId) (ad : Nat → Nat) : sr_fr vwCl (xcf t ad) 62 30 RX1 TX1 16 0 (ad 1) := ⟨by decide, by decide, rfl, 1, fun R => [.ref (ad 1), .int (R 1), .int (R 2), .ref (ad 31), .ref (ad 32), .ref (ad 33), .ref (ad 34), .ref (ad 35), .ref (ad 36), .int (R 9), .ref (ad 37), .ref (ad 38), .ref (ad 39), .ref (ad 40), .ref (ad 41), .ref (ad 42)], rfl, fun _ _ _ => rfl, fun _ => rfl⟩
theorem xf_30_1 (t : Nat → ClassId) (ad : Nat → Nat) : sr_fi vwCl (xcf t ad) 62 30 RX1 TX1 16 1 := ⟨by decide, by decide, rfl, 1, fun R => [.ref (ad 1), .int (R 1), .int (R 2), .ref (ad 31), .ref (ad 32), .ref (ad 33), .ref (ad 34), .ref (ad 35), .ref (ad 36), .int (R 9), .ref (ad 37), .ref (ad 38), .ref (ad 39), .ref (ad 40), .ref (ad 41), .ref (ad 42)], rfl, fun _ _ _ => rfl, fun _ => rfl, fun _ _ => rfl⟩
theorem xf_30_2 (t : Nat → ClassId) (ad : Nat → Nat) : sr_fi vwCl (xcf t ad) 62 30 RX1 TX1 16 2 := ⟨by decide, by decide, rfl, 1, fun R => [.ref (ad 1), .int (R 1), .int (R 2), .ref (ad 31), .ref (ad 32), .ref (ad 33), .ref (ad 34), .ref (ad 35), .ref (ad 36), .int (R 9), .ref (ad 37), .ref (ad 38), .ref (ad 39), .ref (ad 40), .ref (ad 41), .ref (ad 42)], rfl, fun _ _ _ => rfl, fun _ => rfl, fun _ _ => rfl⟩
theorem xf_30_3 (t : Nat → ClassId) (ad : Nat → Nat) : sr_fr vwCl (xcf t ad) 62 30 RX1 TX1 16 3 (ad 31) := ⟨by decide, by decide, rfl, 1, fun R => [.ref (ad 1), .int (R 1), .int (R 2), .ref (ad 31), .ref (ad 32), .ref (ad 33), .ref (ad 34), .ref (ad 35), .ref (ad 36), .int (R 9), .ref (ad 37), .ref (ad 38), .ref (ad 39), .ref (ad 40), .ref (ad 41), .ref (ad 42)], rfl, fun _ _ _ => rfl, fun _ => rfl⟩
theorem xf_30_4 (t : Nat → ClassId) (ad : Nat → Nat) : sr_fr vwCl (xcf t ad) 62 30 RX1 TX1 16 4 (ad 32) := ⟨by decide, by decide, rfl, 1, fun R => [.ref (ad 1), .int (R 1), .int (R 2), .ref (ad 31), .ref (ad 32), .ref (ad 33), .ref (ad 34), .ref (ad 35), .ref (ad 36), .int (R 9), .ref (ad 37), .ref (ad 38), .ref (ad 39), .ref (ad 40), .ref (ad 41), .ref (ad 42)], rfl, fun _ _ _ => rfl, fun _ => rfl⟩
theorem xf_30_5 (t : Nat → ClassId) (ad : Nat → Nat) : sr_fr vwCl (xcf t ad) 62 30 RX1 TX1 16 5 (ad 33) := ⟨by decide, by decide, rfl, 1, fun R => [.ref (ad 1), .int (R 1), .int (R 2), .ref (ad 31), .ref (ad 32), .ref (ad 33), .ref (ad 34), .ref (ad 35), .ref (ad 36), .int (R 9), .ref (ad 37), .ref (ad 38), .ref (ad 39), .ref (ad 40), .ref (ad 41), .ref (ad 42)], rfl, fun _ _ _ => rfl, fun _ => rfl⟩
theorem xf_30_6 (t : Nat → ClassId) (ad : Nat → Nat) : sr_fr vwCl (xcf t ad) 62 30 RX1 TX1 16 6 (ad 34) := ⟨by decide, by decide, rfl, 1, fun R => [.ref (ad 1), .int (R 1), .int (R 2), .ref (ad 31), .ref (ad 32), .ref (ad 33), .ref (ad 34), .ref (ad 35), .ref (ad 36), .int (R 9), .ref (ad 37), .ref (ad 38), .ref (ad 39), .ref (ad 40), .ref (ad 41), .ref (ad 42)], rfl, fun _ _ _ => rfl, fun _ => rfl⟩
theorem xf_30_7 (t : Nat → ClassId) (ad : Nat → Nat) : sr_fr vwCl (xcf t ad) 62 30 RX1 TX1 16 7 (ad 35) := ⟨by decide, by decide, rfl, 1, fun R => [.ref (ad 1), .int (R 1), .int (R 2), .ref (ad 31), .ref (ad 32), .ref (ad 33), .ref (ad 34), .ref (ad 35), .ref (ad 36), .int (R 9), .ref (ad 37), .ref (ad 38), .ref (ad 39), .ref (ad 40), .ref (ad 41), .ref (ad 42)], rfl, fun _ _ _ => rfl, fun _ => rfl⟩
theorem xf_30_8 (t : Nat → ClassId) (ad : Nat → Nat) : sr_fr vwCl (xcf t ad) 62 30 RX1 TX1 16 8 (ad 36) := ⟨by decide, by decide, rfl, 1, fun R => [.ref (ad 1), .int (R 1), .int (R 2), .ref (ad 31), .ref (ad 32), .ref (ad 33), .ref (ad 34), .ref (ad 35), .ref (ad 36), .int (R 9), .ref (ad 37), .ref (ad 38), .ref (ad 39), .ref (ad 40), .ref (ad 41), .ref (ad 42)], rfl, fun _ _ _ => rfl, fun _ => rfl⟩
theorem xf_30_9 (t : Nat → ClassId) (ad : Nat → Nat) : sr_fi vwCl (xcf t ad) 62 30 RX1 TX1 16 9 := ⟨by decide, by decide, rfl, 1, fun R => [.ref (ad 1), .int (R 1), .int (R 2), .ref (ad 31), .ref (ad 32), .ref (ad 33), .ref (ad 34), .ref (ad 35), .ref (ad 36), .int (R 9), .ref (ad 37), .ref (ad 38), .ref (ad 39), .ref (ad 40), .ref (ad 41), .ref (ad 42)], rfl, fun _ _ _ => rfl, fun _ => rfl, fun _ _ => rfl⟩
theorem xf_30_10 (t : Nat → ClassId) (ad : Nat → Nat) : sr_fr vwCl (xcf t ad) 62 30 RX1 TX1 16 10 (ad 37) := ⟨by decide, by decide, rfl, 1, fun R => [.ref (ad 1), .int (R 1), .int (R 2), .ref (ad 31), .ref (ad 32), .ref (ad 33), .ref (ad 34), .ref (ad 35), .ref (ad 36), .int (R 9), .ref (ad 37), .ref (ad 38), .ref (ad 39), .ref (ad 40), .ref (ad 41), .ref (ad 42)], rfl, fun _ _ _ => rfl, fun _ => rfl⟩
theorem xf_30_11 (t : Nat → ClassId) (ad : Nat → Nat) : sr_fr vwCl (xcf t ad) 62 30 RX1 TX1 16 11 (ad 38) := ⟨by decide, by decide, rfl, 1, fun R => [.ref (ad 1), .int (R 1), .int (R 2), .ref (ad 31), .ref (ad 32), .ref (ad 33), .ref (ad 34), .ref (ad 35), .ref (ad 36), .int (R 9), .ref (ad 37), .ref (ad 38), .ref (ad 39), .ref (ad 40), .ref (ad 41), .ref (ad 42)], rfl, fun _ _ _ => rfl, fun _ => rfl⟩
theorem xf_30_12 (t : Nat → ClassId) (ad : Nat → Nat) : sr_fr vwCl (xcf t ad) 62 30 RX1 TX1 16 12 (ad 39) := ⟨by decide, by decide, rfl, 1, fun R => [.ref (ad 1), .int (R 1), .int (R 2), .ref (ad 31), .ref (ad 32), .ref (ad 33), .ref (ad 34), .ref (ad 35), .ref (ad 36), .int (R 9), .ref (ad 37), .ref (ad 38), .ref (ad 39), .ref (ad 40), .ref (ad 41), .ref (ad 42)], rfl, fun _ _ _ => rfl, fun _ => rfl⟩
theorem xf_30_13 (t : Nat → ClassId) (ad : Nat → Nat) : sr_fr vwCl (xcf t ad) 62 30 RX1 TX1 16 13 (ad 40) := ⟨by decide, by decide, rfl, 1, fun R => [.ref (ad 1), .int (R 1), .int (R 2), .ref (ad 31), .ref (ad 32), .ref (ad 33), .ref (ad 34), .ref (ad 35), .ref (ad 36), .int (R 9), .ref (ad 37), .ref (ad 38), .ref (ad 39), .ref (ad 40), .ref (ad 41), .ref (ad 42)], rfl, fun _ _ _ => rfl, fun _ => rfl⟩
theorem xf_30_14 (t : Nat → ClassId) (ad : Nat → Nat) : sr_fr vwCl (xcf t ad) 62 30 RX1 TX1 16 14 (ad 41) := ⟨by decide, by decide, rfl, 1, fun R => [.ref (ad 1), .int (R 1), .int (R 2), .ref (ad 31), .ref (ad 32), .ref (ad 33), .ref (ad 34), .ref (ad 35), .ref (ad 36), .int (R 9), .ref (ad 37), .ref (ad 38), .ref (ad 39), .ref (ad 40), .ref (ad 41), .ref (ad 42)], rfl, fun _ _ _ => rfl, fun _ => rfl⟩
theorem xf_30_15 (t : Nat → ClassId) (ad : Nat → Nat) : sr_fr vwCl (xcf t ad) 62 30 RX1 TX1 16 15 (ad 42) := ⟨by decide, by decide, rfl, 1, fun R => [.ref (ad 1), .int (R 1), .int (R 2), .ref (ad 31), .ref (ad 32), .ref (ad 33), .ref (ad 34), .ref (ad 35), .ref (ad 36), .int (R 9), .ref (ad 37), .ref (ad 38), .ref (ad 39), .ref (ad 40), .ref (ad 41), .ref (ad 42)], rfl, fun _ _ _ => rfl, fun _ => rfl⟩
theorem xa_31 (t : Nat → ClassId) (ad : Nat → Nat) : sr_ia (xcf t ad) (xty t) 62 31 121 .int := ⟨by decide, t 31, 22, fun _ _ _ => rfl, rfl⟩
theorem xa_32 (t : Nat → ClassId) (ad : Nat → Nat) : sr_ia (xcf t ad) (xty t) 62 32 121 .int := ⟨by decide, t 32, 23, fun _ _ _ => rfl, rfl⟩
theorem xa_33 (t : Nat → ClassId) (ad : Nat → Nat) : sr_ia (xcf t ad) (xty t) 62 33 120 .int := ⟨by decide, t 33, 24, fun _ _ _ => rfl, rfl⟩
theorem xa_34 (t : Nat → ClassId) (ad : Nat → Nat) : sr_ia (xcf t ad) (xty t) 62 34 120 .int := ⟨by decide, t 34, 25, fun _ _ _ => rfl, rfl⟩
theorem xa_35 (t : Nat → ClassId) (ad : Nat → Nat) : sr_ia (xcf t ad) (xty t) 62 35 120 .int := ⟨by decide, t 35, 26, fun _ _ _ => rfl, rfl⟩
theorem xa_36 (t : Nat → ClassId) (ad : Nat → Nat) : sr_ia (xcf t ad) (xty t) 62 36 120 .int := ⟨by decide, t 36, 27, fun _ _ _ => rfl, rfl⟩
theorem xa_37 (t : Nat → ClassId) (ad : Nat → Nat) : sr_ia (xcf t ad) (xty t) 62 37 120 .int := ⟨by decide, t 37, 28, fun _ _ _ => rfl, rfl⟩
theorem xa_38 (t : Nat → ClassId) (ad : Nat → Nat) : sr_ia (xcf t ad) (xty t) 62 38 120 .int := ⟨by decide, t 38, 29, fun _ _ _ => rfl, rfl⟩
theorem xa_39 (t : Nat → ClassId) (ad : Nat → Nat) : sr_ia (xcf t ad) (xty t) 62 39 120 .int := ⟨by decide, t 39, 30, fun _ _ _ => rfl, rfl⟩
theorem xa_40 (t : Nat → ClassId) (ad : Nat → Nat) : sr_ia (xcf t ad) (xty t) 62 40 120 .int := ⟨by decide, t 40, 31, fun _ _ _ => rfl, rfl⟩
theorem xa_41 (t : Nat → ClassId) (ad : Nat → Nat) : sr_ia (xcf t ad) (xty t) 62 41 120 .int := ⟨by decide, t 41, 32, fun _ _ _ => rfl, rfl⟩
theorem xa_42 (t : Nat → ClassId) (ad : Nat → Nat) : sr_ia (xcf t ad) (xty t) 62 42 120 .boolean := ⟨by decide, t 42, 33, fun _ _ _ => rfl, rfl⟩
theorem xo_43 (t : Nat → ClassId) (ad : Nat → Nat) : sr_ob vwCl (xcf t ad) 62 43 RX1 := ⟨by decide, 1, (RX1, TX1, 16), fun R => [.ref (ad 1), .int (R 1), .int (R 2), .ref (ad 44), .ref (ad 45), .ref (ad 46), .ref (ad 47), .ref (ad 48), .ref (ad 49), .int (R 9), .ref (ad 50), .ref (ad 51), .ref (ad 52), .ref (ad 53), .ref (ad 54), .ref (ad 55)], rfl, rfl, fun _ _ _ => rfl⟩
theorem xf_43_0 (t : Nat → ClassId) (ad : Nat → Nat) : sr_fr vwCl (xcf t ad) 62 43 RX1 TX1 16 0 (ad 1) := ⟨by decide, by decide, rfl, 1, fun R => [.ref (ad 1), .int (R 1), .int (R 2), .ref (ad 44), .ref (ad 45), .ref (ad 46), .ref (ad 47), .ref (ad 48), .ref (ad 49), .int (R 9), .ref (ad 50), .ref (ad 51), .ref (ad 52), .ref (ad 53), .ref (ad 54), .ref (ad 55)], rfl, fun _ _ _ => rfl, fun _ => rfl⟩
theorem xf_43_1 (t : Nat → ClassId) (ad : Nat → Nat) : sr_fi vwCl (xcf t ad) 62 43 RX1 TX1 16 1 := ⟨by decide, by decide, rfl, 1, fun R => [.ref (ad 1), .int (R 1), .int (R 2), .ref (ad 44), .ref (ad 45), .ref (ad 46), .ref (ad 47), .ref (ad 48), .ref (ad 49), .int (R 9), .ref (ad 50), .ref (ad 51), .ref (ad 52), .ref (ad 53), .ref (ad 54), .ref (ad 55)], rfl, fun _ _ _ => rfl, fun _ => rfl, fun _ _ => rfl⟩
theorem xf_43_2 (t : Nat → ClassId) (ad : Nat → Nat) : sr_fi vwCl (xcf t ad) 62 43 RX1 TX1 16 2 := ⟨by decide, by decide, rfl, 1, fun R => [.ref (ad 1), .int (R 1), .int (R 2), .ref (ad 44), .ref (ad 45), .ref (ad 46), .ref (ad 47), .ref (ad 48), .ref (ad 49), .int (R 9), .ref (ad 50), .ref (ad 51), .ref (ad 52), .ref (ad 53), .ref (ad 54), .ref (ad 55)], rfl, fun _ _ _ => rfl, fun _ => rfl, fun _ _ => rfl⟩
theorem xf_43_3 (t : Nat → ClassId) (ad : Nat → Nat) : sr_fr vwCl (xcf t ad) 62 43 RX1 TX1 16 3 (ad 44) := ⟨by decide, by decide, rfl, 1, fun R => [.ref (ad 1), .int (R 1), .int (R 2), .ref (ad 44), .ref (ad 45), .ref (ad 46), .ref (ad 47), .ref (ad 48), .ref (ad 49), .int (R 9), .ref (ad 50), .ref (ad 51), .ref (ad 52), .ref (ad 53), .ref (ad 54), .ref (ad 55)], rfl, fun _ _ _ => rfl, fun _ => rfl⟩
theorem xf_43_4 (t : Nat → ClassId) (ad : Nat → Nat) : sr_fr vwCl (xcf t ad) 62 43 RX1 TX1 16 4 (ad 45) := ⟨by decide, by decide, rfl, 1, fun R => [.ref (ad 1), .int (R 1), .int (R 2), .ref (ad 44), .ref (ad 45), .ref (ad 46), .ref (ad 47), .ref (ad 48), .ref (ad 49), .int (R 9), .ref (ad 50), .ref (ad 51), .ref (ad 52), .ref (ad 53), .ref (ad 54), .ref (ad 55)], rfl, fun _ _ _ => rfl, fun _ => rfl⟩
theorem xf_43_5 (t : Nat → ClassId) (ad : Nat → Nat) : sr_fr vwCl (xcf t ad) 62 43 RX1 TX1 16 5 (ad 46) := ⟨by decide, by decide, rfl, 1, fun R => [.ref (ad 1), .int (R 1), .int (R 2), .ref (ad 44), .ref (ad 45), .ref (ad 46), .ref (ad 47), .ref (ad 48), .ref (ad 49), .int (R 9), .ref (ad 50), .ref (ad 51), .ref (ad 52), .ref (ad 53), .ref (ad 54), .ref (ad 55)], rfl, fun _ _ _ => rfl, fun _ => rfl⟩
theorem xf_43_6 (t : Nat → ClassId) (ad : Nat → Nat) : sr_fr vwCl (xcf t ad) 62 43 RX1 TX1 16 6 (ad 47) := ⟨by decide, by decide, rfl, 1, fun R => [.ref (ad 1), .int (R 1), .int (R 2), .ref (ad 44), .ref (ad 45), .ref (ad 46), .ref (ad 47), .ref (ad 48), .ref (ad 49), .int (R 9), .ref (ad 50), .ref (ad 51), .ref (ad 52), .ref (ad 53), .ref (ad 54), .ref (ad 55)], rfl, fun _ _ _ => rfl, fun _ => rfl⟩
theorem xf_43_7 (t : Nat → ClassId) (ad : Nat → Nat) : sr_fr vwCl (xcf t ad) 62 43 RX1 TX1 16 7 (ad 48) := ⟨by decide, by decide, rfl, 1, fun R => [.ref (ad 1), .int (R 1), .int (R 2), .ref (ad 44), .ref (ad 45), .ref (ad 46), .ref (ad 47), .ref (ad 48), .ref (ad 49), .int (R 9), .ref (ad 50), .ref (ad 51), .ref (ad 52), .ref (ad 53), .ref (ad 54), .ref (ad 55)], rfl, fun _ _ _ => rfl, fun _ => rfl⟩
theorem xf_43_8 (t : Nat → ClassId) (ad : Nat → Nat) : sr_fr vwCl (xcf t ad) 62 43 RX1 TX1 16 8 (ad 49) := ⟨by decide, by decide, rfl, 1, fun R => [.ref (ad 1), .int (R 1), .int (R 2), .ref (ad 44), .ref (ad 45), .ref (ad 46), .ref (ad 47), .ref (ad 48), .ref (ad 49), .int (R 9), .ref (ad 50), .ref (ad 51), .ref (ad 52), .ref (ad 53), .ref (ad 54), .ref (ad 55)], rfl, fun _ _ _ => rfl, fun _ => rfl⟩
theorem xf_43_9 (t : Nat → ClassId) (ad : Nat → Nat) : sr_fi vwCl (xcf t ad) 62 43 RX1 TX1 16 9 := ⟨by decide, by decide, rfl, 1, fun R => [.ref (ad 1), .int (R 1), .int (R 2), .ref (ad 44), .ref (ad 45), .ref (ad 46), .ref (ad 47), .ref (ad 48), .ref (ad 49), .int (R 9), .ref (ad 50), .ref (ad 51), .ref (ad 52), .ref (ad 53), .ref (ad 54), .ref (ad 55)], rfl, fun _ _ _ => rfl, fun _ => rfl, fun _ _ => rfl⟩
theorem xf_43_10 (t : Nat → ClassId) (ad : Nat → Nat) : sr_fr vwCl (xcf t ad) 62 43 RX1 TX1 16 10 (ad 50) := ⟨by decide, by decide, rfl, 1, fun R => [.ref (ad 1), .int (R 1), .int (R 2), .ref (ad 44), .ref (ad 45), .ref (ad 46), .ref (ad 47), .ref (ad 48), .ref (ad 49), .int (R 9), .ref (ad 50), .ref (ad 51), .ref (ad 52), .ref (ad 53), .ref (ad 54), .ref (ad 55)], rfl, fun _ _ _ => rfl, fun _ => rfl⟩
theorem xf_43_11 (t : Nat → ClassId) (ad : Nat → Nat) : sr_fr vwCl (xcf t ad) 62 43 RX1 TX1 16 11 (ad 51) := ⟨by decide, by decide, rfl, 1, fun R => [.ref (ad 1), .int (R 1), .int (R 2), .ref (ad 44), .ref (ad 45), .ref (ad 46), .ref (ad 47), .ref (ad 48), .ref (ad 49), .int (R 9), .ref (ad 50), .ref (ad 51), .ref (ad 52), .ref (ad 53), .ref (ad 54), .ref (ad 55)], rfl, fun _ _ _ => rfl, fun _ => rfl⟩
theorem xf_43_12 (t : Nat → ClassId) (ad : Nat → Nat) : sr_fr vwCl (xcf t ad) 62 43 RX1 TX1 16 12 (ad 52) := ⟨by decide, by decide, rfl, 1, fun R => [.ref (ad 1), .int (R 1), .int (R 2), .ref (ad 44), .ref (ad 45), .ref (ad 46), .ref (ad 47), .ref (ad 48), .ref (ad 49), .int (R 9), .ref (ad 50), .ref (ad 51), .ref (ad 52), .ref (ad 53), .ref (ad 54), .ref (ad 55)], rfl, fun _ _ _ => rfl, fun _ => rfl⟩
theorem xf_43_13 (t : Nat → ClassId) (ad : Nat → Nat) : sr_fr vwCl (xcf t ad) 62 43 RX1 TX1 16 13 (ad 53) := ⟨by decide, by decide, rfl, 1, fun R => [.ref (ad 1), .int (R 1), .int (R 2), .ref (ad 44), .ref (ad 45), .ref (ad 46), .ref (ad 47), .ref (ad 48), .ref (ad 49), .int (R 9), .ref (ad 50), .ref (ad 51), .ref (ad 52), .ref (ad 53), .ref (ad 54), .ref (ad 55)], rfl, fun _ _ _ => rfl, fun _ => rfl⟩
theorem xf_43_14 (t : Nat → ClassId) (ad : Nat → Nat) : sr_fr vwCl (xcf t ad) 62 43 RX1 TX1 16 14 (ad 54) := ⟨by decide, by decide, rfl, 1, fun R => [.ref (ad 1), .int (R 1), .int (R 2), .ref (ad 44), .ref (ad 45), .ref (ad 46), .ref (ad 47), .ref (ad 48), .ref (ad 49), .int (R 9), .ref (ad 50), .ref (ad 51), .ref (ad 52), .ref (ad 53), .ref (ad 54), .ref (ad 55)], rfl, fun _ _ _ => rfl, fun _ => rfl⟩
theorem xf_43_15 (t : Nat → ClassId) (ad : Nat → Nat) : sr_fr vwCl (xcf t ad) 62 43 RX1 TX1 16 15 (ad 55) := ⟨by decide, by decide, rfl, 1, fun R => [.ref (ad 1), .int (R 1), .int (R 2), .ref (ad 44), .ref (ad 45), .ref (ad 46), .ref (ad 47), .ref (ad 48), .ref (ad 49), .int (R 9), .ref (ad 50), .ref (ad 51), .ref (ad 52), .ref (ad 53), .ref (ad 54), .ref (ad 55)], rfl, fun _ _ _ => rfl, fun _ => rfl⟩
theorem xa_44 (t : Nat → ClassId) (ad : Nat → Nat) : sr_ia (xcf t ad) (xty t) 62 44 121 .int := ⟨by decide, t 44, 34, fun _ _ _ => rfl, rfl⟩
theorem xa_45 (t : Nat → ClassId) (ad : Nat → Nat) : sr_ia (xcf t ad) (xty t) 62 45 121 .int := ⟨by decide, t 45, 35, fun _ _ _ => rfl, rfl⟩
theorem xa_46 (t : Nat → ClassId) (ad : Nat → Nat) : sr_ia (xcf t ad) (xty t) 62 46 120 .int := ⟨by decide, t 46, 36, fun _ _ _ => rfl, rfl⟩
theorem xa_47 (t : Nat → ClassId) (ad : Nat → Nat) : sr_ia (xcf t ad) (xty t) 62 47 120 .int := ⟨by decide, t 47, 37, fun _ _ _ => rfl, rfl⟩
theorem xa_48 (t : Nat → ClassId) (ad : Nat → Nat) : sr_ia (xcf t ad) (xty t) 62 48 120 .int := ⟨by decide, t 48, 38, fun _ _ _ => rfl, rfl⟩
theorem xa_49 (t : Nat → ClassId) (ad : Nat → Nat) : sr_ia (xcf t ad) (xty t) 62 49 120 .int := ⟨by decide, t 49, 39, fun _ _ _ => rfl, rfl⟩
theorem xa_50 (t : Nat → ClassId) (ad : Nat → Nat) : sr_ia (xcf t ad) (xty t) 62 50 120 .int := ⟨by decide, t 50, 40, fun _ _ _ => rfl, rfl⟩
theorem xa_51 (t : Nat → ClassId) (ad : Nat → Nat) : sr_ia (xcf t ad) (xty t) 62 51 120 .int := ⟨by decide, t 51, 41, fun _ _ _ => rfl, rfl⟩
theorem xa_52 (t : Nat → ClassId) (ad : Nat → Nat) : sr_ia (xcf t ad) (xty t) 62 52 120 .int := ⟨by decide, t 52, 42, fun _ _ _ => rfl, rfl⟩
theorem xa_53 (t : Nat → ClassId) (ad : Nat → Nat) : sr_ia (xcf t ad) (xty t) 62 53 120 .int := ⟨by decide, t 53, 43, fun _ _ _ => rfl, rfl⟩
theorem xa_54 (t : Nat → ClassId) (ad : Nat → Nat) : sr_ia (xcf t ad) (xty t) 62 54 120 .int := ⟨by decide, t 54, 44, fun _ _ _ => rfl, rfl⟩
theorem xa_55 (t : Nat → ClassId) (ad : Nat → Nat) : sr_ia (xcf t ad) (xty t) 62 55 120 .boolean := ⟨by decide, t 55, 45, fun _ _ _ => rfl, rfl⟩
theorem xo_56 (t : Nat → ClassId) (ad : Nat → Nat) : sr_ob vwCl (xcf t ad) 62 56 RX3 := ⟨by decide, 3, (RX3, TX3, 5), fun R => [.ref (ad 1), .ref (ad 57), .ref (ad 58), .ref (ad 59), .ref (ad 60)], rfl, rfl, fun _ _ _ => rfl⟩
theorem xf_56_0 (t : Nat → ClassId) (ad : Nat → Nat) : sr_fr vwCl (xcf t ad) 62 56 RX3 TX3 5 0 (ad 1) := ⟨by decide, by decide, rfl, 3, fun R => [.ref (ad 1), .ref (ad 57), .ref (ad 58), .ref (ad 59), .ref (ad 60)], rfl, fun _ _ _ => rfl, fun _ => rfl⟩
theorem xf_56_1 (t : Nat → ClassId) (ad : Nat → Nat) : sr_fr vwCl (xcf t ad) 62 56 RX3 TX3 5 1 (ad 57) := ⟨by decide, by decide, rfl, 3, fun R => [.ref (ad 1), .ref (ad 57), .ref (ad 58), .ref (ad 59), .ref (ad 60)], rfl, fun _ _ _ => rfl, fun _ => rfl⟩
theorem xf_56_2 (t : Nat → ClassId) (ad : Nat → Nat) : sr_fr vwCl (xcf t ad) 62 56 RX3 TX3 5 2 (ad 58) := ⟨by decide, by decide, rfl, 3, fun R => [.ref (ad 1), .ref (ad 57), .ref (ad 58), .ref (ad 59), .ref (ad 60)], rfl, fun _ _ _ => rfl, fun _ => rfl⟩
theorem xf_56_3 (t : Nat → ClassId) (ad : Nat → Nat) : sr_fr vwCl (xcf t ad) 62 56 RX3 TX3 5 3 (ad 59) := ⟨by decide, by decide, rfl, 3, fun R => [.ref (ad 1), .ref (ad 57), .ref (ad 58), .ref (ad 59), .ref (ad 60)], rfl, fun _ _ _ => rfl, fun _ => rfl⟩
theorem xf_56_4 (t : Nat → ClassId) (ad : Nat → Nat) : sr_fr vwCl (xcf t ad) 62 56 RX3 TX3 5 4 (ad 60) := ⟨by decide, by decide, rfl, 3, fun R => [.ref (ad 1), .ref (ad 57), .ref (ad 58), .ref (ad 59), .ref (ad 60)], rfl, fun _ _ _ => rfl, fun _ => rfl⟩
theorem xa_57 (t : Nat → ClassId) (ad : Nat → Nat) : sr_ia (xcf t ad) (xty t) 62 57 120 .int := ⟨by decide, t 57, 46, fun _ _ _ => rfl, rfl⟩
theorem xa_58 (t : Nat → ClassId) (ad : Nat → Nat) : sr_ia (xcf t ad) (xty t) 62 58 120 .int := ⟨by decide, t 58, 47, fun _ _ _ => rfl, rfl⟩
theorem xa_59 (t : Nat → ClassId) (ad : Nat → Nat) : sr_ia (xcf t ad) (xty t) 62 59 120 .int := ⟨by decide, t 59, 48, fun _ _ _ => rfl, rfl⟩
theorem xa_60 (t : Nat → ClassId) (ad : Nat → Nat) : sr_ia (xcf t ad) (xty t) 62 60 120 .int := ⟨by decide, t 60, 49, fun _ _ _ => rfl, rfl⟩
theorem xa_61 (t : Nat → ClassId) (ad : Nat → Nat) : sr_ia (xcf t ad) (xty t) 62 61 200 .int := ⟨by decide, t 61, 50, fun _ _ _ => rfl, rfl⟩
def ycl (t : Nat → ClassId) (ad : Nat → Nat) (R : Nat → Int32) (L : Nat → Int64) (D : Nat → UInt64) : List va_E :=
  [.inr (5, [.int (R 0), .ref (ad 1), .ref (ad 2), .int (R 3), .ref (ad 3), .ref (ad 4), .ref (ad 5), .ref (ad 6), .int (R 8), .ref (ad 7), .ref (ad 8), .ref (ad 9), .ref (ad 10), .int (R 13), .int (R 14), .ref (ad 11), .ref (ad 12), .ref (ad 13), .ref (ad 14), .int (R 19), .ref (ad 15), .ref (ad 16), .ref (ad 17), .ref (ad 18), .ref (ad 19), .int (R 25), .ref (ad 20), .ref (ad 21), .ref (ad 22), .ref (ad 23), .ref (ad 24), .ref (ad 25), .int (R 32)]),
   .inl (t 1, 120, .inl R),
   .inl (t 2, 120, .inl R),
   .inl (t 3, 300, .inl R),
   .inl (t 4, 300, .inl R),
   .inl (t 5, 300, .inl R),
   .inl (t 6, 300, .inl R),
   .inl (t 7, 6, .inl R),
   .inl (t 8, 6, .inl R),
   .inl (t 9, 360, .inr (.inl L)),
   .inl (t 10, 360, .inr (.inr (.inr (.inl D)))),
   .inl (t 11, 121, .inl R),
   .inl (t 12, 120, .inl R),
   .inl (t 13, 120, .inl R),
   .inl (t 14, 120, .inl R),
   .inl (t 15, 200, .inl R),
   .inl (t 16, 60, .inr (.inl L)),
   .inl (t 17, 60, .inr (.inr (.inr (.inl D)))),
   .inl (t 18, 120, .inl R),
   .inl (t 19, 120, .inl R),
   .inl (t 20, 120, .inl R),
   .inl (t 21, 120, .inl R),
   .inl (t 22, 121, .inl R),
   .inl (t 23, 120, .inl R),
   .inl (t 24, 120, .inl R),
   .inl (t 25, 120, .inl R)]
def ycf (t : Nat → ClassId) (ad : Nat → Nat) : sr_CF := fun k R L D => (ycl t ad R L D).getD k (.inl (t 0, 0, .inl R))
def yty (t : Nat → ClassId) : List (ClassId × FieldType) :=
  [(t 1, .int), (t 2, .boolean), (t 3, .int), (t 4, .int), (t 5, .int), (t 6, .boolean), (t 7, .int), (t 8, .int), (t 9, .long), (t 10, .double), (t 11, .int), (t 12, .int), (t 13, .int), (t 14, .int), (t 15, .int), (t 16, .long), (t 17, .double), (t 18, .boolean), (t 19, .int), (t 20, .int), (t 21, .int), (t 22, .int), (t 23, .int), (t 24, .int), (t 25, .int)]
abbrev yH (D : va_G) (t : Nat → ClassId) (ad : Nat → Nat) (A : Nat → Prop) (s : State) (M : sr_M) (H : Heap) (locs : List Loc) : Prop := sr_H D vwCl (yty t) ad (ycf t ad) 26 A s M H locs
theorem yo_0 (t : Nat → ClassId) (ad : Nat → Nat) : sr_ob vwCl (ycf t ad) 26 0 RX5 := ⟨by decide, 5, (RX5, TX5, 33), fun R => [.int (R 0), .ref (ad 1), .ref (ad 2), .int (R 3), .ref (ad 3), .ref (ad 4), .ref (ad 5), .ref (ad 6), .int (R 8), .ref (ad 7), .ref (ad 8), .ref (ad 9), .ref (ad 10), .int (R 13), .int (R 14), .ref (ad 11), .ref (ad 12), .ref (ad 13), .ref (ad 14), .int (R 19), .ref (ad 15), .ref (ad 16), .ref (ad 17), .ref (ad 18), .ref (ad 19), .int (R 25), .ref (ad 20), .ref (ad 21), .ref (ad 22), .ref (ad 23), .ref (ad 24), .ref (ad 25), .int (R 32)], rfl, rfl, fun _ _ _ => rfl⟩
theorem yf_0_0 (t : Nat → ClassId) (ad : Nat → Nat) : sr_fi vwCl (ycf t ad) 26 0 RX5 TX5 33 0 := ⟨by decide, by decide, rfl, 5, fun R => [.int (R 0), .ref (ad 1), .ref (ad 2), .int (R 3), .ref (ad 3), .ref (ad 4), .ref (ad 5), .ref (ad 6), .int (R 8), .ref (ad 7), .ref (ad 8), .ref (ad 9), .ref (ad 10), .int (R 13), .int (R 14), .ref (ad 11), .ref (ad 12), .ref (ad 13), .ref (ad 14), .int (R 19), .ref (ad 15), .ref (ad 16), .ref (ad 17), .ref (ad 18), .ref (ad 19), .int (R 25), .ref (ad 20), .ref (ad 21), .ref (ad 22), .ref (ad 23), .ref (ad 24), .ref (ad 25), .int (R 32)], rfl, fun _ _ _ => rfl, fun _ => rfl, fun _ _ => rfl⟩
theorem yf_0_1 (t : Nat → ClassId) (ad : Nat → Nat) : sr_fr vwCl (ycf t ad) 26 0 RX5 TX5 33 1 (ad 1) := ⟨by decide, by decide, rfl, 5, fun R => [.int (R 0), .ref (ad 1), .ref (ad 2), .int (R 3), .ref (ad 3), .ref (ad 4), .ref (ad 5), .ref (ad 6), .int (R 8), .ref (ad 7), .ref (ad 8), .ref (ad 9), .ref (ad 10), .int (R 13), .int (R 14), .ref (ad 11), .ref (ad 12), .ref (ad 13), .ref (ad 14), .int (R 19), .ref (ad 15), .ref (ad 16), .ref (ad 17), .ref (ad 18), .ref (ad 19), .int (R 25), .ref (ad 20), .ref (ad 21), .ref (ad 22), .ref (ad 23), .ref (ad 24), .ref (ad 25), .int (R 32)], rfl, fun _ _ _ => rfl, fun _ => rfl⟩
theorem yf_0_2 (t : Nat → ClassId) (ad : Nat → Nat) : sr_fr vwCl (ycf t ad) 26 0 RX5 TX5 33 2 (ad 2) := ⟨by decide, by decide, rfl, 5, fun R => [.int (R 0), .ref (ad 1), .ref (ad 2), .int (R 3), .ref (ad 3), .ref (ad 4), .ref (ad 5), .ref (ad 6), .int (R 8), .ref (ad 7), .ref (ad 8), .ref (ad 9), .ref (ad 10), .int (R 13), .int (R 14), .ref (ad 11), .ref (ad 12), .ref (ad 13), .ref (ad 14), .int (R 19), .ref (ad 15), .ref (ad 16), .ref (ad 17), .ref (ad 18), .ref (ad 19), .int (R 25), .ref (ad 20), .ref (ad 21), .ref (ad 22), .ref (ad 23), .ref (ad 24), .ref (ad 25), .int (R 32)], rfl, fun _ _ _ => rfl, fun _ => rfl⟩
theorem yf_0_3 (t : Nat → ClassId) (ad : Nat → Nat) : sr_fi vwCl (ycf t ad) 26 0 RX5 TX5 33 3 := ⟨by decide, by decide, rfl, 5, fun R => [.int (R 0), .ref (ad 1), .ref (ad 2), .int (R 3), .ref (ad 3), .ref (ad 4), .ref (ad 5), .ref (ad 6), .int (R 8), .ref (ad 7), .ref (ad 8), .ref (ad 9), .ref (ad 10), .int (R 13), .int (R 14), .ref (ad 11), .ref (ad 12), .ref (ad 13), .ref (ad 14), .int (R 19), .ref (ad 15), .ref (ad 16), .ref (ad 17), .ref (ad 18), .ref (ad 19), .int (R 25), .ref (ad 20), .ref (ad 21), .ref (ad 22), .ref (ad 23), .ref (ad 24), .ref (ad 25), .int (R 32)], rfl, fun _ _ _ => rfl, fun _ => rfl, fun _ _ => rfl⟩
theorem yf_0_4 (t : Nat → ClassId) (ad : Nat → Nat) : sr_fr vwCl (ycf t ad) 26 0 RX5 TX5 33 4 (ad 3) := ⟨by decide, by decide, rfl, 5, fun R => [.int (R 0), .ref (ad 1), .ref (ad 2), .int (R 3), .ref (ad 3), .ref (ad 4), .ref (ad 5), .ref (ad 6), .int (R 8), .ref (ad 7), .ref (ad 8), .ref (ad 9), .ref (ad 10), .int (R 13), .int (R 14), .ref (ad 11), .ref (ad 12), .ref (ad 13), .ref (ad 14), .int (R 19), .ref (ad 15), .ref (ad 16), .ref (ad 17), .ref (ad 18), .ref (ad 19), .int (R 25), .ref (ad 20), .ref (ad 21), .ref (ad 22), .ref (ad 23), .ref (ad 24), .ref (ad 25), .int (R 32)], rfl, fun _ _ _ => rfl, fun _ => rfl⟩
theorem yf_0_5 (t : Nat → ClassId) (ad : Nat → Nat) : sr_fr vwCl (ycf t ad) 26 0 RX5 TX5 33 5 (ad 4) := ⟨by decide, by decide, rfl, 5, fun R => [.int (R 0), .ref (ad 1), .ref (ad 2), .int (R 3), .ref (ad 3), .ref (ad 4), .ref (ad 5), .ref (ad 6), .int (R 8), .ref (ad 7), .ref (ad 8), .ref (ad 9), .ref (ad 10), .int (R 13), .int (R 14), .ref (ad 11), .ref (ad 12), .ref (ad 13), .ref (ad 14), .int (R 19), .ref (ad 15), .ref (ad 16), .ref (ad 17), .ref (ad 18), .ref (ad 19), .int (R 25), .ref (ad 20), .ref (ad 21), .ref (ad 22), .ref (ad 23), .ref (ad 24), .ref (ad 25), .int (R 32)], rfl, fun _ _ _ => rfl, fun _ => rfl⟩
theorem yf_0_6 (t : Nat → ClassId) (ad : Nat → Nat) : sr_fr vwCl (ycf t ad) 26 0 RX5 TX5 33 6 (ad 5) := ⟨by decide, by decide, rfl, 5, fun R => [.int (R 0), .ref (ad 1), .ref (ad 2), .int (R 3), .ref (ad 3), .ref (ad 4), .ref (ad 5), .ref (ad 6), .int (R 8), .ref (ad 7), .ref (ad 8), .ref (ad 9), .ref (ad 10), .int (R 13), .int (R 14), .ref (ad 11), .ref (ad 12), .ref (ad 13), .ref (ad 14), .int (R 19), .ref (ad 15), .ref (ad 16), .ref (ad 17), .ref (ad 18), .ref (ad 19), .int (R 25), .ref (ad 20), .ref (ad 21), .ref (ad 22), .ref (ad 23), .ref (ad 24), .ref (ad 25), .int (R 32)], rfl, fun _ _ _ => rfl, fun _ => rfl⟩
theorem yf_0_7 (t : Nat → ClassId) (ad : Nat → Nat) : sr_fr vwCl (ycf t ad) 26 0 RX5 TX5 33 7 (ad 6) := ⟨by decide, by decide, rfl, 5, fun R => [.int (R 0), .ref (ad 1), .ref (ad 2), .int (R 3), .ref (ad 3), .ref (ad 4), .ref (ad 5), .ref (ad 6), .int (R 8), .ref (ad 7), .ref (ad 8), .ref (ad 9), .ref (ad 10), .int (R 13), .int (R 14), .ref (ad 11), .ref (ad 12), .ref (ad 13), .ref (ad 14), .int (R 19), .ref (ad 15), .ref (ad 16), .ref (ad 17), .ref (ad 18), .ref (ad 19), .int (R 25), .ref (ad 20), .ref (ad 21), .ref (ad 22), .ref (ad 23), .ref (ad 24), .ref (ad 25), .int (R 32)], rfl, fun _ _ _ => rfl, fun _ => rfl⟩
theorem yf_0_8 (t : Nat → ClassId) (ad : Nat → Nat) : sr_fi vwCl (ycf t ad) 26 0 RX5 TX5 33 8 := ⟨by decide, by decide, rfl, 5, fun R => [.int (R 0), .ref (ad 1), .ref (ad 2), .int (R 3), .ref (ad 3), .ref (ad 4), .ref (ad 5), .ref (ad 6), .int (R 8), .ref (ad 7), .ref (ad 8), .ref (ad 9), .ref (ad 10), .int (R 13), .int (R 14), .ref (ad 11), .ref (ad 12), .ref (ad 13), .ref (ad 14), .int (R 19), .ref (ad 15), .ref (ad 16), .ref (ad 17), .ref (ad 18), .ref (ad 19), .int (R 25), .ref (ad 20), .ref (ad 21), .ref (ad 22), .ref (ad 23), .ref (ad 24), .ref (ad 25), .int (R 32)], rfl, fun _ _ _ => rfl, fun _ => rfl, fun _ _ => rfl⟩
theorem yf_0_9 (t : Nat → ClassId) (ad : Nat → Nat) : sr_fr vwCl (ycf t ad) 26 0 RX5 TX5 33 9 (ad 7) := ⟨by decide, by decide, rfl, 5, fun R => [.int (R 0), .ref (ad 1), .ref (ad 2), .int (R 3), .ref (ad 3), .ref (ad 4), .ref (ad 5), .ref (ad 6), .int (R 8), .ref (ad 7), .ref (ad 8), .ref (ad 9), .ref (ad 10), .int (R 13), .int (R 14), .ref (ad 11), .ref (ad 12), .ref (ad 13), .ref (ad 14), .int (R 19), .ref (ad 15), .ref (ad 16), .ref (ad 17), .ref (ad 18), .ref (ad 19), .int (R 25), .ref (ad 20), .ref (ad 21), .ref (ad 22), .ref (ad 23), .ref (ad 24), .ref (ad 25), .int (R 32)], rfl, fun _ _ _ => rfl, fun _ => rfl⟩
theorem yf_0_10 (t : Nat → ClassId) (ad : Nat → Nat) : sr_fr vwCl (ycf t ad) 26 0 RX5 TX5 33 10 (ad 8) := ⟨by decide, by decide, rfl, 5, fun R => [.int (R 0), .ref (ad 1), .ref (ad 2), .int (R 3), .ref (ad 3), .ref (ad 4), .ref (ad 5), .ref (ad 6), .int (R 8), .ref (ad 7), .ref (ad 8), .ref (ad 9), .ref (ad 10), .int (R 13), .int (R 14), .ref (ad 11), .ref (ad 12), .ref (ad 13), .ref (ad 14), .int (R 19), .ref (ad 15), .ref (ad 16), .ref (ad 17), .ref (ad 18), .ref (ad 19), .int (R 25), .ref (ad 20), .ref (ad 21), .ref (ad 22), .ref (ad 23), .ref (ad 24), .ref (ad 25), .int (R 32)], rfl, fun _ _ _ => rfl, fun _ => rfl⟩
theorem yf_0_11 (t : Nat → ClassId) (ad : Nat → Nat) : sr_fr vwCl (ycf t ad) 26 0 RX5 TX5 33 11 (ad 9) := ⟨by decide, by decide, rfl, 5, fun R => [.int (R 0), .ref (ad 1), .ref (ad 2), .int (R 3), .ref (ad 3), .ref (ad 4), .ref (ad 5), .ref (ad 6), .int (R 8), .ref (ad 7), .ref (ad 8), .ref (ad 9), .ref (ad 10), .int (R 13), .int (R 14), .ref (ad 11), .ref (ad 12), .ref (ad 13), .ref (ad 14), .int (R 19), .ref (ad 15), .ref (ad 16), .ref (ad 17), .ref (ad 18), .ref (ad 19), .int (R 25), .ref (ad 20), .ref (ad 21), .ref (ad 22), .ref (ad 23), .ref (ad 24), .ref (ad 25), .int (R 32)], rfl, fun _ _ _ => rfl, fun _ => rfl⟩
theorem yf_0_12 (t : Nat → ClassId) (ad : Nat → Nat) : sr_fr vwCl (ycf t ad) 26 0 RX5 TX5 33 12 (ad 10) := ⟨by decide, by decide, rfl, 5, fun R => [.int (R 0), .ref (ad 1), .ref (ad 2), .int (R 3), .ref (ad 3), .ref (ad 4), .ref (ad 5), .ref (ad 6), .int (R 8), .ref (ad 7), .ref (ad 8), .ref (ad 9), .ref (ad 10), .int (R 13), .int (R 14), .ref (ad 11), .ref (ad 12), .ref (ad 13), .ref (ad 14), .int (R 19), .ref (ad 15), .ref (ad 16), .ref (ad 17), .ref (ad 18), .ref (ad 19), .int (R 25), .ref (ad 20), .ref (ad 21), .ref (ad 22), .ref (ad 23), .ref (ad 24), .ref (ad 25), .int (R 32)], rfl, fun _ _ _ => rfl, fun _ => rfl⟩
theorem yf_0_13 (t : Nat → ClassId) (ad : Nat → Nat) : sr_fi vwCl (ycf t ad) 26 0 RX5 TX5 33 13 := ⟨by decide, by decide, rfl, 5, fun R => [.int (R 0), .ref (ad 1), .ref (ad 2), .int (R 3), .ref (ad 3), .ref (ad 4), .ref (ad 5), .ref (ad 6), .int (R 8), .ref (ad 7), .ref (ad 8), .ref (ad 9), .ref (ad 10), .int (R 13), .int (R 14), .ref (ad 11), .ref (ad 12), .ref (ad 13), .ref (ad 14), .int (R 19), .ref (ad 15), .ref (ad 16), .ref (ad 17), .ref (ad 18), .ref (ad 19), .int (R 25), .ref (ad 20), .ref (ad 21), .ref (ad 22), .ref (ad 23), .ref (ad 24), .ref (ad 25), .int (R 32)], rfl, fun _ _ _ => rfl, fun _ => rfl, fun _ _ => rfl⟩
theorem yf_0_14 (t : Nat → ClassId) (ad : Nat → Nat) : sr_fi vwCl (ycf t ad) 26 0 RX5 TX5 33 14 := ⟨by decide, by decide, rfl, 5, fun R => [.int (R 0), .ref (ad 1), .ref (ad 2), .int (R 3), .ref (ad 3), .ref (ad 4), .ref (ad 5), .ref (ad 6), .int (R 8), .ref (ad 7), .ref (ad 8), .ref (ad 9), .ref (ad 10), .int (R 13), .int (R 14), .ref (ad 11), .ref (ad 12), .ref (ad 13), .ref (ad 14), .int (R 19), .ref (ad 15), .ref (ad 16), .ref (ad 17), .ref (ad 18), .ref (ad 19), .int (R 25), .ref (ad 20), .ref (ad 21), .ref (ad 22), .ref (ad 23), .ref (ad 24), .ref (ad 25), .int (R 32)], rfl, fun _ _ _ => rfl, fun _ => rfl, fun _ _ => rfl⟩
theorem yf_0_15 (t : Nat → ClassId) (ad : Nat → Nat) : sr_fr vwCl (ycf t ad) 26 0 RX5 TX5 33 15 (ad 11) := ⟨by decide, by decide, rfl, 5, fun R => [.int (R 0), .ref (ad 1), .ref (ad 2), .int (R 3), .ref (ad 3), .ref (ad 4), .ref (ad 5), .ref (ad 6), .int (R 8), .ref (ad 7), .ref (ad 8), .ref (ad 9), .ref (ad 10), .int (R 13), .int (R 14), .ref (ad 11), .ref (ad 12), .ref (ad 13), .ref (ad 14), .int (R 19), .ref (ad 15), .ref (ad 16), .ref (ad 17), .ref (ad 18), .ref (ad 19), .int (R 25), .ref (ad 20), .ref (ad 21), .ref (ad 22), .ref (ad 23), .ref (ad 24), .ref (ad 25), .int (R 32)], rfl, fun _ _ _ => rfl, fun _ => rfl⟩
theorem yf_0_16 (t : Nat → ClassId) (ad : Nat → Nat) : sr_fr vwCl (ycf t ad) 26 0 RX5 TX5 33 16 (ad 12) := ⟨by decide, by decide, rfl, 5, fun R => [.int (R 0), .ref (ad 1), .ref (ad 2), .int (R 3), .ref (ad 3), .ref (ad 4), .ref (ad 5), .ref (ad 6), .int (R 8), .ref (ad 7), .ref (ad 8), .ref (ad 9), .ref (ad 10), .int (R 13), .int (R 14), .ref (ad 11), .ref (ad 12), .ref (ad 13), .ref (ad 14), .int (R 19), .ref (ad 15), .ref (ad 16), .ref (ad 17), .ref (ad 18), .ref (ad 19), .int (R 25), .ref (ad 20), .ref (ad 21), .ref (ad 22), .ref (ad 23), .ref (ad 24), .ref (ad 25), .int (R 32)], rfl, fun _ _ _ => rfl, fun _ => rfl⟩
theorem yf_0_17 (t : Nat → ClassId) (ad : Nat → Nat) : sr_fr vwCl (ycf t ad) 26 0 RX5 TX5 33 17 (ad 13) := ⟨by decide, by decide, rfl, 5, fun R => [.int (R 0), .ref (ad 1), .ref (ad 2), .int (R 3), .ref (ad 3), .ref (ad 4), .ref (ad 5), .ref (ad 6), .int (R 8), .ref (ad 7), .ref (ad 8), .ref (ad 9), .ref (ad 10), .int (R 13), .int (R 14), .ref (ad 11), .ref (ad 12), .ref (ad 13), .ref (ad 14), .int (R 19), .ref (ad 15), .ref (ad 16), .ref (ad 17), .ref (ad 18), .ref (ad 19), .int (R 25), .ref (ad 20), .ref (ad 21), .ref (ad 22), .ref (ad 23), .ref (ad 24), .ref (ad 25), .int (R 32)], rfl, fun _ _ _ => rfl, fun _ => rfl⟩
theorem yf_0_18 (t : Nat → ClassId) (ad : Nat → Nat) : sr_fr vwCl (ycf t ad) 26 0 RX5 TX5 33 18 (ad 14) := ⟨by decide, by decide, rfl, 5, fun R => [.int (R 0), .ref (ad 1), .ref (ad 2), .int (R 3), .ref (ad 3), .ref (ad 4), .ref (ad 5), .ref (ad 6), .int (R 8), .ref (ad 7), .ref (ad 8), .ref (ad 9), .ref (ad 10), .int (R 13), .int (R 14), .ref (ad 11), .ref (ad 12), .ref (ad 13), .ref (ad 14), .int (R 19), .ref (ad 15), .ref (ad 16), .ref (ad 17), .ref (ad 18), .ref (ad 19), .int (R 25), .ref (ad 20), .ref (ad 21), .ref (ad 22), .ref (ad 23), .ref (ad 24), .ref (ad 25), .int (R 32)], rfl, fun _ _ _ => rfl, fun _ => rfl⟩
theorem yf_0_19 (t : Nat → ClassId) (ad : Nat → Nat) : sr_fi vwCl (ycf t ad) 26 0 RX5 TX5 33 19 := ⟨by decide, by decide, rfl, 5, fun R => [.int (R 0), .ref (ad 1), .ref (ad 2), .int (R 3), .ref (ad 3), .ref (ad 4), .ref (ad 5), .ref (ad 6), .int (R 8), .ref (ad 7), .ref (ad 8), .ref (ad 9), .ref (ad 10), .int (R 13), .int (R 14), .ref (ad 11), .ref (ad 12), .ref (ad 13), .ref (ad 14), .int (R 19), .ref (ad 15), .ref (ad 16), .ref (ad 17), .ref (ad 18), .ref (ad 19), .int (R 25), .ref (ad 20), .ref (ad 21), .ref (ad 22), .ref (ad 23), .ref (ad 24), .ref (ad 25), .int (R 32)], rfl, fun _ _ _ => rfl, fun _ => rfl, fun _ _ => rfl⟩
theorem yf_0_20 (t : Nat → ClassId) (ad : Nat → Nat) : sr_fr vwCl (ycf t ad) 26 0 RX5 TX5 33 20 (ad 15) := ⟨by decide, by decide, rfl, 5, fun R => [.int (R 0), .ref (ad 1), .ref (ad 2), .int (R 3), .ref (ad 3), .ref (ad 4), .ref (ad 5), .ref (ad 6), .int (R 8), .ref (ad 7), .ref (ad 8), .ref (ad 9), .ref (ad 10), .int (R 13), .int (R 14), .ref (ad 11), .ref (ad 12), .ref (ad 13), .ref (ad 14), .int (R 19), .ref (ad 15), .ref (ad 16), .ref (ad 17), .ref (ad 18), .ref (ad 19), .int (R 25), .ref (ad 20), .ref (ad 21), .ref (ad 22), .ref (ad 23), .ref (ad 24), .ref (ad 25), .int (R 32)], rfl, fun _ _ _ => rfl, fun _ => rfl⟩
theorem yf_0_21 (t : Nat → ClassId) (ad : Nat → Nat) : sr_fr vwCl (ycf t ad) 26 0 RX5 TX5 33 21 (ad 16) := ⟨by decide, by decide, rfl, 5, fun R => [.int (R 0), .ref (ad 1), .ref (ad 2), .int (R 3), .ref (ad 3), .ref (ad 4), .ref (ad 5), .ref (ad 6), .int (R 8), .ref (ad 7), .ref (ad 8), .ref (ad 9), .ref (ad 10), .int (R 13), .int (R 14), .ref (ad 11), .ref (ad 12), .ref (ad 13), .ref (ad 14), .int (R 19), .ref (ad 15), .ref (ad 16), .ref (ad 17), .ref (ad 18), .ref (ad 19), .int (R 25), .ref (ad 20), .ref (ad 21), .ref (ad 22), .ref (ad 23), .ref (ad 24), .ref (ad 25), .int (R 32)], rfl, fun _ _ _ => rfl, fun _ => rfl⟩
theorem yf_0_22 (t : Nat → ClassId) (ad : Nat → Nat) : sr_fr vwCl (ycf t ad) 26 0 RX5 TX5 33 22 (ad 17) := ⟨by decide, by decide, rfl, 5, fun R => [.int (R 0), .ref (ad 1), .ref (ad 2), .int (R 3), .ref (ad 3), .ref (ad 4), .ref (ad 5), .ref (ad 6), .int (R 8), .ref (ad 7), .ref (ad 8), .ref (ad 9), .ref (ad 10), .int (R 13), .int (R 14), .ref (ad 11), .ref (ad 12), .ref (ad 13), .ref (ad 14), .int (R 19), .ref (ad 15), .ref (ad 16), .ref (ad 17), .ref (ad 18), .ref (ad 19), .int (R 25), .ref (ad 20), .ref (ad 21), .ref (ad 22), .ref (ad 23), .ref (ad 24), .ref (ad 25), .int (R 32)], rfl, fun _ _ _ => rfl, fun _ => rfl⟩
theorem yf_0_23 (t : Nat → ClassId) (ad : Nat → Nat) : sr_fr vwCl (ycf t ad) 26 0 RX5 TX5 33 23 (ad 18) := ⟨by decide, by decide, rfl, 5, fun R => [.int (R 0), .ref (ad 1), .ref (ad 2), .int (R 3), .ref (ad 3), .ref (ad 4), .ref (ad 5), .ref (ad 6), .int (R 8), .ref (ad 7), .ref (ad 8), .ref (ad 9), .ref (ad 10), .int (R 13), .int (R 14), .ref (ad 11), .ref (ad 12), .ref (ad 13), .ref (ad 14), .int (R 19), .ref (ad 15), .ref (ad 16), .ref (ad 17), .ref (ad 18), .ref (ad 19), .int (R 25), .ref (ad 20), .ref (ad 21), .ref (ad 22), .ref (ad 23), .ref (ad 24), .ref (ad 25), .int (R 32)], rfl, fun _ _ _ => rfl, fun _ => rfl⟩
theorem yf_0_24 (t : Nat → ClassId) (ad : Nat → Nat) : sr_fr vwCl (ycf t ad) 26 0 RX5 TX5 33 24 (ad 19) := ⟨by decide, by decide, rfl, 5, fun R => [.int (R 0), .ref (ad 1), .ref (ad 2), .int (R 3), .ref (ad 3), .ref (ad 4), .ref (ad 5), .ref (ad 6), .int (R 8), .ref (ad 7), .ref (ad 8), .ref (ad 9), .ref (ad 10), .int (R 13), .int (R 14), .ref (ad 11), .ref (ad 12), .ref (ad 13), .ref (ad 14), .int (R 19), .ref (ad 15), .ref (ad 16), .ref (ad 17), .ref (ad 18), .ref (ad 19), .int (R 25), .ref (ad 20), .ref (ad 21), .ref (ad 22), .ref (ad 23), .ref (ad 24), .ref (ad 25), .int (R 32)], rfl, fun _ _ _ => rfl, fun _ => rfl⟩
theorem yf_0_25 (t : Nat → ClassId) (ad : Nat → Nat) : sr_fi vwCl (ycf t ad) 26 0 RX5 TX5 33 25 := ⟨by decide, by decide, rfl, 5, fun R => [.int (R 0), .ref (ad 1), .ref (ad 2), .int (R 3), .ref (ad 3), .ref (ad 4), .ref (ad 5), .ref (ad 6), .int (R 8), .ref (ad 7), .ref (ad 8), .ref (ad 9), .ref (ad 10), .int (R 13), .int (R 14), .ref (ad 11), .ref (ad 12), .ref (ad 13), .ref (ad 14), .int (R 19), .ref (ad 15), .ref (ad 16), .ref (ad 17), .ref (ad 18), .ref (ad 19), .int (R 25), .ref (ad 20), .ref (ad 21), .ref (ad 22), .ref (ad 23), .ref (ad 24), .ref (ad 25), .int (R 32)], rfl, fun _ _ _ => rfl, fun _ => rfl, fun _ _ => rfl⟩
theorem yf_0_26 (t : Nat → ClassId) (ad : Nat → Nat) : sr_fr vwCl (ycf t ad) 26 0 RX5 TX5 33 26 (ad 20) := ⟨by decide, by decide, rfl, 5, fun R => [.int (R 0), .ref (ad 1), .ref (ad 2), .int (R 3), .ref (ad 3), .ref (ad 4), .ref (ad 5), .ref (ad 6), .int (R 8), .ref (ad 7), .ref (ad 8), .ref (ad 9), .ref (ad 10), .int (R 13), .int (R 14), .ref (ad 11), .ref (ad 12), .ref (ad 13), .ref (ad 14), .int (R 19), .ref (ad 15), .ref (ad 16), .ref (ad 17), .ref (ad 18), .ref (ad 19), .int (R 25), .ref (ad 20), .ref (ad 21), .ref (ad 22), .ref (ad 23), .ref (ad 24), .ref (ad 25), .int (R 32)], rfl, fun _ _ _ => rfl, fun _ => rfl⟩
theorem yf_0_27 (t : Nat → ClassId) (ad : Nat → Nat) : sr_fr vwCl (ycf t ad) 26 0 RX5 TX5 33 27 (ad 21) := ⟨by decide, by decide, rfl, 5, fun R => [.int (R 0), .ref (ad 1), .ref (ad 2), .int (R 3), .ref (ad 3), .ref (ad 4), .ref (ad 5), .ref (ad 6), .int (R 8), .ref (ad 7), .ref (ad 8), .ref (ad 9), .ref (ad 10), .int (R 13), .int (R 14), .ref (ad 11), .ref (ad 12), .ref (ad 13), .ref (ad 14), .int (R 19), .ref (ad 15), .ref (ad 16), .ref (ad 17), .ref (ad 18), .ref (ad 19), .int (R 25), .ref (ad 20), .ref (ad 21), .ref (ad 22), .ref (ad 23), .ref (ad 24), .ref (ad 25), .int (R 32)], rfl, fun _ _ _ => rfl, fun _ => rfl⟩
theorem yf_0_28 (t : Nat → ClassId) (ad : Nat → Nat) : sr_fr vwCl (ycf t ad) 26 0 RX5 TX5 33 28 (ad 22) := ⟨by decide, by decide, rfl, 5, fun R => [.int (R 0), .ref (ad 1), .ref (ad 2), .int (R 3), .ref (ad 3), .ref (ad 4), .ref (ad 5), .ref (ad 6), .int (R 8), .ref (ad 7), .ref (ad 8), .ref (ad 9), .ref (ad 10), .int (R 13), .int (R 14), .ref (ad 11), .ref (ad 12), .ref (ad 13), .ref (ad 14), .int (R 19), .ref (ad 15), .ref (ad 16), .ref (ad 17), .ref (ad 18), .ref (ad 19), .int (R 25), .ref (ad 20), .ref (ad 21), .ref (ad 22), .ref (ad 23), .ref (ad 24), .ref (ad 25), .int (R 32)], rfl, fun _ _ _ => rfl, fun _ => rfl⟩
theorem yf_0_29 (t : Nat → ClassId) (ad : Nat → Nat) : sr_fr vwCl (ycf t ad) 26 0 RX5 TX5 33 29 (ad 23) := ⟨by decide, by decide, rfl, 5, fun R => [.int (R 0), .ref (ad 1), .ref (ad 2), .int (R 3), .ref (ad 3), .ref (ad 4), .ref (ad 5), .ref (ad 6), .int (R 8), .ref (ad 7), .ref (ad 8), .ref (ad 9), .ref (ad 10), .int (R 13), .int (R 14), .ref (ad 11), .ref (ad 12), .ref (ad 13), .ref (ad 14), .int (R 19), .ref (ad 15), .ref (ad 16), .ref (ad 17), .ref (ad 18), .ref (ad 19), .int (R 25), .ref (ad 20), .ref (ad 21), .ref (ad 22), .ref (ad 23), .ref (ad 24), .ref (ad 25), .int (R 32)], rfl, fun _ _ _ => rfl, fun _ => rfl⟩
theorem yf_0_30 (t : Nat → ClassId) (ad : Nat → Nat) : sr_fr vwCl (ycf t ad) 26 0 RX5 TX5 33 30 (ad 24) := ⟨by decide, by decide, rfl, 5, fun R => [.int (R 0), .ref (ad 1), .ref (ad 2), .int (R 3), .ref (ad 3), .ref (ad 4), .ref (ad 5), .ref (ad 6), .int (R 8), .ref (ad 7), .ref (ad 8), .ref (ad 9), .ref (ad 10), .int (R 13), .int (R 14), .ref (ad 11), .ref (ad 12), .ref (ad 13), .ref (ad 14), .int (R 19), .ref (ad 15), .ref (ad 16), .ref (ad 17), .ref (ad 18), .ref (ad 19), .int (R 25), .ref (ad 20), .ref (ad 21), .ref (ad 22), .ref (ad 23), .ref (ad 24), .ref (ad 25), .int (R 32)], rfl, fun _ _ _ => rfl, fun _ => rfl⟩
theorem yf_0_31 (t : Nat → ClassId) (ad : Nat → Nat) : sr_fr vwCl (ycf t ad) 26 0 RX5 TX5 33 31 (ad 25) := ⟨by decide, by decide, rfl, 5, fun R => [.int (R 0), .ref (ad 1), .ref (ad 2), .int (R 3), .ref (ad 3), .ref (ad 4), .ref (ad 5), .ref (ad 6), .int (R 8), .ref (ad 7), .ref (ad 8), .ref (ad 9), .ref (ad 10), .int (R 13), .int (R 14), .ref (ad 11), .ref (ad 12), .ref (ad 13), .ref (ad 14), .int (R 19), .ref (ad 15), .ref (ad 16), .ref (ad 17), .ref (ad 18), .ref (ad 19), .int (R 25), .ref (ad 20), .ref (ad 21), .ref (ad 22), .ref (ad 23), .ref (ad 24), .ref (ad 25), .int (R 32)], rfl, fun _ _ _ => rfl, fun _ => rfl⟩
theorem yf_0_32 (t : Nat → ClassId) (ad : Nat → Nat) : sr_fi vwCl (ycf t ad) 26 0 RX5 TX5 33 32 := ⟨by decide, by decide, rfl, 5, fun R => [.int (R 0), .ref (ad 1), .ref (ad 2), .int (R 3), .ref (ad 3), .ref (ad 4), .ref (ad 5), .ref (ad 6), .int (R 8), .ref (ad 7), .ref (ad 8), .ref (ad 9), .ref (ad 10), .int (R 13), .int (R 14), .ref (ad 11), .ref (ad 12), .ref (ad 13), .ref (ad 14), .int (R 19), .ref (ad 15), .ref (ad 16), .ref (ad 17), .ref (ad 18), .ref (ad 19), .int (R 25), .ref (ad 20), .ref (ad 21), .ref (ad 22), .ref (ad 23), .ref (ad 24), .ref (ad 25), .int (R 32)], rfl, fun _ _ _ => rfl, fun _ => rfl, fun _ _ => rfl⟩
theorem ya_1 (t : Nat → ClassId) (ad : Nat → Nat) : sr_ia (ycf t ad) (yty t) 26 1 120 .int := ⟨by decide, t 1, 0, fun _ _ _ => rfl, rfl⟩
theorem ya_2 (t : Nat → ClassId) (ad : Nat → Nat) : sr_ia (ycf t ad) (yty t) 26 2 120 .boolean := ⟨by decide, t 2, 1, fun _ _ _ => rfl, rfl⟩
theorem ya_3 (t : Nat → ClassId) (ad : Nat → Nat) : sr_ia (ycf t ad) (yty t) 26 3 300 .int := ⟨by decide, t 3, 2, fun _ _ _ => rfl, rfl⟩
theorem ya_4 (t : Nat → ClassId) (ad : Nat → Nat) : sr_ia (ycf t ad) (yty t) 26 4 300 .int := ⟨by decide, t 4, 3, fun _ _ _ => rfl, rfl⟩
theorem ya_5 (t : Nat → ClassId) (ad : Nat → Nat) : sr_ia (ycf t ad) (yty t) 26 5 300 .int := ⟨by decide, t 5, 4, fun _ _ _ => rfl, rfl⟩
theorem ya_6 (t : Nat → ClassId) (ad : Nat → Nat) : sr_ia (ycf t ad) (yty t) 26 6 300 .boolean := ⟨by decide, t 6, 5, fun _ _ _ => rfl, rfl⟩
theorem ya_7 (t : Nat → ClassId) (ad : Nat → Nat) : sr_ia (ycf t ad) (yty t) 26 7 6 .int := ⟨by decide, t 7, 6, fun _ _ _ => rfl, rfl⟩
theorem ya_8 (t : Nat → ClassId) (ad : Nat → Nat) : sr_ia (ycf t ad) (yty t) 26 8 6 .int := ⟨by decide, t 8, 7, fun _ _ _ => rfl, rfl⟩
theorem ya_9 (t : Nat → ClassId) (ad : Nat → Nat) : sr_ja (ycf t ad) (yty t) 26 9 360 := ⟨by decide, t 9, 8, fun _ _ _ => rfl, rfl⟩
theorem ya_10 (t : Nat → ClassId) (ad : Nat → Nat) : sr_da (ycf t ad) (yty t) 26 10 360 := ⟨by decide, t 10, 9, fun _ _ _ => rfl, rfl⟩
theorem ya_11 (t : Nat → ClassId) (ad : Nat → Nat) : sr_ia (ycf t ad) (yty t) 26 11 121 .int := ⟨by decide, t 11, 10, fun _ _ _ => rfl, rfl⟩
theorem ya_12 (t : Nat → ClassId) (ad : Nat → Nat) : sr_ia (ycf t ad) (yty t) 26 12 120 .int := ⟨by decide, t 12, 11, fun _ _ _ => rfl, rfl⟩
theorem ya_13 (t : Nat → ClassId) (ad : Nat → Nat) : sr_ia (ycf t ad) (yty t) 26 13 120 .int := ⟨by decide, t 13, 12, fun _ _ _ => rfl, rfl⟩
theorem ya_14 (t : Nat → ClassId) (ad : Nat → Nat) : sr_ia (ycf t ad) (yty t) 26 14 120 .int := ⟨by decide, t 14, 13, fun _ _ _ => rfl, rfl⟩
theorem ya_15 (t : Nat → ClassId) (ad : Nat → Nat) : sr_ia (ycf t ad) (yty t) 26 15 200 .int := ⟨by decide, t 15, 14, fun _ _ _ => rfl, rfl⟩
theorem ya_16 (t : Nat → ClassId) (ad : Nat → Nat) : sr_ja (ycf t ad) (yty t) 26 16 60 := ⟨by decide, t 16, 15, fun _ _ _ => rfl, rfl⟩
theorem ya_17 (t : Nat → ClassId) (ad : Nat → Nat) : sr_da (ycf t ad) (yty t) 26 17 60 := ⟨by decide, t 17, 16, fun _ _ _ => rfl, rfl⟩
theorem ya_18 (t : Nat → ClassId) (ad : Nat → Nat) : sr_ia (ycf t ad) (yty t) 26 18 120 .boolean := ⟨by decide, t 18, 17, fun _ _ _ => rfl, rfl⟩
theorem ya_19 (t : Nat → ClassId) (ad : Nat → Nat) : sr_ia (ycf t ad) (yty t) 26 19 120 .int := ⟨by decide, t 19, 18, fun _ _ _ => rfl, rfl⟩
theorem ya_20 (t : Nat → ClassId) (ad : Nat → Nat) : sr_ia (ycf t ad) (yty t) 26 20 120 .int := ⟨by decide, t 20, 19, fun _ _ _ => rfl, rfl⟩
theorem ya_21 (t : Nat → ClassId) (ad : Nat → Nat) : sr_ia (ycf t ad) (yty t) 26 21 120 .int := ⟨by decide, t 21, 20, fun _ _ _ => rfl, rfl⟩
theorem ya_22 (t : Nat → ClassId) (ad : Nat → Nat) : sr_ia (ycf t ad) (yty t) 26 22 121 .int := ⟨by decide, t 22, 21, fun _ _ _ => rfl, rfl⟩
theorem ya_23 (t : Nat → ClassId) (ad : Nat → Nat) : sr_ia (ycf t ad) (yty t) 26 23 120 .int := ⟨by decide, t 23, 22, fun _ _ _ => rfl, rfl⟩
theorem ya_24 (t : Nat → ClassId) (ad : Nat → Nat) : sr_ia (ycf t ad) (yty t) 26 24 120 .int := ⟨by decide, t 24, 23, fun _ _ _ => rfl, rfl⟩
theorem ya_25 (t : Nat → ClassId) (ad : Nat → Nat) : sr_ia (ycf t ad) (yty t) 26 25 120 .int := ⟨by decide, t 25, 24, fun _ _ _ => rfl, rfl⟩
def xoF (o : Nat) : Prop := o = 30 ∨ o = 43
def xoC (o : Nat) : Prop := o = 12 ∨ o = 15 ∨ o = 18 ∨ o = 21 ∨ o = 24 ∨ o = 27
theorem xoC_of {i : Int32} (h : vp_in i 6) : xoC (12 + 3 * i.toNatClampNeg) := by
  have h2 : i.toNatClampNeg < 6 := Nat.not_le.mp fun q => h (Or.inr q)
  unfold xoC
  omega
theorem xq_at {ad : Nat → Nat} {i : Int32} (h : vp_in i 6) : (fun i => if i < 6 then some (ad (12 + 3 * i)) else none) i.toNatClampNeg = some (ad (12 + 3 * i.toNatClampNeg)) := by
  have h2 : i.toNatClampNeg < 6 := Nat.not_le.mp fun q => h (Or.inr q)
  simp [h2]
theorem xobF (t : Nat → ClassId) (ad : Nat → Nat) {o : Nat} (ho : xoF o) : sr_ob vwCl (xcf t ad) 62 o RX1 := by
  rcases ho with rfl | rfl
  · exact xo_30 t ad
  · exact xo_43 t ad
theorem xfF_0 (t : Nat → ClassId) (ad : Nat → Nat) {o : Nat} (ho : xoF o) : sr_fr vwCl (xcf t ad) 62 o RX1 TX1 16 0 (ad 1) := by
  rcases ho with rfl | rfl
  · exact xf_30_0 t ad
  · exact xf_43_0 t ad
theorem xfF_1 (t : Nat → ClassId) (ad : Nat → Nat) {o : Nat} (ho : xoF o) : sr_fi vwCl (xcf t ad) 62 o RX1 TX1 16 1 := by
  rcases ho with rfl | rfl
  · exact xf_30_1 t ad
  · exact xf_43_1 t ad
theorem xfF_2 (t : Nat → ClassId) (ad : Nat → Nat) {o : Nat} (ho : xoF o) : sr_fi vwCl (xcf t ad) 62 o RX1 TX1 16 2 := by
  rcases ho with rfl | rfl
  · exact xf_30_2 t ad
  · exact xf_43_2 t ad
theorem xfF_3 (t : Nat → ClassId) (ad : Nat → Nat) {o : Nat} (ho : xoF o) : sr_fr vwCl (xcf t ad) 62 o RX1 TX1 16 3 (ad (o + 1)) := by
  rcases ho with rfl | rfl
  · exact xf_30_3 t ad
  · exact xf_43_3 t ad
theorem xfF_4 (t : Nat → ClassId) (ad : Nat → Nat) {o : Nat} (ho : xoF o) : sr_fr vwCl (xcf t ad) 62 o RX1 TX1 16 4 (ad (o + 2)) := by
  rcases ho with rfl | rfl
  · exact xf_30_4 t ad
  · exact xf_43_4 t ad
theorem xfF_5 (t : Nat → ClassId) (ad : Nat → Nat) {o : Nat} (ho : xoF o) : sr_fr vwCl (xcf t ad) 62 o RX1 TX1 16 5 (ad (o + 3)) := by
  rcases ho with rfl | rfl
  · exact xf_30_5 t ad
  · exact xf_43_5 t ad
theorem xfF_6 (t : Nat → ClassId) (ad : Nat → Nat) {o : Nat} (ho : xoF o) : sr_fr vwCl (xcf t ad) 62 o RX1 TX1 16 6 (ad (o + 4)) := by
  rcases ho with rfl | rfl
  · exact xf_30_6 t ad
  · exact xf_43_6 t ad
theorem xfF_7 (t : Nat → ClassId) (ad : Nat → Nat) {o : Nat} (ho : xoF o) : sr_fr vwCl (xcf t ad) 62 o RX1 TX1 16 7 (ad (o + 5)) := by
  rcases ho with rfl | rfl
  · exact xf_30_7 t ad
  · exact xf_43_7 t ad
theorem xfF_8 (t : Nat → ClassId) (ad : Nat → Nat) {o : Nat} (ho : xoF o) : sr_fr vwCl (xcf t ad) 62 o RX1 TX1 16 8 (ad (o + 6)) := by
  rcases ho with rfl | rfl
  · exact xf_30_8 t ad
  · exact xf_43_8 t ad
theorem xfF_9 (t : Nat → ClassId) (ad : Nat → Nat) {o : Nat} (ho : xoF o) : sr_fi vwCl (xcf t ad) 62 o RX1 TX1 16 9 := by
  rcases ho with rfl | rfl
  · exact xf_30_9 t ad
  · exact xf_43_9 t ad
theorem xfF_10 (t : Nat → ClassId) (ad : Nat → Nat) {o : Nat} (ho : xoF o) : sr_fr vwCl (xcf t ad) 62 o RX1 TX1 16 10 (ad (o + 7)) := by
  rcases ho with rfl | rfl
  · exact xf_30_10 t ad
  · exact xf_43_10 t ad
theorem xfF_11 (t : Nat → ClassId) (ad : Nat → Nat) {o : Nat} (ho : xoF o) : sr_fr vwCl (xcf t ad) 62 o RX1 TX1 16 11 (ad (o + 8)) := by
  rcases ho with rfl | rfl
  · exact xf_30_11 t ad
  · exact xf_43_11 t ad
theorem xfF_12 (t : Nat → ClassId) (ad : Nat → Nat) {o : Nat} (ho : xoF o) : sr_fr vwCl (xcf t ad) 62 o RX1 TX1 16 12 (ad (o + 9)) := by
  rcases ho with rfl | rfl
  · exact xf_30_12 t ad
  · exact xf_43_12 t ad
theorem xfF_13 (t : Nat → ClassId) (ad : Nat → Nat) {o : Nat} (ho : xoF o) : sr_fr vwCl (xcf t ad) 62 o RX1 TX1 16 13 (ad (o + 10)) := by
  rcases ho with rfl | rfl
  · exact xf_30_13 t ad
  · exact xf_43_13 t ad
theorem xfF_14 (t : Nat → ClassId) (ad : Nat → Nat) {o : Nat} (ho : xoF o) : sr_fr vwCl (xcf t ad) 62 o RX1 TX1 16 14 (ad (o + 11)) := by
  rcases ho with rfl | rfl
  · exact xf_30_14 t ad
  · exact xf_43_14 t ad
theorem xfF_15 (t : Nat → ClassId) (ad : Nat → Nat) {o : Nat} (ho : xoF o) : sr_fr vwCl (xcf t ad) 62 o RX1 TX1 16 15 (ad (o + 12)) := by
  rcases ho with rfl | rfl
  · exact xf_30_15 t ad
  · exact xf_43_15 t ad
theorem xaF_1 (t : Nat → ClassId) (ad : Nat → Nat) {o : Nat} (ho : xoF o) : sr_ia (xcf t ad) (xty t) 62 (o + 1) 121 .int := by
  rcases ho with rfl | rfl
  · exact xa_31 t ad
  · exact xa_44 t ad
theorem xaF_2 (t : Nat → ClassId) (ad : Nat → Nat) {o : Nat} (ho : xoF o) : sr_ia (xcf t ad) (xty t) 62 (o + 2) 121 .int := by
  rcases ho with rfl | rfl
  · exact xa_32 t ad
  · exact xa_45 t ad
theorem xaF_3 (t : Nat → ClassId) (ad : Nat → Nat) {o : Nat} (ho : xoF o) : sr_ia (xcf t ad) (xty t) 62 (o + 3) 120 .int := by
  rcases ho with rfl | rfl
  · exact xa_33 t ad
  · exact xa_46 t ad
theorem xaF_4 (t : Nat → ClassId) (ad : Nat → Nat) {o : Nat} (ho : xoF o) : sr_ia (xcf t ad) (xty t) 62 (o + 4) 120 .int := by
  rcases ho with rfl | rfl
  · exact xa_34 t ad
  · exact xa_47 t ad
theorem xaF_5 (t : Nat → ClassId) (ad : Nat → Nat) {o : Nat} (ho : xoF o) : sr_ia (xcf t ad) (xty t) 62 (o + 5) 120 .int := by
  rcases ho with rfl | rfl
  · exact xa_35 t ad
  · exact xa_48 t ad
theorem xaF_6 (t : Nat → ClassId) (ad : Nat → Nat) {o : Nat} (ho : xoF o) : sr_ia (xcf t ad) (xty t) 62 (o + 6) 120 .int := by
  rcases ho with rfl | rfl
  · exact xa_36 t ad
  · exact xa_49 t ad
theorem xaF_7 (t : Nat → ClassId) (ad : Nat → Nat) {o : Nat} (ho : xoF o) : sr_ia (xcf t ad) (xty t) 62 (o + 7) 120 .int := by
  rcases ho with rfl | rfl
  · exact xa_37 t ad
  · exact xa_50 t ad
theorem xaF_8 (t : Nat → ClassId) (ad : Nat → Nat) {o : Nat} (ho : xoF o) : sr_ia (xcf t ad) (xty t) 62 (o + 8) 120 .int := by
  rcases ho with rfl | rfl
  · exact xa_38 t ad
  · exact xa_51 t ad
theorem xaF_9 (t : Nat → ClassId) (ad : Nat → Nat) {o : Nat} (ho : xoF o) : sr_ia (xcf t ad) (xty t) 62 (o + 9) 120 .int := by
  rcases ho with rfl | rfl
  · exact xa_39 t ad
  · exact xa_52 t ad
theorem xaF_10 (t : Nat → ClassId) (ad : Nat → Nat) {o : Nat} (ho : xoF o) : sr_ia (xcf t ad) (xty t) 62 (o + 10) 120 .int := by
  rcases ho with rfl | rfl
  · exact xa_40 t ad
  · exact xa_53 t ad
theorem xaF_11 (t : Nat → ClassId) (ad : Nat → Nat) {o : Nat} (ho : xoF o) : sr_ia (xcf t ad) (xty t) 62 (o + 11) 120 .int := by
  rcases ho with rfl | rfl
  · exact xa_41 t ad
  · exact xa_54 t ad
theorem xaF_12 (t : Nat → ClassId) (ad : Nat → Nat) {o : Nat} (ho : xoF o) : sr_ia (xcf t ad) (xty t) 62 (o + 12) 120 .boolean := by
  rcases ho with rfl | rfl
  · exact xa_42 t ad
  · exact xa_55 t ad
theorem xobC (t : Nat → ClassId) (ad : Nat → Nat) {o : Nat} (ho : xoC o) : sr_ob vwCl (xcf t ad) 62 o RX0 := by
  rcases ho with rfl | rfl | rfl | rfl | rfl | rfl
  · exact xo_12 t ad
  · exact xo_15 t ad
  · exact xo_18 t ad
  · exact xo_21 t ad
  · exact xo_24 t ad
  · exact xo_27 t ad
theorem xfC_0 (t : Nat → ClassId) (ad : Nat → Nat) {o : Nat} (ho : xoC o) : sr_fi vwCl (xcf t ad) 62 o RX0 TX0 5 0 := by
  rcases ho with rfl | rfl | rfl | rfl | rfl | rfl
  · exact xf_12_0 t ad
  · exact xf_15_0 t ad
  · exact xf_18_0 t ad
  · exact xf_21_0 t ad
  · exact xf_24_0 t ad
  · exact xf_27_0 t ad
theorem xfC_1 (t : Nat → ClassId) (ad : Nat → Nat) {o : Nat} (ho : xoC o) : sr_fi vwCl (xcf t ad) 62 o RX0 TX0 5 1 := by
  rcases ho with rfl | rfl | rfl | rfl | rfl | rfl
  · exact xf_12_1 t ad
  · exact xf_15_1 t ad
  · exact xf_18_1 t ad
  · exact xf_21_1 t ad
  · exact xf_24_1 t ad
  · exact xf_27_1 t ad
theorem xfC_2 (t : Nat → ClassId) (ad : Nat → Nat) {o : Nat} (ho : xoC o) : sr_fi vwCl (xcf t ad) 62 o RX0 TX0 5 2 := by
  rcases ho with rfl | rfl | rfl | rfl | rfl | rfl
  · exact xf_12_2 t ad
  · exact xf_15_2 t ad
  · exact xf_18_2 t ad
  · exact xf_21_2 t ad
  · exact xf_24_2 t ad
  · exact xf_27_2 t ad
theorem xfC_3 (t : Nat → ClassId) (ad : Nat → Nat) {o : Nat} (ho : xoC o) : sr_fr vwCl (xcf t ad) 62 o RX0 TX0 5 3 (ad (o + 1)) := by
  rcases ho with rfl | rfl | rfl | rfl | rfl | rfl
  · exact xf_12_3 t ad
  · exact xf_15_3 t ad
  · exact xf_18_3 t ad
  · exact xf_21_3 t ad
  · exact xf_24_3 t ad
  · exact xf_27_3 t ad
theorem xfC_4 (t : Nat → ClassId) (ad : Nat → Nat) {o : Nat} (ho : xoC o) : sr_fr vwCl (xcf t ad) 62 o RX0 TX0 5 4 (ad (o + 2)) := by
  rcases ho with rfl | rfl | rfl | rfl | rfl | rfl
  · exact xf_12_4 t ad
  · exact xf_15_4 t ad
  · exact xf_18_4 t ad
  · exact xf_21_4 t ad
  · exact xf_24_4 t ad
  · exact xf_27_4 t ad
theorem xaC_1 (t : Nat → ClassId) (ad : Nat → Nat) {o : Nat} (ho : xoC o) : sr_ja (xcf t ad) (xty t) 62 (o + 1) 60 := by
  rcases ho with rfl | rfl | rfl | rfl | rfl | rfl
  · exact xa_13 t ad
  · exact xa_16 t ad
  · exact xa_19 t ad
  · exact xa_22 t ad
  · exact xa_25 t ad
  · exact xa_28 t ad
theorem xaC_2 (t : Nat → ClassId) (ad : Nat → Nat) {o : Nat} (ho : xoC o) : sr_ia (xcf t ad) (xty t) 62 (o + 2) 60 .byte := by
  rcases ho with rfl | rfl | rfl | rfl | rfl | rfl
  · exact xa_14 t ad
  · exact xa_17 t ad
  · exact xa_20 t ad
  · exact xa_23 t ad
  · exact xa_26 t ad
  · exact xa_29 t ad
theorem sr_goodV {own : String} {idx : Nat} {C : String} {y : MethodName} {cc : ByteArray} {maxL : Nat} {ret : Option FieldType} (h1 : (.methodLink own idx y : Cond) ∈ sr_tbl) (h2 : (.instanceMethod y : Cond) ∈ sr_tbl) (h3 : (.selects C y y : Cond) ∈ sr_tbl) (h4 : (.initialized C : Cond) ∈ sr_tbl) (h5 : (.code y cc maxL ret : Cond) ∈ sr_tbl) : GoodIn sr_tbl (wsV own idx C y (.code y cc maxL ret :: sr_tbl)) := by
  intro w hw
  have hm : w ∈ sr_tbl := by
    simp only [wsV, List.mem_append, List.mem_cons, List.not_mem_nil, or_false] at hw
    rcases hw with (rfl | rfl | rfl | rfl) | rfl | hw <;> assumption
  exact ⟨hm, good_of_word (List.all_eq_true.mp lw_good w hm)⟩
theorem sr_goodS {own : String} {idx : Nat} {y : MethodName} {cc : ByteArray} {maxL : Nat} {ret : Option FieldType} (h1 : (.methodLink own idx y : Cond) ∈ sr_tbl) (h2 : (.static y : Cond) ∈ sr_tbl) (h4 : (.initialized own : Cond) ∈ sr_tbl) (h5 : (.code y cc maxL ret : Cond) ∈ sr_tbl) : GoodIn sr_tbl (wsS own idx y (.code y cc maxL ret :: sr_tbl)) := by
  intro w hw
  have hm : w ∈ sr_tbl := by
    simp only [wsS, List.mem_append, List.mem_cons, List.not_mem_nil, or_false] at hw
    rcases hw with (rfl | rfl | rfl) | rfl | hw <;> assumption
  exact ⟨hm, good_of_word (List.all_eq_true.mp lw_good w hm)⟩
theorem qdX0_hasNumber : (yX0_hasNumber.cls = RX0 ∧ yX0_hasNumber.cls ≠ "java/lang/invoke/MethodHandle" ∧ yX0_hasNumber.cls ≠ "java/lang/invoke/VarHandle" ∧ (parseMethodDescriptor yX0_hasNumber.desc).map (fun d => d.parameters.length) = some 1) := by decide +kernel
theorem qdX0_isNoNumber : (yX0_isNoNumber.cls = RX0 ∧ yX0_isNoNumber.cls ≠ "java/lang/invoke/MethodHandle" ∧ yX0_isNoNumber.cls ≠ "java/lang/invoke/VarHandle" ∧ (parseMethodDescriptor yX0_isNoNumber.desc).map (fun d => d.parameters.length) = some 1) := by decide +kernel
theorem qdX0_put : (yX0_put.cls = RX0 ∧ yX0_put.cls ≠ "java/lang/invoke/MethodHandle" ∧ yX0_put.cls ≠ "java/lang/invoke/VarHandle" ∧ (parseMethodDescriptor yX0_put.desc).map (fun d => d.parameters.length) = some 3) := by decide +kernel
theorem qdX0_putFrom : (yX0_putFrom.cls = RX0 ∧ yX0_putFrom.cls ≠ "java/lang/invoke/MethodHandle" ∧ yX0_putFrom.cls ≠ "java/lang/invoke/VarHandle" ∧ (parseMethodDescriptor yX0_putFrom.desc).map (fun d => d.parameters.length) = some 4) := by decide +kernel
theorem qdX0_putWild : (yX0_putWild.cls = RX0 ∧ yX0_putWild.cls ≠ "java/lang/invoke/MethodHandle" ∧ yX0_putWild.cls ≠ "java/lang/invoke/VarHandle" ∧ (parseMethodDescriptor yX0_putWild.desc).map (fun d => d.parameters.length) = some 2) := by decide +kernel
theorem qdX0_renew : (yX0_renew.cls = RX0 ∧ yX0_renew.cls ≠ "java/lang/invoke/MethodHandle" ∧ yX0_renew.cls ≠ "java/lang/invoke/VarHandle" ∧ (parseMethodDescriptor yX0_renew.desc).map (fun d => d.parameters.length) = some 2) := by decide +kernel
theorem qdX0_spans : (yX0_spans.cls = RX0 ∧ yX0_spans.cls ≠ "java/lang/invoke/MethodHandle" ∧ yX0_spans.cls ≠ "java/lang/invoke/VarHandle" ∧ (parseMethodDescriptor yX0_spans.desc).map (fun d => d.parameters.length) = some 2) := by decide +kernel
theorem qdX0_wholeOf : (yX0_wholeOf.cls = RX0 ∧ yX0_wholeOf.cls ≠ "java/lang/invoke/MethodHandle" ∧ yX0_wholeOf.cls ≠ "java/lang/invoke/VarHandle" ∧ (parseMethodDescriptor yX0_wholeOf.desc).map (fun d => d.parameters.length) = some 2) := by decide +kernel
theorem qdX1_addLake : (yX1_addLake.cls = RX1 ∧ yX1_addLake.cls ≠ "java/lang/invoke/MethodHandle" ∧ yX1_addLake.cls ≠ "java/lang/invoke/VarHandle" ∧ (parseMethodDescriptor yX1_addLake.desc).map (fun d => d.parameters.length) = some 1) := by decide +kernel
theorem qdX1_advance : (yX1_advance.cls = RX1 ∧ yX1_advance.cls ≠ "java/lang/invoke/MethodHandle" ∧ yX1_advance.cls ≠ "java/lang/invoke/VarHandle" ∧ (parseMethodDescriptor yX1_advance.desc).map (fun d => d.parameters.length) = some 0) := by decide +kernel
theorem qdX1_candidate : (yX1_candidate.cls = RX1 ∧ yX1_candidate.cls ≠ "java/lang/invoke/MethodHandle" ∧ yX1_candidate.cls ≠ "java/lang/invoke/VarHandle" ∧ (parseMethodDescriptor yX1_candidate.desc).map (fun d => d.parameters.length) = some 1) := by decide +kernel
theorem qdX1_countCandidates : (yX1_countCandidates.cls = RX1 ∧ yX1_countCandidates.cls ≠ "java/lang/invoke/MethodHandle" ∧ yX1_countCandidates.cls ≠ "java/lang/invoke/VarHandle" ∧ (parseMethodDescriptor yX1_countCandidates.desc).map (fun d => d.parameters.length) = some 0) := by decide +kernel
theorem qdX1_countCut : (yX1_countCut.cls = RX1 ∧ yX1_countCut.cls ≠ "java/lang/invoke/MethodHandle" ∧ yX1_countCut.cls ≠ "java/lang/invoke/VarHandle" ∧ (parseMethodDescriptor yX1_countCut.desc).map (fun d => d.parameters.length) = some 0) := by decide +kernel
theorem qdX1_countFilled : (yX1_countFilled.cls = RX1 ∧ yX1_countFilled.cls ≠ "java/lang/invoke/MethodHandle" ∧ yX1_countFilled.cls ≠ "java/lang/invoke/VarHandle" ∧ (parseMethodDescriptor yX1_countFilled.desc).map (fun d => d.parameters.length) = some 0) := by decide +kernel
theorem qdX1_cutOff : (yX1_cutOff.cls = RX1 ∧ yX1_cutOff.cls ≠ "java/lang/invoke/MethodHandle" ∧ yX1_cutOff.cls ≠ "java/lang/invoke/VarHandle" ∧ (parseMethodDescriptor yX1_cutOff.desc).map (fun d => d.parameters.length) = some 0) := by decide +kernel
theorem qdX1_drownAround : (yX1_drownAround.cls = RX1 ∧ yX1_drownAround.cls ≠ "java/lang/invoke/MethodHandle" ∧ yX1_drownAround.cls ≠ "java/lang/invoke/VarHandle" ∧ (parseMethodDescriptor yX1_drownAround.desc).map (fun d => d.parameters.length) = some 2) := by decide +kernel
theorem qdX1_firstOutletStep : (yX1_firstOutletStep.cls = RX1 ∧ yX1_firstOutletStep.cls ≠ "java/lang/invoke/MethodHandle" ∧ yX1_firstOutletStep.cls ≠ "java/lang/invoke/VarHandle" ∧ (parseMethodDescriptor yX1_firstOutletStep.desc).map (fun d => d.parameters.length) = some 0) := by decide +kernel
theorem qdX1_greatestRankOpened : (yX1_greatestRankOpened.cls = RX1 ∧ yX1_greatestRankOpened.cls ≠ "java/lang/invoke/MethodHandle" ∧ yX1_greatestRankOpened.cls ≠ "java/lang/invoke/VarHandle" ∧ (parseMethodDescriptor yX1_greatestRankOpened.desc).map (fun d => d.parameters.length) = some 0) := by decide +kernel
theorem qdX1_isCandidate : (yX1_isCandidate.cls = RX1 ∧ yX1_isCandidate.cls ≠ "java/lang/invoke/MethodHandle" ∧ yX1_isCandidate.cls ≠ "java/lang/invoke/VarHandle" ∧ (parseMethodDescriptor yX1_isCandidate.desc).map (fun d => d.parameters.length) = some 1) := by decide +kernel
theorem qdX1_isPreferred : (yX1_isPreferred.cls = RX1 ∧ yX1_isPreferred.cls ≠ "java/lang/invoke/MethodHandle" ∧ yX1_isPreferred.cls ≠ "java/lang/invoke/VarHandle" ∧ (parseMethodDescriptor yX1_isPreferred.desc).map (fun d => d.parameters.length) = some 3) := by decide +kernel
theorem qdX1_leads : (yX1_leads.cls = RX1 ∧ yX1_leads.cls ≠ "java/lang/invoke/MethodHandle" ∧ yX1_leads.cls ≠ "java/lang/invoke/VarHandle" ∧ (parseMethodDescriptor yX1_leads.desc).map (fun d => d.parameters.length) = some 2) := by decide +kernel
theorem qdX1_nextThroat : (yX1_nextThroat.cls = RX1 ∧ yX1_nextThroat.cls ≠ "java/lang/invoke/MethodHandle" ∧ yX1_nextThroat.cls ≠ "java/lang/invoke/VarHandle" ∧ (parseMethodDescriptor yX1_nextThroat.desc).map (fun d => d.parameters.length) = some 0) := by decide +kernel
theorem qdX1_preferredAt : (yX1_preferredAt.cls = RX1 ∧ yX1_preferredAt.cls ≠ "java/lang/invoke/MethodHandle" ∧ yX1_preferredAt.cls ≠ "java/lang/invoke/VarHandle" ∧ (parseMethodDescriptor yX1_preferredAt.desc).map (fun d => d.parameters.length) = some 1) := by decide +kernel
theorem qdX1_reachAround : (yX1_reachAround.cls = RX1 ∧ yX1_reachAround.cls ≠ "java/lang/invoke/MethodHandle" ∧ yX1_reachAround.cls ≠ "java/lang/invoke/VarHandle" ∧ (parseMethodDescriptor yX1_reachAround.desc).map (fun d => d.parameters.length) = some 2) := by decide +kernel
theorem qdX1_reachFromOutlets : (yX1_reachFromOutlets.cls = RX1 ∧ yX1_reachFromOutlets.cls ≠ "java/lang/invoke/MethodHandle" ∧ yX1_reachFromOutlets.cls ≠ "java/lang/invoke/VarHandle" ∧ (parseMethodDescriptor yX1_reachFromOutlets.desc).map (fun d => d.parameters.length) = some 0) := by decide +kernel
theorem qdX1_start : (yX1_start.cls = RX1 ∧ yX1_start.cls ≠ "java/lang/invoke/MethodHandle" ∧ yX1_start.cls ≠ "java/lang/invoke/VarHandle" ∧ (parseMethodDescriptor yX1_start.desc).map (fun d => d.parameters.length) = some 0) := by decide +kernel
theorem qdX1_takeBackTo : (yX1_takeBackTo.cls = RX1 ∧ yX1_takeBackTo.cls ≠ "java/lang/invoke/MethodHandle" ∧ yX1_takeBackTo.cls ≠ "java/lang/invoke/VarHandle" ∧ (parseMethodDescriptor yX1_takeBackTo.desc).map (fun d => d.parameters.length) = some 1) := by decide +kernel
theorem qdX2_across : (yX2_across.cls = RX2 ∧ yX2_across.cls ≠ "java/lang/invoke/MethodHandle" ∧ yX2_across.cls ≠ "java/lang/invoke/VarHandle" ∧ (parseMethodDescriptor yX2_across.desc).map (fun d => d.parameters.length) = some 2) := by decide +kernel
theorem qdX2_addPore : (yX2_addPore.cls = RX2 ∧ yX2_addPore.cls ≠ "java/lang/invoke/MethodHandle" ∧ yX2_addPore.cls ≠ "java/lang/invoke/VarHandle" ∧ (parseMethodDescriptor yX2_addPore.desc).map (fun d => d.parameters.length) = some 1) := by decide +kernel
theorem qdX2_addThroat : (yX2_addThroat.cls = RX2 ∧ yX2_addThroat.cls ≠ "java/lang/invoke/MethodHandle" ∧ yX2_addThroat.cls ≠ "java/lang/invoke/VarHandle" ∧ (parseMethodDescriptor yX2_addThroat.desc).map (fun d => d.parameters.length) = some 2) := by decide +kernel
theorem qdX2_hasPore : (yX2_hasPore.cls = RX2 ∧ yX2_hasPore.cls ≠ "java/lang/invoke/MethodHandle" ∧ yX2_hasPore.cls ≠ "java/lang/invoke/VarHandle" ∧ (parseMethodDescriptor yX2_hasPore.desc).map (fun d => d.parameters.length) = some 1) := by decide +kernel
theorem qdX2_hasThroat : (yX2_hasThroat.cls = RX2 ∧ yX2_hasThroat.cls ≠ "java/lang/invoke/MethodHandle" ∧ yX2_hasThroat.cls ≠ "java/lang/invoke/VarHandle" ∧ (parseMethodDescriptor yX2_hasThroat.desc).map (fun d => d.parameters.length) = some 1) := by decide +kernel
theorem qdX2_isAhead : (yX2_isAhead.cls = RX2 ∧ yX2_isAhead.cls ≠ "java/lang/invoke/MethodHandle" ∧ yX2_isAhead.cls ≠ "java/lang/invoke/VarHandle" ∧ (parseMethodDescriptor yX2_isAhead.desc).map (fun d => d.parameters.length) = some 2) := by decide +kernel
theorem qdX2_isOpen : (yX2_isOpen.cls = RX2 ∧ yX2_isOpen.cls ≠ "java/lang/invoke/MethodHandle" ∧ yX2_isOpen.cls ≠ "java/lang/invoke/VarHandle" ∧ (parseMethodDescriptor yX2_isOpen.desc).map (fun d => d.parameters.length) = some 1) := by decide +kernel
theorem qdX2_listAt : (yX2_listAt.cls = RX2 ∧ yX2_listAt.cls ≠ "java/lang/invoke/MethodHandle" ∧ yX2_listAt.cls ≠ "java/lang/invoke/VarHandle" ∧ (parseMethodDescriptor yX2_listAt.desc).map (fun d => d.parameters.length) = some 2) := by decide +kernel
theorem qdX2_place : (yX2_place.cls = RX2 ∧ yX2_place.cls ≠ "java/lang/invoke/MethodHandle" ∧ yX2_place.cls ≠ "java/lang/invoke/VarHandle" ∧ (parseMethodDescriptor yX2_place.desc).map (fun d => d.parameters.length) = some 2) := by decide +kernel
theorem qdX2_rankIn : (yX2_rankIn.cls = RX2 ∧ yX2_rankIn.cls ≠ "java/lang/invoke/MethodHandle" ∧ yX2_rankIn.cls ≠ "java/lang/invoke/VarHandle" ∧ (parseMethodDescriptor yX2_rankIn.desc).map (fun d => d.parameters.length) = some 1) := by decide +kernel
theorem qdX2_rankOut : (yX2_rankOut.cls = RX2 ∧ yX2_rankOut.cls ≠ "java/lang/invoke/MethodHandle" ∧ yX2_rankOut.cls ≠ "java/lang/invoke/VarHandle" ∧ (parseMethodDescriptor yX2_rankOut.desc).map (fun d => d.parameters.length) = some 1) := by decide +kernel
theorem qdX2_settle : (yX2_settle.cls = RX2 ∧ yX2_settle.cls ≠ "java/lang/invoke/MethodHandle" ∧ yX2_settle.cls ≠ "java/lang/invoke/VarHandle" ∧ (parseMethodDescriptor yX2_settle.desc).map (fun d => d.parameters.length) = some 3) := by decide +kernel
theorem qdX3_branch : (yX3_branch.cls = RX3 ∧ yX3_branch.cls ≠ "java/lang/invoke/MethodHandle" ∧ yX3_branch.cls ≠ "java/lang/invoke/VarHandle" ∧ (parseMethodDescriptor yX3_branch.desc).map (fun d => d.parameters.length) = some 1) := by decide +kernel
theorem qdX3_fill : (yX3_fill.cls = RX3 ∧ yX3_fill.cls ≠ "java/lang/invoke/MethodHandle" ∧ yX3_fill.cls ≠ "java/lang/invoke/VarHandle" ∧ (parseMethodDescriptor yX3_fill.desc).map (fun d => d.parameters.length) = some 2) := by decide +kernel
theorem qdX3_fillNext : (yX3_fillNext.cls = RX3 ∧ yX3_fillNext.cls ≠ "java/lang/invoke/MethodHandle" ∧ yX3_fillNext.cls ≠ "java/lang/invoke/VarHandle" ∧ (parseMethodDescriptor yX3_fillNext.desc).map (fun d => d.parameters.length) = some 0) := by decide +kernel
theorem qdX3_flood : (yX3_flood.cls = RX3 ∧ yX3_flood.cls ≠ "java/lang/invoke/MethodHandle" ∧ yX3_flood.cls ≠ "java/lang/invoke/VarHandle" ∧ (parseMethodDescriptor yX3_flood.desc).map (fun d => d.parameters.length) = some 0) := by decide +kernel
theorem qdX3_rankJoining : (yX3_rankJoining.cls = RX3 ∧ yX3_rankJoining.cls ≠ "java/lang/invoke/MethodHandle" ∧ yX3_rankJoining.cls ≠ "java/lang/invoke/VarHandle" ∧ (parseMethodDescriptor yX3_rankJoining.desc).map (fun d => d.parameters.length) = some 2) := by decide +kernel
theorem qdX3_stand : (yX3_stand.cls = RX3 ∧ yX3_stand.cls ≠ "java/lang/invoke/MethodHandle" ∧ yX3_stand.cls ≠ "java/lang/invoke/VarHandle" ∧ (parseMethodDescriptor yX3_stand.desc).map (fun d => d.parameters.length) = some 0) := by decide +kernel
theorem qdX3_throatOnWay : (yX3_throatOnWay.cls = RX3 ∧ yX3_throatOnWay.cls ≠ "java/lang/invoke/MethodHandle" ∧ yX3_throatOnWay.cls ≠ "java/lang/invoke/VarHandle" ∧ (parseMethodDescriptor yX3_throatOnWay.desc).map (fun d => d.parameters.length) = some 2) := by decide +kernel
theorem qdX3_unite : (yX3_unite.cls = RX3 ∧ yX3_unite.cls ≠ "java/lang/invoke/MethodHandle" ∧ yX3_unite.cls ≠ "java/lang/invoke/VarHandle" ∧ (parseMethodDescriptor yX3_unite.desc).map (fun d => d.parameters.length) = some 1) := by decide +kernel
theorem qdX4_about : (yX4_about.cls = RX4 ∧ yX4_about.cls ≠ "java/lang/invoke/MethodHandle" ∧ yX4_about.cls ≠ "java/lang/invoke/VarHandle" ∧ (parseMethodDescriptor yX4_about.desc).map (fun d => d.parameters.length) = some 2) := by decide +kernel
theorem qdX4_alter : (yX4_alter.cls = RX4 ∧ yX4_alter.cls ≠ "java/lang/invoke/MethodHandle" ∧ yX4_alter.cls ≠ "java/lang/invoke/VarHandle" ∧ (parseMethodDescriptor yX4_alter.desc).map (fun d => d.parameters.length) = some 2) := by decide +kernel
theorem qdX4_begin : (yX4_begin.cls = RX4 ∧ yX4_begin.cls ≠ "java/lang/invoke/MethodHandle" ∧ yX4_begin.cls ≠ "java/lang/invoke/VarHandle" ∧ (parseMethodDescriptor yX4_begin.desc).map (fun d => d.parameters.length) = some 0) := by decide +kernel
theorem qdX4_cell : (yX4_cell.cls = RX4 ∧ yX4_cell.cls ≠ "java/lang/invoke/MethodHandle" ∧ yX4_cell.cls ≠ "java/lang/invoke/VarHandle" ∧ (parseMethodDescriptor yX4_cell.desc).map (fun d => d.parameters.length) = some 4) := by decide +kernel
theorem qdX4_check : (yX4_check.cls = RX4 ∧ yX4_check.cls ≠ "java/lang/invoke/MethodHandle" ∧ yX4_check.cls ≠ "java/lang/invoke/VarHandle" ∧ (parseMethodDescriptor yX4_check.desc).map (fun d => d.parameters.length) = some 0) := by decide +kernel
theorem qdX4_claim : (yX4_claim.cls = RX4 ∧ yX4_claim.cls ≠ "java/lang/invoke/MethodHandle" ∧ yX4_claim.cls ≠ "java/lang/invoke/VarHandle" ∧ (parseMethodDescriptor yX4_claim.desc).map (fun d => d.parameters.length) = some 1) := by decide +kernel
theorem qdX4_copy : (yX4_copy.cls = RX4 ∧ yX4_copy.cls ≠ "java/lang/invoke/MethodHandle" ∧ yX4_copy.cls ≠ "java/lang/invoke/VarHandle" ∧ (parseMethodDescriptor yX4_copy.desc).map (fun d => d.parameters.length) = some 0) := by decide +kernel
theorem qdX4_core : (yX4_core.cls = RX4 ∧ yX4_core.cls ≠ "java/lang/invoke/MethodHandle" ∧ yX4_core.cls ≠ "java/lang/invoke/VarHandle" ∧ (parseMethodDescriptor yX4_core.desc).map (fun d => d.parameters.length) = some 3) := by decide +kernel
theorem qdX4_front : (yX4_front.cls = RX4 ∧ yX4_front.cls ≠ "java/lang/invoke/MethodHandle" ∧ yX4_front.cls ≠ "java/lang/invoke/VarHandle" ∧ (parseMethodDescriptor yX4_front.desc).map (fun d => d.parameters.length) = some 1) := by decide +kernel
theorem qdX4_hasPlace : (yX4_hasPlace.cls = RX4 ∧ yX4_hasPlace.cls ≠ "java/lang/invoke/MethodHandle" ∧ yX4_hasPlace.cls ≠ "java/lang/invoke/VarHandle" ∧ (parseMethodDescriptor yX4_hasPlace.desc).map (fun d => d.parameters.length) = some 1) := by decide +kernel
theorem qdX4_hinder : (yX4_hinder.cls = RX4 ∧ yX4_hinder.cls ≠ "java/lang/invoke/MethodHandle" ∧ yX4_hinder.cls ≠ "java/lang/invoke/VarHandle" ∧ (parseMethodDescriptor yX4_hinder.desc).map (fun d => d.parameters.length) = some 2) := by decide +kernel
theorem qdX4_inlet : (yX4_inlet.cls = RX4 ∧ yX4_inlet.cls ≠ "java/lang/invoke/MethodHandle" ∧ yX4_inlet.cls ≠ "java/lang/invoke/VarHandle" ∧ (parseMethodDescriptor yX4_inlet.desc).map (fun d => d.parameters.length) = some 2) := by decide +kernel
theorem qdX4_join : (yX4_join.cls = RX4 ∧ yX4_join.cls ≠ "java/lang/invoke/MethodHandle" ∧ yX4_join.cls ≠ "java/lang/invoke/VarHandle" ∧ (parseMethodDescriptor yX4_join.desc).map (fun d => d.parameters.length) = some 2) := by decide +kernel
theorem qdX4_lake : (yX4_lake.cls = RX4 ∧ yX4_lake.cls ≠ "java/lang/invoke/MethodHandle" ∧ yX4_lake.cls ≠ "java/lang/invoke/VarHandle" ∧ (parseMethodDescriptor yX4_lake.desc).map (fun d => d.parameters.length) = some 2) := by decide +kernel
theorem qdX4_lose : (yX4_lose.cls = RX4 ∧ yX4_lose.cls ≠ "java/lang/invoke/MethodHandle" ∧ yX4_lose.cls ≠ "java/lang/invoke/VarHandle" ∧ (parseMethodDescriptor yX4_lose.desc).map (fun d => d.parameters.length) = some 1) := by decide +kernel
theorem qdX4_many : (yX4_many.cls = RX4 ∧ yX4_many.cls ≠ "java/lang/invoke/MethodHandle" ∧ yX4_many.cls ≠ "java/lang/invoke/VarHandle" ∧ (parseMethodDescriptor yX4_many.desc).map (fun d => d.parameters.length) = some 1) := by decide +kernel
theorem qdX4_manyInRun : (yX4_manyInRun.cls = RX4 ∧ yX4_manyInRun.cls ≠ "java/lang/invoke/MethodHandle" ∧ yX4_manyInRun.cls ≠ "java/lang/invoke/VarHandle" ∧ (parseMethodDescriptor yX4_manyInRun.desc).map (fun d => d.parameters.length) = some 1) := by decide +kernel
theorem qdX4_mayHinder : (yX4_mayHinder.cls = RX4 ∧ yX4_mayHinder.cls ≠ "java/lang/invoke/MethodHandle" ∧ yX4_mayHinder.cls ≠ "java/lang/invoke/VarHandle" ∧ (parseMethodDescriptor yX4_mayHinder.desc).map (fun d => d.parameters.length) = some 1) := by decide +kernel
theorem qdX4_now : (yX4_now.cls = RX4 ∧ yX4_now.cls ≠ "java/lang/invoke/MethodHandle" ∧ yX4_now.cls ≠ "java/lang/invoke/VarHandle" ∧ (parseMethodDescriptor yX4_now.desc).map (fun d => d.parameters.length) = some 2) := by decide +kernel
theorem qdX4_of : (yX4_of.cls = RX4 ∧ yX4_of.cls ≠ "java/lang/invoke/MethodHandle" ∧ yX4_of.cls ≠ "java/lang/invoke/VarHandle" ∧ (parseMethodDescriptor yX4_of.desc).map (fun d => d.parameters.length) = some 2) := by decide +kernel
theorem qdX4_opened : (yX4_opened.cls = RX4 ∧ yX4_opened.cls ≠ "java/lang/invoke/MethodHandle" ∧ yX4_opened.cls ≠ "java/lang/invoke/VarHandle" ∧ (parseMethodDescriptor yX4_opened.desc).map (fun d => d.parameters.length) = some 1) := by decide +kernel
theorem qdX4_pore : (yX4_pore.cls = RX4 ∧ yX4_pore.cls ≠ "java/lang/invoke/MethodHandle" ∧ yX4_pore.cls ≠ "java/lang/invoke/VarHandle" ∧ (parseMethodDescriptor yX4_pore.desc).map (fun d => d.parameters.length) = some 1) := by decide +kernel
theorem qdX4_pour : (yX4_pour.cls = RX4 ∧ yX4_pour.cls ≠ "java/lang/invoke/MethodHandle" ∧ yX4_pour.cls ≠ "java/lang/invoke/VarHandle" ∧ (parseMethodDescriptor yX4_pour.desc).map (fun d => d.parameters.length) = some 4) := by decide +kernel
theorem qdX4_pourOne : (yX4_pourOne.cls = RX4 ∧ yX4_pourOne.cls ≠ "java/lang/invoke/MethodHandle" ∧ yX4_pourOne.cls ≠ "java/lang/invoke/VarHandle" ∧ (parseMethodDescriptor yX4_pourOne.desc).map (fun d => d.parameters.length) = some 3) := by decide +kernel
theorem qdX4_ranked : (yX4_ranked.cls = RX4 ∧ yX4_ranked.cls ≠ "java/lang/invoke/MethodHandle" ∧ yX4_ranked.cls ≠ "java/lang/invoke/VarHandle" ∧ (parseMethodDescriptor yX4_ranked.desc).map (fun d => d.parameters.length) = some 1) := by decide +kernel
theorem qdX4_run : (yX4_run.cls = RX4 ∧ yX4_run.cls ≠ "java/lang/invoke/MethodHandle" ∧ yX4_run.cls ≠ "java/lang/invoke/VarHandle" ∧ (parseMethodDescriptor yX4_run.desc).map (fun d => d.parameters.length) = some 1) := by decide +kernel
theorem qdX4_shut : (yX4_shut.cls = RX4 ∧ yX4_shut.cls ≠ "java/lang/invoke/MethodHandle" ∧ yX4_shut.cls ≠ "java/lang/invoke/VarHandle" ∧ (parseMethodDescriptor yX4_shut.desc).map (fun d => d.parameters.length) = some 2) := by decide +kernel
theorem qdX4_splice : (yX4_splice.cls = RX4 ∧ yX4_splice.cls ≠ "java/lang/invoke/MethodHandle" ∧ yX4_splice.cls ≠ "java/lang/invoke/VarHandle" ∧ (parseMethodDescriptor yX4_splice.desc).map (fun d => d.parameters.length) = some 5) := by decide +kernel
theorem qdX4_step : (yX4_step.cls = RX4 ∧ yX4_step.cls ≠ "java/lang/invoke/MethodHandle" ∧ yX4_step.cls ≠ "java/lang/invoke/VarHandle" ∧ (parseMethodDescriptor yX4_step.desc).map (fun d => d.parameters.length) = some 0) := by decide +kernel
theorem qdX4_throat : (yX4_throat.cls = RX4 ∧ yX4_throat.cls ≠ "java/lang/invoke/MethodHandle" ∧ yX4_throat.cls ≠ "java/lang/invoke/VarHandle" ∧ (parseMethodDescriptor yX4_throat.desc).map (fun d => d.parameters.length) = some 2) := by decide +kernel
theorem qdX4_through : (yX4_through.cls = RX4 ∧ yX4_through.cls ≠ "java/lang/invoke/MethodHandle" ∧ yX4_through.cls ≠ "java/lang/invoke/VarHandle" ∧ (parseMethodDescriptor yX4_through.desc).map (fun d => d.parameters.length) = some 0) := by decide +kernel
theorem qdX4_told : (yX4_told.cls = RX4 ∧ yX4_told.cls ≠ "java/lang/invoke/MethodHandle" ∧ yX4_told.cls ≠ "java/lang/invoke/VarHandle" ∧ (parseMethodDescriptor yX4_told.desc).map (fun d => d.parameters.length) = some 2) := by decide +kernel
theorem qdX4_trapping : (yX4_trapping.cls = RX4 ∧ yX4_trapping.cls ≠ "java/lang/invoke/MethodHandle" ∧ yX4_trapping.cls ≠ "java/lang/invoke/VarHandle" ∧ (parseMethodDescriptor yX4_trapping.desc).map (fun d => d.parameters.length) = some 1) := by decide +kernel
theorem qdX4_tree : (yX4_tree.cls = RX4 ∧ yX4_tree.cls ≠ "java/lang/invoke/MethodHandle" ∧ yX4_tree.cls ≠ "java/lang/invoke/VarHandle" ∧ (parseMethodDescriptor yX4_tree.desc).map (fun d => d.parameters.length) = some 1) := by decide +kernel
theorem qdX4_unclaim : (yX4_unclaim.cls = RX4 ∧ yX4_unclaim.cls ≠ "java/lang/invoke/MethodHandle" ∧ yX4_unclaim.cls ≠ "java/lang/invoke/VarHandle" ∧ (parseMethodDescriptor yX4_unclaim.desc).map (fun d => d.parameters.length) = some 0) := by decide +kernel
theorem qdX4_undo : (yX4_undo.cls = RX4 ∧ yX4_undo.cls ≠ "java/lang/invoke/MethodHandle" ∧ yX4_undo.cls ≠ "java/lang/invoke/VarHandle" ∧ (parseMethodDescriptor yX4_undo.desc).map (fun d => d.parameters.length) = some 1) := by decide +kernel
theorem qdX4_way : (yX4_way.cls = RX4 ∧ yX4_way.cls ≠ "java/lang/invoke/MethodHandle" ∧ yX4_way.cls ≠ "java/lang/invoke/VarHandle" ∧ (parseMethodDescriptor yX4_way.desc).map (fun d => d.parameters.length) = some 2) := by decide +kernel
theorem qdX4_wild : (yX4_wild.cls = RX4 ∧ yX4_wild.cls ≠ "java/lang/invoke/MethodHandle" ∧ yX4_wild.cls ≠ "java/lang/invoke/VarHandle" ∧ (parseMethodDescriptor yX4_wild.desc).map (fun d => d.parameters.length) = some 3) := by decide +kernel
theorem qdX4_worst : (yX4_worst.cls = RX4 ∧ yX4_worst.cls ≠ "java/lang/invoke/MethodHandle" ∧ yX4_worst.cls ≠ "java/lang/invoke/VarHandle" ∧ (parseMethodDescriptor yX4_worst.desc).map (fun d => d.parameters.length) = some 1) := by decide +kernel
theorem qdX5_about : (yX5_about.cls = RX5 ∧ yX5_about.cls ≠ "java/lang/invoke/MethodHandle" ∧ yX5_about.cls ≠ "java/lang/invoke/VarHandle" ∧ (parseMethodDescriptor yX5_about.desc).map (fun d => d.parameters.length) = some 2) := by decide +kernel
theorem qdX5_alter : (yX5_alter.cls = RX5 ∧ yX5_alter.cls ≠ "java/lang/invoke/MethodHandle" ∧ yX5_alter.cls ≠ "java/lang/invoke/VarHandle" ∧ (parseMethodDescriptor yX5_alter.desc).map (fun d => d.parameters.length) = some 2) := by decide +kernel
theorem qdX5_apart : (yX5_apart.cls = RX5 ∧ yX5_apart.cls ≠ "java/lang/invoke/MethodHandle" ∧ yX5_apart.cls ≠ "java/lang/invoke/VarHandle" ∧ (parseMethodDescriptor yX5_apart.desc).map (fun d => d.parameters.length) = some 0) := by decide +kernel
theorem qdX5_begin : (yX5_begin.cls = RX5 ∧ yX5_begin.cls ≠ "java/lang/invoke/MethodHandle" ∧ yX5_begin.cls ≠ "java/lang/invoke/VarHandle" ∧ (parseMethodDescriptor yX5_begin.desc).map (fun d => d.parameters.length) = some 0) := by decide +kernel
theorem qdX5_behind : (yX5_behind.cls = RX5 ∧ yX5_behind.cls ≠ "java/lang/invoke/MethodHandle" ∧ yX5_behind.cls ≠ "java/lang/invoke/VarHandle" ∧ (parseMethodDescriptor yX5_behind.desc).map (fun d => d.parameters.length) = some 1) := by decide +kernel
theorem qdX5_bestAt : (yX5_bestAt.cls = RX5 ∧ yX5_bestAt.cls ≠ "java/lang/invoke/MethodHandle" ∧ yX5_bestAt.cls ≠ "java/lang/invoke/VarHandle" ∧ (parseMethodDescriptor yX5_bestAt.desc).map (fun d => d.parameters.length) = some 2) := by decide +kernel
theorem qdX5_cell : (yX5_cell.cls = RX5 ∧ yX5_cell.cls ≠ "java/lang/invoke/MethodHandle" ∧ yX5_cell.cls ≠ "java/lang/invoke/VarHandle" ∧ (parseMethodDescriptor yX5_cell.desc).map (fun d => d.parameters.length) = some 4) := by decide +kernel
theorem qdX5_check : (yX5_check.cls = RX5 ∧ yX5_check.cls ≠ "java/lang/invoke/MethodHandle" ∧ yX5_check.cls ≠ "java/lang/invoke/VarHandle" ∧ (parseMethodDescriptor yX5_check.desc).map (fun d => d.parameters.length) = some 0) := by decide +kernel
theorem qdX5_claim : (yX5_claim.cls = RX5 ∧ yX5_claim.cls ≠ "java/lang/invoke/MethodHandle" ∧ yX5_claim.cls ≠ "java/lang/invoke/VarHandle" ∧ (parseMethodDescriptor yX5_claim.desc).map (fun d => d.parameters.length) = some 1) := by decide +kernel
theorem qdX5_copy : (yX5_copy.cls = RX5 ∧ yX5_copy.cls ≠ "java/lang/invoke/MethodHandle" ∧ yX5_copy.cls ≠ "java/lang/invoke/VarHandle" ∧ (parseMethodDescriptor yX5_copy.desc).map (fun d => d.parameters.length) = some 0) := by decide +kernel
theorem qdX5_core : (yX5_core.cls = RX5 ∧ yX5_core.cls ≠ "java/lang/invoke/MethodHandle" ∧ yX5_core.cls ≠ "java/lang/invoke/VarHandle" ∧ (parseMethodDescriptor yX5_core.desc).map (fun d => d.parameters.length) = some 3) := by decide +kernel
theorem qdX5_countPores : (yX5_countPores.cls = RX5 ∧ yX5_countPores.cls ≠ "java/lang/invoke/MethodHandle" ∧ yX5_countPores.cls ≠ "java/lang/invoke/VarHandle" ∧ (parseMethodDescriptor yX5_countPores.desc).map (fun d => d.parameters.length) = some 1) := by decide +kernel
theorem qdX5_front : (yX5_front.cls = RX5 ∧ yX5_front.cls ≠ "java/lang/invoke/MethodHandle" ∧ yX5_front.cls ≠ "java/lang/invoke/VarHandle" ∧ (parseMethodDescriptor yX5_front.desc).map (fun d => d.parameters.length) = some 1) := by decide +kernel
theorem qdX5_hasRow : (yX5_hasRow.cls = RX5 ∧ yX5_hasRow.cls ≠ "java/lang/invoke/MethodHandle" ∧ yX5_hasRow.cls ≠ "java/lang/invoke/VarHandle" ∧ (parseMethodDescriptor yX5_hasRow.desc).map (fun d => d.parameters.length) = some 3) := by decide +kernel
theorem qdX5_hinder : (yX5_hinder.cls = RX5 ∧ yX5_hinder.cls ≠ "java/lang/invoke/MethodHandle" ∧ yX5_hinder.cls ≠ "java/lang/invoke/VarHandle" ∧ (parseMethodDescriptor yX5_hinder.desc).map (fun d => d.parameters.length) = some 2) := by decide +kernel
theorem qdX5_inlet : (yX5_inlet.cls = RX5 ∧ yX5_inlet.cls ≠ "java/lang/invoke/MethodHandle" ∧ yX5_inlet.cls ≠ "java/lang/invoke/VarHandle" ∧ (parseMethodDescriptor yX5_inlet.desc).map (fun d => d.parameters.length) = some 2) := by decide +kernel
theorem qdX5_isCandidate : (yX5_isCandidate.cls = RX5 ∧ yX5_isCandidate.cls ≠ "java/lang/invoke/MethodHandle" ∧ yX5_isCandidate.cls ≠ "java/lang/invoke/VarHandle" ∧ (parseMethodDescriptor yX5_isCandidate.desc).map (fun d => d.parameters.length) = some 1) := by decide +kernel
theorem qdX5_isCore : (yX5_isCore.cls = RX5 ∧ yX5_isCore.cls ≠ "java/lang/invoke/MethodHandle" ∧ yX5_isCore.cls ≠ "java/lang/invoke/VarHandle" ∧ (parseMethodDescriptor yX5_isCore.desc).map (fun d => d.parameters.length) = some 1) := by decide +kernel
theorem qdX5_isFilled : (yX5_isFilled.cls = RX5 ∧ yX5_isFilled.cls ≠ "java/lang/invoke/MethodHandle" ∧ yX5_isFilled.cls ≠ "java/lang/invoke/VarHandle" ∧ (parseMethodDescriptor yX5_isFilled.desc).map (fun d => d.parameters.length) = some 1) := by decide +kernel
theorem qdX5_isFree : (yX5_isFree.cls = RX5 ∧ yX5_isFree.cls ≠ "java/lang/invoke/MethodHandle" ∧ yX5_isFree.cls ≠ "java/lang/invoke/VarHandle" ∧ (parseMethodDescriptor yX5_isFree.desc).map (fun d => d.parameters.length) = some 1) := by decide +kernel
theorem qdX5_isLess : (yX5_isLess.cls = RX5 ∧ yX5_isLess.cls ≠ "java/lang/invoke/MethodHandle" ∧ yX5_isLess.cls ≠ "java/lang/invoke/VarHandle" ∧ (parseMethodDescriptor yX5_isLess.desc).map (fun d => d.parameters.length) = some 2) := by decide +kernel
theorem qdX5_isPore : (yX5_isPore.cls = RX5 ∧ yX5_isPore.cls ≠ "java/lang/invoke/MethodHandle" ∧ yX5_isPore.cls ≠ "java/lang/invoke/VarHandle" ∧ (parseMethodDescriptor yX5_isPore.desc).map (fun d => d.parameters.length) = some 1) := by decide +kernel
theorem qdX5_isThroat : (yX5_isThroat.cls = RX5 ∧ yX5_isThroat.cls ≠ "java/lang/invoke/MethodHandle" ∧ yX5_isThroat.cls ≠ "java/lang/invoke/VarHandle" ∧ (parseMethodDescriptor yX5_isThroat.desc).map (fun d => d.parameters.length) = some 1) := by decide +kernel
theorem qdX5_join : (yX5_join.cls = RX5 ∧ yX5_join.cls ≠ "java/lang/invoke/MethodHandle" ∧ yX5_join.cls ≠ "java/lang/invoke/VarHandle" ∧ (parseMethodDescriptor yX5_join.desc).map (fun d => d.parameters.length) = some 2) := by decide +kernel
theorem qdX5_keep : (yX5_keep.cls = RX5 ∧ yX5_keep.cls ≠ "java/lang/invoke/MethodHandle" ∧ yX5_keep.cls ≠ "java/lang/invoke/VarHandle" ∧ (parseMethodDescriptor yX5_keep.desc).map (fun d => d.parameters.length) = some 1) := by decide +kernel
theorem qdX5_lake : (yX5_lake.cls = RX5 ∧ yX5_lake.cls ≠ "java/lang/invoke/MethodHandle" ∧ yX5_lake.cls ≠ "java/lang/invoke/VarHandle" ∧ (parseMethodDescriptor yX5_lake.desc).map (fun d => d.parameters.length) = some 2) := by decide +kernel
theorem qdX5_leads : (yX5_leads.cls = RX5 ∧ yX5_leads.cls ≠ "java/lang/invoke/MethodHandle" ∧ yX5_leads.cls ≠ "java/lang/invoke/VarHandle" ∧ (parseMethodDescriptor yX5_leads.desc).map (fun d => d.parameters.length) = some 2) := by decide +kernel
theorem qdX5_lose : (yX5_lose.cls = RX5 ∧ yX5_lose.cls ≠ "java/lang/invoke/MethodHandle" ∧ yX5_lose.cls ≠ "java/lang/invoke/VarHandle" ∧ (parseMethodDescriptor yX5_lose.desc).map (fun d => d.parameters.length) = some 1) := by decide +kernel
theorem qdX5_many : (yX5_many.cls = RX5 ∧ yX5_many.cls ≠ "java/lang/invoke/MethodHandle" ∧ yX5_many.cls ≠ "java/lang/invoke/VarHandle" ∧ (parseMethodDescriptor yX5_many.desc).map (fun d => d.parameters.length) = some 1) := by decide +kernel
theorem qdX5_nextThroat : (yX5_nextThroat.cls = RX5 ∧ yX5_nextThroat.cls ≠ "java/lang/invoke/MethodHandle" ∧ yX5_nextThroat.cls ≠ "java/lang/invoke/VarHandle" ∧ (parseMethodDescriptor yX5_nextThroat.desc).map (fun d => d.parameters.length) = some 0) := by decide +kernel
theorem qdX5_now : (yX5_now.cls = RX5 ∧ yX5_now.cls ≠ "java/lang/invoke/MethodHandle" ∧ yX5_now.cls ≠ "java/lang/invoke/VarHandle" ∧ (parseMethodDescriptor yX5_now.desc).map (fun d => d.parameters.length) = some 2) := by decide +kernel
theorem qdX5_of : (yX5_of.cls = RX5 ∧ yX5_of.cls ≠ "java/lang/invoke/MethodHandle" ∧ yX5_of.cls ≠ "java/lang/invoke/VarHandle" ∧ (parseMethodDescriptor yX5_of.desc).map (fun d => d.parameters.length) = some 2) := by decide +kernel
theorem qdX5_open : (yX5_open.cls = RX5 ∧ yX5_open.cls ≠ "java/lang/invoke/MethodHandle" ∧ yX5_open.cls ≠ "java/lang/invoke/VarHandle" ∧ (parseMethodDescriptor yX5_open.desc).map (fun d => d.parameters.length) = some 1) := by decide +kernel
theorem qdX5_opened : (yX5_opened.cls = RX5 ∧ yX5_opened.cls ≠ "java/lang/invoke/MethodHandle" ∧ yX5_opened.cls ≠ "java/lang/invoke/VarHandle" ∧ (parseMethodDescriptor yX5_opened.desc).map (fun d => d.parameters.length) = some 1) := by decide +kernel
theorem qdX5_plainRun : (yX5_plainRun.cls = RX5 ∧ yX5_plainRun.cls ≠ "java/lang/invoke/MethodHandle" ∧ yX5_plainRun.cls ≠ "java/lang/invoke/VarHandle" ∧ (parseMethodDescriptor yX5_plainRun.desc).map (fun d => d.parameters.length) = some 0) := by decide +kernel
theorem qdX5_pore : (yX5_pore.cls = RX5 ∧ yX5_pore.cls ≠ "java/lang/invoke/MethodHandle" ∧ yX5_pore.cls ≠ "java/lang/invoke/VarHandle" ∧ (parseMethodDescriptor yX5_pore.desc).map (fun d => d.parameters.length) = some 1) := by decide +kernel
theorem qdX5_pour : (yX5_pour.cls = RX5 ∧ yX5_pour.cls ≠ "java/lang/invoke/MethodHandle" ∧ yX5_pour.cls ≠ "java/lang/invoke/VarHandle" ∧ (parseMethodDescriptor yX5_pour.desc).map (fun d => d.parameters.length) = some 4) := by decide +kernel
theorem qdX5_rank : (yX5_rank.cls = RX5 ∧ yX5_rank.cls ≠ "java/lang/invoke/MethodHandle" ∧ yX5_rank.cls ≠ "java/lang/invoke/VarHandle" ∧ (parseMethodDescriptor yX5_rank.desc).map (fun d => d.parameters.length) = some 1) := by decide +kernel
theorem qdX5_ranked : (yX5_ranked.cls = RX5 ∧ yX5_ranked.cls ≠ "java/lang/invoke/MethodHandle" ∧ yX5_ranked.cls ≠ "java/lang/invoke/VarHandle" ∧ (parseMethodDescriptor yX5_ranked.desc).map (fun d => d.parameters.length) = some 1) := by decide +kernel
theorem qdX5_run : (yX5_run.cls = RX5 ∧ yX5_run.cls ≠ "java/lang/invoke/MethodHandle" ∧ yX5_run.cls ≠ "java/lang/invoke/VarHandle" ∧ (parseMethodDescriptor yX5_run.desc).map (fun d => d.parameters.length) = some 1) := by decide +kernel
theorem qdX5_shut : (yX5_shut.cls = RX5 ∧ yX5_shut.cls ≠ "java/lang/invoke/MethodHandle" ∧ yX5_shut.cls ≠ "java/lang/invoke/VarHandle" ∧ (parseMethodDescriptor yX5_shut.desc).map (fun d => d.parameters.length) = some 2) := by decide +kernel
theorem qdX5_splice : (yX5_splice.cls = RX5 ∧ yX5_splice.cls ≠ "java/lang/invoke/MethodHandle" ∧ yX5_splice.cls ≠ "java/lang/invoke/VarHandle" ∧ (parseMethodDescriptor yX5_splice.desc).map (fun d => d.parameters.length) = some 5) := by decide +kernel
theorem qdX5_spreadLake : (yX5_spreadLake.cls = RX5 ∧ yX5_spreadLake.cls ≠ "java/lang/invoke/MethodHandle" ∧ yX5_spreadLake.cls ≠ "java/lang/invoke/VarHandle" ∧ (parseMethodDescriptor yX5_spreadLake.desc).map (fun d => d.parameters.length) = some 1) := by decide +kernel
theorem qdX5_start : (yX5_start.cls = RX5 ∧ yX5_start.cls ≠ "java/lang/invoke/MethodHandle" ∧ yX5_start.cls ≠ "java/lang/invoke/VarHandle" ∧ (parseMethodDescriptor yX5_start.desc).map (fun d => d.parameters.length) = some 0) := by decide +kernel
theorem qdX5_step : (yX5_step.cls = RX5 ∧ yX5_step.cls ≠ "java/lang/invoke/MethodHandle" ∧ yX5_step.cls ≠ "java/lang/invoke/VarHandle" ∧ (parseMethodDescriptor yX5_step.desc).map (fun d => d.parameters.length) = some 0) := by decide +kernel
theorem qdX5_tellLakes : (yX5_tellLakes.cls = RX5 ∧ yX5_tellLakes.cls ≠ "java/lang/invoke/MethodHandle" ∧ yX5_tellLakes.cls ≠ "java/lang/invoke/VarHandle" ∧ (parseMethodDescriptor yX5_tellLakes.desc).map (fun d => d.parameters.length) = some 0) := by decide +kernel
theorem qdX5_throat : (yX5_throat.cls = RX5 ∧ yX5_throat.cls ≠ "java/lang/invoke/MethodHandle" ∧ yX5_throat.cls ≠ "java/lang/invoke/VarHandle" ∧ (parseMethodDescriptor yX5_throat.desc).map (fun d => d.parameters.length) = some 2) := by decide +kernel
theorem qdX5_through : (yX5_through.cls = RX5 ∧ yX5_through.cls ≠ "java/lang/invoke/MethodHandle" ∧ yX5_through.cls ≠ "java/lang/invoke/VarHandle" ∧ (parseMethodDescriptor yX5_through.desc).map (fun d => d.parameters.length) = some 0) := by decide +kernel
theorem qdX5_tie : (yX5_tie.cls = RX5 ∧ yX5_tie.cls ≠ "java/lang/invoke/MethodHandle" ∧ yX5_tie.cls ≠ "java/lang/invoke/VarHandle" ∧ (parseMethodDescriptor yX5_tie.desc).map (fun d => d.parameters.length) = some 1) := by decide +kernel
theorem qdX5_told : (yX5_told.cls = RX5 ∧ yX5_told.cls ≠ "java/lang/invoke/MethodHandle" ∧ yX5_told.cls ≠ "java/lang/invoke/VarHandle" ∧ (parseMethodDescriptor yX5_told.desc).map (fun d => d.parameters.length) = some 2) := by decide +kernel
theorem qdX5_trap : (yX5_trap.cls = RX5 ∧ yX5_trap.cls ≠ "java/lang/invoke/MethodHandle" ∧ yX5_trap.cls ≠ "java/lang/invoke/VarHandle" ∧ (parseMethodDescriptor yX5_trap.desc).map (fun d => d.parameters.length) = some 0) := by decide +kernel
theorem qdX5_trapping : (yX5_trapping.cls = RX5 ∧ yX5_trapping.cls ≠ "java/lang/invoke/MethodHandle" ∧ yX5_trapping.cls ≠ "java/lang/invoke/VarHandle" ∧ (parseMethodDescriptor yX5_trapping.desc).map (fun d => d.parameters.length) = some 1) := by decide +kernel
theorem qdX5_tree : (yX5_tree.cls = RX5 ∧ yX5_tree.cls ≠ "java/lang/invoke/MethodHandle" ∧ yX5_tree.cls ≠ "java/lang/invoke/VarHandle" ∧ (parseMethodDescriptor yX5_tree.desc).map (fun d => d.parameters.length) = some 1) := by decide +kernel
theorem qdX5_unclaim : (yX5_unclaim.cls = RX5 ∧ yX5_unclaim.cls ≠ "java/lang/invoke/MethodHandle" ∧ yX5_unclaim.cls ≠ "java/lang/invoke/VarHandle" ∧ (parseMethodDescriptor yX5_unclaim.desc).map (fun d => d.parameters.length) = some 0) := by decide +kernel
theorem qdX5_undo : (yX5_undo.cls = RX5 ∧ yX5_undo.cls ≠ "java/lang/invoke/MethodHandle" ∧ yX5_undo.cls ≠ "java/lang/invoke/VarHandle" ∧ (parseMethodDescriptor yX5_undo.desc).map (fun d => d.parameters.length) = some 1) := by decide +kernel
theorem qdX5_way : (yX5_way.cls = RX5 ∧ yX5_way.cls ≠ "java/lang/invoke/MethodHandle" ∧ yX5_way.cls ≠ "java/lang/invoke/VarHandle" ∧ (parseMethodDescriptor yX5_way.desc).map (fun d => d.parameters.length) = some 2) := by decide +kernel
theorem qdX5_wholeOf : (yX5_wholeOf.cls = RX5 ∧ yX5_wholeOf.cls ≠ "java/lang/invoke/MethodHandle" ∧ yX5_wholeOf.cls ≠ "java/lang/invoke/VarHandle" ∧ (parseMethodDescriptor yX5_wholeOf.desc).map (fun d => d.parameters.length) = some 2) := by decide +kernel
theorem qdX5_wild : (yX5_wild.cls = RX5 ∧ yX5_wild.cls ≠ "java/lang/invoke/MethodHandle" ∧ yX5_wild.cls ≠ "java/lang/invoke/VarHandle" ∧ (parseMethodDescriptor yX5_wild.desc).map (fun d => d.parameters.length) = some 3) := by decide +kernel
theorem qdX5_worst : (yX5_worst.cls = RX5 ∧ yX5_worst.cls ≠ "java/lang/invoke/MethodHandle" ∧ yX5_worst.cls ≠ "java/lang/invoke/VarHandle" ∧ (parseMethodDescriptor yX5_worst.desc).map (fun d => d.parameters.length) = some 1) := by decide +kernel

