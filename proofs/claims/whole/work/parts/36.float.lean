/-! floats: what the cores' numbers need -/
theorem ff_mask64 (a : UInt64) : (a &&& 0x7fffffffffffffff).toNat = a.toNat % 2 ^ 63 := by
  rw [UInt64.toNat_and]
  exact Nat.and_two_pow_sub_one_eq_mod a.toNat 63
theorem ff_mask32 (a : UInt32) : (a &&& 0x7fffffff).toNat = a.toNat % 2 ^ 31 := by
  rw [UInt32.toNat_and]
  exact Nat.and_two_pow_sub_one_eq_mod a.toNat 31
theorem ff_n64 {a : UInt64} (h : FP.Core.dIsNaN a = false) : vf_n64 a := by
  unfold vf_n64
  rw [UInt64.le_iff_toNat_le, ff_mask64]
  exact (FP.Core.ne_nan a).mp ((FP.Core.notNaN_iff a).mp h)
theorem ff_n32 {a : UInt32} (h : FP.Core.fIsNaN a = false) : vf_n32 a := by
  unfold vf_n32
  rw [UInt32.le_iff_toNat_le, ff_mask32]
  exact (FP.Core.ne_nan32 a).mp ((FP.Core.notNaN_iff32 a).mp h)
theorem ff_pow32 : ∀ k : Nat, k < 31 → FP.Core.zval FP.Core.b32 (FP.Core.val32 (FP.i2f (nI 1 <<< (nI k &&& 31)))) ≠ 0 := by decide +kernel
theorem ff_pow64 : ∀ k : Nat, k < 31 → FP.Core.zval FP.Core.b64 (FP.Core.val64 (FP.i2d (nI 1 <<< (nI k &&& 31)))) ≠ 0 := by decide +kernel
theorem ff_fdiv (v : Int64) {k : Nat} (hk : k < 31) : FP.Core.fIsNaN (FP.fdiv (FP.l2f v) (FP.i2f (nI 1 <<< (nI k &&& 31)))) = false :=
  FP.Core.fdiv_out (FP.Core.l2f_notNaN v) (FP.Core.i2f_fin _) (FP.Core.fnot_zero (FP.Core.i2f_fin _).ne_nan (ff_pow32 k hk))
theorem ff_ddiv (v : Int64) {k : Nat} (hk : k < 31) : FP.Core.dIsNaN (FP.ddiv (FP.l2d v) (FP.i2d (nI 1 <<< (nI k &&& 31)))) = false :=
  FP.Core.ddiv_out (FP.Core.l2d_notNaN v) (FP.Core.i2d_fin _) (FP.Core.dnot_zero (FP.Core.i2d_fin _).ne_nan (ff_pow64 k hk))
theorem ff_f2d_eq {a : UInt32} (h : FP.Core.fIsNaN a = false) : FP.f2d a = FP.Core.f2d a := by
  unfold FP.f2d
  rw [h]
  first | done | rfl
theorem ff_f2d {a : UInt32} (h : FP.Core.fIsNaN a = false) : FP.Core.dIsNaN (FP.f2d a) = false := by
  rw [ff_f2d_eq h]
  exact FP.Core.f2d_out h
theorem ff_one : FP.Core.one64 = FP.Core.one32 * 2 ^ 925 := by decide +kernel
theorem ff_f2l {a : UInt32} (h : FP.Core.fIsNaN a = false) : FP.f2l a = FP.d2l (FP.f2d a) := by
  have hn := (FP.Core.notNaN_iff32 a).mp h
  have hd := FP.Core.f2d_out h
  rw [ff_f2d_eq h]
  have hm := (FP.Core.notNaN_iff _).mp hd
  refine Int64.toInt.inj ?_
  show (FP.Core.f2l a).toInt = (FP.Core.d2l (FP.Core.f2d a)).toInt
  have hf := FP.Core.val32_fits a
  cases e : FP.Core.val32 a with
  | nan => exact absurd e hn
  | inf s =>
    have e2 : FP.Core.val64 (FP.Core.f2d a) = .inf s := by rw [FP.Core.val64_f2d, e]; rfl
    show (Int64.ofInt (FP.Core.toInt (-2 ^ 63) (2 ^ 63 - 1) (FP.Core.val32 a))).toInt = (Int64.ofInt (FP.Core.toInt (-2 ^ 63) (2 ^ 63 - 1) (FP.Core.val64 (FP.Core.f2d a)))).toInt
    rw [e, e2]
  | fin s c q =>
    rw [e] at hf
    obtain ⟨c', q', hfit, -, hv⟩ := FP.Core.within_fit FP.Core.good_b64 FP.Core.within_32_64 hf
    have e2 : FP.Core.val64 (FP.Core.f2d a) = .fin s c' q' := by
      rw [FP.Core.val64_f2d, e]
      exact FP.Core.roundRatio_exact FP.Core.good_b64 (by decide) hfit hv
    rw [FP.Core.f2l_val hn, FP.Core.d2l_val hm, e, e2]
    show max _ (min _ (FP.Core.signed s _)) = max _ (min _ (FP.Core.signed s _))
    have key : FP.Core.zmag FP.Core.b64 (.fin s c' q') = FP.Core.zmag FP.Core.b32 (.fin s c q) * 2 ^ 925 := by
      show c' * 2 ^ (q' - FP.Core.b64.qmin).toNat = c * 2 ^ (q - FP.Core.b32.qmin).toNat * 2 ^ 925
      have m64 : FP.Core.b64.qmin = -1074 := by decide
      have m32 : FP.Core.b32.qmin = -149 := by decide
      have h1 : FP.Core.b32.qmin ≤ q := hf.2.1
      have h2 : FP.Core.b64.qmin ≤ q' := hfit.2.1
      rw [m32] at h1
      rw [m64] at h2
      rw [m64, m32]
      rw [Nat.mul_one] at hv
      rcases Int.le_total q q' with w | w
      · rw [show (q - q').toNat = 0 by omega, Nat.pow_zero, Nat.mul_one] at hv
        rw [hv, Nat.mul_assoc, Nat.mul_assoc, ← Nat.pow_add, ← Nat.pow_add]
        congr 2
        omega
      · rw [show (q' - q).toNat = 0 by omega, Nat.pow_zero, Nat.mul_one] at hv
        rw [← hv, Nat.mul_assoc, Nat.mul_assoc, ← Nat.pow_add, ← Nat.pow_add]
        congr 2
        omega
    rw [key, ff_one, Nat.mul_div_mul_right _ _ (Nat.two_pow_pos 925)]
theorem ff_cmp (a : UInt64) : (Op.cmpValue (FP.dcmp a a) .l = 0) ↔ FP.Core.dIsNaN a = false := by
  constructor
  · intro h
    cases hn : FP.Core.dIsNaN a with
    | false => rfl
    | true =>
      exfalso
      have : FP.dcmp a a = none := by
        cases hc : FP.Core.dcmp a a with
        | none => exact hc
        | some o =>
          have := (FP.Core.dcmp_notNaN hc).1
          rw [hn] at this
          cases this
      rw [this] at h
      revert h
      decide
  · intro h
    have : FP.dcmp a a = some .eq := FP.Core.dcmp_refl h
    rw [this]
    rfl
theorem ff_c0 : FP.d2l FP.dconst0 = 0 ∧ FP.Core.dIsNaN FP.dconst0 = false := by decide +kernel
theorem ff_w0 : FP.d2l 9221120237041090560 = 0 ∧ FP.Core.dIsNaN 9221120237041090560 = true := by decide +kernel
theorem ff_w1 : FP.d2l 9218868437227405312 = 9223372036854775807 ∧ FP.Core.dIsNaN 9218868437227405312 = false := by decide +kernel
theorem ff_w2 : FP.d2l 18442240474082181120 = -9223372036854775808 ∧ FP.Core.dIsNaN 18442240474082181120 = false := by decide +kernel
theorem ff_w3 : FP.d2l 9223372036854775808 = 0 ∧ FP.Core.dIsNaN 9223372036854775808 = false := by decide +kernel
