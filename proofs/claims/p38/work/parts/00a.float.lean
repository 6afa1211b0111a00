/-! quotients of ints are numbers -/
theorem fj_dle {x : UInt64} (h : FP.Core.dIsNaN x = false) : x &&& 0x7fffffffffffffff ≤ 0x7ff0000000000000 := by
  have h1 : ¬ 9218868437227405312 < x.toNat % 2 ^ 63 := fun z => by
    rw [(FP.Core.isNaN_bits x).mpr z] at h
    cases h
  rw [UInt64.le_iff_toNat_le, UInt64.toNat_and]
  have e : (0x7fffffffffffffff : UInt64).toNat = 2 ^ 63 - 1 := by decide
  have e2 : (0x7ff0000000000000 : UInt64).toNat = 9218868437227405312 := by decide
  rw [e, e2, Nat.and_two_pow_sub_one_eq_mod]
  omega
theorem fj_fle {x : UInt32} (h : FP.Core.fIsNaN x = false) : x &&& 0x7fffffff ≤ 0x7f800000 := by
  have h1 : ¬ 2139095040 < x.toNat % 2 ^ 31 := fun z => by
    rw [(FP.Core.isNaN_bits32 x).mpr z] at h
    cases h
  rw [UInt32.le_iff_toNat_le, UInt32.toNat_and]
  have e : (0x7fffffff : UInt32).toNat = 2 ^ 31 - 1 := by decide
  have e2 : (0x7f800000 : UInt32).toNat = 2139095040 := by decide
  rw [e, e2, Nat.and_two_pow_sub_one_eq_mod]
  omega
theorem fj_dq {a b : Int32} (hb : b ≠ 0) : FP.Core.dIsNaN (FP.ddiv (FP.i2d a) (FP.i2d b)) = false := by
  have h1 := FP.Core.i2d_mag a
  have h2 := FP.Core.i2d_big (FP.Core.int32_ne hb)
  have h3 := FP.Core.ddiv_mag (K := 1056) (L := 1023) h1 h2.1 h2.2 (by omega) (by omega)
  refine ((FP.Core.fin_bits _).mpr ?_).notNaN
  have h4 : (FP.ddiv (FP.i2d a) (FP.i2d b)).toNat % 2 ^ 63 < 1057 * 2 ^ 52 := h3
  omega
theorem fj_fq {a b : Int32} (hb : b ≠ 0) : FP.Core.fIsNaN (FP.fdiv (FP.i2f a) (FP.i2f b)) = false := by
  have h1 := FP.Core.i2f_mag a
  have h2 := FP.Core.i2f_big (FP.Core.int32_ne hb)
  have h3 := FP.Core.fdiv_mag (K := 160) (L := 127) h1 h2.1 h2.2 (by omega) (by omega)
  refine ((FP.Core.fin_bits32 _).mpr ?_).notNaN
  have h4 : (FP.fdiv (FP.i2f a) (FP.i2f b)).toNat % 2 ^ 31 < 161 * 2 ^ 23 := h3
  omega
theorem fj_dc {x : UInt64} (h : FP.Core.dIsNaN x = false) : Op.cmpValue (FP.dcmp x x) .l = nI 0 := by
  rw [show FP.dcmp x x = some .eq from FP.Core.dcmp_self ((FP.Core.notNaN_iff x).mp h)]
  rfl
theorem fj_fd {x : UInt32} (h : FP.Core.fIsNaN x = false) : FP.Core.dIsNaN (FP.f2d x) = false := (FP.f2d_nan x).trans h
