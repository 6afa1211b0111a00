/-! sets of nodes as ints of the machine -/
theorem fb_bt (M : Nat) {i : Nat} (hi : i < 32) : (nI M).toBitVec.getLsbD i = M.testBit i := by
  show (BitVec.ofNat 32 M).getLsbD i = _
  rw [BitVec.getLsbD_ofNat, decide_eq_true hi, Bool.true_and]
theorem fb_ext {x y : Int32} (h : ∀ i, i < 32 → x.toBitVec.getLsbD i = y.toBitVec.getLsbD i) : x = y := Int32.toBitVec_inj.mp (BitVec.eq_of_getLsbD_eq fun i hi => h i hi)
theorem fb_hi {M i : Nat} (hM : M < 4096) (hi : 12 ≤ i) : M.testBit i = false := Nat.testBit_lt_two_pow (Nat.lt_of_lt_of_le hM (Nat.pow_le_pow_right (n := 2) (by decide) hi))
theorem fb_1 : ∀ i, i < 12 → nI 1 <<< (nI i &&& 31) = nI (2 ^ i) := by decide +kernel
theorem fb_m1 : ∀ i, i < 32 → (Int32.ofInt (-1)).toBitVec.getLsbD i = true := by decide +kernel
theorem fb_or {M i : Nat} (hi : i < 12) : nI M ||| (nI 1 <<< (nI i &&& 31)) = nI (M ||| 2 ^ i) := by
  rw [fb_1 i hi]
  refine fb_ext fun k hk => ?_
  rw [Int32.toBitVec_or, BitVec.getLsbD_or, fb_bt _ hk, fb_bt _ hk, fb_bt _ hk, Nat.testBit_or]
theorem fb_or_lt {M i : Nat} (hM : M < 4096) (hi : i < 12) : M ||| 2 ^ i < 4096 := Nat.or_lt_two_pow (n := 12) hM (Nat.pow_lt_pow_right (by decide) hi)
theorem fb_or_bit (M i j : Nat) : (M ||| 2 ^ i).testBit j = (M.testBit j || decide (i = j)) := by
  rw [Nat.testBit_or, Nat.testBit_two_pow]
theorem fb_and (A B : Nat) : nI A &&& nI B = nI (A &&& B) := by
  refine fb_ext fun k hk => ?_
  rw [Int32.toBitVec_and, BitVec.getLsbD_and, fb_bt _ hk, fb_bt _ hk, fb_bt _ hk, Nat.testBit_and]
theorem fb_and_lt {A B : Nat} (h : A < 4096) : A &&& B < 4096 := Nat.lt_of_le_of_lt Nat.and_le_left h
theorem fb_4095 : ∀ i, i < 12 → (4095 : Nat).testBit i = true := by decide +kernel
def fb_cl (M i : Nat) : Nat := M &&& (4095 ^^^ 2 ^ i)
theorem fb_clr {M i : Nat} (hM : M < 4096) (hi : i < 12) : nI M &&& ((nI 1 <<< (nI i &&& 31)) ^^^ (Int32.ofInt (-1))) = nI (fb_cl M i) := by
  rw [fb_1 i hi]
  refine fb_ext fun k hk => ?_
  unfold fb_cl
  rw [Int32.toBitVec_and, BitVec.getLsbD_and, Int32.toBitVec_xor, BitVec.getLsbD_xor, fb_m1 k hk, fb_bt _ hk, fb_bt _ hk, fb_bt _ hk, Nat.testBit_and, Nat.testBit_xor]
  by_cases h : k < 12
  · rw [fb_4095 k h, Bool.xor_comm]
  · rw [fb_hi hM (by omega), Bool.false_and, Bool.false_and]
theorem fb_cl_lt {M i : Nat} (h : M < 4096) : fb_cl M i < 4096 := fb_and_lt h
theorem fb_cl_bit {M i j : Nat} (hj : j < 12) : (fb_cl M i).testBit j = (M.testBit j && !decide (i = j)) := by
  unfold fb_cl
  rw [Nat.testBit_and, Nat.testBit_xor, fb_4095 j hj, Nat.testBit_two_pow, Bool.true_xor]
theorem fb_sub {S C : Nat} (hS : S < 4096) : (nI S &&& (nI C ^^^ (Int32.ofInt (-1))) = nI 0) ↔ ∀ i, S.testBit i = true → C.testBit i = true := by
  constructor
  · intro h i hi
    have h12 : i < 12 := Nat.lt_of_not_le fun z => by rw [fb_hi hS z] at hi; cases hi
    have hk : i < 32 := by omega
    have h1 := congrArg (fun x => x.toBitVec.getLsbD i) h
    rw [Int32.toBitVec_and, BitVec.getLsbD_and, Int32.toBitVec_xor, BitVec.getLsbD_xor, fb_m1 i hk, fb_bt _ hk, fb_bt _ hk, fb_bt _ hk, hi, Nat.zero_testBit] at h1
    cases hc : C.testBit i
    · rw [hc] at h1; cases h1
    · rfl
  · intro h
    refine fb_ext fun k hk => ?_
    rw [Int32.toBitVec_and, BitVec.getLsbD_and, Int32.toBitVec_xor, BitVec.getLsbD_xor, fb_m1 k hk, fb_bt _ hk, fb_bt _ hk, fb_bt _ hk, Nat.zero_testBit]
    cases hs : S.testBit k
    · rfl
    · rw [h k hs]; rfl
/-- what Integer.bitCount reckons -/
def fb_bc (x0 : Int32) : Int32 := ((((((((x0 - (((x0.toUInt32 >>> ((nI 1).toUInt32 &&& Int32.toUInt32 31)).toInt32) &&& (nI 1431655765))) &&& (nI 858993459)) + ((((x0 - (((x0.toUInt32 >>> ((nI 1).toUInt32 &&& Int32.toUInt32 31)).toInt32) &&& (nI 1431655765))).toUInt32 >>> ((nI 2).toUInt32 &&& Int32.toUInt32 31)).toInt32) &&& (nI 858993459))) + (((((x0 - (((x0.toUInt32 >>> ((nI 1).toUInt32 &&& Int32.toUInt32 31)).toInt32) &&& (nI 1431655765))) &&& (nI 858993459)) + ((((x0 - (((x0.toUInt32 >>> ((nI 1).toUInt32 &&& Int32.toUInt32 31)).toInt32) &&& (nI 1431655765))).toUInt32 >>> ((nI 2).toUInt32 &&& Int32.toUInt32 31)).toInt32) &&& (nI 858993459))).toUInt32 >>> ((nI 4).toUInt32 &&& Int32.toUInt32 31)).toInt32)) &&& (nI 252645135)) + (((((((x0 - (((x0.toUInt32 >>> ((nI 1).toUInt32 &&& Int32.toUInt32 31)).toInt32) &&& (nI 1431655765))) &&& (nI 858993459)) + ((((x0 - (((x0.toUInt32 >>> ((nI 1).toUInt32 &&& Int32.toUInt32 31)).toInt32) &&& (nI 1431655765))).toUInt32 >>> ((nI 2).toUInt32 &&& Int32.toUInt32 31)).toInt32) &&& (nI 858993459))) + (((((x0 - (((x0.toUInt32 >>> ((nI 1).toUInt32 &&& Int32.toUInt32 31)).toInt32) &&& (nI 1431655765))) &&& (nI 858993459)) + ((((x0 - (((x0.toUInt32 >>> ((nI 1).toUInt32 &&& Int32.toUInt32 31)).toInt32) &&& (nI 1431655765))).toUInt32 >>> ((nI 2).toUInt32 &&& Int32.toUInt32 31)).toInt32) &&& (nI 858993459))).toUInt32 >>> ((nI 4).toUInt32 &&& Int32.toUInt32 31)).toInt32)) &&& (nI 252645135)).toUInt32 >>> ((nI 8).toUInt32 &&& Int32.toUInt32 31)).toInt32)) + ((((((((x0 - (((x0.toUInt32 >>> ((nI 1).toUInt32 &&& Int32.toUInt32 31)).toInt32) &&& (nI 1431655765))) &&& (nI 858993459)) + ((((x0 - (((x0.toUInt32 >>> ((nI 1).toUInt32 &&& Int32.toUInt32 31)).toInt32) &&& (nI 1431655765))).toUInt32 >>> ((nI 2).toUInt32 &&& Int32.toUInt32 31)).toInt32) &&& (nI 858993459))) + (((((x0 - (((x0.toUInt32 >>> ((nI 1).toUInt32 &&& Int32.toUInt32 31)).toInt32) &&& (nI 1431655765))) &&& (nI 858993459)) + ((((x0 - (((x0.toUInt32 >>> ((nI 1).toUInt32 &&& Int32.toUInt32 31)).toInt32) &&& (nI 1431655765))).toUInt32 >>> ((nI 2).toUInt32 &&& Int32.toUInt32 31)).toInt32) &&& (nI 858993459))).toUInt32 >>> ((nI 4).toUInt32 &&& Int32.toUInt32 31)).toInt32)) &&& (nI 252645135)) + (((((((x0 - (((x0.toUInt32 >>> ((nI 1).toUInt32 &&& Int32.toUInt32 31)).toInt32) &&& (nI 1431655765))) &&& (nI 858993459)) + ((((x0 - (((x0.toUInt32 >>> ((nI 1).toUInt32 &&& Int32.toUInt32 31)).toInt32) &&& (nI 1431655765))).toUInt32 >>> ((nI 2).toUInt32 &&& Int32.toUInt32 31)).toInt32) &&& (nI 858993459))) + (((((x0 - (((x0.toUInt32 >>> ((nI 1).toUInt32 &&& Int32.toUInt32 31)).toInt32) &&& (nI 1431655765))) &&& (nI 858993459)) + ((((x0 - (((x0.toUInt32 >>> ((nI 1).toUInt32 &&& Int32.toUInt32 31)).toInt32) &&& (nI 1431655765))).toUInt32 >>> ((nI 2).toUInt32 &&& Int32.toUInt32 31)).toInt32) &&& (nI 858993459))).toUInt32 >>> ((nI 4).toUInt32 &&& Int32.toUInt32 31)).toInt32)) &&& (nI 252645135)).toUInt32 >>> ((nI 8).toUInt32 &&& Int32.toUInt32 31)).toInt32)).toUInt32 >>> ((nI 16).toUInt32 &&& Int32.toUInt32 31)).toInt32)) &&& (nI 63))
def fb_ct (M : Nat) : Nat := fg_cn M.testBit 12
theorem fb_bc0 : ∀ m, m < 256 → fb_bc (nI (0 + m)) = nI (fb_ct (0 + m)) := by decide +kernel
theorem fb_bc1 : ∀ m, m < 256 → fb_bc (nI (256 + m)) = nI (fb_ct (256 + m)) := by decide +kernel
theorem fb_bc2 : ∀ m, m < 256 → fb_bc (nI (512 + m)) = nI (fb_ct (512 + m)) := by decide +kernel
theorem fb_bc3 : ∀ m, m < 256 → fb_bc (nI (768 + m)) = nI (fb_ct (768 + m)) := by decide +kernel
theorem fb_bc4 : ∀ m, m < 256 → fb_bc (nI (1024 + m)) = nI (fb_ct (1024 + m)) := by decide +kernel
theorem fb_bc5 : ∀ m, m < 256 → fb_bc (nI (1280 + m)) = nI (fb_ct (1280 + m)) := by decide +kernel
theorem fb_bc6 : ∀ m, m < 256 → fb_bc (nI (1536 + m)) = nI (fb_ct (1536 + m)) := by decide +kernel
theorem fb_bc7 : ∀ m, m < 256 → fb_bc (nI (1792 + m)) = nI (fb_ct (1792 + m)) := by decide +kernel
theorem fb_bc8 : ∀ m, m < 256 → fb_bc (nI (2048 + m)) = nI (fb_ct (2048 + m)) := by decide +kernel
theorem fb_bc9 : ∀ m, m < 256 → fb_bc (nI (2304 + m)) = nI (fb_ct (2304 + m)) := by decide +kernel
theorem fb_bc10 : ∀ m, m < 256 → fb_bc (nI (2560 + m)) = nI (fb_ct (2560 + m)) := by decide +kernel
theorem fb_bc11 : ∀ m, m < 256 → fb_bc (nI (2816 + m)) = nI (fb_ct (2816 + m)) := by decide +kernel
theorem fb_bc12 : ∀ m, m < 256 → fb_bc (nI (3072 + m)) = nI (fb_ct (3072 + m)) := by decide +kernel
theorem fb_bc13 : ∀ m, m < 256 → fb_bc (nI (3328 + m)) = nI (fb_ct (3328 + m)) := by decide +kernel
theorem fb_bc14 : ∀ m, m < 256 → fb_bc (nI (3584 + m)) = nI (fb_ct (3584 + m)) := by decide +kernel
theorem fb_bc15 : ∀ m, m < 256 → fb_bc (nI (3840 + m)) = nI (fb_ct (3840 + m)) := by decide +kernel
theorem fb_bcA {M : Nat} (hM : M < 4096) : fb_bc (nI M) = nI (fb_ct M) := by
  have hr : M % 256 < 256 := Nat.mod_lt _ (by decide)
  have hd : M = 256 * (M / 256) + M % 256 := (Nat.div_add_mod M 256).symm
  generalize hq : M / 256 = q at hd
  generalize M % 256 = r at hd hr
  have hq16 : q < 16 := by omega
  subst hd
  match q, hq16 with
  | 0, _ => exact fb_bc0 r hr
  | 1, _ => exact fb_bc1 r hr
  | 2, _ => exact fb_bc2 r hr
  | 3, _ => exact fb_bc3 r hr
  | 4, _ => exact fb_bc4 r hr
  | 5, _ => exact fb_bc5 r hr
  | 6, _ => exact fb_bc6 r hr
  | 7, _ => exact fb_bc7 r hr
  | 8, _ => exact fb_bc8 r hr
  | 9, _ => exact fb_bc9 r hr
  | 10, _ => exact fb_bc10 r hr
  | 11, _ => exact fb_bc11 r hr
  | 12, _ => exact fb_bc12 r hr
  | 13, _ => exact fb_bc13 r hr
  | 14, _ => exact fb_bc14 r hr
  | 15, _ => exact fb_bc15 r hr
  | q + 16, h => exact absurd h (by omega)
theorem sp_168 {X : Nat × (Nat → Int32)} {N : fm_N} {K : Int32 → fm_N → Prop} {X' : Nat → fm_N → Prop} {M : Nat} (hM : M < 4096) (h : K (nI (fb_ct M)) N) : fm_Ci (fm_PP X) 168 [.inl (.int (nI M))] (N, fm_SH) K X' := by
  refine fe_168 X _ N K X' ⟨rfl, ?_⟩
  have e := fb_bcA hM
  unfold fb_bc at e
  rw [e]
  exact h
theorem fb_ct_le (M : Nat) : fb_ct M ≤ 12 := fg_cn_le _ 12
theorem fg_cn_sub {f g : Nat → Bool} : ∀ m, (∀ i, i < m → f i = true → g i = true) → fg_cn f m ≤ fg_cn g m := by
  intro m
  induction m with
  | zero => intro _; exact Nat.le_refl _
  | succ m ih =>
    intro h
    have h1 := ih fun i hi => h i (by omega)
    unfold fg_cn
    by_cases hf : f m = true
    · rw [if_pos hf, if_pos (h m (by omega) hf)]; omega
    · rw [if_neg hf]; split <;> omega
