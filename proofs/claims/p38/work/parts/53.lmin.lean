/-! a minute of the law's net -/
/-- the class's cells alike; garbage more by d -/
def fl_V (d : Nat) (N N' : fm_N) : Prop := (∀ c, c ≠ 0 → c < fm_L0 → N'.1 c = N.1 c) ∧ N'.2.1 = N.2.1 ∧ N'.2.2.1 = N.2.2.1 ∧ N'.2.2.2 = N.2.2.2 + d
theorem fl_V.rf (N : fm_N) : fl_V 0 N N := ⟨fun _ _ _ => rfl, rfl, rfl, rfl⟩
theorem fl_V.tr {d e : Nat} {N N' N'' : fm_N} (h : fl_V d N N') (k : fl_V e N' N'') : fl_V (d + e) N N'' := ⟨fun c a b => (k.1 c a b).trans (h.1 c a b), k.2.1.trans h.2.1, k.2.2.1.trans h.2.2.1, by have := h.2.2.2; have := k.2.2.2; omega⟩
theorem fl_V.F {a : Nat} {N N' : fm_N} (h : fl_F a N N') : fl_V 0 N N' := ⟨fun c hc _ => h.1 c hc, by rw [h.2.2], by rw [h.2.2], by rw [h.2.2]; rfl⟩
section FLM
variable {X : Nat × (Nat → Int32)} {R N : fm_N} {mi M : Nat} {K : Int32 → fm_N → Prop} {X' : Nat → fm_N → Prop}
theorem fl_Z_end {N1 Y W : fm_N} {A : fg_A} {o : Nat → Nat} {fc S : Nat} (hT : fl_T R N M mi) (hmi : mi < 1000) (hM : ∀ i, M.testBit i = true → i < fg_n (fk_gG R)) (hSn : ∀ i, S.testBit i = true → i < fg_n (fk_gG R)) (a1 : fl_F 400 N N1) (c0 : ∀ j, Y.1 0 j = N1.1 0 j) (hz : ∀ i, i < 8 → fg_n (fk_gG R) ≤ i → N1.1 0 (400 + i) = nI 0) (above : ∀ j, fg_n (fk_gG R) ≤ j → (fl_nx R A o fc (fg_n (fk_gG R)) S).1 8 j = R.1 8 j) (w : fl_Z R Y W A o fc (fg_n (fk_gG R)) S M mi (fg_n (fk_gG R))) :
    fl_T (fl_nx R A o fc (fg_n (fk_gG R)) S) (fm_uI W.1 0 4 (W.1 0 4 + nI 1), W.2) S (mi + 1) := by
  obtain ⟨hD, hG, hi8, hZ0, h4, h5, hmi'⟩ := hT
  have h8 := hG.2.2.1
  have gok := hG.2.2.2.2.1
  obtain ⟨w1, w2, w3, w4, ⟨cc, w5, w6, w7⟩, w9⟩ := w
  have r8 := fl_nx_8 R A o fc (fg_n (fk_gG R)) S
  have r23 := fl_nx_23 R A o fc (fg_n (fk_gG R)) S
  have rc : ∀ c, c ≠ 8 → c ≠ 23 → c ≠ 1 → (fl_nx R A o fc (fg_n (fk_gG R)) S).1 c = R.1 c := fun c a b d => fl_nx_c a b d
  have r1 := fl_nx_1 R A o fc (fg_n (fk_gG R)) S
  have rl := fl_nx_l R A o fc (fg_n (fk_gG R)) S
  have rdt := fl_nx_dt R A o fc (fg_n (fk_gG R)) S
  generalize fl_nx R A o fc (fg_n (fk_gG R)) S = R' at r8 r23 rc r1 rl rdt w4 w9 above ⊢
  have en : fg_n (fk_gG R') = fg_n (fk_gG R) := by
    show (R'.1 4 8).toNatClampNeg = (R.1 4 8).toNatClampNeg
    rw [rc 4 (by omega) (by omega) (by omega)]
  have et : fg_t (fk_gG R') = fg_t (fk_gG R) := by
    show (R'.1 4 9).toNatClampNeg = (R.1 4 9).toNatClampNeg
    rw [rc 4 (by omega) (by omega) (by omega)]
  have ep : ∀ i, fg_p (fk_gG R') i = fg_p (fk_gG R) i := fun i => by
    show (R'.1 5 i).toNatClampNeg = (R.1 5 i).toNatClampNeg
    rw [rc 5 (by omega) (by omega) (by omega)]
  have ew : ∀ i, fg_w (fk_gG R') i = !decide (nI 100 ≤ R'.1 8 i) := fun i => rfl
  have er : ∀ i, fg_r (fk_gG R') i = fg_r (fk_gG R) i := fun i => by
    show R'.1 6 i = R.1 6 i
    rw [rc 6 (by omega) (by omega) (by omega)]
  have ea : ∀ i, fg_a (fk_gG R') i = fg_a (fk_gG R) i := fun i => by
    show (R'.1 10 i).toNatClampNeg = (R.1 10 i).toNatClampNeg
    rw [rc 10 (by omega) (by omega) (by omega)]
  have eb' : ∀ i, fg_b (fk_gG R') i = fg_b (fk_gG R) i := fun i => by
    show (R'.1 11 i).toNatClampNeg = (R.1 11 i).toNatClampNeg
    rw [rc 11 (by omega) (by omega) (by omega)]
  have ex : ∀ i, fg_x (fk_gG R') i = fg_x (fk_gG R) i := fun i => by
    show R'.1 12 i = R.1 12 i
    rw [rc 12 (by omega) (by omega) (by omega)]
  -- cells of the net that are as before
  have base : ∀ j, j ≠ 4 → j ≠ 5 → j ≠ 6 → ¬ (110 ≤ j ∧ j < 118) → ¬ (130 ≤ j ∧ j < 138) → ¬ (150 ≤ j ∧ j < 158) → ¬ (170 ≤ j ∧ j < 178) → fm_uI W.1 0 4 (W.1 0 4 + nI 1) 0 j = N1.1 0 j := fun j q4 q5 q6 b1 b2 b3 b4 => by
    rw [fz_an _ _ _ _ q4, w3 j q5 q6 b1 b2 b3 b4, c0]
  have baseN : ∀ j, j < 400 → j ≠ 4 → j ≠ 5 → j ≠ 6 → ¬ (110 ≤ j ∧ j < 118) → ¬ (130 ≤ j ∧ j < 138) → ¬ (150 ≤ j ∧ j < 158) → ¬ (170 ≤ j ∧ j < 178) → fm_uI W.1 0 4 (W.1 0 4 + nI 1) 0 j = N.1 0 j := fun j hj q4 q5 q6 b1 b2 b3 b4 => by
    rw [base j q4 q5 q6 b1 b2 b3 b4, a1.2.1 j hj]
  have e8 : ∀ j, (if j < fg_n (fk_gG R) then R'.1 8 j else R.1 8 j) = R'.1 8 j := fun j => by
    by_cases z : j < fg_n (fk_gG R)
    · rw [if_pos z]
    · rw [if_neg z, above j (by omega)]
  have e23 : ∀ j, (if j < fg_n (fk_gG R) then R'.1 23 j else R.1 23 j) = R'.1 23 j := fun j => by
    by_cases z : j < fg_n (fk_gG R)
    · rw [if_pos z]
    · rw [if_neg z, r23, if_neg (fun y => z y.1)]
  have eb : ∀ j, (if j < fg_n (fk_gG R) then S.testBit j else M.testBit j) = S.testBit j := fun j => by
    by_cases z : j < fg_n (fk_gG R)
    · rw [if_pos z]
    · rw [if_neg z]
      have q1 : M.testBit j = false := Bool.eq_false_iff.mpr fun y => z (hM j y)
      have q2 : S.testBit j = false := Bool.eq_false_iff.mpr fun y => z (hSn j y)
      rw [q1, q2]
  have w4' : ∀ j, j < 8 → fm_uI W.1 0 4 (W.1 0 4 + nI 1) 0 (110 + j) = R'.1 23 j ∧ fm_uI W.1 0 4 (W.1 0 4 + nI 1) 0 (130 + j) = R'.1 8 j ∧ fm_uI W.1 0 4 (W.1 0 4 + nI 1) 0 (150 + j) = fz_b (decide (nI 100 ≤ R'.1 8 j)) ∧ fm_uI W.1 0 4 (W.1 0 4 + nI 1) 0 (170 + j) = fz_b (S.testBit j) := fun j hj => by
    have h := w4 j hj
    rw [e8, e23, eb] at h
    rw [fz_an _ _ _ _ (by omega), fz_an _ _ _ _ (by omega), fz_an _ _ _ _ (by omega), fz_an _ _ _ _ (by omega)]
    exact h
  obtain ⟨d1, d2, d3, d4⟩ := hD
  refine ⟨⟨?_, ?_, fun i hi => ?_, fun u hu => ?_⟩, ⟨?_, ?_, ?_, ?_, ?_, fun i hi => ?_, fun q hq => ?_⟩, fun i hi => ⟨(w4' i hi).1, (w4' i hi).2.1, (w4' i hi).2.2.2, ?_⟩, fun i hi hin => ?_, ?_, ⟨cc, ?_, ?_, ?_⟩, by omega⟩
  · show fm_uI W.1 0 4 (W.1 0 4 + nI 1) 0 2 = _
    rw [baseN 2 (by omega) (by omega) (by omega) (by omega) (by omega) (by omega) (by omega) (by omega), r1, if_neg (by omega)]; exact d1
  · show fm_uI W.1 0 4 (W.1 0 4 + nI 1) 0 3 = _
    rw [baseN 3 (by omega) (by omega) (by omega) (by omega) (by omega) (by omega) (by omega) (by omega), r1, if_neg (by omega)]; exact d2
  · show fm_uI W.1 0 4 (W.1 0 4 + nI 1) 0 (50 + i) = _ ∧ fm_uI W.1 0 4 (W.1 0 4 + nI 1) 0 (70 + i) = _ ∧ fm_uI W.1 0 4 (W.1 0 4 + nI 1) 0 (90 + i) = _
    rw [baseN (50 + i) (by omega) (by omega) (by omega) (by omega) (by omega) (by omega) (by omega) (by omega), baseN (70 + i) (by omega) (by omega) (by omega) (by omega) (by omega) (by omega) (by omega) (by omega), baseN (90 + i) (by omega) (by omega) (by omega) (by omega) (by omega) (by omega) (by omega) (by omega), rc 7 (by omega) (by omega) (by omega), rc 62 (by omega) (by omega) (by omega), rc 22 (by omega) (by omega) (by omega)]
    exact d3 i hi
  · obtain ⟨L, l1, l2, l3, l4, l5⟩ := d4 u hu
    obtain ⟨t0, t1, t2⟩ := rdt.2.2.2.2.2 u (by omega)
    rw [t0, t1, t2]
    refine ⟨L, l1, l2, ?_, ?_, fun q hq1 hqL => ?_⟩
    · show fm_uI W.1 0 4 (W.1 0 4 + nI 1) 0 (210 + u) = _
      rw [baseN (210 + u) (by omega) (by omega) (by omega) (by omega) (by omega) (by omega) (by omega) (by omega)]; exact l3
    · show fm_uI W.1 0 4 (W.1 0 4 + nI 1) 0 (190 + u) = _
      rw [baseN (190 + u) (by omega) (by omega) (by omega) (by omega) (by omega) (by omega) (by omega) (by omega)]; exact l4
    · show fm_uI W.1 0 4 (W.1 0 4 + nI 1) 0 (228 + 8 * u + 2 * q + 1) = _ ∧ (fm_uI W.1 0 4 (W.1 0 4 + nI 1) 0 (228 + 8 * u + 2 * q) = nI 0 ↔ _)
      rw [baseN (228 + 8 * u + 2 * q + 1) (by omega) (by omega) (by omega) (by omega) (by omega) (by omega) (by omega) (by omega), baseN (228 + 8 * u + 2 * q) (by omega) (by omega) (by omega) (by omega) (by omega) (by omega) (by omega) (by omega)]
      exact l5 q hq1 hqL
  · show fm_uI W.1 0 4 (W.1 0 4 + nI 1) 0 0 = _
    rw [baseN 0 (by omega) (by omega) (by omega) (by omega) (by omega) (by omega) (by omega) (by omega), en]; exact hG.1
  · show fm_uI W.1 0 4 (W.1 0 4 + nI 1) 0 1 = _
    rw [baseN 1 (by omega) (by omega) (by omega) (by omega) (by omega) (by omega) (by omega) (by omega), et]; exact hG.2.1
  · rw [en]; exact h8
  · rw [et]; exact hG.2.2.2.1
  · exact ⟨by rw [en]; exact gok.1, fun c h1 h2 => by rw [ep]; exact gok.2.1 c h1 (by rw [← en]; exact h2), fun q hq => by rw [ea, eb', en]; exact gok.2.2 q (by rw [← et]; exact hq)⟩
  · show fm_uI W.1 0 4 (W.1 0 4 + nI 1) 0 (10 + i) = _ ∧ fm_uI W.1 0 4 (W.1 0 4 + nI 1) 0 (150 + i) = _ ∧ fm_uI W.1 0 4 (W.1 0 4 + nI 1) 0 (30 + i) = _
    rw [baseN (10 + i) (by omega) (by omega) (by omega) (by omega) (by omega) (by omega) (by omega) (by omega), baseN (30 + i) (by omega) (by omega) (by omega) (by omega) (by omega) (by omega) (by omega) (by omega), ep, er, ew, (w4' i hi).2.2.1]
    refine ⟨(hG.2.2.2.2.2.1 i hi).1, ?_, (hG.2.2.2.2.2.1 i hi).2.2⟩
    rw [Bool.not_not]
  · show fm_uI W.1 0 4 (W.1 0 4 + nI 1) 0 (340 + 3 * q) = _ ∧ fm_uI W.1 0 4 (W.1 0 4 + nI 1) 0 (341 + 3 * q) = _ ∧ fm_uI W.1 0 4 (W.1 0 4 + nI 1) 0 (342 + 3 * q) = _
    rw [baseN (340 + 3 * q) (by omega) (by omega) (by omega) (by omega) (by omega) (by omega) (by omega) (by omega), baseN (341 + 3 * q) (by omega) (by omega) (by omega) (by omega) (by omega) (by omega) (by omega) (by omega), baseN (342 + 3 * q) (by omega) (by omega) (by omega) (by omega) (by omega) (by omega) (by omega) (by omega), ea, eb', ex]
    exact hG.2.2.2.2.2.2 q hq
  · obtain ⟨e, e1, e2⟩ := (hi8 i hi).2.2.2
    rw [r23]
    by_cases z : i < fg_n (fk_gG R) ∧ ¬ R.1 22 i ≤ nI 0 ∧ S.testBit i = false
    · rw [if_pos z, e1, nI_add]; exact ⟨e + 1, rfl, by omega⟩
    · rw [if_neg z, e1]; exact ⟨e, rfl, by omega⟩
  · show fm_uI W.1 0 4 (W.1 0 4 + nI 1) 0 (400 + i) = _
    rw [base (400 + i) (by omega) (by omega) (by omega) (by omega) (by omega) (by omega) (by omega), ]
    rw [en] at hin
    exact hz i hi hin
  · show fm_uI W.1 0 4 (W.1 0 4 + nI 1) 0 4 = _
    rw [fz_ae, w3 4 (by omega) (by omega) (by omega) (by omega) (by omega) (by omega), c0, a1.2.1 4 (by omega), r1, if_pos rfl, h4]
  · show fm_uI W.1 0 4 (W.1 0 4 + nI 1) 0 5 = _
    rw [fz_an _ _ _ _ (by omega)]; exact w5
  · rw [rl]; exact w6
  · omega
theorem sp_199 (hT : fl_T R N M mi) (hK : fl_K R) (hM : ∀ i, M.testBit i = true → i < fg_n (fk_gG R)) (hmi : mi < 1000)
    (k : ∀ N' A o fc S, fg_Fin (fk_gG R) A → ft_ok (fg_F A) o (fg_D A) fc → S < 256 → (∀ i, S.testBit i = true → i < fg_n (fk_gG R)) → fk_cm R (fl_nx R A o fc (fg_n (fk_gG R)) S) A o fc (fg_n (fk_gG R)) S → fl_T (fl_nx R A o fc (fg_n (fk_gG R)) S) N' S (mi + 1) → fl_K (fl_nx R A o fc (fg_n (fk_gG R)) S) → fl_V 1 N N' → N'.1 0 6 = N.1 0 6 + nI (fg_cn (fh_b (R.1 8) ((fl_nx R A o fc (fg_n (fk_gG R)) S).1 8)) 12) → K (nI S) N') :
    fm_Ci (fm_PP X) 199 [.inl (.ref 0)] (N, fm_SH) K X' := by
  obtain ⟨hD, hG, hi8, hZ0, h4, h5, hmi'⟩ := hT
  refine fe_199 X N K X' (sp_195 hG hZ0 (fun N1 A a1 a2 a3 a4 => ?_))
  obtain ⟨o, fc, x⟩ := fl_X_of (hD.fr a1) hK.1 (hG.fr a1) a2 a3 a4
  obtain ⟨xD, xr, xG, xS, xok, xn, xfc, xC, xC0, xF0⟩ := id x
  have h8 := hG.2.2.1
  have gok := hG.2.2.2.2.1
  have hw : ∀ c, fg_w (fk_gG R) c = true → ¬ nI 100 ≤ R.1 8 c := fun c hc z => by
    have h2 : (!decide (nI 100 ≤ R.1 8 c)) = true := hc
    rw [decide_eq_true z] at h2
    cases h2
  have hCn : ∀ u, fg_F A u = true → 0 < fg_C A u → fg_C A u < fg_n (fk_gG R) := fun u hu hc => (fg_cab gok a4 hu hc).1.2.1
  have fok : fh_ok (fg_F A) (fg_C A) (R.1 8) := ⟨fun u v a b c d => fg_cab_inj gok a4 a b c d, fun u hu hc => hw _ (fg_cab gok a4 hu hc).1.2.2⟩
  refine lp_199a (mi := mi) x (fun i hi => ⟨by rw [a1.2.1 (110 + i) (by omega)]; exact (hi8 i hi).1, (hi8 i hi).2.2.2⟩) hmi' (fun S o3 o4 o5 x2 s1 s2 => ?_) _ 0 0 _ _ _ rfl (Nat.zero_le _) (by omega) (funext fun i => Nat.zero_testBit i)
  have hin := fq_sv_in _ _ s2
  have hSn : ∀ i, S.testBit i = true → i < fg_n (fk_gG R) := fun i hi => xn i (hin.1 i hi).1
  have hcm := fl_nx_cm (n := fg_n (fk_gG R)) s2
  obtain ⟨g, hg⟩ : ∃ g, g = N1.2.2.2 := ⟨_, rfl⟩
  rw [← hg]
  obtain ⟨P, hP⟩ : ∃ P : fm_N, P = ((fm_nw N1.1 (fm_L0 + g)), N1.2.1, N1.2.2.1, g + 1) := ⟨_, rfl⟩
  rw [← hP]
  have hL0 : (0 : Nat) ≠ fm_L0 + g := by unfold fm_L0; omega
  have hPc : ∀ c, c ≠ fm_L0 + g → P.1 c = N1.1 c := fun c hc => by
    rw [hP]
    funext i
    exact if_neg hc
  have hPm : fm_mk P.1 g := by
    rw [hP]
    show (if fm_L0 + g = fm_L0 + g then (if 5000 = 5000 then nI 21 else nI 0) else N1.1 (fm_L0 + g) 5000) = nI 21
    rw [if_pos rfl, if_pos rfl]
  have hPr : ∀ c, c < 8 → P.1 (fm_L0 + g) c = nI 0 := fun c hc => by
    rw [hP]
    show (if fm_L0 + g = fm_L0 + g then (if c = 5000 then nI 21 else nI 0) else N1.1 (fm_L0 + g) c) = nI 0
    rw [if_pos rfl, if_neg (by omega)]
  have hP2 : P.2 = (N1.2.1, N1.2.2.1, g + 1) := by rw [hP]
  refine fb_199_65 X _ _ _ _ _ _ P _ ?_
  refine lp_199b (fl_X_0 x (hPc 0 hL0)) a4 hK (fun i hi => by rw [hPc 0 hL0, a1.2.1 (130 + i) (by omega)]; exact (hi8 i hi).2.1) hw s1 (fun Y o4 o5 y1 y2 y3 y4 => ?_) _ 1 P _ _ rfl (Nat.le_refl _) gok.1 (fun _ _ => rfl) rfl hPm (fun c hc => ?_)
  · have c0 : ∀ j, Y.1 0 j = N1.1 0 j := fun j => by rw [y1 0 hL0, hPc 0 hL0]
    have x' := fl_X_0 x (show Y.1 0 = N1.1 0 by rw [y1 0 hL0, hPc 0 hL0])
    have b22 : ∀ i, i < 8 → ∃ e, R.1 22 i = nI e ∧ e ≤ 64 := fun i hi => by
      obtain ⟨q1, q2⟩ := (hK.1.1 i (by omega)).2.1
      obtain ⟨j, _, hj⟩ := nI_of (x := R.1 22 i) (by
        have h0 : (0 : Int32) = nI 0 := nI_0.symm
        rw [h0, fz_ltI, fz_nI (by omega)]
        omega)
      refine ⟨j, hj, ?_⟩
      rw [hj, fz_nI (by omega)] at q2
      omega
    have w8 : ∀ j, j < 8 → Y.1 0 (150 + j) = fz_b (decide (nI 100 ≤ R.1 8 j)) := fun j hj => by
      rw [(x'.2.2.1.2.2.2.2.2.1 j hj).2.1]
      show fz_b (!!decide (nI 100 ≤ R.1 8 j)) = _
      rw [Bool.not_not]
    refine lp_199c (R := R) (P := Y) (M := M) (mi := mi) (A := A) (o := o) (fc := fc) (n := fg_n (fk_gG R)) s1 h8 x'.2.2.1.1 y3 (fun i hi => ⟨(x'.1.2.2.1 i hi).2.2, b22 i hi⟩) (fun i hi => y4 i hi) (fun W w => ⟨rfl, ?kk⟩) _ 0 Y _ _ rfl (Nat.zero_le _) ⟨rfl, fun _ _ => rfl, fun _ _ _ _ _ _ _ => rfl, fun j hj => ?j4, ?c5, ?c6⟩
    case kk =>
      obtain ⟨w1, w2, w3, w4, ⟨cc, w5, w6, w7⟩, w9⟩ := w
      have r8 := fl_nx_8 R A o fc (fg_n (fk_gG R)) S
      have rdt := fl_nx_dt R A o fc (fg_n (fk_gG R)) S
      have above : ∀ j, fg_n (fk_gG R) ≤ j → (fl_nx R A o fc (fg_n (fk_gG R)) S).1 8 j = R.1 8 j := fun j hj => by
        rw [r8]
        exact fh_at _ (fun u _ hu hc z => by have := hCn u hu hc; omega)
      have hT' := fl_Z_end ⟨hD, hG, hi8, hZ0, h4, h5, hmi'⟩ hmi hM hSn a1 c0 (fun i hi hin => by
        rw [xS.1 i hi]
        have q1 : fg_F A i = false := Bool.eq_false_iff.mpr fun y => by have := xn i y; omega
        rw [q1]; rfl) above ⟨w1, w2, w3, w4, ⟨cc, w5, w6, w7⟩, w9⟩
      have kk := k (fm_uI W.1 0 4 (W.1 0 4 + nI 1), W.2) A o fc S a4 xok s1 hSn hcm
      refine kk hT' ⟨fk_rng_dt rdt hK.1, fk_Rf_dt rdt hK.2.1, fun i => ?_⟩ ⟨fun c hc hcL => ?_, ?_, ?_, ?_⟩ ?_
      · rw [r8]
        exact fh_bd fok hK.2.2 (fun u => fk_fl_bd hK.2.1 hK.1 A o fc _ u) (fun u hu hc => (hK.1.1 _ (by have := xC u hu; omega)).2.2) _ i
      · show fm_uI W.1 0 4 (W.1 0 4 + nI 1) c = _
        rw [fz_ne _ _ hc, w2 c hc, y1 c (by omega), hPc c (by omega), a1.1 c hc]
      · show W.2.1 = _
        rw [w1, y2, hP2, a1.2.2]
      · show W.2.2.1 = _
        rw [w1, y2, hP2, a1.2.2]
      · show W.2.2.2 = _
        rw [w1, y2, hP2, hg, a1.2.2]
      · show fm_uI W.1 0 4 (W.1 0 4 + nI 1) 0 6 = _
        rw [fz_an _ _ _ _ (by omega), w9, c0, a1.2.1 6 (by omega)]
        congr 2
        refine (fg_cn_more 12 (by omega) (fun j h1 h2 => ?_)).symm
        unfold fh_b
        rw [above j h1]
        cases decide (nI 100 ≤ R.1 8 j) <;> rfl
    case j4 =>
      rw [if_neg (Nat.not_lt_zero j), if_neg (Nat.not_lt_zero j), if_neg (Nat.not_lt_zero j)]
      refine ⟨?_, ?_, w8 j hj, ?_⟩
      · rw [c0, a1.2.1 (110 + j) (by omega)]; exact (hi8 j hj).1
      · rw [c0, a1.2.1 (130 + j) (by omega)]; exact (hi8 j hj).2.1
      · rw [c0, a1.2.1 (170 + j) (by omega)]; exact (hi8 j hj).2.2.1
    case c5 =>
      obtain ⟨cc, c1, c2, c3⟩ := h5
      refine ⟨cc, by rw [c0, a1.2.1 5 (by omega)]; exact c1, ?_, by omega⟩
      show R.2.1 1 10 + 0 = _
      rw [Int64.add_zero, c2]
    case c6 =>
      show Y.1 0 6 = Y.1 0 6 + nI 0
      rw [nI_0, Int32.add_zero]
  · rw [hPr c hc, nI_0, Int32.add_zero]
    have e1 : fh_h (fg_F A) (fg_C A) (fk_fl R A o fc S.testBit) (R.1 7) (R.1 8) 1 = R.1 8 := if_neg (fun z => by
      have := z.2
      rw [xC0] at this
      exact absurd this (Nat.lt_irrefl 0))
    rw [e1]
end FLM
