/-! the model: a minute as a whole, beside the class's -/
abbrev fn_ps : List Nat := [63, 69, 70, 71, 72, 73, 74, 82, 83, 84, 85, 86, 87, 88]
theorem fg_cn_more {f : Nat → Bool} {n : Nat} : ∀ m, n ≤ m → (∀ i, n ≤ i → f i = false) → fg_cn f m = fg_cn f n := by
  intro m
  induction m with
  | zero => intro h _; rw [Nat.le_zero.mp h]
  | succ m ih =>
    intro h hf
    by_cases z : n = m + 1
    · rw [z]
    · have e : fg_cn f (m + 1) = fg_cn f m + (if f m = true then 1 else 0) := rfl
      rw [e, hf m (by omega), if_neg (fun z => nomatch z)]
      exact ih (by omega) hf
section FNM
variable {X : Nat × (Nat → Int32)} {R R' N : fm_N} {A : fg_A} {o : Nat → Nat} {fc M M' : Nat} {X' : Nat → fm_N → Prop} {Q : fm_O → fm_M → Prop}
theorem sp_85 (ic : fk_ic R A o fc M) (hM : ∀ i, M.testBit i = true → i < fg_n (fk_gG R)) (hM' : ∀ i, M'.testBit i = true → i < fg_n (fk_gG R)) (cm : fk_cm R R' A o fc (fg_n (fk_gG R)) M') (h8' : ∀ i, i < 12 → R'.1 8 i = fz_b (decide (nI 100 ≤ R'.1 7 i))) (hC : fn_cp R N M) {K : Int32 → fm_N → Prop}
    (kk : ∀ N', fx_M fn_ps 63 32 N N' → fn_cp R' N' M' → N'.1 63 30 = N.1 63 30 + nI (fg_cn (fh_b (R.1 7) (R'.1 7)) 12) → N'.1 63 31 = N.1 63 31 → K (nI (fb_ct M')) N') : fm_Ci (fm_PP X) 85 [.inl (.ref 63)] (N, fm_SH) K X' := by
  obtain ⟨hGR, hk, hFin, hRf, hrng, h4, hM12, hheat⟩ := ic
  have gok := hGR.2.2.2.2.1
  have h12 := hGR.2.2.1
  have ok := hk.2.2.2.2.1
  obtain ⟨kRe, hRe, hnt⟩ := id hFin
  have hFu := fg_Re_Fu gok kRe A hRe
  have hn : ∀ u, fg_F A u = true → u < fg_n (fk_gG R) := hFu.1.1.2.2.2.2.2.2.2.2
  have hz := fg_Re_0 gok kRe A hRe
  have hC12 : ∀ u, fg_F A u = true → fg_C A u < 12 := fun u hu => (hk.1 u (fk_F12 ok hu)).2.2.2.2.2.1
  have hCn : ∀ u, fg_F A u = true → 0 < fg_C A u → 1 ≤ fg_C A u ∧ fg_C A u < fg_n (fk_gG R) := fun u hu hc => ⟨hc, (fg_cab gok hFin hu hc).1.2.1⟩
  have hwh : ∀ u, fg_F A u = true → 0 < fg_C A u → ¬ nI 100 ≤ R.1 7 (fg_C A u) := fun u hu hc z => by
    have h1 := (fg_cab gok hFin hu hc).1.2.2
    have h2 : (!decide (nI 100 ≤ R.1 7 (fg_C A u))) = true := h1
    rw [decide_eq_true z] at h2
    cases h2
  have fok : fh_ok (fg_F A) (fg_C A) (R.1 7) := ⟨fun u v a b c d => fg_cab_inj gok hFin a b c d, hwh⟩
  have hline := fl_a_in (R.1 22) (R.1 21) (fg_n (fk_gG R))
  have hle := fl_n_le (R.1 21) (fg_n (fk_gG R))
  obtain ⟨cmF, cm0, cmS, cm7, cm22, cm10⟩ := cm
  have hG : fn_G N (fk_gG R) := fn_G.of hGR hC
  obtain ⟨⟨c25, c26, c27, c28, c29, c32⟩, ⟨c64, c65, c66, c67, c68, c69, c70⟩, c71, c72, ⟨c78, c79, c80⟩, cR⟩ := id hC
  refine fe_85 X N K X' ?_
  refine sp_80 hG hFin (fun N1 a1 a2 => ?_)
  have hG1 : fn_G N1 (fk_gG R) := fn_fr hG a1
  have hD1 : fn_cd R N1 := hC.cd.ff a1 rfl ⟨rfl, rfl, rfl, rfl, rfl, rfl, rfl⟩
  refine sp_84 h12 hG1.1 (fun N2 b1 b2 => ?_)
  rw [a1.1 68 rfl, c68] at b2 ⊢
  rw [a1.1 69 rfl, c69] at b2
  have hG2 : fn_G N2 (fk_gG R) := hG1.fr b1 ⟨rfl, rfl, rfl, rfl, rfl, rfl, rfl⟩
  have hD2 : fn_cd R N2 := hD1.ff b1 rfl ⟨rfl, rfl, rfl, rfl, rfl, rfl, rfl⟩
  have hS2 : fn_S N2 A (fg_n (fk_gG R)) (fg_t (fk_gG R)) := a2.fr b1 ⟨rfl, rfl, rfl, rfl, rfl⟩
  have m2 : fx_M fn_ps 63 32 N N2 := (fx_M.ofF a1 (by intro c hc; simp at hc ⊢; omega)).tr (fx_M.ofF b1 (by intro c hc; simp at hc ⊢; omega))
  refine lp_85a (N := N2) h12 hG2.1 (fun N3 d1 d2 => ?_) _ 0 N2 rfl (Nat.zero_le _) (fx_F.rf _ _) (fun i hi => absurd hi (Nat.not_lt_zero i))
  have hG3 : fn_G N3 (fk_gG R) := hG2.fr d1 ⟨rfl, rfl, rfl, rfl, rfl, rfl, rfl⟩
  have hD3 : fn_cd R N3 := hD2.ff d1 rfl ⟨rfl, rfl, rfl, rfl, rfl, rfl, rfl⟩
  have hS3 : fn_S N3 A (fg_n (fk_gG R)) (fg_t (fk_gG R)) := hS2.fr d1 ⟨rfl, rfl, rfl, rfl, rfl⟩
  have m3 : fx_M fn_ps 63 32 N N3 := m2.tr (fx_M.ofF d1 (by intro c hc; simp at hc ⊢; omega))
  refine lp_85b (N := N3) hk hG3 hD3 hS3 hn hz.2.1 (a := fl_a (R.1 22) (R.1 21) (fg_n (fk_gG R))) (len := fl_n (R.1 21) (fg_n (fk_gG R))) (by omega) (fun i hi => ⟨by rw [fx_cell d1 88 rfl]; exact (b2 i hi).1, (hline.1 i hi).1⟩) hline.2.1 (fun N4 s o4 o5 e1 e2 e3 => ?_) _ 0 N3 (fun _ => false) _ _ rfl (Nat.zero_le _) (fx_F.rf _ _) rfl (fun i hi => (d2 i hi).trans rfl)
  have hs : s = M'.testBit := fq_sv_uniq _ _ _ e2 cmS
  subst hs
  have hG4 : fn_G N4 (fk_gG R) := hG3.fr e1 ⟨rfl, rfl, rfl, rfl, rfl, rfl, rfl⟩
  have hD4 : fn_cd R N4 := hD3.ff e1 rfl ⟨rfl, rfl, rfl, rfl, rfl, rfl, rfl⟩
  have hS4 : fn_S N4 A (fg_n (fk_gG R)) (fg_t (fk_gG R)) := hS3.fr e1 ⟨rfl, rfl, rfl, rfl, rfl⟩
  have m4 : fx_M fn_ps 63 32 N N4 := m3.tr (fx_M.ofF e1 (by intro c hc; simp at hc ⊢; omega))
  have q4 : ∀ c, [73, 74, 82, 83, 84, 85, 86, 87, 88].contains c = false → N4.1 c = N.1 c := fun c hc => by
    simp at hc
    rw [e1.1 c (by simp; omega), d1.1 c (by simp; omega), b1.1 c (by simp; omega), a1.1 c (by simp; omega)]
  have q42 : N4.2 = N.2 := by rw [e1.2, d1.2, b1.2, a1.2]
  refine lp_85c (N := N4) (s := M'.testBit) h12 hG4.1 e3 (fun N5 o4' o5' f1 f2 f3 f4 => ?_) _ 0 N4 _ _ rfl (Nat.zero_le _) ⟨fun _ _ => rfl, fun _ _ _ => rfl, rfl⟩ (fun i => (if_neg (Nat.not_lt_zero i)).symm) (fun i => ⟨fun z => absurd z.1 (Nat.not_lt_zero i), fun _ => rfl⟩) (by show _ = _ + 0; rw [Int64.add_zero])
  have hG5' : fn_G (N5.1, N4.2) (fk_gG R) := hG4.fr (fx_F.ofM f1) ⟨rfl, rfl, rfl, rfl, rfl, rfl, rfl⟩
  have hG5 : fn_G N5 (fk_gG R) := hG5'
  have hS5' : fn_S (N5.1, N4.2) A (fg_n (fk_gG R)) (fg_t (fk_gG R)) := hS4.fr (fx_F.ofM f1) ⟨rfl, rfl, rfl, rfl, rfl⟩
  have hS5 : fn_S N5 A (fg_n (fk_gG R)) (fg_t (fk_gG R)) := hS5'
  have hD5 : fn_cd R N5 := hD4.fr f1.1 ⟨by rw [f1.1 63 rfl], by rw [f1.1 63 rfl]⟩ ⟨rfl, rfl, rfl, rfl, rfl, rfl, rfl⟩
  have m5 : fx_M fn_ps 63 32 N N5 := m4.tr (f1.wk (by intro c hc; simp at hc ⊢; omega))
  refine sp_81 (s := M'.testBit) hk hD5 hG5 hS5 hn (fun i hi => by rw [f1.1 73 rfl]; exact e3 i hi) (fun N6 g1 g2 g3 => ?_)
  have hS6 : fn_S N6 A (fg_n (fk_gG R)) (fg_t (fk_gG R)) := hS5.fr g1 ⟨rfl, rfl, rfl, rfl, rfl⟩
  have m6 : fx_M fn_ps 63 32 N N6 := m5.tr (fx_M.ofF g1 (by intro c hc; simp at hc ⊢; omega))
  have q6 : ∀ c, [69, 72, 73, 74, 82, 83, 84, 85, 86, 87, 88].contains c = false → N6.1 c = N.1 c := fun c hc => by
    simp at hc
    rw [g1.1 c (by simp; omega), f1.1 c (by simp; omega), q4 c (by simp; omega)]
  have h25 : N6.1 63 25 = nI (fg_n (fk_gG R)) := by rw [q6 63 rfl]; exact hG.1
  refine lp_85d (N := N6) h12 h25 hS6 (fl := fk_fl R A o fc M'.testBit) (rat := R.1 6) (h := R.1 7) hC12 (fun i hi hFi hc => ?_) (by rw [q6 66 rfl, c66]) (fun u => fk_fl_bd hRf hrng A o fc _ u) (fun i hi => (hrng.1 i hi).2.2) (fun N7 o4'' o5'' p1 p2 => ?_) _ 0 N6 _ _ rfl (Nat.zero_le _) (fx_F.rf _ _) (by rw [q6 70 rfl, c70]; rfl)
  · obtain ⟨k, hkf, hok⟩ := ok.2.2.2.1 i hFi
    rw [← hok]
    refine g2 k ?_ hkf
    rcases Nat.eq_zero_or_pos k with z | z
    · exfalso
      rw [z, ok.1.2.2] at hok
      rw [← hok, hz.2.1] at hc
      exact absurd hc (Nat.lt_irrefl 0)
    · exact z
  rw [← cm7] at p2
  have q7 : ∀ c, [69, 70, 72, 73, 74, 82, 83, 84, 85, 86, 87, 88].contains c = false → N7.1 c = N.1 c := fun c hc => by
    simp at hc
    rw [p1.1 c (by simp; omega), q6 c (by simp; omega)]
  have h8 : ∀ i, i < 12 → R.1 8 i = fz_b (decide (nI 100 ≤ R.1 7 i)) := fun i hi => by
    have := (hGR.2.2.2.2.2.1 i hi).2.1
    rw [this]
    show fz_b (!!decide (nI 100 ≤ R.1 7 i)) = _
    rw [Bool.not_not]
  have hout : ∀ c, ¬ (1 ≤ c ∧ c < fg_n (fk_gG R)) → R'.1 7 c = R.1 7 c := fun c hc => by
    rw [cm7]
    exact fh_at _ (fun u _ hu hcu e => hc (by rw [← e]; exact hCn u hu hcu))
  have hb0 : ∀ c, ¬ (1 ≤ c ∧ c < fg_n (fk_gG R)) → fh_b (R.1 7) (R'.1 7) c = false := fun c hc => by
    unfold fh_b
    rw [hout c hc]
    cases decide (nI 100 ≤ R.1 7 c) <;> rfl
  refine lp_85e (N := N7) h12 (by rw [q7 63 rfl]; exact hG.1) (h := R.1 7) (fun c hc => by rw [q7 71 rfl, c71 c hc]; exact h8 c hc) (fun c hc => by rw [p2, cm7, fh_blown fok hc]; exact hc) (by rw [p2]; exact hb0 0 (by omega)) (fun N8 r1 r2 r3 r4 r5 r6 => ⟨rfl, ?_⟩) _ 1 N7 _ _ rfl (Nat.le_refl _) gok.1 (fx_F.rf _ _) (fun _ _ => rfl) ?_ (fun c h1 h2 => by omega) (fun _ _ => rfl)
  · have e0 : fg_cn (fh_b (R.1 7) (N7.1 70)) 1 = 0 := by
      rw [p2]
      show 0 + (if fh_b (R.1 7) (R'.1 7) 0 = true then 1 else 0) = 0
      rw [hb0 0 (by omega)]
      rfl
    rw [e0, nI_0, Int32.add_zero]
  · have hct : fg_cn M'.testBit (fg_n (fk_gG R)) = fb_ct M' := by
      unfold fb_ct
      exact (fg_cn_more 12 h12 (fun i hi => by
        cases hb : M'.testBit i
        · rfl
        · have := hM' i hb; omega)).symm
    rw [hct]
    rw [p2] at r4 r5
    show K (nI (fb_ct M')) N8
    have q8 : ∀ c, [63, 69, 70, 71, 72, 73, 74, 82, 83, 84, 85, 86, 87, 88].contains c = false → N8.1 c = N.1 c := fun c hc => by
      simp at hc
      rw [r1.1 c (by simp; omega), q7 c (by simp; omega)]
    have q63 : ∀ i, i ≠ 29 → i ≠ 30 → N8.1 63 i = N.1 63 i := fun i h1 h2 => by rw [r2 i h1 h2, q7 63 rfl]
    have q22 : N8.2 = N5.2 := by rw [r1.2, p1.2, g1.2]
    have hcnt : fg_cn (fh_b (R.1 7) (R'.1 7)) 12 = fg_cn (fh_b (R.1 7) (R'.1 7)) (fg_n (fk_gG R)) := fg_cn_more 12 h12 (fun i hi => hb0 i (by omega))
    have c07 : R'.1 0 7 = R.1 0 7 := by rw [cm0]; rfl
    have c08 : R'.1 0 8 = R.1 0 8 := by rw [cm0]; rfl
    have c09 : R'.1 0 9 = R.1 0 9 + nI 1 := by rw [cm0]; rfl
    refine kk N8 ?_ ?_ ?_ (q63 31 (by decide) (by decide))
    · refine (m6.tr (fx_M.ofF p1 (by intro c hc; simp at hc ⊢; omega))).tr (fx_M.ofF r1 (by intro c hc; simp at hc ⊢; omega))
    · refine ⟨⟨?_, ?_, ?_, ?_, ?_, ?_⟩, ⟨?_, ?_, ?_, ?_, ?_, ?_, ?_⟩, fun i hi => ?_, fun i hi => ?_, ⟨?_, ?_, ?_⟩, fun j hj => ?_⟩
      · rw [q63 25 (by decide) (by decide), c25, cmF.1 3 rfl]
      · rw [q63 26 (by decide) (by decide), c26, cmF.1 3 rfl]
      · rw [q63 27 (by decide) (by decide), c27, c07]
      · rw [q63 28 (by decide) (by decide), c28, c08]
      · rw [r3, q7 63 rfl, c29, c09]
      · rw [q22, f4, q42, c32, cm10, q4 68 rfl, c68]
      · rw [q8 64 rfl, c64, cmF.1 4 rfl]
      · rw [q8 65 rfl, c65, cmF.1 5 rfl]
      · rw [q8 66 rfl, c66, cmF.1 6 rfl]
      · rw [q8 67 rfl, c67, cmF.1 61 rfl]
      · rw [q8 68 rfl, c68, cmF.1 21 rfl]
      · funext i
        rw [r1.1 69 rfl, p1.1 69 rfl, g1.1 69 rfl]
        have h1 := f3 i
        rw [q4 68 rfl, c68, q4 69 rfl, c69] at h1
        have h2 := cm22 i
        by_cases z : i < fg_n (fk_gG R) ∧ ¬ R.1 21 i ≤ nI 0 ∧ M'.testBit i = false
        · rw [h1.1 z, h2.1 z]
        · rw [h1.2 z, h2.2 z]
      · rw [r1.1 70 rfl, p2]
      · rw [h8' i hi]
        by_cases z : 1 ≤ i ∧ i < fg_n (fk_gG R)
        · exact r5 i z.1 z.2
        · rw [r6 i z, q7 71 rfl, c71 i hi, h8 i hi, hout i z]
      · rw [r1.1 72 rfl, p1.1 72 rfl, g1.1 72 rfl, f2]
        by_cases z : i < fg_n (fk_gG R)
        · rw [if_pos z]
        · rw [if_neg z, q4 72 rfl, c72 i hi]
          have e1 : M.testBit i = false := by
            cases hb : M.testBit i
            · rfl
            · exact absurd (hM i hb) z
          have e2 : M'.testBit i = false := by
            cases hb : M'.testBit i
            · rfl
            · exact absurd (hM' i hb) z
          rw [e1, e2]
      · rw [q8 78 rfl, c78, cmF.1 9 rfl]
      · rw [q8 79 rfl, c79, cmF.1 10 rfl]
      · rw [q8 80 rfl, c80, cmF.1 11 rfl]
      · have hp : ∀ j, j < 12 → fk_mc.contains (fm_pc 0 j) = false ∧ fk_mc.contains (fm_pc 1 j) = false ∧ fk_mc.contains (fm_pc 2 j) = false := by decide
        obtain ⟨t0, t1, t2⟩ := hp j hj
        rw [cmF.1 _ t0, cmF.1 _ t1, cmF.1 _ t2, q8 75 rfl, q8 76 rfl, q8 77 rfl, q8 81 rfl]
        exact cR j hj
    · rw [r4, q7 63 rfl, hcnt]
end FNM
