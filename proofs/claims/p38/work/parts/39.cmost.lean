/-! the class: how many chargers can be served at once -/
/-- a set of chargers that may be served, and keeps the limits -/
def fq_ok (N : fm_N) (A : fg_A) (o : Nat → Nat) (fc n s : Nat) : Prop := (∀ i, s.testBit i = true → fk_may N A n i) ∧ fk_kp N A o fc s.testBit
/-- the best of the sets below m -/
def fq_B (P : Nat → Prop) (m : Nat) (b : Int32) : Prop := (b = Int32.ofInt (-1) ∧ ∀ s, s < m → ¬ P s) ∨ ∃ c, b = nI c ∧ c ≤ 12 ∧ (∃ s, s < m ∧ P s ∧ fb_ct s = c) ∧ ∀ s, s < m → P s → fb_ct s ≤ c
theorem fq_B_uniq {P : Nat → Prop} {m : Nat} {b b' : Int32} (h : fq_B P m b) (h' : fq_B P m b') : b = b' := by
  rcases h with ⟨h1, h2⟩ | ⟨c, h1, h12, ⟨s, hs, hP, hc⟩, h2⟩ <;> rcases h' with ⟨k1, k2⟩ | ⟨d, k1, k12, ⟨r, hr, hR, hd⟩, k2⟩
  · rw [h1, k1]
  · exact absurd hR (h2 r hr)
  · exact absurd hP (k2 s hs)
  · have e1 := h2 r hr hR
    have e2 := k2 s hs hP
    rw [h1, k1, show c = d by omega]
theorem fq_B_no {P : Nat → Prop} {m : Nat} {b : Int32} (h : fq_B P m b) (hP : ¬ P m) : fq_B P (m + 1) b := by
  rcases h with ⟨h1, h2⟩ | ⟨c, h1, h12, ⟨s, hs, hQ, hc⟩, h2⟩
  · refine Or.inl ⟨h1, fun s hs z => ?_⟩
    by_cases y : s = m
    · rw [y] at z; exact hP z
    · exact h2 s (by omega) z
  · refine Or.inr ⟨c, h1, h12, ⟨s, by omega, hQ, hc⟩, fun r hr z => ?_⟩
    by_cases y : r = m
    · rw [y] at z; exact absurd z hP
    · exact h2 r (by omega) z
theorem fq_B_yes {P : Nat → Prop} {m : Nat} {b : Int32} (h : fq_B P m b) (hP : P m) : fq_B P (m + 1) (fc_max b (nI (fb_ct m))) := by
  have hle := fb_ct_le m
  rcases h with ⟨h1, h2⟩ | ⟨c, h1, h12, ⟨s, hs, hQ, hc⟩, h2⟩
  · refine Or.inr ⟨fb_ct m, ?_, hle, ⟨m, by omega, hP, rfl⟩, fun r hr z => ?_⟩
    · unfold fc_max
      rw [h1, if_pos ?_]
      have : ∀ c, c < 13 → Int32.ofInt (-1) < nI c := by decide +kernel
      exact this _ (by omega)
    · by_cases y : r = m
      · rw [y]; exact Nat.le_refl _
      · exact absurd z (h2 r (by omega))
  · unfold fc_max
    rw [h1]
    by_cases w : nI c < nI (fb_ct m)
    · rw [if_pos w]
      rw [fz_lt (by omega) (by omega)] at w
      refine Or.inr ⟨fb_ct m, rfl, hle, ⟨m, by omega, hP, rfl⟩, fun r hr z => ?_⟩
      by_cases y : r = m
      · rw [y]; exact Nat.le_refl _
      · have := h2 r (by omega) z; omega
    · rw [if_neg w]
      rw [fz_lt (by omega) (by omega)] at w
      refine Or.inr ⟨c, rfl, h12, ⟨s, by omega, hQ, hc⟩, fun r hr z => ?_⟩
      by_cases y : r = m
      · rw [y]; omega
      · exact h2 r (by omega) z
theorem fb_1' : ∀ i, i < 13 → nI 1 <<< (nI i &&& 31) = nI (2 ^ i) := by decide +kernel
theorem fb_p12 {n : Nat} (h : n ≤ 12) : 2 ^ n ≤ 4096 := Nat.pow_le_pow_right (n := 2) (by decide) h
section FKM
variable {X : Nat × (Nat → Int32)} {N : fm_N} {G : fg_G} {A : fg_A} {o : Nat → Nat} {fc : Nat} {X' : Nat → fm_N → Prop} {Q : fm_O → fm_M → Prop}
theorem lp_58 (hG : fk_G N G) (h : fk_S N A o fc) (hn : ∀ u, fg_F A u = true → u < fg_n G) {C : Nat} (hC : C < 4096) (hC' : ∀ i, C.testBit i = true ↔ fk_may N A (fg_n G) i)
    (kk : ∀ N' b, fx_F [63, 19, 20] N N' → fq_B (fq_ok N A o fc (fg_n G)) (2 ^ fg_n G) b → Q (.inl (some (.inl (.int b)))) (N', fm_SH)) : ∀ m s (b : Int32) (N1 : fm_N), 2 ^ fg_n G - s = m → s ≤ 2 ^ fg_n G → fx_F [63, 19, 20] N N1 → fk_own N1 (fg_n G) → fq_B (fq_ok N A o fc (fg_n G)) s b →
    fm_Ev (fm_PP X) 58 (24, [some (.inl (.ref 1)), some (.inl (.int (nI C))), some (.inl (.int (nI (2 ^ fg_n G)))), some (.inl (.int b)), some (.inl (.int (nI s)))], [], (N1, fm_SH)) Q := by
  have ok := h.2.2.2.2.1
  have h12 := hG.2.2.1
  have hp := fb_p12 h12
  have hdc : fk_dc [63, 19, 20] := by unfold fk_dc; decide
  intro m
  induction m with
  | zero =>
    intro s b N1 hm hs hF hO hB
    refine fb_58_24 X _ _ _ _ N1 Q ?_
    simp (disch := omega) only [fz_t, fz_le]
    have e : s = 2 ^ fg_n G := by omega
    rw [e] at hB
    exact ⟨fun _ => kk N1 b hF hB, fun z => absurd (by omega) z⟩
  | succ m ih =>
    intro s b N1 hm hs hF hO hB
    refine fb_58_24 X _ _ _ _ N1 Q ?_
    have hs4 : s < 4096 := by omega
    simp (disch := omega) only [fz_t, fz_le, nI_add]
    refine ⟨fun z => absurd z (by omega), fun _ => ⟨fun hsub => ?_, fun hsub => ?_⟩⟩
    · rw [fb_sub hs4] at hsub
      have hmay : ∀ i, s.testBit i = true → fk_may N A (fg_n G) i := fun i hi => (hC' i).mp (hsub i hi)
      refine sp_47 (h.fr hF ⟨rfl, rfl, rfl, rfl, rfl, rfl, rfl⟩) hn hO hs4 (fun N2 a1 hk => ?_) (fun N2 a1 hk => ?_)
      · have hF2 : fx_F [63, 19, 20] N N2 := hF.tr (a1.wk (by intro c hc; simp at hc ⊢; exact hc.2))
        have hO2 : fk_own N2 (fg_n G) := fun i hi => by rw [fx_cell a1 63 rfl, fx_cell a1 62 rfl, fx_cell a1 1 rfl, fk_cv_fr a1 (by decide) (by omega)]; exact hO i hi
        refine ⟨fun z => absurd z (by decide), fun _ => ?_⟩
        refine sp_168 hs4 (sp_170 ?_)
        exact ih (s + 1) _ N2 (by omega) (by omega) hF2 hO2 (fq_B_yes hB ⟨hmay, (fk_kp_fr ok hF hdc).mp hk⟩)
      · have hF2 : fx_F [63, 19, 20] N N2 := hF.tr (a1.wk (by intro c hc; simp at hc ⊢; exact hc.2))
        have hO2 : fk_own N2 (fg_n G) := fun i hi => by rw [fx_cell a1 63 rfl, fx_cell a1 62 rfl, fx_cell a1 1 rfl, fk_cv_fr a1 (by decide) (by omega)]; exact hO i hi
        refine ⟨fun _ => ?_, fun z => absurd rfl z⟩
        exact ih (s + 1) _ N2 (by omega) (by omega) hF2 hO2 (fq_B_no hB (fun z => hk ((fk_kp_fr ok hF hdc).mpr z.2)))
    · rw [fb_sub hs4] at hsub
      exact ih (s + 1) _ N1 (by omega) (by omega) hF hO (fq_B_no hB (fun z => hsub (fun i hi => (hC' i).mpr (z.1 i hi))))
theorem sp_58 (hG : fk_G N G) (hR : fk_Rf N) (h : fk_S N A o fc) (hn : ∀ u, fg_F A u = true → u < fg_n G) {K : Int32 → fm_N → Prop} (k : ∀ N' b, fx_F [63, 19, 20] N N' → fq_B (fq_ok N A o fc (fg_n G)) (2 ^ fg_n G) b → K b N') : fm_Ci (fm_PP X) 58 [.inl (.ref 1)] (N, fm_SH) K X' := by
  have h12 := hG.2.2.1
  refine fe_58 X N K X' ?_
  refine sp_44 hG hR (fun N1 a1 a2 => ?_)
  have hF1 : fx_F [63, 19, 20] N N1 := a1.wk (by intro c hc; simp at hc ⊢; exact hc.1)
  refine sp_56 (hG.fr hF1 ⟨rfl, rfl, rfl, rfl, rfl, rfl, rfl⟩) (h.fr hF1 ⟨rfl, rfl, rfl, rfl, rfl, rfl, rfl⟩) (fun C hC hC' => ?_)
  rw [fx_cell a1 4 rfl, hG.1, fb_1' _ (by omega)]
  refine lp_58 hG h hn hC (fun i => ?_) (fun N' b b1 b2 => ⟨rfl, k N' b b1 b2⟩) _ 0 _ N1 rfl (Nat.zero_le _) hF1 a2 (Or.inl ⟨rfl, fun s hs => absurd hs (Nat.not_lt_zero s)⟩)
  rw [hC']
  unfold fk_may
  rw [fx_cell a1 22 rfl]
theorem lp_57b (hG : fk_G N G) (h : fk_S N A o fc) (hn : ∀ u, fg_F A u = true → u < fg_n G) {C z : Nat} (hC : C < 4096) (hC' : ∀ i, C.testBit i = true ↔ fk_may N A (fg_n G) i) (hz : z ≤ 12) (hzz : ∀ s, s < 2 ^ fg_n G → fq_ok N A o fc (fg_n G) s → fb_ct s ≤ z)
    (kk : ∀ N' b, fx_F [63, 19, 20] N N' → fq_B (fq_ok N A o fc (fg_n G)) (2 ^ fg_n G) b → Q (.inl (some (.inl (.int b)))) (N', fm_SH))
    (k2 : ∀ N' o4, fx_F [63, 19, 20] N N' → fk_own N' (fg_n G) → (∀ s, s < 2 ^ fg_n G → fq_ok N A o fc (fg_n G) s → fb_ct s < z) → fm_Ev (fm_PP X) 57 (24, [some (.inl (.ref 1)), some (.inl (.int (nI C))), some (.inl (.int (nI (2 ^ fg_n G)))), some (.inl (.int (nI z + Int32.ofInt (-1)))), o4], [], (N', fm_SH)) Q) :
    ∀ m s (N1 : fm_N), 2 ^ fg_n G - s = m → s ≤ 2 ^ fg_n G → fx_F [63, 19, 20] N N1 → fk_own N1 (fg_n G) → (∀ r, r < s → fq_ok N A o fc (fg_n G) r → fb_ct r ≠ z) →
    fm_Ev (fm_PP X) 57 (31, [some (.inl (.ref 1)), some (.inl (.int (nI C))), some (.inl (.int (nI (2 ^ fg_n G)))), some (.inl (.int (nI z))), some (.inl (.int (nI s)))], [], (N1, fm_SH)) Q := by
  have ok := h.2.2.2.2.1
  have h12 := hG.2.2.1
  have hp := fb_p12 h12
  have hdc : fk_dc [63, 19, 20] := by unfold fk_dc; decide
  intro m
  induction m with
  | zero =>
    intro s N1 hm hs hF hO hi
    refine fb_57_31 X _ _ _ _ N1 Q ?_
    rw [fz_le (by omega) (by omega)]
    refine ⟨fun _ => k2 N1 _ hF hO (fun r hr hk => ?_), fun q => absurd (by omega) q⟩
    have h1 := hi r (by omega) hk
    have h2 := hzz r hr hk
    omega
  | succ m ih =>
    intro s N1 hm hs hF hO hi
    refine fb_57_31 X _ _ _ _ N1 Q ?_
    have hs4 : s < 4096 := by omega
    have hct := fb_ct_le s
    rw [fz_le (by omega) (by omega), nI_add]
    have next : ∀ N2 : fm_N, fx_F [63, 19, 20] N N2 → fk_own N2 (fg_n G) → (fq_ok N A o fc (fg_n G) s → fb_ct s ≠ z) → fm_Ev (fm_PP X) 57 (31, [some (.inl (.ref 1)), some (.inl (.int (nI C))), some (.inl (.int (nI (2 ^ fg_n G)))), some (.inl (.int (nI z))), some (.inl (.int (nI (s + 1))))], [], (N2, fm_SH)) Q := fun N2 b1 b2 b3 => ih (s + 1) N2 (by omega) (by omega) b1 b2 (fun r hr => by
      by_cases y : r = s
      · rw [y]; exact b3
      · exact hi r (by omega))
    refine ⟨fun q => absurd q (by omega), fun _ => ⟨fun hsub => ?_, fun hsub => ?_⟩⟩
    · rw [fb_sub hs4] at hsub
      have hmay : ∀ i, s.testBit i = true → fk_may N A (fg_n G) i := fun i hi => (hC' i).mp (hsub i hi)
      refine sp_168 hs4 ?_
      rw [fz_eq (by omega) (by omega)]
      refine ⟨fun hcz => ?_, fun hcz => next N1 hF hO (fun _ => hcz)⟩
      refine sp_47 (h.fr hF ⟨rfl, rfl, rfl, rfl, rfl, rfl, rfl⟩) hn hO hs4 (fun N2 a1 hk => ?_) (fun N2 a1 hk => ?_)
      · have hF2 : fx_F [63, 19, 20] N N2 := hF.tr (a1.wk (by intro c hc; simp at hc ⊢; exact hc.2))
        refine ⟨fun q => absurd q (by decide), fun _ => kk N2 _ hF2 (Or.inr ⟨z, rfl, hz, ⟨s, by omega, ⟨hmay, (fk_kp_fr ok hF hdc).mp hk⟩, hcz⟩, hzz⟩)⟩
      · have hF2 : fx_F [63, 19, 20] N N2 := hF.tr (a1.wk (by intro c hc; simp at hc ⊢; exact hc.2))
        have hO2 : fk_own N2 (fg_n G) := fun i hi => by rw [fx_cell a1 63 rfl, fx_cell a1 62 rfl, fx_cell a1 1 rfl, fk_cv_fr a1 (by decide) (by omega)]; exact hO i hi
        exact ⟨fun _ => next N2 hF2 hO2 (fun q => absurd ((fk_kp_fr ok hF hdc).mpr q.2) hk), fun q => absurd rfl q⟩
    · rw [fb_sub hs4] at hsub
      exact next N1 hF hO (fun q => absurd (fun i hi => (hC' i).mpr (q.1 i hi)) hsub)
theorem lp_57a (hG : fk_G N G) (h : fk_S N A o fc) (hn : ∀ u, fg_F A u = true → u < fg_n G) {C : Nat} (hC : C < 4096) (hC' : ∀ i, C.testBit i = true ↔ fk_may N A (fg_n G) i)
    (kk : ∀ N' b, fx_F [63, 19, 20] N N' → fq_B (fq_ok N A o fc (fg_n G)) (2 ^ fg_n G) b → Q (.inl (some (.inl (.int b)))) (N', fm_SH)) : ∀ z (N1 : fm_N) (o4 : Option fm_V), z ≤ 12 → fx_F [63, 19, 20] N N1 → fk_own N1 (fg_n G) → (∀ s, s < 2 ^ fg_n G → fq_ok N A o fc (fg_n G) s → fb_ct s ≤ z) →
    fm_Ev (fm_PP X) 57 (24, [some (.inl (.ref 1)), some (.inl (.int (nI C))), some (.inl (.int (nI (2 ^ fg_n G)))), some (.inl (.int (nI z))), o4], [], (N1, fm_SH)) Q := by
  intro z
  induction z with
  | zero =>
    intro N1 o4 hz hF hO hi
    refine fb_57_24 X _ _ _ _ N1 Q ?_
    refine ⟨fun q => absurd q (by decide), fun _ => ?_⟩
    refine lp_57b hG h hn hC hC' hz hi kk (fun N2 o4 b1 b2 b3 => ?_) _ 0 N1 rfl (Nat.zero_le _) hF hO (fun r hr => absurd hr (Nat.not_lt_zero r))
    refine fb_57_24 X _ _ _ _ N2 Q ⟨fun _ => kk N2 _ b1 (Or.inl ⟨rfl, fun s hs hk => absurd (b3 s hs hk) (Nat.not_lt_zero _)⟩), fun q => absurd (by decide) q⟩
  | succ z ih =>
    intro N1 o4 hz hF hO hi
    refine fb_57_24 X _ _ _ _ N1 Q ?_
    rw [fz_lt (by omega) (by omega)]
    refine ⟨fun q => absurd q (by omega), fun _ => ?_⟩
    refine lp_57b hG h hn hC hC' hz hi kk (fun N2 o4 b1 b2 b3 => ?_) _ 0 N1 rfl (Nat.zero_le _) hF hO (fun r hr => absurd hr (Nat.not_lt_zero r))
    rw [fz_pred]
    exact ih N2 o4 (by omega) b1 b2 (fun s hs hk => Nat.le_of_lt_succ (b3 s hs hk))
theorem sp_57 (hG : fk_G N G) (hR : fk_Rf N) (h : fk_S N A o fc) (hn : ∀ u, fg_F A u = true → u < fg_n G) {K : Int32 → fm_N → Prop} (k : ∀ N' b, fx_F [63, 19, 20] N N' → fq_B (fq_ok N A o fc (fg_n G)) (2 ^ fg_n G) b → K b N') : fm_Ci (fm_PP X) 57 [.inl (.ref 1)] (N, fm_SH) K X' := by
  have h12 := hG.2.2.1
  refine fe_57 X N K X' ?_
  refine sp_44 hG hR (fun N1 a1 a2 => ?_)
  have hF1 : fx_F [63, 19, 20] N N1 := a1.wk (by intro c hc; simp at hc ⊢; exact hc.1)
  refine sp_56 (hG.fr hF1 ⟨rfl, rfl, rfl, rfl, rfl, rfl, rfl⟩) (h.fr hF1 ⟨rfl, rfl, rfl, rfl, rfl, rfl, rfl⟩) (fun C hC hC' => ?_)
  rw [fx_cell a1 4 rfl, hG.1, fb_1' _ (by omega)]
  refine sp_168 hC ?_
  have hCm : ∀ i, C.testBit i = true ↔ fk_may N A (fg_n G) i := fun i => by
    rw [hC']
    unfold fk_may
    rw [fx_cell a1 22 rfl]
  exact lp_57a hG h hn hC hCm (fun N' b b1 b2 => ⟨rfl, k N' b b1 b2⟩) _ N1 _ (fb_ct_le C) hF1 a2 (fun s hs hk => fg_cn_sub 12 (fun i _ hi => (hCm i).mpr (hk.1 i hi)))
end FKM
