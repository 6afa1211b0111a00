/-! the class: a minute as a whole -/
/-- the data of the currents are alike -/
def fk_dt (N N' : fm_N) : Prop := N'.1 1 7 = N.1 1 7 ∧ N'.1 1 8 = N.1 1 8 ∧ N'.1 7 = N.1 7 ∧ N'.1 22 = N.1 22 ∧ N'.1 62 = N.1 62 ∧ ∀ j, j < 12 → N'.1 (fm_pc 0 j) = N.1 (fm_pc 0 j) ∧ N'.1 (fm_pc 1 j) = N.1 (fm_pc 1 j) ∧ N'.1 (fm_pc 2 j) = N.1 (fm_pc 2 j)
theorem fk_dt.rf (N : fm_N) : fk_dt N N := ⟨rfl, rfl, rfl, rfl, rfl, fun _ _ => ⟨rfl, rfl, rfl⟩⟩
theorem fk_dt.tr {N N' N'' : fm_N} (h : fk_dt N N') (k : fk_dt N' N'') : fk_dt N N'' := ⟨k.1.trans h.1, k.2.1.trans h.2.1, k.2.2.1.trans h.2.2.1, k.2.2.2.1.trans h.2.2.2.1, k.2.2.2.2.1.trans h.2.2.2.2.1, fun j hj => ⟨(k.2.2.2.2.2 j hj).1.trans (h.2.2.2.2.2 j hj).1, (k.2.2.2.2.2 j hj).2.1.trans (h.2.2.2.2.2 j hj).2.1, (k.2.2.2.2.2 j hj).2.2.trans (h.2.2.2.2.2 j hj).2.2⟩⟩
theorem fk_dt.of {N N' : fm_N} {cs : List Nat} (h : ∀ c, cs.contains c = false → N'.1 c = N.1 c) (h7 : N'.1 1 7 = N.1 1 7) (h8 : N'.1 1 8 = N.1 1 8) (c6 : cs.contains 7 = false) (c21 : cs.contains 22 = false) (c61 : cs.contains 62 = false) (hc : ∀ j, j < 12 → cs.contains (fm_pc 0 j) = false ∧ cs.contains (fm_pc 1 j) = false ∧ cs.contains (fm_pc 2 j) = false) : fk_dt N N' := ⟨h7, h8, h 7 c6, h 22 c21, h 62 c61, fun j hj => ⟨h _ (hc j hj).1, h _ (hc j hj).2.1, h _ (hc j hj).2.2⟩⟩
theorem fk_cv_dt {N N' : fm_N} (h : fk_dt N N') {j : Nat} (hj : j < 12) (s : Int32) : fk_cv N' j s = fk_cv N j s := by
  obtain ⟨h0, h1, h2⟩ := h.2.2.2.2.2 j hj
  unfold fk_cv
  rw [h0, h1, h2]
theorem fk_net_dt {N N' : fm_N} (h : fk_dt N N') {u : Nat} (hu : u < 12) (s : Nat → Bool) : fk_net N' s u = fk_net N s u := by
  unfold fk_net
  rw [fk_cv_dt h hu, h.2.1, h.2.2.2.1, h.2.2.2.2.1]
theorem fk_Rf_dt {N N' : fm_N} (h : fk_dt N N') (k : fk_Rf N) : fk_Rf N' := fun j hj => by rw [(h.2.2.2.2.2 j hj).1]; exact k j hj
theorem fk_rng_dt {N N' : fm_N} (h : fk_dt N N') (k : fk_rng N) : fk_rng N' := by
  obtain ⟨k1, k2, k3⟩ := k
  refine ⟨fun i hi => ?_, ?_, fun j hj => ?_⟩
  · rw [h.2.2.2.2.1, h.2.2.2.1, h.2.2.1]; exact k1 i hi
  · rw [h.2.1]; exact k2
  · rw [(h.2.2.2.2.2 j hj).2.2]; exact k3 j hj
section FKD
variable {N N' : fm_N} {A : fg_A} {o : Nat → Nat} {fc : Nat} {s : Nat → Bool}
theorem fk_fl_dt (ok : ft_ok (fg_F A) o (fg_D A) fc) (h : fk_dt N N') (u : Nat) : fk_fl N' A o fc s u = fk_fl N A o fc s u := ft_f_congr (fun i hi => fk_net_dt h (fk_F12 ok hi) s) u
theorem fk_vt_dt (ok : ft_ok (fg_F A) o (fg_D A) fc) (h : fk_dt N N') (u : Nat) : fk_vt N' A o fc s u = fk_vt N A o fc s u := by
  have e : (fun w => fg_S A w * fk_fl N' A o fc s w / nI 10) = fun w => fg_S A w * fk_fl N A o fc s w / nI 10 := funext fun w => by rw [fk_fl_dt ok h]
  unfold fk_vt
  rw [h.1, e]
theorem fk_kp_dt (ok : ft_ok (fg_F A) o (fg_D A) fc) (h : fk_dt N N') : fk_kp N' A o fc s ↔ fk_kp N A o fc s := by
  unfold fk_kp
  constructor
  · intro z k hk
    have := z k hk
    rw [fk_vt_dt ok h, fk_fl_dt ok h, h.2.2.1] at this
    exact this
  · intro z k hk
    rw [fk_vt_dt ok h, fk_fl_dt ok h, h.2.2.1]
    exact z k hk
end FKD
/-- the net as the class's cells tell it -/
def fk_gG (N : fm_N) : fg_G := ((N.1 4 8).toNatClampNeg, fun i => (N.1 5 i).toNatClampNeg, fun i => !decide (nI 100 ≤ N.1 8 i), N.1 6, (N.1 4 9).toNatClampNeg, fun q => (N.1 10 q).toNatClampNeg, fun q => (N.1 11 q).toNatClampNeg, N.1 12)
/-- what always holds of the class's cells -/
def fk_ic (N : fm_N) (A : fg_A) (o : Nat → Nat) (fc M : Nat) : Prop := fk_G N (fk_gG N) ∧ fk_S N A o fc ∧ fg_Fin (fk_gG N) A ∧ fk_Rf N ∧ fk_rng N ∧ N.1 21 4 = nI M ∧ M < 4096 ∧ ∀ i, fz_bd 0 10000 (N.1 8 i)
theorem fk_gG_same {N N' : fm_N} (h3 : N'.1 4 = N.1 4) (h4 : N'.1 5 = N.1 5) (h5 : N'.1 6 = N.1 6) (h9 : N'.1 10 = N.1 10) (h10 : N'.1 11 = N.1 11) (h11 : N'.1 12 = N.1 12) (hw : ∀ i, decide (nI 100 ≤ N'.1 8 i) = decide (nI 100 ≤ N.1 8 i)) : fk_gG N' = fk_gG N := by
  have e : (fun i => !decide (nI 100 ≤ N'.1 8 i)) = fun i => !decide (nI 100 ≤ N.1 8 i) := funext fun i => by rw [hw]
  unfold fk_gG
  rw [h3, h4, h5, h9, h10, h11, e]
theorem fk_G_w {N N' : fm_N} {G : fg_G} (h : fk_G N G) (h3 : N'.1 4 = N.1 4) (h4 : N'.1 5 = N.1 5) (h5 : N'.1 6 = N.1 6) (h9 : N'.1 10 = N.1 10) (h10 : N'.1 11 = N.1 11) (h11 : N'.1 12 = N.1 12) (w : Nat → Bool) (h8 : ∀ i, i < 12 → N'.1 9 i = fz_b (!w i)) : fk_G N' (G.1, G.2.1, w, G.2.2.2) := by
  obtain ⟨g1, g2, g3, g4, g5, g6, g7⟩ := h
  refine ⟨by rw [h3]; exact g1, by rw [h3]; exact g2, g3, g4, g5, fun i hi => ?_, fun q hq => ?_⟩
  · obtain ⟨k1, k2, k3, k4⟩ := g6 i hi
    rw [h4, h5]
    exact ⟨k1, h8 i hi, k3, k4⟩
  · rw [h9, h10, h11]
    exact g7 q hq
theorem fk_gG_heat {N N' : fm_N} (h : fk_G N (fk_gG N)) (h3 : N'.1 4 = N.1 4) (h4 : N'.1 5 = N.1 5) (h5 : N'.1 6 = N.1 6) (h9 : N'.1 10 = N.1 10) (h10 : N'.1 11 = N.1 11) (h11 : N'.1 12 = N.1 12) (h8 : ∀ i, i < 12 → N'.1 9 i = fz_b (decide (nI 100 ≤ N'.1 8 i))) : fk_G N' (fk_gG N') := by
  have e : fk_gG N' = ((fk_gG N).1, (fk_gG N).2.1, fun i => !decide (nI 100 ≤ N'.1 8 i), (fk_gG N).2.2.2) := by
    unfold fk_gG
    rw [h3, h4, h5, h9, h10, h11]
  rw [e]
  refine fk_G_w h h3 h4 h5 h9 h10 h11 _ fun i hi => ?_
  rw [h8 i hi, Bool.not_not]
abbrev fk_mc : List Nat := [1, 3, 8, 9, 13, 14, 15, 16, 17, 18, 19, 20, 21, 23, 24, 63]
/-- what a minute does to the class's cells -/
def fk_cm (N N' : fm_N) (A : fg_A) (o : Nat → Nat) (fc n M' : Nat) : Prop :=
  fx_M fk_mc 1 10 N N' ∧ (∀ i, N'.1 1 i = if i = 9 then N.1 1 9 + nI 1 else N.1 1 i) ∧
  fq_sv (fg_F A) (fk_kp N A o fc) (fl_a (N.1 23) (N.1 22) n) (fl_n (N.1 22) n) M'.testBit ∧
  N'.1 8 = fh_h (fg_F A) (fg_C A) (fk_fl N A o fc M'.testBit) (N.1 7) (N.1 8) n ∧
  (∀ i, (i < n ∧ ¬ N.1 22 i ≤ nI 0 ∧ M'.testBit i = false → N'.1 23 i = N.1 23 i + nI 1) ∧ (¬ (i < n ∧ ¬ N.1 22 i ≤ nI 0 ∧ M'.testBit i = false) → N'.1 23 i = N.1 23 i)) ∧
  N'.2.1 1 10 = N.2.1 1 10 + fs_l (fun u => if M'.testBit u = true then (N.1 22 u).toInt64 else 0) n
theorem fx_M.ofF {cs ds : List Nat} {lc li : Nat} {N N' : fm_N} (h : fx_F cs N N') (k : ∀ c, ds.contains c = false → cs.contains c = false) : fx_M ds lc li N N' := ⟨fun c hc => h.1 c (k c hc), fun c i _ => by rw [h.2], by rw [h.2]⟩
theorem fx_M.wk {cs ds : List Nat} {lc li : Nat} {N N' : fm_N} (h : fx_M cs lc li N N') (k : ∀ c, ds.contains c = false → cs.contains c = false) : fx_M ds lc li N N' := ⟨fun c hc => h.1 c (k c hc), h.2⟩
theorem fx_M.tr {cs : List Nat} {lc li : Nat} {N N' N'' : fm_N} (h : fx_M cs lc li N N') (k : fx_M cs lc li N' N'') : fx_M cs lc li N N'' := ⟨fun c hc => (k.1 c hc).trans (h.1 c hc), fun c i hc => (k.2.1 c i hc).trans (h.2.1 c i hc), k.2.2.trans h.2.2⟩
theorem fx_F.ofM {cs : List Nat} {lc li : Nat} {N N' : fm_N} (h : fx_M cs lc li N N') : fx_F cs N (N'.1, N.2) := ⟨h.1, rfl⟩
section FKP
variable {X : Nat × (Nat → Int32)} {N : fm_N} {A : fg_A} {o : Nat → Nat} {fc M : Nat} {X' : Nat → fm_N → Prop} {Q : fm_O → fm_M → Prop}
theorem sp_48 (ic : fk_ic N A o fc M) {K : Int32 → fm_N → Prop}
    (k : ∀ N' A' o' fc' M', fk_ic N' A' o' fc' M' → fk_cm N N' A o fc (fg_n (fk_gG N)) M' → (∀ i, M'.testBit i = true → fg_F A' i = true ∧ i < fg_n (fk_gG N)) → K (nI (fg_cn (fh_b (N.1 8) (N'.1 8)) 12)) N') : fm_Ci (fm_PP X) 48 [.inl (.ref 1)] (N, fm_SH) K X' := by
  obtain ⟨hG, h, hFin, hR, hrng, h4, hM, hheat⟩ := ic
  have gok := hG.2.2.2.2.1
  have h12 := hG.2.2.1
  have ok := h.2.2.2.2.1
  obtain ⟨kk, hRe, hnt⟩ := id hFin
  have hFu := fg_Re_Fu gok kk A hRe
  have hn : ∀ u, fg_F A u = true → u < fg_n (fk_gG N) := hFu.1.1.2.2.2.2.2.2.2.2
  have hz := fg_Re_0 gok kk A hRe
  have hinj : ∀ u v, fg_F A u = true → fg_F A v = true → 0 < fg_C A u → fg_C A u = fg_C A v → u = v := fun u v a b c d => fg_cab_inj gok hFin a b c d
  have hC12 : ∀ u, fg_F A u = true → fg_C A u < 12 := fun u hu => (h.1 u (fk_F12 ok hu)).2.2.2.2.2.1
  have hwh : ∀ u, fg_F A u = true → 0 < fg_C A u → ¬ nI 100 ≤ N.1 8 (fg_C A u) := fun u hu hc z => by
    have h1 := (fg_cab gok hFin hu hc).1.2.2
    have h2 : (!decide (nI 100 ≤ N.1 8 (fg_C A u))) = true := h1
    rw [decide_eq_true z] at h2
    cases h2
  have fok : fh_ok (fg_F A) (fg_C A) (N.1 8) := ⟨hinj, hwh⟩
  have hle := fl_n_le (N.1 22) (fg_n (fk_gG N))
  have hline := fl_a_in (N.1 23) (N.1 22) (fg_n (fk_gG N))
  refine fe_48 X N K X' ?_
  refine sp_44 hG hR (fun N1 a1 a2 => ?_)
  have d1 : fk_dt N N1 := fk_dt.of a1.1 (fx_cell a1 1 rfl 7) (fx_cell a1 1 rfl 8) rfl rfl rfl (by decide)
  have hG1 : fk_G N1 (fk_gG N) := hG.fr a1 ⟨rfl, rfl, rfl, rfl, rfl, rfl, rfl⟩
  have h1 : fk_S N1 A o fc := h.fr a1 ⟨rfl, rfl, rfl, rfl, rfl, rfl, rfl⟩
  refine sp_49 hG1 h1 hn a2 (fun N2 M' b1 b2 b3 b4 b5 b6 b7 => ?_)
  rw [a1.1 22 rfl] at b2 b3 b7
  rw [a1.1 23 rfl] at b3 b7
  have d2 : fk_dt N N2 := d1.tr (fk_dt.of b1.1 (fx_cell b1 1 rfl 7) (fx_cell b1 1 rfl 8) rfl rfl rfl (by decide))
  have hkp : ∀ s, fk_kp N1 A o fc s ↔ fk_kp N A o fc s := fun s => fk_kp_dt ok d1
  have hsv : fq_sv (fg_F A) (fk_kp N A o fc) (fl_a (N.1 23) (N.1 22) (fg_n (fk_gG N))) (fl_n (N.1 22) (fg_n (fk_gG N))) M'.testBit := by
    rw [show fk_kp N A o fc = fk_kp N1 A o fc from funext fun s => propext (hkp s).symm]
    exact b7
  have hin := fq_sv_in _ _ hsv
  refine sp_50 (by omega) b4 b2 b5 b3 hline.2.1 (fun N3 c1 c2 c3 c4 => ?_)
  have m12 : fx_M fk_mc 1 10 N N2 := (fx_M.ofF a1 (by intro c hc; simp at hc ⊢; omega)).tr (fx_M.ofF b1 (by intro c hc; simp at hc ⊢; omega))
  have m13 : fx_M fk_mc 1 10 N N3 := m12.tr (c1.wk (by intro c hc; simp at hc ⊢; omega))
  have c27 : N3.1 1 7 = N2.1 1 7 := by rw [c2]; rfl
  have c28 : N3.1 1 8 = N2.1 1 8 := by rw [c2]; rfl
  have d3 : fk_dt N N3 := d2.tr (fk_dt.of c1.1 c27 c28 rfl rfl rfl (by decide))
  have e4 : N3.1 21 4 = nI M' := by rw [c1.1 21 rfl]; exact b5
  rw [e4]
  have hG2 : fk_G N2 (fk_gG N) := hG1.fr b1 ⟨rfl, rfl, rfl, rfl, rfl, rfl, rfl⟩
  have hG3' : fk_G (N3.1, N2.2) (fk_gG N) := hG2.fr (fx_F.ofM c1) ⟨rfl, rfl, rfl, rfl, rfl, rfl, rfl⟩
  have hG3 : fk_G N3 (fk_gG N) := hG3'
  have h2 : fk_S N2 A o fc := h1.fr b1 ⟨rfl, rfl, rfl, rfl, rfl, rfl, rfl⟩
  have h3' : fk_S (N3.1, N2.2) A o fc := h2.fr (fx_F.ofM c1) ⟨rfl, rfl, rfl, rfl, rfl, rfl, rfl⟩
  have h3 : fk_S N3 A o fc := h3'
  have hO3 : fk_own N3 (fg_n (fk_gG N)) := fun i hi => by
    have e := b6 i hi
    rw [c1.1 63 rfl, c1.1 62 rfl, c28, fk_cv_dt (fk_dt.of c1.1 c27 c28 rfl rfl rfl (by decide)) (by omega)]
    exact e
  refine sp_46 h3 hn hO3 b4 (fun N4 f1 f2 => ?_)
  have d4 : fk_dt N N4 := d3.tr (fk_dt.of f1.1 (fx_cell f1 1 rfl 7) (fx_cell f1 1 rfl 8) rfl rfl rfl (by decide))
  have m14 : fx_M fk_mc 1 10 N N4 := m13.tr (fx_M.ofF f1 (by intro c hc; simp at hc ⊢; omega))
  have hG4 : fk_G N4 (fk_gG N) := hG3.fr f1 ⟨rfl, rfl, rfl, rfl, rfl, rfl, rfl⟩
  have h4' : fk_S N4 A o fc := h3.fr f1 ⟨rfl, rfl, rfl, rfl, rfl, rfl, rfl⟩
  have e7 : N4.1 8 = N.1 8 := by rw [f1.1 8 rfl, c1.1 8 rfl, b1.1 8 rfl, a1.1 8 rfl]
  have e8 : N4.1 9 = N.1 9 := by rw [f1.1 9 rfl, c1.1 9 rfl, b1.1 9 rfl, a1.1 9 rfl]
  have e6 : N4.1 7 = N.1 7 := d4.2.2.1
  have h8 : ∀ i, i < 12 → N.1 9 i = fz_b (decide (nI 100 ≤ N.1 8 i)) := fun i hi => by
    have := (hG.2.2.2.2.2.1 i hi).2.1
    rw [this]
    show fz_b (!!decide (nI 100 ≤ N.1 8 i)) = _
    rw [Bool.not_not]
  refine sp_51 hG4 h4' hz.2.1 hinj (by rw [e7]; exact hwh) (by rw [e7, e8]; exact h8) (fun N5 g1 g2 g3 => ?_)
  rw [e7]
  have hfl : ∀ u, fg_F A u = true → N4.1 19 u = fk_fl N A o fc M'.testBit u := fun u hu => by
    obtain ⟨j, hj, hoj⟩ := ok.2.2.2.1 u hu
    rw [← hoj, (f2 j hj).1, fk_fl_dt ok d4]
  have hfh : N5.1 8 = fh_h (fg_F A) (fg_C A) (fk_fl N A o fc M'.testBit) (N.1 7) (N.1 8) (fg_n (fk_gG N)) := by
    rw [g2, e6, e7, fh_congr hfl]
  have m15 : fx_M fk_mc 1 10 N N5 := m14.tr (fx_M.ofF g1 (by intro c hc; simp at hc ⊢; omega))
  have d5 : fk_dt N N5 := d4.tr (fk_dt.of g1.1 (fx_cell g1 1 rfl 7) (fx_cell g1 1 rfl 8) rfl rfl rfl (by decide))
  have c0 : ∀ i, N5.1 1 i = if i = 9 then N.1 1 9 + nI 1 else N.1 1 i := fun i => by
    rw [g1.1 1 rfl, f1.1 1 rfl, c2, b1.1 1 rfl, a1.1 1 rfl]
  have c22 : ∀ i, (i < fg_n (fk_gG N) ∧ ¬ N.1 22 i ≤ nI 0 ∧ M'.testBit i = false → N5.1 23 i = N.1 23 i + nI 1) ∧ (¬ (i < fg_n (fk_gG N) ∧ ¬ N.1 22 i ≤ nI 0 ∧ M'.testBit i = false) → N5.1 23 i = N.1 23 i) := fun i => by
    have hl : (∃ j, j < fl_n (N.1 22) (fg_n (fk_gG N)) ∧ fl_a (N.1 23) (N.1 22) (fg_n (fk_gG N)) j = i) ↔ i < fg_n (fk_gG N) ∧ ¬ N.1 22 i ≤ nI 0 := by
      constructor
      · rintro ⟨j, hj, hji⟩
        rw [← hji]
        exact hline.1 j hj
      · rintro ⟨hi1, hi2⟩
        exact hline.2.2 i hi1 hi2
    have := c4 i
    rw [hl, b1.1 23 rfl, a1.1 23 rfl, and_assoc] at this
    rw [g1.1 23 rfl, f1.1 23 rfl]
    exact this
  have c10 : N5.2.1 1 10 = N.2.1 1 10 + fs_l (fun u => if M'.testBit u = true then (N.1 22 u).toInt64 else 0) (fg_n (fk_gG N)) := by
    rw [g1.2, f1.2, c3, b1.2, a1.2, b1.1 22 rfl, a1.1 22 rfl, fs_l_line (fun u => if M'.testBit u = true then (N.1 22 u).toInt64 else 0)]
    congr 1
    refine fs_l_congr _ fun u _ => ?_
    by_cases y : N.1 22 u ≤ nI 0
    · rw [if_pos y]
      rw [if_neg]
      intro hb
      obtain ⟨_, j, hj, hju⟩ := hin.1 u hb
      have := (hline.1 j hj).2
      rw [hju] at this
      exact this y
    · rw [if_neg y]
  have hbd : ∀ i, fz_bd 0 10000 (N5.1 8 i) := fun i => by
    rw [hfh]
    exact fh_bd fok hheat (fun u => fk_fl_bd hR hrng A o fc _ u) (fun u hu hc => (hrng.1 _ (hC12 u hu)).2.2) _ i
  have hG5 : fk_G N5 (fk_gG N5) := fk_gG_heat hG (m15.1 4 rfl) (m15.1 5 rfl) (m15.1 6 rfl) (m15.1 10 rfl) (m15.1 11 rfl) (m15.1 12 rfl) g3
  have h5 : fk_S N5 A o fc := h4'.fr g1 ⟨rfl, rfl, rfl, rfl, rfl, rfl, rfl⟩
  have h204 : N5.1 21 4 = nI M' := by rw [g1.1 21 rfl, f1.1 21 rfl]; exact e4
  have hbits : ∀ i, M'.testBit i = true → i < fg_n (fk_gG N) := fun i hi => hn i (hin.1 i hi).1
  have hcm : ∀ N6, fx_F fk_cs N5 N6 → fk_cm N N6 A o fc (fg_n (fk_gG N)) M' := fun N6 p => by
    refine ⟨m15.tr (fx_M.ofF p (by intro c hc; simp at hc ⊢; omega)), fun i => ?_, hsv, ?_, fun i => ?_, ?_⟩
    · rw [p.1 1 rfl]; exact c0 i
    · rw [p.1 8 rfl]; exact hfh
    · rw [p.1 23 rfl]; exact c22 i
    · rw [p.2]; exact c10
  have hcnt12 : fg_cn (fh_b (N.1 8) (N5.1 8)) 12 ≤ 12 := fg_cn_le _ 12
  rw [fz_le (by omega) (by omega)]
  refine ⟨fun z => ⟨rfl, ?_⟩, fun z => ?_⟩
  · have hsame : ∀ i, decide (nI 100 ≤ N5.1 8 i) = decide (nI 100 ≤ N.1 8 i) := fun i => by
      by_cases y : nI 100 ≤ N.1 8 i
      · rw [hfh, fh_blown fok y]
      · by_cases w : i < 12
        · have hb : fh_b (N.1 8) (N5.1 8) i = false := by
            cases hb : fh_b (N.1 8) (N5.1 8) i
            · rfl
            · have := fg_cn_pos 12 ⟨i, w, hb⟩
              omega
          unfold fh_b at hb
          rw [decide_eq_false y] at hb ⊢
          simpa using hb
        · rw [hfh, fh_at _ (fun u _ hu _ e => by have := hC12 u hu; omega)]
    have hgs : fk_gG N5 = fk_gG N := fk_gG_same (m15.1 4 rfl) (m15.1 5 rfl) (m15.1 6 rfl) (m15.1 10 rfl) (m15.1 11 rfl) (m15.1 12 rfl) hsame
    exact k N5 A o fc M' ⟨hG5, h5, by rw [hgs]; exact hFin, fk_Rf_dt d5 hR, fk_rng_dt d5 hrng, h204, b4, hbd⟩ (hcm N5 (fx_F.rf _ _)) (fun i hi => ⟨(hin.1 i hi).1, hbits i hi⟩)
  · refine sp_120 hG5 h5 hz (fun N6 A' o' fc' p1 p2 p3 => ⟨rfl, ?_⟩)
    have hnone : ∀ i, M'.testBit i = false := by
      rcases hin.2 with q | q
      · exact q
      · exfalso
        apply z
        have h0 : ∀ m, fg_cn (fh_b (N.1 8) (N5.1 8)) m = 0 := by
          intro m
          induction m with
          | zero => rfl
          | succ m ih =>
            unfold fg_cn
            rw [ih, if_neg]
            unfold fh_b
            by_cases y : nI 100 ≤ N.1 8 m
            · rw [decide_eq_true y]; simp
            · have : ¬ nI 100 ≤ N5.1 8 m := by
                rw [hfh]
                refine fh_calm fok hheat (fun u hu hc => ?_) _ m y
                obtain ⟨j, hj, hoj⟩ := ok.2.2.2.1 u hu
                have := (q j hj).2
                rw [hoj] at this
                exact this hc
              rw [decide_eq_false this]
              simp
        rw [h0]
        exact Nat.le_refl 0
    have e7' : N6.1 8 = N5.1 8 := p1.1 8 rfl
    rw [← e7']
    have hgs : fk_gG N6 = fk_gG N5 := fk_gG_same (p1.1 4 rfl) (p1.1 5 rfl) (p1.1 6 rfl) (p1.1 10 rfl) (p1.1 11 rfl) (p1.1 12 rfl) (fun i => by rw [e7'])
    have d6 : fk_dt N N6 := d5.tr (fk_dt.of p1.1 (fx_cell p1 1 rfl 7) (fx_cell p1 1 rfl 8) rfl rfl rfl (by decide))
    exact k N6 A' o' fc' M' ⟨by rw [hgs]; exact fk_fr hG5 p1, p2, by rw [hgs]; exact p3, fk_Rf_dt d6 hR, fk_rng_dt d6 hrng, by rw [p1.1 21 rfl]; exact h204, b4, by rw [e7']; exact hbd⟩ (hcm N6 p1) (fun i hi => by rw [hnone i] at hi; cases hi)
end FKP
