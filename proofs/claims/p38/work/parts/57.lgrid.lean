/-! the grid is changed -/
theorem fj_nodeG {N N1 : fm_N} {u : Nat} (hG : fk_G N (fk_gG N)) (hf : fg_n (fk_gG N) < 12) (hu : u < fg_n (fk_gG N)) (r38 : N1.1 4 8 = nI (fg_n (fk_gG N) + 1)) (r39 : N1.1 4 9 = N.1 4 9) (r4 : ∀ i, N1.1 5 i = if i = fg_n (fk_gG N) then nI u else N.1 5 i) (r7 : N1.1 8 = N.1 8) (r8 : N1.1 9 = N.1 9) (r9 : N1.1 10 = N.1 10) (r10 : N1.1 11 = N.1 11) (r11 : N1.1 12 = N.1 12) : fk_G N1 (fk_gG N1) ∧ fg_n (fk_gG N1) = fg_n (fk_gG N) + 1 := by
  obtain ⟨g1, g2, g3, g4, g5, g6, g7⟩ := hG
  have en : fg_n (fk_gG N1) = fg_n (fk_gG N) + 1 := by
    show (N1.1 4 8).toNatClampNeg = _
    rw [r38, fz_t (by omega)]
  have et : fg_t (fk_gG N1) = fg_t (fk_gG N) := by
    show (N1.1 4 9).toNatClampNeg = (N.1 4 9).toNatClampNeg
    rw [r39]
  have ep : ∀ i, fg_p (fk_gG N1) i = if i = fg_n (fk_gG N) then u else fg_p (fk_gG N) i := fun i => by
    show (N1.1 5 i).toNatClampNeg = _
    rw [r4]
    by_cases z : i = fg_n (fk_gG N)
    · rw [if_pos z, if_pos z, fz_t (by omega)]
    · rw [if_neg z, if_neg z]; rfl
  have ea : ∀ q, fg_a (fk_gG N1) q = fg_a (fk_gG N) q := fun q => by
    show (N1.1 10 q).toNatClampNeg = (N.1 10 q).toNatClampNeg
    rw [r9]
  have eb : ∀ q, fg_b (fk_gG N1) q = fg_b (fk_gG N) q := fun q => by
    show (N1.1 11 q).toNatClampNeg = (N.1 11 q).toNatClampNeg
    rw [r10]
  refine ⟨⟨by rw [en]; exact r38, by rw [et, r39]; exact g2, by omega, by omega, ⟨by omega, fun c h1 h2 => ?_, fun q hq => ?_⟩, fun i hi => ?_, fun q hq => ?_⟩, en⟩
  · rw [ep]
    by_cases z : c = fg_n (fk_gG N)
    · rw [if_pos z]; omega
    · rw [if_neg z]; exact g5.2.1 c h1 (by omega)
  · rw [ea, eb, en]
    have := g5.2.2 q (by omega)
    exact ⟨by omega, by omega, this.2.2⟩
  · obtain ⟨k1, k2, k3, k4⟩ := g6 i hi
    refine ⟨?_, ?_, rfl, ?_⟩
    · rw [ep, r4]
      by_cases z : i = fg_n (fk_gG N)
      · rw [if_pos z, if_pos z]
      · rw [if_neg z, if_neg z]; exact k1
    · rw [r8, k2]
      show fz_b (!!decide (nI 100 ≤ N.1 8 i)) = fz_b (!!decide (nI 100 ≤ N1.1 8 i))
      rw [r7]
    · rw [ep]
      by_cases z : i = fg_n (fk_gG N)
      · rw [if_pos z]; omega
      · rw [if_neg z]; exact k4
  · obtain ⟨k1, k2, k3, k4, k5⟩ := g7 q hq
    rw [ea, eb, r9, r10]
    exact ⟨k1, k2, rfl, k4, k5⟩
theorem fj_tieG {N N1 : fm_N} {u v : Nat} (hG : fk_G N (fk_gG N)) (hf : fg_t (fk_gG N) < 4) (hu : u < fg_n (fk_gG N)) (hv : v < fg_n (fk_gG N)) (huv : u ≠ v) (r39 : N1.1 4 9 = nI (fg_t (fk_gG N) + 1)) (r38 : N1.1 4 8 = N.1 4 8) (r9 : ∀ i, N1.1 10 i = if i = fg_t (fk_gG N) then nI u else N.1 10 i) (r10 : ∀ i, N1.1 11 i = if i = fg_t (fk_gG N) then nI v else N.1 11 i) (r4 : N1.1 5 = N.1 5) (r5 : N1.1 6 = N.1 6) (r7 : N1.1 8 = N.1 8) (r8 : N1.1 9 = N.1 9) : fk_G N1 (fk_gG N1) ∧ fg_n (fk_gG N1) = fg_n (fk_gG N) := by
  obtain ⟨g1, g2, g3, g4, g5, g6, g7⟩ := hG
  have et : fg_t (fk_gG N1) = fg_t (fk_gG N) + 1 := by
    show (N1.1 4 9).toNatClampNeg = _
    rw [r39, fz_t (by omega)]
  have en : fg_n (fk_gG N1) = fg_n (fk_gG N) := by
    show (N1.1 4 8).toNatClampNeg = (N.1 4 8).toNatClampNeg
    rw [r38]
  have ea : ∀ i, fg_a (fk_gG N1) i = if i = fg_t (fk_gG N) then u else fg_a (fk_gG N) i := fun i => by
    show (N1.1 10 i).toNatClampNeg = _
    rw [r9]
    by_cases z : i = fg_t (fk_gG N)
    · rw [if_pos z, if_pos z, fz_t (by omega)]
    · rw [if_neg z, if_neg z]; rfl
  have eb : ∀ i, fg_b (fk_gG N1) i = if i = fg_t (fk_gG N) then v else fg_b (fk_gG N) i := fun i => by
    show (N1.1 11 i).toNatClampNeg = _
    rw [r10]
    by_cases z : i = fg_t (fk_gG N)
    · rw [if_pos z, if_pos z, fz_t (by omega)]
    · rw [if_neg z, if_neg z]; rfl
  have ep : ∀ q, fg_p (fk_gG N1) q = fg_p (fk_gG N) q := fun q => by
    show (N1.1 5 q).toNatClampNeg = (N.1 5 q).toNatClampNeg
    rw [r4]
  refine ⟨⟨by rw [en, r38]; exact g1, by rw [et]; exact r39, by omega, by omega, ⟨by rw [en]; exact g5.1, fun c h1 h2 => ?_, fun q hq => ?_⟩, fun i hi => ?_, fun q hq => ?_⟩, en⟩
  · rw [ep]; exact g5.2.1 c h1 (by omega)
  · rw [ea, eb, en]
    by_cases z : q = fg_t (fk_gG N)
    · rw [if_pos z, if_pos z]; exact ⟨hu, hv, huv⟩
    · rw [if_neg z, if_neg z]; exact g5.2.2 q (by omega)
  · obtain ⟨k1, k2, k3, k4⟩ := g6 i hi
    refine ⟨by rw [ep, r4]; exact k1, ?_, rfl, by rw [ep]; exact k4⟩
    rw [r8, k2]
    show fz_b (!!decide (nI 100 ≤ N.1 8 i)) = fz_b (!!decide (nI 100 ≤ N1.1 8 i))
    rw [r7]
  · obtain ⟨k1, k2, k3, k4, k5⟩ := g7 q hq
    rw [ea, eb, r9, r10]
    by_cases z : q = fg_t (fk_gG N)
    · rw [if_pos z, if_pos z, if_pos z, if_pos z]; exact ⟨rfl, rfl, rfl, by omega, by omega⟩
    · rw [if_neg z, if_neg z, if_neg z, if_neg z]; exact ⟨k1, k2, rfl, k4, k5⟩
section FJF0
variable {N : fm_N} {u : Nat}
theorem fj_fuseG (hG : fk_G N (fk_gG N)) : fk_G (fm_uI (fm_uI N.1 9 u (nI 0)) 8 u (nI 0), N.2) (fk_gG (fm_uI (fm_uI N.1 9 u (nI 0)) 8 u (nI 0), N.2)) := by
  refine fk_gG_heat hG (by funext i; simp [fm_uI]) (by funext i; simp [fm_uI]) (by funext i; simp [fm_uI]) (by funext i; simp [fm_uI]) (by funext i; simp [fm_uI]) (by funext i; simp [fm_uI]) (fun i hi => ?_)
  by_cases z : i = u
  · simp [fm_uI, z]; decide
  · have h8 := (hG.2.2.2.2.2.1 i hi).2.1
    simp [fm_uI, z]
    rw [h8]
    show fz_b (!!decide (nI 100 ≤ N.1 8 i)) = _
    rw [Bool.not_not]
theorem fj_fuseN : fg_n (fk_gG (fm_uI (fm_uI N.1 9 u (nI 0)) 8 u (nI 0), N.2)) = fg_n (fk_gG N) := by
  show (fm_uI (fm_uI N.1 9 u (nI 0)) 8 u (nI 0) 4 8).toNatClampNeg = (N.1 4 8).toNatClampNeg
  simp [fm_uI]
end FJF0
theorem fj_An {N : fm_N} {A : fg_A} {G : fg_G} (hG : fk_G N G) (h : fg_Fin G A) : ∀ u, fg_F A u = true → u < fg_n G := by
  obtain ⟨kk, hRe, -⟩ := h
  exact (fg_Re_Fu hG.2.2.2.2.1 kk A hRe).1.1.2.2.2.2.2.2.2.2
theorem fk_ic_A0 {N : fm_N} {A : fg_A} {o : Nat → Nat} {fc M : Nat} (ic : fk_ic N A o fc M) : fg_D A 0 = 0 ∧ fg_C A 0 = 0 ∧ fg_S A 0 = 0 := by
  obtain ⟨kk, hRe, -⟩ := ic.2.2.1
  exact fg_Re_0 ic.1.2.2.2.2.1 kk A hRe
abbrev fj_gc : List Nat := [0, 4, 5, 6, 7, 8, 9, 10, 11, 12]
theorem fk_ic_rg {N N1 N2 : fm_N} {A A' : fg_A} {o o' : Nat → Nat} {fc fc' M : Nat} (ic : fk_ic N A o fc M) (hG1 : fk_G N1 (fk_gG N1)) (hF1 : fx_F fj_gc N N1) (hF2 : fx_F fk_cs N1 N2) (hS : fk_S N2 A' o' fc') (hFin : fg_Fin (fk_gG N1) A') (hrt : ∀ i, i < 12 → fz_bd 0 400 (N1.1 7 i)) (hh : ∀ i, fz_bd 0 10000 (N1.1 8 i)) : fk_ic N2 A' o' fc' M ∧ fk_gG N2 = fk_gG N1 := by
  obtain ⟨_, _, _, hR, hr, h4, hM, _⟩ := ic
  have e1 := hF1.1
  have e2 := hF2.1
  have eG : fk_gG N2 = fk_gG N1 := fk_gG_same (e2 4 rfl) (e2 5 rfl) (e2 6 rfl) (e2 10 rfl) (e2 11 rfl) (e2 12 rfl) (fun i => by rw [e2 8 rfl])
  have hp1 := fj_hp fj_gc (by intro c h1 h2; simp; omega)
  have hp2 := fj_hp fk_cs (by intro c h1 h2; simp; omega)
  refine ⟨⟨?_, hS, ?_, (hR.fr hF1 hp1).fr hF2 hp2, ⟨fun i hi => ?_, ?_, fun j hj k hk => ?_⟩, ?_, hM, fun i => ?_⟩, eG⟩
  · rw [eG]; exact hG1.fr hF2 ⟨rfl, rfl, rfl, rfl, rfl, rfl, rfl⟩
  · rw [eG]; exact hFin
  · rw [e2 62 rfl, e1 62 rfl, e2 22 rfl, e1 22 rfl, e2 7 rfl]
    exact ⟨(hr.1 i hi).1, (hr.1 i hi).2.1, hrt i hi⟩
  · rw [e2 1 rfl, e1 1 rfl]; exact hr.2.1
  · rw [e2 _ (hp2 j hj).2.2, e1 _ (hp1 j hj).2.2]; exact hr.2.2 j hj k hk
  · rw [e2 21 rfl, e1 21 rfl]; exact h4
  · rw [e2 8 rfl]; exact hh i
/-- the grid, cell by cell -/
def fl_Gc (N : fm_N) : Prop := N.1 0 0 = N.1 4 8 ∧ N.1 0 1 = N.1 4 9 ∧ (∀ i, i < 8 → N.1 0 (10 + i) = N.1 5 i ∧ N.1 0 (150 + i) = N.1 9 i ∧ N.1 0 (30 + i) = N.1 6 i) ∧ ∀ q, q < 4 → N.1 0 (340 + 3 * q) = N.1 10 q ∧ N.1 0 (341 + 3 * q) = N.1 11 q ∧ N.1 0 (342 + 3 * q) = N.1 12 q
theorem fl_G_of {N : fm_N} {G : fg_G} (h : fk_G N G) (h8 : fg_n G ≤ 8) (c : fl_Gc N) : fl_G N G := by
  obtain ⟨g1, g2, -, g4, g5, g6, g7⟩ := h
  obtain ⟨c1, c2, c3, c4⟩ := c
  refine ⟨c1.trans g1, c2.trans g2, h8, g4, g5, fun i hi => ?_, fun q hq => ?_⟩
  · obtain ⟨k1, k2, k3, -⟩ := g6 i (by omega)
    obtain ⟨d1, d2, d3⟩ := c3 i hi
    exact ⟨d1.trans k1, d2.trans k2, d3.trans k3⟩
  · obtain ⟨k1, k2, k3, -⟩ := g7 q hq
    obtain ⟨d1, d2, d3⟩ := c4 q hq
    exact ⟨d1.trans k1, d2.trans k2, d3.trans k3⟩
theorem fl_Gc_of {N : fm_N} {G : fg_G} (h : fk_G N G) (g : fl_G N G) : fl_Gc N := by
  obtain ⟨g1, g2, -, g4, g5, g6, g7⟩ := h
  obtain ⟨c1, c2, -, -, -, c3, c4⟩ := g
  refine ⟨c1.trans g1.symm, c2.trans g2.symm, fun i hi => ?_, fun q hq => ?_⟩
  · obtain ⟨k1, k2, k3, -⟩ := g6 i (by omega)
    obtain ⟨d1, d2, d3⟩ := c3 i hi
    exact ⟨d1.trans k1.symm, d2.trans k2.symm, d3.trans k3.symm⟩
  · obtain ⟨k1, k2, k3, -⟩ := g7 q hq
    obtain ⟨d1, d2, d3⟩ := c4 q hq
    exact ⟨d1.trans k1.symm, d2.trans k2.symm, d3.trans k3.symm⟩
/-- the net again after the grid is changed -/
theorem fl_T_gr {N N1 : fm_N} {M mi : Nat} (h : fl_T N N M mi) (hG1 : fk_G N1 (fk_gG N1)) (h8 : fg_n (fk_gG N1) ≤ 8) (gc : fl_Gc N1) (n : ∀ j, (2 ≤ j ∧ j ≤ 5 ∨ (70 ≤ j ∧ j < 78) ∨ (90 ≤ j ∧ j < 98) ∨ (110 ≤ j ∧ j < 118) ∨ (170 ≤ j ∧ j < 178) ∨ (190 ≤ j ∧ j < 340)) → N1.1 0 j = N.1 0 j) (hF : fx_F fj_gc N N1)
    (a5 : ∀ i, i < 8 → N1.1 0 (50 + i) = N1.1 7 i) (a13 : ∀ i, i < 8 → N1.1 0 (130 + i) = N1.1 8 i) (hz : ∀ i, i < 8 → fg_n (fk_gG N1) ≤ i → N1.1 0 (400 + i) = nI 0) : fl_T N1 N1 M mi := by
  obtain ⟨⟨k1, k2, k3, k4⟩, -, h3, -, h5, h6, h7⟩ := h
  have e := hF.1
  have hp := fj_hp fj_gc (by intro c h1 h2; simp; omega)
  refine ⟨⟨?_, ?_, fun i hi => ⟨a5 i hi, ?_, ?_⟩, fun u hu => ?_⟩, fl_G_of hG1 h8 gc, fun i hi => ?_, hz, ?_, ?_, h7⟩
  · rw [n 2 (by omega), e 1 rfl]; exact k1
  · rw [n 3 (by omega), e 1 rfl]; exact k2
  · rw [n (70 + i) (by omega), e 62 rfl]; exact (k3 i hi).2.1
  · rw [n (90 + i) (by omega), e 22 rfl]; exact (k3 i hi).2.2
  · obtain ⟨L, q1, q2, q3, q4, q5⟩ := k4 u hu
    obtain ⟨t0, t1, t2⟩ := hp u (by omega)
    rw [e _ t0, e _ t1, e _ t2]
    refine ⟨L, q1, q2, by rw [n (210 + u) (by omega)]; exact q3, by rw [n (190 + u) (by omega)]; exact q4, fun k a b => ?_⟩
    rw [n (228 + 8 * u + 2 * k + 1) (by omega), n (228 + 8 * u + 2 * k) (by omega)]
    exact q5 k a b
  · obtain ⟨q1, q2, q3, q4⟩ := h3 i hi
    rw [n (110 + i) (by omega), n (170 + i) (by omega), e 23 rfl]
    exact ⟨q1, a13 i hi, q3, q4⟩
  · rw [n 4 (by omega), e 1 rfl]; exact h5
  · rw [n 5 (by omega), hF.2]; exact h6
theorem fl_E.cs {N N' : fm_N} (h : fx_F fk_cs N N') : fl_E N N' := by
  refine ⟨fun c hc => h.1 c ?_, by rw [h.2]⟩
  unfold fl_dc at hc
  simp only [List.contains_eq_mem, List.mem_cons, List.not_mem_nil, or_false, decide_eq_false_iff_not]
  omega
theorem fl_T.cs {N N' : fm_N} {M mi : Nat} (h : fl_T N N M mi) (k : fx_F fk_cs N N') : fl_T N' N' M mi := fl_T_0 ((fl_E.cs k).T h) (k.1 0 rfl)
section FJN
variable {X : Nat × (Nat → Int32)} {N N2 : fm_N} {A A' : fg_A} {o o' : Nat → Nat} {fc fc' M mi n u v : Nat} {y w : Int32} {K : Int32 → fm_N → Prop} {X' : Nat → fm_N → Prop}
theorem fj_node (hI : fj_I N A o fc M mi) (hn : fg_n (fk_gG N) = n) (hf : n < 8) (hu : u < n) (hw : fz_bd 0 400 w) :
    fk_G (fm_uI (fm_uI (fm_uI (fm_uI (fm_uI (fm_uI (fm_uI (fm_uI N.1 0 (10 + n) (nI u)) 0 (30 + n) y) 0 (50 + n) w) 0 0 (nI (n + 1))) 5 n (nI u)) 6 n y) 7 n w) 4 8 (nI (n + 1)), N.2) (fk_gG (fm_uI (fm_uI (fm_uI (fm_uI (fm_uI (fm_uI (fm_uI (fm_uI N.1 0 (10 + n) (nI u)) 0 (30 + n) y) 0 (50 + n) w) 0 0 (nI (n + 1))) 5 n (nI u)) 6 n y) 7 n w) 4 8 (nI (n + 1)), N.2)) ∧ fk_S (fm_uI (fm_uI (fm_uI (fm_uI (fm_uI (fm_uI (fm_uI (fm_uI N.1 0 (10 + n) (nI u)) 0 (30 + n) y) 0 (50 + n) w) 0 0 (nI (n + 1))) 5 n (nI u)) 6 n y) 7 n w) 4 8 (nI (n + 1)), N.2) A o fc ∧
    ∀ N2 A' o' fc', fx_F fk_cs (fm_uI (fm_uI (fm_uI (fm_uI (fm_uI (fm_uI (fm_uI (fm_uI N.1 0 (10 + n) (nI u)) 0 (30 + n) y) 0 (50 + n) w) 0 0 (nI (n + 1))) 5 n (nI u)) 6 n y) 7 n w) 4 8 (nI (n + 1)), N.2) N2 → fk_S N2 A' o' fc' → fg_Fin (fk_gG (fm_uI (fm_uI (fm_uI (fm_uI (fm_uI (fm_uI (fm_uI (fm_uI N.1 0 (10 + n) (nI u)) 0 (30 + n) y) 0 (50 + n) w) 0 0 (nI (n + 1))) 5 n (nI u)) 6 n y) 7 n w) 4 8 (nI (n + 1)), N.2)) A' → fj_I N2 A' o' fc' M mi ∧ fg_n (fk_gG N2) = n + 1 := by
  obtain ⟨ic, hT, hb⟩ := hI
  subst hn
  have hG1 := fj_nodeG (N1 := (fm_uI (fm_uI (fm_uI (fm_uI (fm_uI (fm_uI (fm_uI (fm_uI N.1 0 (10 + (fg_n (fk_gG N))) (nI u)) 0 (30 + (fg_n (fk_gG N))) y) 0 (50 + (fg_n (fk_gG N))) w) 0 0 (nI (fg_n (fk_gG N) + 1))) 5 (fg_n (fk_gG N)) (nI u)) 6 (fg_n (fk_gG N)) y) 7 (fg_n (fk_gG N)) w) 4 8 (nI (fg_n (fk_gG N) + 1)), N.2)) ic.1 (by omega) hu (by simp (disch := omega) only [fz_an, fz_ae, fz_ne]) (by simp (disch := omega) only [fz_an, fz_ae, fz_ne]) (fun i => by simp (disch := omega) only [fz_at, fz_ne]) (by simp (disch := omega) only [fz_an, fz_ae, fz_ne]) (by simp (disch := omega) only [fz_an, fz_ae, fz_ne]) (by simp (disch := omega) only [fz_an, fz_ae, fz_ne]) (by simp (disch := omega) only [fz_an, fz_ae, fz_ne]) (by simp (disch := omega) only [fz_an, fz_ae, fz_ne])
  generalize hn : fg_n (fk_gG N) = n at *
  have hF1 : fx_F fj_gc N (fm_uI (fm_uI (fm_uI (fm_uI (fm_uI (fm_uI (fm_uI (fm_uI N.1 0 (10 + n) (nI u)) 0 (30 + n) y) 0 (50 + n) w) 0 0 (nI (n + 1))) 5 n (nI u)) 6 n y) 7 n w) 4 8 (nI (n + 1)), N.2) := ((((((((fx_F.rf _ N).up rfl).up rfl).up rfl).up rfl).up rfl).up rfl).up rfl).up rfl
  refine ⟨hG1.1, ic.2.1.fr hF1 ⟨rfl, rfl, rfl, rfl, rfl, rfl, rfl⟩, fun N2 A' o' fc' b1 b2 b3 => ?_⟩
  have q7 : ∀ i, i < 12 → fz_bd 0 400 ((fm_uI (fm_uI (fm_uI (fm_uI (fm_uI (fm_uI (fm_uI (fm_uI N.1 0 (10 + n) (nI u)) 0 (30 + n) y) 0 (50 + n) w) 0 0 (nI (n + 1))) 5 n (nI u)) 6 n y) 7 n w) 4 8 (nI (n + 1)), N.2).1 7 i) := fun i hi => by
    by_cases z : i = n
    · subst z
      simp (disch := omega) only [fz_an, fz_ae, fz_ne]
      exact hw
    · simp (disch := omega) only [fz_an, fz_ae, fz_ne]
      exact (ic.2.2.2.2.1.1 i hi).2.2
  have q8 : ∀ i, fz_bd 0 10000 ((fm_uI (fm_uI (fm_uI (fm_uI (fm_uI (fm_uI (fm_uI (fm_uI N.1 0 (10 + n) (nI u)) 0 (30 + n) y) 0 (50 + n) w) 0 0 (nI (n + 1))) 5 n (nI u)) 6 n y) 7 n w) 4 8 (nI (n + 1)), N.2).1 8 i) := fun i => by
    simp (disch := omega) only [fz_an, fz_ae, fz_ne]
    exact ic.2.2.2.2.2.2.2 i
  obtain ⟨r1, r2⟩ := fk_ic_rg ic hG1.1 hF1 b1 b2 b3 q7 q8
  · have c := fl_Gc_of ic.1 hT.2.1
    have hT1 : fl_T (fm_uI (fm_uI (fm_uI (fm_uI (fm_uI (fm_uI (fm_uI (fm_uI N.1 0 (10 + n) (nI u)) 0 (30 + n) y) 0 (50 + n) w) 0 0 (nI (n + 1))) 5 n (nI u)) 6 n y) 7 n w) 4 8 (nI (n + 1)), N.2) (fm_uI (fm_uI (fm_uI (fm_uI (fm_uI (fm_uI (fm_uI (fm_uI N.1 0 (10 + n) (nI u)) 0 (30 + n) y) 0 (50 + n) w) 0 0 (nI (n + 1))) 5 n (nI u)) 6 n y) 7 n w) 4 8 (nI (n + 1)), N.2) M mi := by
      refine fl_T_gr hT hG1.1 (by rw [hG1.2]; omega) ⟨?_, ?_, fun i hi => ?_, fun q hq => ?_⟩ (fun j hj => ?_) hF1 (fun i hi => ?_) (fun i hi => ?_) (fun i hi hin => ?_)
      · simp (disch := omega) only [fz_an, fz_ae, fz_ne]
      · simp (disch := omega) only [fz_an, fz_ae, fz_ne]
        exact c.2.1
      · by_cases z : i = n
        · subst z
          simp (disch := omega) only [fz_an, fz_ae, fz_ne]
          exact ⟨trivial, (c.2.2.1 i hi).2.1, trivial⟩
        · simp (disch := omega) only [fz_an, fz_ae, fz_ne]
          exact c.2.2.1 i hi
      · simp (disch := omega) only [fz_an, fz_ae, fz_ne]
        exact c.2.2.2 q hq
      · simp (disch := omega) only [fz_an, fz_ae, fz_ne]
      · by_cases z : i = n
        · subst z
          simp (disch := omega) only [fz_an, fz_ae, fz_ne]
        · simp (disch := omega) only [fz_an, fz_ae, fz_ne]
          exact (hT.1.2.2.1 i hi).1
      · simp (disch := omega) only [fz_an, fz_ae, fz_ne]
        exact (hT.2.2.1 i hi).2.1
      · rw [hG1.2] at hin
        simp (disch := omega) only [fz_an, fz_ae, fz_ne]
        exact hT.2.2.2.1 i hi (by omega)
    have hn2 : fg_n (fk_gG N2) = n + 1 := by rw [r2]; exact hG1.2
    exact ⟨⟨r1, hT1.cs b1, fun i hi => by have := hb i hi; omega⟩, hn2⟩
theorem fj_tie (hI : fj_I N A o fc M mi) (hn : fg_t (fk_gG N) = n) (hf : n < 4) (hu : u < fg_n (fk_gG N)) (hv : v < fg_n (fk_gG N)) (huv : u ≠ v) :
    fk_G (fm_uI (fm_uI (fm_uI (fm_uI (fm_uI (fm_uI (fm_uI (fm_uI N.1 0 (340 + 3 * n) (nI u)) 0 (341 + 3 * n) (nI v)) 0 (342 + 3 * n) w) 0 1 (nI (n + 1))) 10 n (nI u)) 11 n (nI v)) 12 n w) 4 9 (nI (n + 1)), N.2) (fk_gG (fm_uI (fm_uI (fm_uI (fm_uI (fm_uI (fm_uI (fm_uI (fm_uI N.1 0 (340 + 3 * n) (nI u)) 0 (341 + 3 * n) (nI v)) 0 (342 + 3 * n) w) 0 1 (nI (n + 1))) 10 n (nI u)) 11 n (nI v)) 12 n w) 4 9 (nI (n + 1)), N.2)) ∧ fk_S (fm_uI (fm_uI (fm_uI (fm_uI (fm_uI (fm_uI (fm_uI (fm_uI N.1 0 (340 + 3 * n) (nI u)) 0 (341 + 3 * n) (nI v)) 0 (342 + 3 * n) w) 0 1 (nI (n + 1))) 10 n (nI u)) 11 n (nI v)) 12 n w) 4 9 (nI (n + 1)), N.2) A o fc ∧
    ∀ N2 A' o' fc', fx_F fk_cs (fm_uI (fm_uI (fm_uI (fm_uI (fm_uI (fm_uI (fm_uI (fm_uI N.1 0 (340 + 3 * n) (nI u)) 0 (341 + 3 * n) (nI v)) 0 (342 + 3 * n) w) 0 1 (nI (n + 1))) 10 n (nI u)) 11 n (nI v)) 12 n w) 4 9 (nI (n + 1)), N.2) N2 → fk_S N2 A' o' fc' → fg_Fin (fk_gG (fm_uI (fm_uI (fm_uI (fm_uI (fm_uI (fm_uI (fm_uI (fm_uI N.1 0 (340 + 3 * n) (nI u)) 0 (341 + 3 * n) (nI v)) 0 (342 + 3 * n) w) 0 1 (nI (n + 1))) 10 n (nI u)) 11 n (nI v)) 12 n w) 4 9 (nI (n + 1)), N.2)) A' → fj_I N2 A' o' fc' M mi ∧ fg_n (fk_gG N2) = fg_n (fk_gG N) := by
  obtain ⟨ic, hT, hb⟩ := hI
  subst hn
  have hG1 := fj_tieG (N1 := (fm_uI (fm_uI (fm_uI (fm_uI (fm_uI (fm_uI (fm_uI (fm_uI N.1 0 (340 + 3 * (fg_t (fk_gG N))) (nI u)) 0 (341 + 3 * (fg_t (fk_gG N))) (nI v)) 0 (342 + 3 * (fg_t (fk_gG N))) w) 0 1 (nI (fg_t (fk_gG N) + 1))) 10 (fg_t (fk_gG N)) (nI u)) 11 (fg_t (fk_gG N)) (nI v)) 12 (fg_t (fk_gG N)) w) 4 9 (nI (fg_t (fk_gG N) + 1)), N.2)) ic.1 (by omega) hu hv huv (by simp (disch := omega) only [fz_an, fz_ae, fz_ne]) (by simp (disch := omega) only [fz_an, fz_ae, fz_ne]) (fun i => by simp (disch := omega) only [fz_at, fz_ne]) (fun i => by simp (disch := omega) only [fz_at, fz_ne]) (by simp (disch := omega) only [fz_an, fz_ae, fz_ne]) (by simp (disch := omega) only [fz_an, fz_ae, fz_ne]) (by simp (disch := omega) only [fz_an, fz_ae, fz_ne]) (by simp (disch := omega) only [fz_an, fz_ae, fz_ne])
  generalize hn : fg_t (fk_gG N) = n at *
  have hF1 : fx_F fj_gc N (fm_uI (fm_uI (fm_uI (fm_uI (fm_uI (fm_uI (fm_uI (fm_uI N.1 0 (340 + 3 * n) (nI u)) 0 (341 + 3 * n) (nI v)) 0 (342 + 3 * n) w) 0 1 (nI (n + 1))) 10 n (nI u)) 11 n (nI v)) 12 n w) 4 9 (nI (n + 1)), N.2) := ((((((((fx_F.rf _ N).up rfl).up rfl).up rfl).up rfl).up rfl).up rfl).up rfl).up rfl
  refine ⟨hG1.1, ic.2.1.fr hF1 ⟨rfl, rfl, rfl, rfl, rfl, rfl, rfl⟩, fun N2 A' o' fc' b1 b2 b3 => ?_⟩
  have q7 : ∀ i, i < 12 → fz_bd 0 400 ((fm_uI (fm_uI (fm_uI (fm_uI (fm_uI (fm_uI (fm_uI (fm_uI N.1 0 (340 + 3 * n) (nI u)) 0 (341 + 3 * n) (nI v)) 0 (342 + 3 * n) w) 0 1 (nI (n + 1))) 10 n (nI u)) 11 n (nI v)) 12 n w) 4 9 (nI (n + 1)), N.2).1 7 i) := fun i hi => by
    simp (disch := omega) only [fz_an, fz_ae, fz_ne]
    exact (ic.2.2.2.2.1.1 i hi).2.2
  have q8 : ∀ i, fz_bd 0 10000 ((fm_uI (fm_uI (fm_uI (fm_uI (fm_uI (fm_uI (fm_uI (fm_uI N.1 0 (340 + 3 * n) (nI u)) 0 (341 + 3 * n) (nI v)) 0 (342 + 3 * n) w) 0 1 (nI (n + 1))) 10 n (nI u)) 11 n (nI v)) 12 n w) 4 9 (nI (n + 1)), N.2).1 8 i) := fun i => by
    simp (disch := omega) only [fz_an, fz_ae, fz_ne]
    exact ic.2.2.2.2.2.2.2 i
  obtain ⟨r1, r2⟩ := fk_ic_rg ic hG1.1 hF1 b1 b2 b3 q7 q8
  · have c := fl_Gc_of ic.1 hT.2.1
    have h8 := hT.2.1.2.2.1
    have hT1 : fl_T (fm_uI (fm_uI (fm_uI (fm_uI (fm_uI (fm_uI (fm_uI (fm_uI N.1 0 (340 + 3 * n) (nI u)) 0 (341 + 3 * n) (nI v)) 0 (342 + 3 * n) w) 0 1 (nI (n + 1))) 10 n (nI u)) 11 n (nI v)) 12 n w) 4 9 (nI (n + 1)), N.2) (fm_uI (fm_uI (fm_uI (fm_uI (fm_uI (fm_uI (fm_uI (fm_uI N.1 0 (340 + 3 * n) (nI u)) 0 (341 + 3 * n) (nI v)) 0 (342 + 3 * n) w) 0 1 (nI (n + 1))) 10 n (nI u)) 11 n (nI v)) 12 n w) 4 9 (nI (n + 1)), N.2) M mi := by
      refine fl_T_gr hT hG1.1 (by rw [hG1.2]; exact h8) ⟨?_, ?_, fun i hi => ?_, fun q hq => ?_⟩ (fun j hj => ?_) hF1 (fun i hi => ?_) (fun i hi => ?_) (fun i hi hin => ?_)
      · simp (disch := omega) only [fz_an, fz_ae, fz_ne]
        exact c.1
      · simp (disch := omega) only [fz_an, fz_ae, fz_ne]
      · simp (disch := omega) only [fz_an, fz_ae, fz_ne]
        exact c.2.2.1 i hi
      · by_cases z : q = n
        · subst z
          simp (disch := omega) only [fz_an, fz_ae, fz_ne]
          exact ⟨trivial, trivial, trivial⟩
        · simp (disch := omega) only [fz_an, fz_ae, fz_ne]
          exact c.2.2.2 q hq
      · simp (disch := omega) only [fz_an, fz_ae, fz_ne]
      · simp (disch := omega) only [fz_an, fz_ae, fz_ne]
        exact (hT.1.2.2.1 i hi).1
      · simp (disch := omega) only [fz_an, fz_ae, fz_ne]
        exact (hT.2.2.1 i hi).2.1
      · rw [hG1.2] at hin
        simp (disch := omega) only [fz_an, fz_ae, fz_ne]
        exact hT.2.2.2.1 i hi hin
    have hn2 : fg_n (fk_gG N2) = fg_n (fk_gG N) := by rw [r2]; exact hG1.2
    exact ⟨⟨r1, hT1.cs b1, fun i hi => by rw [hn2]; exact hb i hi⟩, hn2⟩
end FJN
