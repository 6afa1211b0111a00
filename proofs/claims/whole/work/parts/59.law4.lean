/-! the law: a node is added -/
theorem fj_nodeG {N N1 : fm_N} {u : Nat} (hG : fk_G N (fk_gG N)) (hf : fg_n (fk_gG N) < 12) (hu : u < fg_n (fk_gG N)) (r38 : N1.1 3 8 = nI (fg_n (fk_gG N) + 1)) (r39 : N1.1 3 9 = N.1 3 9) (r4 : ∀ i, N1.1 4 i = if i = fg_n (fk_gG N) then nI u else N.1 4 i) (r7 : N1.1 7 = N.1 7) (r8 : N1.1 8 = N.1 8) (r9 : N1.1 9 = N.1 9) (r10 : N1.1 10 = N.1 10) (r11 : N1.1 11 = N.1 11) : fk_G N1 (fk_gG N1) ∧ fg_n (fk_gG N1) = fg_n (fk_gG N) + 1 := by
  obtain ⟨g1, g2, g3, g4, g5, g6, g7⟩ := hG
  have en : fg_n (fk_gG N1) = fg_n (fk_gG N) + 1 := by
    show (N1.1 3 8).toNatClampNeg = _
    rw [r38, fz_t (by omega)]
  have et : fg_t (fk_gG N1) = fg_t (fk_gG N) := by
    show (N1.1 3 9).toNatClampNeg = (N.1 3 9).toNatClampNeg
    rw [r39]
  have ep : ∀ i, fg_p (fk_gG N1) i = if i = fg_n (fk_gG N) then u else fg_p (fk_gG N) i := fun i => by
    show (N1.1 4 i).toNatClampNeg = _
    rw [r4]
    by_cases z : i = fg_n (fk_gG N)
    · rw [if_pos z, if_pos z, fz_t (by omega)]
    · rw [if_neg z, if_neg z]; rfl
  have ea : ∀ q, fg_a (fk_gG N1) q = fg_a (fk_gG N) q := fun q => by
    show (N1.1 9 q).toNatClampNeg = (N.1 9 q).toNatClampNeg
    rw [r9]
  have eb : ∀ q, fg_b (fk_gG N1) q = fg_b (fk_gG N) q := fun q => by
    show (N1.1 10 q).toNatClampNeg = (N.1 10 q).toNatClampNeg
    rw [r10]
  refine ⟨⟨by rw [en]; exact r38, by rw [et, r39]; exact g2, by omega, by omega, ⟨by omega, fun c h1 h2 => ?_, fun q hq => ?_⟩, fun i hi => ?_, fun q hq => ?_⟩, en⟩
  · rw [ep]
    by_cases z : c = fg_n (fk_gG N)
    · rw [if_pos z]; omega
    · rw [if_neg z]; exact g5.2.1 c h1 (by omega)
  · rw [ea, eb, en]
    have := g5.2.2 q (by omega)
    exact ⟨by omega, by omega, this.2.2⟩
  · obtain ⟨k1, k2, k3, k4⟩ := g6 i hi
    refine ⟨?_, ?_, rfl, ?_⟩
    · rw [ep, r4]
      by_cases z : i = fg_n (fk_gG N)
      · rw [if_pos z, if_pos z]
      · rw [if_neg z, if_neg z]; exact k1
    · rw [r8, k2]
      show fz_b (!!decide (nI 100 ≤ N.1 7 i)) = fz_b (!!decide (nI 100 ≤ N1.1 7 i))
      rw [r7]
    · rw [ep]
      by_cases z : i = fg_n (fk_gG N)
      · rw [if_pos z]; omega
      · rw [if_neg z]; exact k4
  · obtain ⟨k1, k2, k3, k4, k5⟩ := g7 q hq
    rw [ea, eb, r9, r10]
    exact ⟨k1, k2, rfl, k4, k5⟩
section FJN
variable {X : Nat × (Nat → Int32)} {x5 : Int32} {o6 o7 o8 o9 : Option fm_V} {N : fm_N} {Q : fm_O → fm_M → Prop} {A : fg_A} {o : Nat → Nat} {fc M : Nat}
theorem fj_node {u : Nat} {y w : Int32} {N2 : fm_N} {A' : fg_A} {o' : Nat → Nat} {fc' : Nat} (hI : fj_I N A o fc M) (hf : fg_n (fk_gG N) < 12) (hu : u < fg_n (fk_gG N)) (hw : fz_bd 0 400 w) (b1 : fx_F fk_cs (fm_uI (fm_uI (fm_uI (fm_uI N.1 4 (fg_n (fk_gG N)) (nI u)) 5 (fg_n (fk_gG N)) y) 6 (fg_n (fk_gG N)) w) 3 8 (nI (fg_n (fk_gG N) + 1)), N.2) N2) (b2 : fk_S N2 A' o' fc') (b3 : fg_Fin (fk_gG (fm_uI (fm_uI (fm_uI (fm_uI N.1 4 (fg_n (fk_gG N)) (nI u)) 5 (fg_n (fk_gG N)) y) 6 (fg_n (fk_gG N)) w) 3 8 (nI (fg_n (fk_gG N) + 1)), N.2)) A') (hG1 : fk_G (fm_uI (fm_uI (fm_uI (fm_uI N.1 4 (fg_n (fk_gG N)) (nI u)) 5 (fg_n (fk_gG N)) y) 6 (fg_n (fk_gG N)) w) 3 8 (nI (fg_n (fk_gG N) + 1)), N.2) (fk_gG (fm_uI (fm_uI (fm_uI (fm_uI N.1 4 (fg_n (fk_gG N)) (nI u)) 5 (fg_n (fk_gG N)) y) 6 (fg_n (fk_gG N)) w) 3 8 (nI (fg_n (fk_gG N) + 1)), N.2))) (hn1 : fg_n (fk_gG (fm_uI (fm_uI (fm_uI (fm_uI N.1 4 (fg_n (fk_gG N)) (nI u)) 5 (fg_n (fk_gG N)) y) 6 (fg_n (fk_gG N)) w) 3 8 (nI (fg_n (fk_gG N) + 1)), N.2)) = fg_n (fk_gG N) + 1) :
    fj_I (fm_uI (fm_uI (fm_uI (fm_uI N2.1 64 (fg_n (fk_gG N)) (nI u)) 65 (fg_n (fk_gG N)) y) 66 (fg_n (fk_gG N)) w) 63 25 (nI (fg_n (fk_gG N) + 1)), N2.2) A' o' fc' M := by
  obtain ⟨⟨c25, c26, c27, c28, c29, c32⟩, ⟨c64, c65, c66, c67, c68, c69, c70⟩, c71, c72, ⟨c78, c79, c80⟩, cR⟩ := hI.2.1
  have hF1 : fx_F fj_gc N (fm_uI (fm_uI (fm_uI (fm_uI N.1 4 (fg_n (fk_gG N)) (nI u)) 5 (fg_n (fk_gG N)) y) 6 (fg_n (fk_gG N)) w) 3 8 (nI (fg_n (fk_gG N) + 1)), N.2) := ((((fx_F.rf _ N).up rfl).up rfl).up rfl).up rfl
  have m : ∀ c, fk_cs.contains c = false → fj_gc.contains c = false → N2.1 c = N.1 c := fun c h1 h2 => (b1.1 c h1).trans (hF1.1 c h2)
  refine fj_regrid hI hG1 (by omega) hF1 (((((b1.wk (by intro c hc; simp at hc ⊢; omega)).up rfl).up rfl).up rfl).up rfl) (b2.fr (cs := [63, 64, 65, 66]) (((((fx_F.rf _ N2).up rfl).up rfl).up rfl).up rfl) ⟨rfl, rfl, rfl, rfl, rfl, rfl, rfl⟩) b3 (fun i hi => ?_) (fun i => ?_) ?_ ?_ (fun i h1 h2 => ?_) ?_ ?_ ?_ ?_ (fun i hi => ?_) ?_ ?_ ?_
  · by_cases z : i = fg_n (fk_gG N)
    · simp [fm_uI, z]; exact hw
    · simp [fm_uI, z]; exact (hI.1.2.2.2.2.1.1 i hi).2.2
  · simp [fm_uI]
    exact hI.1.2.2.2.2.2.2.2 i
  · simp [fm_uI]
  · simp [fm_uI, m 63 rfl rfl, c26]
  · simp [fm_uI, m 63 rfl rfl, h1]
  · funext i; simp [fm_uI, m 64 rfl rfl, c64]
  · funext i; simp [fm_uI, m 65 rfl rfl, c65]
  · funext i; simp [fm_uI, m 66 rfl rfl, c66]
  · funext i; simp [fm_uI, m 70 rfl rfl, c70]
  · simp [fm_uI, m 71 rfl rfl, c71 i hi]
  · funext i; simp [fm_uI, m 78 rfl rfl, c78]
  · funext i; simp [fm_uI, m 79 rfl rfl, c79]
  · funext i; simp [fm_uI, m 80 rfl rfl, c80]
end FJN
