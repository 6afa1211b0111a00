/-! the law: replaceFuse -/
section FJF
variable {X : Nat × (Nat → Int32)} {x5 : Int32} {o6 o7 o8 o9 : Option fm_V} {R N : fm_N} {Q : fm_O → fm_M → Prop} {A : fg_A} {o : Nat → Nat} {fc M u : Nat} {X' : Nat → fm_N → Prop} {Ki : Int32 → fm_N → Prop} {x : Int32}
theorem fj_en (f : Nat → Nat → Int32) (p : (Nat → Nat → Int64) × (Nat → Nat → UInt64) × Nat) : (fk_gG (f, p)).1 = (f 3 8).toNatClampNeg := rfl
theorem fj_Az (hI : fj_I N A o fc M) : ∀ i, fg_n (fk_gG N) ≤ i → fg_F A i = false := fun i hi => by
  cases hF : fg_F A i
  · rfl
  · exact absurd (fj_An hI.1.1 hI.1.2.2.1 i hF) (by omega)
theorem fj_fuseG (hG : fk_G N (fk_gG N)) : fk_G (fm_uI (fm_uI N.1 8 u (nI 0)) 7 u (nI 0), N.2) (fk_gG (fm_uI (fm_uI N.1 8 u (nI 0)) 7 u (nI 0), N.2)) := by
  refine fk_gG_heat hG (by funext i; simp [fm_uI]) (by funext i; simp [fm_uI]) (by funext i; simp [fm_uI]) (by funext i; simp [fm_uI]) (by funext i; simp [fm_uI]) (by funext i; simp [fm_uI]) (fun i hi => ?_)
  by_cases z : i = u
  · simp [fm_uI, z]; decide
  · have h8 := (hG.2.2.2.2.2.1 i hi).2.1
    simp [fm_uI, z]
    rw [h8]
    show fz_b (!!decide (nI 100 ≤ N.1 7 i)) = _
    rw [Bool.not_not]
theorem fj_fuseN : fg_n (fk_gG (fm_uI (fm_uI N.1 8 u (nI 0)) 7 u (nI 0), N.2)) = fg_n (fk_gG N) := by
  show (fm_uI (fm_uI N.1 8 u (nI 0)) 7 u (nI 0) 3 8).toNatClampNeg = (N.1 3 8).toNatClampNeg
  simp [fm_uI]
theorem fj_fuse {N2 : fm_N} {A' : fg_A} {o' : Nat → Nat} {fc' : Nat} (hI : fj_I N A o fc M) (b1 : fx_F fk_cs (fm_uI (fm_uI N.1 8 u (nI 0)) 7 u (nI 0), N.2) N2) (b2 : fk_S N2 A' o' fc') (b3 : fg_Fin (fk_gG (fm_uI (fm_uI N.1 8 u (nI 0)) 7 u (nI 0), N.2)) A') :
    fj_I (fm_uI (fm_uI N2.1 71 u (nI 0)) 70 u (nI 0), N2.2) A' o' fc' M := by
  obtain ⟨⟨c25, c26, c27, c28, c29, c32⟩, ⟨c64, c65, c66, c67, c68, c69, c70⟩, c71, c72, ⟨c78, c79, c80⟩, cR⟩ := hI.2.1
  have hF1 : fx_F fj_gc N (fm_uI (fm_uI N.1 8 u (nI 0)) 7 u (nI 0), N.2) := ((fx_F.rf _ N).up rfl).up rfl
  have m : ∀ c, fk_cs.contains c = false → fj_gc.contains c = false → N2.1 c = N.1 c := fun c h1 h2 => (b1.1 c h1).trans (hF1.1 c h2)
  refine fj_regrid hI (fj_fuseG hI.1.1) (by rw [fj_fuseN]; exact Nat.le_refl _) hF1 (((b1.wk (by intro c hc; simp at hc ⊢; omega)).up rfl).up rfl) (b2.fr (cs := [70, 71]) (((fx_F.rf _ N2).up rfl).up rfl) ⟨rfl, rfl, rfl, rfl, rfl, rfl, rfl⟩) b3 (fun i hi => ?_) (fun i => ?_) ?_ ?_ (fun i h1 h2 => ?_) ?_ ?_ ?_ ?_ (fun i hi => ?_) ?_ ?_ ?_
  · simp [fm_uI]; exact (hI.1.2.2.2.2.1.1 i hi).2.2
  · by_cases z : i = u
    · simp [fm_uI, z]; unfold fz_bd; decide
    · simp [fm_uI, z]; exact hI.1.2.2.2.2.2.2.2 i
  · simp [fm_uI, m 63 rfl rfl, c25]
  · simp [fm_uI, m 63 rfl rfl, c26]
  · simp [fm_uI, m 63 rfl rfl]
  · funext i; simp [fm_uI, m 64 rfl rfl, c64]
  · funext i; simp [fm_uI, m 65 rfl rfl, c65]
  · funext i; simp [fm_uI, m 66 rfl rfl, c66]
  · funext i; simp [fm_uI, m 70 rfl rfl, c70]
  · simp [fm_uI, m 71 rfl rfl, c71 i hi]
  · funext i; simp [fm_uI, m 78 rfl rfl, c78]
  · funext i; simp [fm_uI, m 79 rfl rfl, c79]
  · funext i; simp [fm_uI, m 80 rfl rfl, c80]
theorem lw_949 (hI : fj_I N A o fc M) (h1 : fm_inb (x5 + nI 1) X.1) (H : fj_H X x5 (N.2.2.2 + 1) Q) : fm_Ev (fm_PP X) 0 (949, [some (.inl (.ref 999999)), some (.inl (.ref 0)), some (.inl (.ref 63)), some (.inl (.ref 89)), some (.inl (.ref 90)), some (.inl (.int x5)), o6, o7, o8, o9], [], (N, fm_SH)) Q := by
  obtain ⟨⟨c25, c26, c27, c28, c29, c32⟩, ⟨c64, c65, c66, c67, c68, c69, c70⟩, c71, c72, ⟨c78, c79, c80⟩, cR⟩ := hI.2.1
  have hG := hI.1.1
  have hn := hG.1
  have h12 := hG.2.2.1
  have n1 := hG.2.2.2.2.1.1
  have h25 := c25.trans hn
  refine fb_0_949 X _ _ _ _ _ N Q ?_
  refine ⟨h1, ?_⟩
  generalize X.2 (x5 + nI 1).toNatClampNeg = x
  by_cases hx : fj_in x (fg_n (fk_gG N))
  · obtain ⟨u, hu, rfl⟩ := hx
    have hu12 : u < 12 := by omega
    have ub := fz_in hu12 (by omega)
    have ut := fz_t (n := u) (by omega)
    by_cases h0 : u = 0
    · subst h0
      refine fe_153 X _ N _ _ (fe_14 X _ N _ _ (sp_37y hn h12 hu ⟨fun _ => ⟨rfl, ⟨fun z => absurd z (by decide), fun _ => ⟨fun _ => ⟨rfl, h1, ?_⟩, fun z => absurd rfl z⟩⟩⟩, fun z => absurd rfl z⟩))
      refine fe_88 X _ _ _ _ (sp_65y (n := fg_n (fk_gG N)) h25 h12 hu ⟨fun _ => ⟨fun _ => sp_64y ⟨fun z => absurd z fj_n1, fun _ => ⟨rfl, sp_62 (fj_end ?_ (H _ _ _ _ _ _ _ _ _ (((fj_q.gc N).tr ((fj_q.th _ _).tr (fj_q.th _ _))).I hI) ?_) (fun z => absurd z (by decide)))⟩⟩, fun z => absurd rfl z⟩, fun z => absurd rfl z⟩)
      · simp [fm_uI]
      · simp
    · have h0' : ¬ nI u = nI 0 := fun z => h0 ((nI_eq (by omega) (by omega)).mp z)
      by_cases h8 : N.1 8 u = nI 0
      · refine fe_153 X _ N _ _ (fe_14 X _ N _ _ (sp_37y hn h12 hu ⟨fun z => absurd z h0', fun _ => ⟨ub, fun _ => ⟨rfl, ⟨fun z => absurd z (by decide), fun _ => ⟨fun _ => ⟨rfl, h1, ?_⟩, fun z => absurd rfl z⟩⟩⟩, fun z => absurd (by rw [ut]; exact h8) z⟩⟩))
        refine fe_88 X _ _ _ _ (sp_65y (n := fg_n (fk_gG N)) h25 h12 hu ⟨fun _ => ⟨fun z => absurd z h0', fun _ => ⟨ub, fun _ => sp_64y ⟨fun z => absurd z fj_n1, fun _ => ⟨rfl, sp_62 (fj_end ?_ (H _ _ _ _ _ _ _ _ _ (((fj_q.gc N).tr ((fj_q.th _ _).tr (fj_q.th _ _))).I hI) ?_) (fun z => absurd z (by decide)))⟩⟩, fun z => absurd ?_ z⟩⟩, fun z => absurd rfl z⟩)
        · simp [fm_uI]
        · simp
        · rw [ut]
          simp [fm_uI, c71 u hu12, h8]
      · refine fe_153 X _ N _ _ (fe_14 X _ N _ _ (sp_37y hn h12 hu ⟨fun z => absurd z h0', fun _ => ⟨ub, fun z => absurd (by rw [ut] at z; exact z) h8, fun _ => ⟨ub, ub, ?_⟩⟩⟩))
        rw [ut, fz_nb0]
        have hS1 : fk_S (fm_uI (fm_uI N.1 8 u (nI 0)) 7 u (nI 0), N.2) A o fc := hI.1.2.1.fr (cs := fj_gc) (((fx_F.rf _ N).up rfl).up rfl) ⟨rfl, rfl, rfl, rfl, rfl, rfl, rfl⟩
        refine sp_120 (fj_fuseG hG) hS1 (fj_A0 hI) (fun N2 A' o' fc' b1 b2 b3 => ⟨rfl, fz_in (by omega) (by omega), rfl, h1, ?_⟩)
        have hI2 := fj_fuse hI b1 b2 b3
        have m63 : ∀ i, N2.1 63 i = N.1 63 i := fun i => by
          rw [b1.1 63 rfl]
          simp [fm_uI]
        have m71 : N2.1 71 u = N.1 8 u := by
          rw [b1.1 71 rfl]
          simp [fm_uI, c71 u hu12]
        have m22 : N2.2.2.2 = N.2.2.2 := by rw [b1.2]
        have q25 : N2.1 63 25 = nI (fg_n (fk_gG N)) := (m63 25).trans h25
        refine fe_88 X _ _ _ _ (sp_65y (n := fg_n (fk_gG N)) q25 h12 hu ⟨fun _ => ⟨fun z => absurd z h0', fun _ => ⟨ub, fun z => absurd ?_ h8, fun _ => sp_64n ⟨fun _ => ⟨ub, ub, ?_⟩, fun z => absurd rfl z⟩⟩⟩, fun z => absurd rfl z⟩)
        · rw [ut] at z
          rw [← m71, ← z]
          simp [fm_uI]
        · rw [ut, fz_nb0]
          have q5 : fj_q 0 (fm_uI (fm_uI N2.1 71 u (nI 0)) 70 u (nI 0), N2.2) (fm_uI (fm_uI (fm_uI (fm_uI N2.1 63 31 (nI 0)) 63 31 (nI 0)) 71 u (nI 0)) 70 u (nI 0), (N2.1, fm_uI N2.2.1 89 ((nI 0).toNatClampNeg) (N2.1 2 7).toInt64, N2.2.2).2) := ⟨fun c hc => (by
              have z := (fj_c63 hc).1
              funext i
              simp [fm_uI, z]), by simp [fm_uI], fun i a b => (by simp [fm_uI, a, b]), by simp [fm_uI], by simp [fm_uI], by simp⟩
          have hI5 := q5.I hI2
          have hz := fj_Az hI5
          refine sp_89 (fn_G.of hI5.1.1 hI5.2.1) hI5.1.2.2.1 (fun N6 c1 => ⟨rfl, sp_62 (fj_end ?_ (H _ _ _ _ _ _ _ _ _ ((fj_n.F c1 (by intro c hc; simp at hc ⊢; omega) rfl rfl).1.I hI5) ?_) (fun _ => ?_))⟩)
          · rw [c1.1 63 rfl]
            simp [fm_uI]
          · rw [c1.2]
            dsimp only
            rw [m22]
            exact Nat.le_succ _
          · rw [c1.2]
            dsimp only
            rw [fj_t0, fz_at, if_pos rfl, b2.2.2.1, b2.2.2.2.2.2]
            rw [fg_cn_more 12 hI5.1.1.2.2.1 hz]
            simp only [fj_en]
  · refine fe_153 X _ N _ _ (fe_14 X _ N _ _ (sp_37n hn h12 hx ⟨rfl, ⟨fun _ => ⟨rfl, h1, ?_⟩, fun z => absurd rfl z⟩⟩))
    refine fe_88 X _ _ _ _ (sp_65n (n := fg_n (fk_gG N)) h25 h12 n1 hx ⟨fun z => absurd z fj_n1, fun _ => ⟨rfl, sp_62 (fj_end ?_ (H _ _ _ _ _ _ _ _ _ (((fj_q.gc N).tr (fj_q.th _ _)).I hI) ?_) (fun z => absurd z fj_n1))⟩⟩)
    · simp [fm_uI]
    · simp
end FJF
