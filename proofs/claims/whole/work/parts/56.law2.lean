/-! the law: layers -/
section FJL
variable {X : Nat × (Nat → Int32)} {x5 : Int32} {o6 o7 o8 o9 : Option fm_V} {N : fm_N} {Q : fm_O → fm_M → Prop} {A : fg_A} {o : Nat → Nat} {fc M : Nat}
theorem fj_bd200 {y : Int32} {b : Int} (h : fz_bd 0 b y) (hb : b ≤ 200 := by decide) : fz_bd 0 200 y := fz_bd_wk h (by decide) hb
theorem lw_676 (hI : fj_I N A o fc M) (h1 : fm_inb (x5 + nI 1) X.1) (h2 : fm_inb (x5 + nI 2) X.1) (H : fj_H X x5 (N.2.2.2 + 1) Q) : fm_Ev (fm_PP X) 0 (676, [some (.inl (.ref 999999)), some (.inl (.ref 0)), some (.inl (.ref 63)), some (.inl (.ref 89)), some (.inl (.ref 90)), some (.inl (.int x5)), o6, o7, o8, o9], [], (N, fm_SH)) Q := by
  obtain ⟨⟨c25, c26, c27, c28, c29, c32⟩, ⟨c64, c65, c66, c67, c68, c69, c70⟩, c71, c72, ⟨c78, c79, c80⟩, cR⟩ := hI.2.1
  have hG := hI.1.1
  have hn := hG.1
  have h12 := hG.2.2.1
  have n1 := hG.2.2.2.2.1.1
  have h25 := c25.trans hn
  refine fb_0_676 X _ _ _ _ _ N Q ?_
  refine ⟨h1, h2, ?_⟩
  generalize X.2 (x5 + nI 1).toNatClampNeg = x
  generalize X.2 (x5 + nI 2).toNatClampNeg = y
  by_cases hx : fj_in x (fg_n (fk_gG N))
  · obtain ⟨u, hu, rfl⟩ := hx
    have hu12 : u < 12 := by omega
    have ub := fz_in hu12 (by omega)
    have ut := fz_t (n := u) (by omega)
    have p : ∀ a, a < 3 → ∀ c, 60 < c → c ≠ fm_pc a u := fun a ha c hc => (fj_pb ha hu12 (Or.inr hc)).symm
    have p0 := p 0 (by omega)
    have p1 := p 1 (by omega)
    have p2 := p 2 (by omega)
    obtain ⟨L, g1, g2, g3, g4, -⟩ := cR u hu12
    by_cases hr : fj_rg y 0 200
    · by_cases hL : L < 4
      · refine fe_149 X _ _ N _ _ (fe_9 X _ _ N _ _ (sp_37y hn h12 hu (sp_38y hr (sp_39y hu12 g2 hL ⟨ub, ?_⟩))))
        rw [ut]
        refine sp_140 g2 hL ⟨rfl, fz_in (by omega) (by omega), rfl, h1, h2, ?_⟩
        refine fe_74 X _ _ _ _ _ (sp_73y (n := fg_n (fk_gG N)) (L := L) (by simp [fm_uI, p0, p1, p2, h25]) h12 hu hr (by simp [fm_uI, p0, p1, p2, g3]) hL ⟨rfl, sp_62 (fj_end ?_ (H _ _ _ _ _ _ _ _ _ (fj_q.I (d := 0) ?_ (fj_layer (u := u) (y := y) (L := L) (s := fm_nb (nI 0)) (t := fm_nb (nI 1)) hI hu12 hL g2 (fj_bd200 (fj_rg_bd (a := 0) (b := 200) hr (by decide) (by decide))) (by rw [fz_nb0, fz_nb1]; decide))) ?_) (fun _ => ?_))⟩)
        · simp [fm_uI, p0, p1, p2]
        · exact ⟨fun c hc => (by
            have z := (fj_c63 hc).1
            funext i
            simp [fm_uI, z]), by simp [fm_uI], fun i a b => (by simp [fm_uI, a, b]), by simp [fm_uI], by simp [fm_uI], by simp⟩
        · simp
        · simp [fm_uI, fj_t0]
      · have hL4 : L = 4 := by omega
        refine fe_149 X _ _ N _ _ (fe_9 X _ _ N _ _ (sp_37y hn h12 hu (sp_38y hr (sp_39n hu12 g2 hL4 ⟨rfl, ⟨fun z => absurd z (by decide), fun _ => ⟨fun z => absurd z (by decide), fun _ => ⟨fun _ => ⟨rfl, h1, h2, ?_⟩, fun z => absurd rfl z⟩⟩⟩⟩))))
        refine fe_74 X _ _ _ _ _ (sp_73f (n := fg_n (fk_gG N)) h25 h12 hu hr (by rw [← hL4]; exact g3) ⟨rfl, sp_62 (fj_end ?_ (H _ _ _ _ _ _ _ _ _ (((fj_q.gc N).tr ((fj_q.th _ _).tr ((fj_q.th _ _).tr (fj_q.th _ _)))).I hI) ?_) (fun z => absurd z (by decide)))⟩)
        · simp [fm_uI]
        · simp
    · refine fe_149 X _ _ N _ _ (fe_9 X _ _ N _ _ (sp_37y hn h12 hu (sp_38n hr ⟨rfl, ⟨fun z => absurd z (by decide), fun _ => ⟨fun _ => ⟨rfl, h1, h2, ?_⟩, fun z => absurd rfl z⟩⟩⟩)))
      refine fe_74 X _ _ _ _ _ (sp_73r (n := fg_n (fk_gG N)) h25 h12 hu hr ⟨rfl, sp_62 (fj_end ?_ (H _ _ _ _ _ _ _ _ _ (((fj_q.gc N).tr ((fj_q.th _ _).tr (fj_q.th _ _))).I hI) ?_) (fun z => absurd z (by decide)))⟩)
      · simp [fm_uI]
      · simp
  · refine fe_149 X _ _ N _ _ (fe_9 X _ _ N _ _ (sp_37n hn h12 hx ⟨rfl, ⟨fun _ => ⟨rfl, h1, h2, ?_⟩, fun z => absurd rfl z⟩⟩))
    refine fe_74 X _ _ _ _ _ (sp_73n (n := fg_n (fk_gG N)) h25 h12 n1 hx ⟨rfl, sp_62 (fj_end ?_ (H _ _ _ _ _ _ _ _ _ (((fj_q.gc N).tr (fj_q.th _ _)).I hI) ?_) (fun z => absurd z fj_n1))⟩)
    · simp [fm_uI]
    · simp
theorem lw_744 (hI : fj_I N A o fc M) (h1 : fm_inb (x5 + nI 1) X.1) (h2 : fm_inb (x5 + nI 2) X.1) (H : fj_H X x5 (N.2.2.2 + 1) Q) : fm_Ev (fm_PP X) 0 (744, [some (.inl (.ref 999999)), some (.inl (.ref 0)), some (.inl (.ref 63)), some (.inl (.ref 89)), some (.inl (.ref 90)), some (.inl (.int x5)), o6, o7, o8, o9], [], (N, fm_SH)) Q := by
  obtain ⟨⟨c25, c26, c27, c28, c29, c32⟩, ⟨c64, c65, c66, c67, c68, c69, c70⟩, c71, c72, ⟨c78, c79, c80⟩, cR⟩ := hI.2.1
  have hG := hI.1.1
  have hn := hG.1
  have h12 := hG.2.2.1
  have n1 := hG.2.2.2.2.1.1
  have h25 := c25.trans hn
  refine fb_0_744 X _ _ _ _ _ N Q ?_
  refine ⟨h1, h2, ?_⟩
  generalize X.2 (x5 + nI 1).toNatClampNeg = x
  generalize X.2 (x5 + nI 2).toNatClampNeg = y
  by_cases hx : fj_in x (fg_n (fk_gG N))
  · obtain ⟨u, hu, rfl⟩ := hx
    have hu12 : u < 12 := by omega
    have ub := fz_in hu12 (by omega)
    have ut := fz_t (n := u) (by omega)
    have p : ∀ a, a < 3 → ∀ c, 60 < c → c ≠ fm_pc a u := fun a ha c hc => (fj_pb ha hu12 (Or.inr hc)).symm
    have p0 := p 0 (by omega)
    have p1 := p 1 (by omega)
    have p2 := p 2 (by omega)
    obtain ⟨L, g1, g2, g3, g4, -⟩ := cR u hu12
    by_cases hr : fj_rg y 0 100
    · by_cases hL : L < 4
      · refine fe_150 X _ _ N _ _ (fe_10 X _ _ N _ _ (sp_37y hn h12 hu (sp_38y hr (sp_39y hu12 g2 hL ⟨ub, ?_⟩))))
        rw [ut]
        refine sp_140 g2 hL ⟨rfl, fz_in (by omega) (by omega), rfl, h1, h2, ?_⟩
        refine fe_75 X _ _ _ _ _ (sp_73y (n := fg_n (fk_gG N)) (L := L) (by simp [fm_uI, p0, p1, p2, h25]) h12 hu hr (by simp [fm_uI, p0, p1, p2, g3]) hL ⟨rfl, sp_62 (fj_end ?_ (H _ _ _ _ _ _ _ _ _ (fj_q.I (d := 0) ?_ (fj_layer (u := u) (y := y) (L := L) (s := fm_nb (nI 1)) (t := fm_nb (nI 0)) hI hu12 hL g2 (fj_bd200 (fj_rg_bd (a := 0) (b := 100) hr (by decide) (by decide))) (by rw [fz_nb0, fz_nb1]; decide))) ?_) (fun _ => ?_))⟩)
        · simp [fm_uI, p0, p1, p2]
        · exact ⟨fun c hc => (by
            have z := (fj_c63 hc).1
            funext i
            simp [fm_uI, z]), by simp [fm_uI], fun i a b => (by simp [fm_uI, a, b]), by simp [fm_uI], by simp [fm_uI], by simp⟩
        · simp
        · simp [fm_uI, fj_t0]
      · have hL4 : L = 4 := by omega
        refine fe_150 X _ _ N _ _ (fe_10 X _ _ N _ _ (sp_37y hn h12 hu (sp_38y hr (sp_39n hu12 g2 hL4 ⟨rfl, ⟨fun z => absurd z (by decide), fun _ => ⟨fun z => absurd z (by decide), fun _ => ⟨fun _ => ⟨rfl, h1, h2, ?_⟩, fun z => absurd rfl z⟩⟩⟩⟩))))
        refine fe_75 X _ _ _ _ _ (sp_73f (n := fg_n (fk_gG N)) h25 h12 hu hr (by rw [← hL4]; exact g3) ⟨rfl, sp_62 (fj_end ?_ (H _ _ _ _ _ _ _ _ _ (((fj_q.gc N).tr ((fj_q.th _ _).tr ((fj_q.th _ _).tr (fj_q.th _ _)))).I hI) ?_) (fun z => absurd z (by decide)))⟩)
        · simp [fm_uI]
        · simp
    · refine fe_150 X _ _ N _ _ (fe_10 X _ _ N _ _ (sp_37y hn h12 hu (sp_38n hr ⟨rfl, ⟨fun z => absurd z (by decide), fun _ => ⟨fun _ => ⟨rfl, h1, h2, ?_⟩, fun z => absurd rfl z⟩⟩⟩)))
      refine fe_75 X _ _ _ _ _ (sp_73r (n := fg_n (fk_gG N)) h25 h12 hu hr ⟨rfl, sp_62 (fj_end ?_ (H _ _ _ _ _ _ _ _ _ (((fj_q.gc N).tr ((fj_q.th _ _).tr (fj_q.th _ _))).I hI) ?_) (fun z => absurd z (by decide)))⟩)
      · simp [fm_uI]
      · simp
  · refine fe_150 X _ _ N _ _ (fe_10 X _ _ N _ _ (sp_37n hn h12 hx ⟨rfl, ⟨fun _ => ⟨rfl, h1, h2, ?_⟩, fun z => absurd rfl z⟩⟩))
    refine fe_75 X _ _ _ _ _ (sp_73n (n := fg_n (fk_gG N)) h25 h12 n1 hx ⟨rfl, sp_62 (fj_end ?_ (H _ _ _ _ _ _ _ _ _ (((fj_q.gc N).tr (fj_q.th _ _)).I hI) ?_) (fun z => absurd z fj_n1))⟩)
    · simp [fm_uI]
    · simp
end FJL
