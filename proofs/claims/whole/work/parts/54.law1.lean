/-! the law's cases of the calls that set something -/
def fj_H (X : Nat × (Nat → Int32)) (x5 : Int32) (g : Nat) (Q : fm_O → fm_M → Prop) : Prop := ∀ (N' : fm_N) (o6 o7 o8 o9 : Option fm_V) (A : fg_A) (o : Nat → Nat) (fc M : Nat), fj_I N' A o fc M → N'.2.2.2 ≤ g → fm_Ev (fm_PP X) 0 (1965, [some (.inl (.ref 999999)), some (.inl (.ref 0)), some (.inl (.ref 63)), some (.inl (.ref 89)), some (.inl (.ref 90)), some (.inl (.int x5)), o6, o7, o8, o9], [], (N', fm_SH)) Q
theorem fj_c63 {c : Nat} (h : fj_sc.contains c = false) : c ≠ 63 ∧ c ≠ 73 ∧ c ≠ 20 := ⟨fun e => (by subst e; cases h), fun e => (by subst e; cases h), fun e => (by subst e; cases h)⟩
theorem fj_t0 : (nI 0).toNatClampNeg = 0 := fz_t (by omega)
section FJL
variable {X : Nat × (Nat → Int32)} {x5 : Int32} {o6 o7 o8 o9 : Option fm_V} {N : fm_N} {Q : fm_O → fm_M → Prop} {A : fg_A} {o : Nat → Nat} {fc M : Nat}
theorem lw_360 (hI : fj_I N A o fc M) (h1 : fm_inb (x5 + nI 1) X.1) (H : fj_H X x5 (N.2.2.2 + 1) Q) : fm_Ev (fm_PP X) 0 (360, [some (.inl (.ref 999999)), some (.inl (.ref 0)), some (.inl (.ref 63)), some (.inl (.ref 89)), some (.inl (.ref 90)), some (.inl (.int x5)), o6, o7, o8, o9], [], (N, fm_SH)) Q := by
  obtain ⟨⟨c25, c26, c27, c28, c29, c32⟩, ⟨c64, c65, c66, c67, c68, c69, c70⟩, c71, c72, ⟨c78, c79, c80⟩, cR⟩ := hI.2.1
  have hG := hI.1.1
  have hn := hG.1
  have h12 := hG.2.2.1
  have n1 := hG.2.2.2.2.1.1
  have h25 := c25.trans hn
  refine fb_0_360 X _ _ _ _ _ N Q ?_
  refine ⟨h1, ?_⟩
  generalize X.2 (x5 + nI 1).toNatClampNeg = x
  by_cases hr : fj_rg x 2000 2600
  · refine fe_144 X _ N _ _ (fe_4 X _ N _ _ (sp_38y hr ⟨rfl, fz_in (by omega) (by omega), rfl, h1, ?_⟩))
    refine fe_68 X _ _ _ _ (sp_63y hr ⟨fun z => absurd z fj_n1, fun _ => sp_64n ⟨fun _ => ⟨rfl, sp_62 (fj_end ?_ (H _ _ _ _ _ _ _ _ _ (fj_q.I (d := 0) ?_ (fj_base (y := x) hI)) ?_) (fun _ => ?_))⟩, fun z => absurd rfl z⟩⟩)
    · simp [fm_uI]
    · exact ⟨fun c hc => (by
      have z := (fj_c63 hc).1
      funext i
      simp [fm_uI, z]), by simp [fm_uI], fun i a b => (by simp [fm_uI, a, b]), by simp [fm_uI], by simp [fm_uI], by simp⟩
    · simp
    · simp [fm_uI, fj_t0, c27]
  · refine fe_144 X _ N _ _ (fe_4 X _ N _ _ (sp_38n hr ⟨rfl, ⟨fun _ => ⟨rfl, h1, ?_⟩, fun z => absurd rfl z⟩⟩))
    refine fe_68 X _ _ _ _ (sp_63n hr ⟨fun _ => sp_64y ⟨fun z => absurd z fj_n1, fun _ => ⟨rfl, sp_62 (fj_end ?_ (H _ _ _ _ _ _ _ _ _ (((fj_q.gc N).tr (fj_q.th _ _)).I hI) ?_) (fun z => absurd z fj_n1))⟩⟩, fun z => absurd rfl z⟩)
    · simp [fm_uI]
    · simp
theorem lw_552 (hI : fj_I N A o fc M) (h1 : fm_inb (x5 + nI 1) X.1) (H : fj_H X x5 (N.2.2.2 + 1) Q) : fm_Ev (fm_PP X) 0 (552, [some (.inl (.ref 999999)), some (.inl (.ref 0)), some (.inl (.ref 63)), some (.inl (.ref 89)), some (.inl (.ref 90)), some (.inl (.int x5)), o6, o7, o8, o9], [], (N, fm_SH)) Q := by
  obtain ⟨⟨c25, c26, c27, c28, c29, c32⟩, ⟨c64, c65, c66, c67, c68, c69, c70⟩, c71, c72, ⟨c78, c79, c80⟩, cR⟩ := hI.2.1
  have hG := hI.1.1
  have hn := hG.1
  have h12 := hG.2.2.1
  have n1 := hG.2.2.2.2.1.1
  have h25 := c25.trans hn
  refine fb_0_552 X _ _ _ _ _ N Q ?_
  refine ⟨h1, ?_⟩
  generalize X.2 (x5 + nI 1).toNatClampNeg = x
  by_cases hr : fj_rg x 0 100
  · refine fe_147 X _ N _ _ (fe_7 X _ N _ _ (sp_38y hr ⟨rfl, fz_in (by omega) (by omega), rfl, h1, ?_⟩))
    refine fe_71 X _ _ _ _ (sp_63y hr ⟨fun z => absurd z fj_n1, fun _ => sp_64n ⟨fun _ => ⟨rfl, sp_62 (fj_end ?_ (H _ _ _ _ _ _ _ _ _ (fj_q.I (d := 0) ?_ (fj_sun (y := x) hI (fj_rg_bd (a := 0) (b := 100) hr (by decide) (by decide)))) ?_) (fun _ => ?_))⟩, fun z => absurd rfl z⟩⟩)
    · simp [fm_uI]
    · exact ⟨fun c hc => (by
      have z := (fj_c63 hc).1
      funext i
      simp [fm_uI, z]), by simp [fm_uI], fun i a b => (by simp [fm_uI, a, b]), by simp [fm_uI], by simp [fm_uI], by simp⟩
    · simp
    · simp [fm_uI, fj_t0, c28]
  · refine fe_147 X _ N _ _ (fe_7 X _ N _ _ (sp_38n hr ⟨rfl, ⟨fun _ => ⟨rfl, h1, ?_⟩, fun z => absurd rfl z⟩⟩))
    refine fe_71 X _ _ _ _ (sp_63n hr ⟨fun _ => sp_64y ⟨fun z => absurd z fj_n1, fun _ => ⟨rfl, sp_62 (fj_end ?_ (H _ _ _ _ _ _ _ _ _ (((fj_q.gc N).tr (fj_q.th _ _)).I hI) ?_) (fun z => absurd z fj_n1))⟩⟩, fun z => absurd rfl z⟩)
    · simp [fm_uI]
    · simp
theorem lw_416 (hI : fj_I N A o fc M) (h1 : fm_inb (x5 + nI 1) X.1) (h2 : fm_inb (x5 + nI 2) X.1) (H : fj_H X x5 (N.2.2.2 + 1) Q) : fm_Ev (fm_PP X) 0 (416, [some (.inl (.ref 999999)), some (.inl (.ref 0)), some (.inl (.ref 63)), some (.inl (.ref 89)), some (.inl (.ref 90)), some (.inl (.int x5)), o6, o7, o8, o9], [], (N, fm_SH)) Q := by
  obtain ⟨⟨c25, c26, c27, c28, c29, c32⟩, ⟨c64, c65, c66, c67, c68, c69, c70⟩, c71, c72, ⟨c78, c79, c80⟩, cR⟩ := hI.2.1
  have hG := hI.1.1
  have hn := hG.1
  have h12 := hG.2.2.1
  have n1 := hG.2.2.2.2.1.1
  have h25 := c25.trans hn
  refine fb_0_416 X _ _ _ _ _ N Q ?_
  refine ⟨h1, h2, ?_⟩
  generalize X.2 (x5 + nI 1).toNatClampNeg = x
  generalize X.2 (x5 + nI 2).toNatClampNeg = y
  by_cases hx : fj_in x (fg_n (fk_gG N))
  · obtain ⟨u, hu, rfl⟩ := hx
    have hu12 : u < 12 := by omega
    have ub := fz_in hu12 (by omega)
    have ut := fz_t (n := u) (by omega)
    by_cases hr : fj_rg y 0 200
    · refine fe_145 X _ _ N _ _ (fe_5 X _ _ N _ _ (sp_37y hn h12 hu (sp_38y hr ⟨ub, ub, rfl, fz_in (by omega) (by omega), rfl, h1, h2, ?_⟩)))
      refine fe_69 X _ _ _ _ _ (sp_65y (n := fg_n (fk_gG N)) h25 h12 hu ⟨fun _ => sp_63y hr ⟨fun z => absurd z fj_n1, fun _ => sp_64n ⟨fun _ => ⟨ub, ub, rfl, sp_62 (fj_end ?_ (H _ _ _ _ _ _ _ _ _ (fj_q.I (d := 0) ?_ (fj_load (u := u) (y := y) hI (fj_rg_bd (a := 0) (b := 200) hr (by decide) (by decide)))) ?_) (fun _ => ?_))⟩, fun z => absurd rfl z⟩⟩, fun z => absurd rfl z⟩)
      · simp [fm_uI]
      · simp only [ut]
        exact ⟨fun c hc => (by
          have z := (fj_c63 hc).1
          funext i
          simp [fm_uI, z]), by simp [fm_uI], fun i a b => (by simp [fm_uI, a, b]), by simp [fm_uI], by simp [fm_uI], by simp⟩
      · simp
      · simp [fm_uI, fj_t0, c67]
    · refine fe_145 X _ _ N _ _ (fe_5 X _ _ N _ _ (sp_37y hn h12 hu (sp_38n hr ⟨rfl, ⟨fun z => absurd z (by decide), fun _ => ⟨fun _ => ⟨rfl, h1, h2, ?_⟩, fun z => absurd rfl z⟩⟩⟩)))
      refine fe_69 X _ _ _ _ _ (sp_65y (n := fg_n (fk_gG N)) h25 h12 hu ⟨fun _ => sp_63n hr ⟨fun _ => sp_64y ⟨fun z => absurd z fj_n1, fun _ => ⟨rfl, sp_62 (fj_end ?_ (H _ _ _ _ _ _ _ _ _ (((fj_q.gc N).tr ((fj_q.th _ _).tr (fj_q.th _ _))).I hI) ?_) (fun z => absurd z (by decide)))⟩⟩, fun z => absurd rfl z⟩, fun z => absurd rfl z⟩)
      · simp [fm_uI]
      · simp
  · refine fe_145 X _ _ N _ _ (fe_5 X _ _ N _ _ (sp_37n hn h12 hx ⟨rfl, ⟨fun _ => ⟨rfl, h1, h2, ?_⟩, fun z => absurd rfl z⟩⟩))
    refine fe_69 X _ _ _ _ _ (sp_65n (n := fg_n (fk_gG N)) h25 h12 n1 hx ⟨fun z => absurd z fj_n1, fun _ => ⟨rfl, sp_62 (fj_end ?_ (H _ _ _ _ _ _ _ _ _ (((fj_q.gc N).tr (fj_q.th _ _)).I hI) ?_) (fun z => absurd z fj_n1))⟩⟩)
    · simp [fm_uI]
    · simp
theorem lw_484 (hI : fj_I N A o fc M) (h1 : fm_inb (x5 + nI 1) X.1) (h2 : fm_inb (x5 + nI 2) X.1) (H : fj_H X x5 (N.2.2.2 + 1) Q) : fm_Ev (fm_PP X) 0 (484, [some (.inl (.ref 999999)), some (.inl (.ref 0)), some (.inl (.ref 63)), some (.inl (.ref 89)), some (.inl (.ref 90)), some (.inl (.int x5)), o6, o7, o8, o9], [], (N, fm_SH)) Q := by
  obtain ⟨⟨c25, c26, c27, c28, c29, c32⟩, ⟨c64, c65, c66, c67, c68, c69, c70⟩, c71, c72, ⟨c78, c79, c80⟩, cR⟩ := hI.2.1
  have hG := hI.1.1
  have hn := hG.1
  have h12 := hG.2.2.1
  have n1 := hG.2.2.2.2.1.1
  have h25 := c25.trans hn
  refine fb_0_484 X _ _ _ _ _ N Q ?_
  refine ⟨h1, h2, ?_⟩
  generalize X.2 (x5 + nI 1).toNatClampNeg = x
  generalize X.2 (x5 + nI 2).toNatClampNeg = y
  by_cases hx : fj_in x (fg_n (fk_gG N))
  · obtain ⟨u, hu, rfl⟩ := hx
    have hu12 : u < 12 := by omega
    have ub := fz_in hu12 (by omega)
    have ut := fz_t (n := u) (by omega)
    have hcl : N.1 20 4 &&& ((nI 1 <<< (nI u &&& 31)) ^^^ Int32.ofInt (-1)) = nI (fb_cl M u) := by rw [hI.1.2.2.2.2.2.1]; exact fb_clr hI.1.2.2.2.2.2.2.1 hu12
    by_cases hr : fj_rg y 0 64
    · refine fe_146 X _ _ N _ _ (fe_6 X _ _ N _ _ (sp_37y hn h12 hu (sp_38y hr ⟨ub, ub, rfl, fz_in (by omega) (by omega), rfl, h1, h2, ?_⟩)))
      refine fe_70 X _ _ _ _ _ (sp_65y (n := fg_n (fk_gG N)) h25 h12 hu ⟨fun _ => sp_63y hr ⟨fun z => absurd z fj_n1, fun _ => sp_64n ⟨fun _ => ⟨ub, ub, ub, rfl, sp_62 (fj_end ?_ (H _ _ _ _ _ _ _ _ _ (fj_q.I (d := 0) ?_ (fj_char (u := u) (y := y) hI hu12 (fj_rg_bd (a := 0) (b := 64) hr (by decide) (by decide)))) ?_) (fun _ => ?_))⟩, fun z => absurd rfl z⟩⟩, fun z => absurd rfl z⟩)
      · simp [fm_uI]
      · simp only [ut, hcl, fz_nb0]
        exact ⟨fun c hc => (by
          have z := (fj_c63 hc).1
          funext i
          simp [fm_uI, z]), by simp [fm_uI], fun i a b => (by simp [fm_uI, a, b]), by simp [fm_uI], by simp [fm_uI], by simp⟩
      · simp
      · simp [fm_uI, fj_t0, c69]
    · refine fe_146 X _ _ N _ _ (fe_6 X _ _ N _ _ (sp_37y hn h12 hu (sp_38n hr ⟨rfl, ⟨fun z => absurd z (by decide), fun _ => ⟨fun _ => ⟨rfl, h1, h2, ?_⟩, fun z => absurd rfl z⟩⟩⟩)))
      refine fe_70 X _ _ _ _ _ (sp_65y (n := fg_n (fk_gG N)) h25 h12 hu ⟨fun _ => sp_63n hr ⟨fun _ => sp_64y ⟨fun z => absurd z fj_n1, fun _ => ⟨rfl, sp_62 (fj_end ?_ (H _ _ _ _ _ _ _ _ _ (((fj_q.gc N).tr ((fj_q.th _ _).tr (fj_q.th _ _))).I hI) ?_) (fun z => absurd z (by decide)))⟩⟩, fun z => absurd rfl z⟩, fun z => absurd rfl z⟩)
      · simp [fm_uI]
      · simp
  · refine fe_146 X _ _ N _ _ (fe_6 X _ _ N _ _ (sp_37n hn h12 hx ⟨rfl, ⟨fun _ => ⟨rfl, h1, h2, ?_⟩, fun z => absurd rfl z⟩⟩))
    refine fe_70 X _ _ _ _ _ (sp_65n (n := fg_n (fk_gG N)) h25 h12 n1 hx ⟨fun z => absurd z fj_n1, fun _ => ⟨rfl, sp_62 (fj_end ?_ (H _ _ _ _ _ _ _ _ _ (((fj_q.gc N).tr (fj_q.th _ _)).I hI) ?_) (fun z => absurd z fj_n1))⟩⟩)
    · simp [fm_uI]
    · simp
theorem lw_608 (hI : fj_I N A o fc M) (h1 : fm_inb (x5 + nI 1) X.1) (h2 : fm_inb (x5 + nI 2) X.1) (H : fj_H X x5 (N.2.2.2 + 1) Q) : fm_Ev (fm_PP X) 0 (608, [some (.inl (.ref 999999)), some (.inl (.ref 0)), some (.inl (.ref 63)), some (.inl (.ref 89)), some (.inl (.ref 90)), some (.inl (.int x5)), o6, o7, o8, o9], [], (N, fm_SH)) Q := by
  obtain ⟨⟨c25, c26, c27, c28, c29, c32⟩, ⟨c64, c65, c66, c67, c68, c69, c70⟩, c71, c72, ⟨c78, c79, c80⟩, cR⟩ := hI.2.1
  have hG := hI.1.1
  have hn := hG.1
  have h12 := hG.2.2.1
  have n1 := hG.2.2.2.2.1.1
  have h25 := c25.trans hn
  refine fb_0_608 X _ _ _ _ _ N Q ?_
  refine ⟨h1, h2, ?_⟩
  generalize X.2 (x5 + nI 1).toNatClampNeg = x
  generalize X.2 (x5 + nI 2).toNatClampNeg = y
  by_cases hx : fj_in x (fg_n (fk_gG N))
  · obtain ⟨u, hu, rfl⟩ := hx
    have hu12 : u < 12 := by omega
    have ub := fz_in hu12 (by omega)
    have ut := fz_t (n := u) (by omega)
    have p0 : ∀ c, 60 < c → c ≠ fm_pc 0 u := fun c hc => (fj_pb (by omega) hu12 (Or.inr hc)).symm
    have p2 : ∀ c, 60 < c → c ≠ fm_pc 2 u := fun c hc => (fj_pb (by omega) hu12 (Or.inr hc)).symm
    by_cases hr : fj_rg y 0 200
    · refine fe_148 X _ _ N _ _ (fe_8 X _ _ N _ _ (sp_37y hn h12 hu (sp_38y hr ⟨ub, ub, fe_139 X _ _ _ _ _ ⟨fz_in (by omega) (by omega), rfl, rfl, fz_in (by omega) (by omega), rfl, h1, h2, ?_⟩⟩)))
      refine fe_72 X _ _ _ _ _ (sp_65y (n := fg_n (fk_gG N)) (by simp [fm_uI, ut, p0, p2, h25]) h12 hu ⟨fun _ => sp_63y hr ⟨fun z => absurd z fj_n1, fun _ => sp_64n ⟨fun _ => ⟨ub, ub, ub, rfl, sp_62 (fj_end ?_ (H _ _ _ _ _ _ _ _ _ (fj_q.I (d := 0) ?_ (fj_roof (u := u) (y := y) hI hu12 (fj_rg_bd (a := 0) (b := 200) hr (by decide) (by decide)))) ?_) (fun _ => ?_))⟩, fun z => absurd rfl z⟩⟩, fun z => absurd rfl z⟩)
      · simp [fm_uI, ut, p0, p2]
      · simp only [ut, fj_t0]
        exact ⟨fun c hc => (by
          have z := (fj_c63 hc).1
          funext i
          simp [fm_uI, z]), by simp [fm_uI], fun i a b => (by simp [fm_uI, a, b]), by simp [fm_uI], by simp [fm_uI], by simp⟩
      · simp
      · obtain ⟨L, g1, g2, g3, g4, -⟩ := cR u hu12
        simp [fm_uI, fj_t0, ut, p0, p2, g2, g3, nI_add]
    · refine fe_148 X _ _ N _ _ (fe_8 X _ _ N _ _ (sp_37y hn h12 hu (sp_38n hr ⟨rfl, ⟨fun z => absurd z (by decide), fun _ => ⟨fun _ => ⟨rfl, h1, h2, ?_⟩, fun z => absurd rfl z⟩⟩⟩)))
      refine fe_72 X _ _ _ _ _ (sp_65y (n := fg_n (fk_gG N)) h25 h12 hu ⟨fun _ => sp_63n hr ⟨fun _ => sp_64y ⟨fun z => absurd z fj_n1, fun _ => ⟨rfl, sp_62 (fj_end ?_ (H _ _ _ _ _ _ _ _ _ (((fj_q.gc N).tr ((fj_q.th _ _).tr (fj_q.th _ _))).I hI) ?_) (fun z => absurd z (by decide)))⟩⟩, fun z => absurd rfl z⟩, fun z => absurd rfl z⟩)
      · simp [fm_uI]
      · simp
  · refine fe_148 X _ _ N _ _ (fe_8 X _ _ N _ _ (sp_37n hn h12 hx ⟨rfl, ⟨fun _ => ⟨rfl, h1, h2, ?_⟩, fun z => absurd rfl z⟩⟩))
    refine fe_72 X _ _ _ _ _ (sp_65n (n := fg_n (fk_gG N)) h25 h12 n1 hx ⟨fun z => absurd z fj_n1, fun _ => ⟨rfl, sp_62 (fj_end ?_ (H _ _ _ _ _ _ _ _ _ (((fj_q.gc N).tr (fj_q.th _ _)).I hI) ?_) (fun z => absurd z fj_n1))⟩⟩)
    · simp [fm_uI]
    · simp
end FJL
