/-! the law: a roof asked -/
section FJL
variable {X : Nat × (Nat → Int32)} {x5 : Int32} {o6 o7 o8 o9 : Option fm_V} {N : fm_N} {Q : fm_O → fm_M → Prop} {A : fg_A} {o : Nat → Nat} {fc M : Nat}
theorem lw_812 (hI : fj_I N A o fc M) (h1 : fm_inb (x5 + nI 1) X.1) (h2 : fm_inb (x5 + nI 2) X.1) (H : fj_H X x5 (N.2.2.2 + 1) Q) : fm_Ev (fm_PP X) 0 (812, [some (.inl (.ref 999999)), some (.inl (.ref 0)), some (.inl (.ref 63)), some (.inl (.ref 89)), some (.inl (.ref 90)), some (.inl (.int x5)), o6, o7, o8, o9], [], (N, fm_SH)) Q := by
  obtain ⟨⟨c25, c26, c27, c28, c29, c32⟩, ⟨c64, c65, c66, c67, c68, c69, c70⟩, c71, c72, ⟨c78, c79, c80⟩, cR⟩ := hI.2.1
  have hG := hI.1.1
  have hn := hG.1
  have h12 := hG.2.2.1
  have n1 := hG.2.2.2.2.1.1
  have h25 := c25.trans hn
  refine fb_0_812 X _ _ _ _ _ N Q ?_
  refine ⟨h1, h2, ?_⟩
  generalize X.2 (x5 + nI 1).toNatClampNeg = x
  generalize X.2 (x5 + nI 2).toNatClampNeg = y
  by_cases hx : fj_in x (fg_n (fk_gG N))
  · obtain ⟨u, hu, rfl⟩ := hx
    have hu12 : u < 12 := by omega
    have ub := fz_in hu12 (by omega)
    have ut := fz_t (n := u) (by omega)
    by_cases hr : fj_rg y 0 100
    · refine fe_151 X _ _ N _ _ (fe_11 X _ _ N _ _ (sp_37y hn h12 hu (sp_38y hr ⟨ub, ?_⟩)))
      rw [ut]
      refine sp_141 hI.1.2.2.2.1 hu12 ⟨rfl, fz_in (by omega) (by omega), rfl, h1, h2, ?_⟩
      refine fe_77 X _ _ _ _ _ (sp_65y (n := fg_n (fk_gG N)) h25 h12 hu ⟨fun _ => sp_63y hr ⟨fun z => absurd z fj_n1, fun _ => sp_64n ⟨fun _ => ?_, fun z => absurd rfl z⟩⟩, fun z => absurd rfl z⟩)
      refine sp_76 (R := N) (hI.2.1.cd.fr (cs := [63]) (fun c hc => ?_) ⟨?_, ?_⟩ ⟨rfl, rfl, rfl, rfl, rfl, rfl, rfl⟩) hu12 ⟨rfl, sp_62 (fj_end ?_ (H _ _ _ _ _ _ _ _ _ (((fj_q.lo N _).tr ((fj_q.th _ _).tr (fj_q.th _ _))).I hI) ?_) (fun _ => ?_))⟩
      · have z : c ≠ 63 := by
          intro e
          subst e
          cases hc
        exact (fz_ne _ _ z).trans (fz_ne _ _ z)
      · simp [fm_uI]
      · simp [fm_uI]
      · simp [fm_uI]
      · simp
      · simp [fm_uI, fj_t0]
    · refine fe_151 X _ _ N _ _ (fe_11 X _ _ N _ _ (sp_37y hn h12 hu (sp_38n hr ⟨rfl, ⟨fun z => absurd z (by decide), fun _ => ⟨fun _ => ⟨rfl, h1, h2, ?_⟩, fun z => absurd rfl z⟩⟩⟩)))
      refine fe_77 X _ _ _ _ _ (sp_65y (n := fg_n (fk_gG N)) h25 h12 hu ⟨fun _ => sp_63n hr ⟨fun _ => sp_64y ⟨fun z => absurd z fj_n1, fun _ => ⟨rfl, sp_62 (fj_end ?_ (H _ _ _ _ _ _ _ _ _ (((fj_q.gc N).tr ((fj_q.th _ _).tr (fj_q.th _ _))).I hI) ?_) (fun z => absurd z (by decide)))⟩⟩, fun z => absurd rfl z⟩, fun z => absurd rfl z⟩)
      · simp [fm_uI]
      · simp
  · refine fe_151 X _ _ N _ _ (fe_11 X _ _ N _ _ (sp_37n hn h12 hx ⟨rfl, ⟨fun _ => ⟨rfl, h1, h2, ?_⟩, fun z => absurd rfl z⟩⟩))
    refine fe_77 X _ _ _ _ _ (sp_65n (n := fg_n (fk_gG N)) h25 h12 n1 hx ⟨fun z => absurd z fj_n1, fun _ => ⟨rfl, sp_62 (fj_end ?_ (H _ _ _ _ _ _ _ _ _ (((fj_q.gc N).tr (fj_q.th _ _)).I hI) ?_) (fun z => absurd z fj_n1))⟩⟩)
    · simp [fm_uI]
    · simp
end FJL
