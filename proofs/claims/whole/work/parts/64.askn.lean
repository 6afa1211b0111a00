/-! the law: questions about a node -/
section FJB
variable {X : Nat × (Nat → Int32)} {x5 : Int32} {o6 o7 o8 o9 : Option fm_V} {N : fm_N} {Q : fm_O → fm_M → Prop} {A : fg_A} {o : Nat → Nat} {fc M : Nat}
theorem fj_dl (N : fm_N) (p : (Nat → Nat → Int64) × (Nat → Nat → UInt64) × Nat) : fk_dt N (N.1, p) := ⟨rfl, rfl, rfl, rfl, rfl, fun _ _ => ⟨rfl, rfl, rfl⟩⟩
theorem lw_1081 (hI : fj_I N A o fc M) (h1 : fm_inb (x5 + nI 1) X.1) (H : fj_H X x5 (N.2.2.2 + 1) Q) : fm_Ev (fm_PP X) 0 (1081, [some (.inl (.ref 999999)), some (.inl (.ref 0)), some (.inl (.ref 63)), some (.inl (.ref 89)), some (.inl (.ref 90)), some (.inl (.int x5)), o6, o7, o8, o9], [], (N, fm_SH)) Q := by
  obtain ⟨⟨c25, c26, c27, c28, c29, c32⟩, ⟨c64, c65, c66, c67, c68, c69, c70⟩, c71, c72, ⟨c78, c79, c80⟩, cR⟩ := hI.2.1
  have hG := hI.1.1
  have hn := hG.1
  have h12 := hG.2.2.1
  have n1 := hG.2.2.2.2.1.1
  have h25 := c25.trans hn
  refine fb_0_1081 X _ _ _ _ _ N Q ?_
  refine ⟨h1, ?_⟩
  generalize X.2 (x5 + nI 1).toNatClampNeg = x
  by_cases hx : fj_in x (fg_n (fk_gG N))
  · obtain ⟨u, hu, rfl⟩ := hx
    have hu12 : u < 12 := by omega
    have ub := fz_in hu12 (by omega)
    have ut := fz_t (n := u) (by omega)
    have c12 := ((hI.1.2.1.1 u hu12).1)
    have hS := hI.1.2.1
    have hA := fj_An hG hI.1.2.2.1
    by_cases hf : ((true && decide (u = 0)) = false ∧ fg_F A u = true)
    · have hu0 : u ≠ 0 := fun z => (by rw [z] at hf; exact absurd hf.1 (by decide))
      refine fe_155 X _ N _ _ (fe_17 X _ N _ _ (sp_37y hn h12 hu (sp_41y hu12 hu0 (by rw [c12, hf.2]; rfl) ⟨ub, rfl, fz_in (by omega) (by omega), rfl, h1, ?_⟩)))
      have q1 : fj_q 0 N (N.1, fm_uI N.2.1 89 ((nI 0).toNatClampNeg) (N.1 13 (nI u).toNatClampNeg).toInt64, N.2.2) := fj_q.lo _ _
      refine fe_93 X _ _ _ _ (sp_92f (b := true) (q1.ic hI.1) (q1.cp q1 hI.2.1) (by rw [q1.gG]; exact hu) hf (fun N2 b1 b2 b3 b4 => ⟨fun _ => ⟨ub, rfl, sp_62 (fj_end b2 (H _ _ _ _ _ _ _ _ _ ((q1.tr b1.1).I hI) ?_) (fun _ => ?_))⟩, fun z => absurd rfl z⟩))
      · have e1 := q1.2.2.2.2.2
        rw [b1.2]
        exact Nat.le_trans e1 (Nat.le_succ _)
      · rw [b1.2, ut]
        dsimp only
        rw [fj_t0, fz_at, if_pos rfl]
        rw [(b3 hf.2 hu0).1, (hS.1 u hu12).2.1]
    · refine fe_155 X _ N _ _ (fe_17 X _ N _ _ (sp_37y hn h12 hu (sp_41n hu12 ?_ ⟨rfl, ⟨fun z => absurd z (by decide), fun _ => ⟨fun _ => ⟨rfl, h1, ?_⟩, fun z => absurd rfl z⟩⟩⟩)))
      · by_cases z : u = 0
        · exact Or.inl z
        · refine Or.inr ?_
          cases hF : fg_F A u
          · rw [c12, hF]; rfl
          · exact absurd ⟨by simp [z], hF⟩ hf
      · refine fe_93 X _ _ _ _ (sp_92u (b := true) ((fj_q.gc N).ic hI.1) ((fj_q.gc N).cp (fj_q.gc N) hI.2.1) hu hf (fun N2 b1 b2 => ⟨fun z => absurd z fj_n1, fun _ => ⟨rfl, sp_62 (fj_end b2 (H _ _ _ _ _ _ _ _ _ (((fj_q.gc N).tr b1.1).I hI) ?_) (fun z => absurd z (by decide)))⟩⟩))
        rw [b1.2]
        exact Nat.le_refl _
  · refine fe_155 X _ N _ _ (fe_17 X _ N _ _ (sp_37n hn h12 hx ⟨rfl, ⟨fun _ => ⟨rfl, h1, ?_⟩, fun z => absurd rfl z⟩⟩))
    refine fe_93 X _ _ _ _ (sp_92n (b := true) ((fj_q.gc N).ic hI.1) ((fj_q.gc N).cp (fj_q.gc N) hI.2.1) hx (fun N2 b1 b2 => ⟨fun z => absurd z fj_n1, fun _ => ⟨rfl, sp_62 (fj_end b2 (H _ _ _ _ _ _ _ _ _ (((fj_q.gc N).tr b1.1).I hI) ?_) (fun z => absurd z (by decide)))⟩⟩))
    rw [b1.2]
    exact Nat.le_refl _
theorem lw_1200 (hI : fj_I N A o fc M) (h1 : fm_inb (x5 + nI 1) X.1) (H : fj_H X x5 (N.2.2.2 + 1) Q) : fm_Ev (fm_PP X) 0 (1200, [some (.inl (.ref 999999)), some (.inl (.ref 0)), some (.inl (.ref 63)), some (.inl (.ref 89)), some (.inl (.ref 90)), some (.inl (.int x5)), o6, o7, o8, o9], [], (N, fm_SH)) Q := by
  obtain ⟨⟨c25, c26, c27, c28, c29, c32⟩, ⟨c64, c65, c66, c67, c68, c69, c70⟩, c71, c72, ⟨c78, c79, c80⟩, cR⟩ := hI.2.1
  have hG := hI.1.1
  have hn := hG.1
  have h12 := hG.2.2.1
  have n1 := hG.2.2.2.2.1.1
  have h25 := c25.trans hn
  refine fb_0_1200 X _ _ _ _ _ N Q ?_
  refine ⟨h1, ?_⟩
  generalize X.2 (x5 + nI 1).toNatClampNeg = x
  by_cases hx : fj_in x (fg_n (fk_gG N))
  · obtain ⟨u, hu, rfl⟩ := hx
    have hu12 : u < 12 := by omega
    have ub := fz_in hu12 (by omega)
    have ut := fz_t (n := u) (by omega)
    have c12 := ((hI.1.2.1.1 u hu12).1)
    have hS := hI.1.2.1
    have hA := fj_An hG hI.1.2.2.1
    by_cases hf : ((true && decide (u = 0)) = false ∧ fg_F A u = true)
    · have hu0 : u ≠ 0 := fun z => (by rw [z] at hf; exact absurd hf.1 (by decide))
      refine fe_157 X _ N _ _ (fe_19 X _ N _ _ (sp_37y hn h12 hu (sp_41y hu12 hu0 (by rw [c12, hf.2]; rfl) (sp_45 hG hI.1.2.2.2.1 hS hA hI.1.2.2.2.2.2.2.1 hI.1.2.2.2.2.2.1 (fun N1 a1 a2 a3 => ⟨ub, rfl, fz_in (by omega) (by omega), rfl, h1, ?_⟩)))))
      have q1 : fj_q 0 N (N1.1, fm_uI N1.2.1 89 ((nI 0).toNatClampNeg) (N1.1 18 (nI u).toNatClampNeg).toInt64, N1.2.2) := (fj_q.Fx a1 (by intro c hc; simp at hc ⊢; omega) rfl rfl).tr (fj_q.lo _ _)
      refine fe_95 X _ _ _ _ (sp_92f (b := true) (q1.ic hI.1) (q1.cp q1 hI.2.1) (by rw [q1.gG]; exact hu) hf (fun N2 b1 b2 b3 b4 => ⟨fun _ => ⟨ub, rfl, sp_62 (fj_end b2 (H _ _ _ _ _ _ _ _ _ ((q1.tr b1.1).I hI) ?_) (fun _ => ?_))⟩, fun z => absurd rfl z⟩))
      · have e1 := q1.2.2.2.2.2
        rw [b1.2]
        exact Nat.le_trans e1 (Nat.le_succ _)
      · rw [b1.2, ut]
        dsimp only
        rw [fj_t0, fz_at, if_pos rfl]
        obtain ⟨k, hk, hok⟩ := hS.2.2.2.2.1.2.2.2.1 u hf.2
        rw [(b3 hf.2 hu0).2, fk_fl_dt hS.2.2.2.2.1 (fj_dl N1 _), ← hok, (a3 k hk).1]
    · refine fe_157 X _ N _ _ (fe_19 X _ N _ _ (sp_37y hn h12 hu (sp_41n hu12 ?_ ⟨rfl, ⟨fun z => absurd z (by decide), fun _ => ⟨fun _ => ⟨rfl, h1, ?_⟩, fun z => absurd rfl z⟩⟩⟩)))
      · by_cases z : u = 0
        · exact Or.inl z
        · refine Or.inr ?_
          cases hF : fg_F A u
          · rw [c12, hF]; rfl
          · exact absurd ⟨by simp [z], hF⟩ hf
      · refine fe_95 X _ _ _ _ (sp_92u (b := true) ((fj_q.gc N).ic hI.1) ((fj_q.gc N).cp (fj_q.gc N) hI.2.1) hu hf (fun N2 b1 b2 => ⟨fun z => absurd z fj_n1, fun _ => ⟨rfl, sp_62 (fj_end b2 (H _ _ _ _ _ _ _ _ _ (((fj_q.gc N).tr b1.1).I hI) ?_) (fun z => absurd z (by decide)))⟩⟩))
        rw [b1.2]
        exact Nat.le_refl _
  · refine fe_157 X _ N _ _ (fe_19 X _ N _ _ (sp_37n hn h12 hx ⟨rfl, ⟨fun _ => ⟨rfl, h1, ?_⟩, fun z => absurd rfl z⟩⟩))
    refine fe_95 X _ _ _ _ (sp_92n (b := true) ((fj_q.gc N).ic hI.1) ((fj_q.gc N).cp (fj_q.gc N) hI.2.1) hx (fun N2 b1 b2 => ⟨fun z => absurd z fj_n1, fun _ => ⟨rfl, sp_62 (fj_end b2 (H _ _ _ _ _ _ _ _ _ (((fj_q.gc N).tr b1.1).I hI) ?_) (fun z => absurd z (by decide)))⟩⟩))
    rw [b1.2]
    exact Nat.le_refl _
theorem lw_1256 (hI : fj_I N A o fc M) (h1 : fm_inb (x5 + nI 1) X.1) (H : fj_H X x5 (N.2.2.2 + 1) Q) : fm_Ev (fm_PP X) 0 (1256, [some (.inl (.ref 999999)), some (.inl (.ref 0)), some (.inl (.ref 63)), some (.inl (.ref 89)), some (.inl (.ref 90)), some (.inl (.int x5)), o6, o7, o8, o9], [], (N, fm_SH)) Q := by
  obtain ⟨⟨c25, c26, c27, c28, c29, c32⟩, ⟨c64, c65, c66, c67, c68, c69, c70⟩, c71, c72, ⟨c78, c79, c80⟩, cR⟩ := hI.2.1
  have hG := hI.1.1
  have hn := hG.1
  have h12 := hG.2.2.1
  have n1 := hG.2.2.2.2.1.1
  have h25 := c25.trans hn
  refine fb_0_1256 X _ _ _ _ _ N Q ?_
  refine ⟨h1, ?_⟩
  generalize X.2 (x5 + nI 1).toNatClampNeg = x
  by_cases hx : fj_in x (fg_n (fk_gG N))
  · obtain ⟨u, hu, rfl⟩ := hx
    have hu12 : u < 12 := by omega
    have ub := fz_in hu12 (by omega)
    have ut := fz_t (n := u) (by omega)
    have c12 := ((hI.1.2.1.1 u hu12).1)
    have hS := hI.1.2.1
    have hA := fj_An hG hI.1.2.2.1
    by_cases hf : ((false && decide (u = 0)) = false ∧ fg_F A u = true)
    · have hs := hf.2
      refine fe_158 X _ N _ _ (fe_20 X _ N _ _ (sp_37y hn h12 hu (sp_40y hu12 (by rw [c12, hf.2]; rfl) (sp_45 hG hI.1.2.2.2.1 hS hA hI.1.2.2.2.2.2.2.1 hI.1.2.2.2.2.2.1 (fun N1 a1 a2 a3 => ⟨ub, rfl, fz_in (by omega) (by omega), rfl, h1, ?_⟩)))))
      have q1 : fj_q 0 N (N1.1, fm_uI N1.2.1 89 ((nI 0).toNatClampNeg) (N1.1 19 (nI u).toNatClampNeg).toInt64, N1.2.2) := (fj_q.Fx a1 (by intro c hc; simp at hc ⊢; omega) rfl rfl).tr (fj_q.lo _ _)
      refine fe_96 X _ _ _ _ (sp_92f (b := false) (q1.ic hI.1) (q1.cp q1 hI.2.1) (by rw [q1.gG]; exact hu) hf (fun N2 b1 b2 b3 b4 => ⟨fun _ => ⟨ub, rfl, sp_62 (fj_end b2 (H _ _ _ _ _ _ _ _ _ ((q1.tr b1.1).I hI) ?_) (fun _ => ?_))⟩, fun z => absurd rfl z⟩))
      · have e1 := q1.2.2.2.2.2
        rw [b1.2]
        exact Nat.le_trans e1 (Nat.le_succ _)
      · rw [b1.2, ut]
        dsimp only
        rw [fj_t0, fz_at, if_pos rfl]
        obtain ⟨k, hk, hok⟩ := hS.2.2.2.2.1.2.2.2.1 u hf.2
        rw [b4, fk_vt_dt hS.2.2.2.2.1 (fj_dl N1 _), ← hok, (a3 k hk).2]
    · refine fe_158 X _ N _ _ (fe_20 X _ N _ _ (sp_37y hn h12 hu (sp_40n hu12 ?_ ⟨rfl, ⟨fun z => absurd z (by decide), fun _ => ⟨fun _ => ⟨rfl, h1, ?_⟩, fun z => absurd rfl z⟩⟩⟩)))
      · cases hF : fg_F A u
        · rw [c12, hF]; rfl
        · exact absurd ⟨rfl, hF⟩ hf
      · refine fe_96 X _ _ _ _ (sp_92u (b := false) ((fj_q.gc N).ic hI.1) ((fj_q.gc N).cp (fj_q.gc N) hI.2.1) hu hf (fun N2 b1 b2 => ⟨fun z => absurd z fj_n1, fun _ => ⟨rfl, sp_62 (fj_end b2 (H _ _ _ _ _ _ _ _ _ (((fj_q.gc N).tr b1.1).I hI) ?_) (fun z => absurd z (by decide)))⟩⟩))
        rw [b1.2]
        exact Nat.le_refl _
  · refine fe_158 X _ N _ _ (fe_20 X _ N _ _ (sp_37n hn h12 hx ⟨rfl, ⟨fun _ => ⟨rfl, h1, ?_⟩, fun z => absurd rfl z⟩⟩))
    refine fe_96 X _ _ _ _ (sp_92n (b := false) ((fj_q.gc N).ic hI.1) ((fj_q.gc N).cp (fj_q.gc N) hI.2.1) hx (fun N2 b1 b2 => ⟨fun z => absurd z fj_n1, fun _ => ⟨rfl, sp_62 (fj_end b2 (H _ _ _ _ _ _ _ _ _ (((fj_q.gc N).tr b1.1).I hI) ?_) (fun z => absurd z (by decide)))⟩⟩))
    rw [b1.2]
    exact Nat.le_refl _
end FJB
