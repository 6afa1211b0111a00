/-! the law: addNode -/
section FJM
variable {X : Nat × (Nat → Int32)} {x5 : Int32} {o6 o7 o8 o9 : Option fm_V} {N : fm_N} {Q : fm_O → fm_M → Prop} {A : fg_A} {o : Nat → Nat} {fc M : Nat}
theorem lw_200 (hI : fj_I N A o fc M) (h1 : fm_inb (x5 + nI 1) X.1) (h2 : fm_inb (x5 + nI 2) X.1) (h3 : fm_inb (x5 + nI 3) X.1) (H : fj_H X x5 (N.2.2.2 + 1) Q) : fm_Ev (fm_PP X) 0 (200, [some (.inl (.ref 999999)), some (.inl (.ref 0)), some (.inl (.ref 63)), some (.inl (.ref 89)), some (.inl (.ref 90)), some (.inl (.int x5)), o6, o7, o8, o9], [], (N, fm_SH)) Q := by
  obtain ⟨⟨c25, c26, c27, c28, c29, c32⟩, ⟨c64, c65, c66, c67, c68, c69, c70⟩, c71, c72, ⟨c78, c79, c80⟩, cR⟩ := hI.2.1
  have hG := hI.1.1
  have hn := hG.1
  have h12 := hG.2.2.1
  have n1 := hG.2.2.2.2.1.1
  have h25 := c25.trans hn
  refine fb_0_200 X _ _ _ _ _ N Q ?_
  refine ⟨h1, h2, h3, ?_⟩
  generalize X.2 (x5 + nI 1).toNatClampNeg = x
  generalize X.2 (x5 + nI 2).toNatClampNeg = y
  generalize X.2 (x5 + nI 3).toNatClampNeg = w
  by_cases hx : fj_in x (fg_n (fk_gG N))
  · obtain ⟨u, hu, rfl⟩ := hx
    by_cases hy : fj_rg y 1 20
    · by_cases hw : fj_rg w 1 400
      · by_cases hf : fg_n (fk_gG N) < 12
        · have nt := fz_t (n := fg_n (fk_gG N)) (by omega)
          have ib := fz_in hf (by omega)
          have hG1 := fj_nodeG (N1 := (fm_uI (fm_uI (fm_uI (fm_uI N.1 4 (fg_n (fk_gG N)) (nI u)) 5 (fg_n (fk_gG N)) y) 6 (fg_n (fk_gG N)) w) 3 8 (nI (fg_n (fk_gG N) + 1)), N.2)) hG hf hu (by simp [fm_uI]) (by simp [fm_uI]) (fun i => by simp [fm_uI]) (by funext i; simp [fm_uI]) (by funext i; simp [fm_uI]) (by funext i; simp [fm_uI]) (by funext i; simp [fm_uI]) (by funext i; simp [fm_uI])
          have hS1 : fk_S (fm_uI (fm_uI (fm_uI (fm_uI N.1 4 (fg_n (fk_gG N)) (nI u)) 5 (fg_n (fk_gG N)) y) 6 (fg_n (fk_gG N)) w) 3 8 (nI (fg_n (fk_gG N) + 1)), N.2) A o fc := hI.1.2.1.fr (cs := fj_gc) (((((fx_F.rf _ N).up rfl).up rfl).up rfl).up rfl) ⟨rfl, rfl, rfl, rfl, rfl, rfl, rfl⟩
          refine fe_142 X _ _ _ N _ _ (fe_2 X _ _ _ N _ _ (sp_37y hn h12 hu (sp_38y hy (sp_38y hw ⟨fun _ => ?_, fun z => absurd (by rw [hn, fz_lt (by omega) (by omega)]; exact hf) z⟩))))
          refine fe_135 X _ _ _ N _ _ ?_
          rw [hn, nt, nI_add]
          refine ⟨ib, ib, ib, rfl, ?_⟩
          refine sp_120 hG1.1 hS1 (fj_A0 hI) (fun N2 A' o' fc' b1 b2 b3 => ⟨rfl, fz_in (by omega) (by omega), rfl, h1, h2, h3, ?_⟩)
          have hI2 := fj_node hI hf hu (fz_bd_wk (fj_rg_bd (a := 1) (b := 400) hw (by decide) (by decide)) (by decide) (by decide)) b1 b2 b3 hG1.1 hG1.2
          have m63 : ∀ i, N2.1 63 i = N.1 63 i := fun i => by
            rw [b1.1 63 rfl]
            simp [fm_uI]
          have m22 : N2.2.2.2 = N.2.2.2 := by rw [b1.2]
          have q25 : N2.1 63 25 = nI (fg_n (fk_gG N)) := (m63 25).trans h25
          refine fe_66 X _ _ _ _ _ _ (sp_65y (n := fg_n (fk_gG N)) q25 h12 hu ⟨fun _ => sp_63y hy ⟨fun z => absurd z fj_n1, fun _ => sp_63y hw ⟨fun z => absurd z fj_n1, fun _ => sp_64n ⟨fun _ => ⟨fun z => ?_, fun _ => sp_64n ⟨fun _ => ?_, fun z => absurd rfl z⟩⟩, fun z => absurd rfl z⟩⟩⟩, fun z => absurd rfl z⟩)
          · have e5 : fm_uI (fm_uI N2.1 63 31 (nI 0)) 63 31 (nI 0) 63 25 = nI (fg_n (fk_gG N)) := by simp [fm_uI, q25]
            exact absurd ((nI_eq (by omega) (by omega)).mp (e5.symm.trans z)) (by omega)
          · dsimp only
            rw [show fm_uI (fm_uI (fm_uI N2.1 63 31 (nI 0)) 63 31 (nI 0)) 63 31 (nI 0) 63 25 = nI (fg_n (fk_gG N)) by simp [fm_uI, q25], nt, nI_add, fz_sub (by omega), Nat.add_sub_cancel]
            refine ⟨ib, ib, ib, rfl, sp_62 (fj_end ?_ (H _ _ _ _ _ _ _ _ _ (fj_q.I (d := 0) ?_ hI2) ?_) (fun _ => ?_))⟩
            · simp [fm_uI]
            · exact ⟨fun c hc => (by
                  have z := (fj_c63 hc).1
                  funext i
                  simp [fm_uI, z]), by simp [fm_uI], fun i a b => (by simp [fm_uI, a, b]), by simp [fm_uI], by simp [fm_uI], by simp⟩
            · simp [m22]
            · simp [fm_uI, fj_t0]
        · have hf12 : fg_n (fk_gG N) = 12 := by omega
          refine fe_142 X _ _ _ N _ _ (fe_2 X _ _ _ N _ _ (sp_37y hn h12 hu (sp_38y hy (sp_38y hw ⟨fun z => absurd ?_ hf, fun _ => ⟨rfl, ⟨fun z => absurd z (by decide), fun _ => ⟨fun z => absurd z (by decide), fun _ => ⟨fun _ => ⟨rfl, h1, h2, h3, ?_⟩, fun z => absurd rfl z⟩⟩⟩⟩⟩))))
          · rw [hn, fz_lt (by omega) (by omega)] at z
            exact z
          · refine fe_66 X _ _ _ _ _ _ (sp_65y (n := fg_n (fk_gG N)) h25 h12 hu ⟨fun _ => sp_63y hy ⟨fun z => absurd z fj_n1, fun _ => sp_63y hw ⟨fun z => absurd z fj_n1, fun _ => sp_64n ⟨fun _ => ⟨fun _ => sp_64y ⟨fun z => absurd z fj_n1, fun _ => ⟨rfl, sp_62 (fj_end ?_ (H _ _ _ _ _ _ _ _ _ (((fj_q.gc N).tr ((fj_q.th _ _).tr ((fj_q.th _ _).tr (fj_q.th _ _)))).I hI) ?_) (fun z => absurd z (by decide)))⟩⟩, fun z => absurd ?_ z⟩, fun z => absurd rfl z⟩⟩⟩, fun z => absurd rfl z⟩)
            · simp [fm_uI]
            · simp
            · simp [fm_uI, h25, hf12]
      · refine fe_142 X _ _ _ N _ _ (fe_2 X _ _ _ N _ _ (sp_37y hn h12 hu (sp_38y hy (sp_38n hw ⟨rfl, ⟨fun z => absurd z (by decide), fun _ => ⟨fun _ => ⟨rfl, h1, h2, h3, ?_⟩, fun z => absurd rfl z⟩⟩⟩))))
        refine fe_66 X _ _ _ _ _ _ (sp_65y (n := fg_n (fk_gG N)) h25 h12 hu ⟨fun _ => sp_63y hy ⟨fun z => absurd z fj_n1, fun _ => sp_63n hw ⟨fun _ => sp_64y ⟨fun z => absurd z fj_n1, fun _ => ⟨rfl, sp_62 (fj_end ?_ (H _ _ _ _ _ _ _ _ _ (((fj_q.gc N).tr ((fj_q.th _ _).tr (fj_q.th _ _))).I hI) ?_) (fun z => absurd z (by decide)))⟩⟩, fun z => absurd rfl z⟩⟩, fun z => absurd rfl z⟩)
        · simp [fm_uI]
        · simp
    · refine fe_142 X _ _ _ N _ _ (fe_2 X _ _ _ N _ _ (sp_37y hn h12 hu (sp_38n hy ⟨rfl, ⟨fun z => absurd z (by decide), fun _ => ⟨fun _ => ⟨rfl, h1, h2, h3, ?_⟩, fun z => absurd rfl z⟩⟩⟩)))
      refine fe_66 X _ _ _ _ _ _ (sp_65y (n := fg_n (fk_gG N)) h25 h12 hu ⟨fun _ => sp_63n hy ⟨fun _ => sp_64y ⟨fun z => absurd z fj_n1, fun _ => ⟨rfl, sp_62 (fj_end ?_ (H _ _ _ _ _ _ _ _ _ (((fj_q.gc N).tr ((fj_q.th _ _).tr (fj_q.th _ _))).I hI) ?_) (fun z => absurd z (by decide)))⟩⟩, fun z => absurd rfl z⟩, fun z => absurd rfl z⟩)
      · simp [fm_uI]
      · simp
  · refine fe_142 X _ _ _ N _ _ (fe_2 X _ _ _ N _ _ (sp_37n hn h12 hx ⟨rfl, ⟨fun _ => ⟨rfl, h1, h2, h3, ?_⟩, fun z => absurd rfl z⟩⟩))
    refine fe_66 X _ _ _ _ _ _ (sp_65n (n := fg_n (fk_gG N)) h25 h12 n1 hx ⟨fun z => absurd z fj_n1, fun _ => ⟨rfl, sp_62 (fj_end ?_ (H _ _ _ _ _ _ _ _ _ (((fj_q.gc N).tr (fj_q.th _ _)).I hI) ?_) (fun z => absurd z fj_n1))⟩⟩)
    · simp [fm_uI]
    · simp
end FJM
