/-! the law: addTie -/
theorem fj_tieG {N N1 : fm_N} {u v : Nat} (hG : fk_G N (fk_gG N)) (hf : fg_t (fk_gG N) < 4) (hu : u < fg_n (fk_gG N)) (hv : v < fg_n (fk_gG N)) (huv : u ≠ v) (r39 : N1.1 3 9 = nI (fg_t (fk_gG N) + 1)) (r38 : N1.1 3 8 = N.1 3 8) (r9 : ∀ i, N1.1 9 i = if i = fg_t (fk_gG N) then nI u else N.1 9 i) (r10 : ∀ i, N1.1 10 i = if i = fg_t (fk_gG N) then nI v else N.1 10 i) (r4 : N1.1 4 = N.1 4) (r5 : N1.1 5 = N.1 5) (r7 : N1.1 7 = N.1 7) (r8 : N1.1 8 = N.1 8) : fk_G N1 (fk_gG N1) ∧ fg_n (fk_gG N1) = fg_n (fk_gG N) := by
  obtain ⟨g1, g2, g3, g4, g5, g6, g7⟩ := hG
  have et : fg_t (fk_gG N1) = fg_t (fk_gG N) + 1 := by
    show (N1.1 3 9).toNatClampNeg = _
    rw [r39, fz_t (by omega)]
  have en : fg_n (fk_gG N1) = fg_n (fk_gG N) := by
    show (N1.1 3 8).toNatClampNeg = (N.1 3 8).toNatClampNeg
    rw [r38]
  have ea : ∀ i, fg_a (fk_gG N1) i = if i = fg_t (fk_gG N) then u else fg_a (fk_gG N) i := fun i => by
    show (N1.1 9 i).toNatClampNeg = _
    rw [r9]
    by_cases z : i = fg_t (fk_gG N)
    · rw [if_pos z, if_pos z, fz_t (by omega)]
    · rw [if_neg z, if_neg z]; rfl
  have eb : ∀ i, fg_b (fk_gG N1) i = if i = fg_t (fk_gG N) then v else fg_b (fk_gG N) i := fun i => by
    show (N1.1 10 i).toNatClampNeg = _
    rw [r10]
    by_cases z : i = fg_t (fk_gG N)
    · rw [if_pos z, if_pos z, fz_t (by omega)]
    · rw [if_neg z, if_neg z]; rfl
  have ep : ∀ q, fg_p (fk_gG N1) q = fg_p (fk_gG N) q := fun q => by
    show (N1.1 4 q).toNatClampNeg = (N.1 4 q).toNatClampNeg
    rw [r4]
  refine ⟨⟨by rw [en, r38]; exact g1, by rw [et]; exact r39, by omega, by omega, ⟨by rw [en]; exact g5.1, fun c h1 h2 => ?_, fun q hq => ?_⟩, fun i hi => ?_, fun q hq => ?_⟩, en⟩
  · rw [ep]; exact g5.2.1 c h1 (by omega)
  · rw [ea, eb, en]
    by_cases z : q = fg_t (fk_gG N)
    · rw [if_pos z, if_pos z]; exact ⟨hu, hv, huv⟩
    · rw [if_neg z, if_neg z]; exact g5.2.2 q (by omega)
  · obtain ⟨k1, k2, k3, k4⟩ := g6 i hi
    refine ⟨by rw [ep, r4]; exact k1, ?_, rfl, by rw [ep]; exact k4⟩
    rw [r8, k2]
    show fz_b (!!decide (nI 100 ≤ N.1 7 i)) = fz_b (!!decide (nI 100 ≤ N1.1 7 i))
    rw [r7]
  · obtain ⟨k1, k2, k3, k4, k5⟩ := g7 q hq
    rw [ea, eb, r9, r10]
    by_cases z : q = fg_t (fk_gG N)
    · rw [if_pos z, if_pos z, if_pos z, if_pos z]; exact ⟨rfl, rfl, rfl, by omega, by omega⟩
    · rw [if_neg z, if_neg z, if_neg z, if_neg z]; exact ⟨k1, k2, rfl, k4, k5⟩
section FJT
variable {X : Nat × (Nat → Int32)} {x5 : Int32} {o6 o7 o8 o9 : Option fm_V} {N : fm_N} {Q : fm_O → fm_M → Prop} {A : fg_A} {o : Nat → Nat} {fc M : Nat}
theorem sp_63iy {u n : Nat} {c : Int32} {Ki : Int32 → fm_N → Prop} {X' : Nat → fm_N → Prop} (hc : c = nI n) (h12 : n ≤ 12) (hu : u < n) (k : Ki (nI 1) N) : fm_Ci (fm_PP X) 63 [.inl (.int (nI u)), .inl (.int (nI 0)), .inl (.int (c - nI 1))] (N, fm_SH) Ki X' := by
  rw [hc, fz_sub (by omega)]
  exact sp_63y (fj_rg0 h12 (by omega) hu) k
theorem sp_63in {n : Nat} {x c : Int32} {Ki : Int32 → fm_N → Prop} {X' : Nat → fm_N → Prop} (hc : c = nI n) (h12 : n ≤ 12) (h1 : 1 ≤ n) (h : ¬ fj_in x n) (k : Ki (nI 0) N) : fm_Ci (fm_PP X) 63 [.inl (.int x), .inl (.int (nI 0)), .inl (.int (c - nI 1))] (N, fm_SH) Ki X' := by
  rw [hc, fz_sub (by omega)]
  exact sp_63n (fj_rgn h12 h1 h) k
theorem fj_tie {u v : Nat} {w : Int32} {N2 : fm_N} {A' : fg_A} {o' : Nat → Nat} {fc' : Nat} (hI : fj_I N A o fc M) (b1 : fx_F fk_cs (fm_uI (fm_uI (fm_uI (fm_uI N.1 9 (fg_t (fk_gG N)) (nI u)) 10 (fg_t (fk_gG N)) (nI v)) 11 (fg_t (fk_gG N)) w) 3 9 (nI (fg_t (fk_gG N) + 1)), N.2) N2) (b2 : fk_S N2 A' o' fc') (b3 : fg_Fin (fk_gG (fm_uI (fm_uI (fm_uI (fm_uI N.1 9 (fg_t (fk_gG N)) (nI u)) 10 (fg_t (fk_gG N)) (nI v)) 11 (fg_t (fk_gG N)) w) 3 9 (nI (fg_t (fk_gG N) + 1)), N.2)) A') (hG1 : fk_G (fm_uI (fm_uI (fm_uI (fm_uI N.1 9 (fg_t (fk_gG N)) (nI u)) 10 (fg_t (fk_gG N)) (nI v)) 11 (fg_t (fk_gG N)) w) 3 9 (nI (fg_t (fk_gG N) + 1)), N.2) (fk_gG (fm_uI (fm_uI (fm_uI (fm_uI N.1 9 (fg_t (fk_gG N)) (nI u)) 10 (fg_t (fk_gG N)) (nI v)) 11 (fg_t (fk_gG N)) w) 3 9 (nI (fg_t (fk_gG N) + 1)), N.2))) (hn1 : fg_n (fk_gG (fm_uI (fm_uI (fm_uI (fm_uI N.1 9 (fg_t (fk_gG N)) (nI u)) 10 (fg_t (fk_gG N)) (nI v)) 11 (fg_t (fk_gG N)) w) 3 9 (nI (fg_t (fk_gG N) + 1)), N.2)) = fg_n (fk_gG N)) :
    fj_I (fm_uI (fm_uI (fm_uI (fm_uI N2.1 78 (fg_t (fk_gG N)) (nI u)) 79 (fg_t (fk_gG N)) (nI v)) 80 (fg_t (fk_gG N)) w) 63 26 (nI (fg_t (fk_gG N) + 1)), N2.2) A' o' fc' M := by
  obtain ⟨⟨c25, c26, c27, c28, c29, c32⟩, ⟨c64, c65, c66, c67, c68, c69, c70⟩, c71, c72, ⟨c78, c79, c80⟩, cR⟩ := hI.2.1
  have hF1 : fx_F fj_gc N (fm_uI (fm_uI (fm_uI (fm_uI N.1 9 (fg_t (fk_gG N)) (nI u)) 10 (fg_t (fk_gG N)) (nI v)) 11 (fg_t (fk_gG N)) w) 3 9 (nI (fg_t (fk_gG N) + 1)), N.2) := ((((fx_F.rf _ N).up rfl).up rfl).up rfl).up rfl
  have m : ∀ c, fk_cs.contains c = false → fj_gc.contains c = false → N2.1 c = N.1 c := fun c h1 h2 => (b1.1 c h1).trans (hF1.1 c h2)
  refine fj_regrid hI hG1 (by omega) hF1 (((((b1.wk (by intro c hc; simp at hc ⊢; omega)).up rfl).up rfl).up rfl).up rfl) (b2.fr (cs := [63, 78, 79, 80]) (((((fx_F.rf _ N2).up rfl).up rfl).up rfl).up rfl) ⟨rfl, rfl, rfl, rfl, rfl, rfl, rfl⟩) b3 (fun i hi => ?_) (fun i => ?_) ?_ ?_ (fun i h1 h2 => ?_) ?_ ?_ ?_ ?_ (fun i hi => ?_) ?_ ?_ ?_
  · simp [fm_uI]; exact (hI.1.2.2.2.2.1.1 i hi).2.2
  · simp [fm_uI]
    exact hI.1.2.2.2.2.2.2.2 i
  · simp [fm_uI, m 63 rfl rfl, c25]
  · simp [fm_uI]
  · simp [fm_uI, m 63 rfl rfl, h2]
  · funext i; simp [fm_uI, m 64 rfl rfl, c64]
  · funext i; simp [fm_uI, m 65 rfl rfl, c65]
  · funext i; simp [fm_uI, m 66 rfl rfl, c66]
  · funext i; simp [fm_uI, m 70 rfl rfl, c70]
  · simp [fm_uI, m 71 rfl rfl, c71 i hi]
  · funext i; simp [fm_uI, m 78 rfl rfl, c78]
  · funext i; simp [fm_uI, m 79 rfl rfl, c79]
  · funext i; simp [fm_uI, m 80 rfl rfl, c80]
theorem lw_280 (hI : fj_I N A o fc M) (h1 : fm_inb (x5 + nI 1) X.1) (h2 : fm_inb (x5 + nI 2) X.1) (h3 : fm_inb (x5 + nI 3) X.1) (H : fj_H X x5 (N.2.2.2 + 1) Q) : fm_Ev (fm_PP X) 0 (280, [some (.inl (.ref 999999)), some (.inl (.ref 0)), some (.inl (.ref 63)), some (.inl (.ref 89)), some (.inl (.ref 90)), some (.inl (.int x5)), o6, o7, o8, o9], [], (N, fm_SH)) Q := by
  obtain ⟨⟨c25, c26, c27, c28, c29, c32⟩, ⟨c64, c65, c66, c67, c68, c69, c70⟩, c71, c72, ⟨c78, c79, c80⟩, cR⟩ := hI.2.1
  have hG := hI.1.1
  have hn := hG.1
  have h12 := hG.2.2.1
  have n1 := hG.2.2.2.2.1.1
  have h25 := c25.trans hn
  refine fb_0_280 X _ _ _ _ _ N Q ?_
  refine ⟨h1, h2, h3, ?_⟩
  generalize X.2 (x5 + nI 1).toNatClampNeg = x
  generalize X.2 (x5 + nI 2).toNatClampNeg = y
  generalize X.2 (x5 + nI 3).toNatClampNeg = w
  have h26 := c26.trans hG.2.1
  have t4 := hG.2.2.2.1
  by_cases hx : fj_in x (fg_n (fk_gG N))
  · obtain ⟨u, hu, rfl⟩ := hx
    by_cases hy : fj_in y (fg_n (fk_gG N))
    · obtain ⟨v, hv, rfl⟩ := hy
      by_cases huv : u = v
      · subst huv
        refine fe_143 X _ _ _ N _ _ (fe_3 X _ _ _ N _ _ (sp_37y hn h12 hu (sp_37y hn h12 hv ⟨fun _ => ⟨rfl, ⟨fun z => absurd z (by decide), fun _ => ⟨fun _ => ⟨rfl, h1, h2, h3, ?_⟩, fun z => absurd rfl z⟩⟩⟩, fun z => absurd rfl z⟩)))
        refine fe_67 X _ _ _ _ _ _ (sp_63iy h25 h12 hu ⟨fun z => absurd z fj_n1, fun _ => sp_63iy h25 h12 hv ⟨fun z => absurd z fj_n1, fun _ => sp_64n ⟨fun _ => ⟨fun _ => fb_67_57 X _ _ _ _ _ (fb_67_62 X _ _ _ _ _ _ (sp_64y ⟨fun z => absurd z fj_n1, fun _ => fb_67_90 X _ _ _ _ _ _ ⟨rfl, sp_62 (fj_end ?_ (H _ _ _ _ _ _ _ _ _ (((fj_q.gc N).tr ((fj_q.th _ _).tr (fj_q.th _ _))).I hI) ?_) (fun z => absurd z (by decide)))⟩⟩)), fun z => absurd rfl z⟩, fun z => absurd rfl z⟩⟩⟩)
        · simp [fm_uI]
        · simp
      · have huv' : ¬ nI u = nI v := fun z => huv ((nI_eq (by omega) (by omega)).mp z)
        by_cases hw : fj_rg w 1 20
        · by_cases hf : fg_t (fk_gG N) < 4
          · have ut := fz_t (n := fg_t (fk_gG N)) (by omega)
            have ib := fz_in hf (by omega)
            have hG1 := fj_tieG (N1 := (fm_uI (fm_uI (fm_uI (fm_uI N.1 9 (fg_t (fk_gG N)) (nI u)) 10 (fg_t (fk_gG N)) (nI v)) 11 (fg_t (fk_gG N)) w) 3 9 (nI (fg_t (fk_gG N) + 1)), N.2)) hG hf hu hv huv (by simp [fm_uI]) (by simp [fm_uI]) (fun i => by simp [fm_uI]) (fun i => by simp [fm_uI]) (by funext i; simp [fm_uI]) (by funext i; simp [fm_uI]) (by funext i; simp [fm_uI]) (by funext i; simp [fm_uI])
            have hS1 : fk_S (fm_uI (fm_uI (fm_uI (fm_uI N.1 9 (fg_t (fk_gG N)) (nI u)) 10 (fg_t (fk_gG N)) (nI v)) 11 (fg_t (fk_gG N)) w) 3 9 (nI (fg_t (fk_gG N) + 1)), N.2) A o fc := hI.1.2.1.fr (cs := fj_gc) (((((fx_F.rf _ N).up rfl).up rfl).up rfl).up rfl) ⟨rfl, rfl, rfl, rfl, rfl, rfl, rfl⟩
            refine fe_143 X _ _ _ N _ _ (fe_3 X _ _ _ N _ _ (sp_37y hn h12 hu (sp_37y hn h12 hv ⟨fun z => absurd z huv', fun _ => sp_38y hw ⟨fun _ => ?_, fun z => absurd (by rw [hG.2.1, fz_lt (by omega) (by omega)]; exact hf) z⟩⟩)))
            refine fe_136 X _ _ _ N _ _ ?_
            rw [hG.2.1, ut, nI_add]
            refine ⟨ib, ib, ib, rfl, ?_⟩
            refine sp_120 hG1.1 hS1 (fj_A0 hI) (fun N2 A' o' fc' b1 b2 b3 => ⟨rfl, fz_in (by omega) (by omega), rfl, h1, h2, h3, ?_⟩)
            have hI2 := fj_tie hI b1 b2 b3 hG1.1 hG1.2
            have m63 : ∀ i, N2.1 63 i = N.1 63 i := fun i => by
              rw [b1.1 63 rfl]
              simp [fm_uI]
            have m22 : N2.2.2.2 = N.2.2.2 := by rw [b1.2]
            have q25 : N2.1 63 25 = nI (fg_n (fk_gG N)) := (m63 25).trans h25
            have q26 : N2.1 63 26 = nI (fg_t (fk_gG N)) := (m63 26).trans h26
            refine fe_67 X _ _ _ _ _ _ (sp_63iy q25 h12 hu ⟨fun z => absurd z fj_n1, fun _ => sp_63iy q25 h12 hv ⟨fun z => absurd z fj_n1, fun _ => sp_64n ⟨fun _ => ⟨fun z => absurd z huv', fun _ => sp_63y hw ⟨fun z => absurd z fj_n1, fun _ => fb_67_62 X _ _ _ _ _ _ (sp_64n ⟨fun _ => ⟨fun z => ?_, fun _ => fb_67_83 X _ _ _ _ _ _ (sp_64n ⟨fun _ => ?_, fun z => absurd rfl z⟩)⟩, fun z => absurd rfl z⟩)⟩⟩, fun z => absurd rfl z⟩⟩⟩)
            · have e5 : fm_uI (fm_uI N2.1 63 31 (nI 0)) 63 31 (nI 0) 63 26 = nI (fg_t (fk_gG N)) := by simp [fm_uI, q26]
              exact absurd ((nI_eq (by omega) (by omega)).mp (e5.symm.trans z)) (by omega)
            · dsimp only
              rw [show fm_uI (fm_uI (fm_uI N2.1 63 31 (nI 0)) 63 31 (nI 0)) 63 31 (nI 0) 63 26 = nI (fg_t (fk_gG N)) by simp [fm_uI, q26], ut, nI_add, fz_sub (by omega), Nat.add_sub_cancel]
              refine ⟨ib, ib, ib, rfl, sp_62 (fj_end ?_ (H _ _ _ _ _ _ _ _ _ (fj_q.I (d := 0) ?_ hI2) ?_) (fun _ => ?_))⟩
              · simp [fm_uI]
              · exact ⟨fun c hc => (by
                    have z := (fj_c63 hc).1
                    funext i
                    simp [fm_uI, z]), by simp [fm_uI], fun i a b => (by simp [fm_uI, a, b]), by simp [fm_uI], by simp [fm_uI], by simp⟩
              · simp [m22]
              · simp [fm_uI, fj_t0]
          · have hf4 : fg_t (fk_gG N) = 4 := by omega
            refine fe_143 X _ _ _ N _ _ (fe_3 X _ _ _ N _ _ (sp_37y hn h12 hu (sp_37y hn h12 hv ⟨fun z => absurd z huv', fun _ => sp_38y hw ⟨fun z => absurd ?_ hf, fun _ => ⟨rfl, ⟨fun z => absurd z (by decide), fun _ => ⟨fun z => absurd z (by decide), fun _ => ⟨fun _ => ⟨rfl, h1, h2, h3, ?_⟩, fun z => absurd rfl z⟩⟩⟩⟩⟩⟩)))
            · rw [hG.2.1, fz_lt (by omega) (by omega)] at z
              exact z
            · refine fe_67 X _ _ _ _ _ _ (sp_63iy h25 h12 hu ⟨fun z => absurd z fj_n1, fun _ => sp_63iy h25 h12 hv ⟨fun z => absurd z fj_n1, fun _ => sp_64n ⟨fun _ => ⟨fun z => absurd z huv', fun _ => sp_63y hw ⟨fun z => absurd z fj_n1, fun _ => fb_67_62 X _ _ _ _ _ _ (sp_64n ⟨fun _ => ⟨fun _ => fb_67_83 X _ _ _ _ _ _ (sp_64y ⟨fun z => absurd z fj_n1, fun _ => fb_67_90 X _ _ _ _ _ _ ⟨rfl, sp_62 (fj_end ?_ (H _ _ _ _ _ _ _ _ _ (((fj_q.gc N).tr ((fj_q.th _ _).tr ((fj_q.th _ _).tr (fj_q.th _ _)))).I hI) ?_) (fun z => absurd z (by decide)))⟩⟩), fun z => absurd ?_ z⟩, fun z => absurd rfl z⟩)⟩⟩, fun z => absurd rfl z⟩⟩⟩)
              · simp [fm_uI]
              · simp
              · simp [fm_uI, h26, hf4]
        · refine fe_143 X _ _ _ N _ _ (fe_3 X _ _ _ N _ _ (sp_37y hn h12 hu (sp_37y hn h12 hv ⟨fun z => absurd z huv', fun _ => sp_38n hw ⟨rfl, ⟨fun z => absurd z (by decide), fun _ => ⟨fun _ => ⟨rfl, h1, h2, h3, ?_⟩, fun z => absurd rfl z⟩⟩⟩⟩)))
          refine fe_67 X _ _ _ _ _ _ (sp_63iy h25 h12 hu ⟨fun z => absurd z fj_n1, fun _ => sp_63iy h25 h12 hv ⟨fun z => absurd z fj_n1, fun _ => sp_64n ⟨fun _ => ⟨fun z => absurd z huv', fun _ => sp_63n hw ⟨fun _ => fb_67_57 X _ _ _ _ _ (fb_67_62 X _ _ _ _ _ _ (sp_64y ⟨fun z => absurd z fj_n1, fun _ => fb_67_90 X _ _ _ _ _ _ ⟨rfl, sp_62 (fj_end ?_ (H _ _ _ _ _ _ _ _ _ (((fj_q.gc N).tr ((fj_q.th _ _).tr (fj_q.th _ _))).I hI) ?_) (fun z => absurd z (by decide)))⟩⟩)), fun z => absurd rfl z⟩⟩, fun z => absurd rfl z⟩⟩⟩)
          · simp [fm_uI]
          · simp
    · refine fe_143 X _ _ _ N _ _ (fe_3 X _ _ _ N _ _ (sp_37y hn h12 hu (sp_37n hn h12 hy ⟨rfl, ⟨fun _ => ⟨rfl, h1, h2, h3, ?_⟩, fun z => absurd rfl z⟩⟩)))
      refine fe_67 X _ _ _ _ _ _ (sp_63iy h25 h12 hu ⟨fun z => absurd z fj_n1, fun _ => sp_63in h25 h12 n1 hy ⟨fun _ => sp_64y ⟨fun z => absurd z fj_n1, fun _ => fb_67_90 X _ _ _ _ _ _ ⟨rfl, sp_62 (fj_end ?_ (H _ _ _ _ _ _ _ _ _ (((fj_q.gc N).tr (fj_q.th _ _)).I hI) ?_) (fun z => absurd z (by decide)))⟩⟩, fun z => absurd rfl z⟩⟩)
      · simp [fm_uI]
      · simp
  · refine fe_143 X _ _ _ N _ _ (fe_3 X _ _ _ N _ _ (sp_37n hn h12 hx ⟨rfl, ⟨fun _ => ⟨rfl, h1, h2, h3, ?_⟩, fun z => absurd rfl z⟩⟩))
    refine fe_67 X _ _ _ _ _ _ (sp_63in h25 h12 n1 hx ⟨fun _ => sp_64y ⟨fun z => absurd z fj_n1, fun _ => fb_67_90 X _ _ _ _ _ _ ⟨rfl, sp_62 (fj_end ?_ (H _ _ _ _ _ _ _ _ _ (((fj_q.gc N).tr (fj_q.th _ _)).I hI) ?_) (fun z => absurd z (by decide)))⟩⟩, fun z => absurd rfl z⟩)
    · simp [fm_uI]
    · simp
end FJT
