/-! the law: more questions -/
section FJD
variable {X : Nat × (Nat → Int32)} {x5 : Int32} {o6 o7 o8 o9 : Option fm_V} {R N : fm_N} {Q : fm_O → fm_M → Prop} {A : fg_A} {o : Nat → Nat} {fc M u : Nat} {X' : Nat → fm_N → Prop} {Ki : Int32 → fm_N → Prop} {x : Int32}
theorem sp_91y (ic : fk_ic R A o fc M) (hC : fn_cp R N M) (hu : u < fg_n (fk_gG R)) (kk : ∀ N', fj_n N N' → N'.1 63 31 = nI 0 → Ki (fz_b (fg_F A u)) N') : fm_Ci (fm_PP X) 91 [.inl (.ref 63), .inl (.int (nI u))] (N, fm_SH) Ki X' := by
  have h12 := ic.1.2.2.1
  refine fe_91 X _ N Ki X' (sp_80 (fn_G.of ic.1 hC) ic.2.2.1 (fun N1 a1 a2 => ?_))
  have a25 : N1.1 63 25 = nI (fg_n (fk_gG R)) := by rw [a1.1 63 rfl]; exact (fn_G.of ic.1 hC).1
  have e74 : fm_uI N1.1 63 31 (nI 0) 74 u = fz_b (fg_F A u) := by simp [fm_uI]; exact (a2.1 u hu).1
  have K2 : Ki (fz_b (fg_F A u)) (fm_uI N1.1 63 31 (nI 0), N1.2) := kk _ ((fj_n.F a1 (by intro c hc; simp at hc ⊢; omega) rfl rfl).tr (fj_n.th _ _)) (by simp [fm_uI])
  refine sp_65y (n := fg_n (fk_gG R)) a25 h12 hu ⟨fun _ => ⟨fz_in (by omega) (by omega), ?_⟩, fun z => absurd rfl z⟩
  rw [fz_t (by omega : u < 2147483648)]
  cases hF : fg_F A u
  · rw [hF] at e74 K2
    exact ⟨fun _ => ⟨Or.inl rfl, rfl, K2⟩, fun y => absurd e74 y⟩
  · rw [hF] at e74 K2
    exact ⟨fun y => absurd (e74.symm.trans y) fj_n1, fun _ => ⟨Or.inr rfl, rfl, K2⟩⟩
theorem sp_91n (ic : fk_ic R A o fc M) (hC : fn_cp R N M) (hx : ¬ fj_in x (fg_n (fk_gG R))) (kk : ∀ N', fj_n N N' → N'.1 63 31 = nI 1 → Ki (nI 0) N') : fm_Ci (fm_PP X) 91 [.inl (.ref 63), .inl (.int x)] (N, fm_SH) Ki X' := by
  refine fe_91 X _ N Ki X' (sp_80 (fn_G.of ic.1 hC) ic.2.2.1 (fun N1 a1 a2 => ?_))
  have a25 : N1.1 63 25 = nI (fg_n (fk_gG R)) := by rw [a1.1 63 rfl]; exact (fn_G.of ic.1 hC).1
  exact sp_65n (n := fg_n (fk_gG R)) a25 ic.1.2.2.1 ic.1.2.2.2.2.1.1 hx ⟨fun z => absurd z fj_n1, fun _ => ⟨Or.inl rfl, rfl, kk _ ((fj_n.F a1 (by intro c hc; simp at hc ⊢; omega) rfl rfl).tr (fj_n.th _ _)) (by simp [fm_uI])⟩⟩
theorem sp_100y (ic : fk_ic R A o fc M) (hC : fn_cp R N M) (hu : u < fg_n (fk_gG R)) (kk : ∀ N', fj_n N N' → N'.1 63 31 = nI 0 → Ki (fz_b (M.testBit u && fg_F A u)) N') : fm_Ci (fm_PP X) 100 [.inl (.ref 63), .inl (.int (nI u))] (N, fm_SH) Ki X' := by
  have h12 := ic.1.2.2.1
  refine fe_100 X _ N Ki X' (sp_83 ic hC (fun N1 a1 a2 a3 a4 a5 => ?_))
  have a25 : N1.1 63 25 = nI (fg_n (fk_gG R)) := by rw [a1.1 63 rfl]; exact (fn_G.of ic.1 hC).1
  have e73 : fm_uI N1.1 63 31 (nI 0) 73 u = fz_b (M.testBit u && fg_F A u) := by simp [fm_uI]; exact a3 u hu
  have K2 : Ki (fz_b (M.testBit u && fg_F A u)) (fm_uI N1.1 63 31 (nI 0), N1.2) := kk _ ((fj_n.F a1 (by intro c hc; simp at hc ⊢; omega) rfl rfl).tr (fj_n.th _ _)) (by simp [fm_uI])
  refine sp_65y (n := fg_n (fk_gG R)) a25 h12 hu ⟨fun _ => ⟨fz_in (by omega) (by omega), ?_⟩, fun z => absurd rfl z⟩
  rw [fz_t (by omega : u < 2147483648)]
  cases hF : M.testBit u && fg_F A u
  · rw [hF] at e73 K2
    exact ⟨fun _ => ⟨Or.inl rfl, rfl, K2⟩, fun y => absurd e73 y⟩
  · rw [hF] at e73 K2
    exact ⟨fun y => absurd (e73.symm.trans y) fj_n1, fun _ => ⟨Or.inr rfl, rfl, K2⟩⟩
theorem sp_100n (ic : fk_ic R A o fc M) (hC : fn_cp R N M) (hx : ¬ fj_in x (fg_n (fk_gG R))) (kk : ∀ N', fj_n N N' → N'.1 63 31 = nI 1 → Ki (nI 0) N') : fm_Ci (fm_PP X) 100 [.inl (.ref 63), .inl (.int x)] (N, fm_SH) Ki X' := by
  refine fe_100 X _ N Ki X' (sp_83 ic hC (fun N1 a1 a2 a3 a4 a5 => ?_))
  have a25 : N1.1 63 25 = nI (fg_n (fk_gG R)) := by rw [a1.1 63 rfl]; exact (fn_G.of ic.1 hC).1
  exact sp_65n (n := fg_n (fk_gG R)) a25 ic.1.2.2.1 ic.1.2.2.2.2.1.1 hx ⟨fun z => absurd z fj_n1, fun _ => ⟨Or.inl rfl, rfl, kk _ ((fj_n.F a1 (by intro c hc; simp at hc ⊢; omega) rfl rfl).tr (fj_n.th _ _)) (by simp [fm_uI])⟩⟩
theorem sp_106y {n : Nat} (h25 : N.1 63 25 = nI n) (h12 : n ≤ 12) (hu : u < n) (h0 : u ≠ 0) (k : Ki (nI 0) (fm_uI (fm_uI N.1 63 31 (nI 0)) 63 31 (nI 0), N.2)) : fm_Ci (fm_PP X) 106 [.inl (.ref 63), .inl (.int (nI u))] (N, fm_SH) Ki X' :=
  fe_106 X _ N Ki X' (sp_65y (n := n) h25 h12 hu ⟨fun _ => ⟨fun z => absurd ((nI_eq (by omega) (by omega)).mp z) h0, fun _ => sp_64n ⟨fun _ => ⟨Or.inl rfl, rfl, k⟩, fun z => absurd rfl z⟩⟩, fun z => absurd rfl z⟩)
theorem sp_106z {n : Nat} (h25 : N.1 63 25 = nI n) (h12 : n ≤ 12) (h1 : 1 ≤ n) (k : Ki (nI 1) (fm_uI (fm_uI N.1 63 31 (nI 0)) 63 31 (nI 2), N.2)) : fm_Ci (fm_PP X) 106 [.inl (.ref 63), .inl (.int (nI 0))] (N, fm_SH) Ki X' :=
  fe_106 X _ N Ki X' (sp_65y (n := n) h25 h12 h1 ⟨fun _ => ⟨fun _ => sp_64y ⟨fun z => absurd z fj_n1, fun _ => ⟨Or.inr rfl, rfl, k⟩⟩, fun z => absurd rfl z⟩, fun z => absurd rfl z⟩)
theorem sp_106n {n : Nat} (h25 : N.1 63 25 = nI n) (h12 : n ≤ 12) (h1 : 1 ≤ n) (hx : ¬ fj_in x n) (k : Ki (nI 1) (fm_uI N.1 63 31 (nI 1), N.2)) : fm_Ci (fm_PP X) 106 [.inl (.ref 63), .inl (.int x)] (N, fm_SH) Ki X' :=
  fe_106 X _ N Ki X' (sp_65n (n := n) h25 h12 h1 hx ⟨fun z => absurd z fj_n1, fun _ => ⟨Or.inr rfl, rfl, k⟩⟩)
theorem fj_or (b : Bool) : fz_b b = nI 0 ∨ fz_b b = nI 1 := by
  cases b
  · exact Or.inl rfl
  · exact Or.inr rfl
theorem sp_43 (h12 : u < 12) (hF : N.1 12 u = fz_b (fg_F A u)) (h4 : N.1 20 4 = nI M) (hM : M < 4096) (k : Ki (fz_b (fg_F A u && M.testBit u)) N) : fm_Ci (fm_PP X) 43 [.inl (.ref 0), .inl (.int (nI u))] (N, fm_SH) Ki X' := by
  refine fe_43 X _ N Ki X' ⟨fz_in h12 (by omega), ?_⟩
  rw [fz_t (by omega : u < 2147483648), hF, h4]
  cases hF : fg_F A u
  · rw [hF] at k
    exact ⟨fun _ => ⟨Or.inl rfl, rfl, k⟩, fun z => absurd rfl z⟩
  · rw [hF, Bool.true_and] at k
    refine ⟨fun z => absurd z fj_n1, fun _ => sp_59 hM h12 ?_⟩
    cases hb : M.testBit u
    · rw [hb] at k
      exact ⟨fun _ => ⟨Or.inl rfl, rfl, k⟩, fun z => absurd rfl z⟩
    · rw [hb] at k
      exact ⟨fun z => absurd z fj_n1, fun _ => ⟨Or.inr rfl, rfl, k⟩⟩
theorem sp_16y {n : Nat} {b : Bool} (hn : N.1 3 8 = nI n) (h12 : n ≤ 12) (hu : u < n) (c12 : N.1 12 u = fz_b b) (k : Ki (fz_b b) N) : fm_Ci (fm_PP X) 16 [.inl (.ref 0), .inl (.int (nI u))] (N, fm_SH) Ki X' := by
  refine fe_16 X _ N Ki X' (sp_37y hn h12 hu ?_)
  rw [fz_t (by omega : u < 2147483648), c12]
  exact ⟨fz_in (by omega) (by omega), fj_or b, rfl, k⟩
theorem sp_30y {n : Nat} {b : Bool} (hn : N.1 3 8 = nI n) (h12 : n ≤ 12) (hu : u < n) (h0 : u ≠ 0) (c8 : N.1 8 u = fz_b b) (k : Ki (fz_b b) N) : fm_Ci (fm_PP X) 30 [.inl (.ref 0), .inl (.int (nI u))] (N, fm_SH) Ki X' := by
  refine fe_30 X _ N Ki X' (sp_37y hn h12 hu (sp_42y (by omega) h0 ?_))
  rw [fz_t (by omega : u < 2147483648), c8]
  exact ⟨fz_in (by omega) (by omega), fj_or b, rfl, k⟩
theorem fj_cmp (a : Int64) : lg_cmp a a = nI 0 := by
  unfold lg_cmp
  simp
  rfl
theorem lw_1005 (hI : fj_I N A o fc M) (H : fj_H X x5 (N.2.2.2 + 1) Q) : fm_Ev (fm_PP X) 0 (1005, [some (.inl (.ref 999999)), some (.inl (.ref 0)), some (.inl (.ref 63)), some (.inl (.ref 89)), some (.inl (.ref 90)), some (.inl (.int x5)), o6, o7, o8, o9], [], (N, fm_SH)) Q :=
  fb_0_1005 X _ _ _ _ _ N Q (fe_15 X N _ _ ⟨rfl, fe_90 X _ _ _ ⟨rfl, fj_endv hI.2.1.1.1.symm (H _ _ _ _ _ _ _ _ _ ((fj_q.th N _).I hI) (Nat.le_succ _))⟩⟩)
theorem lw_1776 (hI : fj_I N A o fc M) (H : fj_H X x5 (N.2.2.2 + 1) Q) : fm_Ev (fm_PP X) 0 (1776, [some (.inl (.ref 999999)), some (.inl (.ref 0)), some (.inl (.ref 63)), some (.inl (.ref 89)), some (.inl (.ref 90)), some (.inl (.int x5)), o6, o7, o8, o9], [], (N, fm_SH)) Q :=
  fb_0_1776 X _ _ _ _ _ N Q (fe_31 X N _ _ ⟨rfl, fe_109 X _ _ _ ⟨rfl, fj_endv hI.2.1.1.2.2.2.2.1.symm (H _ _ _ _ _ _ _ _ _ ((fj_q.th N _).I hI) (Nat.le_succ _))⟩⟩)
theorem lw_1789 (hI : fj_I N A o fc M) (H : fj_H X x5 (N.2.2.2 + 1) Q) : fm_Ev (fm_PP X) 0 (1789, [some (.inl (.ref 999999)), some (.inl (.ref 0)), some (.inl (.ref 63)), some (.inl (.ref 89)), some (.inl (.ref 90)), some (.inl (.int x5)), o6, o7, o8, o9], [], (N, fm_SH)) Q :=
  fb_0_1789 X _ _ _ _ _ N Q (fe_32 X N _ _ ⟨rfl, fe_110 X _ _ _ ⟨rfl, fun _ => H _ _ _ _ _ _ _ _ _ ((fj_q.th N _).I hI) (Nat.le_succ _), fun z => absurd (by rw [hI.2.1.1.2.2.2.2.2]; exact fj_cmp _) z⟩⟩)
theorem lw_1018 (hI : fj_I N A o fc M) (h1 : fm_inb (x5 + nI 1) X.1) (H : fj_H X x5 (N.2.2.2 + 1) Q) : fm_Ev (fm_PP X) 0 (1018, [some (.inl (.ref 999999)), some (.inl (.ref 0)), some (.inl (.ref 63)), some (.inl (.ref 89)), some (.inl (.ref 90)), some (.inl (.int x5)), o6, o7, o8, o9], [], (N, fm_SH)) Q := by
  obtain ⟨⟨c25, c26, c27, c28, c29, c32⟩, ⟨c64, c65, c66, c67, c68, c69, c70⟩, c71, c72, ⟨c78, c79, c80⟩, cR⟩ := hI.2.1
  have hG := hI.1.1
  have hn := hG.1
  have h12 := hG.2.2.1
  have n1 := hG.2.2.2.2.1.1
  have h25 := c25.trans hn
  refine fb_0_1018 X _ _ _ _ _ N Q ?_
  refine ⟨h1, ?_⟩
  generalize X.2 (x5 + nI 1).toNatClampNeg = x
  by_cases hx : fj_in x (fg_n (fk_gG N))
  · obtain ⟨u, hu, rfl⟩ := hx
    have hu12 : u < 12 := by omega
    have ub := fz_in hu12 (by omega)
    have ut := fz_t (n := u) (by omega)
    have c12 := ((hI.1.2.1.1 u hu12).1)
    refine fe_154 X _ N _ _ (sp_16y hn h12 hu c12 ?_)
    cases hF : fg_F A u
    · refine ⟨fun _ => ⟨fz_in (by omega) (by omega), rfl, h1, ?_⟩, fun z => absurd rfl z⟩
      have q1 : fj_q 0 N (N.1, fm_uI N.2.1 89 ((nI 0).toNatClampNeg) (Int64.ofNat 0), N.2.2) := fj_q.lo _ _
      refine sp_91y (q1.ic hI.1) (q1.cp q1 hI.2.1) (by rw [q1.gG]; exact hu) (fun N2 b1 b2 => sp_62 (fj_endb (b := fg_F A u) b2 (H _ _ _ _ _ _ _ _ _ ((q1.tr b1.1).I hI) ?_) (fun _ => ⟨rfl, ?_⟩)))
      · rw [b1.2]; exact Nat.le_succ _
      · rw [b1.2, hF]
        dsimp only
        rw [fj_t0, fz_at, if_pos rfl]; rfl
    · refine ⟨fun z => absurd z fj_n1, fun _ => ⟨fz_in (by omega) (by omega), rfl, h1, ?_⟩⟩
      have q1 : fj_q 0 N (N.1, fm_uI N.2.1 89 ((nI 0).toNatClampNeg) (Int64.ofNat 1), N.2.2) := fj_q.lo _ _
      refine sp_91y (q1.ic hI.1) (q1.cp q1 hI.2.1) (by rw [q1.gG]; exact hu) (fun N2 b1 b2 => sp_62 (fj_endb (b := fg_F A u) b2 (H _ _ _ _ _ _ _ _ _ ((q1.tr b1.1).I hI) ?_) (fun _ => ⟨rfl, ?_⟩)))
      · rw [b1.2]; exact Nat.le_succ _
      · rw [b1.2, hF]
        dsimp only
        rw [fj_t0, fz_at, if_pos rfl]; rfl
  · refine fe_154 X _ N _ _ (fe_16 X _ N _ _ (sp_37n hn h12 hx ⟨rfl, ⟨fun _ => ⟨rfl, h1, ?_⟩, fun z => absurd rfl z⟩⟩))
    refine sp_91n ((fj_q.gc N).ic hI.1) ((fj_q.gc N).cp (fj_q.gc N) hI.2.1) hx (fun N2 b1 b2 => sp_62 (fj_endb (b := false) b2 (H _ _ _ _ _ _ _ _ _ (((fj_q.gc N).tr b1.1).I hI) ?_) (fun z => absurd z fj_n1)))
    rw [b1.2]; exact Nat.le_refl _
theorem lw_1394 (hI : fj_I N A o fc M) (h1 : fm_inb (x5 + nI 1) X.1) (H : fj_H X x5 (N.2.2.2 + 1) Q) : fm_Ev (fm_PP X) 0 (1394, [some (.inl (.ref 999999)), some (.inl (.ref 0)), some (.inl (.ref 63)), some (.inl (.ref 89)), some (.inl (.ref 90)), some (.inl (.int x5)), o6, o7, o8, o9], [], (N, fm_SH)) Q := by
  obtain ⟨⟨c25, c26, c27, c28, c29, c32⟩, ⟨c64, c65, c66, c67, c68, c69, c70⟩, c71, c72, ⟨c78, c79, c80⟩, cR⟩ := hI.2.1
  have hG := hI.1.1
  have hn := hG.1
  have h12 := hG.2.2.1
  have n1 := hG.2.2.2.2.1.1
  have h25 := c25.trans hn
  refine fb_0_1394 X _ _ _ _ _ N Q ?_
  refine ⟨h1, ?_⟩
  generalize X.2 (x5 + nI 1).toNatClampNeg = x
  by_cases hx : fj_in x (fg_n (fk_gG N))
  · obtain ⟨u, hu, rfl⟩ := hx
    have hu12 : u < 12 := by omega
    have ub := fz_in hu12 (by omega)
    have ut := fz_t (n := u) (by omega)
    have c12 := ((hI.1.2.1.1 u hu12).1)
    refine fe_160 X _ N _ _ (fe_24 X _ N _ _ (sp_37y hn h12 hu (sp_43 (A := A) (M := M) hu12 c12 hI.1.2.2.2.2.2.1 hI.1.2.2.2.2.2.2.1 ⟨fj_or _, rfl, ?_⟩)))
    cases hF : fg_F A u && M.testBit u
    · refine ⟨fun _ => ⟨fz_in (by omega) (by omega), rfl, h1, ?_⟩, fun z => absurd rfl z⟩
      have q1 : fj_q 0 N (N.1, fm_uI N.2.1 89 ((nI 0).toNatClampNeg) (Int64.ofNat 0), N.2.2) := fj_q.lo _ _
      refine sp_100y (q1.ic hI.1) (q1.cp q1 hI.2.1) (by rw [q1.gG]; exact hu) (fun N2 b1 b2 => sp_62 (fj_endb (b := (M.testBit u && fg_F A u)) b2 (H _ _ _ _ _ _ _ _ _ ((q1.tr b1.1).I hI) ?_) (fun _ => ⟨rfl, ?_⟩)))
      · rw [b1.2]; exact Nat.le_succ _
      · rw [b1.2, Bool.and_comm, hF]
        dsimp only
        rw [fj_t0, fz_at, if_pos rfl]; rfl
    · refine ⟨fun z => absurd z fj_n1, fun _ => ⟨fz_in (by omega) (by omega), rfl, h1, ?_⟩⟩
      have q1 : fj_q 0 N (N.1, fm_uI N.2.1 89 ((nI 0).toNatClampNeg) (Int64.ofNat 1), N.2.2) := fj_q.lo _ _
      refine sp_100y (q1.ic hI.1) (q1.cp q1 hI.2.1) (by rw [q1.gG]; exact hu) (fun N2 b1 b2 => sp_62 (fj_endb (b := (M.testBit u && fg_F A u)) b2 (H _ _ _ _ _ _ _ _ _ ((q1.tr b1.1).I hI) ?_) (fun _ => ⟨rfl, ?_⟩)))
      · rw [b1.2]; exact Nat.le_succ _
      · rw [b1.2, Bool.and_comm, hF]
        dsimp only
        rw [fj_t0, fz_at, if_pos rfl]; rfl
  · refine fe_160 X _ N _ _ (fe_24 X _ N _ _ (sp_37n hn h12 hx ⟨rfl, ⟨fun _ => ⟨rfl, h1, ?_⟩, fun z => absurd rfl z⟩⟩))
    refine sp_100n ((fj_q.gc N).ic hI.1) ((fj_q.gc N).cp (fj_q.gc N) hI.2.1) hx (fun N2 b1 b2 => sp_62 (fj_endb (b := false) b2 (H _ _ _ _ _ _ _ _ _ (((fj_q.gc N).tr b1.1).I hI) ?_) (fun z => absurd z fj_n1)))
    rw [b1.2]; exact Nat.le_refl _
theorem lw_1457 (hI : fj_I N A o fc M) (h1 : fm_inb (x5 + nI 1) X.1) (H : fj_H X x5 (N.2.2.2 + 1) Q) : fm_Ev (fm_PP X) 0 (1457, [some (.inl (.ref 999999)), some (.inl (.ref 0)), some (.inl (.ref 63)), some (.inl (.ref 89)), some (.inl (.ref 90)), some (.inl (.int x5)), o6, o7, o8, o9], [], (N, fm_SH)) Q := by
  obtain ⟨⟨c25, c26, c27, c28, c29, c32⟩, ⟨c64, c65, c66, c67, c68, c69, c70⟩, c71, c72, ⟨c78, c79, c80⟩, cR⟩ := hI.2.1
  have hG := hI.1.1
  have hn := hG.1
  have h12 := hG.2.2.1
  have n1 := hG.2.2.2.2.1.1
  have h25 := c25.trans hn
  refine fb_0_1457 X _ _ _ _ _ N Q ?_
  refine ⟨h1, ?_⟩
  generalize X.2 (x5 + nI 1).toNatClampNeg = x
  by_cases hx : fj_in x (fg_n (fk_gG N))
  · obtain ⟨u, hu, rfl⟩ := hx
    have hu12 : u < 12 := by omega
    have ub := fz_in hu12 (by omega)
    have ut := fz_t (n := u) (by omega)
    have c12 := ((hI.1.2.1.1 u hu12).1)
    refine fe_161 X _ N _ _ (fe_25 X _ N _ _ (sp_37y hn h12 hu ⟨ub, rfl, fz_in (by omega) (by omega), rfl, h1, ?_⟩))
    refine fe_101 X _ _ _ _ (sp_65y (n := fg_n (fk_gG N)) h25 h12 hu ⟨fun _ => ⟨ub, rfl, sp_62 (fj_end ?_ (H _ _ _ _ _ _ _ _ _ (((fj_q.lo N _).tr (fj_q.th _ _)).I hI) ?_) (fun _ => ?_))⟩, fun z => absurd rfl z⟩)
    · simp [fm_uI]
    · simp
    · simp [fm_uI, fj_t0, c69]
  · refine fe_161 X _ N _ _ (fe_25 X _ N _ _ (sp_37n hn h12 hx ⟨rfl, ⟨fun _ => ⟨rfl, h1, ?_⟩, fun z => absurd rfl z⟩⟩))
    refine fe_101 X _ _ _ _ (sp_65n (n := fg_n (fk_gG N)) h25 h12 n1 hx ⟨fun z => absurd z fj_n1, fun _ => ⟨rfl, sp_62 (fj_end ?_ (H _ _ _ _ _ _ _ _ _ (((fj_q.gc N).tr (fj_q.th _ _)).I hI) ?_) (fun z => absurd z fj_n1))⟩⟩)
    · simp [fm_uI]
    · simp
theorem lw_1657 (hI : fj_I N A o fc M) (h1 : fm_inb (x5 + nI 1) X.1) (H : fj_H X x5 (N.2.2.2 + 1) Q) : fm_Ev (fm_PP X) 0 (1657, [some (.inl (.ref 999999)), some (.inl (.ref 0)), some (.inl (.ref 63)), some (.inl (.ref 89)), some (.inl (.ref 90)), some (.inl (.int x5)), o6, o7, o8, o9], [], (N, fm_SH)) Q := by
  obtain ⟨⟨c25, c26, c27, c28, c29, c32⟩, ⟨c64, c65, c66, c67, c68, c69, c70⟩, c71, c72, ⟨c78, c79, c80⟩, cR⟩ := hI.2.1
  have hG := hI.1.1
  have hn := hG.1
  have h12 := hG.2.2.1
  have n1 := hG.2.2.2.2.1.1
  have h25 := c25.trans hn
  refine fb_0_1657 X _ _ _ _ _ N Q ?_
  refine ⟨h1, ?_⟩
  generalize X.2 (x5 + nI 1).toNatClampNeg = x
  by_cases hx : fj_in x (fg_n (fk_gG N))
  · obtain ⟨u, hu, rfl⟩ := hx
    have hu12 : u < 12 := by omega
    have ub := fz_in hu12 (by omega)
    have ut := fz_t (n := u) (by omega)
    have c12 := ((hI.1.2.1.1 u hu12).1)
    by_cases h0 : u = 0
    · subst h0
      refine fe_165 X _ N _ _ (fe_29 X _ N _ _ (sp_37y hn h12 hu (sp_42n ⟨rfl, ⟨fun z => absurd z (by decide), fun _ => ⟨fun _ => ⟨rfl, h1, ?_⟩, fun z => absurd rfl z⟩⟩⟩)))
      refine fe_107 X _ _ _ _ (sp_106z (n := fg_n (fk_gG N)) h25 h12 n1 ⟨fun z => absurd z fj_n1, fun _ => ⟨rfl, sp_62 (fj_end ?_ (H _ _ _ _ _ _ _ _ _ (((fj_q.gc N).tr ((fj_q.th _ _).tr (fj_q.th _ _))).I hI) ?_) (fun z => absurd z (by decide)))⟩⟩)
      · simp [fm_uI]
      · simp
    · refine fe_165 X _ N _ _ (fe_29 X _ N _ _ (sp_37y hn h12 hu (sp_42y hu12 h0 ⟨ub, rfl, fz_in (by omega) (by omega), rfl, h1, ?_⟩)))
      refine fe_107 X _ _ _ _ (sp_106y (n := fg_n (fk_gG N)) h25 h12 hu h0 ⟨fun _ => ⟨ub, rfl, sp_62 (fj_end ?_ (H _ _ _ _ _ _ _ _ _ (((fj_q.lo N _).tr ((fj_q.th _ _).tr (fj_q.th _ _))).I hI) ?_) (fun _ => ?_))⟩, fun z => absurd rfl z⟩)
      · simp [fm_uI]
      · simp
      · simp [fm_uI, fj_t0, c70]
  · refine fe_165 X _ N _ _ (fe_29 X _ N _ _ (sp_37n hn h12 hx ⟨rfl, ⟨fun _ => ⟨rfl, h1, ?_⟩, fun z => absurd rfl z⟩⟩))
    refine fe_107 X _ _ _ _ (sp_106n (n := fg_n (fk_gG N)) h25 h12 n1 hx ⟨fun z => absurd z fj_n1, fun _ => ⟨rfl, sp_62 (fj_end ?_ (H _ _ _ _ _ _ _ _ _ (((fj_q.gc N).tr (fj_q.th _ _)).I hI) ?_) (fun z => absurd z fj_n1))⟩⟩)
    · simp [fm_uI]
    · simp
theorem lw_1713 (hI : fj_I N A o fc M) (h1 : fm_inb (x5 + nI 1) X.1) (H : fj_H X x5 (N.2.2.2 + 1) Q) : fm_Ev (fm_PP X) 0 (1713, [some (.inl (.ref 999999)), some (.inl (.ref 0)), some (.inl (.ref 63)), some (.inl (.ref 89)), some (.inl (.ref 90)), some (.inl (.int x5)), o6, o7, o8, o9], [], (N, fm_SH)) Q := by
  obtain ⟨⟨c25, c26, c27, c28, c29, c32⟩, ⟨c64, c65, c66, c67, c68, c69, c70⟩, c71, c72, ⟨c78, c79, c80⟩, cR⟩ := hI.2.1
  have hG := hI.1.1
  have hn := hG.1
  have h12 := hG.2.2.1
  have n1 := hG.2.2.2.2.1.1
  have h25 := c25.trans hn
  refine fb_0_1713 X _ _ _ _ _ N Q ?_
  refine ⟨h1, ?_⟩
  generalize X.2 (x5 + nI 1).toNatClampNeg = x
  by_cases hx : fj_in x (fg_n (fk_gG N))
  · obtain ⟨u, hu, rfl⟩ := hx
    have hu12 : u < 12 := by omega
    have ub := fz_in hu12 (by omega)
    have ut := fz_t (n := u) (by omega)
    have c12 := ((hI.1.2.1.1 u hu12).1)
    have c8 := (hG.2.2.2.2.2.1 u hu12).2.1
    by_cases h0 : u = 0
    · subst h0
      refine fe_166 X _ N _ _ (fe_30 X _ N _ _ (sp_37y hn h12 hu (sp_42n ⟨rfl, ⟨fun z => absurd z (by decide), fun _ => ⟨fun _ => ⟨rfl, h1, ?_⟩, fun z => absurd rfl z⟩⟩⟩)))
      refine fe_108 X _ _ _ _ (sp_106z (n := fg_n (fk_gG N)) h25 h12 n1 ⟨fun z => absurd z fj_n1, fun _ => ⟨Or.inl rfl, rfl, sp_62 (fj_endb (b := false) ?_ (H _ _ _ _ _ _ _ _ _ (((fj_q.gc N).tr ((fj_q.th _ _).tr (fj_q.th _ _))).I hI) ?_) (fun z => absurd z (by decide)))⟩⟩)
      · simp [fm_uI]
      · simp
    · refine fe_166 X _ N _ _ (sp_30y hn h12 hu h0 c8 ?_)
      have e71 : ∀ p : (Nat → Nat → Int64) × (Nat → Nat → UInt64) × Nat, fm_uI (fm_uI N.1 63 31 (nI 0)) 63 31 (nI 0) 71 (nI u).toNatClampNeg = fz_b (!fg_w (fk_gG N) u) := fun _ => by
        rw [ut]
        simp [fm_uI, c71 u hu12]
        exact c8
      cases hF : !fg_w (fk_gG N) u
      · rw [hF] at e71
        refine ⟨fun _ => ⟨fz_in (by omega) (by omega), rfl, h1, ?_⟩, fun z => absurd rfl z⟩
        refine fe_108 X _ _ _ _ (sp_106y (n := fg_n (fk_gG N)) h25 h12 hu h0 ⟨fun _ => ⟨ub, fun _ => ⟨Or.inl rfl, rfl, sp_62 (fj_endb (b := false) ?_ (H _ _ _ _ _ _ _ _ _ (((fj_q.lo N _).tr ((fj_q.th _ _).tr (fj_q.th _ _))).I hI) ?_) (fun _ => ⟨rfl, ?_⟩))⟩, fun z => absurd (e71 N.2) z⟩, fun z => absurd rfl z⟩)
        · simp [fm_uI]
        · simp
        · simp [fm_uI, fj_t0]
      · rw [hF] at e71
        refine ⟨fun z => absurd z fj_n1, fun _ => ⟨fz_in (by omega) (by omega), rfl, h1, ?_⟩⟩
        refine fe_108 X _ _ _ _ (sp_106y (n := fg_n (fk_gG N)) h25 h12 hu h0 ⟨fun _ => ⟨ub, fun z => absurd ((e71 N.2).symm.trans z) fj_n1, fun _ => ⟨Or.inr rfl, rfl, sp_62 (fj_endb (b := true) ?_ (H _ _ _ _ _ _ _ _ _ (((fj_q.lo N _).tr ((fj_q.th _ _).tr (fj_q.th _ _))).I hI) ?_) (fun _ => ⟨rfl, ?_⟩))⟩⟩, fun z => absurd rfl z⟩)
        · simp [fm_uI]
        · simp
        · simp [fm_uI, fj_t0]
  · refine fe_166 X _ N _ _ (fe_30 X _ N _ _ (sp_37n hn h12 hx ⟨rfl, ⟨fun _ => ⟨rfl, h1, ?_⟩, fun z => absurd rfl z⟩⟩))
    refine fe_108 X _ _ _ _ (sp_106n (n := fg_n (fk_gG N)) h25 h12 n1 hx ⟨fun z => absurd z fj_n1, fun _ => ⟨Or.inl rfl, rfl, sp_62 (fj_endb (b := false) ?_ (H _ _ _ _ _ _ _ _ _ (((fj_q.gc N).tr (fj_q.th _ _)).I hI) ?_) (fun z => absurd z fj_n1))⟩⟩)
    · simp [fm_uI]
    · simp
end FJD
