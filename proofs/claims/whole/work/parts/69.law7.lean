/-! the law: minute, pass -/
section FJQ
variable {X : Nat × (Nat → Int32)} {x5 : Int32} {o6 o7 o8 o9 : Option fm_V} {N : fm_N} {Q : fm_O → fm_M → Prop} {A : fg_A} {o : Nat → Nat} {fc M : Nat}
theorem fj_m2 {N1 N2 : fm_N} (hI : fj_I N A o fc M) (h : fx_M fk_mc 0 10 N N1) (e : ∀ c, 63 < c → N2.1 c = N1.1 c) (e63 : ∀ i, i ≠ 30 → i ≠ 31 → N2.1 63 i = N1.1 63 i) (l : N2.2.1 63 32 = N1.2.1 63 32) : fn_cp N N2 M :=
  hI.2.1.m2 (fun c hc => (e c hc).trans (h.1 c (by simp; omega))) (fun i a b => (e63 i a b).trans (by rw [h.1 63 rfl])) (l.trans (h.2.1 63 32 (by decide)))
theorem lw_880 (hI : fj_I N A o fc M) (H : fj_H X x5 (N.2.2.2 + 1) Q) : fm_Ev (fm_PP X) 0 (880, [some (.inl (.ref 999999)), some (.inl (.ref 0)), some (.inl (.ref 63)), some (.inl (.ref 89)), some (.inl (.ref 90)), some (.inl (.int x5)), o6, o7, o8, o9], [], (N, fm_SH)) Q := by
  refine fb_0_880 X _ _ _ _ _ N Q (fe_12 X N _ _ (sp_48 hI.1 (fun N1 A1 o1 fc1 M1 b1 b2 b3 => ?_)))
  refine sp_128 b1.2.1 (fun Mf m1 m2 => ?_)
  have e : N1.1 20 4 &&& nI Mf = nI M1 := by
    rw [b1.2.2.2.2.2.1, fb_and]
    have e1 : M1 &&& Mf = M1 := Nat.eq_of_testBit_eq fun i => by
      rw [Nat.testBit_and, m2]
      cases h : M1.testBit i
      · rfl
      · rw [(b3 i h).1]; rfl
    rw [e1]
  rw [e]
  refine sp_168 b1.2.2.2.2.2.2.1 ⟨rfl, ?_⟩
  have h8 : ∀ i, i < 12 → N1.1 8 i = fz_b (decide (nI 100 ≤ N1.1 7 i)) := fun i hi => by
    rw [(b1.1.2.2.2.2.2.1 i hi).2.1]
    show fz_b (!!decide (nI 100 ≤ N1.1 7 i)) = _
    rw [Bool.not_not]
  have hC : fn_cp N (fm_uI N1.1 63 31 (nI 0), N1.2) M := fj_m2 hI b2.1 (fun c hc => fz_ne _ _ (by omega)) (fun i _ z => by simp [fm_uI, z]) rfl
  refine fe_86 X _ _ _ (sp_85 hI.1 hI.2.2 (fun i hi => (b3 i hi).2) b2 h8 hC (fun N2 c1 c2 c3 c4 => ⟨rfl, fj_endv rfl (H _ _ _ _ _ _ _ _ _ (fj_ps ((fx_M.ofF ((fx_F.rf [63] N1).up rfl) (by intro c hc; simp at hc ⊢; omega)).tr c1) b1 c2 (fun i hi => by rw [b2.n]; exact (b3 i hi).2)) ?_)⟩))
  rw [c1.2.2]
  dsimp only
  rw [b2.1.2.2]
  exact Nat.le_succ _
theorem lw_893 (hI : fj_I N A o fc M) (h1 : fm_inb (x5 + nI 1) X.1) (H : fj_H X x5 (N.2.2.2 + 1) Q) : fm_Ev (fm_PP X) 0 (893, [some (.inl (.ref 999999)), some (.inl (.ref 0)), some (.inl (.ref 63)), some (.inl (.ref 89)), some (.inl (.ref 90)), some (.inl (.int x5)), o6, o7, o8, o9], [], (N, fm_SH)) Q := by
  obtain ⟨⟨c25, c26, c27, c28, c29, c32⟩, ⟨c64, c65, c66, c67, c68, c69, c70⟩, c71, c72, ⟨c78, c79, c80⟩, cR⟩ := hI.2.1
  have hG := hI.1.1
  have hn := hG.1
  have h12 := hG.2.2.1
  have n1 := hG.2.2.2.2.1.1
  have h25 := c25.trans hn
  refine fb_0_893 X _ _ _ _ _ N Q ?_
  refine ⟨h1, ?_⟩
  generalize X.2 (x5 + nI 1).toNatClampNeg = x
  by_cases hr : fj_rg x 1 100
  · obtain ⟨mm, hm, rfl⟩ : ∃ mm, mm ≤ 100 ∧ x = nI mm := by
      have h0 : ¬ x < nI 0 := fun z => hr.1 (by
        rw [fz_ltI, fz_nI (by omega)] at z ⊢
        omega)
      obtain ⟨e, hx⟩ := fj_nat h0
      have h2 := hr.2
      rw [e, fz_le hx (by omega)] at h2
      exact ⟨_, h2, e⟩
    refine fe_152 X _ N _ _ (fe_13 X _ N _ _ (sp_38y hr (lp_13 hm mm 0 (nI 0) N A o fc M rfl hI.1 (fun N1 A1 o1 fc1 M1 b c1 c2 => ⟨rfl, fz_in (by omega) (by omega), rfl, h1, ?_⟩))))
    obtain ⟨f1, f2, f3⟩ := fk_mh_fr _ _ _ _ _ _ _ _ _ _ _ _ c2 hI.2.2
    have q1 : fj_q 0 N1 (N1.1, fm_uI N1.2.1 89 ((nI 0).toNatClampNeg) (nI 0 + b).toInt64, N1.2.2) := fj_q.lo _ _
    have hC : fn_cp N (fm_uI (fm_uI N1.1 63 31 (nI 0)) 63 30 (nI 0), (N1.1, fm_uI N1.2.1 89 ((nI 0).toNatClampNeg) (nI 0 + b).toInt64, N1.2.2).2) M := fj_m2 hI f1 (fun c hc => (fz_ne _ _ (by omega)).trans (fz_ne _ _ (by omega))) (fun i y z => by simp [fm_uI, y, z]) (by simp [fm_uI])
    refine fe_87 X _ _ _ _ (sp_63y hr ⟨fun z => absurd z fj_n1, fun _ => sp_64n ⟨fun _ => lp_87 hm mm 0 (nI 0) N A o fc M _ b rfl hI.1 hI.2.2 hC c2 (fun N2 d1 d2 d3 d4 => ⟨rfl, sp_62 (fj_end ?_ (H _ _ _ _ _ _ _ _ _ (fj_ps ((fx_M.ofF (((fx_F.rf [63] _).up rfl).up rfl) (by intro c hc; simp at hc ⊢; omega)).tr d1) (q1.ic c1) (q1.cp (fj_q.rf N2) d2) (fun i hi => by rw [q1.gG]; exact f3 i hi)) ?_) (fun _ => ?_))⟩), fun z => absurd rfl z⟩⟩)
    · rw [d4]
      simp [fm_uI]
    · rw [d1.2.2]
      dsimp only
      rw [f1.2.2]
      exact Nat.le_succ _
    · rw [d1.2.1 89 0 (by decide), d3]
      simp [fm_uI, fj_t0]
  · refine fe_152 X _ N _ _ (fe_13 X _ N _ _ (sp_38n hr ⟨rfl, ⟨fun _ => ⟨rfl, h1, ?_⟩, fun z => absurd rfl z⟩⟩))
    refine fe_87 X _ _ _ _ (sp_63n hr ⟨fun _ => sp_64y ⟨fun z => absurd z fj_n1, fun _ => ⟨rfl, sp_62 (fj_end ?_ (H _ _ _ _ _ _ _ _ _ (((fj_q.gc N).tr (fj_q.th _ _)).I hI) ?_) (fun z => absurd z fj_n1))⟩⟩, fun z => absurd rfl z⟩)
    · simp [fm_uI]
    · simp
end FJQ
