/-! the law: voltageByWay, isSound -/
section FJV
variable {X : Nat × (Nat → Int32)} {x5 : Int32} {o6 o7 o8 o9 : Option fm_V} {N : fm_N} {Q : fm_O → fm_M → Prop} {A : fg_A} {o : Nat → Nat} {fc M : Nat} {X' : Nat → fm_N → Prop} {Ki : Int32 → fm_N → Prop}
theorem lw_1312 (hI : fj_I N A o fc M) (h1 : fm_inb (x5 + nI 1) X.1) (H : fj_H X x5 (N.2.2.2 + 1) Q) : fm_Ev (fm_PP X) 0 (1312, [some (.inl (.ref 999999)), some (.inl (.ref 0)), some (.inl (.ref 63)), some (.inl (.ref 89)), some (.inl (.ref 90)), some (.inl (.int x5)), o6, o7, o8, o9], [], (N, fm_SH)) Q := by
  obtain ⟨⟨c25, c26, c27, c28, c29, c32⟩, ⟨c64, c65, c66, c67, c68, c69, c70⟩, c71, c72, ⟨c78, c79, c80⟩, cR⟩ := hI.2.1
  have hG := hI.1.1
  have hn := hG.1
  have h12 := hG.2.2.1
  have n1 := hG.2.2.2.2.1.1
  have h25 := c25.trans hn
  refine fb_0_1312 X _ _ _ _ _ N Q ?_
  refine ⟨h1, ?_⟩
  generalize X.2 (x5 + nI 1).toNatClampNeg = x
  by_cases hx : fj_in x (fg_n (fk_gG N))
  · obtain ⟨u, hu, rfl⟩ := hx
    have hu12 : u < 12 := by omega
    have ub := fz_in hu12 (by omega)
    have ut := fz_t (n := u) (by omega)
    have c12 := ((hI.1.2.1.1 u hu12).1)
    have hS := hI.1.2.1
    have hA := fj_An hG hI.1.2.2.1
    by_cases hf : ((false && decide (u = 0)) = false ∧ fg_F A u = true)
    · have hs := hf.2
      refine fe_159 X _ N _ _ (fe_21 X _ N _ _ (sp_37y hn h12 hu (sp_40y hu12 (by rw [c12, hf.2]; rfl) (sp_52 hI.1 hf.2 ⟨rfl, fz_in (by omega) (by omega), rfl, h1, ?_⟩))))
      have q1 : fj_q 0 N (N.1, fm_uI N.2.1 89 ((nI 0).toNatClampNeg) (fk_vt N A o fc M.testBit u).toInt64, N.2.2) := fj_q.lo _ _
      refine fe_97 X _ _ _ _ (fe_96 X _ _ _ _ (sp_92f (b := false) (q1.ic hI.1) (q1.cp q1 hI.2.1) (by rw [q1.gG]; exact hu) hf (fun N2 b1 b2 b3 b4 => ⟨fun _ => ⟨ub, rfl, rfl, sp_62 (fj_end b2 (H _ _ _ _ _ _ _ _ _ ((q1.tr b1.1).I hI) ?_) (fun _ => ?_))⟩, fun z => absurd rfl z⟩)))
      · have e1 := q1.2.2.2.2.2
        rw [b1.2]
        exact Nat.le_trans e1 (Nat.le_succ _)
      · rw [b1.2, ut]
        dsimp only
        rw [fj_t0, fz_at, if_pos rfl]
        rw [b4]
        exact congrArg Int32.toInt64 (fk_vt_dt hS.2.2.2.2.1 (fj_dl N _) u).symm
    · refine fe_159 X _ N _ _ (fe_21 X _ N _ _ (sp_37y hn h12 hu (sp_40n hu12 ?_ ⟨rfl, ⟨fun z => absurd z (by decide), fun _ => ⟨fun _ => ⟨rfl, h1, ?_⟩, fun z => absurd rfl z⟩⟩⟩)))
      · cases hF : fg_F A u
        · rw [c12, hF]; rfl
        · exact absurd ⟨rfl, hF⟩ hf
      · refine fe_97 X _ _ _ _ (fe_96 X _ _ _ _ (sp_92u (b := false) ((fj_q.gc N).ic hI.1) ((fj_q.gc N).cp (fj_q.gc N) hI.2.1) hu hf (fun N2 b1 b2 => ⟨fun z => absurd z fj_n1, fun _ => ⟨rfl, rfl, sp_62 (fj_end b2 (H _ _ _ _ _ _ _ _ _ (((fj_q.gc N).tr b1.1).I hI) ?_) (fun z => absurd z (by decide)))⟩⟩)))
        rw [b1.2]
        exact Nat.le_refl _
  · refine fe_159 X _ N _ _ (fe_21 X _ N _ _ (sp_37n hn h12 hx ⟨rfl, ⟨fun _ => ⟨rfl, h1, ?_⟩, fun z => absurd rfl z⟩⟩))
    refine fe_97 X _ _ _ _ (fe_96 X _ _ _ _ (sp_92n (b := false) ((fj_q.gc N).ic hI.1) ((fj_q.gc N).cp (fj_q.gc N) hI.2.1) hx (fun N2 b1 b2 => ⟨fun z => absurd z fj_n1, fun _ => ⟨rfl, rfl, sp_62 (fj_end b2 (H _ _ _ _ _ _ _ _ _ (((fj_q.gc N).tr b1.1).I hI) ?_) (fun z => absurd z (by decide)))⟩⟩)))
    rw [b1.2]
    exact Nat.le_refl _
theorem lp_55 (ic : fk_ic N A o fc M) (hv : fk_fv N A o fc M.testBit) (kk : Q (.inl (some (.inl (.int (nI 1))))) (N, fm_SH)) :
    ∀ m k, fg_n (fk_gG N) - k = m → k ≤ fg_n (fk_gG N) → fm_Ev (fm_PP X) 55 (6, [some (.inl (.ref 0)), some (.inl (.int (nI k)))], [], (N, fm_SH)) Q := by
  have hn := ic.1.1
  have h12 := ic.1.2.2.1
  intro m
  induction m with
  | zero =>
    intro k hm hk
    refine fb_55_6 X _ N Q ?_
    rw [hn, fz_le (by omega) (by omega)]
    exact ⟨fun _ => ⟨Or.inr rfl, kk⟩, fun z => absurd (by omega) z⟩
  | succ m ih =>
    intro k hm hk
    have go := ih (k + 1) (by omega) (by omega)
    have ib := fz_in (n := 12) (by omega : k < 12) (by omega)
    refine fb_55_6 X _ N Q ?_
    rw [hn, fz_le (by omega) (by omega), fz_t (by omega : k < 2147483648), (ic.2.1.1 k (by omega)).1, fz_be, nI_add]
    refine ⟨fun z => absurd z (by omega), fun _ => ⟨ib, fun _ => go, fun z => ⟨ib, ?_⟩⟩⟩
    have hF := (Bool.not_eq_false _).mp z
    refine sp_52 ic hF ⟨fun _ => go, fun y => absurd ?_ y⟩
    obtain ⟨j, hj, hoj⟩ := ic.2.1.2.2.2.2.1.2.2.2.1 k hF
    rw [← hoj, (hv j hj).2]
theorem sp_55 (ic : fk_ic N A o fc M) (kk : ∀ N', fx_F [62, 18, 19] N N' → Ki (nI 1) N') : fm_Ci (fm_PP X) 55 [.inl (.ref 0)] (N, fm_SH) Ki X' := by
  refine fe_55 X N Ki X' (sp_45 ic.1 ic.2.2.2.1 ic.2.1 (fj_An ic.1 ic.2.2.1) ic.2.2.2.2.2.2.1 ic.2.2.2.2.2.1 (fun N1 a1 a2 a3 => ?_))
  have q0 : fj_q 0 N N1 := fj_q.Fx a1 (by intro c hc; simp at hc ⊢; omega) rfl rfl
  exact lp_55 (X := X) (Q := fm_Qi fm_SH Ki X') (q0.ic ic) a3 ⟨rfl, kk N1 a1⟩ _ 0 rfl (Nat.zero_le _)
theorem lw_1952 (hI : fj_I N A o fc M) (H : fj_H X x5 (N.2.2.2 + 1) Q) : fm_Ev (fm_PP X) 0 (1952, [some (.inl (.ref 999999)), some (.inl (.ref 0)), some (.inl (.ref 63)), some (.inl (.ref 89)), some (.inl (.ref 90)), some (.inl (.int x5)), o6, o7, o8, o9], [], (N, fm_SH)) Q := by
  refine fb_0_1952 X _ _ _ _ _ N Q (fe_36 X N _ _ (sp_55 hI.1 (fun N1 a1 => ⟨fun z => absurd z fj_n1, fun _ => ?_⟩)))
  have q1 : fj_q 0 N N1 := fj_q.Fx a1 (by intro c hc; simp at hc ⊢; omega) rfl rfl
  have ic1 := q1.ic hI.1
  refine sp_58 ic1.1 ic1.2.2.2.1 ic1.2.1 (fj_An ic1.1 ic1.2.2.1) (fun N2 b b1 b2 => ?_)
  have q2 : fj_q 0 N1 N2 := fj_q.Fx b1 (by intro c hc; simp at hc ⊢; omega) rfl rfl
  have ic2 := q2.ic ic1
  refine sp_57 ic2.1 ic2.2.2.2.1 ic2.2.1 (fj_An ic2.1 ic2.2.2.1) (fun N3 b' c1 c2 => ?_)
  have q3 : fj_q 0 N2 N3 := fj_q.Fx c1 (by intro c hc; simp at hc ⊢; omega) rfl rfl
  have ic3 := q3.ic ic2
  rw [q2.qok ic1, q2.gG] at c2
  refine ⟨fun _ => ?_, fun z => absurd (fq_B_uniq b2 c2) z⟩
  obtain ⟨kk, hRe, hnt⟩ := ic3.2.2.1
  refine sp_125 ic3.1 ic3.2.1 (fun q hq => absurd hq.2.1 (hnt q hq.1)) (fun _ => ⟨fun _ => ⟨Or.inr rfl, rfl, ?_⟩, fun z => absurd rfl z⟩)
  refine fe_114 X N3 _ _ ⟨Or.inr rfl, rfl, fj_endv rfl (H _ _ _ _ _ _ _ _ _ (((q1.tr (q2.tr q3)).tr (fj_q.th N3 _)).I hI) ?_)⟩
  dsimp only
  rw [c1.2, b1.2, a1.2]
  exact Nat.le_succ _
end FJV
