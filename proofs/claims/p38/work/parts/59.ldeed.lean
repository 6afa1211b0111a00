/-! the law: layers, fuses, minutes -/
theorem fl_E.tr {R C D : fm_N} (h : fl_E R C) (k : fl_E C D) : fl_E R D := ⟨fun c hc => (k.1 c hc).trans (h.1 c hc), k.2.trans h.2⟩
theorem fk_ic_64 {N N' : fm_N} {A : fg_A} {o : Nat → Nat} {fc M : Nat} (h : ∀ c, c ≠ 0 → c < 64 → N'.1 c = N.1 c) (ic : fk_ic N A o fc M) : fk_ic N' A o fc M := by
  obtain ⟨hG, hS, hF, hR, hr, h4, hM, hh⟩ := ic
  have e : ∀ c, 0 < c → c < 64 → N'.1 c = N.1 c := fun c a b => h c (by omega) b
  have eG : fk_gG N' = fk_gG N := fk_gG_same (e 4 (by omega) (by omega)) (e 5 (by omega) (by omega)) (e 6 (by omega) (by omega)) (e 10 (by omega) (by omega)) (e 11 (by omega) (by omega)) (e 12 (by omega) (by omega)) (fun i => by rw [e 8 (by omega) (by omega)])
  refine ⟨?_, ?_, by rw [eG]; exact hF, fun j hj => ?_, ⟨fun i hi => ?_, ?_, fun j hj k hk => ?_⟩, by rw [e 21 (by omega) (by omega)]; exact h4, hM, fun i => by rw [e 8 (by omega) (by omega)]; exact hh i⟩
  · rw [eG]
    unfold fk_G
    rw [e 4 (by omega) (by omega), e 5 (by omega) (by omega), e 6 (by omega) (by omega), e 9 (by omega) (by omega), e 10 (by omega) (by omega), e 11 (by omega) (by omega), e 12 (by omega) (by omega)]
    exact hG
  · unfold fk_S
    rw [e 3 (by omega) (by omega), e 13 (by omega) (by omega), e 14 (by omega) (by omega), e 15 (by omega) (by omega), e 16 (by omega) (by omega), e 17 (by omega) (by omega), e 18 (by omega) (by omega)]
    exact hS
  · obtain ⟨p1, p2, p3, p4, p5, p6⟩ := fj_pcs j hj
    rw [e _ (by omega) (by omega)]; exact hR j hj
  · rw [e 62 (by omega) (by omega), e 22 (by omega) (by omega), e 7 (by omega) (by omega)]; exact hr.1 i hi
  · rw [e 1 (by omega) (by omega)]; exact hr.2.1
  · obtain ⟨p1, p2, p3, p4, p5, p6⟩ := fj_pcs j hj
    rw [e _ (by omega) (by omega)]; exact hr.2.2 j hj k hk
theorem fl_V.E {d : Nat} {N N' : fm_N} (h : fl_V d N N') : fl_E N N' := ⟨fun c hc => h.1 c (by unfold fl_dc at hc; omega) (by unfold fl_dc at hc; unfold fm_L0; omega), by rw [h.2.1]⟩
theorem fl_V.ic {d : Nat} {N N' : fm_N} {A : fg_A} {o : Nat → Nat} {fc M : Nat} (h : fl_V d N N') (ic : fk_ic N A o fc M) : fk_ic N' A o fc M := fk_ic_64 (fun c a b => h.1 c a b) ic
theorem fj_I.K {N : fm_N} {A : fg_A} {o : Nat → Nat} {fc M mi : Nat} (h : fj_I N A o fc M mi) : fl_K N := ⟨h.1.2.2.2.2.1, h.1.2.2.2.1, h.1.2.2.2.2.2.2.2⟩
section LDD
variable {X : Nat × (Nat → Int32)} {N : fm_N} {A : fg_A} {o : Nat → Nat} {fc M mi n u v L : Nat} {x y w : Int32} {K : Int32 → fm_N → Prop} {X' : Nat → fm_N → Prop} {Q : fm_O → fm_M → Prop}
theorem sp_202 (hI : fj_I N A o fc M mi) (hu : u < fg_n (fk_gG N)) {s q : Nat} (hs : s < 2) (hq : q < 101) (H : ∀ N' A' o' fc', fj_I N' A' o' fc' M mi → N'.2.2.2 ≤ N.2.2.2 + 1 → K (nI 1) N') : fm_Ci (fm_PP X) 202 [.inl (.ref 1), .inl (.ref 0), .inl (.int (nI u)), .inl (.int (nI s)), .inl (.int (nI q))] (N, fm_SH) K X' := by
  have h8 := hI.2.1.2.1.2.2.1
  have hn := hI.1.1.1
  generalize hnn : fg_n (fk_gG N) = n at h8 hn hu
  have hu8 : u < 8 := by omega
  obtain ⟨L, l1, l2, l3, -, -⟩ := hI.2.1.1.2.2.2 u hu8
  have r2 : fj_rg (nI q) 0 200 := fj_rgI (by omega) (by omega) (by omega)
  have r1 : fj_rg (nI q) 0 100 := fj_rgI (by omega) (by omega) (by omega)
  refine fe_202 X _ _ _ N K X' ?_
  simp (disch := omega) only [nI_add, pk_mul, fz_t, l3, fz_ae]
  rw [fz_eq (a := L) (b := 4) (by omega) (by omega), fz_eq (a := s) (b := 0) (by omega) (by omega)]
  refine ⟨fz_in (by omega) (by omega), fun z => ?_, fun z => ⟨fz_in (by omega) (by omega), fz_in (by omega) (by omega), fz_in (by omega) (by omega), fz_in (by omega) (by omega), fz_in (by omega) (by omega), fun y => ?_, fun y => ?_⟩⟩
  · subst z
    exact ⟨fun _ => sw_180f hn (by omega) hu r2 l2 (fj_yes rfl (H _ _ _ _ hI.g (Nat.le_refl _))), fun _ => sw_181f hn (by omega) hu r1 l2 (fj_yes rfl (H _ _ _ _ hI.g (Nat.le_refl _)))⟩
  · subst y
    have p0 : fm_pc 0 u ≠ 0 := fj_pb (by omega) (by omega) (Or.inl (by omega))
    have hI2 := fj_layer (L := L) (s := nI 0) (t := nI 0) (y := nI q) hI hu8 (by omega) l2 (fz_bd_wk (fj_rg_bd r2 (by omega) (by omega)) (by decide) (by decide)) Iff.rfl
    refine sw_180 (n := n) (L := L) ?_ (by omega) hu r2 ?_ (by omega) ?_
    · simp (disch := omega) only [fz_ne]
      exact hn
    · dsimp only
      rw [fz_ne _ _ p0, fz_ne _ _ p0, fz_ne _ _ p0]
      exact l2
    · have p1 : (0 : Nat) ≠ fm_pc 1 u := (fj_pb (by omega) (by omega) (Or.inl (by omega))).symm
      have p2 : (0 : Nat) ≠ fm_pc 2 u := (fj_pb (by omega) (by omega) (Or.inl (by omega))).symm
      refine ⟨fz_in (by omega) (by omega), fj_yes ?_ (H _ _ _ _ hI2 (Nat.le_succ _))⟩
      dsimp only
      rw [fz_ne _ _ p0.symm, fz_ne _ _ p2, fz_ne _ _ p1, fz_an _ _ _ _ (by omega), fz_an _ _ _ _ (by omega), fz_ae, nI_add]
  · have hs1 : s = 1 := by omega
    subst hs1
    have p0 : fm_pc 0 u ≠ 0 := fj_pb (by omega) (by omega) (Or.inl (by omega))
    have hI2 := fj_layer (L := L) (s := nI 1) (t := nI 1) (y := nI q) hI hu8 (by omega) l2 (fz_bd_wk (fj_rg_bd r2 (by omega) (by omega)) (by decide) (by decide)) Iff.rfl
    refine sw_181 (n := n) (L := L) ?_ (by omega) hu r1 ?_ (by omega) ?_
    · simp (disch := omega) only [fz_ne]
      exact hn
    · dsimp only
      rw [fz_ne _ _ p0, fz_ne _ _ p0, fz_ne _ _ p0]
      exact l2
    · have p1 : (0 : Nat) ≠ fm_pc 1 u := (fj_pb (by omega) (by omega) (Or.inl (by omega))).symm
      have p2 : (0 : Nat) ≠ fm_pc 2 u := (fj_pb (by omega) (by omega) (Or.inl (by omega))).symm
      refine ⟨fz_in (by omega) (by omega), fj_yes ?_ (H _ _ _ _ hI2 (Nat.le_succ _))⟩
      dsimp only
      rw [fz_ne _ _ p0.symm, fz_ne _ _ p2, fz_ne _ _ p1, fz_an _ _ _ _ (by omega), fz_an _ _ _ _ (by omega), fz_ae, nI_add]
theorem sw_183n (hn : N.1 4 8 = nI n) (h12 : n ≤ 12) (h : ¬ fj_in x n) (k : K (nI 4294067295) (fj_g N)) : fm_Ci (fm_PP X) 183 [.inl (.ref 1), .inl (.int x)] (N, fm_SH) K X' :=
  fe_183 X _ N K X' (fe_14 X _ N _ _ (sp_37n hn h12 h ⟨rfl, fun _ => ⟨rfl, k⟩, fun z => absurd rfl z⟩))
theorem sw_183z (hn : N.1 4 8 = nI n) (h12 : n ≤ 12) (hu : u < n) (h : u = 0 ∨ N.1 9 u = nI 0) (k : K (nI 4294067294) (fj_g N)) : fm_Ci (fm_PP X) 183 [.inl (.ref 1), .inl (.int (nI u))] (N, fm_SH) K X' := by
  have hx : (fm_SH = fm_SH ∧ ((2 = 0 → (fm_SH = fm_SH ∧ K (nI 4294067295) (fj_g N))) ∧ (¬ 2 = 0 → ((2 = 2 → (fm_SH = fm_SH ∧ K (nI 4294067294) (fj_g N))) ∧ (¬ 2 = 2 → (fm_SH = fm_SH ∧ X' 2 (fj_g N))))))) := ⟨rfl, fun z => absurd z (by decide), fun _ => ⟨fun _ => ⟨rfl, k⟩, fun z => absurd rfl z⟩⟩
  refine fe_183 X _ N K X' (fe_14 X _ N _ _ (sp_37y hn h12 hu ⟨fun _ => hx, fun z => ⟨fz_in (by omega) (by omega), fun _ => hx, fun y => ?_⟩⟩))
  rw [fz_t (by omega)] at y
  rcases h with h | h
  · exact absurd (by rw [h]) z
  · exact absurd h y
theorem sw_183 (hn : N.1 4 8 = nI n) (h12 : n ≤ 12) (hu : u < n) (h0 : u ≠ 0) (h9 : ¬ N.1 9 u = nI 0) (hG1 : fk_G (fm_uI (fm_uI N.1 9 u (nI 0)) 8 u (nI 0), N.2) (fk_gG (fm_uI (fm_uI N.1 9 u (nI 0)) 8 u (nI 0), N.2))) (hS1 : fk_S (fm_uI (fm_uI N.1 9 u (nI 0)) 8 u (nI 0), N.2) A o fc) (hA0 : fg_D A 0 = 0 ∧ fg_C A 0 = 0 ∧ fg_S A 0 = 0)
    (k : ∀ N2 A' o' fc', fx_F fk_cs (fm_uI (fm_uI N.1 9 u (nI 0)) 8 u (nI 0), N.2) N2 → fk_S N2 A' o' fc' → fg_Fin (fk_gG (fm_uI (fm_uI N.1 9 u (nI 0)) 8 u (nI 0), N.2)) A' → K (N2.1 3 7) N2) : fm_Ci (fm_PP X) 183 [.inl (.ref 1), .inl (.int (nI u))] (N, fm_SH) K X' := by
  refine fe_183 X _ N K X' (fe_14 X _ N _ _ (sp_37y hn h12 hu ⟨fun z => absurd ((nI_eq (by omega) (by omega)).mp z) h0, fun _ => ⟨fz_in (by omega) (by omega), fun z => absurd ?_ h9, fun _ => ⟨fz_in (by omega) (by omega), fz_in (by omega) (by omega), ?_⟩⟩⟩))
  · rw [fz_t (by omega)] at z; exact z
  · rw [fz_t (by omega), fz_nb0]
    exact sp_120 hG1 hS1 hA0 (fun N2 A' o' fc' b1 b2 b3 => ⟨rfl, rfl, k N2 A' o' fc' b1 b2 b3⟩)
theorem sw_182 (ic : fk_ic N A o fc M) {mm : Nat} (h1 : 1 ≤ mm) (h100 : mm ≤ 100) (k : ∀ N' A' o' fc' M' b, fk_ic N' A' o' fc' M' → fk_mh mm N A o fc M N' A' o' fc' M' b → K (nI 0 + b) N') : fm_Ci (fm_PP X) 182 [.inl (.ref 1), .inl (.int (nI mm))] (N, fm_SH) K X' :=
  fe_182 X _ N K X' (fe_13 X _ N _ _ (sp_38y (fj_rgI h1 h100 (by omega)) (lp_13 h100 mm 0 _ N A o fc M rfl ic (fun N' A' o' fc' M' b c1 c2 => ⟨rfl, rfl, k N' A' o' fc' M' b c1 c2⟩))))
theorem sw_182n {x : Int32} (h : ¬ fj_rg x 1 100) (k : K (nI 4294067295) (fj_g N)) : fm_Ci (fm_PP X) 182 [.inl (.ref 1), .inl (.int x)] (N, fm_SH) K X' :=
  fe_182 X _ N K X' (fe_13 X _ N _ _ (sp_38n h ⟨rfl, fun _ => ⟨rfl, k⟩, fun z => absurd rfl z⟩))
/-- the net's minutes before the class's -/
theorem lp_556 {mm : Nat} (hmm : mm ≤ 100) {x5 : Int32} {o2 o3 o4 : Option fm_V} : ∀ m k (R N : fm_N) (M mi : Nat), m + k = mm → fl_T R N M mi → fl_K R → (∀ i, M.testBit i = true → i < fg_n (fk_gG R)) → mi + m < 1000 →
    (∀ N'' R'' M'' b, fl_ch m R M R'' M'' b → fl_T R'' N'' M'' (mi + m) → fl_V m N N'' → N''.1 0 6 = N.1 0 6 + nI b → fm_Ci (fm_PP X) 182 [.inl (.ref 1), .inl (.int (nI mm))] (N'', fm_SH) (fun r2 N1 => (fm_inb (nI 6) 500 ∧ ((r2 = ((N1.1 0 ((nI 6).toNatClampNeg)) - x5) → (((nI 1) = nI 0 ∨ (nI 1) = nI 1) ∧ Q (.inl (some (.inl (.int (nI 1))))) (N1, fm_SH))) ∧ (¬ (r2 = ((N1.1 0 ((nI 6).toNatClampNeg)) - x5)) → (((nI 0) = nI 0 ∨ (nI 0) = nI 1) ∧ Q (.inl (some (.inl (.int (nI 0))))) (N1, fm_SH)))))) (fun e4 N3 => Q (.inr e4) (N3, fm_SH))) →
    fm_Ev (fm_PP X) 201 (556, [some (.inl (.ref 1)), some (.inl (.ref 0)), o2, o3, o4, some (.inl (.int x5)), some (.inl (.int (nI mm))), some (.inl (.int (nI k)))], [], (N, fm_SH)) Q := by
  intro m
  induction m with
  | zero =>
    intro k R N M mi hk hT hK hM hmi kk
    refine fb_201_556 X _ _ _ _ _ _ N Q ?_
    rw [fz_le (by omega) (by omega)]
    exact ⟨fun _ => kk N R M 0 ⟨rfl, rfl, rfl⟩ hT (fl_V.rf N) (by rw [nI_0, Int32.add_zero]), fun z => absurd (by omega) z⟩
  | succ m ih =>
    intro k R N M mi hk hT hK hM hmi kk
    refine fb_201_556 X _ _ _ _ _ _ N Q ?_
    rw [fz_le (by omega) (by omega)]
    refine ⟨fun z => absurd z (by omega), fun _ => sp_199 hT hK hM (by omega) (fun N1 A o fc S a1 a2 a3 a4 a5 a6 a7 a8 a9 => ?_)⟩
    rw [nI_add]
    refine ih (k + 1) _ N1 S (mi + 1) (by omega) a6 a7 (by rw [a5.n]; exact a4) (by omega) (fun N2 R2 M2 b b1 b2 b3 b4 => ?_)
    refine kk N2 R2 M2 _ ⟨A, o, fc, S, _, b, a1, a2, hT.2.1.2.2.2.2.1, a5, b1, rfl⟩ (by rw [show mi + (m + 1) = mi + 1 + m by omega]; exact b2) (by rw [show m + 1 = 1 + m by omega]; exact a8.tr b3) ?_
    rw [b4, a9, Int32.add_assoc, nI_add]
end LDD
