/-! the first state keeps the law's invariant -/
abbrev fj_zc : List Nat := [0, 5, 6, 7, 8, 9, 10, 11, 12, 14, 15, 16, 17, 18, 22, 23, 62]
theorem fj_first {N : fm_N} (h38 : N.1 4 8 = nI 1) (h39 : N.1 4 9 = nI 0) (h27 : N.1 3 7 = nI 1) (h12 : ∀ i, N.1 13 i = fz_b (decide (i = 0))) (hz : ∀ c, fj_zc.contains c = true → ∀ i, N.1 c i = nI 0) (hr : ∀ j, j < 12 → N.1 (fm_pc 0 j) 2 = nI 1 ∧ ∀ i, N.1 (fm_pc 1 j) i = nI 0 ∧ N.1 (fm_pc 2 j) i = nI 0)
    (h07 : N.1 1 7 = nI 2300) (h08 : N.1 1 8 = nI 0) (h09 : N.1 1 9 = nI 0) (h204 : N.1 21 4 = nI 0) (hl : N.2.1 1 10 = lN 0) : fj_I (fm_uI (fm_uI N.1 0 0 (nI 1)) 0 2 (nI 2300), N.2) fg_init (fun _ => 0) 1 0 0 := by
  have z0 : ∀ (a b : Int), a ≤ 0 → 0 ≤ b → fz_bd a b (nI 0) := fun a b h1 h2 => by
    unfold fz_bd
    rw [fz_nI (by omega)]
    exact ⟨h1, h2⟩
  have en : fg_n (fk_gG N) = 1 := by
    show (N.1 4 8).toNatClampNeg = 1
    rw [h38, fz_t (by omega)]
  have et : fg_t (fk_gG N) = 0 := by
    show (N.1 4 9).toNatClampNeg = 0
    rw [h39, fz_t (by omega)]
  have ep : ∀ c, fj_zc.contains c = true → ∀ i, (N.1 c i).toNatClampNeg = 0 := fun c hc i => by rw [hz c hc i, fz_t (by omega)]
  have ok : fg_ok (fk_gG N) := ⟨by omega, fun c h1 h2 => absurd h1 (by omega), fun q hq => absurd hq (by omega)⟩
  have hG : fk_G N (fk_gG N) := by
    refine ⟨by rw [en]; exact h38, by rw [et]; exact h39, by omega, by omega, ok, fun i hi => ⟨?_, ?_, rfl, ?_⟩, fun q hq => ⟨?_, ?_, rfl, ?_, ?_⟩⟩
    · show N.1 5 i = nI (N.1 5 i).toNatClampNeg
      rw [ep 5 rfl, hz 5 rfl]
    · show N.1 9 i = fz_b (!!decide (nI 100 ≤ N.1 8 i))
      rw [hz 9 rfl, hz 8 rfl]
      decide
    · show (N.1 5 i).toNatClampNeg < 12
      rw [ep 5 rfl]; omega
    · show N.1 10 q = nI (N.1 10 q).toNatClampNeg
      rw [ep 10 rfl, hz 10 rfl]
    · show N.1 11 q = nI (N.1 11 q).toNatClampNeg
      rw [ep 11 rfl, hz 11 rfl]
    · show (N.1 10 q).toNatClampNeg < 12
      rw [ep 10 rfl]; omega
    · show (N.1 11 q).toNatClampNeg < 12
      rw [ep 11 rfl]; omega
  have ic : fk_ic N fg_init (fun _ => 0) 1 0 := by
    refine ⟨hG, ⟨fun i hi => ⟨h12 i, hz 14 rfl i, hz 15 rfl i, hz 16 rfl i, by show 0 < 12; omega, by show 0 < 12; omega, fun _ => rfl⟩, fun q hq => hz 18 rfl q, h27, fun k hk => ⟨hz 17 rfl k, by show 0 < 12; omega⟩, ⟨⟨by omega, by omega, rfl⟩, fun k hk => ⟨rfl, by show 0 < 12; omega⟩, fun j k h1 h2 => absurd h1 (by omega), fun u hu => ⟨0, by omega, (of_decide_eq_true hu).symm⟩, fun k h1 h2 => absurd h1 (by omega)⟩, by decide⟩, ⟨0, ⟨fg_Sq.rf (fg_init_I ok), fun c hc => absurd hc.1 (by have := hc.2.1; omega)⟩, fun q hq => absurd hq (by omega)⟩, fun j hj => ⟨0, by omega, (hr j hj).1⟩, ⟨fun i hi => ⟨?_, ?_, ?_⟩, ?_, fun j hj k hk => ?_⟩, h204, by omega, fun i => ?_⟩
    · rw [hz 62 rfl]; exact z0 _ _ (by decide) (by decide)
    · rw [hz 22 rfl]; exact z0 _ _ (by decide) (by decide)
    · rw [hz 7 rfl]; exact z0 _ _ (by decide) (by decide)
    · rw [h08]; exact z0 _ _ (by decide) (by decide)
    · rw [((hr j hj).2 k).2]; exact z0 _ _ (by decide) (by decide)
    · rw [hz 8 rfl]; exact z0 _ _ (by decide) (by decide)
  have e : ∀ c, c ≠ 0 → (fm_uI (fm_uI N.1 0 0 (nI 1)) 0 2 (nI 2300), N.2).1 c = N.1 c := fun c hc => by
    dsimp only
    rw [fz_ne _ _ hc, fz_ne _ _ hc]
  have ic1 : fk_ic (fm_uI (fm_uI N.1 0 0 (nI 1)) 0 2 (nI 2300), N.2) fg_init (fun _ => 0) 1 0 := fk_ic_64 (fun c hc _ => e c hc) ic
  have z : ∀ j, j ≠ 0 → j ≠ 2 → (fm_uI (fm_uI N.1 0 0 (nI 1)) 0 2 (nI 2300), N.2).1 0 j = nI 0 := fun j h1 h2 => by
    dsimp only
    rw [fz_an _ _ _ _ h2, fz_an _ _ _ _ h1]
    exact hz 0 rfl j
  have e0 : (fm_uI (fm_uI N.1 0 0 (nI 1)) 0 2 (nI 2300), N.2).1 0 0 = nI 1 := by
    dsimp only
    rw [fz_an _ _ _ _ (by omega), fz_ae]
  have e2 : (fm_uI (fm_uI N.1 0 0 (nI 1)) 0 2 (nI 2300), N.2).1 0 2 = nI 2300 := by
    dsimp only
    rw [fz_ae]
  have el : (fm_uI (fm_uI N.1 0 0 (nI 1)) 0 2 (nI 2300), N.2).2.1 1 10 = lN 0 := hl
  generalize (fm_uI (fm_uI N.1 0 0 (nI 1)) 0 2 (nI 2300), N.2) = Y at e ic1 z e0 e2 el ⊢
  have eG : fk_gG Y = fk_gG N := fk_gG_c e
  refine ⟨ic1, ⟨⟨?_, ?_, fun i hi => ⟨?_, ?_, ?_⟩, fun u hu => ⟨0, by omega, ?_, ?_, ?_, fun k h1 h2 => absurd h1 (by omega)⟩⟩, fl_G_of ic1.1 (by rw [eG, en]; omega) ⟨?_, ?_, fun i hi => ⟨?_, ?_, ?_⟩, fun q hq => ⟨?_, ?_, ?_⟩⟩, fun i hi => ⟨?_, ?_, ?_, 0, ?_, Nat.le_refl _⟩, fun i hi _ => z _ (by omega) (by omega), ?_, ⟨0, z _ (by omega) (by omega), el, by omega⟩, by omega⟩, fun i hi => ?_⟩
  · rw [e2, e 1 (by omega), h07]
  · rw [z _ (by omega) (by omega), e 1 (by omega), h08]
  · rw [z _ (by omega) (by omega), e 7 (by omega), hz 7 rfl]
  · rw [z _ (by omega) (by omega), e 62 (by omega), hz 62 rfl]
  · rw [z _ (by omega) (by omega), e 22 (by omega), hz 22 rfl]
  · rw [e _ (fj_pb (by omega) (by omega) (Or.inl (by omega)))]; exact (hr u (by omega)).1
  · exact z _ (by omega) (by omega)
  · rw [z _ (by omega) (by omega), e _ (fj_pb (by omega) (by omega) (Or.inl (by omega))), ((hr u (by omega)).2 0).2]
  · rw [e0, e 4 (by omega), h38]
  · rw [z _ (by omega) (by omega), e 4 (by omega), h39]
  · rw [z _ (by omega) (by omega), e 5 (by omega), hz 5 rfl]
  · rw [z _ (by omega) (by omega), e 9 (by omega), hz 9 rfl]
  · rw [z _ (by omega) (by omega), e 6 (by omega), hz 6 rfl]
  · rw [z _ (by omega) (by omega), e 10 (by omega), hz 10 rfl]
  · rw [z _ (by omega) (by omega), e 11 (by omega), hz 11 rfl]
  · rw [z _ (by omega) (by omega), e 12 (by omega), hz 12 rfl]
  · rw [z _ (by omega) (by omega), e 23 (by omega), hz 23 rfl]
  · rw [z _ (by omega) (by omega), e 8 (by omega), hz 8 rfl]
  · rw [z _ (by omega) (by omega), Nat.zero_testBit]; rfl
  · rw [e 23 (by omega), hz 23 rfl]
  · rw [z _ (by omega) (by omega), e 1 (by omega), h09]
  · rw [Nat.zero_testBit] at hi; cases hi
/-! what the cells hold once the object is made -/
def gs_U : List (Nat × Nat × Nat) := [(1, 9, 0), (1, 8, 0), (1, 7, 2300), (59, 2, 1), (56, 2, 1), (53, 2, 1), (50, 2, 1), (47, 2, 1), (44, 2, 1), (41, 2, 1), (38, 2, 1), (35, 2, 1), (32, 2, 1), (29, 2, 1), (26, 2, 1), (21, 4, 0), (21, 3, 0), (13, 0, 1), (3, 7, 1), (4, 9, 0), (4, 8, 1)]
def gs_W : List (Nat × Nat × Nat) := [(1, 10, 0)]
def gs_M0 : gs_M := (gs_U, gs_W, fm_SH)
/-- the run's end, told piece by piece -/
def gs_is (o : Option gs_F) (g : gs_F) : Bool := match o with
  | some f => decide (f.1 = g.1) && (decide (f.2.1 = g.2.1) && (decide (f.2.2.1 = g.2.2.1) && (decide (f.2.2.2.1 = g.2.2.2.1) && (decide (f.2.2.2.2.1 = g.2.2.2.2.1) && decide (f.2.2.2.2.2 = g.2.2.2.2.2)))))
  | none => false
theorem gs_is_ok {o : Option gs_F} {g : gs_F} (h : gs_is o g = true) : o = some g := by
  unfold gs_is at h
  split at h
  · rename_i f
    simp only [Bool.and_eq_true, decide_eq_true_eq] at h
    obtain ⟨h1, h2, h3, h4, h5, h6⟩ := h
    obtain ⟨f1, f2, f3, f4, f5, f6⟩ := f
    obtain ⟨g1, g2, g3, g4, g5, g6⟩ := g
    dsimp only at h1 h2 h3 h4 h5 h6
    subst h1
    subst h2
    subst h3
    subst h4
    subst h5
    subst h6
    rfl
  · cases h
def gs_M1 : gs_M := ([], [], [(10, 500, [])])
abbrev gs_g1 : gs_F := (8, [some (0, 999999), some (0, 0), none, none], [(0, 0), (0, 999999)], gs_M1)
abbrev gs_g2 : gs_F := (8, [some (0, 999999), some (0, 0), some (0, 1), none, none, none], [], gs_M0)
set_option maxRecDepth 100000 in
theorem gs_one0 : gs_is (gs_run 20 0 (0, some (0, 999999) :: List.replicate (4 - 1) none, [], ([], [], []))) gs_g1 = true := by decide +kernel
theorem gs_one : gs_run 20 0 (0, some (0, 999999) :: List.replicate (4 - 1) none, [], ([], [], [])) = some gs_g1 := gs_is_ok gs_one0
set_option maxRecDepth 100000 in
theorem gs_two0 : gs_is (gs_run 400 194 (0, [some (0, 999999), some (0, 0), none, none, none, none], [], gs_M1)) gs_g2 = true := by decide +kernel
theorem gs_two : gs_run 400 194 (0, [some (0, 999999), some (0, 0), none, none, none, none], [], gs_M1) = some gs_g2 := gs_is_ok gs_two0
abbrev gs_N0 : fm_N := (gs_Mm gs_M0).1
theorem gs_z {U : List (Nat × Nat × Nat)} {c : Nat} (h : (U.all fun u => !(Nat.beq u.1 c) || Nat.beq u.2.2 0) = true) : ∀ i, gs_i U c i = nI 0 := by
  induction U with
  | nil => intro i; exact nI_0.symm
  | cons u r ih =>
    intro i
    rw [List.all_cons, Bool.and_eq_true] at h
    show (if c = u.1 ∧ i = u.2.1 then nI u.2.2 else gs_i r c i) = nI 0
    by_cases hc : c = u.1 ∧ i = u.2.1
    · rw [if_pos hc]
      have h1 := h.1
      have e : Nat.beq u.1 c = true := by rw [hc.1]; exact Nat.beq_refl _
      rw [e] at h1
      rw [Nat.eq_of_beq_eq_true (show Nat.beq u.2.2 0 = true from h1)]
    · rw [if_neg hc]
      exact ih h.2 i
theorem gs_z12 {U : List (Nat × Nat × Nat)} {c : Nat} (h : (U.all fun u => !(Nat.beq u.1 c) || (Nat.beq u.2.1 0 && Nat.beq u.2.2 1)) = true) : ∀ i, i ≠ 0 → gs_i U c i = nI 0 := by
  induction U with
  | nil => intro i _; exact nI_0.symm
  | cons u r ih =>
    intro i hi
    rw [List.all_cons, Bool.and_eq_true] at h
    show (if c = u.1 ∧ i = u.2.1 then nI u.2.2 else gs_i r c i) = nI 0
    by_cases hc : c = u.1 ∧ i = u.2.1
    · exfalso
      have h1 := h.1
      have e : Nat.beq u.1 c = true := by rw [hc.1]; exact Nat.beq_refl _
      rw [e] at h1
      have h2 : (Nat.beq u.2.1 0 && Nat.beq u.2.2 1) = true := h1
      rw [Bool.and_eq_true] at h2
      exact hi (hc.2.trans (Nat.eq_of_beq_eq_true h2.1))
    · rw [if_neg hc]
      exact ih h.2 i hi
theorem gs_zc : fj_zc.all (fun c => gs_U.all fun u => !(Nat.beq u.1 c) || Nat.beq u.2.2 0) = true := by decide +kernel
theorem gs_zr : (List.range 12).all (fun j => (gs_U.all fun u => !(Nat.beq u.1 (fm_pc 1 j)) || Nat.beq u.2.2 0) && (gs_U.all fun u => !(Nat.beq u.1 (fm_pc 2 j)) || Nat.beq u.2.2 0)) = true := by decide +kernel
theorem gs_zq : ∀ j, j < 12 → gs_i gs_U (fm_pc 0 j) 2 = nI 1 := by decide +kernel
theorem gs_I : fj_I (fm_uI (fm_uI gs_N0.1 0 0 (nI 1)) 0 2 (nI 2300), gs_N0.2) fg_init (fun _ => 0) 1 0 0 := by
  refine fj_first ?_ ?_ ?_ (fun i => ?_) (fun c hc i => ?_) (fun j hj => ⟨gs_zq j hj, fun i => ?_⟩) ?_ ?_ ?_ ?_ ?_
  · show gs_i gs_U 4 8 = nI 1; decide +kernel
  · show gs_i gs_U 4 9 = nI 0; decide +kernel
  · show gs_i gs_U 3 7 = nI 1; decide +kernel
  · show gs_i gs_U 13 i = fz_b (decide (i = 0))
    by_cases hi : i = 0
    · subst hi; decide +kernel
    · rw [gs_z12 (by decide +kernel) i hi, decide_eq_false hi]; rfl
  · have h := List.all_eq_true.mp gs_zc c (List.contains_iff_mem.mp hc)
    exact gs_z h i
  · have h := List.all_eq_true.mp gs_zr j (List.mem_range.mpr hj)
    rw [Bool.and_eq_true] at h
    exact ⟨gs_z h.1 i, gs_z h.2 i⟩
  · show gs_i gs_U 1 7 = nI 2300; decide +kernel
  · show gs_i gs_U 1 8 = nI 0; decide +kernel
  · show gs_i gs_U 1 9 = nI 0; decide +kernel
  · show gs_i gs_U 21 4 = nI 0; decide +kernel
  · show gs_l gs_W 1 10 = lN 0; decide +kernel
/-- the empty memory -/
def gs_E : fm_M := ((fun _ _ => 0, fun _ _ => 0, fun _ _ => 0, 0), [])
/-- the law's whole run -/
theorem gs_law {X : Nat × (Nat → Int32)} (hX : X.1 < 2147483640) : fm_Ev (fm_PP X) 0 (fm_entry 4 [.inl (.ref fm_scr)] gs_E) (fun r M' => r = .inl (some (.inl (.int (nI 1)))) ∧ M'.2 = fm_SH ∧ M'.1.2.2.2 ≤ 1200) := by
  have hc : fm_fetch ((fm_PP X).1 0) (gs_f gs_g1).1 = some (8, .invokestatic 210, 3, [194, 5, 2, 0]) := rfl
  have h := (gs_run_ok (X := X) _ _ _ _ gs_one).1 (fun r M' => r = .inl (some (.inl (.int (nI 1)))) ∧ M'.2 = fm_SH ∧ M'.1.2.2.2 ≤ 1200) (fm_call (mj := 194) (rk := 5) (as := [.inl (.ref 999999), .inl (.ref 0)]) (g := (11, gs_lo [some (0, 999999), some (0, 0), none, none], [], gs_Mm gs_M1)) hc rfl ((gs_run_ok (X := X) _ _ _ _ gs_two).1 _ (lp_194 hX gs_I rfl (fun N' A o fc a b => ?_))))
  · rw [gs_entry 4 999999] at h
    exact h
  · exact lp_11 hX a b (fun N2 h2 => ⟨rfl, rfl, h2⟩)
