/-! what the cells hold at the law's loop's head -/
def gs_U : List (Nat × Nat × Nat) := [(63, 27, 2300), (63, 25, 1), (0, 9, 0), (0, 8, 0), (0, 7, 2300), (58, 2, 1), (55, 2, 1), (52, 2, 1), (49, 2, 1), (46, 2, 1), (43, 2, 1), (40, 2, 1), (37, 2, 1), (34, 2, 1), (31, 2, 1), (28, 2, 1), (25, 2, 1), (20, 4, 0), (20, 3, 0), (12, 0, 1), (2, 7, 1), (3, 9, 0), (3, 8, 1)]
def gs_W : List (Nat × Nat × Nat) := [(0, 10, 0)]
def gs_M0 : gs_M := (gs_U, gs_W, fm_SH)
/-- the run's end, told piece by piece -/
def gs_is (o : Option gs_F) (g : gs_F) : Bool := match o with
  | some f => decide (f.1 = g.1) && (decide (f.2.1 = g.2.1) && (decide (f.2.2.1 = g.2.2.1) && (decide (f.2.2.2.1 = g.2.2.2.1) && (decide (f.2.2.2.2.1 = g.2.2.2.2.1) && decide (f.2.2.2.2.2 = g.2.2.2.2.2)))))
  | none => false
theorem gs_is_ok {o : Option gs_F} {g : gs_F} (h : gs_is o g = true) : o = some g := by
  unfold gs_is at h
  split at h
  · rename_i f
    simp only [Bool.and_eq_true, decide_eq_true_eq] at h
    obtain ⟨h1, h2, h3, h4, h5, h6⟩ := h
    obtain ⟨f1, f2, f3, f4, f5, f6⟩ := f
    obtain ⟨g1, g2, g3, g4, g5, g6⟩ := g
    dsimp only at h1 h2 h3 h4 h5 h6
    subst h1
    subst h2
    subst h3
    subst h4
    subst h5
    subst h6
    rfl
  · cases h
abbrev gs_g0 : gs_F := (28, [some (0, 999999), some (0, 0), some (0, 63), some (0, 89), some (0, 90), some (1, 0), none, none, none, none], [], gs_M0)
set_option maxRecDepth 100000 in
theorem gs_first0 : gs_is (gs_run 400 0 (0, some (0, 999999) :: List.replicate (10 - 1) none, [], ([], [], []))) gs_g0 = true := by decide +kernel
theorem gs_first : gs_run 400 0 (0, some (0, 999999) :: List.replicate (10 - 1) none, [], ([], [], [])) = some gs_g0 := gs_is_ok gs_first0
abbrev gs_N0 : fm_N := (gs_Mm gs_M0).1
theorem gs_z {U : List (Nat × Nat × Nat)} {c : Nat} (h : (U.all fun u => !(Nat.beq u.1 c) || Nat.beq u.2.2 0) = true) : ∀ i, gs_i U c i = nI 0 := by
  induction U with
  | nil => intro i; exact nI_0.symm
  | cons u r ih =>
    intro i
    rw [List.all_cons, Bool.and_eq_true] at h
    show (if c = u.1 ∧ i = u.2.1 then nI u.2.2 else gs_i r c i) = nI 0
    by_cases hc : c = u.1 ∧ i = u.2.1
    · rw [if_pos hc]
      have h1 := h.1
      have e : Nat.beq u.1 c = true := by rw [hc.1]; exact Nat.beq_refl _
      rw [e] at h1
      rw [Nat.eq_of_beq_eq_true (show Nat.beq u.2.2 0 = true from h1)]
    · rw [if_neg hc]
      exact ih h.2 i
theorem gs_z12 {U : List (Nat × Nat × Nat)} {c : Nat} (h : (U.all fun u => !(Nat.beq u.1 c) || (Nat.beq u.2.1 0 && Nat.beq u.2.2 1)) = true) : ∀ i, i ≠ 0 → gs_i U c i = nI 0 := by
  induction U with
  | nil => intro i _; exact nI_0.symm
  | cons u r ih =>
    intro i hi
    rw [List.all_cons, Bool.and_eq_true] at h
    show (if c = u.1 ∧ i = u.2.1 then nI u.2.2 else gs_i r c i) = nI 0
    by_cases hc : c = u.1 ∧ i = u.2.1
    · exfalso
      have h1 := h.1
      have e : Nat.beq u.1 c = true := by rw [hc.1]; exact Nat.beq_refl _
      rw [e] at h1
      have h2 : (Nat.beq u.2.1 0 && Nat.beq u.2.2 1) = true := h1
      rw [Bool.and_eq_true] at h2
      exact hi (hc.2.trans (Nat.eq_of_beq_eq_true h2.1))
    · rw [if_neg hc]
      exact ih h.2 i hi
theorem gs_zc : fj_zc.all (fun c => gs_U.all fun u => !(Nat.beq u.1 c) || Nat.beq u.2.2 0) = true := by decide +kernel
theorem gs_zr : (List.range 12).all (fun j => (gs_U.all fun u => !(Nat.beq u.1 (fm_pc 1 j)) || Nat.beq u.2.2 0) && (gs_U.all fun u => !(Nat.beq u.1 (fm_pc 2 j)) || Nat.beq u.2.2 0)) = true := by decide +kernel
theorem gs_zq : ∀ j, j < 12 → gs_i gs_U (fm_pc 0 j) 2 = nI 1 := by decide +kernel
theorem gs_I : fj_I gs_N0 fg_init (fun _ => 0) 1 0 := by
  refine fj_first ?_ ?_ ?_ (fun i => ?_) (fun c hc i => ?_) (fun j hj => ⟨gs_zq j hj, fun i => ?_⟩) ?_ ?_ ?_ ?_ ?_ ?_ ?_ ?_ ?_ ?_
  · show gs_i gs_U 3 8 = nI 1; decide +kernel
  · show gs_i gs_U 3 9 = nI 0; decide +kernel
  · show gs_i gs_U 2 7 = nI 1; decide +kernel
  · show gs_i gs_U 12 i = fz_b (decide (i = 0))
    by_cases hi : i = 0
    · subst hi; decide +kernel
    · rw [gs_z12 (by decide +kernel) i hi, decide_eq_false hi]; rfl
  · have h := List.all_eq_true.mp gs_zc c (List.contains_iff_mem.mp hc)
    exact gs_z h i
  · have h := List.all_eq_true.mp gs_zr j (List.mem_range.mpr hj)
    rw [Bool.and_eq_true] at h
    exact ⟨gs_z h.1 i, gs_z h.2 i⟩
  · show gs_i gs_U 0 7 = nI 2300; decide +kernel
  · show gs_i gs_U 0 8 = nI 0; decide +kernel
  · show gs_i gs_U 0 9 = nI 0; decide +kernel
  · show gs_i gs_U 20 4 = nI 0; decide +kernel
  · show gs_i gs_U 63 25 = nI 1; decide +kernel
  · show gs_i gs_U 63 26 = nI 0; decide +kernel
  · show gs_i gs_U 63 27 = nI 2300; decide +kernel
  · show gs_i gs_U 63 28 = nI 0; decide +kernel
  · show gs_i gs_U 63 29 = nI 0; decide +kernel
  · show gs_l gs_W 63 32 = gs_l gs_W 0 10; decide +kernel
/-- the empty memory -/
def gs_E : fm_M := ((fun _ _ => 0, fun _ _ => 0, fun _ _ => 0, 0), [])
/-- the law's whole run -/
theorem gs_law {X : Nat × (Nat → Int32)} (hX : X.1 < 2147483640) : fm_Ev (fm_PP X) 0 (fm_entry 10 [.inl (.ref fm_scr)] gs_E) (fun r M' => r = .inl (some (.inl (.int (nI 1)))) ∧ M'.2 = fm_SH ∧ 4 * M'.1.2.2.2 ≤ X.1) := by
  have h := (gs_run_ok (X := X) _ _ _ _ gs_first).1 _ (lw_all hX gs_I rfl)
  rw [gs_entry 10 999999] at h
  exact h
