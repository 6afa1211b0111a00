/-! the invariant after a roof is set, and the law's calls that set something -/
abbrev fj_rc : List Nat := [0, 26, 27, 28, 29, 30, 31, 32, 33, 34, 35, 36, 37, 38, 39, 40, 41, 42, 43, 44, 45, 46, 47, 48, 49, 50, 51, 52, 53, 54, 55, 56, 57, 58, 59, 60, 61]
theorem fj_rcc : ∀ u, u < 12 → fj_rc.contains (fm_pc 0 u) = true ∧ fj_rc.contains (fm_pc 1 u) = true ∧ fj_rc.contains (fm_pc 2 u) = true := by decide
section FJR
variable {N N1 : fm_N} {A : fg_A} {o : Nat → Nat} {fc M mi u : Nat} {y : Int32}
/-- one roof only is changed -/
theorem fj_r1 (hI : fj_I N A o fc M mi) (hu : u < 8) (hF : fx_F fj_rc N N1) (ho : ∀ j, j < 12 → j ≠ u → N1.1 (fm_pc 0 j) = N.1 (fm_pc 0 j) ∧ N1.1 (fm_pc 1 j) = N.1 (fm_pc 1 j) ∧ N1.1 (fm_pc 2 j) = N.1 (fm_pc 2 j)) (n : ∀ j, j ≠ 190 + u → j ≠ 210 + u → ¬ (230 + 8 * u ≤ j ∧ j < 238 + 8 * u) → N1.1 0 j = N.1 0 j)
    (hrr : ∀ k, k < 5 → fz_bd 0 200 (N1.1 (fm_pc 2 u) k)) (hm : ∃ L, L ≤ 4 ∧ N1.1 (fm_pc 0 u) 2 = nI (L + 1) ∧ N1.1 0 (210 + u) = nI L ∧ N1.1 0 (190 + u) = N1.1 (fm_pc 2 u) 0 ∧ ∀ k, 1 ≤ k → k ≤ L → N1.1 0 (228 + 8 * u + 2 * k + 1) = N1.1 (fm_pc 2 u) k ∧ (N1.1 0 (228 + 8 * u + 2 * k) = nI 0 ↔ N1.1 (fm_pc 1 u) k = nI 0)) : fj_I N1 A o fc M mi := by
  obtain ⟨ic, hT, hb⟩ := hI
  have hR := ic.2.2.2.1
  have hr := ic.2.2.2.2.1
  have e := hF.1
  have eG : fk_gG N1 = fk_gG N := fk_gG_same (e 4 rfl) (e 5 rfl) (e 6 rfl) (e 10 rfl) (e 11 rfl) (e 12 rfl) (fun i => by rw [e 8 rfl])
  obtain ⟨⟨k1, k2, k3, k4⟩, -, h3, -, -, -, -⟩ := id hT
  refine ⟨fk_ic_mk ic hF ⟨rfl, rfl, rfl, rfl, rfl, rfl, rfl, rfl, rfl, rfl, rfl, rfl, rfl, rfl, rfl⟩ (fun j hj => ?_) ⟨fun i hi => ?_, ?_, fun j hj k hk => ?_⟩ (by rw [e 21 rfl]; exact ic.2.2.2.2.2.1) ic.2.2.2.2.2.2.1, fl_T_mk hT eG (fun j hj => n j (by omega) (by omega) (by omega)) ?_ ?_ (fun i hi => ?_) (fun i hi => ?_) (fun i hi => ?_) (fun v hv => ?_) (e 23 rfl) (e 8 rfl) (fun i hi => ?_) (by rw [e 1 rfl]) (by rw [hF.2]), fun i hi => by rw [eG]; exact hb i hi⟩
  · by_cases z : j = u
    · subst z
      obtain ⟨L, h1, h2, -⟩ := hm
      exact ⟨L, h1, h2⟩
    · rw [(ho j hj z).1]; exact hR j hj
  · rw [e 62 rfl, e 22 rfl, e 7 rfl]; exact hr.1 i hi
  · rw [e 1 rfl]; exact hr.2.1
  · by_cases z : j = u
    · subst z; exact hrr k hk
    · rw [(ho j hj z).2.2]; exact hr.2.2 j hj k hk
  · rw [n 2 (by omega) (by omega) (by omega), e 1 rfl]; exact k1
  · rw [n 3 (by omega) (by omega) (by omega), e 1 rfl]; exact k2
  · rw [n (50 + i) (by omega) (by omega) (by omega), e 7 rfl]; exact (k3 i hi).1
  · rw [n (70 + i) (by omega) (by omega) (by omega), e 62 rfl]; exact (k3 i hi).2.1
  · rw [n (90 + i) (by omega) (by omega) (by omega), e 22 rfl]; exact (k3 i hi).2.2
  · by_cases z : v = u
    · subst z; exact hm
    · obtain ⟨t0, t1, t2⟩ := ho v (by omega) z
      obtain ⟨L, q1, q2, q3, q4, q5⟩ := k4 v hv
      rw [t0, t1, t2]
      refine ⟨L, q1, q2, by rw [n (210 + v) (by omega) (by omega) (by omega)]; exact q3, by rw [n (190 + v) (by omega) (by omega) (by omega)]; exact q4, fun k hk1 hk2 => ?_⟩
      rw [n (228 + 8 * v + 2 * k + 1) (by omega) (by omega) (by omega), n (228 + 8 * v + 2 * k) (by omega) (by omega) (by omega)]
      exact q5 k hk1 hk2
  · rw [n (170 + i) (by omega) (by omega) (by omega)]; exact (h3 i hi).2.2.1
theorem fj_roof (hI : fj_I N A o fc M mi) (hu : u < 8) (hy : fz_bd 0 200 y) : fj_I (fm_uI (fm_uI (fm_uI (fm_uI N.1 0 (190 + u) y) 0 (210 + u) (nI 0)) (fm_pc 2 u) 0 y) (fm_pc 0 u) 2 (nI 1), N.2) A o fc M mi := by
  have hr := hI.1.2.2.2.2.1
  have p : ∀ a j, a < 3 → j < 12 → fm_pc a j ≠ 0 := fun a j ha hj => fj_pb ha hj (Or.inl (by omega))
  have p0 := (p 0 u (by omega) (by omega)).symm
  have p2 := (p 2 u (by omega) (by omega)).symm
  have q20 : fm_pc 2 u ≠ fm_pc 0 u := fj_pn (by omega) (by omega) (Or.inl (by omega))
  refine fj_r1 hI hu (((((fx_F.rf _ N).up rfl).up rfl).up (fj_rcc u (by omega)).2.2).up (fj_rcc u (by omega)).1) (fun j hj z => ?_) (fun j h1 h2 h3 => ?_) (fun k hk => ?_) ⟨0, by omega, ?_, ?_, ?_, fun k hk1 hk2 => by omega⟩
  · have q : ∀ a b, a < 3 → b < 3 → fm_pc a j ≠ fm_pc b u := fun a b ha hb => fj_pn ha hb (Or.inr z)
    refine ⟨?_, ?_, ?_⟩
    · dsimp only
      rw [fz_ne _ _ (q 0 0 (by omega) (by omega)), fz_ne _ _ (q 0 2 (by omega) (by omega)), fz_ne _ _ (p 0 j (by omega) hj), fz_ne _ _ (p 0 j (by omega) hj)]
    · dsimp only
      rw [fz_ne _ _ (q 1 0 (by omega) (by omega)), fz_ne _ _ (q 1 2 (by omega) (by omega)), fz_ne _ _ (p 1 j (by omega) hj), fz_ne _ _ (p 1 j (by omega) hj)]
    · dsimp only
      rw [fz_ne _ _ (q 2 0 (by omega) (by omega)), fz_ne _ _ (q 2 2 (by omega) (by omega)), fz_ne _ _ (p 2 j (by omega) hj), fz_ne _ _ (p 2 j (by omega) hj)]
  · dsimp only
    rw [fz_ne _ _ p0, fz_ne _ _ p2, fz_an _ _ _ _ h2, fz_an _ _ _ _ h1]
  · dsimp only
    rw [fz_ne _ _ q20, fz_at]
    by_cases z : k = 0
    · rw [if_pos z]; exact hy
    · rw [if_neg z, fz_ne _ _ (p 2 u (by omega) (by omega)), fz_ne _ _ (p 2 u (by omega) (by omega))]; exact hr.2.2 u (by omega) k hk
  · dsimp only
    rw [fz_ae]
  · dsimp only
    rw [fz_ne _ _ p0, fz_ne _ _ p2, fz_ae]
  · dsimp only
    rw [fz_ne _ _ p0, fz_ne _ _ p2, fz_an _ _ _ _ (by omega), fz_ae, fz_ne _ _ q20, fz_ae]
theorem fj_layer {L : Nat} {s t : Int32} (hI : fj_I N A o fc M mi) (hu : u < 8) (hL : L < 4) (hu2 : N.1 (fm_pc 0 u) 2 = nI (L + 1)) (hy : fz_bd 0 200 y) (hst : t = nI 0 ↔ s = nI 0) : fj_I (fm_uI (fm_uI (fm_uI (fm_uI (fm_uI (fm_uI N.1 0 (210 + u) (nI (L + 1))) 0 (228 + 8 * u + 2 * (L + 1)) t) 0 (228 + 8 * u + 2 * (L + 1) + 1) y) (fm_pc 1 u) (L + 1) s) (fm_pc 2 u) (L + 1) y) (fm_pc 0 u) 2 (nI (L + 2)), N.2) A o fc M mi := by
  have hr := hI.1.2.2.2.2.1
  have p : ∀ a j, a < 3 → j < 12 → fm_pc a j ≠ 0 := fun a j ha hj => fj_pb ha hj (Or.inl (by omega))
  have p0 := (p 0 u (by omega) (by omega)).symm
  have p1 := (p 1 u (by omega) (by omega)).symm
  have p2 := (p 2 u (by omega) (by omega)).symm
  have q : ∀ a b, a < 3 → b < 3 → a ≠ b → fm_pc a u ≠ fm_pc b u := fun a b ha hb h => fj_pn ha hb (Or.inl h)
  obtain ⟨L', l1, l2, l3, l4, l5⟩ := hI.2.1.1.2.2.2 u hu
  have hLL : L' = L := by
    rw [hu2] at l2
    have := (nI_eq (by omega) (by omega)).mp l2
    omega
  subst hLL
  refine fj_r1 hI hu (((((((fx_F.rf _ N).up rfl).up rfl).up rfl).up (fj_rcc u (by omega)).2.1).up (fj_rcc u (by omega)).2.2).up (fj_rcc u (by omega)).1) (fun j hj z => ?_) (fun j h1 h2 h3 => ?_) (fun k hk => ?_) ⟨L' + 1, by omega, ?_, ?_, ?_, fun k hk1 hk2 => ?_⟩
  · have q' : ∀ a b, a < 3 → b < 3 → fm_pc a j ≠ fm_pc b u := fun a b ha hb => fj_pn ha hb (Or.inr z)
    refine ⟨?_, ?_, ?_⟩
    · dsimp only
      rw [fz_ne _ _ (q' 0 0 (by omega) (by omega)), fz_ne _ _ (q' 0 2 (by omega) (by omega)), fz_ne _ _ (q' 0 1 (by omega) (by omega)), fz_ne _ _ (p 0 j (by omega) hj), fz_ne _ _ (p 0 j (by omega) hj), fz_ne _ _ (p 0 j (by omega) hj)]
    · dsimp only
      rw [fz_ne _ _ (q' 1 0 (by omega) (by omega)), fz_ne _ _ (q' 1 2 (by omega) (by omega)), fz_ne _ _ (q' 1 1 (by omega) (by omega)), fz_ne _ _ (p 1 j (by omega) hj), fz_ne _ _ (p 1 j (by omega) hj), fz_ne _ _ (p 1 j (by omega) hj)]
    · dsimp only
      rw [fz_ne _ _ (q' 2 0 (by omega) (by omega)), fz_ne _ _ (q' 2 2 (by omega) (by omega)), fz_ne _ _ (q' 2 1 (by omega) (by omega)), fz_ne _ _ (p 2 j (by omega) hj), fz_ne _ _ (p 2 j (by omega) hj), fz_ne _ _ (p 2 j (by omega) hj)]
  · dsimp only
    rw [fz_ne _ _ p0, fz_ne _ _ p2, fz_ne _ _ p1, fz_an _ _ _ _ (by omega), fz_an _ _ _ _ (by omega), fz_an _ _ _ _ h2]
  · dsimp only
    rw [fz_ne _ _ (q 2 0 (by omega) (by omega) (by omega)), fz_at]
    by_cases z : k = L' + 1
    · rw [if_pos z]; exact hy
    · rw [if_neg z, fz_ne _ _ (q 2 1 (by omega) (by omega) (by omega)), fz_ne _ _ p2.symm, fz_ne _ _ p2.symm, fz_ne _ _ p2.symm]; exact hr.2.2 u (by omega) k hk
  · dsimp only
    rw [fz_ae]
  · dsimp only
    rw [fz_ne _ _ p0, fz_ne _ _ p2, fz_ne _ _ p1, fz_an _ _ _ _ (by omega), fz_an _ _ _ _ (by omega), fz_ae]
  · dsimp only
    rw [fz_ne _ _ p0, fz_ne _ _ p2, fz_ne _ _ p1, fz_an _ _ _ _ (by omega), fz_an _ _ _ _ (by omega), fz_an _ _ _ _ (by omega), fz_ne _ _ (q 2 0 (by omega) (by omega) (by omega)), fz_an _ _ _ _ (by omega), fz_ne _ _ (q 2 1 (by omega) (by omega) (by omega)), fz_ne _ _ p2.symm, fz_ne _ _ p2.symm, fz_ne _ _ p2.symm]
    exact l4
  · dsimp only
    rw [fz_ne _ _ p0, fz_ne _ _ p2, fz_ne _ _ p1, fz_ne _ _ (q 2 0 (by omega) (by omega) (by omega)), fz_ne _ _ (q 1 0 (by omega) (by omega) (by omega)), fz_ne _ _ (q 1 2 (by omega) (by omega) (by omega))]
    by_cases z : k = L' + 1
    · subst z
      rw [fz_ae, fz_ae, fz_ae, fz_an _ _ _ _ (by omega), fz_ae]
      exact ⟨rfl, hst⟩
    · simp (disch := omega) only [fz_an]
      rw [fz_ne _ _ (q 2 1 (by omega) (by omega) (by omega)), fz_ne _ _ p2.symm, fz_ne _ _ p2.symm, fz_ne _ _ p2.symm, fz_ne _ _ p1.symm, fz_ne _ _ p1.symm, fz_ne _ _ p1.symm]
      exact l5 k hk1 (by omega)
end FJR
/-! the law's guarded calls of the class -/
theorem fj_yes {r v : Int32} {P Q B R : Prop} (e : r = v) (h : P) (hB : B := by first | exact Or.inr rfl | exact Or.inr trivial) (hR : R := by first | exact rfl | exact trivial) : (r = v → (B ∧ (R ∧ P))) ∧ (¬ (r = v) → Q) := ⟨fun _ => ⟨hB, hR, h⟩, fun z => absurd e z⟩
section FJW
variable {X : Nat × (Nat → Int32)} {N : fm_N} {n u L M : Nat} {x y w : Int32} {K : Int32 → fm_N → Prop} {X' : Nat → fm_N → Prop}
theorem sw_175 (hr : fj_rg x 2000 2600) (k : K (N.1 1 7) (fm_uI N.1 1 7 x, N.2)) : fm_Ci (fm_PP X) 175 [.inl (.ref 1), .inl (.int x)] (N, fm_SH) K X' := fe_175 X _ N K X' (fe_4 X _ N _ _ (sp_38y hr ⟨rfl, rfl, k⟩))
theorem sw_178 (hr : fj_rg x 0 100) (k : K (N.1 1 8) (fm_uI N.1 1 8 x, N.2)) : fm_Ci (fm_PP X) 178 [.inl (.ref 1), .inl (.int x)] (N, fm_SH) K X' := fe_178 X _ N K X' (fe_7 X _ N _ _ (sp_38y hr ⟨rfl, rfl, k⟩))
theorem sw_176 (hn : N.1 4 8 = nI n) (h12 : n ≤ 12) (hu : u < n) (hr : fj_rg y 0 200) (k : K (N.1 62 u) (fm_uI N.1 62 u y, N.2)) : fm_Ci (fm_PP X) 176 [.inl (.ref 1), .inl (.int (nI u)), .inl (.int y)] (N, fm_SH) K X' := by
  refine fe_176 X _ _ N K X' (fe_5 X _ _ N _ _ (sp_37y hn h12 hu (sp_38y hr ?_)))
  rw [fz_t (by omega : u < 2147483648)]
  exact ⟨fz_in (by omega) (by omega), fz_in (by omega) (by omega), rfl, rfl, k⟩
theorem sw_176n (hn : N.1 4 8 = nI n) (h12 : n ≤ 12) (h : ¬ fj_in x n) (k : K (nI 4294067295) (fj_g N)) : fm_Ci (fm_PP X) 176 [.inl (.ref 1), .inl (.int x), .inl (.int y)] (N, fm_SH) K X' :=
  fe_176 X _ _ N K X' (fe_5 X _ _ N _ _ (sp_37n hn h12 h ⟨rfl, fun _ => ⟨rfl, k⟩, fun z => absurd rfl z⟩))
theorem sw_176r (hn : N.1 4 8 = nI n) (h12 : n ≤ 12) (hu : u < n) (hr : ¬ fj_rg y 0 200) (k : K (nI 4294067294) (fj_g N)) : fm_Ci (fm_PP X) 176 [.inl (.ref 1), .inl (.int (nI u)), .inl (.int y)] (N, fm_SH) K X' :=
  fe_176 X _ _ N K X' (fe_5 X _ _ N _ _ (sp_37y hn h12 hu (sp_38n hr ⟨rfl, fun z => absurd z (by decide), fun _ => ⟨fun _ => ⟨rfl, k⟩, fun z => absurd rfl z⟩⟩)))
theorem sw_177 (hn : N.1 4 8 = nI n) (h12 : n ≤ 12) (hu : u < n) (hr : fj_rg y 0 64) (h4 : N.1 21 4 = nI M) (hM : M < 4096) (k : K (N.1 23 u) (fm_uI (fm_uI N.1 22 u y) 21 4 (nI (fb_cl M u)), N.2)) : fm_Ci (fm_PP X) 177 [.inl (.ref 1), .inl (.int (nI u)), .inl (.int y)] (N, fm_SH) K X' := by
  have hcl : N.1 21 4 &&& ((nI 1 <<< (nI u &&& 31)) ^^^ Int32.ofInt (-1)) = nI (fb_cl M u) := by rw [h4]; exact fb_clr hM (by omega)
  refine fe_177 X _ _ N K X' (fe_6 X _ _ N _ _ (sp_37y hn h12 hu (sp_38y hr ?_)))
  rw [fz_t (by omega : u < 2147483648), hcl]
  exact ⟨fz_in (by omega) (by omega), fz_in (by omega) (by omega), rfl, rfl, k⟩
theorem sw_177n (hn : N.1 4 8 = nI n) (h12 : n ≤ 12) (h : ¬ fj_in x n) (k : K (nI 4294067295) (fj_g N)) : fm_Ci (fm_PP X) 177 [.inl (.ref 1), .inl (.int x), .inl (.int y)] (N, fm_SH) K X' :=
  fe_177 X _ _ N K X' (fe_6 X _ _ N _ _ (sp_37n hn h12 h ⟨rfl, fun _ => ⟨rfl, k⟩, fun z => absurd rfl z⟩))
theorem sw_177r (hn : N.1 4 8 = nI n) (h12 : n ≤ 12) (hu : u < n) (hr : ¬ fj_rg y 0 64) (k : K (nI 4294067294) (fj_g N)) : fm_Ci (fm_PP X) 177 [.inl (.ref 1), .inl (.int (nI u)), .inl (.int y)] (N, fm_SH) K X' :=
  fe_177 X _ _ N K X' (fe_6 X _ _ N _ _ (sp_37y hn h12 hu (sp_38n hr ⟨rfl, fun z => absurd z (by decide), fun _ => ⟨fun _ => ⟨rfl, k⟩, fun z => absurd rfl z⟩⟩)))
theorem sw_179 (hn : N.1 4 8 = nI n) (h12 : n ≤ 12) (hu : u < n) (hr : fj_rg y 0 200) (k : K (N.1 (fm_pc 0 u) 2) (fm_uI (fm_uI N.1 (fm_pc 2 u) 0 y) (fm_pc 0 u) 2 (nI 1), N.2)) : fm_Ci (fm_PP X) 179 [.inl (.ref 1), .inl (.int (nI u)), .inl (.int y)] (N, fm_SH) K X' := by
  refine fe_179 X _ _ N K X' (fe_8 X _ _ N _ _ (sp_37y hn h12 hu (sp_38y hr ?_)))
  rw [fz_t (by omega : u < 2147483648)]
  exact ⟨fz_in (by omega) (by omega), fz_in (by omega) (by omega), fe_139 X _ _ _ _ _ ⟨fz_in (by omega) (by omega), rfl, rfl, rfl, k⟩⟩
theorem sp_39y (hu : u < 12) (h : N.1 (fm_pc 0 u) 2 = nI (L + 1)) (hL : L < 4) {K : fm_N → Prop} (k : K N) : fm_Cv (fm_PP X) 39 [.inl (.ref 1), .inl (.int (nI u))] (N, fm_SH) K X' := by
  refine fe_39 X _ N K X' ?_
  rw [fz_t (by omega : u < 2147483648), h, fz_lt (by omega) (by omega)]
  exact ⟨fz_in hu (by omega), fun _ => ⟨rfl, k⟩, fun z => absurd (by omega) z⟩
theorem sp_39n (hu : u < 12) (h : N.1 (fm_pc 0 u) 2 = nI (L + 1)) (hL : L = 4) {K : fm_N → Prop} (k : X' 2 (fj_g N)) : fm_Cv (fm_PP X) 39 [.inl (.ref 1), .inl (.int (nI u))] (N, fm_SH) K X' := by
  refine fe_39 X _ N K X' ?_
  rw [fz_t (by omega : u < 2147483648), h, fz_lt (by omega) (by omega)]
  exact ⟨fz_in hu (by omega), fun z => absurd z (by omega), fun _ => ⟨rfl, k⟩⟩
theorem sp_140 {s : Int32} (h : N.1 (fm_pc 0 u) 2 = nI (L + 1)) (hL : L < 4) (k : K (nI (L + 2)) (fm_uI (fm_uI (fm_uI N.1 (fm_pc 1 u) (L + 1) (fm_nb s)) (fm_pc 2 u) (L + 1) y) (fm_pc 0 u) 2 (nI (L + 2)), N.2)) : fm_Ci (fm_PP X) 140 [.inr (0, u), .inl (.int s), .inl (.int y)] (N, fm_SH) K X' := by
  have q1 : fm_pc 0 u ≠ fm_pc 1 u := fj_pn (by omega) (by omega) (Or.inl (by omega))
  have q2 : fm_pc 0 u ≠ fm_pc 2 u := fj_pn (by omega) (by omega) (Or.inl (by omega))
  refine fe_140 X _ _ _ N K X' ?_
  simp only [fz_ne _ _ q1, fz_ne _ _ q2, h, fz_t (by omega : L + 1 < 2147483648), nI_add, fz_at, if_true]
  exact ⟨fz_in (by omega) (by omega), fz_in (by omega) (by omega), trivial, k⟩
theorem sw_180 (hn : N.1 4 8 = nI n) (h12 : n ≤ 12) (hu : u < n) (hr : fj_rg y 0 200) (h : N.1 (fm_pc 0 u) 2 = nI (L + 1)) (hL : L < 4) (k : K (nI (L + 2)) (fm_uI (fm_uI (fm_uI N.1 (fm_pc 1 u) (L + 1) (nI 0)) (fm_pc 2 u) (L + 1) y) (fm_pc 0 u) 2 (nI (L + 2)), N.2)) : fm_Ci (fm_PP X) 180 [.inl (.ref 1), .inl (.int (nI u)), .inl (.int y)] (N, fm_SH) K X' := by
  refine fe_180 X _ _ N K X' (fe_9 X _ _ N _ _ (sp_37y hn h12 hu (sp_38y hr (sp_39y (by omega) h hL ?_))))
  rw [fz_t (by omega : u < 2147483648)]
  refine ⟨fz_in (by omega) (by omega), sp_140 h hL ⟨rfl, rfl, ?_⟩⟩
  rw [fz_nb0]
  exact k
theorem sw_180f (hn : N.1 4 8 = nI n) (h12 : n ≤ 12) (hu : u < n) (hr : fj_rg y 0 200) (h : N.1 (fm_pc 0 u) 2 = nI (4 + 1)) (k : K (nI 4294067293) (fj_g N)) : fm_Ci (fm_PP X) 180 [.inl (.ref 1), .inl (.int (nI u)), .inl (.int y)] (N, fm_SH) K X' :=
  fe_180 X _ _ N K X' (fe_9 X _ _ N _ _ (sp_37y hn h12 hu (sp_38y hr (sp_39n (L := 4) (by omega) h rfl ⟨rfl, fun z => absurd z (by decide), fun _ => ⟨fun z => absurd z (by decide), fun _ => ⟨fun _ => ⟨rfl, k⟩, fun z => absurd rfl z⟩⟩⟩))))
theorem sw_181 (hn : N.1 4 8 = nI n) (h12 : n ≤ 12) (hu : u < n) (hr : fj_rg y 0 100) (h : N.1 (fm_pc 0 u) 2 = nI (L + 1)) (hL : L < 4) (k : K (nI (L + 2)) (fm_uI (fm_uI (fm_uI N.1 (fm_pc 1 u) (L + 1) (nI 1)) (fm_pc 2 u) (L + 1) y) (fm_pc 0 u) 2 (nI (L + 2)), N.2)) : fm_Ci (fm_PP X) 181 [.inl (.ref 1), .inl (.int (nI u)), .inl (.int y)] (N, fm_SH) K X' := by
  refine fe_181 X _ _ N K X' (fe_10 X _ _ N _ _ (sp_37y hn h12 hu (sp_38y hr (sp_39y (by omega) h hL ?_))))
  rw [fz_t (by omega : u < 2147483648)]
  refine ⟨fz_in (by omega) (by omega), sp_140 h hL ⟨rfl, rfl, ?_⟩⟩
  rw [fz_nb1]
  exact k
theorem sw_181f (hn : N.1 4 8 = nI n) (h12 : n ≤ 12) (hu : u < n) (hr : fj_rg y 0 100) (h : N.1 (fm_pc 0 u) 2 = nI (4 + 1)) (k : K (nI 4294067293) (fj_g N)) : fm_Ci (fm_PP X) 181 [.inl (.ref 1), .inl (.int (nI u)), .inl (.int y)] (N, fm_SH) K X' :=
  fe_181 X _ _ N K X' (fe_10 X _ _ N _ _ (sp_37y hn h12 hu (sp_38y hr (sp_39n (L := 4) (by omega) h rfl ⟨rfl, fun z => absurd z (by decide), fun _ => ⟨fun z => absurd z (by decide), fun _ => ⟨fun _ => ⟨rfl, k⟩, fun z => absurd rfl z⟩⟩⟩))))
end FJW
