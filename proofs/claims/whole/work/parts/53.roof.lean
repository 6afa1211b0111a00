/-! the law's invariant after a roof is set -/
theorem fj_pi {a b j u : Nat} (ha : a < 3) (hb : b < 3) (h : fm_pc a j = fm_pc b u) : a = b ∧ j = u := by
  have h : 25 + 3 * j + a = 25 + 3 * u + b := h
  omega
theorem fj_pn {a b j u : Nat} (ha : a < 3) (hb : b < 3) (h : a ≠ b ∨ j ≠ u) : fm_pc a j ≠ fm_pc b u := fun e => by
  have := fj_pi ha hb e
  omega
theorem fj_pb {a j c : Nat} (ha : a < 3) (hj : j < 12) (hc : c < 25 ∨ 60 < c) : fm_pc a j ≠ c := fun e => by
  have h : 25 + 3 * j + a = c := e
  omega
abbrev fj_rc : List Nat := [25, 26, 27, 28, 29, 30, 31, 32, 33, 34, 35, 36, 37, 38, 39, 40, 41, 42, 43, 44, 45, 46, 47, 48, 49, 50, 51, 52, 53, 54, 55, 56, 57, 58, 59, 60, 75, 76, 77, 81]
theorem fj_rcc : ∀ u, u < 12 → fj_rc.contains (fm_pc 0 u) = true ∧ fj_rc.contains (fm_pc 1 u) = true ∧ fj_rc.contains (fm_pc 2 u) = true := by decide
section FJR
variable {N N1 : fm_N} {A : fg_A} {o : Nat → Nat} {fc M u : Nat} {y : Int32}
/-- one roof only is changed -/
theorem fj_r1 (hI : fj_I N A o fc M) (hu : u < 12) (hF : fx_F fj_rc N N1) (ho : ∀ j, j < 12 → j ≠ u → (N1.1 (fm_pc 0 j) = N.1 (fm_pc 0 j) ∧ N1.1 (fm_pc 1 j) = N.1 (fm_pc 1 j) ∧ N1.1 (fm_pc 2 j) = N.1 (fm_pc 2 j)) ∧ N1.1 75 j = N.1 75 j ∧ N1.1 76 j = N.1 76 j ∧ ∀ k, k < 4 → N1.1 77 (4 * j + k) = N.1 77 (4 * j + k) ∧ N1.1 81 (4 * j + k) = N.1 81 (4 * j + k))
    (hr : ∀ k, k < 5 → fz_bd 0 200 (N1.1 (fm_pc 2 u) k)) (hm : ∃ L, L ≤ 4 ∧ N1.1 (fm_pc 0 u) 2 = nI (L + 1) ∧ N1.1 76 u = nI L ∧ N1.1 75 u = N1.1 (fm_pc 2 u) 0 ∧ ∀ k, k < L → N1.1 77 (4 * u + k) = N1.1 (fm_pc 2 u) (k + 1) ∧ (N1.1 81 (4 * u + k) = nI 0 ↔ ¬ N1.1 (fm_pc 1 u) (k + 1) = nI 0)) : fj_I N1 A o fc M := by
  obtain ⟨⟨c25, c26, c27, c28, c29, c32⟩, ⟨c64, c65, c66, c67, c68, c69, c70⟩, c71, c72, ⟨c78, c79, c80⟩, cR⟩ := hI.2.1
  have hR := hI.1.2.2.2.1
  have hr0 := hI.1.2.2.2.2.1
  have e := hF.1
  refine fj_mk hI hF ⟨rfl, rfl, rfl, rfl, rfl, rfl, rfl, rfl, rfl, rfl, rfl, rfl, rfl, rfl, rfl⟩ (fun j hj => ?_) ⟨fun i hi => ?_, ?_, fun j hj k hk => ?_⟩ (by rw [e 20 rfl]; exact hI.1.2.2.2.2.2.1) hI.1.2.2.2.2.2.2.1 (fun i h => h) ?_
  · by_cases z : j = u
    · subst z
      obtain ⟨L, h1, h2, -⟩ := hm
      exact ⟨L, h1, h2⟩
    · rw [(ho j hj z).1.1]; exact hR j hj
  · rw [e 61 rfl, e 21 rfl, e 6 rfl]; exact hr0.1 i hi
  · rw [e 0 rfl]; exact hr0.2.1
  · by_cases z : j = u
    · subst z; exact hr k hk
    · rw [(ho j hj z).1.2.2]; exact hr0.2.2 j hj k hk
  · refine ⟨⟨?_, ?_, ?_, ?_, ?_, ?_⟩, ⟨?_, ?_, ?_, ?_, ?_, ?_, ?_⟩, fun i hi => ?_, fun i hi => ?_, ⟨?_, ?_, ?_⟩, fun j hj => ?_⟩
    · rw [e 63 rfl, e 3 rfl]; exact c25
    · rw [e 63 rfl, e 3 rfl]; exact c26
    · rw [e 63 rfl, e 0 rfl]; exact c27
    · rw [e 63 rfl, e 0 rfl]; exact c28
    · rw [e 63 rfl, e 0 rfl]; exact c29
    · rw [hF.2]; exact c32
    · rw [e 64 rfl, e 4 rfl]; exact c64
    · rw [e 65 rfl, e 5 rfl]; exact c65
    · rw [e 66 rfl, e 6 rfl]; exact c66
    · rw [e 67 rfl, e 61 rfl]; exact c67
    · rw [e 68 rfl, e 21 rfl]; exact c68
    · rw [e 69 rfl, e 22 rfl]; exact c69
    · rw [e 70 rfl, e 7 rfl]; exact c70
    · rw [e 71 rfl, e 8 rfl]; exact c71 i hi
    · rw [e 72 rfl]; exact c72 i hi
    · rw [e 78 rfl, e 9 rfl]; exact c78
    · rw [e 79 rfl, e 10 rfl]; exact c79
    · rw [e 80 rfl, e 11 rfl]; exact c80
    · by_cases z : j = u
      · subst z; exact hm
      · obtain ⟨⟨t0, t1, t2⟩, t75, t76, t7⟩ := ho j hj z
        obtain ⟨L, h1, h2, h3, h4, h5⟩ := cR j hj
        rw [t0, t1, t2, t75, t76]
        refine ⟨L, h1, h2, h3, h4, fun k hk => ?_⟩
        rw [(t7 k (by omega)).1, (t7 k (by omega)).2]
        exact h5 k hk
theorem fj_roof (hI : fj_I N A o fc M) (hu : u < 12) (hy : fz_bd 0 200 y) : fj_I (fm_uI (fm_uI (fm_uI (fm_uI N.1 (fm_pc 2 u) 0 y) (fm_pc 0 u) 2 (nI 1)) 75 u y) 76 u (nI 0), N.2) A o fc M := by
  have hr := hI.1.2.2.2.2.1
  have n75 : ∀ a j, a < 3 → j < 12 → fm_pc a j ≠ 75 := fun a j ha hj => fj_pb ha hj (Or.inr (by omega))
  have n76 : ∀ a j, a < 3 → j < 12 → fm_pc a j ≠ 76 := fun a j ha hj => fj_pb ha hj (Or.inr (by omega))
  have m0 : ∀ c, 60 < c → c ≠ fm_pc 0 u := fun c hc => (fj_pb (by omega) hu (Or.inr hc)).symm
  have m2 : ∀ c, 60 < c → c ≠ fm_pc 2 u := fun c hc => (fj_pb (by omega) hu (Or.inr hc)).symm
  have q20 : fm_pc 2 u ≠ fm_pc 0 u := fj_pn (by omega) (by omega) (Or.inl (by omega))
  refine fj_r1 hI hu (((((fx_F.rf _ N).up (fj_rcc u hu).2.2).up (fj_rcc u hu).1).up rfl).up rfl) (fun j hj z => ?_) (fun k hk => ?_) ⟨0, by omega, ?_, ?_, ?_, fun k hk => absurd hk (Nat.not_lt_zero k)⟩
  · have p : ∀ a b, a < 3 → b < 3 → fm_pc a j ≠ fm_pc b u := fun a b ha hb => fj_pn ha hb (Or.inr z)
    refine ⟨⟨?_, ?_, ?_⟩, ?_, ?_, fun k hk => ⟨?_, ?_⟩⟩
    · show fm_uI _ _ _ _ _ = _
      rw [fz_ne _ _ (n76 _ _ (by omega) hj), fz_ne _ _ (n75 _ _ (by omega) hj), fz_ne _ _ (p _ _ (by omega) (by omega)), fz_ne _ _ (p _ _ (by omega) (by omega))]
    · show fm_uI _ _ _ _ _ = _
      rw [fz_ne _ _ (n76 _ _ (by omega) hj), fz_ne _ _ (n75 _ _ (by omega) hj), fz_ne _ _ (p _ _ (by omega) (by omega)), fz_ne _ _ (p _ _ (by omega) (by omega))]
    · show fm_uI _ _ _ _ _ = _
      rw [fz_ne _ _ (n76 _ _ (by omega) hj), fz_ne _ _ (n75 _ _ (by omega) hj), fz_ne _ _ (p _ _ (by omega) (by omega)), fz_ne _ _ (p _ _ (by omega) (by omega))]
    · simp [fm_uI, z, m0, m2]
    · simp [fm_uI, z, m0, m2]
    · simp [fm_uI, m0, m2]
    · simp [fm_uI, m0, m2]
  · simp only [fm_uI, n75 2 u (by omega) hu, n76 2 u (by omega) hu, q20, false_and, if_false, true_and]
    by_cases z : k = 0
    · rw [if_pos z]; exact hy
    · rw [if_neg z]; exact hr.2.2 u hu k hk
  · simp [fm_uI, n75 0 u (by omega) hu, n76 0 u (by omega) hu]
  · simp [fm_uI]
  · simp [fm_uI, n75 2 u (by omega) hu, n76 2 u (by omega) hu, q20]
theorem fj_layer {L : Nat} {s t : Int32} (hI : fj_I N A o fc M) (hu : u < 12) (hL : L < 4) (hu2 : N.1 (fm_pc 0 u) 2 = nI (L + 1)) (hy : fz_bd 0 200 y) (hst : t = nI 0 ↔ ¬ s = nI 0) : fj_I (fm_uI (fm_uI (fm_uI (fm_uI (fm_uI (fm_uI N.1 (fm_pc 1 u) (L + 1) s) (fm_pc 2 u) (L + 1) y) (fm_pc 0 u) 2 (nI (L + 2))) 77 (4 * u + L) y) 81 (4 * u + L) t) 76 u (nI (L + 1)), N.2) A o fc M := by
  have hr := hI.1.2.2.2.2.1
  have n7 : ∀ c, 60 < c → ∀ a j, a < 3 → j < 12 → fm_pc a j ≠ c := fun c hc a j ha hj => fj_pb ha hj (Or.inr hc)
  have m : ∀ a, a < 3 → ∀ c, 60 < c → c ≠ fm_pc a u := fun a ha c hc => (fj_pb ha hu (Or.inr hc)).symm
  have m0 := m 0 (by omega)
  have m1 := m 1 (by omega)
  have m2 := m 2 (by omega)
  have q : ∀ a b, a < 3 → b < 3 → a ≠ b → fm_pc a u ≠ fm_pc b u := fun a b ha hb h => fj_pn ha hb (Or.inl h)
  have e0 : ∀ i, fm_uI (fm_uI (fm_uI (fm_uI (fm_uI (fm_uI N.1 (fm_pc 1 u) (L + 1) s) (fm_pc 2 u) (L + 1) y) (fm_pc 0 u) 2 (nI (L + 2))) 77 (4 * u + L) y) 81 (4 * u + L) t) 76 u (nI (L + 1)) (fm_pc 0 u) i = if i = 2 then nI (L + 2) else N.1 (fm_pc 0 u) i := fun i => by
    rw [fz_ne _ _ (n7 76 (by omega) 0 u (by omega) hu), fz_ne _ _ (n7 81 (by omega) 0 u (by omega) hu), fz_ne _ _ (n7 77 (by omega) 0 u (by omega) hu), fz_at, fz_ne _ _ (q 0 2 (by omega) (by omega) (by omega)), fz_ne _ _ (q 0 1 (by omega) (by omega) (by omega))]
  have e1 : ∀ i, fm_uI (fm_uI (fm_uI (fm_uI (fm_uI (fm_uI N.1 (fm_pc 1 u) (L + 1) s) (fm_pc 2 u) (L + 1) y) (fm_pc 0 u) 2 (nI (L + 2))) 77 (4 * u + L) y) 81 (4 * u + L) t) 76 u (nI (L + 1)) (fm_pc 1 u) i = if i = L + 1 then s else N.1 (fm_pc 1 u) i := fun i => by
    rw [fz_ne _ _ (n7 76 (by omega) 1 u (by omega) hu), fz_ne _ _ (n7 81 (by omega) 1 u (by omega) hu), fz_ne _ _ (n7 77 (by omega) 1 u (by omega) hu), fz_ne _ _ (q 1 0 (by omega) (by omega) (by omega)), fz_ne _ _ (q 1 2 (by omega) (by omega) (by omega)), fz_at]
  have e2 : ∀ i, fm_uI (fm_uI (fm_uI (fm_uI (fm_uI (fm_uI N.1 (fm_pc 1 u) (L + 1) s) (fm_pc 2 u) (L + 1) y) (fm_pc 0 u) 2 (nI (L + 2))) 77 (4 * u + L) y) 81 (4 * u + L) t) 76 u (nI (L + 1)) (fm_pc 2 u) i = if i = L + 1 then y else N.1 (fm_pc 2 u) i := fun i => by
    rw [fz_ne _ _ (n7 76 (by omega) 2 u (by omega) hu), fz_ne _ _ (n7 81 (by omega) 2 u (by omega) hu), fz_ne _ _ (n7 77 (by omega) 2 u (by omega) hu), fz_ne _ _ (q 2 0 (by omega) (by omega) (by omega)), fz_at, fz_ne _ _ (q 2 1 (by omega) (by omega) (by omega))]
  refine fj_r1 hI hu (((((((fx_F.rf _ N).up (fj_rcc u hu).2.1).up (fj_rcc u hu).2.2).up (fj_rcc u hu).1).up rfl).up rfl).up rfl) (fun j hj z => ?_) (fun k hk => ?_) ⟨L + 1, by omega, ?_, ?_, ?_, fun k hk => ?_⟩
  · have p : ∀ a b, a < 3 → b < 3 → fm_pc a j ≠ fm_pc b u := fun a b ha hb => fj_pn ha hb (Or.inr z)
    refine ⟨⟨?_, ?_, ?_⟩, ?_, ?_, fun k hk => ?_⟩
    · show fm_uI _ _ _ _ _ = _
      rw [fz_ne _ _ (n7 _ (by omega) _ _ (by omega) hj), fz_ne _ _ (n7 _ (by omega) _ _ (by omega) hj), fz_ne _ _ (n7 _ (by omega) _ _ (by omega) hj), fz_ne _ _ (p _ _ (by omega) (by omega)), fz_ne _ _ (p _ _ (by omega) (by omega)), fz_ne _ _ (p _ _ (by omega) (by omega))]
    · show fm_uI _ _ _ _ _ = _
      rw [fz_ne _ _ (n7 _ (by omega) _ _ (by omega) hj), fz_ne _ _ (n7 _ (by omega) _ _ (by omega) hj), fz_ne _ _ (n7 _ (by omega) _ _ (by omega) hj), fz_ne _ _ (p _ _ (by omega) (by omega)), fz_ne _ _ (p _ _ (by omega) (by omega)), fz_ne _ _ (p _ _ (by omega) (by omega))]
    · show fm_uI _ _ _ _ _ = _
      rw [fz_ne _ _ (n7 _ (by omega) _ _ (by omega) hj), fz_ne _ _ (n7 _ (by omega) _ _ (by omega) hj), fz_ne _ _ (n7 _ (by omega) _ _ (by omega) hj), fz_ne _ _ (p _ _ (by omega) (by omega)), fz_ne _ _ (p _ _ (by omega) (by omega)), fz_ne _ _ (p _ _ (by omega) (by omega))]
    · simp [fm_uI, m0, m1, m2]
    · simp [fm_uI, z, m0, m1, m2]
    · have h1 : ¬ 4 * j + k = 4 * u + L := by omega
      simp [fm_uI, m0, m1, m2, h1]
  · dsimp only
    rw [e2]
    by_cases z : k = L + 1
    · rw [if_pos z]; exact hy
    · rw [if_neg z]; exact hr.2.2 u hu k hk
  · dsimp only
    rw [e0, if_pos rfl]
  · simp [fm_uI]
  · obtain ⟨L', h1, h2, h3, h4, h5⟩ := hI.2.1.2.2.2.2.2 u hu
    dsimp only
    rw [e2, if_neg (by omega)]
    simp [fm_uI, m0, m1, m2]
    exact h4
  · obtain ⟨L', h1, h2, h3, h4, h5⟩ := hI.2.1.2.2.2.2.2 u hu
    rw [hu2] at h2
    have hLL : L = L' := by
      have := (nI_eq (by omega) (by omega)).mp h2
      omega
    subst hLL
    dsimp only
    rw [e1, e2]
    by_cases z : k = L
    · subst z
      rw [if_pos rfl, if_pos rfl]
      simp [fm_uI]
      exact hst
    · have h6 := h5 k (by omega)
      rw [if_neg (by omega), if_neg (by omega), ← h6.1, ← h6.2]
      have h7 : ¬ 4 * u + k = 4 * u + L := by omega
      simp [fm_uI, m0, m1, m2, z]
end FJR
