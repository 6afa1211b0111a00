/-! the law's invariant after a call that sets something -/
theorem fj_mk {N N1 : fm_N} {A : fg_A} {o : Nat → Nat} {fc M M' : Nat} {cs : List Nat} (hI : fj_I N A o fc M) (hF : fx_F cs N N1) (hc : cs.contains 2 = false ∧ cs.contains 3 = false ∧ cs.contains 4 = false ∧ cs.contains 5 = false ∧ cs.contains 7 = false ∧ cs.contains 8 = false ∧ cs.contains 9 = false ∧ cs.contains 10 = false ∧ cs.contains 11 = false ∧ cs.contains 12 = false ∧ cs.contains 13 = false ∧ cs.contains 14 = false ∧ cs.contains 15 = false ∧ cs.contains 16 = false ∧ cs.contains 17 = false) (hR : fk_Rf N1) (hr : fk_rng N1) (h4 : N1.1 20 4 = nI M') (hM : M' < 4096) (hMM : ∀ i, M'.testBit i = true → M.testBit i = true) (hcp : fn_cp N1 N1 M') : fj_I N1 A o fc M' := by
  obtain ⟨⟨hG, hS, hFi, _, _, _, _, hh⟩, _, hn⟩ := hI
  obtain ⟨d2, d3, d4, d5, d7, d8, d9, d10, d11, d12, d13, d14, d15, d16, d17⟩ := hc
  have e : fk_gG N1 = fk_gG N := fk_gG_same (hF.1 3 d3) (hF.1 4 d4) (hF.1 5 d5) (hF.1 9 d9) (hF.1 10 d10) (hF.1 11 d11) (fun i => by rw [hF.1 7 d7])
  refine ⟨⟨?_, ?_, ?_, hR, hr, h4, hM, fun i => by rw [hF.1 7 d7]; exact hh i⟩, hcp, fun i hi => by rw [e]; exact hn i (hMM i hi)⟩
  · rw [e]; exact hG.fr hF ⟨d3, d4, d5, d8, d9, d10, d11⟩
  · exact hS.fr hF ⟨d2, d12, d13, d14, d15, d16, d17⟩
  · rw [e]; exact hFi
theorem fj_pcs : ∀ j, j < 12 → 24 < fm_pc 0 j ∧ 24 < fm_pc 1 j ∧ 24 < fm_pc 2 j ∧ fm_pc 0 j < 61 ∧ fm_pc 1 j < 61 ∧ fm_pc 2 j < 61 := by decide
theorem fj_hp (cs : List Nat) (h : ∀ c, 24 < c → c < 61 → cs.contains c = false) : ∀ j, j < 12 → cs.contains (fm_pc 0 j) = false ∧ cs.contains (fm_pc 1 j) = false ∧ cs.contains (fm_pc 2 j) = false := fun j hj => by
  obtain ⟨a, b, c, d, e, f⟩ := fj_pcs j hj
  exact ⟨h _ a d, h _ b e, h _ c f⟩
section FJS
variable {N : fm_N} {A : fg_A} {o : Nat → Nat} {fc M : Nat} {y : Int32}
theorem fj_base (hI : fj_I N A o fc M)  : fj_I ((fm_uI (fm_uI N.1 0 7 y) 63 27 y), N.2) A o fc M := by
  obtain ⟨⟨c25, c26, c27, c28, c29, c32⟩, ⟨c64, c65, c66, c67, c68, c69, c70⟩, c71, c72, ⟨c78, c79, c80⟩, cR⟩ := hI.2.1
  have hR := hI.1.2.2.2.1
  have hr := hI.1.2.2.2.2.1
  have hF : fx_F [0, 63] N ((fm_uI (fm_uI N.1 0 7 y) 63 27 y), N.2) := (((fx_F.rf _ N).up rfl).up rfl)
  have e := hF.1
  have hp := fj_hp [0, 63] (by intro c h1 h2; simp; omega)
  refine fj_mk hI hF ⟨rfl, rfl, rfl, rfl, rfl, rfl, rfl, rfl, rfl, rfl, rfl, rfl, rfl, rfl, rfl⟩ (hR.fr hF hp) ?_ (by simp [fm_uI]; exact hI.1.2.2.2.2.2.1) hI.1.2.2.2.2.2.2.1 (fun i h => h) ?_
  · refine ⟨fun i hi => ⟨?_, ?_, ?_⟩, ?_, fun j hj k hk => ?_⟩
    · rw [e 61 rfl]; exact (hr.1 i hi).1
    · rw [e 21 rfl]; exact (hr.1 i hi).2.1
    · rw [e 6 rfl]; exact (hr.1 i hi).2.2
    · simp [fm_uI]; exact hr.2.1
    · rw [e _ (hp j hj).2.2]; exact hr.2.2 j hj k hk
  · refine ⟨⟨?_, ?_, ?_, ?_, ?_, ?_⟩, ⟨?_, ?_, ?_, ?_, ?_, ?_, ?_⟩, fun i hi => ?_, fun i hi => ?_, ⟨?_, ?_, ?_⟩, fun j hj => ?_⟩
    · simp [fm_uI]; exact c25
    · simp [fm_uI]; exact c26
    · simp [fm_uI]
    · simp [fm_uI]; exact c28
    · simp [fm_uI]; exact c29
    · exact c32
    · rw [e 64 rfl, e 4 rfl]; exact c64
    · rw [e 65 rfl, e 5 rfl]; exact c65
    · rw [e 66 rfl, e 6 rfl]; exact c66
    · rw [e 67 rfl, e 61 rfl]; exact c67
    · rw [e 68 rfl, e 21 rfl]; exact c68
    · rw [e 69 rfl, e 22 rfl]; exact c69
    · rw [e 70 rfl, e 7 rfl]; exact c70
    · rw [e 71 rfl, e 8 rfl]; exact c71 i hi
    · rw [e 72 rfl]; exact c72 i hi
    · rw [e 78 rfl, e 9 rfl]; exact c78
    · rw [e 79 rfl, e 10 rfl]; exact c79
    · rw [e 80 rfl, e 11 rfl]; exact c80
    · obtain ⟨t0, t1, t2⟩ := fj_pcs j hj
      rw [e _ (hp j hj).1, e _ (hp j hj).2.1, e _ (hp j hj).2.2, e 75 rfl, e 76 rfl, e 77 rfl, e 81 rfl]; exact cR j hj
theorem fj_sun (hI : fj_I N A o fc M) (hy : fz_bd 0 100 y) : fj_I ((fm_uI (fm_uI N.1 0 8 y) 63 28 y), N.2) A o fc M := by
  obtain ⟨⟨c25, c26, c27, c28, c29, c32⟩, ⟨c64, c65, c66, c67, c68, c69, c70⟩, c71, c72, ⟨c78, c79, c80⟩, cR⟩ := hI.2.1
  have hR := hI.1.2.2.2.1
  have hr := hI.1.2.2.2.2.1
  have hF : fx_F [0, 63] N ((fm_uI (fm_uI N.1 0 8 y) 63 28 y), N.2) := (((fx_F.rf _ N).up rfl).up rfl)
  have e := hF.1
  have hp := fj_hp [0, 63] (by intro c h1 h2; simp; omega)
  refine fj_mk hI hF ⟨rfl, rfl, rfl, rfl, rfl, rfl, rfl, rfl, rfl, rfl, rfl, rfl, rfl, rfl, rfl⟩ (hR.fr hF hp) ?_ (by simp [fm_uI]; exact hI.1.2.2.2.2.2.1) hI.1.2.2.2.2.2.2.1 (fun i h => h) ?_
  · refine ⟨fun i hi => ⟨?_, ?_, ?_⟩, ?_, fun j hj k hk => ?_⟩
    · rw [e 61 rfl]; exact (hr.1 i hi).1
    · rw [e 21 rfl]; exact (hr.1 i hi).2.1
    · rw [e 6 rfl]; exact (hr.1 i hi).2.2
    · simp [fm_uI]; exact hy
    · rw [e _ (hp j hj).2.2]; exact hr.2.2 j hj k hk
  · refine ⟨⟨?_, ?_, ?_, ?_, ?_, ?_⟩, ⟨?_, ?_, ?_, ?_, ?_, ?_, ?_⟩, fun i hi => ?_, fun i hi => ?_, ⟨?_, ?_, ?_⟩, fun j hj => ?_⟩
    · simp [fm_uI]; exact c25
    · simp [fm_uI]; exact c26
    · simp [fm_uI]; exact c27
    · simp [fm_uI]
    · simp [fm_uI]; exact c29
    · exact c32
    · rw [e 64 rfl, e 4 rfl]; exact c64
    · rw [e 65 rfl, e 5 rfl]; exact c65
    · rw [e 66 rfl, e 6 rfl]; exact c66
    · rw [e 67 rfl, e 61 rfl]; exact c67
    · rw [e 68 rfl, e 21 rfl]; exact c68
    · rw [e 69 rfl, e 22 rfl]; exact c69
    · rw [e 70 rfl, e 7 rfl]; exact c70
    · rw [e 71 rfl, e 8 rfl]; exact c71 i hi
    · rw [e 72 rfl]; exact c72 i hi
    · rw [e 78 rfl, e 9 rfl]; exact c78
    · rw [e 79 rfl, e 10 rfl]; exact c79
    · rw [e 80 rfl, e 11 rfl]; exact c80
    · obtain ⟨t0, t1, t2⟩ := fj_pcs j hj
      rw [e _ (hp j hj).1, e _ (hp j hj).2.1, e _ (hp j hj).2.2, e 75 rfl, e 76 rfl, e 77 rfl, e 81 rfl]; exact cR j hj
theorem fj_load (hI : fj_I N A o fc M) {u : Nat} (hy : fz_bd 0 200 y) : fj_I ((fm_uI (fm_uI N.1 61 u y) 67 u y), N.2) A o fc M := by
  obtain ⟨⟨c25, c26, c27, c28, c29, c32⟩, ⟨c64, c65, c66, c67, c68, c69, c70⟩, c71, c72, ⟨c78, c79, c80⟩, cR⟩ := hI.2.1
  have hR := hI.1.2.2.2.1
  have hr := hI.1.2.2.2.2.1
  have hF : fx_F [61, 67] N ((fm_uI (fm_uI N.1 61 u y) 67 u y), N.2) := (((fx_F.rf _ N).up rfl).up rfl)
  have e := hF.1
  have hp := fj_hp [61, 67] (by intro c h1 h2; simp; omega)
  refine fj_mk hI hF ⟨rfl, rfl, rfl, rfl, rfl, rfl, rfl, rfl, rfl, rfl, rfl, rfl, rfl, rfl, rfl⟩ (hR.fr hF hp) ?_ (by simp [fm_uI]; exact hI.1.2.2.2.2.2.1) hI.1.2.2.2.2.2.2.1 (fun i h => h) ?_
  · refine ⟨fun i hi => ⟨?_, ?_, ?_⟩, ?_, fun j hj k hk => ?_⟩
    · by_cases z : i = u
      · simp [fm_uI, z]; exact hy
      · simp [fm_uI, z]; exact (hr.1 i hi).1
    · rw [e 21 rfl]; exact (hr.1 i hi).2.1
    · rw [e 6 rfl]; exact (hr.1 i hi).2.2
    · simp [fm_uI]; exact hr.2.1
    · rw [e _ (hp j hj).2.2]; exact hr.2.2 j hj k hk
  · refine ⟨⟨?_, ?_, ?_, ?_, ?_, ?_⟩, ⟨?_, ?_, ?_, ?_, ?_, ?_, ?_⟩, fun i hi => ?_, fun i hi => ?_, ⟨?_, ?_, ?_⟩, fun j hj => ?_⟩
    · simp [fm_uI]; exact c25
    · simp [fm_uI]; exact c26
    · simp [fm_uI]; exact c27
    · simp [fm_uI]; exact c28
    · simp [fm_uI]; exact c29
    · exact c32
    · rw [e 64 rfl, e 4 rfl]; exact c64
    · rw [e 65 rfl, e 5 rfl]; exact c65
    · rw [e 66 rfl, e 6 rfl]; exact c66
    · funext i; simp [fm_uI, congrFun c67 i]
    · rw [e 68 rfl, e 21 rfl]; exact c68
    · rw [e 69 rfl, e 22 rfl]; exact c69
    · rw [e 70 rfl, e 7 rfl]; exact c70
    · rw [e 71 rfl, e 8 rfl]; exact c71 i hi
    · rw [e 72 rfl]; exact c72 i hi
    · rw [e 78 rfl, e 9 rfl]; exact c78
    · rw [e 79 rfl, e 10 rfl]; exact c79
    · rw [e 80 rfl, e 11 rfl]; exact c80
    · obtain ⟨t0, t1, t2⟩ := fj_pcs j hj
      rw [e _ (hp j hj).1, e _ (hp j hj).2.1, e _ (hp j hj).2.2, e 75 rfl, e 76 rfl, e 77 rfl, e 81 rfl]; exact cR j hj
theorem fj_char (hI : fj_I N A o fc M) {u : Nat} (hu : u < 12) (hy : fz_bd 0 64 y) : fj_I ((fm_uI (fm_uI (fm_uI (fm_uI N.1 21 u y) 20 4 (nI (fb_cl M u))) 68 u y) 72 u (nI 0)), N.2) A o fc (fb_cl M u) := by
  obtain ⟨⟨c25, c26, c27, c28, c29, c32⟩, ⟨c64, c65, c66, c67, c68, c69, c70⟩, c71, c72, ⟨c78, c79, c80⟩, cR⟩ := hI.2.1
  have hR := hI.1.2.2.2.1
  have hr := hI.1.2.2.2.2.1
  have hF : fx_F [20, 21, 68, 72] N ((fm_uI (fm_uI (fm_uI (fm_uI N.1 21 u y) 20 4 (nI (fb_cl M u))) 68 u y) 72 u (nI 0)), N.2) := (((((fx_F.rf _ N).up rfl).up rfl).up rfl).up rfl)
  have e := hF.1
  have hp := fj_hp [20, 21, 68, 72] (by intro c h1 h2; simp; omega)
  refine fj_mk hI hF ⟨rfl, rfl, rfl, rfl, rfl, rfl, rfl, rfl, rfl, rfl, rfl, rfl, rfl, rfl, rfl⟩ (hR.fr hF hp) ?_ (by simp [fm_uI]) (fb_cl_lt hI.1.2.2.2.2.2.2.1) (fun i h => by
    have hi : i < 12 := by
      by_cases z : i < 12
      · exact z
      · rw [fb_hi (fb_cl_lt hI.1.2.2.2.2.2.2.1) (by omega)] at h; cases h
    rw [fb_cl_bit hi, Bool.and_eq_true] at h
    exact h.1) ?_
  · refine ⟨fun i hi => ⟨?_, ?_, ?_⟩, ?_, fun j hj k hk => ?_⟩
    · rw [e 61 rfl]; exact (hr.1 i hi).1
    · by_cases z : i = u
      · simp [fm_uI, z]; exact hy
      · simp [fm_uI, z]; exact (hr.1 i hi).2.1
    · rw [e 6 rfl]; exact (hr.1 i hi).2.2
    · simp [fm_uI]; exact hr.2.1
    · rw [e _ (hp j hj).2.2]; exact hr.2.2 j hj k hk
  · refine ⟨⟨?_, ?_, ?_, ?_, ?_, ?_⟩, ⟨?_, ?_, ?_, ?_, ?_, ?_, ?_⟩, fun i hi => ?_, fun i hi => ?_, ⟨?_, ?_, ?_⟩, fun j hj => ?_⟩
    · simp [fm_uI]; exact c25
    · simp [fm_uI]; exact c26
    · simp [fm_uI]; exact c27
    · simp [fm_uI]; exact c28
    · simp [fm_uI]; exact c29
    · exact c32
    · rw [e 64 rfl, e 4 rfl]; exact c64
    · rw [e 65 rfl, e 5 rfl]; exact c65
    · rw [e 66 rfl, e 6 rfl]; exact c66
    · rw [e 67 rfl, e 61 rfl]; exact c67
    · funext i; simp [fm_uI, congrFun c68 i]
    · rw [e 69 rfl, e 22 rfl]; exact c69
    · rw [e 70 rfl, e 7 rfl]; exact c70
    · rw [e 71 rfl, e 8 rfl]; exact c71 i hi
    · have h1 := c72 i hi
      by_cases z : i = u
      · simp [fm_uI, z, fb_cl_bit hu]; rfl
      · rw [fb_cl_bit hi, decide_eq_false (fun q => z q.symm), Bool.not_false, Bool.and_true, ← h1]; simp [fm_uI, z]
    · rw [e 78 rfl, e 9 rfl]; exact c78
    · rw [e 79 rfl, e 10 rfl]; exact c79
    · rw [e 80 rfl, e 11 rfl]; exact c80
    · obtain ⟨t0, t1, t2⟩ := fj_pcs j hj
      rw [e _ (hp j hj).1, e _ (hp j hj).2.1, e _ (hp j hj).2.2, e 75 rfl, e 76 rfl, e 77 rfl, e 81 rfl]; exact cR j hj
end FJS
