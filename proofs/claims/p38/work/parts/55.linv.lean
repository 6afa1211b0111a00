/-! the checks of the class -/
theorem fj_nat {x : Int32} (h : ¬ x < nI 0) : x = nI x.toNatClampNeg ∧ x.toNatClampNeg < 2147483648 := by
  have h0 : (0 : Int) ≤ x.toInt := by
    rw [fz_ltI, fz_nI (by omega)] at h
    omega
  have h1 : ((x.toNatClampNeg : Nat) : Int) = x.toInt := by
    show ((x.toInt.toNat : Nat) : Int) = _
    omega
  have h2 := Int32.toInt_lt x
  have h3 : x.toNatClampNeg < 2147483648 := by omega
  refine ⟨Int32.toInt_inj.mp ?_, h3⟩
  rw [fz_nI h3, h1]
/-- one of the numbers below n -/
def fj_in (x : Int32) (n : Nat) : Prop := ∃ u, u < n ∧ x = nI u
theorem fj_in_of {x : Int32} {n : Nat} (h : ¬ x < nI 0) (k : x < nI n) (hn : n < 2147483648) : fj_in x n := by
  obtain ⟨e, hx⟩ := fj_nat h
  refine ⟨_, ?_, e⟩
  rw [e] at k
  have := nI_ltI hx hn
  exact this.mp k
def fj_rg (x : Int32) (a b : Nat) : Prop := ¬ x < nI a ∧ x ≤ nI b
theorem fj_rg_bd {x : Int32} {a b : Nat} (h : fj_rg x a b) (ha : a < 2147483648) (hb : b < 2147483648) : fz_bd (a : Int) (b : Int) x := by
  obtain ⟨h1, h2⟩ := h
  rw [fz_ltI, fz_nI ha] at h1
  rw [fz_leI, fz_nI hb] at h2
  exact ⟨by omega, h2⟩
section FJC
variable {X : Nat × (Nat → Int32)} {N : fm_N} {X' : Nat → fm_N → Prop} {x : Int32} {n : Nat} {K : fm_N → Prop} {Ki : Int32 → fm_N → Prop}
abbrev fj_g (N : fm_N) : fm_N := (N.1, N.2.1, N.2.2.1, N.2.2.2 + 1)
theorem sp_37y {u : Nat} (hn : N.1 4 8 = nI n) (h12 : n ≤ 12) (hu : u < n) (k : K N) : fm_Cv (fm_PP X) 37 [.inl (.ref 1), .inl (.int (nI u))] (N, fm_SH) K X' := by
  refine fe_37 X _ N K X' ?_
  rw [hn, fz_lt (by omega) (by omega), fz_lt (by omega) (by omega)]
  exact ⟨fun z => absurd z (by omega), fun _ => ⟨fun _ => ⟨rfl, k⟩, fun z => absurd hu z⟩⟩
theorem sp_37n (hn : N.1 4 8 = nI n) (h12 : n ≤ 12) (h : ¬ fj_in x n) (k : X' 0 (fj_g N)) : fm_Cv (fm_PP X) 37 [.inl (.ref 1), .inl (.int x)] (N, fm_SH) K X' := by
  refine fe_37 X _ N K X' ?_
  exact ⟨fun _ => ⟨rfl, k⟩, fun z => ⟨fun y => absurd (fj_in_of z (by rw [hn] at y; exact y) (by omega)) h, fun _ => ⟨rfl, k⟩⟩⟩
theorem sp_38y {a b : Nat} (h : fj_rg x a b) (k : K N) : fm_Cv (fm_PP X) 38 [.inl (.ref 1), .inl (.int x), .inl (.int (nI a)), .inl (.int (nI b))] (N, fm_SH) K X' := by
  refine fe_38 X _ _ _ N K X' ?_
  exact ⟨fun z => absurd z h.1, fun _ => ⟨fun _ => ⟨rfl, k⟩, fun z => absurd h.2 z⟩⟩
theorem sp_38n {a b : Nat} (h : ¬ fj_rg x a b) (k : X' 1 (fj_g N)) : fm_Cv (fm_PP X) 38 [.inl (.ref 1), .inl (.int x), .inl (.int (nI a)), .inl (.int (nI b))] (N, fm_SH) K X' := by
  refine fe_38 X _ _ _ N K X' ?_
  exact ⟨fun _ => ⟨rfl, k⟩, fun z => ⟨fun y => absurd ⟨z, y⟩ h, fun _ => ⟨rfl, k⟩⟩⟩
theorem fj_n1 : ¬ (nI 1 = nI 0) := by decide
end FJC
/-! what holds between the law's calls -/
theorem fj_pcs : ∀ j, j < 12 → 25 < fm_pc 0 j ∧ 25 < fm_pc 1 j ∧ 25 < fm_pc 2 j ∧ fm_pc 0 j < 62 ∧ fm_pc 1 j < 62 ∧ fm_pc 2 j < 62 := by decide
theorem fj_hp (cs : List Nat) (h : ∀ c, 25 < c → c < 62 → cs.contains c = false) : ∀ j, j < 12 → cs.contains (fm_pc 0 j) = false ∧ cs.contains (fm_pc 1 j) = false ∧ cs.contains (fm_pc 2 j) = false := fun j hj => by
  obtain ⟨a, b, c, d, e, f⟩ := fj_pcs j hj
  exact ⟨h _ a d, h _ b e, h _ c f⟩
/-- the class's invariant where only such cells change as tell nothing of the grid -/
theorem fk_ic_mk {N N1 : fm_N} {A : fg_A} {o : Nat → Nat} {fc M M' : Nat} {cs : List Nat} (ic : fk_ic N A o fc M) (hF : fx_F cs N N1) (hc : cs.contains 3 = false ∧ cs.contains 4 = false ∧ cs.contains 5 = false ∧ cs.contains 6 = false ∧ cs.contains 8 = false ∧ cs.contains 9 = false ∧ cs.contains 10 = false ∧ cs.contains 11 = false ∧ cs.contains 12 = false ∧ cs.contains 13 = false ∧ cs.contains 14 = false ∧ cs.contains 15 = false ∧ cs.contains 16 = false ∧ cs.contains 17 = false ∧ cs.contains 18 = false) (hR : fk_Rf N1) (hr : fk_rng N1) (h4 : N1.1 21 4 = nI M') (hM : M' < 4096) : fk_ic N1 A o fc M' := by
  obtain ⟨hG, hS, hFi, _, _, _, _, hh⟩ := ic
  obtain ⟨d2, d3, d4, d5, d7, d8, d9, d10, d11, d12, d13, d14, d15, d16, d17⟩ := hc
  have e : fk_gG N1 = fk_gG N := fk_gG_same (hF.1 4 d3) (hF.1 5 d4) (hF.1 6 d5) (hF.1 10 d9) (hF.1 11 d10) (hF.1 12 d11) (fun i => by rw [hF.1 8 d7])
  refine ⟨?_, ?_, ?_, hR, hr, h4, hM, fun i => by rw [hF.1 8 d7]; exact hh i⟩
  · rw [e]; exact hG.fr hF ⟨d3, d4, d5, d8, d9, d10, d11⟩
  · exact hS.fr hF ⟨d2, d12, d13, d14, d15, d16, d17⟩
  · rw [e]; exact hFi
abbrev fj_sc : List Nat := [19, 20, 21, 24, 63]
/-- nothing that tells of the net is changed; at most d more garbage -/
def fj_q (d : Nat) (N N' : fm_N) : Prop := (∀ c, c ≠ 0 → fj_sc.contains c = false → N'.1 c = N.1 c) ∧ (∀ i, i < 400 → N'.1 0 i = N.1 0 i) ∧ N'.1 21 4 = N.1 21 4 ∧ N'.2.1 1 10 = N.2.1 1 10 ∧ N'.2.2.2 ≤ N.2.2.2 + d
theorem fj_q.rf (N : fm_N) : fj_q 0 N N := ⟨fun _ _ _ => rfl, fun _ _ => rfl, rfl, rfl, Nat.le_refl _⟩
theorem fj_q.tr {d e : Nat} {N N' N'' : fm_N} (h : fj_q d N N') (k : fj_q e N' N'') : fj_q (d + e) N N'' := ⟨fun c a b => (k.1 c a b).trans (h.1 c a b), fun i a => (k.2.1 i a).trans (h.2.1 i a), k.2.2.1.trans h.2.2.1, k.2.2.2.1.trans h.2.2.2.1, by have := h.2.2.2.2; have := k.2.2.2.2; omega⟩
theorem fj_q.gc (N : fm_N) : fj_q 1 N (fj_g N) := ⟨fun _ _ _ => rfl, fun _ _ => rfl, rfl, rfl, Nat.le_refl _⟩
theorem fj_q.F {cs : List Nat} {N N' : fm_N} (h : fx_F cs N N') (k : ∀ c, fj_sc.contains c = false → cs.contains c = false) (h4 : cs.contains 21 = false) : fj_q 0 N N' := ⟨fun c _ hc => h.1 c (k c hc), fun i _ => by rw [h.1 0 (k 0 rfl)], by rw [h.1 21 h4], by rw [h.2], by rw [h.2]; exact Nat.le_refl _⟩
theorem fj_q.L {N N' : fm_N} (h : fl_F 400 N N') : fj_q 0 N N' := ⟨fun c hc _ => h.1 c hc, h.2.1, by rw [h.1 21 (by omega)], by rw [h.2.2], by rw [h.2.2]; exact Nat.le_refl _⟩
theorem fj_q.E {d : Nat} {N N' : fm_N} (h : fj_q d N N') : fl_E N N' := by
  refine ⟨fun c hc => h.1 c (by unfold fl_dc at hc; omega) ?_, h.2.2.2.1⟩
  unfold fl_dc at hc
  simp only [List.contains_eq_mem, List.mem_cons, List.not_mem_nil, or_false, decide_eq_false_iff_not]
  omega
theorem fj_q.ic {d : Nat} {N N' : fm_N} {A : fg_A} {o : Nat → Nat} {fc M : Nat} (q : fj_q d N N') (h : fk_ic N A o fc M) : fk_ic N' A o fc M := by
  have hF : fx_F (0 :: fj_sc) N (N'.1, N.2) := ⟨fun c hc => by
    simp only [List.contains_eq_mem, List.mem_cons, decide_eq_false_iff_not, not_or] at hc
    refine q.1 c hc.1 ?_
    simp only [List.contains_eq_mem, List.mem_cons, decide_eq_false_iff_not, not_or]
    exact hc.2, rfl⟩
  have r : fk_ic (N'.1, N.2) A o fc M := fk_ic_mk h hF ⟨rfl, rfl, rfl, rfl, rfl, rfl, rfl, rfl, rfl, rfl, rfl, rfl, rfl, rfl, rfl⟩ (fk_Rf_dt (N' := (N'.1, N.2)) q.E.dt h.2.2.2.1) (fk_rng_dt (N' := (N'.1, N.2)) q.E.dt h.2.2.2.2.1) (q.2.2.1.trans h.2.2.2.2.2.1) h.2.2.2.2.2.2.1
  exact r
/-- the law's net is as the class's -/
def fj_I (N : fm_N) (A : fg_A) (o : Nat → Nat) (fc M mi : Nat) : Prop := fk_ic N A o fc M ∧ fl_T N N M mi ∧ ∀ i, M.testBit i = true → i < fg_n (fk_gG N)
theorem fl_T_0 {R N Y : fm_N} {M mi : Nat} (h : fl_T R N M mi) (e : Y.1 0 = N.1 0) : fl_T R Y M mi := by
  unfold fl_T fl_D fl_G at h ⊢
  rw [e]
  exact h
theorem fl_T_400 {R N Y : fm_N} {M mi : Nat} (h : fl_T R N M mi) (e : ∀ i, i < 400 → Y.1 0 i = N.1 0 i) (hz : ∀ i, i < 8 → fg_n (fk_gG R) ≤ i → Y.1 0 (400 + i) = nI 0) : fl_T R Y M mi := by
  obtain ⟨⟨k1, k2, k3, k4⟩, ⟨g1, g2, g3, g4, g5, g6, g7⟩, h3, -, h5, h6, h7⟩ := h
  refine ⟨⟨?_, ?_, fun i hi => ?_, fun u hu => ?_⟩, ⟨?_, ?_, g3, g4, g5, fun i hi => ?_, fun q hq => ?_⟩, fun i hi => ?_, hz, ?_, ?_, h7⟩
  · rw [e 2 (by omega)]; exact k1
  · rw [e 3 (by omega)]; exact k2
  · rw [e (50 + i) (by omega), e (70 + i) (by omega), e (90 + i) (by omega)]; exact k3 i hi
  · obtain ⟨L, q1, q2, q3, q4, q5⟩ := k4 u hu
    refine ⟨L, q1, q2, by rw [e (210 + u) (by omega)]; exact q3, by rw [e (190 + u) (by omega)]; exact q4, fun k a b => ?_⟩
    rw [e (228 + 8 * u + 2 * k + 1) (by omega), e (228 + 8 * u + 2 * k) (by omega)]
    exact q5 k a b
  · rw [e 0 (by omega)]; exact g1
  · rw [e 1 (by omega)]; exact g2
  · rw [e (10 + i) (by omega), e (150 + i) (by omega), e (30 + i) (by omega)]; exact g6 i hi
  · rw [e (340 + 3 * q) (by omega), e (341 + 3 * q) (by omega), e (342 + 3 * q) (by omega)]; exact g7 q hq
  · rw [e (110 + i) (by omega), e (130 + i) (by omega), e (170 + i) (by omega)]; exact h3 i hi
  · rw [e 4 (by omega)]; exact h5
  · rw [e 5 (by omega)]; exact h6
theorem fj_q.I {d : Nat} {N N' : fm_N} {A : fg_A} {o : Nat → Nat} {fc M mi : Nat} (q : fj_q d N N') (h : fj_I N A o fc M mi) (hz : ∀ i, i < 8 → fg_n (fk_gG N) ≤ i → N'.1 0 (400 + i) = nI 0) : fj_I N' A o fc M mi :=
  ⟨q.ic h.1, q.E.T (fl_T_400 h.2.1 q.2.1 hz), by rw [q.E.gG]; exact h.2.2⟩
theorem fj_q.I0 {d : Nat} {N N' : fm_N} {A : fg_A} {o : Nat → Nat} {fc M mi : Nat} (q : fj_q d N N') (h : fj_I N A o fc M mi) (e : N'.1 0 = N.1 0) : fj_I N' A o fc M mi := q.I h (fun i h1 h2 => by rw [e]; exact h.2.1.2.2.2.1 i h1 h2)
theorem fj_I.g {N : fm_N} {A : fg_A} {o : Nat → Nat} {fc M mi : Nat} (h : fj_I N A o fc M mi) : fj_I (fj_g N) A o fc M mi := (fj_q.gc N).I0 h rfl
theorem fj_I.mo {N : fm_N} {A : fg_A} {o : Nat → Nat} {fc M mi mj : Nat} (h : fj_I N A o fc M mi) (k : mi ≤ mj) (hm : mj ≤ 1000) : fj_I N A o fc M mj := by
  obtain ⟨h1, ⟨k1, k2, k3, k4, k5, ⟨c, k6, k7, k8⟩, k9⟩, h3⟩ := h
  refine ⟨h1, ⟨k1, k2, fun i hi => ?_, k4, k5, ⟨c, k6, k7, by omega⟩, hm⟩, h3⟩
  obtain ⟨q1, q2, q3, e, q4, q5⟩ := k3 i hi
  exact ⟨q1, q2, q3, e, q4, by omega⟩
/-- the net again after a call that leaves the grid as it was -/
theorem fl_T_mk {N N1 : fm_N} {M M' mi : Nat} (h : fl_T N N M mi) (eG : fk_gG N1 = fk_gG N) (n : ∀ j, (j ≤ 1 ∨ j = 4 ∨ j = 5 ∨ (10 ≤ j ∧ j < 18) ∨ (30 ≤ j ∧ j < 38) ∨ (110 ≤ j ∧ j < 118) ∨ (130 ≤ j ∧ j < 138) ∨ (150 ≤ j ∧ j < 158) ∨ (340 ≤ j ∧ j < 352) ∨ 400 ≤ j) → N1.1 0 j = N.1 0 j)
    (a2 : N1.1 0 2 = N1.1 1 7) (a3 : N1.1 0 3 = N1.1 1 8) (a5 : ∀ i, i < 8 → N1.1 0 (50 + i) = N1.1 7 i) (a7 : ∀ i, i < 8 → N1.1 0 (70 + i) = N1.1 62 i) (a9 : ∀ i, i < 8 → N1.1 0 (90 + i) = N1.1 22 i)
    (a19 : ∀ u, u < 8 → ∃ L, L ≤ 4 ∧ N1.1 (fm_pc 0 u) 2 = nI (L + 1) ∧ N1.1 0 (210 + u) = nI L ∧ N1.1 0 (190 + u) = N1.1 (fm_pc 2 u) 0 ∧ ∀ k, 1 ≤ k → k ≤ L → N1.1 0 (228 + 8 * u + 2 * k + 1) = N1.1 (fm_pc 2 u) k ∧ (N1.1 0 (228 + 8 * u + 2 * k) = nI 0 ↔ N1.1 (fm_pc 1 u) k = nI 0))
    (r23 : N1.1 23 = N.1 23) (r8 : N1.1 8 = N.1 8) (a17 : ∀ i, i < 8 → N1.1 0 (170 + i) = fz_b (M'.testBit i)) (b9 : N1.1 1 9 = N.1 1 9) (l : N1.2.1 1 10 = N.2.1 1 10) : fl_T N1 N1 M' mi := by
  obtain ⟨-, ⟨g1, g2, g3, g4, g5, g6, g7⟩, h3, h4, h5, h6, h7⟩ := h
  refine ⟨⟨a2, a3, fun i hi => ⟨a5 i hi, a7 i hi, a9 i hi⟩, a19⟩, ?_, fun i hi => ?_, fun i hi hin => ?_, ?_, ?_, h7⟩
  · rw [eG]
    refine ⟨?_, ?_, g3, g4, g5, fun i hi => ?_, fun q hq => ?_⟩
    · rw [n 0 (by omega)]; exact g1
    · rw [n 1 (by omega)]; exact g2
    · rw [n (10 + i) (by omega), n (150 + i) (by omega), n (30 + i) (by omega)]; exact g6 i hi
    · rw [n (340 + 3 * q) (by omega), n (341 + 3 * q) (by omega), n (342 + 3 * q) (by omega)]; exact g7 q hq
  · obtain ⟨q1, q2, q3, q4⟩ := h3 i hi
    rw [n (110 + i) (by omega), n (130 + i) (by omega), r23, r8]
    exact ⟨q1, q2, a17 i hi, q4⟩
  · rw [n (400 + i) (by omega)]
    rw [eG] at hin
    exact h4 i hi hin
  · rw [n 4 (by omega), b9]; exact h5
  · rw [n 5 (by omega), l]; exact h6
section FJS
variable {N : fm_N} {A : fg_A} {o : Nat → Nat} {fc M mi u : Nat} {y : Int32}
theorem fj_pi {a b j u : Nat} (ha : a < 3) (hb : b < 3) (h : fm_pc a j = fm_pc b u) : a = b ∧ j = u := by
  have h : 26 + 3 * j + a = 26 + 3 * u + b := h
  omega
theorem fj_pn {a b j u : Nat} (ha : a < 3) (hb : b < 3) (h : a ≠ b ∨ j ≠ u) : fm_pc a j ≠ fm_pc b u := fun e => by
  have := fj_pi ha hb e
  omega
theorem fj_pb {a j c : Nat} (ha : a < 3) (hj : j < 12) (hc : c < 26 ∨ 61 < c) : fm_pc a j ≠ c := fun e => by
  have h : 26 + 3 * j + a = c := e
  omega
theorem fj_base (hI : fj_I N A o fc M mi) : fj_I (fm_uI (fm_uI N.1 0 2 y) 1 7 y, N.2) A o fc M mi := by
  obtain ⟨ic, hT, hb⟩ := hI
  have hR := ic.2.2.2.1
  have hr := ic.2.2.2.2.1
  have hF : fx_F [0, 1] N (fm_uI (fm_uI N.1 0 2 y) 1 7 y, N.2) := ((fx_F.rf _ N).up rfl).up rfl
  have e := hF.1
  have hp := fj_hp [0, 1] (by intro c h1 h2; simp; omega)
  have dt : ∀ j, j < 12 → (fm_uI (fm_uI N.1 0 2 y) 1 7 y, N.2).1 (fm_pc 0 j) = N.1 (fm_pc 0 j) ∧ (fm_uI (fm_uI N.1 0 2 y) 1 7 y, N.2).1 (fm_pc 1 j) = N.1 (fm_pc 1 j) ∧ (fm_uI (fm_uI N.1 0 2 y) 1 7 y, N.2).1 (fm_pc 2 j) = N.1 (fm_pc 2 j) := fun j hj => ⟨e _ (hp j hj).1, e _ (hp j hj).2.1, e _ (hp j hj).2.2⟩
  have eG : fk_gG (fm_uI (fm_uI N.1 0 2 y) 1 7 y, N.2) = fk_gG N := fk_gG_same (e 4 rfl) (e 5 rfl) (e 6 rfl) (e 10 rfl) (e 11 rfl) (e 12 rfl) (fun i => by rw [e 8 rfl])
  obtain ⟨⟨k1, k2, k3, k4⟩, -, h3, -, -, -, -⟩ := id hT
  refine ⟨fk_ic_mk ic hF ⟨rfl, rfl, rfl, rfl, rfl, rfl, rfl, rfl, rfl, rfl, rfl, rfl, rfl, rfl, rfl⟩ (fun j hj => by rw [(dt j hj).1]; exact hR j hj) ⟨fun i hi => ⟨?_, ?_, ?_⟩, ?_, fun j hj k hk => by rw [(dt j hj).2.2]; exact hr.2.2 j hj k hk⟩ (by rw [e 21 rfl]; exact ic.2.2.2.2.2.1) ic.2.2.2.2.2.2.1, fl_T_mk hT eG (fun j hj => ?_) ?_ ?_ (fun i hi => ?_) (fun i hi => ?_) (fun i hi => ?_) (fun u hu => ?_) (e 23 rfl) (e 8 rfl) (fun i hi => ?_) ?_ rfl, fun i hi => by rw [eG]; exact hb i hi⟩
  · rw [e 62 rfl]; exact (hr.1 i hi).1
  · rw [e 22 rfl]; exact (hr.1 i hi).2.1
  · rw [e 7 rfl]; exact (hr.1 i hi).2.2
  · simp (disch := omega) only [fz_an, fz_ae, fz_ne]
    exact hr.2.1
  · simp (disch := omega) only [fz_an, fz_ae, fz_ne]
  · simp (disch := omega) only [fz_an, fz_ae, fz_ne]
  · simp (disch := omega) only [fz_an, fz_ae, fz_ne]
    exact k2
  · simp (disch := omega) only [fz_an, fz_ae, fz_ne]
    exact (k3 i hi).1
  · simp (disch := omega) only [fz_an, fz_ae, fz_ne]
    exact (k3 i hi).2.1
  · simp (disch := omega) only [fz_an, fz_ae, fz_ne]
    exact (k3 i hi).2.2
  · rw [(dt u (by omega)).1, (dt u (by omega)).2.1, (dt u (by omega)).2.2]
    obtain ⟨L, q1, q2, q3, q4, q5⟩ := k4 u hu
    refine ⟨L, q1, q2, ?_, ?_, fun k hk1 hk2 => ?_⟩
    · simp (disch := omega) only [fz_an, fz_ae, fz_ne]
      exact q3
    · simp (disch := omega) only [fz_an, fz_ae, fz_ne]
      exact q4
    · simp (disch := omega) only [fz_an, fz_ae, fz_ne]
      exact q5 k hk1 hk2
  · simp (disch := omega) only [fz_an, fz_ae, fz_ne]
    exact (h3 i hi).2.2.1
  · simp (disch := omega) only [fz_an, fz_ae, fz_ne]
theorem fj_sun (hI : fj_I N A o fc M mi) (hy : fz_bd 0 100 y) : fj_I (fm_uI (fm_uI N.1 0 3 y) 1 8 y, N.2) A o fc M mi := by
  obtain ⟨ic, hT, hb⟩ := hI
  have hR := ic.2.2.2.1
  have hr := ic.2.2.2.2.1
  have hF : fx_F [0, 1] N (fm_uI (fm_uI N.1 0 3 y) 1 8 y, N.2) := ((fx_F.rf _ N).up rfl).up rfl
  have e := hF.1
  have hp := fj_hp [0, 1] (by intro c h1 h2; simp; omega)
  have dt : ∀ j, j < 12 → (fm_uI (fm_uI N.1 0 3 y) 1 8 y, N.2).1 (fm_pc 0 j) = N.1 (fm_pc 0 j) ∧ (fm_uI (fm_uI N.1 0 3 y) 1 8 y, N.2).1 (fm_pc 1 j) = N.1 (fm_pc 1 j) ∧ (fm_uI (fm_uI N.1 0 3 y) 1 8 y, N.2).1 (fm_pc 2 j) = N.1 (fm_pc 2 j) := fun j hj => ⟨e _ (hp j hj).1, e _ (hp j hj).2.1, e _ (hp j hj).2.2⟩
  have eG : fk_gG (fm_uI (fm_uI N.1 0 3 y) 1 8 y, N.2) = fk_gG N := fk_gG_same (e 4 rfl) (e 5 rfl) (e 6 rfl) (e 10 rfl) (e 11 rfl) (e 12 rfl) (fun i => by rw [e 8 rfl])
  obtain ⟨⟨k1, k2, k3, k4⟩, -, h3, -, -, -, -⟩ := id hT
  refine ⟨fk_ic_mk ic hF ⟨rfl, rfl, rfl, rfl, rfl, rfl, rfl, rfl, rfl, rfl, rfl, rfl, rfl, rfl, rfl⟩ (fun j hj => by rw [(dt j hj).1]; exact hR j hj) ⟨fun i hi => ⟨?_, ?_, ?_⟩, ?_, fun j hj k hk => by rw [(dt j hj).2.2]; exact hr.2.2 j hj k hk⟩ (by rw [e 21 rfl]; exact ic.2.2.2.2.2.1) ic.2.2.2.2.2.2.1, fl_T_mk hT eG (fun j hj => ?_) ?_ ?_ (fun i hi => ?_) (fun i hi => ?_) (fun i hi => ?_) (fun u hu => ?_) (e 23 rfl) (e 8 rfl) (fun i hi => ?_) ?_ rfl, fun i hi => by rw [eG]; exact hb i hi⟩
  · rw [e 62 rfl]; exact (hr.1 i hi).1
  · rw [e 22 rfl]; exact (hr.1 i hi).2.1
  · rw [e 7 rfl]; exact (hr.1 i hi).2.2
  · simp (disch := omega) only [fz_an, fz_ae, fz_ne]
    exact hy
  · simp (disch := omega) only [fz_an, fz_ae, fz_ne]
  · simp (disch := omega) only [fz_an, fz_ae, fz_ne]
    exact k1
  · simp (disch := omega) only [fz_an, fz_ae, fz_ne]
  · simp (disch := omega) only [fz_an, fz_ae, fz_ne]
    exact (k3 i hi).1
  · simp (disch := omega) only [fz_an, fz_ae, fz_ne]
    exact (k3 i hi).2.1
  · simp (disch := omega) only [fz_an, fz_ae, fz_ne]
    exact (k3 i hi).2.2
  · rw [(dt u (by omega)).1, (dt u (by omega)).2.1, (dt u (by omega)).2.2]
    obtain ⟨L, q1, q2, q3, q4, q5⟩ := k4 u hu
    refine ⟨L, q1, q2, ?_, ?_, fun k hk1 hk2 => ?_⟩
    · simp (disch := omega) only [fz_an, fz_ae, fz_ne]
      exact q3
    · simp (disch := omega) only [fz_an, fz_ae, fz_ne]
      exact q4
    · simp (disch := omega) only [fz_an, fz_ae, fz_ne]
      exact q5 k hk1 hk2
  · simp (disch := omega) only [fz_an, fz_ae, fz_ne]
    exact (h3 i hi).2.2.1
  · simp (disch := omega) only [fz_an, fz_ae, fz_ne]
theorem fj_load (hI : fj_I N A o fc M mi) (hu8 : u < 8) (hy : fz_bd 0 200 y) : fj_I (fm_uI (fm_uI N.1 0 (70 + u) y) 62 u y, N.2) A o fc M mi := by
  obtain ⟨ic, hT, hb⟩ := hI
  have hR := ic.2.2.2.1
  have hr := ic.2.2.2.2.1
  have hF : fx_F [0, 62] N (fm_uI (fm_uI N.1 0 (70 + u) y) 62 u y, N.2) := ((fx_F.rf _ N).up rfl).up rfl
  have e := hF.1
  have hp := fj_hp [0, 62] (by intro c h1 h2; simp; omega)
  have dt : ∀ j, j < 12 → (fm_uI (fm_uI N.1 0 (70 + u) y) 62 u y, N.2).1 (fm_pc 0 j) = N.1 (fm_pc 0 j) ∧ (fm_uI (fm_uI N.1 0 (70 + u) y) 62 u y, N.2).1 (fm_pc 1 j) = N.1 (fm_pc 1 j) ∧ (fm_uI (fm_uI N.1 0 (70 + u) y) 62 u y, N.2).1 (fm_pc 2 j) = N.1 (fm_pc 2 j) := fun j hj => ⟨e _ (hp j hj).1, e _ (hp j hj).2.1, e _ (hp j hj).2.2⟩
  have eG : fk_gG (fm_uI (fm_uI N.1 0 (70 + u) y) 62 u y, N.2) = fk_gG N := fk_gG_same (e 4 rfl) (e 5 rfl) (e 6 rfl) (e 10 rfl) (e 11 rfl) (e 12 rfl) (fun i => by rw [e 8 rfl])
  obtain ⟨⟨k1, k2, k3, k4⟩, -, h3, -, -, -, -⟩ := id hT
  refine ⟨fk_ic_mk ic hF ⟨rfl, rfl, rfl, rfl, rfl, rfl, rfl, rfl, rfl, rfl, rfl, rfl, rfl, rfl, rfl⟩ (fun j hj => by rw [(dt j hj).1]; exact hR j hj) ⟨fun i hi => ⟨?_, ?_, ?_⟩, ?_, fun j hj k hk => by rw [(dt j hj).2.2]; exact hr.2.2 j hj k hk⟩ (by rw [e 21 rfl]; exact ic.2.2.2.2.2.1) ic.2.2.2.2.2.2.1, fl_T_mk hT eG (fun j hj => ?_) ?_ ?_ (fun i hi => ?_) (fun i hi => ?_) (fun i hi => ?_) (fun u hu => ?_) (e 23 rfl) (e 8 rfl) (fun i hi => ?_) ?_ rfl, fun i hi => by rw [eG]; exact hb i hi⟩
  · by_cases z : i = u
    · subst z
      simp (disch := omega) only [fz_an, fz_ae, fz_ne]
      exact hy
    · simp (disch := omega) only [fz_an, fz_ae, fz_ne]
      exact (hr.1 i hi).1
  · rw [e 22 rfl]; exact (hr.1 i hi).2.1
  · rw [e 7 rfl]; exact (hr.1 i hi).2.2
  · rw [e 1 rfl]; exact hr.2.1
  · simp (disch := omega) only [fz_an, fz_ae, fz_ne]
  · simp (disch := omega) only [fz_an, fz_ae, fz_ne]
    exact k1
  · simp (disch := omega) only [fz_an, fz_ae, fz_ne]
    exact k2
  · simp (disch := omega) only [fz_an, fz_ae, fz_ne]
    exact (k3 i hi).1
  · by_cases z : i = u
    · subst z
      simp (disch := omega) only [fz_an, fz_ae, fz_ne]
    · simp (disch := omega) only [fz_an, fz_ae, fz_ne]
      exact (k3 i hi).2.1
  · simp (disch := omega) only [fz_an, fz_ae, fz_ne]
    exact (k3 i hi).2.2
  · rw [(dt u (by omega)).1, (dt u (by omega)).2.1, (dt u (by omega)).2.2]
    obtain ⟨L, q1, q2, q3, q4, q5⟩ := k4 u hu
    refine ⟨L, q1, q2, ?_, ?_, fun k hk1 hk2 => ?_⟩
    · simp (disch := omega) only [fz_an, fz_ae, fz_ne]
      exact q3
    · simp (disch := omega) only [fz_an, fz_ae, fz_ne]
      exact q4
    · simp (disch := omega) only [fz_an, fz_ae, fz_ne]
      exact q5 k hk1 hk2
  · simp (disch := omega) only [fz_an, fz_ae, fz_ne]
    exact (h3 i hi).2.2.1
  · rw [e 1 rfl]
theorem fj_char (hI : fj_I N A o fc M mi) (hu8 : u < 8) (hy : fz_bd 0 64 y) : fj_I (fm_uI (fm_uI (fm_uI (fm_uI N.1 0 (90 + u) y) 0 (170 + u) (nI 0)) 22 u y) 21 4 (nI (fb_cl M u)), N.2) A o fc (fb_cl M u) mi := by
  obtain ⟨ic, hT, hb⟩ := hI
  have hR := ic.2.2.2.1
  have hr := ic.2.2.2.2.1
  have hF : fx_F [0, 21, 22] N (fm_uI (fm_uI (fm_uI (fm_uI N.1 0 (90 + u) y) 0 (170 + u) (nI 0)) 22 u y) 21 4 (nI (fb_cl M u)), N.2) := ((((fx_F.rf _ N).up rfl).up rfl).up rfl).up rfl
  have e := hF.1
  have hp := fj_hp [0, 21, 22] (by intro c h1 h2; simp; omega)
  have dt : ∀ j, j < 12 → (fm_uI (fm_uI (fm_uI (fm_uI N.1 0 (90 + u) y) 0 (170 + u) (nI 0)) 22 u y) 21 4 (nI (fb_cl M u)), N.2).1 (fm_pc 0 j) = N.1 (fm_pc 0 j) ∧ (fm_uI (fm_uI (fm_uI (fm_uI N.1 0 (90 + u) y) 0 (170 + u) (nI 0)) 22 u y) 21 4 (nI (fb_cl M u)), N.2).1 (fm_pc 1 j) = N.1 (fm_pc 1 j) ∧ (fm_uI (fm_uI (fm_uI (fm_uI N.1 0 (90 + u) y) 0 (170 + u) (nI 0)) 22 u y) 21 4 (nI (fb_cl M u)), N.2).1 (fm_pc 2 j) = N.1 (fm_pc 2 j) := fun j hj => ⟨e _ (hp j hj).1, e _ (hp j hj).2.1, e _ (hp j hj).2.2⟩
  have eG : fk_gG (fm_uI (fm_uI (fm_uI (fm_uI N.1 0 (90 + u) y) 0 (170 + u) (nI 0)) 22 u y) 21 4 (nI (fb_cl M u)), N.2) = fk_gG N := fk_gG_same (e 4 rfl) (e 5 rfl) (e 6 rfl) (e 10 rfl) (e 11 rfl) (e 12 rfl) (fun i => by rw [e 8 rfl])
  obtain ⟨⟨k1, k2, k3, k4⟩, -, h3, -, -, -, -⟩ := id hT
  have hcl : ∀ i, (fb_cl M u).testBit i = true → i < fg_n (fk_gG N) := fun i h => by
    have hi : i < 12 := by
      by_cases z : i < 12
      · exact z
      · rw [fb_hi (fb_cl_lt ic.2.2.2.2.2.2.1) (by omega)] at h; cases h
    rw [fb_cl_bit hi, Bool.and_eq_true] at h
    exact hb i h.1
  refine ⟨fk_ic_mk ic hF ⟨rfl, rfl, rfl, rfl, rfl, rfl, rfl, rfl, rfl, rfl, rfl, rfl, rfl, rfl, rfl⟩ (fun j hj => by rw [(dt j hj).1]; exact hR j hj) ⟨fun i hi => ⟨?_, ?_, ?_⟩, ?_, fun j hj k hk => by rw [(dt j hj).2.2]; exact hr.2.2 j hj k hk⟩ (by simp (disch := omega) only [fz_ae]) (fb_cl_lt ic.2.2.2.2.2.2.1), fl_T_mk hT eG (fun j hj => ?_) ?_ ?_ (fun i hi => ?_) (fun i hi => ?_) (fun i hi => ?_) (fun u hu => ?_) (e 23 rfl) (e 8 rfl) (fun i hi => ?_) ?_ rfl, fun i hi => by rw [eG]; exact hcl i hi⟩
  · rw [e 62 rfl]; exact (hr.1 i hi).1
  · by_cases z : i = u
    · subst z
      simp (disch := omega) only [fz_an, fz_ae, fz_ne]
      exact hy
    · simp (disch := omega) only [fz_an, fz_ae, fz_ne]
      exact (hr.1 i hi).2.1
  · rw [e 7 rfl]; exact (hr.1 i hi).2.2
  · rw [e 1 rfl]; exact hr.2.1
  · simp (disch := omega) only [fz_an, fz_ae, fz_ne]
  · simp (disch := omega) only [fz_an, fz_ae, fz_ne]
    exact k1
  · simp (disch := omega) only [fz_an, fz_ae, fz_ne]
    exact k2
  · simp (disch := omega) only [fz_an, fz_ae, fz_ne]
    exact (k3 i hi).1
  · simp (disch := omega) only [fz_an, fz_ae, fz_ne]
    exact (k3 i hi).2.1
  · by_cases z : i = u
    · subst z
      simp (disch := omega) only [fz_an, fz_ae, fz_ne]
    · simp (disch := omega) only [fz_an, fz_ae, fz_ne]
      exact (k3 i hi).2.2
  · rw [(dt u (by omega)).1, (dt u (by omega)).2.1, (dt u (by omega)).2.2]
    obtain ⟨L, q1, q2, q3, q4, q5⟩ := k4 u hu
    refine ⟨L, q1, q2, ?_, ?_, fun k hk1 hk2 => ?_⟩
    · simp (disch := omega) only [fz_an, fz_ae, fz_ne]
      exact q3
    · simp (disch := omega) only [fz_an, fz_ae, fz_ne]
      exact q4
    · simp (disch := omega) only [fz_an, fz_ae, fz_ne]
      exact q5 k hk1 hk2
  · by_cases z : i = u
    · subst z
      simp (disch := omega) only [fz_an, fz_ae, fz_ne]
      rw [fb_cl_bit (by omega), decide_eq_true rfl, Bool.not_true, Bool.and_false]
      rfl
    · simp (disch := omega) only [fz_an, fz_ae, fz_ne]
      rw [fb_cl_bit (by omega), decide_eq_false (fun q => z q.symm), Bool.not_false, Bool.and_true]
      exact (h3 i hi).2.2.1
  · rw [e 1 rfl]
end FJS
