/-! what holds before each call of the law -/
abbrev fj_sc : List Nat := [18, 19, 20, 23, 62, 63, 73, 74, 82, 83, 84, 85, 86, 87, 88]
/-- nothing that tells of the net is changed; at most d exceptions more -/
def fj_q (d : Nat) (N N' : fm_N) : Prop := (∀ c, fj_sc.contains c = false → N'.1 c = N.1 c) ∧ N'.1 20 4 = N.1 20 4 ∧ (∀ i, i ≠ 30 → i ≠ 31 → N'.1 63 i = N.1 63 i) ∧ N'.2.1 0 10 = N.2.1 0 10 ∧ N'.2.1 63 32 = N.2.1 63 32 ∧ N'.2.2.2 ≤ N.2.2.2 + d
theorem fj_q.rf (N : fm_N) : fj_q 0 N N := ⟨fun _ _ => rfl, rfl, fun _ _ _ => rfl, rfl, rfl, Nat.le_refl _⟩
theorem fj_q.tr {d e : Nat} {N N' N'' : fm_N} (h : fj_q d N N') (k : fj_q e N' N'') : fj_q (d + e) N N'' := ⟨fun c hc => (k.1 c hc).trans (h.1 c hc), k.2.1.trans h.2.1, fun i a b => (k.2.2.1 i a b).trans (h.2.2.1 i a b), k.2.2.2.1.trans h.2.2.2.1, k.2.2.2.2.1.trans h.2.2.2.2.1, by have := h.2.2.2.2.2; have := k.2.2.2.2.2; omega⟩
theorem fj_q.mo {d e : Nat} {N N' : fm_N} (h : fj_q d N N') (k : d ≤ e) : fj_q e N N' := ⟨h.1, h.2.1, h.2.2.1, h.2.2.2.1, h.2.2.2.2.1, by have := h.2.2.2.2.2; omega⟩
theorem fj_q.F {cs : List Nat} {N N' : fm_N} (h : fx_F cs N N') (k : ∀ c, fj_sc.contains c = false → cs.contains c = false) (h4 : N'.1 20 4 = N.1 20 4) (h63 : ∀ i, i ≠ 30 → i ≠ 31 → N'.1 63 i = N.1 63 i) : fj_q 0 N N' := ⟨fun c hc => h.1 c (k c hc), h4, h63, by rw [h.2], by rw [h.2], by rw [h.2]; exact Nat.le_refl _⟩
theorem fj_q.Fx {cs : List Nat} {N N' : fm_N} (h : fx_F cs N N') (k : ∀ c, fj_sc.contains c = false → cs.contains c = false) (h4 : cs.contains 20 = false) (h63 : cs.contains 63 = false) : fj_q 0 N N' := .F h k (by rw [h.1 20 h4]) (fun i _ _ => by rw [h.1 63 h63])
theorem fj_q.gc (N : fm_N) : fj_q 1 N (N.1, N.2.1, N.2.2.1, N.2.2.2 + 1) := ⟨fun _ _ => rfl, rfl, fun _ _ _ => rfl, rfl, rfl, Nat.le_refl _⟩
theorem fj_q.th (N : fm_N) (x : Int32) : fj_q 0 N (fm_uI N.1 63 31 x, N.2) := ⟨fun c hc => by
    have z : c ≠ 63 := by intro e; subst e; cases hc
    funext i
    simp [fm_uI, z], by simp [fm_uI], fun i _ h => by simp [fm_uI, h], rfl, rfl, Nat.le_refl _⟩
theorem fj_q.lo (N : fm_N) (v : Int64) : fj_q 0 N (N.1, fm_uI N.2.1 89 ((nI 0).toNatClampNeg) v, N.2.2) := ⟨fun _ _ => rfl, rfl, fun _ _ _ => rfl, by simp [fm_uI], by simp [fm_uI], Nat.le_refl _⟩
theorem fj_q.dF {d : Nat} {N N' : fm_N} (h : fj_q d N N') : fx_F fj_sc N (N'.1, N.2) := ⟨h.1, rfl⟩
theorem fj_pc : ∀ j, j < 12 → fj_sc.contains (fm_pc 0 j) = false ∧ fj_sc.contains (fm_pc 1 j) = false ∧ fj_sc.contains (fm_pc 2 j) = false := by decide
theorem fj_q.cp {d e M : Nat} {R R' N N' : fm_N} (hR : fj_q d R R') (hN : fj_q e N N') (h : fn_cp R N M) : fn_cp R' N' M := by
  obtain ⟨⟨c25, c26, c27, c28, c29, c32⟩, ⟨c64, c65, c66, c67, c68, c69, c70⟩, c71, c72, ⟨c78, c79, c80⟩, cR⟩ := h
  obtain ⟨r1, r2, r3, r4, r5, -⟩ := hR
  obtain ⟨n1, n2, n3, n4, n5, -⟩ := hN
  refine ⟨⟨?_, ?_, ?_, ?_, ?_, ?_⟩, ⟨?_, ?_, ?_, ?_, ?_, ?_, ?_⟩, fun i hi => ?_, fun i hi => ?_, ⟨?_, ?_, ?_⟩, fun j hj => ?_⟩
  · rw [n3 25 (by decide) (by decide), r1 3 rfl]; exact c25
  · rw [n3 26 (by decide) (by decide), r1 3 rfl]; exact c26
  · rw [n3 27 (by decide) (by decide), r1 0 rfl]; exact c27
  · rw [n3 28 (by decide) (by decide), r1 0 rfl]; exact c28
  · rw [n3 29 (by decide) (by decide), r1 0 rfl]; exact c29
  · rw [n5, r4]; exact c32
  · rw [n1 64 rfl, r1 4 rfl]; exact c64
  · rw [n1 65 rfl, r1 5 rfl]; exact c65
  · rw [n1 66 rfl, r1 6 rfl]; exact c66
  · rw [n1 67 rfl, r1 61 rfl]; exact c67
  · rw [n1 68 rfl, r1 21 rfl]; exact c68
  · rw [n1 69 rfl, r1 22 rfl]; exact c69
  · rw [n1 70 rfl, r1 7 rfl]; exact c70
  · rw [n1 71 rfl, r1 8 rfl]; exact c71 i hi
  · rw [n1 72 rfl]; exact c72 i hi
  · rw [n1 78 rfl, r1 9 rfl]; exact c78
  · rw [n1 79 rfl, r1 10 rfl]; exact c79
  · rw [n1 80 rfl, r1 11 rfl]; exact c80
  · obtain ⟨t0, t1, t2⟩ := fj_pc j hj
    rw [r1 _ t0, r1 _ t1, r1 _ t2, n1 75 rfl, n1 76 rfl, n1 77 rfl, n1 81 rfl]
    exact cR j hj
theorem fj_q.gG {d : Nat} {N N' : fm_N} (h : fj_q d N N') : fk_gG N' = fk_gG N := fk_gG_same (h.1 3 rfl) (h.1 4 rfl) (h.1 5 rfl) (h.1 9 rfl) (h.1 10 rfl) (h.1 11 rfl) (fun i => by rw [h.1 7 rfl])
theorem fj_q.dt {d : Nat} {N N' : fm_N} (h : fj_q d N N') : fk_dt N N' := fk_dt.of h.1 (by rw [h.1 0 rfl]) (by rw [h.1 0 rfl]) rfl rfl rfl fj_pc
theorem fj_q.ic {d : Nat} {N N' : fm_N} {A : fg_A} {o : Nat → Nat} {fc M : Nat} (q : fj_q d N N') (h : fk_ic N A o fc M) : fk_ic N' A o fc M := by
  obtain ⟨hG, hS, hF, hR, hr, h4, hM, hh⟩ := h
  have e := q.gG
  have hG' : fk_G (N'.1, N.2) (fk_gG N) := hG.fr q.dF ⟨rfl, rfl, rfl, rfl, rfl, rfl, rfl⟩
  have hS' : fk_S (N'.1, N.2) A o fc := hS.fr q.dF ⟨rfl, rfl, rfl, rfl, rfl, rfl, rfl⟩
  refine ⟨by rw [e]; exact hG', hS', by rw [e]; exact hF, fk_Rf_dt q.dt hR, fk_rng_dt q.dt hr, q.2.1.trans h4, hM, fun i => by rw [q.1 7 rfl]; exact hh i⟩
/-- what always holds between the calls -/
def fj_I (N : fm_N) (A : fg_A) (o : Nat → Nat) (fc M : Nat) : Prop := fk_ic N A o fc M ∧ fn_cp N N M ∧ ∀ i, M.testBit i = true → i < fg_n (fk_gG N)
theorem fj_q.I {d : Nat} {N N' : fm_N} {A : fg_A} {o : Nat → Nat} {fc M : Nat} (q : fj_q d N N') (h : fj_I N A o fc M) : fj_I N' A o fc M := ⟨q.ic h.1, q.cp q h.2.1, by rw [q.gG]; exact h.2.2⟩
/-- the model's part of a call that changes nothing -/
def fj_n (N N' : fm_N) : Prop := fj_q 0 N N' ∧ N'.2 = N.2
theorem fj_n.rf (N : fm_N) : fj_n N N := ⟨.rf N, rfl⟩
theorem fj_n.tr {N N' N'' : fm_N} (h : fj_n N N') (k : fj_n N' N'') : fj_n N N'' := ⟨h.1.tr k.1, k.2.trans h.2⟩
theorem fj_n.th (N : fm_N) (x : Int32) : fj_n N (fm_uI N.1 63 31 x, N.2) := ⟨.th N x, rfl⟩
theorem fj_n.F {cs : List Nat} {N N' : fm_N} (h : fx_F cs N N') (k : ∀ c, fj_sc.contains c = false → cs.contains c = false) (h4 : cs.contains 20 = false) (h63 : cs.contains 63 = false) : fj_n N N' := ⟨.Fx h k h4 h63, h.2⟩
/-- the end of a case of the law: the codes agree, and the answers if there are any -/
theorem fj_end {r6 r2 r4 : Int32} {N5 : fm_N} {E F : Prop} (h6 : r6 = r2) (hE : E) (hv : r2 = nI 0 → N5.2.1 89 0 = r4.toInt64) : (r6 = r2 → ((r2 = nI 0 → (fm_inb (nI 0) 1 ∧ (((lg_cmp (N5.2.1 89 (nI 0).toNatClampNeg) r4.toInt64) = nI 0 → E) ∧ (¬ ((lg_cmp (N5.2.1 89 (nI 0).toNatClampNeg) r4.toInt64) = nI 0) → F)))) ∧ (¬ (r2 = nI 0) → E))) ∧ (¬ (r6 = r2) → F) := by
  refine ⟨fun _ => ⟨fun h => ⟨fz_in (by omega) (by omega), fun _ => hE, fun z => absurd ?_ z⟩, fun _ => hE⟩, fun z => absurd h6 z⟩
  rw [fz_t (by omega), hv h]
  unfold lg_cmp
  simp
  rfl
