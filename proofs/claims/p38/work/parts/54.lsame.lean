/-! a minute of the law's net is the class's -/
def fl_dc (c : Nat) : Prop := c = 1 ∨ (4 ≤ c ∧ c ≤ 12 ∧ c ≠ 9) ∨ c = 22 ∨ c = 23 ∨ (26 ≤ c ∧ c ≤ 62)
/-- both tell the same of the net -/
def fl_E (R C : fm_N) : Prop := (∀ c, fl_dc c → C.1 c = R.1 c) ∧ C.2.1 1 10 = R.2.1 1 10
theorem fl_E.rf (R : fm_N) : fl_E R R := ⟨fun _ _ => rfl, rfl⟩
theorem fl_dc_pc {t j : Nat} (ht : t < 3) (hj : j < 12) : fl_dc (fm_pc t j) := by
  unfold fl_dc fm_pc fm_R0
  omega
theorem fl_E.gG {R C : fm_N} (h : fl_E R C) : fk_gG C = fk_gG R := by
  have e := h.1
  unfold fk_gG
  rw [e 4 (by unfold fl_dc; omega), e 5 (by unfold fl_dc; omega), e 6 (by unfold fl_dc; omega), e 8 (by unfold fl_dc; omega), e 10 (by unfold fl_dc; omega), e 11 (by unfold fl_dc; omega), e 12 (by unfold fl_dc; omega)]
theorem fl_E.dt {R C : fm_N} (h : fl_E R C) : fk_dt R C := by
  have e := h.1
  refine ⟨by rw [e 1 (by unfold fl_dc; omega)], by rw [e 1 (by unfold fl_dc; omega)], e 7 (by unfold fl_dc; omega), e 22 (by unfold fl_dc; omega), e 62 (by unfold fl_dc; omega), fun j hj => ⟨e _ (fl_dc_pc (by omega) hj), e _ (fl_dc_pc (by omega) hj), e _ (fl_dc_pc (by omega) hj)⟩⟩
theorem fl_E.K {R C : fm_N} (h : fl_E R C) (k : fl_K R) : fl_K C := ⟨fk_rng_dt h.dt k.1, fk_Rf_dt h.dt k.2.1, fun i => by rw [h.1 8 (by unfold fl_dc; omega)]; exact k.2.2 i⟩
theorem fl_E.D {R C N : fm_N} (h : fl_E R C) (k : fl_D R N) : fl_D C N := by
  obtain ⟨k1, k2, k3, k4⟩ := k
  obtain ⟨d1, d2, d3, d4, d5, d6⟩ := h.dt
  refine ⟨by rw [d1]; exact k1, by rw [d2]; exact k2, fun i hi => by rw [d3, d4, d5]; exact k3 i hi, fun u hu => ?_⟩
  obtain ⟨t0, t1, t2⟩ := d6 u (by omega)
  rw [t0, t1, t2]
  exact k4 u hu
theorem fl_E.T {R C N : fm_N} {M mi : Nat} (h : fl_E R C) (k : fl_T R N M mi) : fl_T C N M mi := by
  obtain ⟨k1, k2, k3, k4, k5, k6, k7⟩ := k
  refine ⟨h.D k1, by rw [h.gG]; exact k2, fun i hi => ?_, by rw [h.gG]; exact k4, by rw [h.1 1 (by unfold fl_dc; omega)]; exact k5, by rw [h.2]; exact k6, k7⟩
  rw [h.1 23 (by unfold fl_dc; omega), h.1 8 (by unfold fl_dc; omega)]
  exact k3 i hi
theorem fh_congr2 {F : Nat → Bool} {C C' : Nat → Nat} {fl fl' rat h : Nat → Int32} (e : ∀ u, F u = true → C u = C' u ∧ fl u = fl' u) : ∀ k, fh_h F C fl rat h k = fh_h F C' fl' rat h k := by
  intro k
  induction k with
  | zero => rfl
  | succ k ih =>
    unfold fh_h
    by_cases z : F k = true
    · obtain ⟨e1, e2⟩ := e k z
      rw [e1, e2, ih]
    · rw [if_neg (fun y => z y.1), if_neg (fun y => z y.1), ih]
section FLE
variable {R C R' C' : fm_N} {A A' : fg_A} {o o' : Nat → Nat} {fc fc' n S S' : Nat}
theorem fl_E_fl (ok : ft_ok (fg_F A) o (fg_D A) fc) (ok' : ft_ok (fg_F A') o' (fg_D A') fc') (q : fg_eq A A') (dt : fk_dt R C) (s : Nat → Bool) {u : Nat} (hu : fg_F A u = true) : fk_fl R A o fc s u = fk_fl C A' o' fc' s u :=
  ft_indep ok ok' q.1 (fun u hu => (q.2.2.2.2 u hu).1) (fun u hu => (fk_net_dt dt (fk_F12 ok hu) s).symm) u hu
theorem fl_E_vt (ok : ft_ok (fg_F A) o (fg_D A) fc) (ok' : ft_ok (fg_F A') o' (fg_D A') fc') (q : fg_eq A A') (dt : fk_dt R C) (s : Nat → Bool) {u : Nat} (hu : fg_F A u = true) : fk_vt R A o fc s u = fk_vt C A' o' fc' s u := by
  unfold fk_vt
  rw [dt.1]
  exact ft_v_indep ok (fun u hu => (q.2.2.2.2 u hu).1) (fun u hu => by rw [fl_E_fl ok ok' q dt s hu, (q.2.2.2.2 u hu).2.2]) 12 u hu
theorem fl_E_kp (ok : ft_ok (fg_F A) o (fg_D A) fc) (ok' : ft_ok (fg_F A') o' (fg_D A') fc') (q : fg_eq A A') (dt : fk_dt R C) : fk_kp R A o fc = fk_kp C A' o' fc' := by
  funext s
  refine propext ?_
  rw [fl_kp_gd ok, fl_kp_gd ok']
  have e : ∀ u, fg_F A u = true → (fl_gd R A o fc s u ↔ fl_gd C A' o' fc' s u) := fun u hu => by
    unfold fl_gd
    rw [fl_E_fl ok ok' q dt s hu, fl_E_vt ok ok' q dt s hu, (q.2.2.2.2 u hu).2.1, dt.2.2.1]
  constructor
  · intro h u hu
    have hu' : fg_F A u = true := by rw [q.1]; exact hu
    exact (e u hu').mp (h u hu')
  · intro h u hu
    exact (e u hu).mpr (h u (by rw [← q.1]; exact hu))
theorem fl_E_cm (E : fl_E R C) (gok : fg_ok (fk_gG R)) (hA : fg_Fin (fk_gG R) A) (hA' : fg_Fin (fk_gG C) A') (ok : ft_ok (fg_F A) o (fg_D A) fc) (ok' : ft_ok (fg_F A') o' (fg_D A') fc') (cm : fk_cm R R' A o fc n S) (cm' : fk_cm C C' A' o' fc' n S') : S = S' ∧ fl_E R' C' := by
  rw [E.gG] at hA'
  have q := fg_Fin_uniq gok hA hA'
  have dt := E.dt
  have eF : fg_F A = fg_F A' := funext q.1
  obtain ⟨m1, m2, m3, m4, m5, m6⟩ := cm
  obtain ⟨p1, p2, p3, p4, p5, p6⟩ := cm'
  have e23 := E.1 23 (by unfold fl_dc; omega)
  have e22 := E.1 22 (by unfold fl_dc; omega)
  have e8 := E.1 8 (by unfold fl_dc; omega)
  have e7 := E.1 7 (by unfold fl_dc; omega)
  have e1 := E.1 1 (by unfold fl_dc; omega)
  rw [e23, e22, ← fl_E_kp ok ok' q dt, ← eF] at p3
  have hb := fq_sv_uniq _ _ _ m3 p3
  have hS : S = S' := Nat.eq_of_testBit_eq fun i => congrFun hb i
  subst hS
  refine ⟨rfl, fun c hc => ?_, ?_⟩
  · by_cases c1 : c = 1
    · subst c1
      funext i
      rw [m2, p2, e1]
    by_cases c8 : c = 8
    · subst c8
      rw [m4, p4, ← eF, e7, e8]
      exact (fh_congr2 (fun u hu => ⟨(q.2.2.2.2 u hu).2.1, fl_E_fl ok ok' q dt _ hu⟩) _).symm
    by_cases c23 : c = 23
    · subst c23
      funext i
      by_cases z : i < n ∧ ¬ R.1 22 i ≤ nI 0 ∧ S.testBit i = false
      · rw [(m5 i).1 z, (p5 i).1 (by rw [e22]; exact z), e23]
      · rw [(m5 i).2 z, (p5 i).2 (by rw [e22]; exact z), e23]
    have hmc : fk_mc.contains c = false := by
      unfold fl_dc at hc
      simp only [List.contains_eq_mem, List.mem_cons, List.not_mem_nil, or_false, decide_eq_false_iff_not]
      omega
    rw [m1.1 c hmc, p1.1 c hmc]
    exact E.1 c hc
  · rw [m6, p6, E.2, e22]
end FLE
/-- minutes of the law's net one after another; b: fuses that blew -/
def fl_ch : Nat → fm_N → Nat → fm_N → Nat → Nat → Prop
  | 0, R, M, R', M', b => R' = R ∧ M' = M ∧ b = 0
  | m + 1, R, _, R', M', b => ∃ A o fc S R1 b1, fg_Fin (fk_gG R) A ∧ ft_ok (fg_F A) o (fg_D A) fc ∧ fg_ok (fk_gG R) ∧ fk_cm R R1 A o fc (fg_n (fk_gG R)) S ∧ fl_ch m R1 S R' M' b1 ∧ b = fg_cn (fh_b (R.1 8) (R1.1 8)) 12 + b1
/-- minutes of the class one after another -/
def fk_mh : Nat → fm_N → fg_A → (Nat → Nat) → Nat → Nat → fm_N → fg_A → (Nat → Nat) → Nat → Nat → Int32 → Prop
  | 0, R, A, o, fc, M, R', A', o', fc', M', b => R' = R ∧ A' = A ∧ o' = o ∧ fc' = fc ∧ M' = M ∧ b = nI 0
  | m + 1, R, A, o, fc, _, R', A', o', fc', M', b => ∃ R1 A1 o1 fc1 M1 b1, fk_ic R1 A1 o1 fc1 M1 ∧ fk_cm R R1 A o fc (fg_n (fk_gG R)) M1 ∧ (∀ i, M1.testBit i = true → i < fg_n (fk_gG R)) ∧ fk_mh m R1 A1 o1 fc1 M1 R' A' o' fc' M' b1 ∧ b = nI (fg_cn (fh_b (R.1 8) (R1.1 8)) 12) + b1
theorem fk_cm.n {R R1 : fm_N} {A : fg_A} {o : Nat → Nat} {fc n M : Nat} (h : fk_cm R R1 A o fc n M) : fg_n (fk_gG R1) = fg_n (fk_gG R) := by
  show (R1.1 4 8).toNatClampNeg = (R.1 4 8).toNatClampNeg
  rw [h.1.1 4 rfl]
theorem fl_ch_mh : ∀ m (R C : fm_N) (A : fg_A) (o : Nat → Nat) (fc M : Nat) (R' : fm_N) (M1 b1 : Nat) (C' : fm_N) (A' : fg_A) (o' : Nat → Nat) (fc' M' : Nat) (b : Int32), fl_ch m R M R' M1 b1 → fk_mh m C A o fc M C' A' o' fc' M' b → fl_E R C → fk_ic C A o fc M → M1 = M' ∧ fl_E R' C' ∧ b = nI b1 := by
  intro m
  induction m with
  | zero =>
    intro R C A o fc M R' M1 b1 C' A' o' fc' M' b h k E ic
    obtain ⟨h1, h2, h3⟩ := h
    obtain ⟨k1, k2, k3, k4, k5, k6⟩ := k
    subst h1 h2 h3 k1 k5 k6
    exact ⟨rfl, E, rfl⟩
  | succ m ih =>
    intro R C A o fc M R' M1 b1 C' A' o' fc' M' b h k E ic
    obtain ⟨A0, o0, fc0, S, R1, b2, h1, h2, h3, h4, h5, h6⟩ := h
    obtain ⟨C1, A1, o1, fc1, M2, b3, k1, k2, k3, k4, k5⟩ := k
    rw [E.gG] at k2
    obtain ⟨q1, q2⟩ := fl_E_cm E h3 h1 ic.2.2.1 h2 ic.2.1.2.2.2.2.1 h4 k2
    subst q1
    obtain ⟨r1, r2, r3⟩ := ih R1 C1 A1 o1 fc1 S R' M1 b2 C' A' o' fc' M' b3 h5 k4 q2 k1
    refine ⟨r1, r2, ?_⟩
    rw [k5, h6, r3, nI_add, E.1 8 (by unfold fl_dc; omega), q2.1 8 (by unfold fl_dc; omega)]
theorem fk_mh_fr : ∀ m R A o fc M R' A' o' fc' M' b, fk_mh m R A o fc M R' A' o' fc' M' b → (∀ i, M.testBit i = true → i < fg_n (fk_gG R)) → fx_M fk_mc 1 10 R R' ∧ fg_n (fk_gG R') = fg_n (fk_gG R) ∧ ∀ i, M'.testBit i = true → i < fg_n (fk_gG R') := by
  intro m
  induction m with
  | zero =>
    intro R A o fc M R' A' o' fc' M' b h hM
    obtain ⟨h1, h2, h3, h4, h5, h6⟩ := h
    subst h1 h5
    exact ⟨⟨fun _ _ => rfl, fun _ _ _ => rfl, rfl⟩, rfl, hM⟩
  | succ m ih =>
    intro R A o fc M R' A' o' fc' M' b h hM
    obtain ⟨R1, A1, o1, fc1, M1, b1, h1, h2, h3, h4, h5⟩ := h
    obtain ⟨k1, k2, k3⟩ := ih R1 A1 o1 fc1 M1 R' A' o' fc' M' b1 h4 (by rw [h2.n]; exact h3)
    exact ⟨h2.1.tr k1, k2.trans h2.n, k3⟩
section FJP
variable {X : Nat × (Nat → Int32)} {Q : fm_O → fm_M → Prop} {X' : Nat → fm_N → Prop}
theorem lp_13 {mm : Nat} (hmm : mm ≤ 100) : ∀ m k (x2 : Int32) (N : fm_N) (A : fg_A) (o : Nat → Nat) (fc M : Nat), m + k = mm → fk_ic N A o fc M → (∀ N' A' o' fc' M' b, fk_ic N' A' o' fc' M' → fk_mh m N A o fc M N' A' o' fc' M' b → Q (.inl (some (.inl (.int (x2 + b))))) (N', fm_SH)) →
    fm_Ev (fm_PP X) 13 (12, [some (.inl (.ref 1)), some (.inl (.int (nI mm))), some (.inl (.int x2)), some (.inl (.int (nI k)))], [], (N, fm_SH)) Q := by
  intro m
  induction m with
  | zero =>
    intro k x2 N A o fc M hk ic kk
    refine fb_13_12 X _ _ _ N Q ?_
    rw [fz_le (by omega) (by omega)]
    refine ⟨fun _ => ?_, fun z => absurd (by omega) z⟩
    have := kk N A o fc M (nI 0) ic ⟨rfl, rfl, rfl, rfl, rfl, rfl⟩
    rw [show x2 + nI 0 = x2 from Int32.add_zero x2] at this
    exact this
  | succ m ih =>
    intro k x2 N A o fc M hk ic kk
    refine fb_13_12 X _ _ _ N Q ?_
    rw [fz_le (by omega) (by omega)]
    refine ⟨fun z => absurd z (by omega), fun _ => sp_48 ic (fun N1 A1 o1 fc1 M1 b1 b2 b3 => ?_)⟩
    rw [nI_add]
    refine ih (k + 1) _ N1 A1 o1 fc1 M1 (by omega) b1 (fun N' A' o' fc' M' b c1 c2 => ?_)
    have := kk N' A' o' fc' M' _ c1 ⟨N1, A1, o1, fc1, M1, b, b1, b2, fun i hi => (b3 i hi).2, c2, rfl⟩
    rw [Int32.add_assoc]
    exact this
end FJP
