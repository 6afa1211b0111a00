/-! the model: the most that can be served -/
theorem fq_B_le {P : Nat → Prop} {m : Nat} {b : Int32} (h : fq_B P m b) (hle : nI (fb_ct m) ≤ b) : fq_B P (m + 1) b := by
  rcases h with ⟨h1, h2⟩ | ⟨c, h1, h12, ⟨s, hs, hQ, hc⟩, h2⟩
  · rw [h1] at hle
    have z : ∀ c, c < 13 → ¬ nI c ≤ Int32.ofInt (-1) := by decide +kernel
    have := fb_ct_le m
    exact absurd hle (z _ (by omega))
  · rw [h1, fz_le (by have := fb_ct_le m; omega) (by omega)] at hle
    refine Or.inr ⟨c, h1, h12, ⟨s, by omega, hQ, hc⟩, fun r hr z => ?_⟩
    by_cases y : r = m
    · rw [y]; exact hle
    · exact h2 r (by omega) z
theorem fq_B_pos {P : Nat → Prop} {m : Nat} {b : Int32} (h : fq_B P m b) (hb : ¬ b = Int32.ofInt (-1)) : nI 0 ≤ b := by
  rcases h with ⟨h1, h2⟩ | ⟨c, h1, h12, -⟩
  · exact absurd h1 hb
  · rw [h1, fz_le (by omega) (by omega)]
    exact Nat.zero_le _
theorem fj_q.qok {d : Nat} {N N' : fm_N} {A : fg_A} {o : Nat → Nat} {fc M : Nat} (q : fj_q d N N') (ic : fk_ic N A o fc M) : fq_ok N' A o fc (fg_n (fk_gG N')) = fq_ok N A o fc (fg_n (fk_gG N)) := by
  funext s
  unfold fq_ok fk_may
  rw [q.gG, q.1 21 rfl, propext (fk_kp_dt (s := s.testBit) ic.2.1.2.2.2.2.1 q.dt)]
section FJX
variable {X : Nat × (Nat → Int32)} {x5 : Int32} {o6 o7 o8 o9 : Option fm_V} {R N : fm_N} {Q : fm_O → fm_M → Prop} {A : fg_A} {o : Nat → Nat} {fc M : Nat} {X' : Nat → fm_N → Prop} {Ki : Int32 → fm_N → Prop} {K : fm_N → Prop}
theorem lp_103a {n : Nat} {x1 : Int32} (hn : n ≤ 12) (h25 : N.1 63 25 = nI n) (h74 : ∀ i, i < n → N.1 74 i = fz_b (fg_F A i)) (kk : ∀ C o4, C < 4096 → (∀ i, C.testBit i = true ↔ fg_F A i = true ∧ i < n ∧ ¬ N.1 68 i ≤ nI 0) → fm_Ev (fm_PP X) 103 (54, [some (.inl (.ref 63)), some (.inl (.int x1)), some (.inl (.int (nI C))), some (.inl (.int (nI 0))), o4], [], (N, fm_SH)) Q) :
    ∀ m k C o4, n - k = m → k ≤ n → C < 4096 → (∀ i, C.testBit i = true ↔ fg_F A i = true ∧ i < k ∧ ¬ N.1 68 i ≤ nI 0) → fm_Ev (fm_PP X) 103 (10, [some (.inl (.ref 63)), some (.inl (.int x1)), some (.inl (.int (nI C))), some (.inl (.int (nI k))), o4], [], (N, fm_SH)) Q := by
  intro m
  induction m with
  | zero =>
    intro k C o4 hm hk hC hi
    refine fb_103_10 X _ _ _ _ N Q ?_
    rw [h25, fz_le (by omega) (by omega)]
    have e : k = n := by omega
    subst e
    exact ⟨fun _ => kk C o4 hC hi, fun z => absurd (Nat.le_refl _) z⟩
  | succ m ih =>
    intro k C o4 hm hk hC hi
    refine fb_103_10 X _ _ _ _ N Q ?_
    rw [h25, fz_le (by omega) (by omega), fz_t (by omega : k < 2147483648), h74 k (by omega), fz_be, nI_add, fb_or (by omega), show nI C ||| nI 0 = nI C from Int32.or_zero]
    have no : ¬ (fg_F A k = true ∧ ¬ N.1 68 k ≤ nI 0) → fm_Ev (fm_PP X) 103 (10, [some (.inl (.ref 63)), some (.inl (.int x1)), some (.inl (.int (nI C))), some (.inl (.int (nI (k + 1)))), o4], [], (N, fm_SH)) Q := fun y => ih (k + 1) C o4 (by omega) (by omega) hC (fun i => by
      rw [hi]
      constructor
      · rintro ⟨h1, h2, h3⟩; exact ⟨h1, by omega, h3⟩
      · rintro ⟨h1, h2, h3⟩
        refine ⟨h1, ?_, h3⟩
        by_cases w : i = k
        · rw [w] at h1 h3; exact absurd ⟨h1, h3⟩ y
        · omega)
    refine ⟨fun z => absurd z (by omega), fun _ => ⟨fz_in (by omega) (by omega), fun z => no (fun w => by rw [z] at w; cases w.1), fun z => ⟨fz_in (by omega) (by omega), fun y => no (fun w => w.2 y), fun y => ih (k + 1) _ o4 (by omega) (by omega) (fb_or_lt hC (by omega)) (fun i => ?_)⟩⟩⟩
    rw [fb_or_bit, Bool.or_eq_true, decide_eq_true_eq, hi]
    constructor
    · rintro (⟨h1, h2, h3⟩ | w)
      · exact ⟨h1, by omega, h3⟩
      · subst w; exact ⟨(Bool.not_eq_false _).mp z, by omega, y⟩
    · rintro ⟨h1, h2, h3⟩
      by_cases w : k = i
      · exact Or.inr w
      · exact Or.inl ⟨h1, by omega, h3⟩
theorem lp_103c {n s : Nat} {x1 x2 : Int32} (hn : n ≤ 12) (hs : s < 4096) (h25 : N.1 63 25 = nI n)
    (kk : ∀ N1, fx_F [73] N N1 → (∀ i, i < n → N1.1 73 i = fz_b (s.testBit i)) → fm_Ci (fm_PP X) 82 [.inl (.ref 63)] (N1, fm_SH) (fun r2 N2 => ((r2 = nI 0 → fm_Ev (fm_PP X) 103 (54, [some (.inl (.ref 63)), some (.inl (.int x1)), some (.inl (.int x2)), some (.inl (.int (nI s + nI 1))), some (.inl (.int (nI n)))], [], (N2, fm_SH)) Q) ∧ (¬ (r2 = nI 0) → fm_Ci (fm_PP X) 168 [.inl (.int (nI s))] (N2, fm_SH) (fun r4 N3 => fm_Ev (fm_PP X) 103 (54, [some (.inl (.ref 63)), some (.inl (.int r4)), some (.inl (.int x2)), some (.inl (.int (nI s + nI 1))), some (.inl (.int (nI n)))], [], (N3, fm_SH)) Q) (fun e6 N5 => Q (.inr e6) (N5, fm_SH))))) (fun e8 N7 => Q (.inr e8) (N7, fm_SH))) :
    ∀ m k N1, n - k = m → k ≤ n → fx_F [73] N N1 → (∀ i, i < k → N1.1 73 i = fz_b (s.testBit i)) → fm_Ev (fm_PP X) 103 (83, [some (.inl (.ref 63)), some (.inl (.int x1)), some (.inl (.int x2)), some (.inl (.int (nI s))), some (.inl (.int (nI k)))], [], (N1, fm_SH)) Q := by
  intro m
  induction m with
  | zero =>
    intro k N1 hm hk hF hi
    have a25 : N1.1 63 25 = nI n := by rw [hF.1 63 rfl]; exact h25
    refine fb_103_83 X _ _ _ _ N1 Q ?_
    rw [a25, fz_le (by omega) (by omega)]
    have e : k = n := by omega
    subst e
    exact ⟨fun _ => kk N1 hF hi, fun z => absurd (Nat.le_refl _) z⟩
  | succ m ih =>
    intro k N1 hm hk hF hi
    have a25 : N1.1 63 25 = nI n := by rw [hF.1 63 rfl]; exact h25
    have go : ∀ v, v = fz_b (s.testBit k) → fm_Ev (fm_PP X) 103 (83, [some (.inl (.ref 63)), some (.inl (.int x1)), some (.inl (.int x2)), some (.inl (.int (nI s))), some (.inl (.int (nI (k + 1))))], [], ((fm_uI N1.1 73 k v, N1.2), fm_SH)) Q := fun v hv => ih (k + 1) _ (by omega) (by omega) (hF.up rfl) (fun i h => by
      by_cases z : i = k
      · subst z; simp [fm_uI, hv]
      · simp [fm_uI, z]; exact hi i (by omega))
    refine fb_103_83 X _ _ _ _ N1 Q ?_
    rw [a25, fz_le (by omega) (by omega), fz_t (by omega : k < 2147483648), fz_bit hs (by omega), fz_b1e, show nI k + nI 1 = nI (k + 1) by rw [nI_add], fz_nb0, fz_nb1]
    refine ⟨fun z => absurd z (by omega), fun _ => ⟨fun z => ⟨fz_in (by omega) (by omega), go _ (by rw [z]; rfl)⟩, fun z => ⟨fz_in (by omega) (by omega), go _ (by rw [(Bool.not_eq_true _).mp z]; rfl)⟩⟩⟩
theorem lp_103b {C : Nat} (ic : fk_ic R A o fc M) (hC : fn_cp R N M) (hS : fn_S N A (fg_n (fk_gG R)) (fg_t (fk_gG R))) (hC4 : C < 4096) (hC' : ∀ i, C.testBit i = true ↔ fk_may R A (fg_n (fk_gG R)) i)
    (kk : ∀ N' b, fx_F [73, 86, 87] N N' → fq_B (fq_ok R A o fc (fg_n (fk_gG R))) (2 ^ fg_n (fk_gG R)) b → Q (.inl (some (.inl (.int b)))) (N', fm_SH)) :
    ∀ m s (b : Int32) (N1 : fm_N) (o4 : Option fm_V), 2 ^ fg_n (fk_gG R) - s = m → s ≤ 2 ^ fg_n (fk_gG R) → fx_F [73, 86, 87] N N1 → fq_B (fq_ok R A o fc (fg_n (fk_gG R))) s b →
    fm_Ev (fm_PP X) 103 (54, [some (.inl (.ref 63)), some (.inl (.int b)), some (.inl (.int (nI C))), some (.inl (.int (nI s))), o4], [], (N1, fm_SH)) Q := by
  have h12 := ic.1.2.2.1
  have hp := fb_p12 h12
  have h25 := (fn_G.of ic.1 hC).1
  have hA0 : fg_C A 0 = 0 := by
    obtain ⟨kk, hRe, -⟩ := ic.2.2.1
    exact (fg_Re_0 ic.1.2.2.2.2.1 kk A hRe).2.1
  intro m
  induction m with
  | zero =>
    intro s b N1 o4 hm hs hF hB
    refine fb_103_54 X _ _ _ _ N1 Q ?_
    have a25 : N1.1 63 25 = nI (fg_n (fk_gG R)) := by rw [hF.1 63 rfl]; exact h25
    rw [a25, fb_1' _ (by omega), fz_le (by omega) (by omega)]
    have e : s = 2 ^ fg_n (fk_gG R) := by omega
    rw [e] at hB
    exact ⟨fun _ => kk N1 b hF hB, fun z => absurd (by omega) z⟩
  | succ m ih =>
    intro s b N1 o4 hm hs hF hB
    have hs4 : s < 4096 := by omega
    have a25 : N1.1 63 25 = nI (fg_n (fk_gG R)) := by rw [hF.1 63 rfl]; exact h25
    refine fb_103_54 X _ _ _ _ N1 Q ?_
    rw [a25, fb_1' _ (by omega), fz_le (by omega) (by omega)]
    refine ⟨fun z => absurd z (by omega), fun _ => ⟨fun hsub => ?_, fun hsub => ?_⟩⟩
    · rw [fb_sub hs4] at hsub
      have hmay : ∀ i, s.testBit i = true → fk_may R A (fg_n (fk_gG R)) i := fun i hi => (hC' i).mp (hsub i hi)
      refine sp_168 hs4 ⟨fun z => ?_, fun z => ?_⟩
      · rw [nI_add]
        exact ih (s + 1) b N1 o4 (by omega) (by omega) hF (fq_B_le hB z)
      · refine lp_103c (N := N1) h12 hs4 a25 (fun N2 b1 b2 => ?_) _ 0 N1 rfl (Nat.zero_le _) (fx_F.rf _ _) (fun i h => absurd h (Nat.not_lt_zero i))
        have hF2 : fx_F [73, 86, 87] N N2 := hF.tr (b1.wk (by intro c hc; simp at hc ⊢; omega))
        have n2 : fj_n N N2 := fj_n.F hF2 (by intro c hc; simp at hc ⊢; omega) rfl rfl
        have hC2 : fn_cp R N2 M := (fj_q.rf R).cp n2.1 hC
        rw [nI_add]
        refine sp_82 (s := s.testBit) ic.2.1 hC2.cd (fn_G.of ic.1 hC2) (hS.fr hF2 ⟨rfl, rfl, rfl, rfl, rfl⟩) (fj_An ic.1 ic.2.2.1) hA0 b2 (fun N3 c1 y => ?_) (fun N3 c1 y => ?_)
        · refine ⟨fun w => absurd w fj_n1, fun _ => sp_168 hs4 ?_⟩
          have := fq_B_yes hB ⟨hmay, y⟩
          rw [show fc_max b (nI (fb_ct s)) = nI (fb_ct s) by unfold fc_max; rw [if_pos (Int32.not_le.mp z)]] at this
          exact ih (s + 1) _ N3 _ (by omega) (by omega) (hF2.tr (c1.wk (by intro c hc; simp at hc ⊢; omega))) this
        · refine ⟨fun _ => ?_, fun w => absurd rfl w⟩
          exact ih (s + 1) _ N3 _ (by omega) (by omega) (hF2.tr (c1.wk (by intro c hc; simp at hc ⊢; omega))) (fq_B_no hB (fun w => y w.2))
    · rw [fb_sub hs4] at hsub
      rw [nI_add]
      exact ih (s + 1) b N1 o4 (by omega) (by omega) hF (fq_B_no hB (fun w => hsub (fun i hi => (hC' i).mpr (w.1 i hi))))
theorem sp_103 (ic : fk_ic R A o fc M) (hC : fn_cp R N M) (kk : ∀ N' b, fj_n N N' → fq_B (fq_ok R A o fc (fg_n (fk_gG R))) (2 ^ fg_n (fk_gG R)) b → Ki b N') : fm_Ci (fm_PP X) 103 [.inl (.ref 63)] (N, fm_SH) Ki X' := by
  have hN := fn_G.of ic.1 hC
  refine fe_103 X N Ki X' (sp_80 hN ic.2.2.1 (fun N1 a1 a2 => ?_))
  have n1 : fj_n N N1 := fj_n.F a1 (by intro c hc; simp at hc ⊢; omega) rfl rfl
  have hC1 : fn_cp R N1 M := (fj_q.rf R).cp n1.1 hC
  refine lp_103a (A := A) hN.2.2.1 (fn_G.of ic.1 hC1).1 (fun i hi => (a2.1 i hi).1) (fun C o4 c1 c2 => ?_) _ 0 0 none rfl (Nat.zero_le _) (by omega) (fun i => ⟨fun z => (by rw [Nat.zero_testBit] at z; cases z), fun z => absurd z.2.1 (Nat.not_lt_zero i)⟩)
  refine lp_103b ic hC1 a2 c1 (fun i => ?_) (fun N2 b b1 b2 => ⟨rfl, kk N2 b (n1.tr (fj_n.F b1 (by intro c hc; simp at hc ⊢; omega) rfl rfl)) b2⟩) _ 0 _ N1 o4 rfl (Nat.zero_le _) (fx_F.rf _ _) (Or.inl ⟨rfl, fun s hs => absurd hs (Nat.not_lt_zero s)⟩)
  rw [c2, hC1.2.1.2.2.2.2.1]
  exact Iff.rfl
theorem sp_104 {b : Int32} (ic : fk_ic R A o fc M) (hC : fn_cp R N M) (hB : fq_B (fq_ok R A o fc (fg_n (fk_gG R))) (2 ^ fg_n (fk_gG R)) b)
    (k1 : ∀ N', fj_n N N' → N'.1 63 31 = nI 0 → ¬ b = Int32.ofInt (-1) → Ki b N') (k2 : ∀ N', fj_n N N' → N'.1 63 31 = nI 1 → b = Int32.ofInt (-1) → Ki (nI 0) N') : fm_Ci (fm_PP X) 104 [.inl (.ref 63)] (N, fm_SH) Ki X' := by
  refine fe_104 X N Ki X' (sp_103 ic hC (fun N1 b' a1 a2 => ?_))
  rw [fq_B_uniq a2 hB]
  by_cases z : b = Int32.ofInt (-1)
  · refine ⟨fun y => absurd y (by rw [z]; decide), fun _ => sp_64y ⟨fun w => absurd w fj_n1, fun _ => ⟨rfl, k2 _ (a1.tr (fj_n.th _ _)) (by simp [fm_uI]) z⟩⟩⟩
  · exact ⟨fun _ => sp_64n ⟨fun _ => ⟨rfl, k1 _ (a1.tr (fj_n.th _ _)) (by simp [fm_uI]) z⟩, fun w => absurd rfl w⟩, fun y => absurd (fq_B_pos hB z) y⟩
theorem lw_1569 (hI : fj_I N A o fc M) (H : fj_H X x5 (N.2.2.2 + 1) Q) : fm_Ev (fm_PP X) 0 (1569, [some (.inl (.ref 999999)), some (.inl (.ref 0)), some (.inl (.ref 63)), some (.inl (.ref 89)), some (.inl (.ref 90)), some (.inl (.int x5)), o6, o7, o8, o9], [], (N, fm_SH)) Q := by
  have hA := fj_An hI.1.1 hI.1.2.2.1
  refine fb_0_1569 X _ _ _ _ _ N Q (fe_163 X N _ _ (fe_27 X N _ _ (sp_57 hI.1.1 hI.1.2.2.2.1 hI.1.2.1 hA (fun N1 b a1 a2 => ?_))))
  have q0 : fj_q 0 N N1 := fj_q.Fx a1 (by intro c hc; simp at hc ⊢; omega) rfl rfl
  refine ⟨fun z => ⟨rfl, ⟨fun _ => ⟨rfl, ?_⟩, fun z => absurd rfl z⟩⟩, fun z => ⟨rfl, fz_in (by omega) (by omega), rfl, ?_⟩⟩
  · have q1 : fj_q 1 N (fj_g N1) := (q0.tr (fj_q.gc N1)).mo (by omega)
    have hB : fq_B (fq_ok (fj_g N1) A o fc (fg_n (fk_gG (fj_g N1)))) (2 ^ fg_n (fk_gG (fj_g N1))) b := by
      rw [q1.qok hI.1, q1.gG]; exact a2
    refine sp_104 (q1.ic hI.1) (q1.cp q1 hI.2.1) hB (fun N2 b1 b2 b3 => absurd z b3) (fun N2 b1 b2 _ => sp_62 (fj_end b2 (H _ _ _ _ _ _ _ _ _ ((q1.tr b1.1).I hI) ?_) (fun w => absurd w fj_n1)))
    rw [b1.2]
    exact Nat.succ_le_succ q0.2.2.2.2.2
  · have q1 : fj_q 0 N (N1.1, fm_uI N1.2.1 89 ((nI 0).toNatClampNeg) b.toInt64, N1.2.2) := q0.tr (fj_q.lo _ _)
    have hB : fq_B (fq_ok (N1.1, fm_uI N1.2.1 89 ((nI 0).toNatClampNeg) b.toInt64, N1.2.2) A o fc (fg_n (fk_gG (N1.1, fm_uI N1.2.1 89 ((nI 0).toNatClampNeg) b.toInt64, N1.2.2)))) (2 ^ fg_n (fk_gG (N1.1, fm_uI N1.2.1 89 ((nI 0).toNatClampNeg) b.toInt64, N1.2.2))) b := by
      rw [q1.qok hI.1, q1.gG]; exact a2
    refine sp_104 (q1.ic hI.1) (q1.cp q1 hI.2.1) hB (fun N2 b1 b2 _ => sp_62 (fj_end b2 (H _ _ _ _ _ _ _ _ _ ((q1.tr b1.1).I hI) ?_) (fun _ => ?_))) (fun N2 b1 b2 b3 => absurd b3 z)
    · rw [b1.2]
      exact Nat.le_trans q0.2.2.2.2.2 (Nat.le_succ _)
    · rw [b1.2]
      simp [fm_uI, fj_t0]
theorem lw_1613 (hI : fj_I N A o fc M) (H : fj_H X x5 (N.2.2.2 + 1) Q) : fm_Ev (fm_PP X) 0 (1613, [some (.inl (.ref 999999)), some (.inl (.ref 0)), some (.inl (.ref 63)), some (.inl (.ref 89)), some (.inl (.ref 90)), some (.inl (.int x5)), o6, o7, o8, o9], [], (N, fm_SH)) Q := by
  have hA := fj_An hI.1.1 hI.1.2.2.1
  refine fb_0_1613 X _ _ _ _ _ N Q (fe_164 X N _ _ (fe_28 X N _ _ (sp_58 hI.1.1 hI.1.2.2.2.1 hI.1.2.1 hA (fun N1 b a1 a2 => ?_))))
  have q0 : fj_q 0 N N1 := fj_q.Fx a1 (by intro c hc; simp at hc ⊢; omega) rfl rfl
  refine ⟨fun z => ⟨rfl, ⟨fun _ => ⟨rfl, ?_⟩, fun z => absurd rfl z⟩⟩, fun z => ⟨rfl, fz_in (by omega) (by omega), rfl, ?_⟩⟩
  · have q1 : fj_q 1 N (fj_g N1) := (q0.tr (fj_q.gc N1)).mo (by omega)
    have hB : fq_B (fq_ok (fj_g N1) A o fc (fg_n (fk_gG (fj_g N1)))) (2 ^ fg_n (fk_gG (fj_g N1))) b := by
      rw [q1.qok hI.1, q1.gG]; exact a2
    refine fe_105 X _ _ _ (sp_104 (q1.ic hI.1) (q1.cp q1 hI.2.1) hB (fun N2 b1 b2 b3 => absurd z b3) (fun N2 b1 b2 _ => ⟨rfl, sp_62 (fj_end b2 (H _ _ _ _ _ _ _ _ _ ((q1.tr b1.1).I hI) ?_) (fun w => absurd w fj_n1))⟩))
    rw [b1.2]
    exact Nat.succ_le_succ q0.2.2.2.2.2
  · have q1 : fj_q 0 N (N1.1, fm_uI N1.2.1 89 ((nI 0).toNatClampNeg) b.toInt64, N1.2.2) := q0.tr (fj_q.lo _ _)
    have hB : fq_B (fq_ok (N1.1, fm_uI N1.2.1 89 ((nI 0).toNatClampNeg) b.toInt64, N1.2.2) A o fc (fg_n (fk_gG (N1.1, fm_uI N1.2.1 89 ((nI 0).toNatClampNeg) b.toInt64, N1.2.2)))) (2 ^ fg_n (fk_gG (N1.1, fm_uI N1.2.1 89 ((nI 0).toNatClampNeg) b.toInt64, N1.2.2))) b := by
      rw [q1.qok hI.1, q1.gG]; exact a2
    refine fe_105 X _ _ _ (sp_104 (q1.ic hI.1) (q1.cp q1 hI.2.1) hB (fun N2 b1 b2 _ => ⟨rfl, sp_62 (fj_end b2 (H _ _ _ _ _ _ _ _ _ ((q1.tr b1.1).I hI) ?_) (fun _ => ?_))⟩) (fun N2 b1 b2 b3 => absurd b3 z))
    · rw [b1.2]
      exact Nat.le_trans q0.2.2.2.2.2 (Nat.le_succ _)
    · rw [b1.2]
      simp [fm_uI, fj_t0]
end FJX
