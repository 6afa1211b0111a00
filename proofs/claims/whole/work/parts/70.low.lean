/-! the law: lowest, keepsLimits -/
/-- the lowest of the first k -/
def fj_lw (F : Nat → Bool) (v : Nat → Int32) : Nat → Nat
  | 0 => 0
  | k + 1 => if F k = true ∧ ¬ v (fj_lw F v k) ≤ v k then k else fj_lw F v k
theorem fj_lw_le (F : Nat → Bool) (v : Nat → Int32) : ∀ k, fj_lw F v k ≤ k := by
  intro k
  induction k with
  | zero => exact Nat.le_refl _
  | succ k ih =>
    unfold fj_lw
    split
    · exact Nat.le_succ _
    · exact Nat.le_succ_of_le ih
theorem fj_lw_F {F : Nat → Bool} {v : Nat → Int32} (h0 : F 0 = true) : ∀ k, F (fj_lw F v k) = true := by
  intro k
  induction k with
  | zero => exact h0
  | succ k ih =>
    unfold fj_lw
    split
    · rename_i z; exact z.1
    · exact ih
theorem fj_lw_congr {F : Nat → Bool} {v w : Nat → Int32} (h0 : F 0 = true) (h : ∀ u, F u = true → v u = w u) : ∀ k, fj_lw F v k = fj_lw F w k := by
  intro k
  induction k with
  | zero => rfl
  | succ k ih =>
    unfold fj_lw
    rw [← ih, h _ (fj_lw_F h0 k)]
    by_cases z : F k = true
    · rw [h k z]
    · rw [if_neg (fun y => z y.1), if_neg (fun y => z y.1)]
theorem fj_lw1 (F : Nat → Bool) (v : Nat → Int32) : fj_lw F v 1 = 0 := by
  unfold fj_lw
  split
  · rfl
  · rfl
section FJK
variable {X : Nat × (Nat → Int32)} {x5 : Int32} {o6 o7 o8 o9 : Option fm_V} {R N : fm_N} {Q : fm_O → fm_M → Prop} {A : fg_A} {o : Nat → Nat} {fc M : Nat} {X' : Nat → fm_N → Prop} {Ki : Int32 → fm_N → Prop} {K : fm_N → Prop}
theorem sp_99 (ic : fk_ic R A o fc M) (hC : fn_cp R N M) (k1 : ∀ N', fj_n N N' → fk_kp R A o fc M.testBit → Ki (nI 1) N') (k2 : ∀ N', fj_n N N' → ¬ fk_kp R A o fc M.testBit → Ki (nI 0) N') : fm_Ci (fm_PP X) 99 [.inl (.ref 63)] (N, fm_SH) Ki X' := by
  have hC0 : fn_cp R (fm_uI N.1 63 31 (nI 0), N.2) M := (fj_q.rf R).cp (fj_q.th N _) hC
  have hA0 : fg_C A 0 = 0 := by
    obtain ⟨kk, hRe, -⟩ := ic.2.2.1
    exact (fg_Re_0 ic.1.2.2.2.2.1 kk A hRe).2.1
  have cs : ∀ u, fg_F A u = true → (M.testBit u && fg_F A u) = M.testBit u := fun u hu => by rw [hu, Bool.and_true]
  refine fe_99 X N Ki X' (sp_83 ic hC0 (fun N1 a1 a2 a3 a4 a5 => ?_))
  have n1 : fj_n (fm_uI N.1 63 31 (nI 0), N.2) N1 := fj_n.F a1 (by intro c hc; simp at hc ⊢; omega) rfl rfl
  have hC1 : fn_cp R N1 M := (fj_q.rf R).cp n1.1 hC0
  refine sp_82 (s := fun i => M.testBit i && fg_F A i) ic.2.1 hC1.cd (fn_G.of ic.1 hC1) a2 (fj_An ic.1 ic.2.2.1) hA0 a3 (fun N2 b1 z => ⟨Or.inr rfl, rfl, k1 N2 (((fj_n.th N _).tr n1).tr (fj_n.F b1 (by intro c hc; simp at hc ⊢; omega) rfl rfl)) ((fk_kp_cs cs).mp z)⟩) (fun N2 b1 z => ⟨Or.inl rfl, rfl, k2 N2 (((fj_n.th N _).tr n1).tr (fj_n.F b1 (by intro c hc; simp at hc ⊢; omega) rfl rfl)) (fun y => z ((fk_kp_cs cs).mpr y))⟩)
theorem lw_1381 (hI : fj_I N A o fc M) (H : fj_H X x5 (N.2.2.2 + 1) Q) : fm_Ev (fm_PP X) 0 (1381, [some (.inl (.ref 999999)), some (.inl (.ref 0)), some (.inl (.ref 63)), some (.inl (.ref 89)), some (.inl (.ref 90)), some (.inl (.int x5)), o6, o7, o8, o9], [], (N, fm_SH)) Q := by
  refine fb_0_1381 X _ _ _ _ _ N Q (fe_23 X N _ _ (sp_45 hI.1.1 hI.1.2.2.2.1 hI.1.2.1 (fj_An hI.1.1 hI.1.2.2.1) hI.1.2.2.2.2.2.2.1 hI.1.2.2.2.2.2.1 (fun N1 a1 a2 a3 => ?_)))
  have q0 : fj_q 0 N N1 := fj_q.Fx a1 (by intro c hc; simp at hc ⊢; omega) rfl rfl
  have go : ∀ N2, fj_n N1 N2 → N2.2.2.2 ≤ N.2.2.2 + 1 := fun N2 b => by
    rw [b.2, a1.2]
    exact Nat.le_succ _
  refine sp_133 (q0.ic hI.1).2.1 a3 (fun z => ⟨Or.inr rfl, rfl, ?_⟩) (fun z => ⟨Or.inl rfl, rfl, ?_⟩)
  · exact sp_99 (q0.ic hI.1) (q0.cp q0 hI.2.1) (fun N2 b1 b2 => fj_endv rfl (H _ _ _ _ _ _ _ _ _ ((q0.tr b1.1).I hI) (go N2 b1))) (fun N2 b1 b2 => absurd z b2)
  · exact sp_99 (q0.ic hI.1) (q0.cp q0 hI.2.1) (fun N2 b1 b2 => absurd b2 z) (fun N2 b1 b2 => fj_endv rfl (H _ _ _ _ _ _ _ _ _ ((q0.tr b1.1).I hI) (go N2 b1)))
theorem lp_22 {n : Nat} {F : Nat → Bool} (hn : n ≤ 12) (h38 : N.1 3 8 = nI n) (h12 : ∀ i, i < n → N.1 12 i = fz_b (F i)) (kk : Q (.inl (some (.inl (.int (nI (fj_lw F (N.1 19) n)))))) (N, fm_SH)) :
    ∀ m k, n - k = m → k ≤ n → fm_Ev (fm_PP X) 22 (8, [some (.inl (.ref 0)), some (.inl (.int (nI (fj_lw F (N.1 19) k)))), some (.inl (.int (nI k)))], [], (N, fm_SH)) Q := by
  intro m
  induction m with
  | zero =>
    intro k hm hk
    refine fb_22_8 X _ _ N Q ?_
    rw [h38, fz_le (by omega) (by omega)]
    have e : k = n := by omega
    subst e
    exact ⟨fun _ => kk, fun z => absurd (Nat.le_refl _) z⟩
  | succ m ih =>
    intro k hm hk
    have hl := fj_lw_le F (N.1 19) k
    have go := ih (k + 1) (by omega) (by omega)
    refine fb_22_8 X _ _ N Q ?_
    rw [h38, fz_le (by omega) (by omega), fz_t (by omega : k < 2147483648), h12 k (by omega), fz_be, fz_t (by omega : fj_lw F (N.1 19) k < 2147483648), nI_add]
    refine ⟨fun z => absurd z (by omega), fun _ => ⟨fz_in (by omega) (by omega), fun z => ?_, fun z => ⟨fz_in (by omega) (by omega), fz_in (by omega) (by omega), fun y => ?_, fun y => ?_⟩⟩⟩
    · rw [show fj_lw F (N.1 19) (k + 1) = fj_lw F (N.1 19) k from if_neg (fun w => by rw [z] at w; cases w.1)] at go
      exact go
    · rw [show fj_lw F (N.1 19) (k + 1) = fj_lw F (N.1 19) k from if_neg (fun w => w.2 y)] at go
      exact go
    · rw [show fj_lw F (N.1 19) (k + 1) = k from if_pos ⟨(Bool.not_eq_false _).mp z, y⟩] at go
      exact go
theorem lp_98 {n : Nat} {F : Nat → Bool} (hn : n ≤ 12) (h25 : N.1 63 25 = nI n) (h74 : ∀ i, i < n → N.1 74 i = fz_b (F i)) (kk : Q (.inl (some (.inl (.int (nI (fj_lw F (N.1 87) n)))))) (N, fm_SH)) :
    ∀ m k, n - k = m → k ≤ n → fm_Ev (fm_PP X) 98 (13, [some (.inl (.ref 63)), some (.inl (.int (nI (fj_lw F (N.1 87) k)))), some (.inl (.int (nI k)))], [], (N, fm_SH)) Q := by
  intro m
  induction m with
  | zero =>
    intro k hm hk
    refine fb_98_13 X _ _ N Q ?_
    rw [h25, fz_le (by omega) (by omega)]
    have e : k = n := by omega
    subst e
    exact ⟨fun _ => kk, fun z => absurd (Nat.le_refl _) z⟩
  | succ m ih =>
    intro k hm hk
    have hl := fj_lw_le F (N.1 87) k
    have go := ih (k + 1) (by omega) (by omega)
    refine fb_98_13 X _ _ N Q ?_
    rw [h25, fz_le (by omega) (by omega), fz_t (by omega : k < 2147483648), h74 k (by omega), fz_be, fz_t (by omega : fj_lw F (N.1 87) k < 2147483648), nI_add]
    refine ⟨fun z => absurd z (by omega), fun _ => ⟨fz_in (by omega) (by omega), fun z => ?_, fun z => ⟨fz_in (by omega) (by omega), fz_in (by omega) (by omega), fun y => ?_, fun y => ?_⟩⟩⟩
    · rw [show fj_lw F (N.1 87) (k + 1) = fj_lw F (N.1 87) k from if_neg (fun w => by rw [z] at w; cases w.1)] at go
      exact go
    · rw [show fj_lw F (N.1 87) (k + 1) = fj_lw F (N.1 87) k from if_neg (fun w => w.2 y)] at go
      exact go
    · rw [show fj_lw F (N.1 87) (k + 1) = k from if_pos ⟨(Bool.not_eq_false _).mp z, y⟩] at go
      exact go
theorem lw_1368 (hI : fj_I N A o fc M) (H : fj_H X x5 (N.2.2.2 + 1) Q) : fm_Ev (fm_PP X) 0 (1368, [some (.inl (.ref 999999)), some (.inl (.ref 0)), some (.inl (.ref 63)), some (.inl (.ref 89)), some (.inl (.ref 90)), some (.inl (.int x5)), o6, o7, o8, o9], [], (N, fm_SH)) Q := by
  have n1 := hI.1.1.2.2.2.2.1.1
  have h12 := hI.1.1.2.2.1
  have hA := fj_An hI.1.1 hI.1.2.2.1
  have hF0 : fg_F A 0 = true := by
    have ok := hI.1.2.1.2.2.2.2.1
    have := (ok.2.1 0 ok.1.1).1
    rw [ok.1.2.2] at this
    exact this
  refine fb_0_1368 X _ _ _ _ _ N Q (fe_22 X N _ _ (sp_45 hI.1.1 hI.1.2.2.2.1 hI.1.2.1 hA hI.1.2.2.2.2.2.2.1 hI.1.2.2.2.2.2.1 (fun N1 a1 a2 a3 => ?_)))
  have q0 : fj_q 0 N N1 := fj_q.Fx a1 (by intro c hc; simp at hc ⊢; omega) rfl rfl
  have ic1 := q0.ic hI.1
  have cp1 := q0.cp q0 hI.2.1
  have e38 : N1.1 3 8 = nI (fg_n (fk_gG N)) := by rw [q0.1 3 rfl]; exact hI.1.1.1
  have L1 := lp_22 (X := X) (N := N1) (Q := fm_Qi fm_SH (fun r2 N1 => fm_Ci (fm_PP X) 98 [.inl (.ref 63)] (N1, fm_SH) (fun r4 N3 => ((r2 = r4 → fm_Ev (fm_PP X) 0 (1965, [some (.inl (.ref 999999)), some (.inl (.ref 0)), some (.inl (.ref 63)), some (.inl (.ref 89)), some (.inl (.ref 90)), some (.inl (.int x5)), o6, o7, o8, o9], [], (N3, fm_SH)) Q) ∧ (¬ (r2 = r4) → (((nI 0) = nI 0 ∨ (nI 0) = nI 1) ∧ Q (.inl (some (.inl (.int (nI 0))))) (N3, fm_SH))))) (fun e6 N5 => Q (.inr e6) (N5, fm_SH))) (fun e8 N7 => Q (.inr e8) (N7, fm_SH))) (F := fg_F A) h12 e38 (fun i hi => (ic1.2.1.1 i (by omega)).1) ⟨rfl, ?_⟩ _ 1 rfl n1
  · rw [fj_lw1] at L1
    exact L1
  · have hC0 : fn_cp N1 (fm_uI N1.1 63 31 (nI 0), N1.2) M := (fj_q.rf N1).cp (fj_q.th N1 _) cp1
    refine fe_98 X N1 _ _ (sp_83 ic1 hC0 (fun N2 b1 b2 b3 b4 b5 => ?_))
    have n2 : fj_n (fm_uI N1.1 63 31 (nI 0), N1.2) N2 := fj_n.F b1 (by intro c hc; simp at hc ⊢; omega) rfl rfl
    have e25 : N2.1 63 25 = nI (fg_n (fk_gG N1)) := (fn_G.of ic1.1 ((fj_q.rf N1).cp n2.1 hC0)).1
    have ev : ∀ k, fj_lw (fg_F A) (N1.1 19) k = fj_lw (fg_F A) (N2.1 87) k := fj_lw_congr hF0 (fun u hu => by
      obtain ⟨k, hk, hok⟩ := ic1.2.1.2.2.2.2.1.2.2.2.1 u hu
      rw [← hok, b5 k hk, (a3 k hk).2])
    have L2 := lp_98 (X := X) (N := N2) (Q := fm_Qi fm_SH (fun r4 N3 => ((nI (fj_lw (fg_F A) (N1.1 19) (fg_n (fk_gG N))) = r4 → fm_Ev (fm_PP X) 0 (1965, [some (.inl (.ref 999999)), some (.inl (.ref 0)), some (.inl (.ref 63)), some (.inl (.ref 89)), some (.inl (.ref 90)), some (.inl (.int x5)), o6, o7, o8, o9], [], (N3, fm_SH)) Q) ∧ (¬ (nI (fj_lw (fg_F A) (N1.1 19) (fg_n (fk_gG N))) = r4) → (((nI 0) = nI 0 ∨ (nI 0) = nI 1) ∧ Q (.inl (some (.inl (.int (nI 0))))) (N3, fm_SH))))) (fun e6 N5 => Q (.inr e6) (N5, fm_SH))) (F := fg_F A) ic1.1.2.2.1 e25 (fun i hi => (b2.1 i hi).1) ⟨rfl, ?_⟩ _ 1 rfl ic1.1.2.2.2.2.1.1
    · rw [fj_lw1] at L2
      exact L2
    · refine fj_endv ?_ (H _ _ _ _ _ _ _ _ _ ((q0.tr ((fj_n.th N1 _).tr n2).1).I hI) ?_)
      · rw [ev, q0.gG]
      · rw [n2.2]
        dsimp only
        rw [a1.2]
        exact Nat.le_succ _
end FJK
