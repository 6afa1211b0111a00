/-! the law: fedShare, meanLeftOut -/
/-- sum and number of the chargers above 0 -/
def fj_lq (c l : Nat → Int32) : Nat → Int32
  | 0 => nI 0
  | k + 1 => if c k ≤ nI 0 then fj_lq c l k else fj_lq c l k + l k
def fj_lc (c : Nat → Int32) : Nat → Nat
  | 0 => 0
  | k + 1 => if c k ≤ nI 0 then fj_lc c k else fj_lc c k + 1
theorem fj_lc_le (c : Nat → Int32) : ∀ k, fj_lc c k ≤ k := by
  intro k
  induction k with
  | zero => exact Nat.le_refl _
  | succ k ih =>
    unfold fj_lc
    split <;> omega
section FJY
variable {X : Nat × (Nat → Int32)} {x5 : Int32} {o6 o7 o8 o9 : Option fm_V} {N : fm_N} {Q : fm_O → fm_M → Prop} {A : fg_A} {o : Nat → Nat} {fc M : Nat} {X' : Nat → fm_N → Prop}
theorem lw_1803 (hI : fj_I N A o fc M) (H : fj_H X x5 (N.2.2.2 + 1) Q) : fm_Ev (fm_PP X) 0 (1803, [some (.inl (.ref 999999)), some (.inl (.ref 0)), some (.inl (.ref 63)), some (.inl (.ref 89)), some (.inl (.ref 90)), some (.inl (.int x5)), o6, o7, o8, o9], [], (N, fm_SH)) Q := by
  have hn := hI.1.1.1
  have h12 := hI.1.1.2.2.1
  have n1 := hI.1.1.2.2.2.2.1.1
  have h8 : N.1 3 8 ≠ 0 := fun z => absurd ((nI_eq (a := fg_n (fk_gG N)) (b := 0) (by omega) (by omega)).mp (hn.symm.trans z)) (by omega)
  have hI0 : fj_I (fm_uI N.1 63 31 (nI 0), N.2) A o fc M := (fj_q.th N _).I hI
  have hq := fj_fq (a := N.1 2 7) h8
  refine fb_0_1803 X _ _ _ _ _ N Q (fe_33 X N _ _ ⟨fj_fle hq, rfl, fj_dle (fj_fd hq), ?_⟩)
  refine fe_111 X _ _ _ (sp_89 (fn_G.of hI0.1.1 hI0.2.1) hI0.1.2.2.1 (fun N2 b1 => ?_))
  have e25 : N2.1 63 25 = N.1 3 8 := by
    rw [b1.1 63 rfl]
    simp [fm_uI]
    exact hI.2.1.1.1
  have e27 : nI (fg_cn (fg_F A) (fg_n (fk_gG (fm_uI N.1 63 31 (nI 0), N.2)))) = N.1 2 7 := by
    rw [hI.1.2.1.2.2.1, hI.1.2.1.2.2.2.2.2, ← fg_cn_more 12 hI0.1.1.2.2.1 (fj_Az hI0)]
  rw [e27, e25]
  refine ⟨fj_fle hq, rfl, fj_dle (fj_fd hq), fun _ => H _ _ _ _ _ _ _ _ _ ((fj_n.F b1 (by intro c hc; simp at hc ⊢; omega) rfl rfl).1.I hI0) ?_, fun z => absurd (fj_dc (fj_fd hq)) z⟩
  rw [b1.2]
  exact Nat.le_succ _
theorem lp_35 {n : Nat} (hn : n ≤ 12) (h38 : N.1 3 8 = nI n) (k1 : fj_lc (N.1 21) n = 0 → Q (.inr 4) (fj_g N, fm_SH)) (k2 : ¬ fj_lc (N.1 21) n = 0 → Q (.inl (some (.inl (.double (FP.ddiv (FP.i2d (fj_lq (N.1 21) (N.1 22) n)) (FP.i2d (nI (fj_lc (N.1 21) n)))))))) (N, fm_SH)) :
    ∀ m k, n - k = m → k ≤ n → fm_Ev (fm_PP X) 35 (6, [some (.inl (.ref 0)), some (.inl (.int (fj_lq (N.1 21) (N.1 22) k))), some (.inl (.int (nI (fj_lc (N.1 21) k)))), some (.inl (.int (nI k)))], [], (N, fm_SH)) Q := by
  intro m
  induction m with
  | zero =>
    intro k hm hk
    have e : k = n := by omega
    subst e
    have hl := fj_lc_le (N.1 21) k
    refine fb_35_6 X _ _ _ N Q ?_
    rw [h38, fz_le (by omega) (by omega), fz_eq (by omega) (by omega)]
    exact ⟨fun _ => ⟨k1, fun z => ⟨fj_dle (fj_dq (fun y => z ((nI_eq (b := 0) (by omega) (by omega)).mp y))), k2 z⟩⟩, fun z => absurd (Nat.le_refl _) z⟩
  | succ m ih =>
    intro k hm hk
    have go := ih (k + 1) (by omega) (by omega)
    refine fb_35_6 X _ _ _ N Q ?_
    rw [h38, fz_le (by omega) (by omega), fz_t (by omega : k < 2147483648), nI_add, nI_add]
    refine ⟨fun z => absurd z (by omega), fun _ => ⟨fz_in (by omega) (by omega), fun z => ?_, fun z => ⟨fz_in (by omega) (by omega), ?_⟩⟩⟩
    · rw [show fj_lq (N.1 21) (N.1 22) (k + 1) = fj_lq (N.1 21) (N.1 22) k from if_pos z, show fj_lc (N.1 21) (k + 1) = fj_lc (N.1 21) k from if_pos z] at go
      exact go
    · rw [show fj_lq (N.1 21) (N.1 22) (k + 1) = fj_lq (N.1 21) (N.1 22) k + N.1 22 k from if_neg z, show fj_lc (N.1 21) (k + 1) = fj_lc (N.1 21) k + 1 from if_neg z] at go
      exact go
theorem lp_113 {n : Nat} (hn : n ≤ 12) (h25 : N.1 63 25 = nI n) (k1 : fj_lc (N.1 68) n = 0 → Q (.inl (some (.inl (.double FP.dconst0)))) ((fm_uI N.1 63 31 (nI 1), N.2), fm_SH)) (k2 : ¬ fj_lc (N.1 68) n = 0 → Q (.inl (some (.inl (.double (FP.ddiv (FP.i2d (fj_lq (N.1 68) (N.1 69) n)) (FP.i2d (nI (fj_lc (N.1 68) n)))))))) ((fm_uI N.1 63 31 (nI 0), N.2), fm_SH)) :
    ∀ m k, n - k = m → k ≤ n → fm_Ev (fm_PP X) 113 (6, [some (.inl (.ref 63)), some (.inl (.int (fj_lq (N.1 68) (N.1 69) k))), some (.inl (.int (nI (fj_lc (N.1 68) k)))), some (.inl (.int (nI k)))], [], (N, fm_SH)) Q := by
  intro m
  induction m with
  | zero =>
    intro k hm hk
    have e : k = n := by omega
    subst e
    have hl := fj_lc_le (N.1 68) k
    refine fb_113_6 X _ _ _ N Q ?_
    rw [h25, fz_le (by omega) (by omega), fz_eq (by omega) (by omega)]
    exact ⟨fun _ => ⟨fun z => sp_64y ⟨fun y => absurd y fj_n1, fun _ => k1 z⟩, fun z => sp_64n ⟨fun _ => ⟨fj_dle (fj_dq (fun y => z ((nI_eq (b := 0) (by omega) (by omega)).mp y))), k2 z⟩, fun y => absurd rfl y⟩⟩, fun z => absurd (Nat.le_refl _) z⟩
  | succ m ih =>
    intro k hm hk
    have go := ih (k + 1) (by omega) (by omega)
    have ib := fz_in (n := 12) (by omega : k < 12) (by omega)
    refine fb_113_6 X _ _ _ N Q ?_
    rw [h25, fz_le (by omega) (by omega), fz_t (by omega : k < 2147483648), show nI k + nI 1 = nI (k + 1) by rw [nI_add], show nI (fj_lc (N.1 68) k) + nI 0 = nI (fj_lc (N.1 68) k) by rw [nI_add]; rfl, show nI (fj_lc (N.1 68) k) + nI 1 = nI (fj_lc (N.1 68) k + 1) by rw [nI_add], show fj_lq (N.1 68) (N.1 69) k + nI 0 = fj_lq (N.1 68) (N.1 69) k from Int32.add_zero _]
    refine ⟨fun z => absurd z (by omega), fun _ => ⟨ib, fun z => ⟨ib, fun _ => ?_, fun y => absurd z y⟩, fun z => ⟨ib, ib, fun y => absurd y z, fun _ => ?_⟩⟩⟩
    · rw [show fj_lq (N.1 68) (N.1 69) (k + 1) = fj_lq (N.1 68) (N.1 69) k from if_pos z, show fj_lc (N.1 68) (k + 1) = fj_lc (N.1 68) k from if_pos z] at go
      exact go
    · rw [show fj_lq (N.1 68) (N.1 69) (k + 1) = fj_lq (N.1 68) (N.1 69) k + N.1 69 k from if_neg z, show fj_lc (N.1 68) (k + 1) = fj_lc (N.1 68) k + 1 from if_neg z] at go
      exact go
end FJY
