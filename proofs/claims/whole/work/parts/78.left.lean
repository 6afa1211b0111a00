/-! the law: meanLeftOut -/
theorem fj_enddl {r6 r2 : Int32} {N5 : fm_N} {r4 : UInt64} {E F G : Prop} (h6 : r6 = r2) (hE : E) (hv : r2 = nI 0 → N5.2.2.1 90 0 = r4 ∧ FP.Core.dIsNaN r4 = false) : (r6 = r2 → ((r2 = nI 0 → (fm_inb (nI 0) 1 ∧ (((Op.cmpValue (FP.dcmp (N5.2.2.1 90 (nI 0).toNatClampNeg) r4) .l) = nI 0 → E) ∧ (¬ ((Op.cmpValue (FP.dcmp (N5.2.2.1 90 (nI 0).toNatClampNeg) r4) .l) = nI 0) → G)))) ∧ (¬ (r2 = nI 0) → E))) ∧ (¬ (r6 = r2) → F) := by
  refine ⟨fun _ => ⟨fun h => ⟨fz_in (by omega) (by omega), fun _ => hE, fun z => absurd ?_ z⟩, fun _ => hE⟩, fun z => absurd h6 z⟩
  obtain ⟨v1, v2⟩ := hv h
  rw [fj_t0, v1]
  exact fj_dc v2
section FJZ
variable {X : Nat × (Nat → Int32)} {x5 : Int32} {o6 o7 o8 o9 : Option fm_V} {N : fm_N} {Q : fm_O → fm_M → Prop} {A : fg_A} {o : Nat → Nat} {fc M : Nat} {X' : Nat → fm_N → Prop}
theorem lw_1887 (hI : fj_I N A o fc M) (H : fj_H X x5 (N.2.2.2 + 1) Q) : fm_Ev (fm_PP X) 0 (1887, [some (.inl (.ref 999999)), some (.inl (.ref 0)), some (.inl (.ref 63)), some (.inl (.ref 89)), some (.inl (.ref 90)), some (.inl (.int x5)), o6, o7, o8, o9], [], (N, fm_SH)) Q := by
  have hn := hI.1.1.1
  have h12 := hI.1.1.2.2.1
  have h25 : N.1 63 25 = nI (fg_n (fk_gG N)) := hI.2.1.1.1.trans hn
  have c68 : N.1 68 = N.1 21 := hI.2.1.2.1.2.2.2.2.1
  have c69 : N.1 69 = N.1 22 := hI.2.1.2.1.2.2.2.2.2.1
  have hl := fj_lc_le (N.1 21) (fg_n (fk_gG N))
  refine fb_0_1887 X _ _ _ _ _ N Q (fe_167 X N _ _ (fe_35 X N _ _ ?_))
  refine lp_35 h12 hn (fun z => ⟨rfl, ⟨fun _ => ⟨rfl, ?_⟩, fun z => absurd rfl z⟩⟩) (fun z => ⟨rfl, fz_in (by omega) (by omega), rfl, ?_⟩) _ 0 rfl (Nat.zero_le _)
  · refine fe_113 X _ _ _ ?_
    refine lp_113 (n := fg_n (fk_gG N)) h12 (by exact h25) (fun y => ?_) (fun y => absurd (by dsimp only; rw [c68]; exact z) y) _ 0 rfl (Nat.zero_le _)
    refine ⟨rfl, sp_62 (fj_enddl ?_ (H _ _ _ _ _ _ _ _ _ (((fj_q.gc N).tr (fj_q.th _ _)).I hI) ?_) (fun w => absurd w fj_n1))⟩
    · simp [fm_uI]
    · simp
  · have q1 : ∀ v : UInt64, fj_q 0 N (N.1, N.2.1, fm_uI N.2.2.1 90 ((nI 0).toNatClampNeg) v, N.2.2.2) := fun v => ⟨fun _ _ => rfl, rfl, fun _ _ _ => rfl, rfl, rfl, Nat.le_refl _⟩
    refine fe_113 X _ _ _ ?_
    refine lp_113 (n := fg_n (fk_gG N)) h12 (by exact h25) (fun y => absurd (by dsimp only at y; rw [c68] at y; exact y) z) (fun y => ?_) _ 0 rfl (Nat.zero_le _)
    refine ⟨rfl, sp_62 (fj_enddl ?_ (H _ _ _ _ _ _ _ _ _ (((q1 _).tr (fj_q.th _ _)).I hI) ?_) (fun _ => ⟨?_, ?_⟩))⟩
    · simp [fm_uI]
    · simp
    · dsimp only
      rw [c68, c69, fj_t0, fz_at, if_pos rfl]
    · dsimp only
      rw [c68, c69]
      exact fj_dq (fun w => z ((nI_eq (b := 0) (by omega) (by omega)).mp w))
end FJZ
