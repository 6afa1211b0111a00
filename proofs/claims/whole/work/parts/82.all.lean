/-! the law from its loop's head -/
theorem lw_all {X : Nat × (Nat → Int32)} (hX : X.1 < 2147483640) {N : fm_N} {o6 o7 o8 o9 : Option fm_V} (hI : fj_I N fg_init (fun _ => 0) 1 0) (hg : N.2.2.2 = 0) :
    fm_Ev (fm_PP X) 0 (28, [some (.inl (.ref 999999)), some (.inl (.ref 0)), some (.inl (.ref 63)), some (.inl (.ref 89)), some (.inl (.ref 90)), some (.inl (.int (nI 0))), o6, o7, o8, o9], [], (N, fm_SH)) (fun r M' => r = .inl (some (.inl (.int (nI 1)))) ∧ M'.2 = fm_SH ∧ 4 * M'.1.2.2.2 ≤ X.1) :=
  lp_0 (Q := fun r M' => r = .inl (some (.inl (.int (nI 1)))) ∧ M'.2 = fm_SH ∧ 4 * M'.1.2.2.2 ≤ X.1) hX (fun N' h => ⟨rfl, rfl, h⟩) _ 0 N o6 o7 o8 o9 fg_init (fun _ => 0) 1 0 (Nat.le_refl _) (by omega) hI (by omega)
