/-! the model: its cells beside those of the class; curves -/
/-- the model's cells in N tell what the class's cells in R tell -/
def fn_cp (R N : fm_N) (M : Nat) : Prop :=
  (N.1 63 25 = R.1 3 8 ∧ N.1 63 26 = R.1 3 9 ∧ N.1 63 27 = R.1 0 7 ∧ N.1 63 28 = R.1 0 8 ∧ N.1 63 29 = R.1 0 9 ∧ N.2.1 63 32 = R.2.1 0 10) ∧
  (N.1 64 = R.1 4 ∧ N.1 65 = R.1 5 ∧ N.1 66 = R.1 6 ∧ N.1 67 = R.1 61 ∧ N.1 68 = R.1 21 ∧ N.1 69 = R.1 22 ∧ N.1 70 = R.1 7) ∧
  (∀ i, i < 12 → N.1 71 i = R.1 8 i) ∧ (∀ i, i < 12 → N.1 72 i = fz_b (M.testBit i)) ∧ (N.1 78 = R.1 9 ∧ N.1 79 = R.1 10 ∧ N.1 80 = R.1 11) ∧
  (∀ j, j < 12 → ∃ L, L ≤ 4 ∧ R.1 (fm_pc 0 j) 2 = nI (L + 1) ∧ N.1 76 j = nI L ∧ N.1 75 j = R.1 (fm_pc 2 j) 0 ∧ ∀ k, k < L → N.1 77 (4 * j + k) = R.1 (fm_pc 2 j) (k + 1) ∧ (N.1 81 (4 * j + k) = nI 0 ↔ ¬ R.1 (fm_pc 1 j) (k + 1) = nI 0))
abbrev fn_cs : List Nat := [73, 74, 82, 83, 84, 85, 86, 87, 88]
theorem fn_cp.fr {R N N' : fm_N} {M : Nat} (h : fn_cp R N M) {cs : List Nat} (hF : fx_F cs N N') (hc : cs.contains 63 = false ∧ cs.contains 64 = false ∧ cs.contains 65 = false ∧ cs.contains 66 = false ∧ cs.contains 67 = false ∧ cs.contains 68 = false ∧ cs.contains 69 = false ∧ cs.contains 70 = false ∧ cs.contains 71 = false ∧ cs.contains 72 = false ∧ cs.contains 75 = false ∧ cs.contains 76 = false ∧ cs.contains 77 = false ∧ cs.contains 78 = false ∧ cs.contains 79 = false ∧ cs.contains 80 = false ∧ cs.contains 81 = false) : fn_cp R N' M := by
  obtain ⟨c63, c64, c65, c66, c67, c68, c69, c70, c71, c72, c75, c76, c77, c78, c79, c80, c81⟩ := hc
  unfold fn_cp
  rw [hF.1 63 c63, hF.1 64 c64, hF.1 65 c65, hF.1 66 c66, hF.1 67 c67, hF.1 68 c68, hF.1 69 c69, hF.1 70 c70, hF.1 71 c71, hF.1 72 c72, hF.1 75 c75, hF.1 76 c76, hF.1 77 c77, hF.1 78 c78, hF.1 79 c79, hF.1 80 c80, hF.1 81 c81, hF.2]
  exact h
/-- the data of the currents alone -/
def fn_cd (R N : fm_N) : Prop := N.1 63 27 = R.1 0 7 ∧ N.1 63 28 = R.1 0 8 ∧ N.1 66 = R.1 6 ∧ N.1 67 = R.1 61 ∧ N.1 68 = R.1 21 ∧
  (∀ j, j < 12 → ∃ L, L ≤ 4 ∧ R.1 (fm_pc 0 j) 2 = nI (L + 1) ∧ N.1 76 j = nI L ∧ N.1 75 j = R.1 (fm_pc 2 j) 0 ∧ ∀ k, k < L → N.1 77 (4 * j + k) = R.1 (fm_pc 2 j) (k + 1) ∧ (N.1 81 (4 * j + k) = nI 0 ↔ ¬ R.1 (fm_pc 1 j) (k + 1) = nI 0))
theorem fn_cp.cd {R N : fm_N} {M : Nat} (h : fn_cp R N M) : fn_cd R N := ⟨h.1.2.2.1, h.1.2.2.2.1, h.2.1.2.2.1, h.2.1.2.2.2.1, h.2.1.2.2.2.2.1, h.2.2.2.2.2⟩
theorem fn_cd.fr {R N N' : fm_N} (h : fn_cd R N) {cs : List Nat} (hF : ∀ c, cs.contains c = false → N'.1 c = N.1 c) (c63 : N'.1 63 27 = N.1 63 27 ∧ N'.1 63 28 = N.1 63 28) (hc : cs.contains 66 = false ∧ cs.contains 67 = false ∧ cs.contains 68 = false ∧ cs.contains 75 = false ∧ cs.contains 76 = false ∧ cs.contains 77 = false ∧ cs.contains 81 = false) : fn_cd R N' := by
  obtain ⟨c66, c67, c68, c75, c76, c77, c81⟩ := hc
  unfold fn_cd
  rw [c63.1, c63.2, hF 66 c66, hF 67 c67, hF 68 c68, hF 75 c75, hF 76 c76, hF 77 c77, hF 81 c81]
  exact h
theorem fn_cd.ff {R N N' : fm_N} (h : fn_cd R N) {cs : List Nat} (hF : fx_F cs N N') (c63 : cs.contains 63 = false) (hc : cs.contains 66 = false ∧ cs.contains 67 = false ∧ cs.contains 68 = false ∧ cs.contains 75 = false ∧ cs.contains 76 = false ∧ cs.contains 77 = false ∧ cs.contains 81 = false) : fn_cd R N' := h.fr hF.1 ⟨by rw [hF.1 63 c63], by rw [hF.1 63 c63]⟩ hc
section FNC
variable {X : Nat × (Nat → Int32)} {R N : fm_N} {M : Nat} {X' : Nat → fm_N → Prop} {Q : fm_O → fm_M → Prop}
theorem lp_76 {j : Nat} (hj : j < 12) {L : Nat} (hL : L ≤ 4) (h75 : N.1 75 j = R.1 (fm_pc 2 j) 0) (hk : ∀ k, k < L → N.1 77 (4 * j + k) = R.1 (fm_pc 2 j) (k + 1) ∧ (N.1 81 (4 * j + k) = nI 0 ↔ ¬ R.1 (fm_pc 1 j) (k + 1) = nI 0)) {o2 : Option fm_V} : ∀ (k : Nat) (left most x5 : Int32) (o6 : Option fm_V), k ≤ L → x5 = nI k + Int32.ofInt (-1) →
    Q (.inl (some (.inl (.int (fc_cv (fun k => decide (R.1 (fm_pc 1 j) k ≠ nI 0)) (R.1 (fm_pc 2 j)) k left most))))) (N, fm_SH) →
    fm_Ev (fm_PP X) 76 (17, [some (.inl (.ref 63)), some (.inl (.int (nI j))), o2, some (.inl (.int most)), some (.inl (.int left)), some (.inl (.int x5)), o6], [], (N, fm_SH)) Q := by
  intro k
  induction k with
  | zero =>
    intro left most x5 o6 hkL hx h
    subst hx
    refine fb_76_17 X _ _ _ _ _ _ N Q ?_
    rw [fz_t (by omega : j < 2147483648), h75]
    exact ⟨fun _ => ⟨fz_in (by omega) (by omega), sp_171 h⟩, fun z => absurd (by decide) z⟩
  | succ k ih =>
    intro left most x5 o6 hkL hx h
    rw [fz_pred] at hx
    subst hx
    obtain ⟨k1, k2⟩ := hk k (by omega)
    refine fb_76_17 X _ _ _ _ _ _ N Q ?_
    rw [fz_lt (by omega) (by omega), show nI 4 * nI j = nI (4 * j) from pk_mul 4 j, nI_add, fz_t (by omega : 4 * j + k < 2147483648), k1, k2]
    unfold fc_cv at h
    refine ⟨fun z => absurd z (Nat.not_lt_zero k), fun _ => ⟨fz_in (by omega) (by omega), fz_in (by omega) (by omega), fun hs => ⟨fun hl => ?_, fun hl => ?_⟩, fun hs => ?_⟩⟩
    · rw [if_pos (decide_eq_true hs), if_pos hl] at h
      exact ih _ most _ _ (by omega) rfl h
    · rw [if_pos (decide_eq_true hs), if_neg hl] at h
      exact h
    · have hs' : R.1 (fm_pc 1 j) (k + 1) = nI 0 := Classical.byContradiction hs
      rw [if_neg (by simp [hs'])] at h
      exact sp_171 (ih left _ _ _ (by omega) rfl h)
theorem sp_76 (hC : fn_cd R N) {j : Nat} (hj : j < 12) {s : Int32} {K : Int32 → fm_N → Prop} (h : K (fk_cv R j s) N) : fm_Ci (fm_PP X) 76 [.inl (.ref 63), .inl (.int (nI j)), .inl (.int s)] (N, fm_SH) K X' := by
  obtain ⟨L, hL, e, e76, e75, hk⟩ := hC.2.2.2.2.2 j hj
  refine fe_76 X _ _ N K X' ?_
  rw [fz_t (by omega : j < 2147483648), e76]
  refine ⟨fz_in (by omega) (by omega), lp_76 hj hL e75 hk L s (nI 200) _ _ (Nat.le_refl _) ?_ ⟨rfl, ?_⟩⟩
  · cases L with
    | zero => decide
    | succ L => rw [fz_pred, fz_sub (by omega)]; rfl
  · unfold fk_cv at h
    rw [e, fz_t (by omega)] at h
    exact h
end FNC
