/-! the law's passes as a whole -/
section FLP3
variable {X : Nat × (Nat → Int32)} {R N : fm_N} {G : fg_G} {A : fg_A} {o : Nat → Nat} {fc mi n : Nat} {K : Int32 → fm_N → Prop} {X' : Nat → fm_N → Prop} {Q : fm_O → fm_M → Prop}
/-- the net while a minute's shares are dealt out; P: before; below i they are dealt -/
def fl_Z (R P Y : fm_N) (A : fg_A) (o : Nat → Nat) (fc n S M mi i : Nat) : Prop := Y.2 = P.2 ∧ (∀ c, c ≠ 0 → Y.1 c = P.1 c) ∧
  (∀ x, x ≠ 5 → x ≠ 6 → ¬ (110 ≤ x ∧ x < 118) → ¬ (130 ≤ x ∧ x < 138) → ¬ (150 ≤ x ∧ x < 158) → ¬ (170 ≤ x ∧ x < 178) → Y.1 0 x = P.1 0 x) ∧
  (∀ j, j < 8 → Y.1 0 (110 + j) = (if j < i then (fl_nx R A o fc n S).1 23 j else R.1 23 j) ∧ Y.1 0 (130 + j) = (if j < i then (fl_nx R A o fc n S).1 8 j else R.1 8 j) ∧ Y.1 0 (150 + j) = fz_b (decide (nI 100 ≤ if j < i then (fl_nx R A o fc n S).1 8 j else R.1 8 j)) ∧ Y.1 0 (170 + j) = fz_b (if j < i then S.testBit j else M.testBit j)) ∧
  (∃ cc, Y.1 0 5 = nI cc ∧ R.2.1 1 10 + fs_l (fun u => if S.testBit u = true then (R.1 22 u).toInt64 else 0) i = lN cc ∧ cc ≤ 512 * mi + 64 * i) ∧
  Y.1 0 6 = P.1 0 6 + nI (fg_cn (fh_b (R.1 8) ((fl_nx R A o fc n S).1 8)) i)
theorem fl_Z_step {P Y : fm_N} {S M i : Nat} (h : fl_Z R P Y A o fc n S M mi i) (hi : i < n) (h8 : n ≤ 8) {e : Nat} (he : R.1 22 i = nI e ∧ e ≤ 64) {c u : Int32} (hc : Y.1 0 5 = c) (hu : Y.1 0 6 = u) :
    fl_Z R P (fm_uI (fm_uI (fm_uI (fm_uI (fm_uI (fm_uI Y.1 0 (170 + i) (fz_b (S.testBit i))) 0 (110 + i) (if ¬ R.1 22 i ≤ nI 0 ∧ S.testBit i = false then R.1 23 i + nI 1 else R.1 23 i)) 0 5 (c + (if S.testBit i = true then R.1 22 i else nI 0))) 0 (130 + i) ((fl_nx R A o fc n S).1 8 i)) 0 6 (u + fz_b (decide (nI 100 ≤ (fl_nx R A o fc n S).1 8 i) && !decide (nI 100 ≤ R.1 8 i)))) 0 (150 + i) (fz_b (decide (nI 100 ≤ (fl_nx R A o fc n S).1 8 i))), Y.2) A o fc n S M mi (i + 1) := by
  obtain ⟨h1, h2, h3, h4, ⟨cc, h5, h6, h7⟩, h9⟩ := h
  have e23 : (fl_nx R A o fc n S).1 23 i = if ¬ R.1 22 i ≤ nI 0 ∧ S.testBit i = false then R.1 23 i + nI 1 else R.1 23 i := by
    rw [fl_nx_23]
    by_cases z : ¬ R.1 22 i ≤ nI 0 ∧ S.testBit i = false
    · rw [if_pos z, if_pos ⟨hi, z⟩]
    · rw [if_neg z, if_neg (fun y => z y.2)]
  rw [← e23]
  generalize hF8 : (fl_nx R A o fc n S).1 8 = F8 at h4 h9 ⊢
  generalize hF23 : (fl_nx R A o fc n S).1 23 = F23 at h4 ⊢
  unfold fl_Z
  rw [hF8, hF23]
  refine ⟨h1, fun d hd => ?_, fun x x5 x6 a1 a2 a3 a4 => ?_, fun j hj => ?_, ⟨cc + (if S.testBit i = true then e else 0), ?_, ?_, ?_⟩, ?_⟩
  · show fm_uI (fm_uI (fm_uI (fm_uI (fm_uI (fm_uI Y.1 0 _ _) 0 _ _) 0 _ _) 0 _ _) 0 _ _) 0 _ _ d = _
    rw [fz_ne _ _ hd, fz_ne _ _ hd, fz_ne _ _ hd, fz_ne _ _ hd, fz_ne _ _ hd, fz_ne _ _ hd]
    exact h2 d hd
  · dsimp only
    simp (disch := omega) only [fz_an]
    exact h3 x x5 x6 a1 a2 a3 a4
  · dsimp only
    by_cases z : j = i
    · subst z
      simp (disch := omega) only [fz_an, fz_ae, if_pos (Nat.lt_succ_self j)]
      exact ⟨trivial, trivial, trivial, trivial⟩
    · simp (disch := omega) only [fz_an]
      have e : (j < i + 1) = (j < i) := propext ⟨fun y => by omega, fun y => by omega⟩
      simp only [e]
      exact h4 j hj
  · dsimp only
    simp (disch := omega) only [fz_an, fz_ae]
    rw [← hc, h5]
    by_cases z : S.testBit i = true
    · rw [if_pos z, if_pos z, he.1, nI_add]
    · rw [if_neg z, if_neg z, nI_add]
  · show R.2.1 1 10 + (fs_l _ i + _) = _
    rw [← Int64.add_assoc, h6]
    dsimp only
    by_cases z : S.testBit i = true
    · rw [if_pos z, if_pos z, he.1, nI_l (by omega)]
      exact (Int64.ofNat_add _ _).symm
    · rw [if_neg z, if_neg z, Int64.add_zero]
      rfl
  · by_cases z : S.testBit i = true
    · rw [if_pos z]; omega
    · rw [if_neg z]; omega
  · dsimp only
    simp (disch := omega) only [fz_an, fz_ae]
    rw [← hu, h9, Int32.add_assoc]
    congr 1
    show nI _ + nI _ = nI (fg_cn _ i + _)
    rw [nI_add]
    congr 2
    show cond (decide (nI 100 ≤ F8 i) && !decide (nI 100 ≤ R.1 8 i)) 1 0 = if fh_b (R.1 8) F8 i = true then 1 else 0
    unfold fh_b
    cases decide (nI 100 ≤ F8 i) && !decide (nI 100 ≤ R.1 8 i) <;> rfl
theorem lp_199c {P : fm_N} {S M g : Nat} (hS : S < 256) (h8 : n ≤ 8) (h0 : P.1 0 0 = nI n) (hmk : fm_mk P.1 g) (he : ∀ i, i < 8 → P.1 0 (90 + i) = R.1 22 i ∧ ∃ e, R.1 22 i = nI e ∧ e ≤ 64) (hrow : ∀ i, i < 8 → R.1 8 i + P.1 (fm_L0 + g) i = (fl_nx R A o fc n S).1 8 i)
    (kk : ∀ Y, fl_Z R P Y A o fc n S M mi n → Q (.inl (some (.inl (.int (nI S))))) ((fm_uI Y.1 0 4 (Y.1 0 4 + nI 1), Y.2), fm_SH)) :
    ∀ m i (Y : fm_N) (o4 o5 : Option fm_V), n - i = m → i ≤ n → fl_Z R P Y A o fc n S M mi i →
    fm_Ev (fm_PP X) 199 (161, [some (.inl (.ref 0)), some (.inl (.int (nI S))), some (.inr (3, g)), some (.inl (.int (nI i))), o4, o5], [], (Y, fm_SH)) Q := by
  have hL : fm_L0 + g ≠ 0 := by unfold fm_L0; omega
  intro m
  induction m with
  | zero =>
    intro i Y o4 o5 hm hi hZ
    have e : i = n := by omega
    rw [e] at hZ ⊢
    have h00 : Y.1 0 0 = nI n := by rw [hZ.2.2.1 0 (by omega) (by omega) (by omega) (by omega) (by omega) (by omega)]; exact h0
    refine fb_199_161 X _ _ _ _ _ Y Q ?_
    simp (disch := omega) only [fz_t, h00, fz_le]
    exact ⟨fz_in (by omega) (by omega), fun _ => ⟨fz_in (by omega) (by omega), fz_in (by omega) (by omega), kk Y hZ⟩, fun z => absurd (Nat.le_refl n) z⟩
  | succ m ih =>
    intro i Y o4 o5 hm hi hZ
    have hi8 : i < 8 := by omega
    have h00 : Y.1 0 0 = nI n := by rw [hZ.2.2.1 0 (by omega) (by omega) (by omega) (by omega) (by omega) (by omega)]; exact h0
    obtain ⟨z1, z2, z3, z4, -, -⟩ := id hZ
    obtain ⟨q1, q2, q3, q4⟩ := z4 i hi8
    have hn : ¬ i < i := Nat.lt_irrefl i
    rw [if_neg hn] at q1 q2 q3 q4
    obtain ⟨e1, e, e2, e3⟩ := he i hi8
    refine lp_161s (n := n) (bl := decide (nI 100 ≤ R.1 8 i)) (s := S.testBit i) (v := (fl_nx R A o fc n S).1 8 i) (t := R.1 23 i) (ch := R.1 22 i) (c := Y.1 0 5) (u := Y.1 0 6) h00 h8 (by omega) hS ?_ rfl q3 ?_ q1 ?_ rfl rfl (fun o4 o5 => ?_)
    · show Y.1 (fm_L0 + g) 5000 = nI 21
      rw [z2 _ hL]; exact hmk
    · rw [q2, z2 _ hL]; exact hrow i hi8
    · rw [z3 (90 + i) (by omega) (by omega) (by omega) (by omega) (by omega) (by omega)]; exact e1
    · exact ih (i + 1) _ o4 o5 (by omega) (by omega) (fl_Z_step hZ (by omega) h8 ⟨e2, e3⟩ rfl rfl)
end FLP3
