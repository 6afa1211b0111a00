/-! the class: the voltage along the way, found alone -/
section FJW
variable {X : Nat × (Nat → Int32)} {N : fm_N} {Q : fm_O → fm_M → Prop} {A : fg_A} {o : Nat → Nat} {fc M : Nat} {X' : Nat → fm_N → Prop} {Ki : Int32 → fm_N → Prop}
theorem lp_53 (ic : fk_ic N A o fc M) {k : Nat} (hk : k < fc) (h0 : 0 < k) {g : Nat → Int32} (hg1 : ∀ i, fg_F A i = true ∧ ft_on o (fg_D A) fc i (o k) → g i = fk_net N M.testBit i) (hg0 : ∀ i, ¬ (fg_F A i = true ∧ ft_on o (fg_D A) fc i (o k)) → g i = 0) (kk : Q (.inl (some (.inl (.int (fs_m g (fg_n (fk_gG N))))))) (N, fm_SH)) :
    ∀ m j, fg_n (fk_gG N) - j = m → j ≤ fg_n (fk_gG N) → fm_Ev (fm_PP X) 53 (4, [some (.inl (.ref 0)), some (.inl (.int (nI (o k)))), some (.inl (.int (fs_m g j))), some (.inl (.int (nI j)))], [], (N, fm_SH)) Q := by
  have hn := ic.1.1
  have h12 := ic.1.2.2.1
  intro m
  induction m with
  | zero =>
    intro j hm hj
    refine fb_53_4 X _ _ _ N Q ?_
    rw [hn, fz_le (by omega) (by omega)]
    have e : j = fg_n (fk_gG N) := by omega
    rw [e]
    exact ⟨fun _ => kk, fun z => absurd (Nat.le_refl _) z⟩
  | succ m ih =>
    intro j hm hj
    have go := ih (j + 1) (by omega) (by omega)
    have no : ¬ (fg_F A j = true ∧ ft_on o (fg_D A) fc j (o k)) → fm_Ev (fm_PP X) 53 (4, [some (.inl (.ref 0)), some (.inl (.int (nI (o k)))), some (.inl (.int (fs_m g j))), some (.inl (.int (nI (j + 1))))], [], (N, fm_SH)) Q := fun z => by
      rw [show fs_m g (j + 1) = fs_m g j from by
        show fs_m g j + g j = _
        rw [hg0 _ z, Int32.add_zero]] at go
      exact go
    refine fb_53_4 X _ _ _ N Q ?_
    rw [hn, fz_le (by omega) (by omega), fz_t (by omega : j < 2147483648), (ic.2.1.1 j (by omega)).1, fz_be, nI_add]
    refine ⟨fun z => absurd z (by omega), fun _ => ⟨fz_in (by omega) (by omega), fun z => no (fun w => by rw [z] at w; cases w.1), fun z => ?_⟩⟩
    have hF := (Bool.not_eq_false _).mp z
    refine sp_129 ic.2.1 hF hk h0 (fun w => ⟨fun y => absurd y fj_n1, fun _ => sp_54 ic hF ?_⟩) (fun w => ⟨fun _ => no (fun y => w y.2), fun y => absurd rfl y⟩)
    rw [show fs_m g (j + 1) = fs_m g j + fk_net N M.testBit j from by
      show fs_m g j + g j = _
      rw [hg1 _ ⟨hF, w⟩]] at go
    exact go
theorem sp_53 (ic : fk_ic N A o fc M) {k : Nat} (hk : k < fc) (h0 : 0 < k) (kk : Ki (fk_fl N A o fc M.testBit (o k)) N) : fm_Ci (fm_PP X) 53 [.inl (.ref 0), .inl (.int (nI (o k)))] (N, fm_SH) Ki X' := by
  refine fe_53 X _ N Ki X' ?_
  unfold fk_fl ft_f ft_s at kk
  rw [fs_more 12 ic.1.2.2.1 (fun i h1 h2 => if_neg (fun z => absurd (fj_An ic.1 ic.2.2.1 i z.1) (by omega)))] at kk
  exact lp_53 (X := X) (Q := fm_Qi fm_SH Ki X') ic hk h0 (fun i z => if_pos z) (fun i z => if_neg z) ⟨rfl, kk⟩ _ 0 rfl (Nat.zero_le _)
end FJW
