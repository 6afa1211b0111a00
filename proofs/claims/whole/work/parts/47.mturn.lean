/-! the model: turns -/
section FNT
variable {X : Nat × (Nat → Int32)} {R N : fm_N} {G : fg_G} {A : fg_A} {o : Nat → Nat} {fc M : Nat} {X' : Nat → fm_N → Prop} {Q : fm_O → fm_M → Prop}
theorem lp_84a {v n : Nat} (hv : v < 12) (hn : n < 12) {a0 : Nat → Nat} (kk : ∀ N' x3, fx_F [88] N N' → (∀ i, i ≤ n → N'.1 88 i = nI (fl_in (N.1 69) v n a0 i) ∧ fl_in (N.1 69) v n a0 i < 12) → fm_Ev (fm_PP X) 84 (4, [some (.inl (.ref 63)), some (.inl (.int (nI (n + 1)))), some (.inl (.int (nI (v + 1)))), some (.inl (.int x3))], [], (N', fm_SH)) Q) :
    ∀ p (N1 : fm_N) (a : Nat → Nat), p ≤ n → fx_F [88] N N1 → (∀ i, i ≤ n → i ≠ p → N1.1 88 i = nI (a i) ∧ a i < 12) → (fl_in (N.1 69) v p a = fl_in (N.1 69) v n a0) →
    fm_Ev (fm_PP X) 84 (23, [some (.inl (.ref 63)), some (.inl (.int (nI n))), some (.inl (.int (nI v))), some (.inl (.int (nI p)))], [], (N1, fm_SH)) Q := by
  intro p
  induction p with
  | zero =>
    intro N1 a hp hF hi he
    refine fb_84_23 X _ _ _ N1 Q ?_
    simp (disch := omega) only [fz_t, fz_le, nI_add]
    refine ⟨fun _ => ⟨fz_in (by omega) (by omega), kk _ _ (hF.up rfl) (fun i h => ?_)⟩, fun z => absurd (Nat.le_refl 0) z⟩
    rw [← he]
    show _ = nI (fg_up a 0 v i) ∧ fg_up a 0 v i < 12
    by_cases z : i = 0
    · subst z; rw [fg_up_eq]; simp [fz_ui]; exact hv
    · rw [fg_up_ne _ _ z]; simp [fz_ui, z]; exact hi i h z
  | succ p ih =>
    intro N1 a hp hF hi he
    obtain ⟨g88, g12⟩ := hi p (by omega) (by omega)
    refine fb_84_23 X _ _ _ N1 Q ?_
    have e1 : nI (p + 1) - nI 1 = nI p := fz_sub (by omega)
    rw [fx_cell hF 69 rfl, fx_cell hF 69 rfl]
    simp (disch := omega) only [e1, fz_t, fz_le, g88, nI_add, fz_pred]
    have hfl : fl_in (N.1 69) v (p + 1) a = if N.1 69 v ≤ N.1 69 (a p) then fg_up a (p + 1) v else fl_in (N.1 69) v p (fg_up a (p + 1) (a p)) := rfl
    refine ⟨fun z => absurd z (by omega), fun _ => ⟨fz_in (by omega) (by omega), fz_in (by omega) (by omega), fz_in (by omega) (by omega), fun z => ⟨fz_in (by omega) (by omega), kk _ _ (hF.up rfl) (fun i h => ?_)⟩, fun z => ⟨fz_in (by omega) (by omega), fz_in (by omega) (by omega), ih _ (fg_up a (p + 1) (a p)) (by omega) (hF.up rfl) (fun i h1 h2 => ?_) ?_⟩⟩⟩
    · rw [← he, hfl, if_pos z]
      by_cases y : i = p + 1
      · subst y; rw [fg_up_eq]; simp [fz_ui]; exact hv
      · rw [fg_up_ne _ _ y]; simp [fz_ui, y]; exact hi i h y
    · by_cases y : i = p + 1
      · subst y; rw [fg_up_eq]; simp [fz_ui]; exact g12
      · rw [fg_up_ne _ _ y]; simp [fz_ui, y]; exact hi i h1 y
    · rw [← he, hfl, if_neg z]
theorem lp_84 {n : Nat} (hn : n ≤ 12) (h25 : N.1 63 25 = nI n) (kk : ∀ N', fx_F [88] N N' → (∀ i, i < fl_n (N.1 68) n → N'.1 88 i = nI (fl_a (N.1 69) (N.1 68) n i) ∧ fl_a (N.1 69) (N.1 68) n i < 12) → Q (.inl (some (.inl (.int (nI (fl_n (N.1 68) n)))))) (N', fm_SH)) :
    ∀ m k (N1 : fm_N) (o3 : Option fm_V), n - k = m → k ≤ n → fx_F [88] N N1 → (∀ i, i < fl_n (N.1 68) k → N1.1 88 i = nI (fl_a (N.1 69) (N.1 68) k i) ∧ fl_a (N.1 69) (N.1 68) k i < 12) →
    fm_Ev (fm_PP X) 84 (4, [some (.inl (.ref 63)), some (.inl (.int (nI (fl_n (N.1 68) k)))), some (.inl (.int (nI k))), o3], [], (N1, fm_SH)) Q := by
  intro m
  induction m with
  | zero =>
    intro k N1 o3 hm hk hF hi
    refine fb_84_4 X _ _ _ N1 Q ?_
    rw [fx_cell hF 63 rfl, h25, fz_le (by omega) (by omega)]
    have e : k = n := by omega
    subst e
    exact ⟨fun _ => kk N1 hF hi, fun z => absurd (by omega) z⟩
  | succ m ih =>
    intro k N1 o3 hm hk hF hi
    have hle := fl_n_le (N.1 68) k
    refine fb_84_4 X _ _ _ N1 Q ?_
    rw [fx_cell hF 63 rfl, h25, fz_le (by omega) (by omega), fz_t (by omega : k < 2147483648), fx_cell hF 68 rfl, nI_add]
    refine ⟨fun z => absurd z (by omega), fun _ => ⟨fz_in (by omega) (by omega), fun z => ?_, fun z => ?_⟩⟩
    · have e1 : fl_n (N.1 68) (k + 1) = fl_n (N.1 68) k := if_pos z
      have e2 : fl_a (N.1 69) (N.1 68) (k + 1) = fl_a (N.1 69) (N.1 68) k := if_pos z
      have := ih (k + 1) N1 o3 (by omega) (by omega) hF (by rw [e1, e2]; exact hi)
      rw [e1] at this
      exact this
    · have e1 : fl_n (N.1 68) (k + 1) = fl_n (N.1 68) k + 1 := if_neg z
      have e2 : fl_a (N.1 69) (N.1 68) (k + 1) = fl_in (N.1 69) k (fl_n (N.1 68) k) (fl_a (N.1 69) (N.1 68) k) := if_neg z
      refine lp_84a (N := N) (v := k) (n := fl_n (N.1 68) k) (by omega) (by omega) (a0 := fl_a (N.1 69) (N.1 68) k) (fun N' x3 b1 b2 => ?_) _ N1 (fl_a (N.1 69) (N.1 68) k) (Nat.le_refl _) hF (fun i h1 h2 => hi i (by omega)) rfl
      have := ih (k + 1) N' (some (.inl (.int x3))) (by omega) (by omega) b1 (by rw [e1, e2]; exact fun i h => b2 i (by omega))
      rw [e1] at this
      exact this
theorem sp_84 {n : Nat} (hn : n ≤ 12) (h25 : N.1 63 25 = nI n) {K : Int32 → fm_N → Prop} (kk : ∀ N', fx_F [88] N N' → (∀ i, i < fl_n (N.1 68) n → N'.1 88 i = nI (fl_a (N.1 69) (N.1 68) n i) ∧ fl_a (N.1 69) (N.1 68) n i < 12) → K (nI (fl_n (N.1 68) n)) N') : fm_Ci (fm_PP X) 84 [.inl (.ref 63)] (N, fm_SH) K X' := by
  refine fe_84 X N K X' ?_
  exact lp_84 (N := N) hn h25 (fun N' a1 a2 => ⟨rfl, kk N' a1 a2⟩) _ 0 N _ rfl (Nat.zero_le _) (fx_F.rf _ _) (fun i hi => absurd hi (Nat.not_lt_zero i))
end FNT
