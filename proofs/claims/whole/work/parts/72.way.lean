/-! the class: the voltage along the way -/
section FJW
variable {X : Nat × (Nat → Int32)} {N : fm_N} {Q : fm_O → fm_M → Prop} {A : fg_A} {o : Nat → Nat} {fc M : Nat} {X' : Nat → fm_N → Prop} {Ki : Int32 → fm_N → Prop}
theorem lp_129 (hS : fk_S N A o fc) {i k : Nat} (hk : k < fc) (h0 : 0 < k) (k1 : ft_on o (fg_D A) fc i (o k) → Q (.inl (some (.inl (.int (nI 1))))) (N, fm_SH)) (k2 : ¬ ft_on o (fg_D A) fc i (o k) → Q (.inl (some (.inl (.int (nI 0))))) (N, fm_SH)) :
    ∀ B q p st (o1 : Option fm_V), q ≤ B → ft_at o (fg_D A) fc i p q → (k < p ∨ ¬ ft_on o (fg_D A) fc i (o k)) → q + st ≤ 11 →
    fm_Ev (fm_PP X) 129 (5, [some (.inl (.ref 2)), o1, some (.inl (.int (nI (o k)))), some (.inl (.int (nI (o q)))), some (.inl (.int (nI st)))], [], (N, fm_SH)) Q := by
  have ok := hS.2.2.2.2.1
  have hk12 := (ok.2.1 k hk).2
  have hok0 : o k ≠ 0 := fun z => by have := (ft_o0 ok hk).mp z; omega
  intro B
  induction B with
  | zero =>
    intro q p st o1 hq ha hm hst
    have e : q = 0 := by omega
    subst e
    have hno : ¬ ft_on o (fg_D A) fc i (o k) := by
      rcases hm with z | z
      · exact fun y => absurd ((ft_at_on ok ha (Nat.zero_le _) z).mp y) (by omega)
      · exact z
    refine fb_129_5 X _ _ _ _ N Q ?_
    rw [ok.1.2.2, fz_le (by omega) (by omega), fz_le (by omega) (by omega), fz_eq (by omega) (by omega)]
    exact ⟨fun z => absurd z (by omega), fun _ => ⟨fun _ => ⟨fun z => absurd z.symm hok0, fun _ => ⟨Or.inl rfl, k2 hno⟩⟩, fun z => absurd (Nat.le_refl _) z⟩⟩
  | succ B ih =>
    intro q p st o1 hq ha hm hst
    by_cases hq0 : q = 0
    · exact ih q p st o1 (by omega) ha hm hst
    · have hqf : q < fc := by have := ha.1; have := ha.2.1; omega
      have hq12 := (ok.2.1 q hqf).2
      have hoq0 : o q ≠ 0 := fun z => hq0 ((ft_o0 ok hqf).mp z)
      refine fb_129_5 X _ _ _ _ N Q ?_
      rw [fz_le (by omega) (by omega), fz_le (by omega) (by omega), fz_eq (by omega) (by omega), fz_t (by omega : o q < 2147483648), nI_add]
      refine ⟨fun z => absurd z (by omega), fun _ => ⟨fun z => absurd z (by omega), fun _ => ⟨fun z => ⟨Or.inr rfl, k1 ?_⟩, fun z => ⟨fz_in hq12 (by omega), ?_⟩⟩⟩⟩
      · have e : q = k := by
          rcases Nat.lt_trichotomy q k with w | w | w
          · exact absurd z (ok.2.2.1 q k w hk)
          · exact w
          · exact absurd z.symm (ok.2.2.1 k q w hqf)
        subst e
        exact (ft_at_on ok ha (Nat.le_refl _) ha.1).mpr rfl
      · obtain ⟨r, hr, hor, har⟩ := ft_at_next ok ha (by omega)
        rw [(hS.1 (o q) hq12).2.1, ← hor]
        refine ih r q (st + 1) o1 (by omega) har ?_ (by omega)
        rcases hm with w | w
        · by_cases y : k < q
          · exact Or.inl y
          · refine Or.inr (fun v => ?_)
            have := (ft_at_on ok ha (by omega) w).mp v
            rw [this] at z
            exact z rfl
        · exact Or.inr w
theorem sp_129 (hS : fk_S N A o fc) {i k : Nat} (hi : fg_F A i = true) (hk : k < fc) (h0 : 0 < k) (k1 : ft_on o (fg_D A) fc i (o k) → Ki (nI 1) N) (k2 : ¬ ft_on o (fg_D A) fc i (o k) → Ki (nI 0) N) : fm_Ci (fm_PP X) 129 [.inl (.ref 2), .inl (.int (nI i)), .inl (.int (nI (o k)))] (N, fm_SH) Ki X' := by
  obtain ⟨q, hoq, ha⟩ := ft_at_start hS.2.2.2.2.1 hi
  have hf := hS.2.2.2.2.1.1.2.1
  have h1 := ha.1
  refine fe_129 X _ _ N Ki X' ?_
  have := lp_129 (X := X) (Q := fm_Qi fm_SH Ki X') hS hk h0 (fun z => ⟨rfl, k1 z⟩) (fun z => ⟨rfl, k2 z⟩) q q fc 0 (some (.inl (.int (nI i)))) (Nat.le_refl _) ha (Or.inl hk) (by omega)
  rw [hoq] at this
  exact this
theorem sp_54 (ic : fk_ic N A o fc M) {i : Nat} (hi : fg_F A i = true) (k : Ki (fk_net N M.testBit i) N) : fm_Ci (fm_PP X) 54 [.inl (.ref 0), .inl (.int (nI i))] (N, fm_SH) Ki X' := by
  have h12 : i < 12 := fk_F12 ic.2.1.2.2.2.2.1 hi
  have ib := fz_in h12 (by omega)
  refine fe_54 X _ N Ki X' ⟨ib, ib, ?_⟩
  rw [fz_t (by omega : i < 2147483648)]
  refine sp_141 ic.2.2.2.1 h12 (sp_43 (A := A) (M := M) h12 (ic.2.1.1 i h12).1 ic.2.2.2.2.2.1 ic.2.2.2.2.2.2.1 ?_)
  unfold fk_net at k
  rw [hi, Bool.true_and]
  cases hb : M.testBit i
  · rw [hb, if_neg (fun z => nomatch z), Int32.add_zero] at k
    exact ⟨fun _ => ⟨rfl, k⟩, fun z => absurd rfl z⟩
  · rw [hb, if_pos rfl] at k
    exact ⟨fun z => absurd z fj_n1, fun _ => ⟨ib, rfl, k⟩⟩
end FJW
