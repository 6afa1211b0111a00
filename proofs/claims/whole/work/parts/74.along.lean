/-! the class: the voltage along the way, found alone -/
section FJW
variable {X : Nat × (Nat → Int32)} {N : fm_N} {Q : fm_O → fm_M → Prop} {A : fg_A} {o : Nat → Nat} {fc M : Nat} {X' : Nat → fm_N → Prop} {Ki : Int32 → fm_N → Prop}
theorem lp_52 (ic : fk_ic N A o fc M) {V : Int32} (kk : Q (.inl (some (.inl (.int V)))) (N, fm_SH)) : ∀ B q st (x2 : Int32) (o1 : Option fm_V), q ≤ B → q < fc → q + st ≤ 11 → x2 + (fk_vt N A o fc M.testBit (o q) - N.1 0 7) = V →
    fm_Ev (fm_PP X) 52 (10, [some (.inl (.ref 0)), o1, some (.inl (.int x2)), some (.inl (.int (nI (o q)))), some (.inl (.int (nI st)))], [], (N, fm_SH)) Q := by
  have hS := ic.2.1
  have ok := hS.2.2.2.2.1
  intro B
  induction B with
  | zero =>
    intro q st x2 o1 hq hqf hst hV
    have e : q = 0 := by omega
    subst e
    refine fb_52_10 X _ _ _ _ N Q ?_
    rw [ok.1.2.2, fz_le (by omega) (by omega), fz_le (by omega) (by omega)]
    refine ⟨fun z => absurd z (by omega), fun _ => ⟨fun _ => ?_, fun z => absurd (Nat.le_refl _) z⟩⟩
    unfold fk_vt at hV
    rw [ok.1.2.2, ft_v_0, Int32.sub_self, Int32.add_zero] at hV
    rw [hV]
    exact kk
  | succ B ih =>
    intro q st x2 o1 hq hqf hst hV
    by_cases hq0 : q = 0
    · exact ih q st x2 o1 (by omega) hqf hst hV
    · have hq12 := (ok.2.1 q hqf).2
      have hoq0 : o q ≠ 0 := fun z => hq0 ((ft_o0 ok hqf).mp z)
      obtain ⟨r, hr, hor⟩ := ok.2.2.2.2 q (by omega) hqf
      have hin := fz_in hq12 (by omega)
      refine fb_52_10 X _ _ _ _ N Q ?_
      rw [fz_le (by omega) (by omega), fz_le (by omega) (by omega), fz_t (by omega : o q < 2147483648), nI_add]
      refine ⟨fun z => absurd z (by omega), fun _ => ⟨fun z => absurd z (by omega), fun _ => ⟨hin, sp_53 ic hqf (by omega) (sp_60 ⟨hin, ?_⟩)⟩⟩⟩
      rw [(hS.1 (o q) hq12).2.1, (hS.1 (o q) hq12).2.2.2.1, ← hor]
      refine ih r (st + 1) _ o1 (by omega) (by omega) (by omega) ?_
      have e : fk_vt N A o fc M.testBit (o q) = fk_vt N A o fc M.testBit (o r) - fg_S A (o q) * fk_fl N A o fc M.testBit (o q) / nI 10 := by
        unfold fk_vt
        rw [ft_v_step ok (by omega) hqf, hor]
      rw [fz_shift, ← e]
      exact hV
theorem sp_52 (ic : fk_ic N A o fc M) {u : Nat} (hu : fg_F A u = true) (kk : Ki (fk_vt N A o fc M.testBit u) N) : fm_Ci (fm_PP X) 52 [.inl (.ref 0), .inl (.int (nI u))] (N, fm_SH) Ki X' := by
  obtain ⟨q, hq, hoq⟩ := ic.2.1.2.2.2.2.1.2.2.2.1 u hu
  have hf := ic.2.1.2.2.2.2.1.1.2.1
  refine fe_52 X _ N Ki X' ?_
  have := lp_52 (X := X) (Q := fm_Qi fm_SH Ki X') ic ⟨rfl, kk⟩ q q 0 (N.1 0 7) (some (.inl (.int (nI u)))) (Nat.le_refl _) hq (by omega) (by rw [hoq, fz_back])
  rw [hoq] at this
  exact this
end FJW
