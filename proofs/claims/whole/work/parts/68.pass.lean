/-! the law: minutes -/
theorem fj_ps {R N : fm_N} {A : fg_A} {o : Nat → Nat} {fc M : Nat} (h : fx_M fn_ps 63 32 R N) (ic : fk_ic R A o fc M) (hC : fn_cp R N M) (hb : ∀ i, M.testBit i = true → i < fg_n (fk_gG R)) : fj_I N A o fc M := by
  obtain ⟨⟨c25, c26, c27, c28, c29, c32⟩, ⟨c64, c65, c66, c67, c68, c69, c70⟩, c71, c72, ⟨c78, c79, c80⟩, cR⟩ := hC
  obtain ⟨hG, hS, hFi, hR, hr, h4, hM, hh⟩ := ic
  have hF : fx_F fn_ps R (N.1, R.2) := fx_F.ofM h
  have e := h.1
  have eG : fk_gG N = fk_gG R := fk_gG_same (e 3 rfl) (e 4 rfl) (e 5 rfl) (e 9 rfl) (e 10 rfl) (e 11 rfl) (fun i => by rw [e 7 rfl])
  have hp := fj_hp fn_ps (by intro c h1 h2; simp; omega)
  have dt : fk_dt R N := fk_dt.of e (by rw [e 0 rfl]) (by rw [e 0 rfl]) rfl rfl rfl hp
  have hG' : fk_G (N.1, R.2) (fk_gG R) := hG.fr hF ⟨rfl, rfl, rfl, rfl, rfl, rfl, rfl⟩
  have hS' : fk_S (N.1, R.2) A o fc := hS.fr hF ⟨rfl, rfl, rfl, rfl, rfl, rfl, rfl⟩
  have l10 : N.2.1 0 10 = R.2.1 0 10 := h.2.1 0 10 (by decide)
  refine ⟨⟨by rw [eG]; exact hG', hS', by rw [eG]; exact hFi, fk_Rf_dt dt hR, fk_rng_dt dt hr, by rw [e 20 rfl]; exact h4, hM, fun i => by rw [e 7 rfl]; exact hh i⟩, ?_, fun i hi => by rw [eG]; exact hb i hi⟩
  refine ⟨⟨?_, ?_, ?_, ?_, ?_, ?_⟩, ⟨?_, ?_, ?_, ?_, ?_, ?_, ?_⟩, fun i hi => ?_, c72, ⟨?_, ?_, ?_⟩, fun j hj => ?_⟩
  · rw [e 3 rfl]; exact c25
  · rw [e 3 rfl]; exact c26
  · rw [e 0 rfl]; exact c27
  · rw [e 0 rfl]; exact c28
  · rw [e 0 rfl]; exact c29
  · rw [l10]; exact c32
  · rw [e 4 rfl]; exact c64
  · rw [e 5 rfl]; exact c65
  · rw [e 6 rfl]; exact c66
  · rw [e 61 rfl]; exact c67
  · rw [e 21 rfl]; exact c68
  · rw [e 22 rfl]; exact c69
  · rw [e 7 rfl]; exact c70
  · rw [e 8 rfl]; exact c71 i hi
  · rw [e 9 rfl]; exact c78
  · rw [e 10 rfl]; exact c79
  · rw [e 11 rfl]; exact c80
  · rw [e _ (hp j hj).1, e _ (hp j hj).2.1, e _ (hp j hj).2.2]
    exact cR j hj
/-- the model's cells as before -/
theorem fn_cp.m2 {R N N1 : fm_N} {M : Nat} (h : fn_cp R N M) (e : ∀ c, 63 < c → N1.1 c = N.1 c) (e63 : ∀ i, i ≠ 30 → i ≠ 31 → N1.1 63 i = N.1 63 i) (l : N1.2.1 63 32 = N.2.1 63 32) : fn_cp R N1 M := by
  obtain ⟨⟨c25, c26, c27, c28, c29, c32⟩, ⟨c64, c65, c66, c67, c68, c69, c70⟩, c71, c72, ⟨c78, c79, c80⟩, cR⟩ := h
  refine ⟨⟨?_, ?_, ?_, ?_, ?_, ?_⟩, ⟨?_, ?_, ?_, ?_, ?_, ?_, ?_⟩, fun i hi => ?_, fun i hi => ?_, ⟨?_, ?_, ?_⟩, fun j hj => ?_⟩
  · rw [e63 25 (by decide) (by decide)]; exact c25
  · rw [e63 26 (by decide) (by decide)]; exact c26
  · rw [e63 27 (by decide) (by decide)]; exact c27
  · rw [e63 28 (by decide) (by decide)]; exact c28
  · rw [e63 29 (by decide) (by decide)]; exact c29
  · rw [l]; exact c32
  · rw [e 64 (by decide)]; exact c64
  · rw [e 65 (by decide)]; exact c65
  · rw [e 66 (by decide)]; exact c66
  · rw [e 67 (by decide)]; exact c67
  · rw [e 68 (by decide)]; exact c68
  · rw [e 69 (by decide)]; exact c69
  · rw [e 70 (by decide)]; exact c70
  · rw [e 71 (by decide)]; exact c71 i hi
  · rw [e 72 (by decide)]; exact c72 i hi
  · rw [e 78 (by decide)]; exact c78
  · rw [e 79 (by decide)]; exact c79
  · rw [e 80 (by decide)]; exact c80
  · rw [e 75 (by decide), e 76 (by decide), e 77 (by decide), e 81 (by decide)]
    exact cR j hj
/-- minutes of the class one after another -/
def fk_mh : Nat → fm_N → fg_A → (Nat → Nat) → Nat → Nat → fm_N → fg_A → (Nat → Nat) → Nat → Nat → Int32 → Prop
  | 0, R, A, o, fc, M, R', A', o', fc', M', b => R' = R ∧ A' = A ∧ o' = o ∧ fc' = fc ∧ M' = M ∧ b = nI 0
  | m + 1, R, A, o, fc, _, R', A', o', fc', M', b => ∃ R1 A1 o1 fc1 M1 b1, fk_ic R1 A1 o1 fc1 M1 ∧ fk_cm R R1 A o fc (fg_n (fk_gG R)) M1 ∧ (∀ i, M1.testBit i = true → i < fg_n (fk_gG R)) ∧ fk_mh m R1 A1 o1 fc1 M1 R' A' o' fc' M' b1 ∧ b = nI (fg_cn (fh_b (R.1 7) (R1.1 7)) 12) + b1
theorem fk_cm.n {R R1 : fm_N} {A : fg_A} {o : Nat → Nat} {fc n M : Nat} (h : fk_cm R R1 A o fc n M) : fg_n (fk_gG R1) = fg_n (fk_gG R) := by
  show (R1.1 3 8).toNatClampNeg = (R.1 3 8).toNatClampNeg
  rw [h.1.1 3 rfl]
theorem fk_mh_fr : ∀ m R A o fc M R' A' o' fc' M' b, fk_mh m R A o fc M R' A' o' fc' M' b → (∀ i, M.testBit i = true → i < fg_n (fk_gG R)) → fx_M fk_mc 0 10 R R' ∧ fg_n (fk_gG R') = fg_n (fk_gG R) ∧ ∀ i, M'.testBit i = true → i < fg_n (fk_gG R') := by
  intro m
  induction m with
  | zero =>
    intro R A o fc M R' A' o' fc' M' b h hM
    obtain ⟨h1, h2, h3, h4, h5, h6⟩ := h
    subst h1 h5
    exact ⟨⟨fun _ _ => rfl, fun _ _ _ => rfl, rfl⟩, rfl, hM⟩
  | succ m ih =>
    intro R A o fc M R' A' o' fc' M' b h hM
    obtain ⟨R1, A1, o1, fc1, M1, b1, h1, h2, h3, h4, h5⟩ := h
    obtain ⟨k1, k2, k3⟩ := ih R1 A1 o1 fc1 M1 R' A' o' fc' M' b1 h4 (by rw [h2.n]; exact h3)
    exact ⟨h2.1.tr k1, k2.trans h2.n, k3⟩
section FJP
variable {X : Nat × (Nat → Int32)} {Q : fm_O → fm_M → Prop} {X' : Nat → fm_N → Prop}
theorem lp_13 {mm : Nat} (hmm : mm ≤ 100) : ∀ m k (x2 : Int32) (N : fm_N) (A : fg_A) (o : Nat → Nat) (fc M : Nat), m + k = mm → fk_ic N A o fc M → (∀ N' A' o' fc' M' b, fk_ic N' A' o' fc' M' → fk_mh m N A o fc M N' A' o' fc' M' b → Q (.inl (some (.inl (.int (x2 + b))))) (N', fm_SH)) →
    fm_Ev (fm_PP X) 13 (12, [some (.inl (.ref 0)), some (.inl (.int (nI mm))), some (.inl (.int x2)), some (.inl (.int (nI k)))], [], (N, fm_SH)) Q := by
  intro m
  induction m with
  | zero =>
    intro k x2 N A o fc M hk ic kk
    refine fb_13_12 X _ _ _ N Q ?_
    rw [fz_le (by omega) (by omega)]
    refine ⟨fun _ => ?_, fun z => absurd (by omega) z⟩
    have := kk N A o fc M (nI 0) ic ⟨rfl, rfl, rfl, rfl, rfl, rfl⟩
    rw [show x2 + nI 0 = x2 from Int32.add_zero x2] at this
    exact this
  | succ m ih =>
    intro k x2 N A o fc M hk ic kk
    refine fb_13_12 X _ _ _ N Q ?_
    rw [fz_le (by omega) (by omega)]
    refine ⟨fun z => absurd z (by omega), fun _ => sp_48 ic (fun N1 A1 o1 fc1 M1 b1 b2 b3 => ?_)⟩
    rw [nI_add]
    refine ih (k + 1) _ N1 A1 o1 fc1 M1 (by omega) b1 (fun N' A' o' fc' M' b c1 c2 => ?_)
    have := kk N' A' o' fc' M' _ c1 ⟨N1, A1, o1, fc1, M1, b, b1, b2, fun i hi => (b3 i hi).2, c2, rfl⟩
    rw [Int32.add_assoc]
    exact this
theorem lp_87 {mm : Nat} (hmm : mm ≤ 100) {R' : fm_N} {A' : fg_A} {o' : Nat → Nat} {fc' M' : Nat} : ∀ m k (x2 : Int32) (R : fm_N) (A : fg_A) (o : Nat → Nat) (fc M : Nat) (N : fm_N) (b : Int32), m + k = mm → fk_ic R A o fc M → (∀ i, M.testBit i = true → i < fg_n (fk_gG R)) → fn_cp R N M → fk_mh m R A o fc M R' A' o' fc' M' b →
    (∀ N', fx_M fn_ps 63 32 N N' → fn_cp R' N' M' → N'.1 63 30 = N.1 63 30 + b → N'.1 63 31 = N.1 63 31 → Q (.inl (some (.inl (.int (N'.1 63 30))))) (N', fm_SH)) →
    fm_Ev (fm_PP X) 87 (34, [some (.inl (.ref 63)), some (.inl (.int (nI mm))), some (.inl (.int x2)), some (.inl (.int (nI k)))], [], (N, fm_SH)) Q := by
  intro m
  induction m with
  | zero =>
    intro k x2 R A o fc M N b hk ic hM hC hc kk
    obtain ⟨h1, h2, h3, h4, h5, h6⟩ := hc
    subst h1 h2 h3 h4 h5 h6
    refine fb_87_34 X _ _ _ N Q ?_
    rw [fz_le (by omega) (by omega)]
    exact ⟨fun _ => kk N ⟨fun _ _ => rfl, fun _ _ _ => rfl, rfl⟩ hC (Int32.add_zero _).symm rfl, fun z => absurd (by omega) z⟩
  | succ m ih =>
    intro k x2 R A o fc M N b hk ic hM hC hc kk
    obtain ⟨R1, A1, o1, fc1, M1, b1, h1, h2, h3, h4, h5⟩ := hc
    have h8 : ∀ i, i < 12 → R1.1 8 i = fz_b (decide (nI 100 ≤ R1.1 7 i)) := fun i hi => by
      rw [(h1.1.2.2.2.2.2.1 i hi).2.1]
      show fz_b (!!decide (nI 100 ≤ R1.1 7 i)) = _
      rw [Bool.not_not]
    refine fb_87_34 X _ _ _ N Q ?_
    rw [fz_le (by omega) (by omega)]
    refine ⟨fun z => absurd z (by omega), fun _ => sp_85 ic hM h3 h2 h8 hC (fun N1 c1 c2 c3 c4 => ?_)⟩
    rw [nI_add]
    refine ih (k + 1) _ R1 A1 o1 fc1 M1 N1 b1 (by omega) h1 (by rw [h2.n]; exact h3) c2 h4 (fun N' d1 d2 d3 d4 => kk N' (c1.tr d1) d2 ?_ (d4.trans c4))
    rw [d3, c3, h5, Int32.add_assoc]
end FJP
