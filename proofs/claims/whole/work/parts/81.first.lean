/-! the first state keeps the law's invariant -/
abbrev fj_zc : List Nat := [4, 5, 6, 7, 8, 9, 10, 11, 13, 14, 15, 16, 17, 21, 22, 61, 64, 65, 66, 67, 68, 69, 70, 71, 72, 75, 76, 77, 78, 79, 80, 81]
theorem fj_first {N : fm_N} (h38 : N.1 3 8 = nI 1) (h39 : N.1 3 9 = nI 0) (h27 : N.1 2 7 = nI 1) (h12 : ∀ i, N.1 12 i = fz_b (decide (i = 0))) (hz : ∀ c, fj_zc.contains c = true → ∀ i, N.1 c i = nI 0) (hr : ∀ j, j < 12 → N.1 (fm_pc 0 j) 2 = nI 1 ∧ ∀ i, N.1 (fm_pc 1 j) i = nI 0 ∧ N.1 (fm_pc 2 j) i = nI 0)
    (h07 : N.1 0 7 = nI 2300) (h08 : N.1 0 8 = nI 0) (h09 : N.1 0 9 = nI 0) (h204 : N.1 20 4 = nI 0) (m25 : N.1 63 25 = nI 1) (m26 : N.1 63 26 = nI 0) (m27 : N.1 63 27 = nI 2300) (m28 : N.1 63 28 = nI 0) (m29 : N.1 63 29 = nI 0) (hl : N.2.1 63 32 = N.2.1 0 10) : fj_I N fg_init (fun _ => 0) 1 0 := by
  have z0 : ∀ (a b : Int), a ≤ 0 → 0 ≤ b → fz_bd a b (nI 0) := fun a b h1 h2 => by
    unfold fz_bd
    rw [fz_nI (by omega)]
    exact ⟨h1, h2⟩
  have en : fg_n (fk_gG N) = 1 := by
    show (N.1 3 8).toNatClampNeg = 1
    rw [h38, fz_t (by omega)]
  have et : fg_t (fk_gG N) = 0 := by
    show (N.1 3 9).toNatClampNeg = 0
    rw [h39, fz_t (by omega)]
  have ep : ∀ c, fj_zc.contains c = true → ∀ i, (N.1 c i).toNatClampNeg = 0 := fun c hc i => by rw [hz c hc i, fz_t (by omega)]
  have ok : fg_ok (fk_gG N) := ⟨by omega, fun c h1 h2 => absurd h1 (by omega), fun q hq => absurd hq (by omega)⟩
  have row : ∀ a b, fj_zc.contains a = true → fj_zc.contains b = true → N.1 a = N.1 b := fun a b ha hb => funext fun i => (hz a ha i).trans (hz b hb i).symm
  have hG : fk_G N (fk_gG N) := by
    refine ⟨by rw [en]; exact h38, by rw [et]; exact h39, by omega, by omega, ok, fun i hi => ⟨?_, ?_, rfl, ?_⟩, fun q hq => ⟨?_, ?_, rfl, ?_, ?_⟩⟩
    · show N.1 4 i = nI (N.1 4 i).toNatClampNeg
      rw [ep 4 rfl, hz 4 rfl]
    · show N.1 8 i = fz_b (!!decide (nI 100 ≤ N.1 7 i))
      rw [hz 8 rfl, hz 7 rfl]
      decide
    · show (N.1 4 i).toNatClampNeg < 12
      rw [ep 4 rfl]; omega
    · show N.1 9 q = nI (N.1 9 q).toNatClampNeg
      rw [ep 9 rfl, hz 9 rfl]
    · show N.1 10 q = nI (N.1 10 q).toNatClampNeg
      rw [ep 10 rfl, hz 10 rfl]
    · show (N.1 9 q).toNatClampNeg < 12
      rw [ep 9 rfl]; omega
    · show (N.1 10 q).toNatClampNeg < 12
      rw [ep 10 rfl]; omega
  refine ⟨⟨hG, ⟨fun i hi => ⟨h12 i, hz 13 rfl i, hz 14 rfl i, hz 15 rfl i, by show 0 < 12; omega, by show 0 < 12; omega, fun _ => rfl⟩, fun q hq => hz 17 rfl q, h27, fun k hk => ⟨hz 16 rfl k, by show 0 < 12; omega⟩, ⟨⟨by omega, by omega, rfl⟩, fun k hk => ⟨rfl, by show 0 < 12; omega⟩, fun j k h1 h2 => absurd h1 (by omega), fun u hu => ⟨0, by omega, (of_decide_eq_true hu).symm⟩, fun k h1 h2 => absurd h1 (by omega)⟩, by decide⟩, ⟨0, ⟨fg_Sq.rf (fg_init_I ok), fun c hc => absurd hc.1 (by have := hc.2.1; omega)⟩, fun q hq => absurd hq (by omega)⟩, fun j hj => ⟨0, by omega, (hr j hj).1⟩, ⟨fun i hi => ⟨?_, ?_, ?_⟩, ?_, fun j hj k hk => ?_⟩, h204, by omega, fun i => ?_⟩, ⟨⟨?_, ?_, ?_, ?_, ?_, hl⟩, ⟨row _ _ rfl rfl, row _ _ rfl rfl, row _ _ rfl rfl, row _ _ rfl rfl, row _ _ rfl rfl, row _ _ rfl rfl, row _ _ rfl rfl⟩, fun i _ => (hz 71 rfl i).trans (hz 8 rfl i).symm, fun i _ => ?_, ⟨row _ _ rfl rfl, row _ _ rfl rfl, row _ _ rfl rfl⟩, fun j hj => ⟨0, by omega, (hr j hj).1, hz 76 rfl j, ?_, fun k hk => absurd hk (Nat.not_lt_zero k)⟩⟩, fun i hi => ?_⟩
  · rw [hz 61 rfl]; exact z0 _ _ (by decide) (by decide)
  · rw [hz 21 rfl]; exact z0 _ _ (by decide) (by decide)
  · rw [hz 6 rfl]; exact z0 _ _ (by decide) (by decide)
  · rw [h08]; exact z0 _ _ (by decide) (by decide)
  · rw [((hr j hj).2 k).2]; exact z0 _ _ (by decide) (by decide)
  · rw [hz 7 rfl]; exact z0 _ _ (by decide) (by decide)
  · rw [m25, h38]
  · rw [m26, h39]
  · rw [m27, h07]
  · rw [m28, h08]
  · rw [m29, h09]
  · rw [hz 72 rfl, Nat.zero_testBit]; rfl
  · rw [hz 75 rfl, ((hr j hj).2 0).2]
  · rw [Nat.zero_testBit] at hi; cases hi
