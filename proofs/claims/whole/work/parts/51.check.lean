/-! the checks of the class and of the model -/
theorem fj_nat {x : Int32} (h : ¬ x < nI 0) : x = nI x.toNatClampNeg ∧ x.toNatClampNeg < 2147483648 := by
  have h0 : (0 : Int) ≤ x.toInt := by
    rw [fz_ltI, fz_nI (by omega)] at h
    omega
  have h1 : ((x.toNatClampNeg : Nat) : Int) = x.toInt := by
    show ((x.toInt.toNat : Nat) : Int) = _
    omega
  have h2 := Int32.toInt_lt x
  have h3 : x.toNatClampNeg < 2147483648 := by omega
  refine ⟨Int32.toInt_inj.mp ?_, h3⟩
  rw [fz_nI h3, h1]
/-- one of the numbers below n -/
def fj_in (x : Int32) (n : Nat) : Prop := ∃ u, u < n ∧ x = nI u
theorem fj_in_of {x : Int32} {n : Nat} (h : ¬ x < nI 0) (k : x < nI n) (hn : n < 2147483648) : fj_in x n := by
  obtain ⟨e, hx⟩ := fj_nat h
  refine ⟨_, ?_, e⟩
  rw [e] at k
  have := nI_ltI hx hn
  exact this.mp k
def fj_rg (x : Int32) (a b : Nat) : Prop := ¬ x < nI a ∧ x ≤ nI b
theorem fj_rg_bd {x : Int32} {a b : Nat} (h : fj_rg x a b) (ha : a < 2147483648) (hb : b < 2147483648) : fz_bd (a : Int) (b : Int) x := by
  obtain ⟨h1, h2⟩ := h
  rw [fz_ltI, fz_nI ha] at h1
  rw [fz_leI, fz_nI hb] at h2
  exact ⟨by omega, h2⟩
section FJC
variable {X : Nat × (Nat → Int32)} {N : fm_N} {X' : Nat → fm_N → Prop} {x : Int32} {n : Nat} {K : fm_N → Prop} {Ki : Int32 → fm_N → Prop}
abbrev fj_g (N : fm_N) : fm_N := (N.1, N.2.1, N.2.2.1, N.2.2.2 + 1)
theorem sp_37y {u : Nat} (hn : N.1 3 8 = nI n) (h12 : n ≤ 12) (hu : u < n) (k : K N) : fm_Cv (fm_PP X) 37 [.inl (.ref 0), .inl (.int (nI u))] (N, fm_SH) K X' := by
  refine fe_37 X _ N K X' ?_
  rw [hn, fz_lt (by omega) (by omega), fz_lt (by omega) (by omega)]
  exact ⟨fun z => absurd z (by omega), fun _ => ⟨fun _ => ⟨rfl, k⟩, fun z => absurd hu z⟩⟩
theorem sp_37n (hn : N.1 3 8 = nI n) (h12 : n ≤ 12) (h : ¬ fj_in x n) (k : X' 0 (fj_g N)) : fm_Cv (fm_PP X) 37 [.inl (.ref 0), .inl (.int x)] (N, fm_SH) K X' := by
  refine fe_37 X _ N K X' ?_
  exact ⟨fun _ => ⟨rfl, k⟩, fun z => ⟨fun y => absurd (fj_in_of z (by rw [hn] at y; exact y) (by omega)) h, fun _ => ⟨rfl, k⟩⟩⟩
theorem sp_38y {a b : Nat} (h : fj_rg x a b) (k : K N) : fm_Cv (fm_PP X) 38 [.inl (.ref 0), .inl (.int x), .inl (.int (nI a)), .inl (.int (nI b))] (N, fm_SH) K X' := by
  refine fe_38 X _ _ _ N K X' ?_
  exact ⟨fun z => absurd z h.1, fun _ => ⟨fun _ => ⟨rfl, k⟩, fun z => absurd h.2 z⟩⟩
theorem sp_38n {a b : Nat} (h : ¬ fj_rg x a b) (k : X' 1 (fj_g N)) : fm_Cv (fm_PP X) 38 [.inl (.ref 0), .inl (.int x), .inl (.int (nI a)), .inl (.int (nI b))] (N, fm_SH) K X' := by
  refine fe_38 X _ _ _ N K X' ?_
  exact ⟨fun _ => ⟨rfl, k⟩, fun z => ⟨fun y => absurd ⟨z, y⟩ h, fun _ => ⟨rfl, k⟩⟩⟩
theorem sp_63y {a b : Nat} (h : fj_rg x a b) (k : Ki (nI 1) N) : fm_Ci (fm_PP X) 63 [.inl (.int x), .inl (.int (nI a)), .inl (.int (nI b))] (N, fm_SH) Ki X' := by
  refine fe_63 X _ _ _ N Ki X' ?_
  refine ⟨fun z => absurd z h.1, fun _ => ⟨fun z => absurd h.2 (Int32.not_le.mpr z), fun _ => ⟨Or.inr rfl, rfl, k⟩⟩⟩
theorem sp_63n {a b : Nat} (h : ¬ fj_rg x a b) (k : Ki (nI 0) N) : fm_Ci (fm_PP X) 63 [.inl (.int x), .inl (.int (nI a)), .inl (.int (nI b))] (N, fm_SH) Ki X' := by
  refine fe_63 X _ _ _ N Ki X' ?_
  refine ⟨fun _ => ⟨Or.inl rfl, rfl, k⟩, fun z => ⟨fun _ => ⟨Or.inl rfl, rfl, k⟩, fun y => absurd ⟨z, Int32.not_lt.mp y⟩ h⟩⟩
theorem sp_64 {b : Bool} {y : Int32} (k : Ki (fz_b b) (fm_uI N.1 63 31 (if b = true then y else nI 0), N.2)) : fm_Ci (fm_PP X) 64 [.inl (.ref 63), .inl (.int (fz_b b)), .inl (.int y)] (N, fm_SH) Ki X' := by
  refine fe_64 X _ _ N Ki X' ?_
  cases b
  · exact ⟨fun _ => ⟨Or.inl rfl, rfl, k⟩, fun z => absurd rfl z⟩
  · exact ⟨fun z => absurd z (by decide), fun _ => ⟨Or.inr rfl, rfl, k⟩⟩
theorem sp_64n {y : Int32} (k : Ki (nI 0) (fm_uI N.1 63 31 (nI 0), N.2)) : fm_Ci (fm_PP X) 64 [.inl (.ref 63), .inl (.int (nI 0)), .inl (.int y)] (N, fm_SH) Ki X' := sp_64 (b := false) k
theorem sp_64y {y : Int32} (k : Ki (nI 1) (fm_uI N.1 63 31 y, N.2)) : fm_Ci (fm_PP X) 64 [.inl (.ref 63), .inl (.int (nI 1)), .inl (.int y)] (N, fm_SH) Ki X' := sp_64 (b := true) k
theorem fj_n1 : ¬ (nI 1 = nI 0) := by decide
theorem fj_rg0 {u : Nat} (h12 : n ≤ 12) (h1 : 1 ≤ n) (hu : u < n) : fj_rg (nI u) 0 (n - 1) := ⟨by rw [fz_lt (by omega) (by omega)]; omega, by rw [fz_le (by omega) (by omega)]; omega⟩
theorem fj_rgn (h12 : n ≤ 12) (h1 : 1 ≤ n) (h : ¬ fj_in x n) : ¬ fj_rg x 0 (n - 1) := fun z => h (by
  obtain ⟨e, hx⟩ := fj_nat z.1
  have h2 := z.2
  rw [e, fz_le hx (by omega)] at h2
  exact ⟨_, by omega, e⟩)
theorem sp_65y {u : Nat} (hn : N.1 63 25 = nI n) (h12 : n ≤ 12) (hu : u < n) (k : Ki (nI 0) (fm_uI N.1 63 31 (nI 0), N.2)) : fm_Ci (fm_PP X) 65 [.inl (.ref 63), .inl (.int (nI u))] (N, fm_SH) Ki X' := by
  refine fe_65 X _ N Ki X' ?_
  rw [hn, fz_sub (by omega)]
  refine sp_63y (fj_rg0 h12 (by omega) hu) ?_
  exact ⟨fun z => absurd z fj_n1, fun _ => sp_64n ⟨Or.inl rfl, rfl, k⟩⟩
theorem sp_65n (hn : N.1 63 25 = nI n) (h12 : n ≤ 12) (h1 : 1 ≤ n) (h : ¬ fj_in x n) (k : Ki (nI 1) (fm_uI N.1 63 31 (nI 1), N.2)) : fm_Ci (fm_PP X) 65 [.inl (.ref 63), .inl (.int x)] (N, fm_SH) Ki X' := by
  refine fe_65 X _ N Ki X' ?_
  rw [hn, fz_sub (by omega)]
  refine sp_63n (fj_rgn h12 h1 h) ?_
  exact ⟨fun _ => sp_64y ⟨Or.inr rfl, rfl, k⟩, fun z => absurd rfl z⟩
theorem sp_62 (k : Ki (N.1 63 31) N) : fm_Ci (fm_PP X) 62 [.inl (.ref 63)] (N, fm_SH) Ki X' := fe_62 X N Ki X' ⟨rfl, k⟩
end FJC
