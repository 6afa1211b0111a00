/-! layers -/
section FJL
variable {X : Nat × (Nat → Int32)} {x5 : Int32} {o6 o7 o8 o9 : Option fm_V} {N : fm_N} {Q : fm_O → fm_M → Prop} {A : fg_A} {o : Nat → Nat} {fc M : Nat}
theorem sp_39y {u L : Nat} {K : fm_N → Prop} {X' : Nat → fm_N → Prop} (hu : u < 12) (h : N.1 (fm_pc 0 u) 2 = nI (L + 1)) (hL : L < 4) (k : K N) : fm_Cv (fm_PP X) 39 [.inl (.ref 0), .inl (.int (nI u))] (N, fm_SH) K X' := by
  refine fe_39 X _ N K X' ?_
  rw [fz_t (by omega : u < 2147483648), h, fz_lt (by omega) (by omega)]
  exact ⟨fz_in hu (by omega), fun _ => ⟨rfl, k⟩, fun z => absurd (by omega) z⟩
theorem sp_39n {u L : Nat} {K : fm_N → Prop} {X' : Nat → fm_N → Prop} (hu : u < 12) (h : N.1 (fm_pc 0 u) 2 = nI (L + 1)) (hL : L = 4) (k : X' 2 (fj_g N)) : fm_Cv (fm_PP X) 39 [.inl (.ref 0), .inl (.int (nI u))] (N, fm_SH) K X' := by
  refine fe_39 X _ N K X' ?_
  rw [fz_t (by omega : u < 2147483648), h, fz_lt (by omega) (by omega)]
  exact ⟨fz_in hu (by omega), fun z => absurd z (by omega), fun _ => ⟨rfl, k⟩⟩
theorem sp_140 {u L : Nat} {s y : Int32} {Ki : Int32 → fm_N → Prop} {X' : Nat → fm_N → Prop} (h : N.1 (fm_pc 0 u) 2 = nI (L + 1)) (hL : L < 4) (k : Ki (nI (L + 2)) (fm_uI (fm_uI (fm_uI N.1 (fm_pc 1 u) (L + 1) (fm_nb s)) (fm_pc 2 u) (L + 1) y) (fm_pc 0 u) 2 (nI (L + 2)), N.2)) : fm_Ci (fm_PP X) 140 [.inr (0, u), .inl (.int s), .inl (.int y)] (N, fm_SH) Ki X' := by
  have q1 : fm_pc 0 u ≠ fm_pc 1 u := fj_pn (by omega) (by omega) (Or.inl (by omega))
  have q2 : fm_pc 0 u ≠ fm_pc 2 u := fj_pn (by omega) (by omega) (Or.inl (by omega))
  refine fe_140 X _ _ _ N Ki X' ?_
  simp only [fz_ne _ _ q1, fz_ne _ _ q2, h, fz_t (by omega : L + 1 < 2147483648), nI_add, fz_at, if_true]
  exact ⟨fz_in (by omega) (by omega), fz_in (by omega) (by omega), trivial, k⟩
theorem sp_73y {u L n b : Nat} {s y : Int32} {Ki : Int32 → fm_N → Prop} {X' : Nat → fm_N → Prop} (h25 : N.1 63 25 = nI n) (h12 : n ≤ 12) (hu : u < n) (hr : fj_rg y 0 b) (h : N.1 76 u = nI L) (hL : L < 4) (k : Ki (nI (L + 2)) (fm_uI (fm_uI (fm_uI (fm_uI (fm_uI (fm_uI N.1 63 31 (nI 0)) 63 31 (nI 0)) 63 31 (nI 0)) 77 (4 * u + L) y) 81 (4 * u + L) (fm_nb s)) 76 u (nI (L + 1)), N.2)) : fm_Ci (fm_PP X) 73 [.inl (.ref 63), .inl (.int (nI u)), .inl (.int s), .inl (.int y), .inl (.int (nI b))] (N, fm_SH) Ki X' := by
  have ub := fz_in (n := 12) (by omega : u < 12) (by omega)
  have ut := fz_t (by omega : u < 2147483648)
  refine fe_73 X _ _ _ _ N Ki X' (sp_65y (n := n) h25 h12 hu ⟨fun _ => sp_63y hr ⟨fun z => absurd z fj_n1, fun _ => sp_64n ⟨fun _ => ⟨ub, ?_⟩, fun z => absurd rfl z⟩⟩, fun z => absurd rfl z⟩)
  rw [ut]
  have e76 : fm_uI (fm_uI N.1 63 31 (nI 0)) 63 31 (nI 0) 76 u = nI L := by simp [fm_uI, h]
  have e76' : fm_uI (fm_uI (fm_uI N.1 63 31 (nI 0)) 63 31 (nI 0)) 63 31 (nI 0) 76 u = nI L := by simp [fm_uI, h]
  have e4 : nI 4 * nI u + nI L = nI (4 * u + L) := by rw [pk_mul, nI_add]
  refine ⟨fun z => ?_, fun _ => sp_64n ⟨fun _ => ?_, fun z => absurd rfl z⟩⟩
  · exact absurd ((nI_eq (by omega) (by omega)).mp (e76.symm.trans z)) (by omega)
  · dsimp only
    rw [e76', e4, fz_t (by omega : 4 * u + L < 2147483648), nI_add, fz_at, if_pos rfl, nI_add]
    exact ⟨ub, fz_in (by omega) (by omega), ub, fz_in (by omega) (by omega), ub, ub, ub, rfl, k⟩
theorem sp_73f {u n b : Nat} {s y : Int32} {Ki : Int32 → fm_N → Prop} {X' : Nat → fm_N → Prop} (h25 : N.1 63 25 = nI n) (h12 : n ≤ 12) (hu : u < n) (hr : fj_rg y 0 b) (h : N.1 76 u = nI 4) (k : Ki (nI 0) (fm_uI (fm_uI (fm_uI N.1 63 31 (nI 0)) 63 31 (nI 0)) 63 31 (nI 3), N.2)) : fm_Ci (fm_PP X) 73 [.inl (.ref 63), .inl (.int (nI u)), .inl (.int s), .inl (.int y), .inl (.int (nI b))] (N, fm_SH) Ki X' := by
  have ub := fz_in (n := 12) (by omega : u < 12) (by omega)
  have ut := fz_t (by omega : u < 2147483648)
  refine fe_73 X _ _ _ _ N Ki X' (sp_65y (n := n) h25 h12 hu ⟨fun _ => sp_63y hr ⟨fun z => absurd z fj_n1, fun _ => sp_64n ⟨fun _ => ⟨ub, ?_⟩, fun z => absurd rfl z⟩⟩, fun z => absurd rfl z⟩)
  rw [ut]
  have e76 : fm_uI (fm_uI N.1 63 31 (nI 0)) 63 31 (nI 0) 76 u = nI 4 := by simp [fm_uI, h]
  exact ⟨fun _ => sp_64y ⟨fun z => absurd z fj_n1, fun _ => ⟨rfl, k⟩⟩, fun z => absurd e76 z⟩
theorem sp_73r {u n b : Nat} {s y : Int32} {Ki : Int32 → fm_N → Prop} {X' : Nat → fm_N → Prop} (h25 : N.1 63 25 = nI n) (h12 : n ≤ 12) (hu : u < n) (hr : ¬ fj_rg y 0 b) (k : Ki (nI 0) (fm_uI (fm_uI N.1 63 31 (nI 0)) 63 31 (nI 2), N.2)) : fm_Ci (fm_PP X) 73 [.inl (.ref 63), .inl (.int (nI u)), .inl (.int s), .inl (.int y), .inl (.int (nI b))] (N, fm_SH) Ki X' := by
  exact fe_73 X _ _ _ _ N Ki X' (sp_65y (n := n) h25 h12 hu ⟨fun _ => sp_63n hr ⟨fun _ => sp_64y ⟨fun z => absurd z fj_n1, fun _ => ⟨rfl, k⟩⟩, fun z => absurd rfl z⟩, fun z => absurd rfl z⟩)
theorem sp_73n {n : Nat} {x s y b : Int32} {Ki : Int32 → fm_N → Prop} {X' : Nat → fm_N → Prop} (h25 : N.1 63 25 = nI n) (h12 : n ≤ 12) (h1 : 1 ≤ n) (hx : ¬ fj_in x n) (k : Ki (nI 0) (fm_uI N.1 63 31 (nI 1), N.2)) : fm_Ci (fm_PP X) 73 [.inl (.ref 63), .inl (.int x), .inl (.int s), .inl (.int y), .inl (.int b)] (N, fm_SH) Ki X' := by
  exact fe_73 X _ _ _ _ N Ki X' (sp_65n (n := n) h25 h12 h1 hx ⟨fun z => absurd z fj_n1, fun _ => ⟨rfl, k⟩⟩)
end FJL
