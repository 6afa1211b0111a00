/-! the law: small questions -/
theorem fj_endb {r6 r2 r4 : Int32} {N5 : fm_N} {E F : Prop} {b : Bool} (h6 : r6 = r2) (hE : E) (hv : r2 = nI 0 → r4 = fz_b b ∧ N5.2.1 89 0 = Int64.ofNat (cond b 1 0)) : (r6 = r2 → ((r2 = nI 0 → (fm_inb (nI 0) 1 ∧ ((r4 = nI 0 → (((lg_cmp (N5.2.1 89 (nI 0).toNatClampNeg) (Int64.ofNat 0)) = nI 0 → E) ∧ (¬ ((lg_cmp (N5.2.1 89 (nI 0).toNatClampNeg) (Int64.ofNat 0)) = nI 0) → F))) ∧ (¬ (r4 = nI 0) → (((lg_cmp (N5.2.1 89 (nI 0).toNatClampNeg) (Int64.ofNat 1)) = nI 0 → E) ∧ (¬ ((lg_cmp (N5.2.1 89 (nI 0).toNatClampNeg) (Int64.ofNat 1)) = nI 0) → F)))))) ∧ (¬ (r2 = nI 0) → E))) ∧ (¬ (r6 = r2) → F) := by
  refine ⟨fun _ => ⟨fun h => ⟨fz_in (by omega) (by omega), fun z => ⟨fun _ => hE, fun y => absurd ?_ y⟩, fun z => ⟨fun _ => hE, fun y => absurd ?_ y⟩⟩, fun _ => hE⟩, fun z => absurd h6 z⟩
  · obtain ⟨v1, v2⟩ := hv h
    rw [v1, fz_be] at z
    rw [fj_t0, v2, z]
    unfold lg_cmp
    simp
    rfl
  · obtain ⟨v1, v2⟩ := hv h
    rw [v1, fz_be, Bool.not_eq_false] at z
    rw [fj_t0, v2, z]
    unfold lg_cmp
    simp
    rfl
theorem fj_endv {α : Type} {r2 r4 : α} {E F : Prop} (h : r2 = r4) (hE : E) : (r2 = r4 → E) ∧ (¬ (r2 = r4) → F) := ⟨fun _ => hE, fun z => absurd h z⟩
section FJA
variable {X : Nat × (Nat → Int32)} {N : fm_N} {X' : Nat → fm_N → Prop} {K : fm_N → Prop}
theorem sp_40y {u : Nat} (hu : u < 12) (h : N.1 12 u = nI 1) (k : K N) : fm_Cv (fm_PP X) 40 [.inl (.ref 0), .inl (.int (nI u))] (N, fm_SH) K X' := by
  refine fe_40 X _ N K X' ⟨fz_in hu (by omega), ?_⟩
  rw [fz_t (by omega), h]
  exact ⟨fun z => absurd z fj_n1, fun _ => ⟨rfl, k⟩⟩
theorem sp_40n {u : Nat} (hu : u < 12) (h : N.1 12 u = nI 0) (k : X' 3 (fj_g N)) : fm_Cv (fm_PP X) 40 [.inl (.ref 0), .inl (.int (nI u))] (N, fm_SH) K X' := by
  refine fe_40 X _ N K X' ⟨fz_in hu (by omega), ?_⟩
  rw [fz_t (by omega), h]
  exact ⟨fun _ => ⟨rfl, k⟩, fun z => absurd rfl z⟩
theorem sp_41y {u : Nat} (hu : u < 12) (h0 : u ≠ 0) (h : N.1 12 u = nI 1) (k : K N) : fm_Cv (fm_PP X) 41 [.inl (.ref 0), .inl (.int (nI u))] (N, fm_SH) K X' := by
  refine fe_41 X _ N K X' ⟨fun z => absurd ((nI_eq (by omega) (by omega)).mp z) h0, fun _ => sp_40y hu h ⟨rfl, k⟩⟩
theorem sp_41n {u : Nat} (hu : u < 12) (h : u = 0 ∨ N.1 12 u = nI 0) (k : X' 3 (fj_g N)) : fm_Cv (fm_PP X) 41 [.inl (.ref 0), .inl (.int (nI u))] (N, fm_SH) K X' := by
  refine fe_41 X _ N K X' ⟨fun _ => ⟨rfl, k⟩, fun z => sp_40n hu (h.resolve_left (fun y => z (by rw [y]))) ⟨rfl, k⟩⟩
theorem sp_42y {u : Nat} (hu : u < 12) (h0 : u ≠ 0) (k : K N) : fm_Cv (fm_PP X) 42 [.inl (.ref 0), .inl (.int (nI u))] (N, fm_SH) K X' :=
  fe_42 X _ N K X' ⟨fun z => absurd ((nI_eq (by omega) (by omega)).mp z) h0, fun _ => ⟨rfl, k⟩⟩
theorem sp_42n (k : X' 3 (fj_g N)) : fm_Cv (fm_PP X) 42 [.inl (.ref 0), .inl (.int (nI 0))] (N, fm_SH) K X' :=
  fe_42 X _ N K X' ⟨fun _ => ⟨rfl, k⟩, fun z => absurd rfl z⟩
end FJA
