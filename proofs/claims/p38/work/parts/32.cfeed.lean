/-! the class: who feeds whom -/
theorem fz_m1 {a : Nat} (h : a < 2147483648) : (nI a = Int32.ofInt (-1)) = False := eq_false fun z => by
  have h1 := congrArg Int32.toInt z
  rw [nI_toInt h] at h1
  have e : (Int32.ofInt (-1)).toInt = -1 := by decide
  omega
/-- the net that the class holds -/
def fk_G (N : fm_N) (G : fg_G) : Prop := N.1 4 8 = nI (fg_n G) ∧ N.1 4 9 = nI (fg_t G) ∧ fg_n G ≤ 12 ∧ fg_t G ≤ 4 ∧ fg_ok G ∧
  (∀ i, i < 12 → N.1 5 i = nI (fg_p G i) ∧ N.1 9 i = fz_b (!fg_w G i) ∧ N.1 6 i = fg_r G i ∧ fg_p G i < 12) ∧
  (∀ q, q < 4 → N.1 10 q = nI (fg_a G q) ∧ N.1 11 q = nI (fg_b G q) ∧ N.1 12 q = fg_x G q ∧ fg_a G q < 12 ∧ fg_b G q < 12)
/-- what the class holds of the feeding -/
def fk_S (N : fm_N) (A : fg_A) (o : Nat → Nat) (fc : Nat) : Prop :=
  (∀ i, i < 12 → N.1 13 i = fz_b (fg_F A i) ∧ N.1 14 i = nI (fg_D A i) ∧ N.1 15 i = nI (fg_C A i) ∧ N.1 16 i = fg_S A i ∧ fg_D A i < 12 ∧ fg_C A i < 12 ∧ (fg_F A i = false → fg_C A i = 0)) ∧
  (∀ q, q < 4 → N.1 18 q = fz_b (fg_K A q)) ∧ N.1 3 7 = nI fc ∧ (∀ k, k < 12 → N.1 17 k = nI (o k) ∧ o k < 12) ∧ ft_ok (fg_F A) o (fg_D A) fc ∧ fc = fg_cn (fg_F A) 12
abbrev fk_cs : List Nat := [3, 13, 14, 15, 16, 17, 18]
theorem fk_G.fr {N N' : fm_N} {G : fg_G} (h : fk_G N G) {cs : List Nat} (hF : fx_F cs N N') (hc : cs.contains 4 = false ∧ cs.contains 5 = false ∧ cs.contains 6 = false ∧ cs.contains 9 = false ∧ cs.contains 10 = false ∧ cs.contains 11 = false ∧ cs.contains 12 = false) : fk_G N' G := by
  obtain ⟨c3, c4, c5, c8, c9, c10, c11⟩ := hc
  unfold fk_G
  rw [hF.1 4 c3, hF.1 5 c4, hF.1 6 c5, hF.1 9 c8, hF.1 10 c9, hF.1 11 c10, hF.1 12 c11]
  exact h
theorem fk_S.fr {N N' : fm_N} {A : fg_A} {o : Nat → Nat} {fc : Nat} (h : fk_S N A o fc) {cs : List Nat} (hF : fx_F cs N N') (hc : cs.contains 3 = false ∧ cs.contains 13 = false ∧ cs.contains 14 = false ∧ cs.contains 15 = false ∧ cs.contains 16 = false ∧ cs.contains 17 = false ∧ cs.contains 18 = false) : fk_S N' A o fc := by
  obtain ⟨c3, c4, c5, c8, c9, c10, c11⟩ := hc
  unfold fk_S
  rw [hF.1 3 c3, hF.1 13 c4, hF.1 14 c5, hF.1 15 c8, hF.1 16 c9, hF.1 17 c10, hF.1 18 c11]
  exact h
theorem fk_ok_up {F : Nat → Bool} {o d : Nat → Nat} {fc u f : Nat} (h : ft_ok F o d fc) (hu : F u = false) (h12 : u < 12) (hf : F f = true) (hfc : fc < 12) : ft_ok (fg_up F u true) (fg_up o fc u) (fg_up d u f) (fc + 1) := by
  obtain ⟨⟨h1, h2, h3⟩, h4, h5, h6, h7⟩ := h
  have hne : ∀ k, k < fc → o k ≠ u := fun k hk z => by
    have := (h4 k hk).1
    rw [z, hu] at this
    cases this
  refine ⟨⟨by omega, by omega, (fg_up_ne _ _ (by omega)).trans h3⟩, fun k hk => ?_, fun j k hj hk => ?_, fun v hv => ?_, fun k h0 hk => ?_⟩
  · by_cases z : k = fc
    · subst z
      rw [fg_up_eq, fg_up_eq]
      exact ⟨rfl, h12⟩
    · rw [fg_up_ne _ _ z, fg_up_ne _ _ (hne k (by omega))]
      exact h4 k (by omega)
  · by_cases z : k = fc
    · subst z
      rw [fg_up_eq, fg_up_ne _ _ (by omega : j ≠ k)]
      exact hne j hj
    · rw [fg_up_ne _ _ z, fg_up_ne _ _ (by omega : j ≠ fc)]
      exact h5 j k hj (by omega)
  · by_cases z : v = u
    · exact ⟨fc, Nat.lt_succ_self fc, by rw [fg_up_eq, z]⟩
    · rw [fg_up_ne _ _ z] at hv
      obtain ⟨k, hk, hok⟩ := h6 v hv
      exact ⟨k, by omega, by rw [fg_up_ne _ _ (by omega : k ≠ fc)]; exact hok⟩
  · by_cases z : k = fc
    · subst z
      obtain ⟨j, hj, hoj⟩ := h6 f hf
      refine ⟨j, hj, ?_⟩
      rw [fg_up_eq, fg_up_eq, fg_up_ne _ _ (by omega : j ≠ k)]
      exact hoj
    · obtain ⟨j, hj, hoj⟩ := h7 k h0 (by omega)
      refine ⟨j, hj, ?_⟩
      rw [fg_up_ne _ _ z, fg_up_ne _ _ (hne k (by omega)), fg_up_ne _ _ (by omega : j ≠ fc)]
      exact hoj
theorem fk_fc {N : fm_N} {A : fg_A} {o : Nat → Nat} {fc u : Nat} (h : fk_S N A o fc) (hu : fg_F A u = false) (h12 : u < 12) : fc < 12 := by
  rw [h.2.2.2.2.2]
  exact fg_cn_lt hu 12 h12
theorem fk_put {N N' : fm_N} {A : fg_A} {o : Nat → Nat} {fc u f c : Nat} {r : Int32} {K' : Nat → Bool} {U' E' : Nat → Prop} (h : fk_S N A o fc) (h12 : u < 12) (hu : fg_F A u = false) (hf12 : f < 12) (hf : fg_F A f = true) (hc12 : c < 12)
    (k12 : ∀ i, N'.1 13 i = if i = u then nI 1 else N.1 13 i) (k13 : ∀ i, N'.1 14 i = if i = u then nI f else N.1 14 i) (k14 : ∀ i, N'.1 15 i = if i = u then nI c else N.1 15 i) (k15 : ∀ i, N'.1 16 i = if i = u then r else N.1 16 i)
    (k17 : ∀ q, q < 4 → N'.1 18 q = fz_b (K' q)) (k2 : N'.1 3 7 = nI (fc + 1)) (k16 : ∀ k, N'.1 17 k = if k = fc then nI u else N.1 17 k) :
    fk_S N' (fg_up (fg_F A) u true, fg_up (fg_D A) u f, fg_up (fg_C A) u c, fg_up (fg_S A) u r, K', U', E') (fg_up o fc u) (fc + 1) := by
  have hfc := fk_fc h hu h12
  obtain ⟨h1, h2, h3, h4, h5, h6⟩ := h
  refine ⟨fun i hi => ?_, k17, k2, fun k hk => ?_, fk_ok_up h5 hu h12 hf hfc, ?_⟩
  · show N'.1 13 i = fz_b (fg_up (fg_F A) u true i) ∧ N'.1 14 i = nI (fg_up (fg_D A) u f i) ∧ N'.1 15 i = nI (fg_up (fg_C A) u c i) ∧ N'.1 16 i = fg_up (fg_S A) u r i ∧ fg_up (fg_D A) u f i < 12 ∧ fg_up (fg_C A) u c i < 12 ∧ (fg_up (fg_F A) u true i = false → fg_up (fg_C A) u c i = 0)
    rw [k12, k13, k14, k15]
    by_cases z : i = u
    · subst z
      rw [if_pos rfl, if_pos rfl, if_pos rfl, if_pos rfl, fg_up_eq, fg_up_eq, fg_up_eq, fg_up_eq]
      exact ⟨rfl, rfl, rfl, rfl, hf12, hc12, fun z => nomatch z⟩
    · rw [if_neg z, if_neg z, if_neg z, if_neg z, fg_up_ne _ _ z, fg_up_ne _ _ z, fg_up_ne _ _ z, fg_up_ne _ _ z]
      exact h1 i hi
  · rw [k16]
    by_cases z : k = fc
    · subst z
      rw [if_pos rfl, fg_up_eq]
      exact ⟨rfl, h12⟩
    · rw [if_neg z, fg_up_ne _ _ z]
      exact h4 k hk
  · show fc + 1 = fg_cn (fg_up (fg_F A) u true) 12
    rw [fg_cn_up hu, if_pos h12, ← h6]
section FKS
variable {X : Nat × (Nat → Int32)} {N : fm_N} {G : fg_G} {A A0 : fg_A} {o : Nat → Nat} {fc : Nat} {K : fm_N → Prop} {X' : Nat → fm_N → Prop} {Q : fm_O → fm_M → Prop}
theorem sp_127 {u : Nat} {x2 x3 : Int32} (h7 : N.1 3 7 = nI fc) (hfc : fc < 12) (hu : u < 12) (h : K (fm_uI (fm_uI (fm_uI (fm_uI (fm_uI N.1 13 u (nI 1)) 14 u x2) 16 u x3) 17 fc (nI u)) 3 7 (nI (fc + 1)), N.2)) : fm_Cv (fm_PP X) 127 [.inl (.ref 3), .inl (.int (nI u)), .inl (.int x2), .inl (.int x3)] (N, fm_SH) K X' := by
  refine fe_127 X _ _ _ N K X' ?_
  rw [h7]
  simp (disch := omega) only [fz_t, fz_le, fz_nb1, nI_add]
  exact ⟨fun z => absurd z (by omega), fun _ => ⟨fz_in (by omega) (by omega), fz_in (by omega) (by omega), fz_in (by omega) (by omega), fz_in (by omega) (by omega), trivial, h⟩⟩
theorem sp_124 {u f c : Nat} (hG : fk_G N G) (h : fk_S N A o fc) (hu : u < 12) (hf : f < 12) (hc : c < 12) (hF : fg_F A f = true)
    (k1 : fg_w G c = true → fg_F A u = false → ∀ N', fx_F fk_cs N N' → fk_S N' (fg_feed A u f c (fg_r G c)) (fg_up o fc u) (fc + 1) → K N') (k2 : (fg_w G c = false ∨ fg_F A u = true) → K N) : fm_Cv (fm_PP X) 124 [.inl (.ref 3), .inl (.int (nI u)), .inl (.int (nI f)), .inl (.int (nI c))] (N, fm_SH) K X' := by
  refine fe_124 X _ _ _ N K X' ?_
  obtain ⟨-, g8, g5, -⟩ := hG.2.2.2.2.2.1 c hc
  obtain ⟨g12, -⟩ := h.1 u hu
  simp (disch := omega) only [fz_t, g8, g5, g12, fz_be]
  refine ⟨fz_in (by omega) (by omega), fun hw => ⟨fz_in (by omega) (by omega), fun hu0 => ⟨fz_in (by omega) (by omega), ?_⟩, fun hu1 => ⟨trivial, k2 (Or.inr (by simpa using hu1))⟩⟩, fun hw => ⟨trivial, k2 (Or.inl (by simpa using hw))⟩⟩
  refine sp_127 h.2.2.1 (fk_fc h hu0 hu) hu ?_
  refine ⟨fz_in (by omega) (by omega), trivial, k1 (by simpa using hw) hu0 _ ?_ ?_⟩
  · exact (((((fx_F.rf fk_cs N).up rfl).up rfl).up rfl).up rfl).up rfl |>.up rfl
  · exact fk_put h hu hu0 hf hF hc (fun i => by simp [fz_ui]) (fun i => by simp [fz_ui]) (fun i => by simp [fz_ui]) (fun i => by simp [fz_ui]) (fun q hq => by simp [fz_ui]; exact h.2.1 q hq) (by simp [fz_ui]) (fun k => by simp [fz_ui])
end FKS
