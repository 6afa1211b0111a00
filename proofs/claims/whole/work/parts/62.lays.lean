/-! the model: the net as it lies -/
section FNL
variable {X : Nat × (Nat → Int32)} {R N : fm_N} {A : fg_A} {o : Nat → Nat} {fc M : Nat} {X' : Nat → fm_N → Prop} {Q : fm_O → fm_M → Prop}
theorem lp_83 {n : Nat} (hn : n ≤ 12) (h25 : N.1 63 25 = nI n) (h72 : ∀ i, i < n → N.1 72 i = fz_b (M.testBit i)) (h74 : ∀ i, i < n → N.1 74 i = fz_b (fg_F A i))
    (kk : ∀ N1, fx_F [73] N N1 → (∀ i, i < n → N1.1 73 i = fz_b (M.testBit i && fg_F A i)) → fm_Cv (fm_PP X) 81 [.inl (.ref 63)] (N1, fm_SH) (fun N2 => Q (.inl none) (N2, fm_SH)) (fun e N2 => Q (.inr e) (N2, fm_SH))) :
    ∀ m k N1, n - k = m → k ≤ n → fx_F [73] N N1 → (∀ i, i < k → N1.1 73 i = fz_b (M.testBit i && fg_F A i)) → fm_Ev (fm_PP X) 83 (6, [some (.inl (.ref 63)), some (.inl (.int (nI k)))], [], (N1, fm_SH)) Q := by
  intro m
  induction m with
  | zero =>
    intro k N1 hm hk hF hi
    refine fb_83_6 X _ N1 Q ?_
    have a25 : N1.1 63 25 = nI n := by rw [hF.1 63 rfl]; exact h25
    rw [a25, fz_le (by omega) (by omega)]
    have e : k = n := by omega
    subst e
    exact ⟨fun _ => kk N1 hF hi, fun z => absurd (Nat.le_refl _) z⟩
  | succ m ih =>
    intro k N1 hm hk hF hi
    have go : ∀ v, v = fz_b (M.testBit k && fg_F A k) → fm_Ev (fm_PP X) 83 (6, [some (.inl (.ref 63)), some (.inl (.int (nI (k + 1))))], [], ((fm_uI N1.1 73 k v, N1.2), fm_SH)) Q := fun v hv => ih (k + 1) _ (by omega) (by omega) (hF.up rfl) (fun i h => by
      by_cases z : i = k
      · subst z; simp [fm_uI, hv]
      · simp [fm_uI, z]; exact hi i (by omega))
    have a25 : N1.1 63 25 = nI n := by rw [hF.1 63 rfl]; exact h25
    have a72 : N1.1 72 k = fz_b (M.testBit k) := by rw [hF.1 72 rfl]; exact h72 k (by omega)
    have a74 : N1.1 74 k = fz_b (fg_F A k) := by rw [hF.1 74 rfl]; exact h74 k (by omega)
    have ib : fm_inb (nI k) 12 := fz_in (by omega) (by omega)
    refine fb_83_6 X _ N1 Q ?_
    rw [a25, fz_le (by omega) (by omega), fz_t (by omega : k < 2147483648), a72, a74, fz_be (M.testBit k), fz_be (fg_F A k), nI_add, fz_nb0, fz_nb1]
    refine ⟨fun z => absurd z (by omega), fun _ => ⟨ib, fun z => ⟨ib, go _ (by rw [z]; rfl)⟩, fun z => ⟨ib, fun y => ⟨ib, go _ (by rw [y, Bool.and_false]; rfl)⟩, fun y => ⟨ib, go _ ?_⟩⟩⟩⟩
    rw [Bool.not_eq_false] at z y
    rw [z, y]; rfl
abbrev fj_ls : List Nat := [73, 74, 82, 83, 84, 85, 86, 87]
theorem sp_83 (ic : fk_ic R A o fc M) (hC : fn_cp R N M) {K : fm_N → Prop}
    (kk : ∀ N', fx_F fj_ls N N' → fn_S N' A (fg_n (fk_gG R)) (fg_t (fk_gG R)) → (∀ i, i < fg_n (fk_gG R) → N'.1 73 i = fz_b (M.testBit i && fg_F A i)) → (∀ k, 0 < k → k < fc → N'.1 86 (o k) = fk_fl R A o fc M.testBit (o k)) → (∀ k, k < fc → N'.1 87 (o k) = fk_vt R A o fc M.testBit (o k)) → K N') : fm_Cv (fm_PP X) 83 [.inl (.ref 63)] (N, fm_SH) K X' := by
  obtain ⟨hG, hS, hFi, -⟩ := ic
  have hN := fn_G.of hG hC
  have hn := fj_An hG hFi
  refine fe_83 X N K X' (sp_80 hN hFi (fun N1 a1 a2 => ?_))
  have a25 : N1.1 63 25 = nI (fg_n (fk_gG R)) := by rw [a1.1 63 rfl]; exact hN.1
  have a72 : ∀ i, i < fg_n (fk_gG R) → N1.1 72 i = fz_b (M.testBit i) := fun i hi => by
    rw [a1.1 72 rfl]
    exact hC.2.2.2.1 i (by have := hG.2.2.1; omega)
  refine lp_83 (N := N1) (A := A) (M := M) hG.2.2.1 a25 a72 (fun i hi => (a2.1 i hi).1) (fun N2 b1 b2 => ?_) _ 0 N1 rfl (Nat.zero_le _) (fx_F.rf _ _) (fun i h => absurd h (Nat.not_lt_zero i))
  have hC1 : fn_cp R N1 M := hC.fr a1 ⟨rfl, rfl, rfl, rfl, rfl, rfl, rfl, rfl, rfl, rfl, rfl, rfl, rfl, rfl, rfl, rfl, rfl⟩
  have hC2 : fn_cp R N2 M := hC1.fr b1 ⟨rfl, rfl, rfl, rfl, rfl, rfl, rfl, rfl, rfl, rfl, rfl, rfl, rfl, rfl, rfl, rfl, rfl⟩
  have hS2 : fn_S N2 A (fg_n (fk_gG R)) (fg_t (fk_gG R)) := a2.fr b1 ⟨rfl, rfl, rfl, rfl, rfl⟩
  have cs : ∀ u, fg_F A u = true → (M.testBit u && fg_F A u) = M.testBit u := fun u hu => by rw [hu, Bool.and_true]
  refine sp_81 (s := fun i => M.testBit i && fg_F A i) hS hC2.cd (fn_G.of hG hC2) hS2 hn b2 (fun N3 c1 c2 c3 => ⟨rfl, ?_⟩)
  refine kk N3 ((a1.wk (by intro c hc; simp at hc ⊢; omega)).tr ((b1.wk (by intro c hc; simp at hc ⊢; omega)).tr (c1.wk (by intro c hc; simp at hc ⊢; omega)))) (hS2.fr c1 ⟨rfl, rfl, rfl, rfl, rfl⟩) (fun i hi => by rw [c1.1 73 rfl]; exact b2 i hi) (fun k h0 hk => ?_) (fun k hk => ?_)
  · rw [c2 k h0 hk, fk_fl_cs cs]
  · rw [c3 k hk, fk_vt_cs cs]
/-- asked: is the node not fed, or the root where that is left out? -/
theorem sp_92f {u : Nat} {b : Bool} {Ki : Int32 → fm_N → Prop} (ic : fk_ic R A o fc M) (hC : fn_cp R N M) (hu : u < fg_n (fk_gG R)) (hf : (b && decide (u = 0)) = false ∧ fg_F A u = true)
    (kk : ∀ N', fj_n N N' → N'.1 63 31 = nI 0 → (fg_F A u = true → u ≠ 0 → N'.1 83 u = nI (fg_D A u) ∧ N'.1 86 u = fk_fl R A o fc M.testBit u) → N'.1 87 u = fk_vt R A o fc M.testBit u → Ki (nI 0) N') : fm_Ci (fm_PP X) 92 [.inl (.ref 63), .inl (.int (nI u)), .inl (.int (fz_b b))] (N, fm_SH) Ki X' := by
  have h12 := ic.1.2.2.1
  have ok := ic.2.1.2.2.2.2.1
  refine fe_92 X _ _ N Ki X' (sp_83 ic hC (fun N1 a1 a2 a3 a4 a5 => ?_))
  have a25 : N1.1 63 25 = nI (fg_n (fk_gG R)) := by rw [a1.1 63 rfl]; exact (fn_G.of ic.1 hC).1
  have ib : fm_inb (nI u) 12 := fz_in (by omega) (by omega)
  have a74 : N1.1 74 u = nI 1 := by rw [(a2.1 u hu).1, hf.2]; rfl
  have e74 : fm_uI N1.1 63 31 (nI 0) 74 u = nI 1 := by simp [fm_uI, a74]
  have K2 : Ki (nI 0) (fm_uI (fm_uI N1.1 63 31 (nI 0)) 63 31 (nI 0), N1.2) := by
    refine kk _ (((fj_n.F a1 (by intro c hc; simp at hc ⊢; omega) rfl rfl).tr (fj_n.th _ _)).tr (fj_n.th _ _)) (by simp [fm_uI]) (fun hF h0 => ⟨?_, ?_⟩) ?_
    · simp [fm_uI]; exact (((a2.1 u hu).2 hF).2 h0).1
    · obtain ⟨k, hk, hok⟩ := ok.2.2.2.1 u hf.2
      have hk0 : 0 < k := by
        rcases Nat.eq_zero_or_pos k with z | z
        · subst z
          rw [ok.1.2.2] at hok
          exact absurd hok.symm h0
        · exact z
      simp [fm_uI, ← hok]; exact a4 k hk0 hk
    · obtain ⟨k, hk, hok⟩ := ok.2.2.2.1 u hf.2
      simp [fm_uI, ← hok]; exact a5 k hk
  refine sp_65y (n := fg_n (fk_gG R)) a25 h12 hu ⟨fun _ => ⟨fun z => ⟨ib, ?_⟩, fun z => ⟨fun y => ?_, fun y => ⟨ib, ?_⟩⟩⟩, fun z => absurd rfl z⟩
  · rw [fz_t (by omega : u < 2147483648)]
    exact ⟨fun y => absurd (e74.symm.trans y) fj_n1, fun _ => sp_64n ⟨fun _ => ⟨Or.inl rfl, rfl, K2⟩, fun y => absurd rfl y⟩⟩
  · have hu0 : u = 0 := (nI_eq (by omega) (by omega)).mp y
    have hb : b = true := by
      cases b
      · exact absurd rfl z
      · rfl
    rw [hb, hu0] at hf
    exact absurd hf.1 (by decide)
  · rw [fz_t (by omega : u < 2147483648)]
    exact ⟨fun y => absurd (e74.symm.trans y) fj_n1, fun _ => sp_64n ⟨fun _ => ⟨Or.inl rfl, rfl, K2⟩, fun y => absurd rfl y⟩⟩
theorem sp_92u {u : Nat} {b : Bool} {Ki : Int32 → fm_N → Prop} (ic : fk_ic R A o fc M) (hC : fn_cp R N M) (hu : u < fg_n (fk_gG R)) (hf : ¬ ((b && decide (u = 0)) = false ∧ fg_F A u = true))
    (kk : ∀ N', fj_n N N' → N'.1 63 31 = nI 2 → Ki (nI 1) N') : fm_Ci (fm_PP X) 92 [.inl (.ref 63), .inl (.int (nI u)), .inl (.int (fz_b b))] (N, fm_SH) Ki X' := by
  have h12 := ic.1.2.2.1
  refine fe_92 X _ _ N Ki X' (sp_83 ic hC (fun N1 a1 a2 a3 a4 a5 => ?_))
  have a25 : N1.1 63 25 = nI (fg_n (fk_gG R)) := by rw [a1.1 63 rfl]; exact (fn_G.of ic.1 hC).1
  have ib : fm_inb (nI u) 12 := fz_in (by omega) (by omega)
  have e74 : fm_uI N1.1 63 31 (nI 0) 74 u = fz_b (fg_F A u) := by simp [fm_uI]; exact (a2.1 u hu).1
  have K2 : Ki (nI 1) (fm_uI (fm_uI N1.1 63 31 (nI 0)) 63 31 (nI 2), N1.2) := kk _ (((fj_n.F a1 (by intro c hc; simp at hc ⊢; omega) rfl rfl).tr (fj_n.th _ _)).tr (fj_n.th _ _)) (by simp [fm_uI])
  have hF : ¬ (b = true ∧ u = 0) → fg_F A u = false := fun z => by
    cases hA : fg_F A u
    · rfl
    · refine absurd ⟨?_, hA⟩ hf
      cases b
      · rfl
      · have : u ≠ 0 := fun y => z ⟨rfl, y⟩
        simp [this]
  refine sp_65y (n := fg_n (fk_gG R)) a25 h12 hu ⟨fun _ => ⟨fun z => ⟨ib, ?_⟩, fun z => ⟨fun y => sp_64y ⟨fun w => absurd w fj_n1, fun _ => ⟨Or.inr rfl, rfl, K2⟩⟩, fun y => ⟨ib, ?_⟩⟩⟩, fun z => absurd rfl z⟩
  · rw [fz_t (by omega : u < 2147483648)]
    refine ⟨fun _ => sp_64y ⟨fun w => absurd w fj_n1, fun _ => ⟨Or.inr rfl, rfl, K2⟩⟩, fun y => absurd ?_ y⟩
    refine e74.trans ?_
    rw [hF (fun w => by rw [w.1] at z; exact absurd z fj_n1)]
    rfl
  · rw [fz_t (by omega : u < 2147483648)]
    refine ⟨fun _ => sp_64y ⟨fun w => absurd w fj_n1, fun _ => ⟨Or.inr rfl, rfl, K2⟩⟩, fun w => absurd ?_ w⟩
    refine e74.trans ?_
    rw [hF (fun v => y (by rw [v.2]))]
    rfl
theorem sp_92n {x : Int32} {b : Bool} {Ki : Int32 → fm_N → Prop} (ic : fk_ic R A o fc M) (hC : fn_cp R N M) (hx : ¬ fj_in x (fg_n (fk_gG R)))
    (kk : ∀ N', fj_n N N' → N'.1 63 31 = nI 1 → Ki (nI 1) N') : fm_Ci (fm_PP X) 92 [.inl (.ref 63), .inl (.int x), .inl (.int (fz_b b))] (N, fm_SH) Ki X' := by
  refine fe_92 X _ _ N Ki X' (sp_83 ic hC (fun N1 a1 a2 a3 a4 a5 => ?_))
  have a25 : N1.1 63 25 = nI (fg_n (fk_gG R)) := by rw [a1.1 63 rfl]; exact (fn_G.of ic.1 hC).1
  exact sp_65n (n := fg_n (fk_gG R)) a25 ic.1.2.2.1 ic.1.2.2.2.2.1.1 hx ⟨fun z => absurd z fj_n1, fun _ => ⟨Or.inr rfl, rfl, kk _ ((fj_n.F a1 (by intro c hc; simp at hc ⊢; omega) rfl rfl).tr (fj_n.th _ _)) (by simp [fm_uI])⟩⟩
end FNL
