/-! the class: from the transformer on, tie by tie -/
theorem fg_Re_0 {G : fg_G} (ok : fg_ok G) : ∀ k A, fg_Re G k A → fg_D A 0 = 0 ∧ fg_C A 0 = 0 ∧ fg_S A 0 = 0 := by
  intro k
  induction k with
  | zero =>
    intro A h
    obtain ⟨_, h2, h3, h4⟩ := h.1.2.2.2.2.1 0 rfl
    exact ⟨h2, h3, h4⟩
  | succ k ih =>
    intro A h
    obtain ⟨A0, q, h0, hq, hS, _⟩ := h
    obtain ⟨g1, g2, g3⟩ := ih A0 h0
    have hy := (fg_y_un hq.2.1).1
    have h00 := (fg_Re_Fu ok k A0 h0).2.1
    have hne : 0 ≠ fg_y G A0 q := fun z => by rw [← z, h00] at hy; cases hy
    have hf : fg_F (fg_close G A0 q) 0 = true := (fg_up_ne _ _ hne).trans h00
    obtain ⟨_, k2, k3, k4⟩ := hS.2.2.2.2.1 0 hf
    exact ⟨k2.trans ((fg_up_ne _ _ hne).trans g1), k3.trans ((fg_up_ne _ _ hne).trans g2), k4.trans ((fg_up_ne _ _ hne).trans g3)⟩
theorem fx_cell {cs : List Nat} {N N' : fm_N} (h : fx_F cs N N') (c : Nat) (hc : cs.contains c = false) (i : Nat) : N'.1 c i = N.1 c i := by rw [h.1 c hc]
section FKS3
variable {X : Nat × (Nat → Int32)} {G : fg_G} {K : fm_N → Prop} {X' : Nat → fm_N → Prop} {Q : fm_O → fm_M → Prop}
theorem lp_121b {N : fm_N} : ∀ m k (N1 : fm_N), 4 - k = m → k ≤ 4 → fx_F fk_cs N N1 → (∀ i, N1.1 13 i = N.1 13 i ∧ N1.1 14 i = N.1 14 i ∧ N1.1 15 i = N.1 15 i ∧ N1.1 16 i = N.1 16 i ∧ N1.1 17 i = N.1 17 i) → (∀ q, q < k → N1.1 18 q = nI 0) →
    (∀ N', fx_F fk_cs N N' → (∀ i, N'.1 13 i = N.1 13 i ∧ N'.1 14 i = N.1 14 i ∧ N'.1 15 i = N.1 15 i ∧ N'.1 16 i = N.1 16 i ∧ N'.1 17 i = N.1 17 i) → (∀ q, q < 4 → N'.1 18 q = nI 0) → N'.1 3 7 = nI 1 → Q (.inl none) (N', fm_SH)) →
    fm_Ev (fm_PP X) 121 (44, [some (.inl (.ref 3)), some (.inl (.int (nI k)))], [], (N1, fm_SH)) Q := by
  intro m
  induction m with
  | zero =>
    intro k N1 hm hk hF h1 h2 kk
    refine fb_121_44 X _ N1 Q ?_
    simp (disch := omega) only [fz_t, fz_le]
    refine ⟨fun _ => kk _ (hF.up rfl) (fun i => by simp only [fz_ne _ _ (by decide : (13 : Nat) ≠ 3), fz_ne _ _ (by decide : (14 : Nat) ≠ 3), fz_ne _ _ (by decide : (15 : Nat) ≠ 3), fz_ne _ _ (by decide : (16 : Nat) ≠ 3), fz_ne _ _ (by decide : (17 : Nat) ≠ 3)]; exact h1 i) (fun q hq => by simp only [fz_ne _ _ (by decide : (18 : Nat) ≠ 3)]; exact h2 q (by omega)) (by simp only [fz_at, if_true]), fun z => absurd (by omega) z⟩
  | succ m ih =>
    intro k N1 hm hk hF h1 h2 kk
    refine fb_121_44 X _ N1 Q ?_
    simp (disch := omega) only [fz_t, fz_le, fz_nb0, nI_add]
    refine ⟨fun z => absurd z (by omega), fun _ => ⟨fz_in (by omega) (by omega), ih (k + 1) _ (by omega) (by omega) (hF.up rfl) (fun i => ?_) (fun q hq => ?_) kk⟩⟩
    · simp only [fz_ne _ _ (by decide : (13 : Nat) ≠ 18), fz_ne _ _ (by decide : (14 : Nat) ≠ 18), fz_ne _ _ (by decide : (15 : Nat) ≠ 18), fz_ne _ _ (by decide : (16 : Nat) ≠ 18), fz_ne _ _ (by decide : (17 : Nat) ≠ 18)]
      exact h1 i
    · simp only [fz_at]
      by_cases z : q = k
      · rw [if_pos z]
      · rw [if_neg z]; exact h2 q (by omega)
theorem lp_121a {N : fm_N} : ∀ m k (N1 : fm_N), 12 - k = m → 1 ≤ k → k ≤ 12 → fx_F fk_cs N N1 → (∀ i, 1 ≤ i → i < k → N1.1 13 i = nI 0 ∧ N1.1 14 i = nI 0 ∧ N1.1 15 i = nI 0 ∧ N1.1 16 i = nI 0) → (N1.1 13 0 = N.1 13 0 ∧ N1.1 14 0 = N.1 14 0 ∧ N1.1 15 0 = N.1 15 0 ∧ N1.1 16 0 = N.1 16 0) → (∀ i, N1.1 17 i = N.1 17 i) →
    (∀ N', fx_F fk_cs N N' → (∀ i, 1 ≤ i → i < 12 → N'.1 13 i = nI 0 ∧ N'.1 14 i = nI 0 ∧ N'.1 15 i = nI 0 ∧ N'.1 16 i = nI 0) → (N'.1 13 0 = N.1 13 0 ∧ N'.1 14 0 = N.1 14 0 ∧ N'.1 15 0 = N.1 15 0 ∧ N'.1 16 0 = N.1 16 0) → (∀ i, N'.1 17 i = N.1 17 i) → (∀ q, q < 4 → N'.1 18 q = nI 0) → N'.1 3 7 = nI 1 → Q (.inl none) (N', fm_SH)) →
    fm_Ev (fm_PP X) 121 (2, [some (.inl (.ref 3)), some (.inl (.int (nI k)))], [], (N1, fm_SH)) Q := by
  intro m
  induction m with
  | zero =>
    intro k N1 hm hk0 hk hF h1 h2 h3 kk
    refine fb_121_2 X _ N1 Q ?_
    simp (disch := omega) only [fz_t, fz_le]
    refine ⟨fun _ => ?_, fun z => absurd (by omega) z⟩
    refine lp_121b (N := N1) 4 0 N1 rfl (by omega) (fx_F.rf _ _) (fun i => ⟨rfl, rfl, rfl, rfl, rfl⟩) (fun q hq => absurd hq (Nat.not_lt_zero q)) (fun N' a1 a2 a3 a4 => ?_)
    refine kk N' (hF.tr a1) (fun i g1 g2 => ?_) ?_ (fun i => ((a2 i).2.2.2.2).trans (h3 i)) a3 a4
    · rw [(a2 i).1, (a2 i).2.1, (a2 i).2.2.1, (a2 i).2.2.2.1]; exact h1 i g1 (by omega)
    · rw [(a2 0).1, (a2 0).2.1, (a2 0).2.2.1, (a2 0).2.2.2.1]; exact h2
  | succ m ih =>
    intro k N1 hm hk0 hk hF h1 h2 h3 kk
    refine fb_121_2 X _ N1 Q ?_
    simp (disch := omega) only [fz_t, fz_le, fz_nb0, nI_add]
    refine ⟨fun z => absurd z (by omega), fun _ => ⟨fz_in (by omega) (by omega), fz_in (by omega) (by omega), fz_in (by omega) (by omega), fz_in (by omega) (by omega), ?_⟩⟩
    refine ih (k + 1) _ (by omega) (by omega) (by omega) ((((hF.up rfl).up rfl).up rfl).up rfl) (fun i g1 g2 => ?_) ?_ (fun i => ?_) kk
    · by_cases z : i = k
      · subst z; simp [fz_ui]
      · have := h1 i g1 (by omega)
        simp [fz_ui, z]
        exact this
    · have z : ¬ 0 = k := by omega
      simp [fz_ui, z]
      exact h2
    · simp [fz_ui]
      exact h3 i
theorem sp_121 {N : fm_N} {A : fg_A} {o : Nat → Nat} {fc : Nat} (h : fk_S N A o fc) (h0 : fg_D A 0 = 0 ∧ fg_C A 0 = 0 ∧ fg_S A 0 = 0) (k : ∀ N', fx_F fk_cs N N' → fk_S N' fg_init o 1 → K N') : fm_Cv (fm_PP X) 121 [.inl (.ref 3)] (N, fm_SH) K X' := by
  refine fe_121 X N K X' ?_
  refine lp_121a (N := N) 11 1 N rfl (by omega) (by omega) (fx_F.rf _ _) (fun i g1 g2 => absurd g2 (by omega)) ⟨rfl, rfl, rfl, rfl⟩ (fun i => rfl) (fun N' a1 a2 a3 a4 a5 a6 => ⟨rfl, k N' a1 ?_⟩)
  obtain ⟨h1, h2, h3, h4, h5, h6⟩ := h
  have ho0 := h5.1.2.2
  have hF0 : fg_F A 0 = true := by
    have := (h5.2.1 0 (by have := h5.1.1; omega)).1
    rw [ho0] at this
    exact this
  refine ⟨fun i hi => ?_, fun q hq => a5 q hq, a6, fun k hk => by rw [a4]; exact h4 k hk, ⟨⟨Nat.le_refl _, by omega, ho0⟩, fun k hk => ?_, fun j k hj hk => by omega, fun u hu => ?_, fun k g1 g2 => by omega⟩, by decide⟩
  · by_cases z : i = 0
    · subst z
      rw [a3.1, a3.2.1, a3.2.2.1, a3.2.2.2]
      obtain ⟨g1, g2, g3, g4, -⟩ := h1 0 hi
      rw [g1, g2, g3, g4, hF0, h0.1, h0.2.1, h0.2.2]
      exact ⟨rfl, rfl, rfl, rfl, hi, hi, fun _ => rfl⟩
    · obtain ⟨g1, g2, g3, g4⟩ := a2 i (by omega) hi
      rw [g1, g2, g3, g4]
      have : fg_F fg_init i = false := decide_eq_false z
      rw [this]
      exact ⟨rfl, rfl, rfl, nI_0, by show 0 < 12; omega, by show 0 < 12; omega, fun _ => rfl⟩
  · rw [show k = 0 by omega, ho0]
    exact ⟨rfl, by omega⟩
  · have hu : u = 0 := of_decide_eq_true hu
    exact ⟨0, by omega, by rw [ho0, hu]⟩
theorem lp_125 {N : fm_N} {A : fg_A} {o : Nat → Nat} {fc : Nat} (hG : fk_G N G) (h : fk_S N A o fc) : ∀ m q, fg_t G - q = m → q ≤ fg_t G → (∀ r, r < q → ¬ fg_df G A r) → (∀ q, fg_fi G A q → Q (.inl (some (.inl (.int (nI q))))) (N, fm_SH)) → (fg_nt G A → Q (.inl (some (.inl (.int (Int32.ofInt (-1)))))) (N, fm_SH)) →
    fm_Ev (fm_PP X) 125 (2, [some (.inl (.ref 3)), some (.inl (.int (nI q)))], [], (N, fm_SH)) Q := by
  intro m
  induction m with
  | zero =>
    intro q hm hq hr k1 k2
    have ht := hG.2.2.2.1
    refine fb_125_2 X _ N Q ?_
    rw [hG.2.1]
    simp (disch := omega) only [fz_t, fz_le]
    exact ⟨fun _ => k2 (fun r hr' => hr r (by omega)), fun z => absurd (by omega) z⟩
  | succ m ih =>
    intro q hm hq hr k1 k2
    have ht := hG.2.2.2.1
    obtain ⟨g9, g10, -, ga, gb⟩ := hG.2.2.2.2.2.2 q (by omega)
    refine fb_125_2 X _ N Q ?_
    rw [hG.2.1]
    simp (disch := omega) only [fz_t, fz_le, g9, g10, (h.1 _ ga).1, (h.1 _ gb).1, fz_bb, nI_add]
    refine ⟨fun z => absurd z (by omega), fun _ => ⟨fz_in (by omega) (by omega), fz_in (by omega) (by omega), fz_in (by omega) (by omega), fz_in (by omega) (by omega), fun he => ?_, fun hn => k1 q ⟨by omega, hn, hr⟩⟩⟩
    refine ih (q + 1) (by omega) (by omega) (fun r hr' => ?_) k1 k2
    by_cases z : r = q
    · subst z; exact fun hd => hd he
    · exact hr r (by omega)
theorem sp_125 {N : fm_N} {A : fg_A} {o : Nat → Nat} {fc : Nat} (hG : fk_G N G) (h : fk_S N A o fc) {K : Int32 → fm_N → Prop} (k1 : ∀ q, fg_fi G A q → K (nI q) N) (k2 : fg_nt G A → K (Int32.ofInt (-1)) N) : fm_Ci (fm_PP X) 125 [.inl (.ref 3)] (N, fm_SH) K X' := by
  refine fe_125 X N K X' ?_
  exact lp_125 hG h _ 0 rfl (by omega) (fun r hr => absurd hr (Nat.not_lt_zero r)) (fun q hq => ⟨rfl, k1 q hq⟩) (fun hn => ⟨rfl, k2 hn⟩)
theorem sp_126 {N : fm_N} {A : fg_A} {o : Nat → Nat} {fc q : Nat} (hG : fk_G N G) (h : fk_S N A o fc) (hq : fg_fi G A q) (k : ∀ N', fx_F fk_cs N N' → fk_S N' (fg_close G A q) (fg_up o fc (fg_y G A q)) (fc + 1) → K N') : fm_Cv (fm_PP X) 126 [.inl (.ref 3), .inl (.int (nI q))] (N, fm_SH) K X' := by
  have ht := hG.2.2.2.1
  have hqt := hq.1
  obtain ⟨g9, g10, g11, ga, gb⟩ := hG.2.2.2.2.2.2 q (by omega)
  obtain ⟨hy, hz⟩ := fg_y_un hq.2.1
  have hy12 : fg_y G A q < 12 := by unfold fg_y; split <;> assumption
  have hz12 : fg_z G A q < 12 := by unfold fg_z; split <;> assumption
  have hfc := fk_fc h hy hy12
  have key : fm_Cv (fm_PP X) 127 [.inl (.ref 3), .inl (.int (nI (fg_y G A q))), .inl (.int (nI (fg_z G A q))), .inl (.int (fg_x G q))] ((fm_uI N.1 18 q (nI 1), N.2), fm_SH) (fun N1 => True ∧ K N1) (fun e N1 => True ∧ X' e N1) := by
    refine sp_127 (fc := fc) (by simp [fz_ui]; exact h.2.2.1) hfc hy12 ⟨trivial, k _ ?_ ?_⟩
    · exact ((((((fx_F.rf fk_cs N).up rfl).up rfl).up rfl).up rfl).up rfl).up rfl
    · have hC : fg_C A (fg_y G A q) = 0 := (h.1 _ hy12).2.2.2.2.2.2 hy
      refine fk_put h hy12 hy hz12 hz (by omega : 0 < 12) (fun i => by simp [fz_ui]) (fun i => by simp [fz_ui]) (fun i => ?_) (fun i => by simp [fz_ui]) (fun r hr => ?_) (by simp [fz_ui]) (fun k => by simp [fz_ui])
      · by_cases z : i = fg_y G A q
        · rw [if_pos z, z]
          simp [fz_ui]
          rw [(h.1 _ hy12).2.2.1, hC]
        · rw [if_neg z]
          simp [fz_ui]
      · by_cases z : r = q
        · subst z
          rw [fg_up_eq]
          simp [fz_ui]
          rfl
        · rw [fg_up_ne _ _ z]
          simp [fz_ui, z]
          exact h.2.1 r hr
  refine fe_126 X _ N K X' ?_
  simp (disch := omega) only [fz_t, g9, g10, g11, (h.1 _ ga).1, fz_be, fz_nb1]
  refine ⟨fz_in (by omega) (by omega), fz_in (by omega) (by omega), fz_in (by omega) (by omega), fz_in (by omega) (by omega), fun ha => ⟨fz_in (by omega) (by omega), ?_⟩, fun ha => ⟨fz_in (by omega) (by omega), ?_⟩⟩
  · have e1 : fg_y G A q = fg_a G q := if_neg (by rw [ha]; exact fun z => nomatch z)
    have e2 : fg_z G A q = fg_b G q := if_neg (by rw [ha]; exact fun z => nomatch z)
    rw [e1, e2] at key
    exact key
  · have ha' : fg_F A (fg_a G q) = true := by simpa using ha
    have e1 : fg_y G A q = fg_b G q := if_pos ha'
    have e2 : fg_z G A q = fg_a G q := if_pos ha'
    rw [e1, e2] at key
    exact key
theorem lp_120 : ∀ m k (N : fm_N) (A : fg_A) (o : Nat → Nat) (fc : Nat) (o2 o3 : Option fm_V), fg_t G - k = m → k ≤ fg_t G → fk_G N G → fk_S N A o fc → fg_Re G k A →
    (∀ N' A' o' fc', fx_F fk_cs N N' → fk_S N' A' o' fc' → fg_Fin G A' → Q (.inl none) (N', fm_SH)) →
    fm_Ev (fm_PP X) 120 (11, [some (.inl (.ref 3)), some (.inl (.int (nI k))), o2, o3], [], (N, fm_SH)) Q := by
  intro m
  induction m with
  | zero =>
    intro k N A o fc o2 o3 hm hk hG h hR kk
    have ht := hG.2.2.2.1
    have ok := hG.2.2.2.2.1
    refine fb_120_11 X _ _ _ N Q ?_
    rw [hG.2.1]
    simp (disch := omega) only [fz_t, fz_le]
    have hkt : k = fg_t G := by omega
    refine ⟨fun _ => kk N A o fc (fx_F.rf _ _) h ⟨k, hR, fg_Re_full ok (by rw [← hkt]; exact hR)⟩, fun z => absurd (by omega) z⟩
  | succ m ih =>
    intro k N A o fc o2 o3 hm hk hG h hR kk
    have ht := hG.2.2.2.1
    have ok := hG.2.2.2.2.1
    refine fb_120_11 X _ _ _ N Q ?_
    rw [hG.2.1]
    simp (disch := omega) only [fz_t, fz_le, nI_add]
    refine ⟨fun z => absurd z (by omega), fun _ => ?_⟩
    refine sp_125 hG h (fun q hq => ⟨fun z => ?_, fun _ => ?_⟩) (fun hn => ⟨fun _ => kk N A o fc (fx_F.rf _ _) h ⟨k, hR, hn⟩, fun z => absurd rfl z⟩)
    · have := hq.1
      rw [fz_m1 (by omega)] at z
      exact z.elim
    · have hFu := (fg_Re_Fu ok k A hR).1
      refine sp_126 hG h hq (fun N' a1 a2 => ?_)
      rw [h.2.2.1]
      have hfc12 : fc ≤ 12 := h.2.2.2.2.1.1.2.1
      refine sp_122 (A0 := fg_close G A q) (fk_fr hG a1) a2 (fg_Sq.rf (fg_close_I ok hFu hq)) hfc12 (fun j h1 h2 => ?_) (fun N'' A'' o'' fc'' b1 b2 b3 b4 => ?_)
      · rw [fg_up_ne _ _ (by omega : j ≠ fc)]
        have hin : fk_inc G A (o j) := by
          intro c hc hcv
          have hoj := (h.2.2.2.2.1.2.1 j h1).1
          rcases hcv with z | z
          · rw [z]; exact ⟨hoj, by rw [← z, ← hFu.2.1 c hc, z]; exact hoj⟩
          · rw [z]; exact ⟨by rw [hFu.2.1 c hc, z]; exact hoj, hoj⟩
        refine hin.mono fun u hu => ?_
        show fg_up (fg_F A) (fg_y G A q) true u = true
        unfold fg_up
        split
        · rfl
        · exact hu
      · exact ih (k + 1) N'' A'' o'' fc'' _ _ (by omega) (by omega) (fk_fr hG (a1.tr b1)) b2 ⟨A, q, hR, hq, b3, b4⟩ (fun N3 A3 o3 fc3 c1 c2 c3 => kk N3 A3 o3 fc3 ((a1.tr b1).tr c1) c2 c3)
theorem sp_120 {N : fm_N} {A : fg_A} {o : Nat → Nat} {fc : Nat} (hG : fk_G N G) (h : fk_S N A o fc) (h0 : fg_D A 0 = 0 ∧ fg_C A 0 = 0 ∧ fg_S A 0 = 0) (k : ∀ N' A' o' fc', fx_F fk_cs N N' → fk_S N' A' o' fc' → fg_Fin G A' → K N') : fm_Cv (fm_PP X) 120 [.inl (.ref 3)] (N, fm_SH) K X' := by
  have ok := hG.2.2.2.2.1
  refine fe_120 X N K X' ?_
  refine sp_121 h h0 (fun N1 a1 a2 => ?_)
  refine sp_122 (k := 0) (A0 := fg_init) (fk_fr hG a1) a2 (fg_Sq.rf (fg_init_I ok)) (by omega) (fun j h1 h2 => absurd h1 (Nat.not_lt_zero j)) (fun N2 A2 o2 fc2 b1 b2 b3 b4 => ?_)
  exact lp_120 _ 0 N2 A2 o2 fc2 _ _ rfl (by omega) (fk_fr hG (a1.tr b1)) b2 ⟨b3, b4⟩ (fun N3 A3 o3 fc3 c1 c2 c3 => ⟨rfl, k N3 A3 o3 fc3 ((a1.tr b1).tr c1) c2 c3⟩)
end FKS3
