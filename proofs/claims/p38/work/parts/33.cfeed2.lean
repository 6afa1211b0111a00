/-! the class: the net is fed anew -/
def fk_X (A : fg_A) (o : Nat → Nat) (fc : Nat) (A' : fg_A) (o' : Nat → Nat) (fc' : Nat) : Prop := fc ≤ fc' ∧ (∀ j, j < fc → o' j = o j) ∧ ∀ u, fg_F A u = true → fg_F A' u = true
theorem fk_X.rf (A : fg_A) (o : Nat → Nat) (fc : Nat) : fk_X A o fc A o fc := ⟨Nat.le_refl _, fun _ _ => rfl, fun _ h => h⟩
theorem fk_X.tr {A A' A'' : fg_A} {o o' o'' : Nat → Nat} {fc fc' fc'' : Nat} (h : fk_X A o fc A' o' fc') (k : fk_X A' o' fc' A'' o'' fc'') : fk_X A o fc A'' o'' fc'' := ⟨Nat.le_trans h.1 k.1, fun j hj => (k.2.1 j (Nat.lt_of_lt_of_le hj h.1)).trans (h.2.1 j hj), fun u hu => k.2.2 u (h.2.2 u hu)⟩
theorem fk_X.fd (A : fg_A) (o : Nat → Nat) (fc u f c : Nat) (r : Int32) : fk_X A o fc (fg_feed A u f c r) (fg_up o fc u) (fc + 1) := by
  refine ⟨Nat.le_succ _, fun j hj => fg_up_ne _ _ (by omega), fun v hv => ?_⟩
  show fg_up (fg_F A) u true v = true
  unfold fg_up
  split
  · rfl
  · exact hv
/-- every whole cable at v has both its nodes fed -/
def fk_inc (G : fg_G) (A : fg_A) (v : Nat) : Prop := ∀ c, fg_cb G c → (c = v ∨ fg_p G c = v) → fg_F A c = true ∧ fg_F A (fg_p G c) = true
theorem fk_inc.mono {G : fg_G} {A A' : fg_A} {v : Nat} (h : fk_inc G A v) (k : ∀ u, fg_F A u = true → fg_F A' u = true) : fk_inc G A' v := fun c hc hv => ⟨k _ (h c hc hv).1, k _ (h c hc hv).2⟩
theorem fg_cn_bd {f : Nat → Bool} {n : Nat} (h : ∀ u, f u = true → u < n) : ∀ m, fg_cn f m ≤ n := by
  intro m
  induction m with
  | zero => exact Nat.zero_le _
  | succ m ih =>
    unfold fg_cn
    by_cases z : f m = true
    · rw [if_pos z]
      have := h m z
      have := fg_cn_le f m
      omega
    · rw [if_neg z]; exact ih
section FKS2
variable {X : Nat × (Nat → Int32)} {G : fg_G} {A0 : fg_A} {K : fm_N → Prop} {X' : Nat → fm_N → Prop} {Q : fm_O → fm_M → Prop}
theorem fk_fr {N N' : fm_N} {G : fg_G} (h : fk_G N G) (hF : fx_F fk_cs N N') : fk_G N' G := h.fr hF ⟨rfl, rfl, rfl, rfl, rfl, rfl, rfl⟩
theorem lp_123 (ok : fg_ok G) {v : Nat} : ∀ m c (N : fm_N) (A : fg_A) (o : Nat → Nat) (fc : Nat), fg_n G - c = m → v < c → c ≤ 12 → fk_G N G → fk_S N A o fc → fg_Sq G A0 A → fg_F A v = true → (∀ d, v < d → d < c → fg_cb G d → fg_p G d = v → fg_F A d = true) →
    (∀ N' A' o' fc', fx_F fk_cs N N' → fk_S N' A' o' fc' → fg_Sq G A0 A' → fk_X A o fc A' o' fc' → (∀ d, v < d → d < fg_n G → fg_cb G d → fg_p G d = v → fg_F A' d = true) → Q (.inl none) (N', fm_SH)) →
    fm_Ev (fm_PP X) 123 (23, [some (.inl (.ref 3)), some (.inl (.int (nI v))), some (.inl (.int (nI c)))], [], (N, fm_SH)) Q := by
  intro m
  induction m with
  | zero =>
    intro c N A o fc hm hvc hc12 hG h hS hv hd k
    have h12 := hG.2.2.1
    refine fb_123_23 X _ _ N Q ?_
    rw [hG.1]
    have hvn := hS.1.2.2.2.2.2.2.2.2 v hv
    refine ⟨fun _ => k N A o fc (fx_F.rf _ _) h hS (fk_X.rf _ _ _) (fun d h1 h2 => hd d h1 (by omega)), fun z => ?_⟩
    rw [fz_le (by omega) (by omega)] at z
    omega
  | succ m ih =>
    intro c N A o fc hm hvc hc12 hG h hS hv hd k
    have h12 := hG.2.2.1
    refine fb_123_23 X _ _ N Q ?_
    rw [hG.1]
    obtain ⟨g4, -, -, g12⟩ := hG.2.2.2.2.2.1 c (by omega)
    simp (disch := omega) only [fz_t, fz_le, g4, fz_eq, nI_add]
    refine ⟨fun z => absurd z (by omega), fun _ => ⟨fz_in (by omega) (by omega), fun hp => ?_, fun hp => ?_⟩⟩
    · refine sp_124 hG h (by omega) (by omega) (by omega) hv (fun hw hu N' hF hS' => ?_) (fun hor => ?_)
      · refine ih (c + 1) N' _ _ _ (by omega) (by omega) (by omega) (fk_fr hG hF) hS' ?_ ?_ (fun d h1 h2 h3 h4 => ?_) (fun N'' A' o' fc' a1 a2 a3 a4 a5 => k N'' A' o' fc' (hF.tr a1) a2 a3 ((fk_X.fd A o fc c v c _).tr a4) a5)
        · have := hS.s1 ok ⟨by omega, by omega, hw⟩ (by rw [hp]; exact hv) hu
          rw [hp] at this
          exact this
        · exact (fk_X.fd A o fc c v c _).2.2 v hv
        · by_cases z : d = c
          · subst z; exact fg_up_eq _ _ _
          · exact (fk_X.fd A o fc c v c _).2.2 d (hd d h1 (by omega) h3 h4)
      · refine ih (c + 1) N A o fc (by omega) (by omega) (by omega) hG h hS hv (fun d h1 h2 h3 h4 => ?_) k
        by_cases z : d = c
        · subst z
          rcases hor with q | q
          · have := h3.2.2
            rw [q] at this
            cases this
          · exact q
        · exact hd d h1 (by omega) h3 h4
    · refine ih (c + 1) N A o fc (by omega) (by omega) (by omega) hG h hS hv (fun d h1 h2 h3 h4 => ?_) k
      by_cases z : d = c
      · subst z; exact absurd h4 hp
      · exact hd d h1 (by omega) h3 h4
theorem sp_123 {N : fm_N} {A : fg_A} {o : Nat → Nat} {fc v : Nat} (hG : fk_G N G) (h : fk_S N A o fc) (hS : fg_Sq G A0 A) (hv : fg_F A v = true)
    (k : ∀ N' A' o' fc', fx_F fk_cs N N' → fk_S N' A' o' fc' → fg_Sq G A0 A' → fk_X A o fc A' o' fc' → fk_inc G A' v → K N') : fm_Cv (fm_PP X) 123 [.inl (.ref 3), .inl (.int (nI v))] (N, fm_SH) K X' := by
  have ok := hG.2.2.2.2.1
  have h12 := hG.2.2.1
  have hvn := hS.1.2.2.2.2.2.2.2.2 v hv
  obtain ⟨g4, -, -, g12⟩ := hG.2.2.2.2.2.1 v (by omega)
  have fin : ∀ (N1 : fm_N) (A1 : fg_A) (o1 : Nat → Nat) (fc1 : Nat), fx_F fk_cs N N1 → fk_S N1 A1 o1 fc1 → fg_Sq G A0 A1 → fk_X A o fc A1 o1 fc1 → (fg_cb G v → fg_F A1 (fg_p G v) = true) → fm_Ev (fm_PP X) 123 (23, [some (.inl (.ref 3)), some (.inl (.int (nI v))), some (.inl (.int (nI (v + 1))))], [], (N1, fm_SH)) (fm_Qv fm_SH K X') := by
    intro N1 A1 o1 fc1 b1 b2 b3 b4 b5
    refine lp_123 ok _ (v + 1) N1 A1 o1 fc1 rfl (by omega) (by omega) (fk_fr hG b1) b2 b3 (b4.2.2 v hv) (fun d h1 h2 => absurd h1 (by omega)) (fun N' A' o' fc' a1 a2 a3 a4 a5 => ⟨rfl, k N' A' o' fc' (b1.tr a1) a2 a3 (b4.tr a4) (fun c hc hcv => ?_)⟩)
    have hv' : fg_F A' v = true := a4.2.2 v (b4.2.2 v hv)
    rcases hcv with z | z
    · subst z; exact ⟨hv', a4.2.2 _ (b5 hc)⟩
    · have hlt := ok.2.1 c hc.1 hc.2.1
      exact ⟨a5 c (by omega) hc.2.1 hc z, by rw [z]; exact hv'⟩
  refine fe_123 X _ N K X' ?_
  simp (disch := omega) only [fz_t, fz_le, g4, nI_add]
  refine ⟨fun z => fin N A o fc (fx_F.rf _ _) h hS (fk_X.rf _ _ _) (fun hc => absurd hc.1 (by omega)), fun z => ⟨fz_in (by omega) (by omega), ?_⟩⟩
  refine sp_124 hG h g12 (by omega) (by omega) hv (fun hw hu N' hF hS' => ?_) (fun hor => ?_)
  · exact fin N' _ _ _ hF hS' (hS.s2 ok ⟨by omega, hvn, hw⟩ hu hv) (fk_X.fd A o fc _ v v _) (fun _ => fg_up_eq _ _ _)
  · refine fin N A o fc (fx_F.rf _ _) h hS (fk_X.rf _ _ _) (fun hc => ?_)
    rcases hor with q | q
    · have := hc.2.2
      rw [q] at this
      cases this
    · exact q
theorem lp_122 (ok : fg_ok G) : ∀ m k (N : fm_N) (A : fg_A) (o : Nat → Nat) (fc : Nat) (o1 : Option fm_V), 12 - k = m → fk_G N G → fk_S N A o fc → fg_Sq G A0 A → (∀ j, j < k → j < fc → fk_inc G A (o j)) →
    (∀ N' A' o' fc', fx_F fk_cs N N' → fk_S N' A' o' fc' → fg_Sq G A0 A' → fg_cl G A' → Q (.inl none) (N', fm_SH)) → k ≤ 12 →
    fm_Ev (fm_PP X) 122 (2, [some (.inl (.ref 3)), o1, some (.inl (.int (nI k)))], [], (N, fm_SH)) Q := by
  intro m
  induction m with
  | zero =>
    intro k N A o fc o1 hm hG h hS hi kk hk
    have h12 := hG.2.2.1
    have hfn : fc ≤ 12 := h.2.2.2.2.1.1.2.1
    refine fb_122_2 X _ _ N Q ?_
    rw [hG.1, h.2.2.1]
    simp (disch := omega) only [fz_t, fz_le]
    refine ⟨fun _ => kk N A o fc (fx_F.rf _ _) h hS (fun c hc => ?_), fun z => absurd (by omega) z⟩
    cases hA : fg_F A c <;> cases hB : fg_F A (fg_p G c)
    · rfl
    · obtain ⟨j, hj, hoj⟩ := h.2.2.2.2.1.2.2.2.1 _ hB
      have := (hi j (by omega) hj c hc (Or.inr hoj.symm)).1
      rw [hA] at this; cases this
    · obtain ⟨j, hj, hoj⟩ := h.2.2.2.2.1.2.2.2.1 _ hA
      have := (hi j (by omega) hj c hc (Or.inl hoj.symm)).2
      rw [hB] at this; cases this
    · rfl
  | succ m ih =>
    intro k N A o fc o1 hm hG h hS hi kk hk
    have h12 := hG.2.2.1
    have hfn : fc ≤ 12 := h.2.2.2.2.1.1.2.1
    have hfc : fc ≤ fg_n G := by rw [h.2.2.2.2.2]; exact fg_cn_bd hS.1.2.2.2.2.2.2.2.2 12
    have hend : fc ≤ k → fg_cl G A := fun hfk c hc => by
      cases hA : fg_F A c <;> cases hB : fg_F A (fg_p G c)
      · rfl
      · obtain ⟨j, hj, hoj⟩ := h.2.2.2.2.1.2.2.2.1 _ hB
        have := (hi j (by omega) hj c hc (Or.inr hoj.symm)).1
        rw [hA] at this; cases this
      · obtain ⟨j, hj, hoj⟩ := h.2.2.2.2.1.2.2.2.1 _ hA
        have := (hi j (by omega) hj c hc (Or.inl hoj.symm)).2
        rw [hB] at this; cases this
      · rfl
    obtain ⟨g16, g12⟩ := h.2.2.2.1 k (by omega)
    refine fb_122_2 X _ _ N Q ?_
    rw [hG.1, h.2.2.1]
    simp (disch := omega) only [fz_t, fz_le, g16, nI_add]
    refine ⟨fun z => kk N A o fc (fx_F.rf _ _) h hS (hend (by omega)), fun _ => ⟨fun z => kk N A o fc (fx_F.rf _ _) h hS (hend z), fun z => ⟨fz_in (by omega) (by omega), ?_⟩⟩⟩
    refine sp_123 hG h hS (h.2.2.2.2.1.2.1 k (by omega)).1 (fun N' A' o' fc' a1 a2 a3 a4 a5 => ?_)
    refine ih (k + 1) N' A' o' fc' o1 (by omega) (fk_fr hG a1) a2 a3 (fun j h1 h2 => ?_) (fun N'' A'' o'' fc'' b1 b2 b3 b4 => kk N'' A'' o'' fc'' (a1.tr b1) b2 b3 b4) (by omega)
    by_cases z2 : j = k
    · subst z2; rw [a4.2.1 j (by omega)]; exact a5
    · rw [a4.2.1 j (by omega)]; exact (hi j (by omega) (by omega)).mono a4.2.2
theorem sp_122 {N : fm_N} {A : fg_A} {o : Nat → Nat} {fc k : Nat} (hG : fk_G N G) (h : fk_S N A o fc) (hS : fg_Sq G A0 A) (hk : k ≤ 12) (hi : ∀ j, j < k → j < fc → fk_inc G A (o j))
    (kk : ∀ N' A' o' fc', fx_F fk_cs N N' → fk_S N' A' o' fc' → fg_Sq G A0 A' → fg_cl G A' → K N') : fm_Cv (fm_PP X) 122 [.inl (.ref 3), .inl (.int (nI k))] (N, fm_SH) K X' := by
  refine fe_122 X _ N K X' ?_
  exact lp_122 hG.2.2.2.2.1 _ k N A o fc _ rfl hG h hS hi (fun N' A' o' fc' a1 a2 a3 a4 => ⟨rfl, kk N' A' o' fc' a1 a2 a3 a4⟩) hk
end FKS2
