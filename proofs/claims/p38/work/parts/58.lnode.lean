/-! the law: nodes, ties, layers -/
section LND
variable {X : Nat × (Nat → Int32)} {N : fm_N} {A : fg_A} {o : Nat → Nat} {fc M mi n u v L : Nat} {x y w : Int32} {K : Int32 → fm_N → Prop} {X' : Nat → fm_N → Prop}
theorem sw_173 (hn : N.1 4 8 = nI n) (hf : n < 12) (hu : u < n) (hy : fj_rg y 1 20) (hw : fj_rg w 1 400) (hG1 : fk_G (fm_uI (fm_uI (fm_uI (fm_uI N.1 5 n (nI u)) 6 n y) 7 n w) 4 8 (nI (n + 1)), N.2) (fk_gG (fm_uI (fm_uI (fm_uI (fm_uI N.1 5 n (nI u)) 6 n y) 7 n w) 4 8 (nI (n + 1)), N.2))) (hS1 : fk_S (fm_uI (fm_uI (fm_uI (fm_uI N.1 5 n (nI u)) 6 n y) 7 n w) 4 8 (nI (n + 1)), N.2) A o fc) (h0 : fg_D A 0 = 0 ∧ fg_C A 0 = 0 ∧ fg_S A 0 = 0)
    (k : ∀ N2 A' o' fc', fx_F fk_cs (fm_uI (fm_uI (fm_uI (fm_uI N.1 5 n (nI u)) 6 n y) 7 n w) 4 8 (nI (n + 1)), N.2) N2 → fk_S N2 A' o' fc' → fg_Fin (fk_gG (fm_uI (fm_uI (fm_uI (fm_uI N.1 5 n (nI u)) 6 n y) 7 n w) 4 8 (nI (n + 1)), N.2)) A' → K (nI n) N2) : fm_Ci (fm_PP X) 173 [.inl (.ref 1), .inl (.int (nI u)), .inl (.int y), .inl (.int w)] (N, fm_SH) K X' := by
  refine fe_173 X _ _ _ N K X' (fe_2 X _ _ _ N _ _ (sp_37y hn (by omega) hu (sp_38y hy (sp_38y hw ⟨fun _ => ?_, fun z => absurd (by rw [hn, fz_lt (by omega) (by omega)]; exact hf) z⟩))))
  refine fe_135 X _ _ _ N _ _ ?_
  rw [hn, fz_t (by omega), nI_add]
  exact ⟨fz_in hf (by omega), fz_in hf (by omega), fz_in hf (by omega), rfl, sp_120 hG1 hS1 h0 (fun N2 A' o' fc' b1 b2 b3 => ⟨rfl, rfl, k N2 A' o' fc' b1 b2 b3⟩)⟩
theorem sw_173n (hn : N.1 4 8 = nI n) (h12 : n ≤ 12) (h : ¬ fj_in x n) (k : K (nI 4294067295) (fj_g N)) : fm_Ci (fm_PP X) 173 [.inl (.ref 1), .inl (.int x), .inl (.int y), .inl (.int w)] (N, fm_SH) K X' :=
  fe_173 X _ _ _ N K X' (fe_2 X _ _ _ N _ _ (sp_37n hn h12 h ⟨rfl, fun _ => ⟨rfl, k⟩, fun z => absurd rfl z⟩))
theorem sw_173r (hn : N.1 4 8 = nI n) (h12 : n ≤ 12) (hu : u < n) (hy : ¬ fj_rg y 1 20) (k : K (nI 4294067294) (fj_g N)) : fm_Ci (fm_PP X) 173 [.inl (.ref 1), .inl (.int (nI u)), .inl (.int y), .inl (.int w)] (N, fm_SH) K X' :=
  fe_173 X _ _ _ N K X' (fe_2 X _ _ _ N _ _ (sp_37y hn h12 hu (sp_38n hy ⟨rfl, fun z => absurd z (by decide), fun _ => ⟨fun _ => ⟨rfl, k⟩, fun z => absurd rfl z⟩⟩)))
theorem sw_173w (hn : N.1 4 8 = nI n) (h12 : n ≤ 12) (hu : u < n) (hy : fj_rg y 1 20) (hw : ¬ fj_rg w 1 400) (k : K (nI 4294067294) (fj_g N)) : fm_Ci (fm_PP X) 173 [.inl (.ref 1), .inl (.int (nI u)), .inl (.int y), .inl (.int w)] (N, fm_SH) K X' :=
  fe_173 X _ _ _ N K X' (fe_2 X _ _ _ N _ _ (sp_37y hn h12 hu (sp_38y hy (sp_38n hw ⟨rfl, fun z => absurd z (by decide), fun _ => ⟨fun _ => ⟨rfl, k⟩, fun z => absurd rfl z⟩⟩))))
theorem sw_174 (hn : N.1 4 8 = nI n) (h12 : n ≤ 12) {t : Nat} (ht : N.1 4 9 = nI t) (hf : t < 4) (hu : u < n) (hv : v < n) (huv : u ≠ v) (hw : fj_rg w 1 20) (hG1 : fk_G (fm_uI (fm_uI (fm_uI (fm_uI N.1 10 t (nI u)) 11 t (nI v)) 12 t w) 4 9 (nI (t + 1)), N.2) (fk_gG (fm_uI (fm_uI (fm_uI (fm_uI N.1 10 t (nI u)) 11 t (nI v)) 12 t w) 4 9 (nI (t + 1)), N.2))) (hS1 : fk_S (fm_uI (fm_uI (fm_uI (fm_uI N.1 10 t (nI u)) 11 t (nI v)) 12 t w) 4 9 (nI (t + 1)), N.2) A o fc) (h0 : fg_D A 0 = 0 ∧ fg_C A 0 = 0 ∧ fg_S A 0 = 0)
    (k : ∀ N2 A' o' fc', fx_F fk_cs (fm_uI (fm_uI (fm_uI (fm_uI N.1 10 t (nI u)) 11 t (nI v)) 12 t w) 4 9 (nI (t + 1)), N.2) N2 → fk_S N2 A' o' fc' → fg_Fin (fk_gG (fm_uI (fm_uI (fm_uI (fm_uI N.1 10 t (nI u)) 11 t (nI v)) 12 t w) 4 9 (nI (t + 1)), N.2)) A' → K (nI t) N2) : fm_Ci (fm_PP X) 174 [.inl (.ref 1), .inl (.int (nI u)), .inl (.int (nI v)), .inl (.int w)] (N, fm_SH) K X' := by
  have huv' : ¬ nI u = nI v := fun z => huv ((nI_eq (by omega) (by omega)).mp z)
  refine fe_174 X _ _ _ N K X' (fe_3 X _ _ _ N _ _ (sp_37y hn h12 hu (sp_37y hn h12 hv ⟨fun z => absurd z huv', fun _ => sp_38y hw ⟨fun _ => ?_, fun z => absurd (by rw [ht, fz_lt (by omega) (by omega)]; exact hf) z⟩⟩)))
  refine fe_136 X _ _ _ N _ _ ?_
  rw [ht, fz_t (by omega), nI_add]
  exact ⟨fz_in hf (by omega), fz_in hf (by omega), fz_in hf (by omega), rfl, sp_120 hG1 hS1 h0 (fun N2 A' o' fc' b1 b2 b3 => ⟨rfl, rfl, k N2 A' o' fc' b1 b2 b3⟩)⟩
theorem sw_174n (hn : N.1 4 8 = nI n) (h12 : n ≤ 12) (h : ¬ fj_in x n) (k : K (nI 4294067295) (fj_g N)) : fm_Ci (fm_PP X) 174 [.inl (.ref 1), .inl (.int x), .inl (.int y), .inl (.int w)] (N, fm_SH) K X' :=
  fe_174 X _ _ _ N K X' (fe_3 X _ _ _ N _ _ (sp_37n hn h12 h ⟨rfl, fun _ => ⟨rfl, k⟩, fun z => absurd rfl z⟩))
theorem sw_174s (hn : N.1 4 8 = nI n) (h12 : n ≤ 12) (hu : u < n) (k : K (nI 4294067294) (fj_g N)) : fm_Ci (fm_PP X) 174 [.inl (.ref 1), .inl (.int (nI u)), .inl (.int (nI u)), .inl (.int w)] (N, fm_SH) K X' :=
  fe_174 X _ _ _ N K X' (fe_3 X _ _ _ N _ _ (sp_37y hn h12 hu (sp_37y hn h12 hu ⟨fun _ => ⟨rfl, ⟨fun z => absurd z (by decide), fun _ => ⟨fun _ => ⟨rfl, k⟩, fun z => absurd rfl z⟩⟩⟩, fun z => absurd rfl z⟩)))
theorem sw_174f (hn : N.1 4 8 = nI n) (h12 : n ≤ 12) (ht : N.1 4 9 = nI 4) (hu : u < n) (hv : v < n) (huv : u ≠ v) (hw : fj_rg w 1 20) (k : K (nI 4294067293) (fj_g N)) : fm_Ci (fm_PP X) 174 [.inl (.ref 1), .inl (.int (nI u)), .inl (.int (nI v)), .inl (.int w)] (N, fm_SH) K X' := by
  have huv' : ¬ nI u = nI v := fun z => huv ((nI_eq (by omega) (by omega)).mp z)
  refine fe_174 X _ _ _ N K X' (fe_3 X _ _ _ N _ _ (sp_37y hn h12 hu (sp_37y hn h12 hv ⟨fun z => absurd z huv', fun _ => sp_38y hw ⟨fun z => ?_, fun _ => ⟨rfl, ⟨fun z => absurd z (by decide), fun _ => ⟨fun z => absurd z (by decide), fun _ => ⟨fun _ => ⟨rfl, k⟩, fun z => absurd rfl z⟩⟩⟩⟩⟩⟩)))
  rw [ht] at z
  exact absurd z (by decide)
theorem fj_rgI {a b q : Nat} (h1 : a ≤ q) (h2 : q ≤ b) (hb : b < 2147483648) : fj_rg (nI q) a b := ⟨by rw [fz_lt (by omega) (by omega)]; omega, by rw [fz_le (by omega) (by omega)]; exact h2⟩
theorem sp_192 (hI : fj_I N A o fc M mi) (hX : X.1 < 2147483640) {i : Nat} (hi : i < 100000) (H : ∀ N' A' o' fc', fj_I N' A' o' fc' M mi → N'.2.2.2 ≤ N.2.2.2 + 1 → K (nI 1) N') : fm_Ci (fm_PP X) 192 [.inl (.ref 1), .inl (.ref 0), .inl (.ref 999999), .inl (.int (nI i))] (N, fm_SH) K X' := by
  have h0 := hI.2.1.2.1.1
  have h8 := hI.2.1.2.1.2.2.1
  have hn := hI.1.1.1
  have n1 := hI.1.1.2.2.2.2.1.1
  generalize hnn : fg_n (fk_gG N) = n at h0 h8 hn n1
  refine fe_192 X _ N K X' ?_
  simp (disch := omega) only [nI_add, fz_t, h0]
  refine ⟨fz_in (by omega) (by omega), sp_191 hX (by omega) (by omega) (by omega) (fun u hu => ?_)⟩
  simp (disch := omega) only [nI_add, fz_t, h0, fz_an]
  rw [fz_eq (by omega) (by omega)]
  refine ⟨fz_in (by omega) (by omega), fun z => ?_, fun z => ⟨fz_in (by omega) (by omega), fz_in (by omega) (by omega), fz_in (by omega) (by omega), ?_⟩⟩
  · exact sw_173r hn (by omega) hu (by unfold fj_rg; decide) (fj_yes rfl (H _ _ _ _ hI.g (Nat.le_refl _)))
  · have hk : ∀ y w, y < 20 → 1 ≤ w → w ≤ 400 → fm_Ev (fm_PP X) 192 (112, [some (.inl (.ref 1)), some (.inl (.ref 0)), some (.inl (.ref 999999)), some (.inl (.int (nI i))), some (.inl (.int (nI u)))], [], ((fm_uI (fm_uI (fm_uI N.1 0 (10 + n) (nI u)) 0 (30 + n) (nI (1 + y))) 0 (50 + n) (nI w), N.2), fm_SH)) (fm_Qi fm_SH K X') := fun y w hy hw1 hw2 => by
      obtain ⟨q1, q2, q3⟩ := fj_node (u := u) (y := nI (1 + y)) (w := nI w) hI hnn (by omega) hu ⟨by rw [fz_nI (by omega)]; omega, by rw [fz_nI (by omega)]; omega⟩
      refine fb_192_112 X _ _ _ _ _ ?_
      have e29 : 29 + (n + 1) = 30 + n := by omega
      have e49 : 49 + (n + 1) = 50 + n := by omega
      simp (disch := omega) only [nI_add, fz_t, h0, fz_an, fz_ae, e29, e49]
      refine ⟨fz_in (by omega) (by omega), fz_in (by omega) (by omega), fz_in (by omega) (by omega), fz_in (by omega) (by omega), fz_in (by omega) (by omega), fz_in (by omega) (by omega), ?_⟩
      refine sw_173 (n := n) (A := A) (o := o) (fc := fc) ?_ (by omega) hu (fj_rgI (by omega) (by omega) (by omega)) (fj_rgI hw1 hw2 (by omega)) q1 q2 (fk_ic_A0 hI.1) (fun N2 A' o' fc' b1 b2 b3 => ?_)
      · simp (disch := omega) only [fz_ne]
        exact hn
      · obtain ⟨r1, r2⟩ := q3 N2 A' o' fc' b1 b2 b3
        have r0 := r1.2.1.2.1.1
        rw [r2] at r0
        simp (disch := omega) only [fz_t, r0, fz_sub, Nat.add_sub_cancel]
        refine ⟨fz_in (by omega) (by omega), fun _ => ⟨Or.inr trivial, rfl, H _ _ _ _ r1 ?_⟩, fun z => absurd trivial z⟩
        rw [b1.2]
        exact Nat.le_succ _
    refine sp_191 hX (by omega) (by omega) (by omega) (fun y hy => ?_)
    try simp (disch := omega) only [nI_add, fz_t, h0, fz_an]
    refine ⟨fz_in (by omega) (by omega), fz_in (by omega) (by omega), sp_191 hX (by omega) (by omega) (by omega) (fun p hp => ?_)⟩
    try simp (disch := omega) only [nI_add, fz_t, h0, fz_an]
    refine ⟨fun _ => sp_191 hX (by omega) (by omega) (by omega) (fun q hq => ⟨fz_in (by omega) (by omega), ?_⟩), fun _ => sp_191 hX (by omega) (by omega) (by omega) (fun q hq => ⟨fz_in (by omega) (by omega), ?_⟩)⟩
    · try simp (disch := omega) only [nI_add, fz_t, h0, fz_an]
      exact hk y (1 + q) hy (by omega) (by omega)
    · try simp (disch := omega) only [nI_add, fz_t, h0, fz_an]
      exact hk y (60 + q) hy (by omega) (by omega)
theorem sp_193 (hI : fj_I N A o fc M mi) (hX : X.1 < 2147483640) {i : Nat} (hi : i < 100000) (H : ∀ N' A' o' fc', fj_I N' A' o' fc' M mi → N'.2.2.2 ≤ N.2.2.2 + 1 → K (nI 1) N') : fm_Ci (fm_PP X) 193 [.inl (.ref 1), .inl (.ref 0), .inl (.ref 999999), .inl (.int (nI i))] (N, fm_SH) K X' := by
  have h0 := hI.2.1.2.1.1
  have t0 := hI.2.1.2.1.2.1
  have h8 := hI.2.1.2.1.2.2.1
  have t4 := hI.2.1.2.1.2.2.2.1
  have hn := hI.1.1.1
  have ht := hI.1.1.2.1
  have n1 := hI.1.1.2.2.2.2.1.1
  generalize hnn : fg_n (fk_gG N) = n at h0 h8 hn n1
  generalize htt : fg_t (fk_gG N) = t at t0 t4 ht
  refine fe_193 X _ N K X' ?_
  simp (disch := omega) only [nI_add, fz_t, h0]
  refine ⟨fz_in (by omega) (by omega), sp_191 hX (by omega) (by omega) (by omega) (fun u hu => ?_)⟩
  simp (disch := omega) only [nI_add, fz_t, h0]
  refine ⟨fz_in (by omega) (by omega), sp_191 hX (by omega) (by omega) (by omega) (fun v hv => sp_191 hX (by omega) (by omega) (by omega) (fun y hy => ?_))⟩
  simp (disch := omega) only [nI_add, fz_t, t0]
  rw [fz_eq (a := u) (b := v) (by omega) (by omega), fz_eq (a := t) (b := 4) (by omega) (by omega)]
  refine ⟨fun z => ?_, fun z => ⟨fz_in (by omega) (by omega), fun z4 => ?_, fun z4 => ?_⟩⟩
  · subst z
    exact sw_174s hn (by omega) hu ⟨fun _ => fj_yes rfl (H _ _ _ _ hI.g (Nat.le_refl _)), fun z => absurd rfl z⟩
  · subst z4
    exact sw_174f hn (by omega) ht hu hv z (fj_rgI (by omega) (by omega) (by omega)) ⟨fun y => absurd y z, fun _ => fj_yes rfl (H _ _ _ _ hI.g (Nat.le_refl _))⟩
  · obtain ⟨q1, q2, q3⟩ := fj_tie (u := u) (v := v) (w := nI (1 + y)) hI htt (by omega) (by rw [hnn]; exact hu) (by rw [hnn]; exact hv) z
    refine fb_193_82 X _ _ _ _ _ N _ ?_
    simp (disch := omega) only [nI_add, pk_mul, fz_t, t0, fz_an]
    refine ⟨fz_in (by omega) (by omega), fz_in (by omega) (by omega), fz_in (by omega) (by omega), fz_in (by omega) (by omega), fz_in (by omega) (by omega), fz_in (by omega) (by omega), fb_193_121 X _ _ _ _ _ _ _ ?_⟩
    simp (disch := omega) only [nI_add, fz_t, t0, fz_an]
    refine ⟨fz_in (by omega) (by omega), fz_in (by omega) (by omega), sw_174 (n := n) (t := t) (A := A) (o := o) (fc := fc) ?_ (by omega) ?_ (by omega) hu hv z (fj_rgI (by omega) (by omega) (by omega)) q1 q2 (fk_ic_A0 hI.1) (fun N2 A' o' fc' b1 b2 b3 => ?_)⟩
    · simp (disch := omega) only [fz_ne]
      exact hn
    · simp (disch := omega) only [fz_ne]
      exact ht
    · obtain ⟨r1, r2⟩ := q3 N2 A' o' fc' b1 b2 b3
      have r0 : N2.1 0 1 = nI (t + 1) := by
        rw [b1.1 0 rfl]
        simp (disch := omega) only [fz_ne, fz_ae]
      simp (disch := omega) only [fz_t, r0, fz_sub, Nat.add_sub_cancel]
      refine ⟨fz_in (by omega) (by omega), fun _ => ⟨Or.inr trivial, rfl, H _ _ _ _ r1 ?_⟩, fun z => absurd trivial z⟩
      rw [b1.2]
      exact Nat.le_succ _
end LND
