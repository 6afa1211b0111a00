/-! the law: a deed -/
theorem fl_G_0 {N Y : fm_N} {G : fg_G} (h : fl_G N G) (e : Y.1 0 = N.1 0) : fl_G Y G := by
  unfold fl_G at h ⊢
  rw [e]
  exact h
theorem fk_gG_c {N N' : fm_N} (h : ∀ c, c ≠ 0 → N'.1 c = N.1 c) : fk_gG N' = fk_gG N := fk_gG_same (h 4 (by omega)) (h 5 (by omega)) (h 6 (by omega)) (h 10 (by omega)) (h 11 (by omega)) (h 12 (by omega)) (fun i => by rw [h 8 (by omega)])
section LDO
variable {X : Nat × (Nat → Int32)} {N : fm_N} {A : fg_A} {o : Nat → Nat} {fc M mi n u v L : Nat} {x y w : Int32} {K : Int32 → fm_N → Prop} {X' : Nat → fm_N → Prop} {Q : fm_O → fm_M → Prop}
/-- how many are fed, and the fuse is replaced -/
theorem lp_491 {F : Nat → Bool} {N : fm_N} (h0 : N.1 0 0 = nI n) (h8 : n ≤ 8) (h4 : ∀ i, i < 8 → N.1 0 (400 + i) = fz_b (F i)) {u : Int32} {o2 o3 : Option fm_V}
    (kk : fm_Ci (fm_PP X) 183 [.inl (.ref 1), .inl (.int u)] (N, fm_SH) (fun r2 N1 => ((r2 = nI (fg_cn F n) → (((nI 1) = nI 0 ∨ (nI 1) = nI 1) ∧ Q (.inl (some (.inl (.int (nI 1))))) (N1, fm_SH))) ∧ (¬ (r2 = nI (fg_cn F n)) → (((nI 0) = nI 0 ∨ (nI 0) = nI 1) ∧ Q (.inl (some (.inl (.int (nI 0))))) (N1, fm_SH))))) (fun e4 N3 => Q (.inr e4) (N3, fm_SH))) :
    ∀ m k (o7 : Option fm_V), n - k = m → k ≤ n → fm_Ev (fm_PP X) 201 (491, [some (.inl (.ref 1)), some (.inl (.ref 0)), o2, o3, some (.inl (.int u)), some (.inl (.int (nI (fg_cn F k)))), some (.inl (.int (nI k))), o7], [], (N, fm_SH)) Q := by
  intro m
  induction m with
  | zero =>
    intro k o7 hm hk
    have e : k = n := by omega
    subst e
    refine fb_201_491 X _ _ _ _ _ _ N Q ?_
    rw [fz_t (by omega : (0 : Nat) < 2147483648), h0, fz_le (by omega) (by omega)]
    exact ⟨fz_in (by omega) (by omega), fun _ => kk, fun z => absurd (Nat.le_refl _) z⟩
  | succ m ih =>
    intro k o7 hm hk
    refine fb_201_491 X _ _ _ _ _ _ N Q ?_
    rw [fz_t (by omega : (0 : Nat) < 2147483648), h0, fz_le (by omega) (by omega), nI_add, nI_add, fz_t (by omega : 400 + k < 2147483648), h4 k (by omega)]
    refine ⟨fz_in (by omega) (by omega), fun z => absurd z (by omega), fun _ => ⟨fz_in (by omega) (by omega), ?_⟩⟩
    have e : nI (fg_cn F k) + fz_b (F k) = nI (fg_cn F (k + 1)) := by
      show _ = nI (fg_cn F k + (if F k = true then 1 else 0))
      rw [← nI_add]
      cases F k <;> rfl
    rw [e]
    exact ih (k + 1) o7 (by omega) (by omega)
theorem lp_201f (hI : fj_I N A o fc M mi) (hu : u < fg_n (fk_gG N)) (h0 : u ≠ 0) (h9 : ¬ N.1 0 (150 + u) = nI 0) (H : ∀ N' A' o' fc', fj_I N' A' o' fc' M mi → N'.2.2.2 ≤ N.2.2.2 → K (nI 1) N') {o2 o3 o7 : Option fm_V} {X2 : Nat → fm_N → Prop} :
    fm_Cv (fm_PP X) 195 [.inl (.ref 0)] ((fm_uI (fm_uI N.1 0 (150 + u) (nI 0)) 0 (130 + u) (nI 0), N.2), fm_SH) (fun N25 => fm_Ev (fm_PP X) 201 (491, [some (.inl (.ref 1)), some (.inl (.ref 0)), o2, o3, some (.inl (.int (nI u))), some (.inl (.int (nI 0))), some (.inl (.int (nI 0))), o7], [], (N25, fm_SH)) (fm_Qi fm_SH K X')) X2 := by
  obtain ⟨ic, hT, hb⟩ := hI
  have hG := ic.1
  have hn := hG.1
  have h8 := hT.2.1.2.2.1
  have c := fl_Gc_of hG hT.2.1
  have hu8 : u < 8 := by omega
  -- the net, and the class as it will be
  have hGa : fk_G (fm_uI (fm_uI N.1 0 (150 + u) (nI 0)) 0 (130 + u) (nI 0), N.2) (fk_gG (fm_uI (fm_uI N.1 0 (150 + u) (nI 0)) 0 (130 + u) (nI 0), N.2)) := by
    have hF : fx_F [0] N (fm_uI (fm_uI N.1 0 (150 + u) (nI 0)) 0 (130 + u) (nI 0), N.2) := ((fx_F.rf _ N).up rfl).up rfl
    rw [fk_gG_c (N := N) (fun c hc => by simp (disch := omega) only [fz_ne])]
    exact hG.fr hF ⟨rfl, rfl, rfl, rfl, rfl, rfl, rfl⟩
  have hGc := fj_fuseG (u := u) hGa
  have hnc := fj_fuseN (N := (fm_uI (fm_uI N.1 0 (150 + u) (nI 0)) 0 (130 + u) (nI 0), N.2)) (u := u)
  have hna : fg_n (fk_gG (fm_uI (fm_uI N.1 0 (150 + u) (nI 0)) 0 (130 + u) (nI 0), N.2)) = fg_n (fk_gG N) := by rw [fk_gG_c (N := N) (fun c hc => by simp (disch := omega) only [fz_ne])]
  rw [hna] at hnc
  have gcc : fl_Gc (fm_uI (fm_uI (fm_uI (fm_uI N.1 0 (150 + u) (nI 0)) 0 (130 + u) (nI 0)) 9 u (nI 0)) 8 u (nI 0), N.2) := by
    refine ⟨?_, ?_, fun i hi => ?_, fun q hq => ?_⟩
    · simp (disch := omega) only [fz_an, fz_ae, fz_ne]; exact c.1
    · simp (disch := omega) only [fz_an, fz_ae, fz_ne]; exact c.2.1
    · by_cases z : i = u
      · subst z
        simp (disch := omega) only [fz_an, fz_ae, fz_ne]
        exact ⟨(c.2.2.1 i hi).1, trivial, (c.2.2.1 i hi).2.2⟩
      · simp (disch := omega) only [fz_an, fz_ae, fz_ne]; exact c.2.2.1 i hi
    · simp (disch := omega) only [fz_an, fz_ae, fz_ne]; exact c.2.2.2 q hq
  have hGl : fl_G (fm_uI (fm_uI N.1 0 (150 + u) (nI 0)) 0 (130 + u) (nI 0), N.2) (fk_gG (fm_uI (fm_uI (fm_uI (fm_uI N.1 0 (150 + u) (nI 0)) 0 (130 + u) (nI 0)) 9 u (nI 0)) 8 u (nI 0), N.2)) := fl_G_0 (fl_G_of hGc (by rw [hnc]; exact h8) gcc) (by simp (disch := omega) only [fz_ne])
  refine sp_195 hGl (fun i hi hin => ?_) (fun N25 A1 a1 a2 a3 a4 => ?_)
  · rw [hnc] at hin
    simp (disch := omega) only [fz_an]
    exact hT.2.2.2.1 i hi hin
  · have e25 : ∀ c, c ≠ 0 → N25.1 c = N.1 c := fun c hc => by
      rw [a1.1 c hc]
      simp (disch := omega) only [fz_ne]
    have n25 : ∀ j, j < 400 → j ≠ 130 + u → j ≠ 150 + u → N25.1 0 j = N.1 0 j := fun j hj h1 h2 => by
      rw [a1.2.1 j hj]
      simp (disch := omega) only [fz_an]
    have hn25 : N25.1 0 0 = nI (fg_n (fk_gG N)) := by rw [n25 0 (by omega) (by omega) (by omega)]; exact hT.2.1.1
    have ic25 : fk_ic N25 A o fc M := fk_ic_64 (fun c a _ => e25 c a) ic
    have hG1 := fj_fuseG (u := u) ic25.1
    have eG1 : fk_gG (fm_uI (fm_uI N25.1 9 u (nI 0)) 8 u (nI 0), N25.2) = fk_gG (fm_uI (fm_uI (fm_uI (fm_uI N.1 0 (150 + u) (nI 0)) 0 (130 + u) (nI 0)) 9 u (nI 0)) 8 u (nI 0), N.2) := fk_gG_c (fun c hc => by
      funext j
      show fm_uI (fm_uI N25.1 9 u (nI 0)) 8 u (nI 0) c j = fm_uI (fm_uI (fm_uI (fm_uI N.1 0 (150 + u) (nI 0)) 0 (130 + u) (nI 0)) 9 u (nI 0)) 8 u (nI 0) c j
      rw [fz_ui, fz_ui, fz_ui, fz_ui, e25 c hc, fz_ne _ _ hc, fz_ne _ _ hc])
    have hF1 : fx_F fj_gc N (fm_uI (fm_uI N25.1 9 u (nI 0)) 8 u (nI 0), N25.2) := by
      have h1 : fx_F fj_gc N N25 := ⟨fun c hc => e25 c (by intro e; subst e; cases hc), by rw [a1.2.2]⟩
      exact (h1.up rfl).up rfl
    have hn1 : fg_n (fk_gG (fm_uI (fm_uI N25.1 9 u (nI 0)) 8 u (nI 0), N25.2)) = fg_n (fk_gG N) := by rw [eG1]; exact hnc
    refine lp_491 (F := fg_F A1) hn25 h8 a2.1 ?_ _ 0 _ rfl (Nat.zero_le _)
    refine sw_183 (A := A) (o := o) (fc := fc) (by rw [e25 4 (by omega)]; exact hn) (by omega) hu h0 ?_ hG1 (ic25.2.1.fr (cs := [8, 9]) (((fx_F.rf _ N25).up rfl).up rfl) ⟨rfl, rfl, rfl, rfl, rfl, rfl, rfl⟩) (fk_ic_A0 ic) (fun N2 A' o' fc' b1 b2 b3 => ?_)
    · rw [e25 9 (by omega), ← (c.2.2.1 u hu8).2.1]; exact h9
    · have q7 : ∀ i, i < 12 → fz_bd 0 400 ((fm_uI (fm_uI N25.1 9 u (nI 0)) 8 u (nI 0), N25.2).1 7 i) := fun i hi => by
        simp (disch := omega) only [fz_ne]
        rw [e25 7 (by omega)]
        exact (ic.2.2.2.2.1.1 i hi).2.2
      have q8 : ∀ i, fz_bd 0 10000 ((fm_uI (fm_uI N25.1 9 u (nI 0)) 8 u (nI 0), N25.2).1 8 i) := fun i => by
        by_cases z : i = u
        · subst z
          simp (disch := omega) only [fz_ae]
          unfold fz_bd; decide
        · simp (disch := omega) only [fz_an, fz_ne]
          rw [e25 8 (by omega)]
          exact ic.2.2.2.2.2.2.2 i
      obtain ⟨r1, r2⟩ := fk_ic_rg ic hG1 hF1 b1 b2 b3 q7 q8
      have uq := fg_Fin_uniq hG1.2.2.2.2.1 b3 (by rw [eG1]; exact a4)
      have hAn := fj_An hG1 b3
      rw [hn1] at hAn
      have ecn : fg_cn (fg_F A') 12 = fg_cn (fg_F A1) (fg_n (fk_gG N)) := by
        rw [fg_cn_more (n := fg_n (fk_gG N)) 12 (by omega) (fun i h1 h2 => Bool.eq_false_iff.mpr fun z => by have := hAn i z; omega)]
        exact fg_cn_congr _ (fun i _ => uq.1 i)
      have hT1 : fl_T (fm_uI (fm_uI N25.1 9 u (nI 0)) 8 u (nI 0), N25.2) (fm_uI (fm_uI N25.1 9 u (nI 0)) 8 u (nI 0), N25.2) M mi := by
        refine fl_T_gr hT hG1 (by rw [hn1]; exact h8) ⟨?_, ?_, fun i hi => ?_, fun q hq => ?_⟩ (fun j hj => ?_) hF1 (fun i hi => ?_) (fun i hi => ?_) (fun i hi hin => ?_)
        · simp (disch := omega) only [fz_ne]
          rw [hn25, e25 4 (by omega)]; exact hn.symm
        · simp (disch := omega) only [fz_ne]
          rw [n25 1 (by omega) (by omega) (by omega), e25 4 (by omega)]; exact c.2.1
        · by_cases z : i = u
          · subst z
            simp (disch := omega) only [fz_an, fz_ae, fz_ne]
            rw [n25 (10 + i) (by omega) (by omega) (by omega), n25 (30 + i) (by omega) (by omega) (by omega), e25 5 (by omega), e25 6 (by omega), a1.2.1 (150 + i) (by omega)]
            simp (disch := omega) only [fz_an, fz_ae]
            exact ⟨(c.2.2.1 i hi).1, trivial, (c.2.2.1 i hi).2.2⟩
          · simp (disch := omega) only [fz_an, fz_ae, fz_ne]
            rw [n25 (10 + i) (by omega) (by omega) (by omega), n25 (30 + i) (by omega) (by omega) (by omega), n25 (150 + i) (by omega) (by omega) (by omega), e25 5 (by omega), e25 6 (by omega), e25 9 (by omega)]
            exact c.2.2.1 i hi
        · simp (disch := omega) only [fz_ne]
          rw [n25 (340 + 3 * q) (by omega) (by omega) (by omega), n25 (341 + 3 * q) (by omega) (by omega) (by omega), n25 (342 + 3 * q) (by omega) (by omega) (by omega), e25 10 (by omega), e25 11 (by omega), e25 12 (by omega)]
          exact c.2.2.2 q hq
        · simp (disch := omega) only [fz_ne]
          exact n25 j (by omega) (by omega) (by omega)
        · simp (disch := omega) only [fz_ne]
          rw [n25 (50 + i) (by omega) (by omega) (by omega), e25 7 (by omega)]
          exact (hT.1.2.2.1 i hi).1
        · by_cases z : i = u
          · subst z
            simp (disch := omega) only [fz_ae, fz_ne]
            rw [a1.2.1 (130 + i) (by omega)]
            simp (disch := omega) only [fz_ae]
          · simp (disch := omega) only [fz_an, fz_ne]
            rw [n25 (130 + i) (by omega) (by omega) (by omega), e25 8 (by omega)]
            exact (hT.2.2.1 i hi).2.1
        · rw [hn1] at hin
          simp (disch := omega) only [fz_ne]
          rw [a2.1 i hi, show fg_F A1 i = false from Bool.eq_false_iff.mpr fun z => by
            rw [← uq.1] at z
            have := hAn i z
            omega]
          rfl
      have hI2 : fj_I N2 A' o' fc' M mi := ⟨r1, hT1.cs b1, fun i hi => by rw [r2, hn1]; exact hb i hi⟩
      rw [b2.2.2.1, b2.2.2.2.2.2, ecn]
      refine fj_yes rfl ?_ (Or.inr rfl) rfl
      exact H _ _ _ _ hI2 (by rw [b1.2]; show N25.2.2.2 ≤ _; rw [a1.2.2]; exact Nat.le_refl _)
end LDO
