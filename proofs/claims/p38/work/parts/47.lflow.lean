/-! the law's curve, flow and voltage, each by itself again -/
/-- a curve as the law reckons it: kinds and numbers of the layers, the roof, layers, sun -/
def fl_cv (kd nu : Nat → Int32) (ro : Int32) : Nat → Int32 → Int32
  | 0, s => ro * s / nI 100
  | k + 1, s => if kd (k + 1) = nI 0 then fc_min (nu (k + 1)) (fl_cv kd nu ro k s) else if nu (k + 1) ≤ s then fl_cv kd nu ro k (s - nu (k + 1)) else nI 0
theorem fc_min_I (a b : Int32) : (fc_min a b).toInt = min a.toInt b.toInt := by
  unfold fc_min
  by_cases h : b < a
  · rw [if_pos h]
    rw [fz_ltI] at h
    omega
  · rw [if_neg h]
    rw [fz_ltI] at h
    omega
theorem fc_min_as (a b c : Int32) : fc_min (fc_min a b) c = fc_min a (fc_min b c) := by
  apply Int32.toInt_inj.mp
  simp only [fc_min_I]
  omega
theorem fl_cv_fc {kd nu : Nat → Int32} {sh : Nat → Bool} {nn : Nat → Int32} {ro : Int32} : ∀ (K : Nat) (left most : Int32), (∀ k, 1 ≤ k → k ≤ K → (kd k = nI 0 ↔ sh k = false) ∧ nu k = nn k) → ro = nn 0 → 0 ≤ most.toInt → (∀ k, k ≤ K → 0 ≤ (nn k).toInt) → fc_cv sh nn K left most = fc_min most (fl_cv kd nu ro K left) := by
  intro K
  induction K with
  | zero => intro left most h h0 hm hn; rw [h0]; rfl
  | succ K ih =>
    intro left most h h0 hm hn
    obtain ⟨q1, q2⟩ := h (K + 1) (by omega) (Nat.le_refl _)
    unfold fc_cv fl_cv
    cases hs : sh (K + 1)
    · rw [if_neg (by decide), if_pos (q1.mpr hs), ih _ _ (fun k a b => h k a (by omega)) h0 (by rw [fc_min_I]; have := hn (K + 1) (Nat.le_refl _); omega) (fun k hk => hn k (by omega)), q2, fc_min_as]
    · rw [if_pos rfl, if_neg (c := kd (K + 1) = nI 0) (fun z => by rw [q1.mp z] at hs; cases hs), q2]
      split
      · exact ih _ _ (fun k a b => h k a (by omega)) h0 hm (fun k hk => hn k (by omega))
      · apply Int32.toInt_inj.mp
        rw [fc_min_I, fz_nI (by omega)]
        omega
theorem fl_cv_bd {kd nu : Nat → Int32} {ro : Int32} : ∀ (K : Nat) (left : Int32), (∀ k, 1 ≤ k → k ≤ K → fz_bd 0 200 (nu k)) → fz_bd 0 200 ro → fz_bd 0 100 left → fz_bd 0 200 (fl_cv kd nu ro K left) := by
  intro K
  induction K with
  | zero =>
    intro left hn hr hl
    obtain ⟨p, q⟩ := hr
    obtain ⟨r, s⟩ := hl
    have h0 : 0 ≤ ro.toInt * left.toInt := Int.mul_nonneg p r
    have h1 : ro.toInt * left.toInt ≤ 200 * 100 := Int.mul_le_mul q s r (by decide)
    have e : (ro * left).toInt = ro.toInt * left.toInt := Jvm.Kit.i32_mul (by omega) (by omega)
    have e2 : (ro * left / nI 100).toInt = (ro.toInt * left.toInt).tdiv 100 := by
      rw [Jvm.Kit.i32_div (by rw [fz_nI (by omega)]; omega), e, fz_nI (by omega)]
      rfl
    show fz_bd 0 200 (ro * left / nI 100)
    generalize ro.toInt * left.toInt = z at *
    rw [Int.tdiv_eq_ediv_of_nonneg h0] at e2
    exact ⟨by rw [e2]; omega, by rw [e2]; omega⟩
  | succ K ih =>
    intro left hn hr hl
    unfold fl_cv
    split
    · exact fz_bd_min (hn (K + 1) (by omega) (Nat.le_refl _)) (ih _ (fun k a b => hn k a (by omega)) hr hl)
    · split
      · rename_i z
        rw [fz_leI] at z
        obtain ⟨p, q⟩ := hn (K + 1) (by omega) (Nat.le_refl _)
        obtain ⟨r, s⟩ := hl
        have e : (left - nu (K + 1)).toInt = left.toInt - (nu (K + 1)).toInt := Jvm.Kit.i32_sub (by omega) (by omega)
        exact ih _ (fun k a b => hn k a (by omega)) hr ⟨by rw [e]; omega, by rw [e]; omega⟩
      · exact ⟨by rw [fz_nI (by omega)]; decide, by rw [fz_nI (by omega)]; decide⟩
/-- the law's net tells the same of the currents as the class's cells in R -/
def fl_D (R N : fm_N) : Prop := N.1 0 2 = R.1 1 7 ∧ N.1 0 3 = R.1 1 8 ∧ (∀ i, i < 8 → N.1 0 (50 + i) = R.1 7 i ∧ N.1 0 (70 + i) = R.1 62 i ∧ N.1 0 (90 + i) = R.1 22 i) ∧
  ∀ u, u < 8 → ∃ L, L ≤ 4 ∧ R.1 (fm_pc 0 u) 2 = nI (L + 1) ∧ N.1 0 (210 + u) = nI L ∧ N.1 0 (190 + u) = R.1 (fm_pc 2 u) 0 ∧ ∀ k, 1 ≤ k → k ≤ L → N.1 0 (228 + 8 * u + 2 * k + 1) = R.1 (fm_pc 2 u) k ∧ (N.1 0 (228 + 8 * u + 2 * k) = nI 0 ↔ R.1 (fm_pc 1 u) k = nI 0)
theorem fl_D.fr {R N N' : fm_N} (h : fl_D R N) (hF : fl_F 400 N N') : fl_D R N' := by
  obtain ⟨h1, h2, h3, h4⟩ := h
  have e := hF.2.1
  refine ⟨by rw [e 2 (by omega)]; exact h1, by rw [e 3 (by omega)]; exact h2, fun i hi => ?_, fun u hu => ?_⟩
  · rw [e (50 + i) (by omega), e (70 + i) (by omega), e (90 + i) (by omega)]; exact h3 i hi
  · obtain ⟨L, q1, q2, q3, q4, q5⟩ := h4 u hu
    refine ⟨L, q1, q2, by rw [e (210 + u) (by omega)]; exact q3, by rw [e (190 + u) (by omega)]; exact q4, fun k a b => ?_⟩
    rw [e (228 + 8 * u + 2 * k + 1) (by omega), e (228 + 8 * u + 2 * k) (by omega)]
    exact q5 k a b
def fl_CU (X : Nat × (Nat → Int32)) (m d : Nat) : Prop := ∀ (N : fm_N) (u L : Nat) (s : Int32) (K : Int32 → fm_N → Prop) (X' : Nat → fm_N → Prop), u < 8 → L ≤ 4 → L + 1 ≤ d → K (fl_cv (fun k => N.1 0 (228 + 8 * u + 2 * k)) (fun k => N.1 0 (228 + 8 * u + 2 * k + 1)) (N.1 0 (190 + u)) L s) N → fm_Ci (fm_PP X) m [.inl (.ref 0), .inl (.int (nI u)), .inl (.int (nI L)), .inl (.int s)] (N, fm_SH) K X'
abbrev fl_e_curve (X : Nat × (Nat → Int32)) (M C : Nat) : Prop := ∀ (x1 : Int32) (x2 : Int32) (x3 : Int32) (N : fm_N) (K : Int32 → fm_N → Prop) (X' : Nat → fm_N → Prop), ((x2 = nI 0 → (fm_inb ((nI 190) + x1) 500 ∧ (fm_SH = fm_SH ∧ K (((N.1 0 (((nI 190) + x1).toNatClampNeg)) * x3) / (nI 100)) N))) ∧ (¬ (x2 = nI 0) → (fm_inb ((((nI 228) + ((nI 8) * x1)) + ((nI 2) * x2)) + (nI 1)) 500 ∧ (fm_inb (((nI 228) + ((nI 8) * x1)) + ((nI 2) * x2)) 500 ∧ (((N.1 0 ((((nI 228) + ((nI 8) * x1)) + ((nI 2) * x2)).toNatClampNeg)) = nI 0 → fm_Ci (fm_PP X) C [.inl (.ref 0), .inl (.int x1), .inl (.int (x2 - (nI 1))), .inl (.int x3)] (N, fm_SH) (fun r6 N5 => fm_Ci (fm_PP X) 171 [.inl (.int (N.1 0 (((((nI 228) + ((nI 8) * x1)) + ((nI 2) * x2)) + (nI 1)).toNatClampNeg))), .inl (.int r6)] (N5, fm_SH) (fun r8 N7 => (fm_SH = fm_SH ∧ K r8 N7)) (fun e10 N9 => (fm_SH = fm_SH ∧ X' e10 N9))) (fun e12 N11 => (fm_SH = fm_SH ∧ X' e12 N11))) ∧ (¬ ((N.1 0 ((((nI 228) + ((nI 8) * x1)) + ((nI 2) * x2)).toNatClampNeg)) = nI 0) → (((N.1 0 (((((nI 228) + ((nI 8) * x1)) + ((nI 2) * x2)) + (nI 1)).toNatClampNeg)) ≤ x3 → fm_Ci (fm_PP X) C [.inl (.ref 0), .inl (.int x1), .inl (.int (x2 - (nI 1))), .inl (.int (x3 - (N.1 0 (((((nI 228) + ((nI 8) * x1)) + ((nI 2) * x2)) + (nI 1)).toNatClampNeg))))] (N, fm_SH) (fun r2 N1 => (fm_SH = fm_SH ∧ K r2 N1)) (fun e4 N3 => (fm_SH = fm_SH ∧ X' e4 N3))) ∧ (¬ ((N.1 0 (((((nI 228) + ((nI 8) * x1)) + ((nI 2) * x2)) + (nI 1)).toNatClampNeg)) ≤ x3) → (fm_SH = fm_SH ∧ K (nI 0) N))))))))) → fm_Ci (fm_PP X) M [.inl (.ref 0), .inl (.int x1), .inl (.int x2), .inl (.int x3)] (N, fm_SH) K X'
theorem cu_gen {X : Nat × (Nat → Int32)} {M C d : Nat} (he : fl_e_curve X M C) (ih : fl_CU X C d) : fl_CU X M (d + 1) := by
  intro N u L s K X' hu hL hd h
  refine he _ _ _ N K X' ?_
  cases L with
  | zero =>
    simp (disch := omega) only [pk_mul, nI_add, fz_t]
    exact ⟨fun _ => ⟨fz_in (by omega) (by omega), trivial, h⟩, fun z => absurd trivial z⟩
  | succ L =>
    unfold fl_cv at h
    simp (disch := omega) only [pk_mul, nI_add, fz_t, fz_sub, fz_eq, Nat.add_sub_cancel]
    refine ⟨fun z => absurd z (by omega), fun _ => ⟨fz_in (by omega) (by omega), fz_in (by omega) (by omega), fun hk => ?_, fun hk => ⟨fun hs => ?_, fun hs => ?_⟩⟩⟩
    · rw [if_pos hk] at h
      exact ih N u L s _ _ hu (by omega) (by omega) (sp_171 ⟨trivial, h⟩)
    · rw [if_neg hk, if_pos hs] at h
      exact ih N u L _ _ _ hu (by omega) (by omega) ⟨trivial, h⟩
    · rw [if_neg hk, if_neg hs] at h
      exact ⟨trivial, h⟩
section FLC
variable {X : Nat × (Nat → Int32)}
theorem cu_0 : fl_CU X 204 0 := fun N u L s K X' hu hL hd h => by omega
theorem cu_1 : fl_CU X 205 1 := cu_gen (fun x1 x2 x3 N K X' h => fe_205 X x1 x2 x3 N K X' h) cu_0
theorem cu_2 : fl_CU X 206 2 := cu_gen (fun x1 x2 x3 N K X' h => fe_206 X x1 x2 x3 N K X' h) cu_1
theorem cu_3 : fl_CU X 207 3 := cu_gen (fun x1 x2 x3 N K X' h => fe_207 X x1 x2 x3 N K X' h) cu_2
theorem cu_4 : fl_CU X 208 4 := cu_gen (fun x1 x2 x3 N K X' h => fe_208 X x1 x2 x3 N K X' h) cu_3
theorem cu_5 : fl_CU X 209 5 := cu_gen (fun x1 x2 x3 N K X' h => fe_209 X x1 x2 x3 N K X' h) cu_4
theorem cu_6 : fl_CU X 210 6 := cu_gen (fun x1 x2 x3 N K X' h => fe_210 X x1 x2 x3 N K X' h) cu_5
/-- the curve of a roof is the class's -/
theorem sp_210 {R N : fm_N} {u : Nat} {K : Int32 → fm_N → Prop} {X' : Nat → fm_N → Prop} (hD : fl_D R N) (hr : fk_rng R) (hu : u < 8) (h : K (fk_cv R u (R.1 1 8)) N) : fm_Ci (fm_PP X) 210 [.inl (.ref 0), .inl (.int (nI u)), .inl (.int (N.1 0 (210 + u))), .inl (.int (N.1 0 3))] (N, fm_SH) K X' := by
  obtain ⟨h1, h2, h3, h4⟩ := hD
  obtain ⟨L, q1, q2, q3, q4, q5⟩ := h4 u hu
  rw [q3, h2]
  refine cu_6 N u L _ K X' hu q1 (by omega) ?_
  have e : fk_cv R u (R.1 1 8) = fl_cv (fun k => N.1 0 (228 + 8 * u + 2 * k)) (fun k => N.1 0 (228 + 8 * u + 2 * k + 1)) (N.1 0 (190 + u)) L (R.1 1 8) := by
    unfold fk_cv
    rw [q2, fz_t (by omega), Nat.add_sub_cancel]
    have b : fz_bd 0 200 (fl_cv (fun k => N.1 0 (228 + 8 * u + 2 * k)) (fun k => N.1 0 (228 + 8 * u + 2 * k + 1)) (N.1 0 (190 + u)) L (R.1 1 8)) := fl_cv_bd L _ (fun k a b => by show fz_bd 0 200 (N.1 0 (228 + 8 * u + 2 * k + 1)); rw [(q5 k a b).1]; exact hr.2.2 u (by omega) k (by omega)) (by rw [q4]; exact hr.2.2 u (by omega) 0 (by omega)) hr.2.1
    rw [fl_cv_fc (kd := fun k => N.1 0 (228 + 8 * u + 2 * k)) (nu := fun k => N.1 0 (228 + 8 * u + 2 * k + 1)) (ro := N.1 0 (190 + u)) L _ (nI 200) (fun k a b => ⟨?_, (q5 k a b).1⟩) q4 (by rw [fz_nI (by omega)]; omega) (fun k hk => (hr.2.2 u (by omega) k (by omega)).1)]
    · apply Int32.toInt_inj.mp
      rw [fc_min_I, fz_nI (by omega)]
      have := b.2
      omega
    · rw [(q5 k a b).2]
      simp
  rw [← e]
  exact h
end FLC
/-- a call of the law's 'flow' -/
def fl_FL (X : Nat × (Nat → Int32)) (m d : Nat) : Prop := ∀ (R N : fm_N) (G : fg_G) (A : fg_A) (o : Nat → Nat) (fc on k : Nat) (K : Int32 → fm_N → Prop) (X' : Nat → fm_N → Prop), fl_D R N → fk_rng R → fl_G N G → fl_S N A → ft_ok (fg_F A) o (fg_D A) fc → (∀ u, fg_F A u = true → u < fg_n G) → on < 4096 → k < fc → fc - k ≤ d → K (fk_fl R A o fc on.testBit (o k)) N → fm_Ci (fm_PP X) m [.inl (.ref 0), .inl (.int (nI (o k))), .inl (.int (nI on))] (N, fm_SH) K X'
abbrev fl_e_flow (X : Nat × (Nat → Int32)) (M C : Nat) : Prop := ∀ (x1 : Int32) (x2 : Int32) (N : fm_N) (K : Int32 → fm_N → Prop) (X' : Nat → fm_N → Prop), (fm_inb ((nI 70) + x1) 500 ∧ ((((x2 >>> (x1 &&& 31)) &&& (nI 1)) = (nI 1) → (fm_inb ((nI 90) + x1) 500 ∧ (fm_inb ((nI 210) + x1) 500 ∧ (fm_inb (nI 3) 500 ∧ fm_Ci (fm_PP X) 210 [.inl (.ref 0), .inl (.int x1), .inl (.int (N.1 0 (((nI 210) + x1).toNatClampNeg))), .inl (.int (N.1 0 ((nI 3).toNatClampNeg)))] (N, fm_SH) (fun r6 N5 => fm_Ev (fm_PP X) M (46, [some (.inl (.ref 0)), some (.inl (.int x1)), some (.inl (.int x2)), some (.inl (.int (((N.1 0 (((nI 70) + x1).toNatClampNeg)) + (N.1 0 (((nI 90) + x1).toNatClampNeg))) - r6))), some (.inl (.int (nI 0)))], [], (N5, fm_SH)) (fm_Qi fm_SH K X')) (fun e8 N7 => (fm_SH = fm_SH ∧ X' e8 N7)))))) ∧ (¬ (((x2 >>> (x1 &&& 31)) &&& (nI 1)) = (nI 1)) → (fm_inb ((nI 210) + x1) 500 ∧ (fm_inb (nI 3) 500 ∧ fm_Ci (fm_PP X) 210 [.inl (.ref 0), .inl (.int x1), .inl (.int (N.1 0 (((nI 210) + x1).toNatClampNeg))), .inl (.int (N.1 0 ((nI 3).toNatClampNeg)))] (N, fm_SH) (fun r2 N1 => fm_Ev (fm_PP X) M (46, [some (.inl (.ref 0)), some (.inl (.int x1)), some (.inl (.int x2)), some (.inl (.int (((N.1 0 (((nI 70) + x1).toNatClampNeg)) + (nI 0)) - r2))), some (.inl (.int (nI 0)))], [], (N1, fm_SH)) (fm_Qi fm_SH K X')) (fun e4 N3 => (fm_SH = fm_SH ∧ X' e4 N3))))))) → fm_Ci (fm_PP X) M [.inl (.ref 0), .inl (.int x1), .inl (.int x2)] (N, fm_SH) K X'
abbrev fl_b_flow (X : Nat × (Nat → Int32)) (M C : Nat) : Prop := ∀ (x1 : Int32) (x2 : Int32) (x3 : Int32) (x4 : Int32) (N : fm_N) (Q : fm_O → fm_M → Prop), (fm_inb (nI 0) 500 ∧ (((N.1 0 ((nI 0).toNatClampNeg)) ≤ x4 → Q (.inl (some (.inl (.int x3)))) (N, fm_SH)) ∧ (¬ ((N.1 0 ((nI 0).toNatClampNeg)) ≤ x4) → (fm_inb ((nI 400) + x4) 500 ∧ (((N.1 0 (((nI 400) + x4).toNatClampNeg)) = (nI 1) → ((x4 = nI 0 → fm_Ev (fm_PP X) M (46, [some (.inl (.ref 0)), some (.inl (.int x1)), some (.inl (.int x2)), some (.inl (.int (x3 + (nI 0)))), some (.inl (.int (x4 + (nI 1))))], [], (N, fm_SH)) Q) ∧ (¬ (x4 = nI 0) → (fm_inb ((nI 420) + x4) 500 ∧ (((N.1 0 (((nI 420) + x4).toNatClampNeg)) = x1 → fm_Ci (fm_PP X) C [.inl (.ref 0), .inl (.int x4), .inl (.int x2)] (N, fm_SH) (fun r2 N1 => fm_Ev (fm_PP X) M (46, [some (.inl (.ref 0)), some (.inl (.int x1)), some (.inl (.int x2)), some (.inl (.int (x3 + r2))), some (.inl (.int (x4 + (nI 1))))], [], (N1, fm_SH)) Q) (fun e4 N3 => Q (.inr e4) (N3, fm_SH))) ∧ (¬ ((N.1 0 (((nI 420) + x4).toNatClampNeg)) = x1) → fm_Ev (fm_PP X) M (46, [some (.inl (.ref 0)), some (.inl (.int x1)), some (.inl (.int x2)), some (.inl (.int (x3 + (nI 0)))), some (.inl (.int (x4 + (nI 1))))], [], (N, fm_SH)) Q)))))) ∧ (¬ ((N.1 0 (((nI 400) + x4).toNatClampNeg)) = (nI 1)) → fm_Ev (fm_PP X) M (46, [some (.inl (.ref 0)), some (.inl (.int x1)), some (.inl (.int x2)), some (.inl (.int (x3 + (nI 0)))), some (.inl (.int (x4 + (nI 1))))], [], (N, fm_SH)) Q)))))) → fm_Ev (fm_PP X) M (46, [some (.inl (.ref 0)), some (.inl (.int x1)), some (.inl (.int x2)), some (.inl (.int x3)), some (.inl (.int x4))], [], (N, fm_SH)) Q
theorem fl_gen {X : Nat × (Nat → Int32)} {M C d : Nat} (he : fl_e_flow X M C) (hb : fl_b_flow X M C) (ih : fl_FL X C d) : fl_FL X M (d + 1) := by
  intro R N G A o fc on k K X' hD hr hG hS ok hn hon hk hd h
  have h8 := hG.2.2.1
  have hFk := (ok.2.1 k hk).1
  have hkn := hn _ hFk
  have hk8 : o k < 8 := by omega
  have loop : ∀ m c (x3 : Int32), fg_n G - c = m → c ≤ fg_n G → x3 = fk_net R on.testBit (o k) + fs_m (fun c => if fg_F A c = true ∧ c ≠ 0 ∧ fg_D A c = o k then fk_fl R A o fc on.testBit c else 0) c →
      fm_Ev (fm_PP X) M (46, [some (.inl (.ref 0)), some (.inl (.int (nI (o k)))), some (.inl (.int (nI on))), some (.inl (.int x3)), some (.inl (.int (nI c)))], [], (N, fm_SH)) (fm_Qi fm_SH K X') := by
    intro m
    induction m with
    | zero =>
      intro c x3 hm hc hx
      have e : c = fg_n G := by omega
      subst e
      rw [hx]
      refine hb _ _ _ _ N _ ?_
      simp (disch := omega) only [fz_t, hG.1, fz_le]
      refine ⟨fz_in (by omega) (by omega), fun _ => ⟨rfl, ?_⟩, fun z => absurd (Nat.le_refl _) z⟩
      have e : fk_fl R A o fc on.testBit (o k) = _ := ft_rec (w := fk_net R on.testBit) ok hn hk
      rw [e] at h
      exact h
    | succ m ihm =>
      intro c x3 hm hc hx
      have hc8 : c < 8 := by omega
      have step : ∀ v, v = (if fg_F A c = true ∧ c ≠ 0 ∧ fg_D A c = o k then fk_fl R A o fc on.testBit c else 0) → fm_Ev (fm_PP X) M (46, [some (.inl (.ref 0)), some (.inl (.int (nI (o k)))), some (.inl (.int (nI on))), some (.inl (.int (x3 + v))), some (.inl (.int (nI (c + 1))))], [], (N, fm_SH)) (fm_Qi fm_SH K X') := fun v hv =>
        ihm (c + 1) (x3 + v) (by omega) (by omega) (by rw [hx, hv, Int32.add_assoc]; rfl)
      have no : ¬ (fg_F A c = true ∧ c ≠ 0 ∧ fg_D A c = o k) → fm_Ev (fm_PP X) M (46, [some (.inl (.ref 0)), some (.inl (.int (nI (o k)))), some (.inl (.int (nI on))), some (.inl (.int (x3 + nI 0))), some (.inl (.int (nI (c + 1))))], [], (N, fm_SH)) (fm_Qi fm_SH K X') := fun z => step _ (by rw [if_neg z]; exact nI_0)
      refine hb _ _ _ _ N _ ?_
      simp (disch := omega) only [fz_t, hG.1, fz_le, nI_add, hS.1 c hc8, fz_b1e, fz_eq]
      refine ⟨fz_in (by omega) (by omega), fun z => absurd z (by omega), fun _ => ⟨fz_in (by omega) (by omega), fun hF => ⟨fun h0 => no (fun z => z.2.1 h0), fun h0 => ⟨fz_in (by omega) (by omega), ?_⟩⟩, fun hF => no (fun z => hF z.1)⟩⟩
      obtain ⟨q, hq, hoq⟩ := ok.2.2.2.1 c hF
      have hq0 : q ≠ 0 := fun y => h0 (by rw [← hoq, y]; exact ok.1.2.2)
      obtain ⟨j, hj, hoj⟩ := ok.2.2.2.2 q (by omega) hq
      have hD12 : fg_D A c < 12 := by rw [← hoq, ← hoj]; exact (ok.2.1 j (by omega)).2
      rw [(hS.2.1 c hc8 hF).1 h0, fz_eq (by omega) (by omega)]
      refine ⟨fun hDc => ?_, fun hDc => no (fun z => hDc z.2.2)⟩
      obtain ⟨q', hq', hoq', hlt⟩ := ft_later ok hk hF h0 hDc
      have hgo := ih R N G A o fc on q' (fun r2 N1 => fm_Ev (fm_PP X) M (46, [some (.inl (.ref 0)), some (.inl (.int (nI (o k)))), some (.inl (.int (nI on))), some (.inl (.int (x3 + r2))), some (.inl (.int (nI (c + 1))))], [], (N1, fm_SH)) (fm_Qi fm_SH K X')) (fun e4 N3 => fm_Qi fm_SH K X' (.inr e4) (N3, fm_SH)) hD hr hG hS ok hn hon hq' (by omega) (step _ (by rw [if_pos ⟨hF, h0, hDc⟩, hoq']))
      rw [hoq'] at hgo
      exact hgo
  obtain ⟨-, d2, d3⟩ := hD.2.2.1 (o k) hk8
  refine he _ _ N K X' ?_
  simp (disch := omega) only [fz_t, nI_add, fz_bit hon (show o k < 12 by omega), fz_b1e]
  refine ⟨fz_in (by omega) (by omega), fun hb1 => ⟨fz_in (by omega) (by omega), fz_in (by omega) (by omega), fz_in (by omega) (by omega), sp_210 hD hr hk8 (loop _ 0 _ rfl (Nat.zero_le _) ?_)⟩, fun hb1 => ⟨fz_in (by omega) (by omega), fz_in (by omega) (by omega), sp_210 hD hr hk8 (loop _ 0 _ rfl (Nat.zero_le _) ?_)⟩⟩
  · show _ = (R.1 62 (o k) - fk_cv R (o k) (R.1 1 8) + (if on.testBit (o k) = true then R.1 22 (o k) else 0)) + 0
    rw [d2, d3, if_pos hb1, Int32.add_zero, Int32.sub_eq_add_neg, Int32.sub_eq_add_neg]
    ac_rfl
  · show _ = (R.1 62 (o k) - fk_cv R (o k) (R.1 1 8) + (if on.testBit (o k) = true then R.1 22 (o k) else 0)) + 0
    rw [d2, if_neg hb1, Int32.add_zero, nI_0, Int32.add_zero, Int32.add_zero]
section FLF
variable {X : Nat × (Nat → Int32)}
theorem fl_0 : fl_FL X 222 0 := fun R N G A o fc on k K X' hD hr hG hS ok hn hon hk hd h => by omega
theorem fl_1 : fl_FL X 223 1 := fl_gen (fun x1 x2 N K X' h => fe_223 X x1 x2 N K X' h) (fun x1 x2 x3 x4 N Q h => fb_223_46 X x1 x2 x3 x4 N Q h) fl_0
theorem fl_2 : fl_FL X 224 2 := fl_gen (fun x1 x2 N K X' h => fe_224 X x1 x2 N K X' h) (fun x1 x2 x3 x4 N Q h => fb_224_46 X x1 x2 x3 x4 N Q h) fl_1
theorem fl_3 : fl_FL X 225 3 := fl_gen (fun x1 x2 N K X' h => fe_225 X x1 x2 N K X' h) (fun x1 x2 x3 x4 N Q h => fb_225_46 X x1 x2 x3 x4 N Q h) fl_2
theorem fl_4 : fl_FL X 226 4 := fl_gen (fun x1 x2 N K X' h => fe_226 X x1 x2 N K X' h) (fun x1 x2 x3 x4 N Q h => fb_226_46 X x1 x2 x3 x4 N Q h) fl_3
theorem fl_5 : fl_FL X 227 5 := fl_gen (fun x1 x2 N K X' h => fe_227 X x1 x2 N K X' h) (fun x1 x2 x3 x4 N Q h => fb_227_46 X x1 x2 x3 x4 N Q h) fl_4
theorem fl_6 : fl_FL X 228 6 := fl_gen (fun x1 x2 N K X' h => fe_228 X x1 x2 N K X' h) (fun x1 x2 x3 x4 N Q h => fb_228_46 X x1 x2 x3 x4 N Q h) fl_5
theorem fl_7 : fl_FL X 229 7 := fl_gen (fun x1 x2 N K X' h => fe_229 X x1 x2 N K X' h) (fun x1 x2 x3 x4 N Q h => fb_229_46 X x1 x2 x3 x4 N Q h) fl_6
theorem fl_8 : fl_FL X 230 8 := fl_gen (fun x1 x2 N K X' h => fe_230 X x1 x2 N K X' h) (fun x1 x2 x3 x4 N Q h => fb_230_46 X x1 x2 x3 x4 N Q h) fl_7
theorem fl_9 : fl_FL X 231 9 := fl_gen (fun x1 x2 N K X' h => fe_231 X x1 x2 N K X' h) (fun x1 x2 x3 x4 N Q h => fb_231_46 X x1 x2 x3 x4 N Q h) fl_8
end FLF
/-- a call of the law's 'voltage' -/
def fl_VO (X : Nat × (Nat → Int32)) (m d : Nat) : Prop := ∀ (R N : fm_N) (G : fg_G) (A : fg_A) (o : Nat → Nat) (fc on k : Nat) (K : Int32 → fm_N → Prop) (X' : Nat → fm_N → Prop), fl_D R N → fk_rng R → fl_G N G → fl_S N A → ft_ok (fg_F A) o (fg_D A) fc → (∀ u, fg_F A u = true → u < fg_n G) → on < 4096 → k < fc → fc ≤ 9 → k + 1 ≤ d → K (fk_vt R A o fc on.testBit (o k)) N → fm_Ci (fm_PP X) m [.inl (.ref 0), .inl (.int (nI (o k))), .inl (.int (nI on))] (N, fm_SH) K X'
abbrev fl_e_volt (X : Nat × (Nat → Int32)) (M C : Nat) : Prop := ∀ (x1 : Int32) (x2 : Int32) (N : fm_N) (K : Int32 → fm_N → Prop) (X' : Nat → fm_N → Prop), ((x1 = nI 0 → (fm_inb (nI 2) 500 ∧ (fm_SH = fm_SH ∧ K (N.1 0 ((nI 2).toNatClampNeg)) N))) ∧ (¬ (x1 = nI 0) → (fm_inb ((nI 420) + x1) 500 ∧ fm_Ci (fm_PP X) C [.inl (.ref 0), .inl (.int (N.1 0 (((nI 420) + x1).toNatClampNeg))), .inl (.int x2)] (N, fm_SH) (fun r2 N1 => (fm_inb ((nI 460) + x1) 500 ∧ fm_Ci (fm_PP X) 231 [.inl (.ref 0), .inl (.int x1), .inl (.int x2)] (N1, fm_SH) (fun r4 N3 => (fm_SH = fm_SH ∧ K (r2 - (((N1.1 0 (((nI 460) + x1).toNatClampNeg)) * r4) / (nI 10))) N3)) (fun e6 N5 => (fm_SH = fm_SH ∧ X' e6 N5)))) (fun e8 N7 => (fm_SH = fm_SH ∧ X' e8 N7))))) → fm_Ci (fm_PP X) M [.inl (.ref 0), .inl (.int x1), .inl (.int x2)] (N, fm_SH) K X'
theorem vo_gen {X : Nat × (Nat → Int32)} {M C d : Nat} (he : fl_e_volt X M C) (ih : fl_VO X C d) : fl_VO X M (d + 1) := by
  intro R N G A o fc on k K X' hD hr hG hS ok hn hon hk hfc hd h
  have h8 := hG.2.2.1
  have hFk := (ok.2.1 k hk).1
  have hkn := hn _ hFk
  have hk8 : o k < 8 := by omega
  refine he _ _ N K X' ?_
  simp (disch := omega) only [fz_t, nI_add, fz_eq]
  refine ⟨fun h0 => ⟨fz_in (by omega) (by omega), trivial, ?_⟩, fun h0 => ⟨fz_in (by omega) (by omega), ?_⟩⟩
  · have e : fk_vt R A o fc on.testBit (o k) = R.1 1 7 := by unfold fk_vt; rw [h0, ft_v_0]
    rw [e] at h
    rw [hD.1]
    exact h
  · have hk0 : 0 < k := by
      cases k with
      | zero => exact absurd ok.1.2.2 h0
      | succ k => omega
    obtain ⟨j, hj, hoj⟩ := ok.2.2.2.2 k hk0 hk
    obtain ⟨s1, -, s3⟩ := hS.2.1 (o k) hk8 hFk
    rw [s1 h0, ← hoj]
    refine ih R N G A o fc on j _ _ hD hr hG hS ok hn hon (by omega) hfc (by omega) ⟨fz_in (by omega) (by omega), ?_⟩
    refine fl_9 R N G A o fc on k _ _ hD hr hG hS ok hn hon hk (by omega) ⟨trivial, ?_⟩
    have e : fk_vt R A o fc on.testBit (o k) = fk_vt R A o fc on.testBit (o j) - fg_S A (o k) * fk_fl R A o fc on.testBit (o k) / nI 10 := by
      unfold fk_vt
      rw [ft_v_step ok hk0 hk, hoj]
    rw [e] at h
    rw [s3]
    exact h
section FLV
variable {X : Nat × (Nat → Int32)}
theorem vo_0 : fl_VO X 232 0 := fun R N G A o fc on k K X' hD hr hG hS ok hn hon hk hfc hd h => by omega
theorem vo_1 : fl_VO X 233 1 := vo_gen (fun x1 x2 N K X' h => fe_233 X x1 x2 N K X' h) vo_0
theorem vo_2 : fl_VO X 234 2 := vo_gen (fun x1 x2 N K X' h => fe_234 X x1 x2 N K X' h) vo_1
theorem vo_3 : fl_VO X 235 3 := vo_gen (fun x1 x2 N K X' h => fe_235 X x1 x2 N K X' h) vo_2
theorem vo_4 : fl_VO X 236 4 := vo_gen (fun x1 x2 N K X' h => fe_236 X x1 x2 N K X' h) vo_3
theorem vo_5 : fl_VO X 237 5 := vo_gen (fun x1 x2 N K X' h => fe_237 X x1 x2 N K X' h) vo_4
theorem vo_6 : fl_VO X 238 6 := vo_gen (fun x1 x2 N K X' h => fe_238 X x1 x2 N K X' h) vo_5
theorem vo_7 : fl_VO X 239 7 := vo_gen (fun x1 x2 N K X' h => fe_239 X x1 x2 N K X' h) vo_6
theorem vo_8 : fl_VO X 240 8 := vo_gen (fun x1 x2 N K X' h => fe_240 X x1 x2 N K X' h) vo_7
theorem vo_9 : fl_VO X 241 9 := vo_gen (fun x1 x2 N K X' h => fe_241 X x1 x2 N K X' h) vo_8
end FLV
