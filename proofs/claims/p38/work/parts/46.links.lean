/-! the law's links: from the transformer on, tie by tie -/
theorem fg_cl_inc {G : fg_G} {A : fg_A} (h : ∀ v, fg_F A v = true → fk_inc G A v) : fg_cl G A := fun c hc => by
  cases hA : fg_F A c <;> cases hB : fg_F A (fg_p G c)
  · rfl
  · have := (h _ hB c hc (Or.inr rfl)).1
    rw [hA] at this; cases this
  · have := (h _ hA c hc (Or.inl rfl)).2
    rw [hB] at this; cases this
  · rfl
/-- before the transformer feeds -/
def fl_pre : fg_A := (fun _ => false, fun _ => 0, fun _ => 0, fun _ => 0, fun _ => false, fun _ => False, fun e => e = 0)
theorem fl_pre_init : fg_feed fl_pre 0 0 0 (nI 0) = fg_init := by
  have e1 : fg_up (fun _ => false) 0 true = fun u => decide (u = 0) := by
    funext u
    unfold fg_up
    by_cases z : u = 0
    · rw [if_pos z]; exact (decide_eq_true z).symm
    · rw [if_neg z]; exact (decide_eq_false z).symm
  have e2 : fg_up (fun _ => 0) 0 0 = fun _ : Nat => (0 : Nat) := by
    funext u
    unfold fg_up
    split <;> rfl
  have e3 : fg_up (fun _ => 0) 0 (nI 0) = fun _ : Nat => (0 : Int32) := by
    funext u
    unfold fg_up
    split
    · exact nI_0
    · rfl
  show (fg_up (fun _ => false) 0 true, fg_up (fun _ => 0) 0 0, fg_up (fun _ => 0) 0 0, fg_up (fun _ => 0) 0 (nI 0), (fun _ => false : Nat → Bool), (fun _ => False : Nat → Prop), (fun e => e = 0 : Nat → Prop)) = fg_init
  rw [e1, e2, e3]
  rfl
theorem fl_O_init : fl_O fg_init := by
  refine ⟨fun _ => 0, 1, ⟨⟨Nat.le_refl _, by omega, rfl⟩, fun k hk => ⟨rfl, Nat.succ_pos _⟩, fun j k hj hk => by omega, fun u hu => ⟨0, by omega, (show u = 0 from of_decide_eq_true hu).symm⟩, fun k h1 h2 => by omega⟩, by decide⟩
/-- a tie's state before its far node is fed -/
def fl_tie (G : fg_G) (A : fg_A) (q : Nat) : fg_A := (fg_F A, fg_D A, fg_C A, fg_S A, fg_up (fg_K A) q true, fun c => fg_U A c ∨ fg_ch G (fg_y G A q) c, fun e => fg_E A e ∨ e = fg_y G A q)
theorem fl_tie_close (G : fg_G) (A : fg_A) (q : Nat) : fg_feed (fl_tie G A q) (fg_y G A q) (fg_z G A q) 0 (fg_x G q) = fg_close G A q := rfl
section FLL
variable {X : Nat × (Nat → Int32)} {G : fg_G} {K : fm_N → Prop} {X' : Nat → fm_N → Prop} {Q : fm_O → fm_M → Prop}
/-- who is fed when the cables from the transformer on, and those behind k ties, are linked -/
def fl_R (G : fg_G) (N : fm_N) (A : fg_A) (k : Nat) : Prop := fl_S N A ∧ fl_O A ∧ fg_Re G k A
theorem lp_195d {N : fm_N} {A : fg_A} {k j : Nat} {o4 : Option fm_V} (hG : fl_G N G) (hR : fl_R G N A k)
    (k1 : ∀ q x3, fg_fi G A q → x3 < nI 0 → fm_Ev (fm_PP X) 195 (67, [some (.inl (.ref 0)), some (.inl (.int (nI j))), some (.inl (.int (nI q))), some (.inl (.int x3)), o4], [], (N, fm_SH)) Q)
    (k2 : fg_nt G A → ∀ x3, x3 < nI 0 → fm_Ev (fm_PP X) 195 (67, [some (.inl (.ref 0)), some (.inl (.int (nI j))), some (.inl (.int (Int32.ofInt (-1)))), some (.inl (.int x3)), o4], [], (N, fm_SH)) Q) :
    ∀ p x2, p ≤ fg_t G → ((x2 = Int32.ofInt (-1) ∧ ∀ q, p ≤ q → q < fg_t G → ¬ fg_df G A q) ∨ ∃ q, x2 = nI q ∧ p ≤ q ∧ q < fg_t G ∧ fg_df G A q ∧ ∀ r, p ≤ r → r < q → ¬ fg_df G A r) →
    fm_Ev (fm_PP X) 195 (67, [some (.inl (.ref 0)), some (.inl (.int (nI j))), some (.inl (.int x2)), some (.inl (.int (nI p - nI 1))), o4], [], (N, fm_SH)) Q := by
  intro p
  induction p with
  | zero =>
    intro x2 hp hx
    have hneg : nI 0 - nI 1 < nI 0 := by decide
    rcases hx with ⟨rfl, h⟩ | ⟨q, rfl, h1, h2, h3, h4⟩
    · exact k2 (fun q hq => h q (Nat.zero_le _) hq) _ hneg
    · exact k1 q _ ⟨h2, h3, fun r hr => h4 r (Nat.zero_le _) hr⟩ hneg
  | succ p ih =>
    intro x2 hp hx
    have ht := hG.2.2.2.1
    have ok := hG.2.2.2.2.1
    have h8 := hG.2.2.1
    obtain ⟨ha, hb, hab⟩ := ok.2.2 p (by omega)
    obtain ⟨g1, g2, -⟩ := hG.2.2.2.2.2.2 p (by omega)
    have e1 : nI (p + 1) - nI 1 = nI p := by rw [fz_sub (by omega)]; rfl
    have e2 : nI p + Int32.ofInt (-1) = nI p - nI 1 := by
      rw [Int32.sub_eq_add_neg]
      rfl
    rw [e1]
    refine fb_195_67 X _ _ _ _ N Q ?_
    simp (disch := omega) only [pk_mul, nI_add, fz_t, fz_lt, g1, g2, hR.1.1 _ (show fg_a G p < 8 by omega), hR.1.1 _ (show fg_b G p < 8 by omega), fz_bb]
    refine ⟨fun z => absurd z (Nat.not_lt_zero p), fun _ => ⟨fz_in (by omega) (by omega), fz_in (by omega) (by omega), fz_in (by omega) (by omega), fz_in (by omega) (by omega), fun he => ?_, fun hn => ?_⟩⟩
    · rw [e2]
      refine ih x2 (by omega) ?_
      rcases hx with ⟨rfl, h⟩ | ⟨q, rfl, h1, h2, h3, h4⟩
      · refine Or.inl ⟨rfl, fun q h1 h2 => ?_⟩
        by_cases z : q = p
        · subst z; exact fun hd => hd he
        · exact h q (by omega) h2
      · refine Or.inr ⟨q, rfl, by omega, h2, h3, fun r h5 h6 => ?_⟩
        by_cases z : r = p
        · subst z; exact fun hd => hd he
        · exact h4 r (by omega) h6
    · rw [e2]
      exact ih _ (by omega) (Or.inr ⟨p, rfl, Nat.le_refl _, by omega, hn, fun r h5 h6 => by omega⟩)
theorem lp_195c : ∀ m j (N : fm_N) (A : fg_A) (k : Nat) (o2 o3 o4 : Option fm_V), 4 - j = m → j ≤ 4 → fl_G N G → fl_R G N A k → (fg_nt G A ∨ k = j) →
    (∀ N' A', fl_F 400 N N' → fl_S N' A' → fl_O A' → fg_Fin G A' → Q (.inl none) (N', fm_SH)) →
    fm_Ev (fm_PP X) 195 (54, [some (.inl (.ref 0)), some (.inl (.int (nI j))), o2, o3, o4], [], (N, fm_SH)) Q := by
  intro m
  induction m with
  | zero =>
    intro j N A k o2 o3 o4 hm hj hG hR hd kk
    have ht := hG.2.2.2.1
    have ok := hG.2.2.2.2.1
    refine fb_195_54 X _ _ _ _ N Q ?_
    simp (disch := omega) only [fz_le]
    refine ⟨fun _ => kk N A (fl_F.rf _ _) hR.1 hR.2.1 ⟨k, hR.2.2, ?_⟩, fun z => absurd (by omega) z⟩
    rcases hd with z | z
    · exact z
    · have h1 := (fg_Re_Fu ok k A hR.2.2).2.2.2
      have h2 := fg_cn_le (fg_K A) (fg_t G)
      exact fg_Re_full ok (by rw [show fg_t G = k by omega]; exact hR.2.2)
  | succ m ih =>
    intro j N A k o2 o3 o4 hm hj hG hR hd kk
    have ht := hG.2.2.2.1
    have ok := hG.2.2.2.2.1
    have h8 := hG.2.2.1
    refine fb_195_54 X _ _ _ _ N Q ?_
    simp (disch := omega) only [fz_le, fz_t, hG.2.1]
    refine ⟨fun z => absurd z (by omega), fun _ => ⟨fz_in (by omega) (by omega), ?_⟩⟩
    refine lp_195d hG hR (fun q x3 hq hx3 => ?_) (fun hn x3 hx3 => ?_) (fg_t G) _ (Nat.le_refl _) (Or.inl ⟨rfl, fun q h1 h2 => by omega⟩)
    · have hkj : k = j := hd.resolve_left (fun z => z q hq.1 hq.2.1)
      subst hkj
      obtain ⟨hS, hO, hRe⟩ := hR
      have hFu := (fg_Re_Fu ok k A hRe).1
      have hqt := hq.1
      obtain ⟨ha, hb, hab⟩ := ok.2.2 q hqt
      obtain ⟨g1, g2, g3⟩ := hG.2.2.2.2.2.2 q (by omega)
      obtain ⟨hy, hz⟩ := fg_y_un hq.2.1
      obtain ⟨hyn, hzn⟩ := fg_y_lt ok hqt
      have hF1 : fl_F 400 N (fm_uI N.1 0 (480 + q) (nI 1), N.2) := (fl_F.rf 400 N).up (by omega)
      have hG1 : fl_G (fm_uI N.1 0 (480 + q) (nI 1), N.2) G := hG.fr hF1
      have hS1 : fl_S (fm_uI N.1 0 (480 + q) (nI 1), N.2) (fl_tie G A q) := by
        have hzz : ∀ i, fm_uI N.1 0 (480 + q) (nI 1) 0 i = if i = 480 + q then nI 1 else N.1 0 i := fun i => fz_at _ _ _ _ _
        refine ⟨fun i hi => ?_, fun i hi hF => ?_, fun r hr => ?_⟩
        · show fm_uI N.1 0 (480 + q) (nI 1) 0 (400 + i) = _
          rw [hzz, if_neg (by omega)]; exact hS.1 i hi
        · show (i ≠ 0 → fm_uI N.1 0 (480 + q) (nI 1) 0 (420 + i) = _) ∧ fm_uI N.1 0 (480 + q) (nI 1) 0 (440 + i) = _ ∧ fm_uI N.1 0 (480 + q) (nI 1) 0 (460 + i) = _
          rw [hzz, hzz, hzz, if_neg (by omega), if_neg (by omega), if_neg (by omega)]; exact hS.2.1 i hi hF
        · show fm_uI N.1 0 (480 + q) (nI 1) 0 (480 + r) = fz_b (fg_up (fg_K A) q true r)
          rw [hzz]
          by_cases z : r = q
          · subst z; rw [if_pos rfl, fg_up_eq]; rfl
          · rw [if_neg (by omega), fg_up_ne _ _ z]; exact hS.2.2 r hr
      have hOc : fl_O (fg_close G A q) := by
        rw [← fl_tie_close]
        have h0 : fl_O (fl_tie G A q) := hO
        exact fl_O_up h0 hy (Nat.lt_of_lt_of_le hyn (by omega)) hz
      have key : ∀ (o2 o3 o4 : Option fm_V), fm_Cv (fm_PP X) 221 [.inl (.ref 0), .inl (.int (nI (fg_y G A q))), .inl (.int (nI (fg_z G A q))), .inl (.int (Int32.ofInt (-1))), .inl (.int (fg_x G q))] ((fm_uI N.1 0 (480 + q) (nI 1), N.2), fm_SH) (fun N1 => fm_Ev (fm_PP X) 195 (54, [some (.inl (.ref 0)), some (.inl (.int (nI (k + 1)))), o2, o3, o4], [], (N1, fm_SH)) Q) (fun e N1 => Q (.inr e) (N1, fm_SH)) := by
        intro o2 o3 o4
        refine lk_10 G (fg_close G A q) (fl_tie G A q) _ (fg_y G A q) (fg_z G A q) 0 (nI (fg_z G A q)) (fg_x G q) _ _ hG1 hS1 hyn (fun _ => rfl) (fun _ => by omega) (fun _ => ⟨by omega, ?_, ?_⟩) (fun N2 A2 a1 a2 a3 a4 a5 a6 a7 => ?_)
        · rw [fl_tie_close]; exact fg_Sq.rf (fg_close_I ok hFu hq)
        · rw [fl_tie_close]; exact hOc
        · obtain ⟨s1, s2⟩ := a5 hy
          have hcl : fg_cl G A2 := fg_cl_inc fun v hv => by
            rcases a7 v hv with z | z
            · have z : fg_F A v = true := z
              intro c hc hcv
              rcases hcv with y | y
              · subst y
                exact ⟨hv, a3 _ (show fg_F A (fg_p G c) = true by rw [← hFu.2.1 c hc]; exact z)⟩
              · subst y
                exact ⟨a3 _ (show fg_F A c = true by rw [hFu.2.1 c hc]; exact z), hv⟩
            · exact z
          exact ih (k + 1) N2 A2 (k + 1) o2 o3 o4 (by omega) (by omega) (hG1.fr a1) ⟨a2, s2, A, q, hRe, hq, s1, hcl⟩ (Or.inr rfl) (fun N' A' b1 b2 b3 b4 => kk N' A' ((hF1.tr a1).tr b1) b2 b3 b4)
      refine fb_195_67 X _ _ _ _ N Q ?_
      have n480 : ∀ i, i < 400 → fm_uI N.1 0 (480 + q) (nI 1) 0 i = N.1 0 i := fun i hi => by rw [fz_at, if_neg (by omega)]
      simp (disch := omega) only [pk_mul, nI_add, fz_t, fz_lt, Nat.add_assoc, n480]
      have e341 : N.1 0 (340 + (3 * q + 1)) = nI (fg_b G q) := by rw [show 340 + (3 * q + 1) = 341 + 3 * q by omega]; exact g2
      have e342 : N.1 0 (340 + (3 * q + 2)) = fg_x G q := by rw [show 340 + (3 * q + 2) = 342 + 3 * q by omega]; exact g3
      refine ⟨fun _ => ⟨fun z => absurd z (Nat.not_lt_zero q), fun _ => ⟨fz_in (by omega) (by omega), ?_⟩⟩, fun z => absurd hx3 z⟩
      simp (disch := omega) only [g1, e341, e342, nI_add, fz_t, hS.1 _ (show fg_a G q < 8 by omega), fz_b1e]
      refine ⟨fz_in (by omega) (by omega), fun hA => ?_, fun hA => ?_⟩
      · have ey : fg_y G A q = fg_b G q := if_pos hA
        have ez : fg_z G A q = fg_a G q := if_pos hA
        rw [ey, ez] at key
        exact ⟨fz_in (by omega) (by omega), fun z => absurd z (by decide), fun _ => ⟨fz_in (by omega) (by omega), fun z => absurd z (by decide), fun _ => ⟨fz_in (by omega) (by omega), fz_in (by omega) (by omega), key _ _ _⟩⟩⟩
      · have ey : fg_y G A q = fg_a G q := if_neg hA
        have ez : fg_z G A q = fg_b G q := if_neg hA
        rw [ey, ez] at key
        exact ⟨fz_in (by omega) (by omega), fun _ => ⟨fz_in (by omega) (by omega), fun _ => ⟨fz_in (by omega) (by omega), fz_in (by omega) (by omega), key _ _ _⟩, fun z => absurd trivial z⟩, fun z => absurd trivial z⟩
    · refine fb_195_67 X _ _ _ _ N Q ?_
      refine ⟨fun _ => ⟨fun _ => ?_, fun z => absurd (show Int32.ofInt (-1) < nI 0 by decide) z⟩, fun z => absurd hx3 z⟩
      rw [nI_add]
      exact ih (j + 1) N A k _ _ _ (by omega) (by omega) hG hR (Or.inl hn) kk
theorem lp_195b {N0 : fm_N} (hG : fl_G N0 G) (kk : ∀ N' A', fl_F 400 N0 N' → fl_S N' A' → fl_O A' → fg_Fin G A' → Q (.inl none) (N', fm_SH)) :
    ∀ m q (N : fm_N) (o2 o3 o4 : Option fm_V), 4 - q = m → q ≤ 4 → fl_F 400 N0 N → (∀ i, i < 8 → N.1 0 (400 + i) = nI 0) → (∀ r, r < q → N.1 0 (480 + r) = nI 0) →
    fm_Ev (fm_PP X) 195 (25, [some (.inl (.ref 0)), some (.inl (.int (nI q))), o2, o3, o4], [], (N, fm_SH)) Q := by
  intro m
  induction m with
  | zero =>
    intro q N o2 o3 o4 hm hq hF h1 h2
    have hG1 := hG.fr hF
    have ok := hG.2.2.2.2.1
    refine fb_195_25 X _ _ _ _ N Q ?_
    simp (disch := omega) only [fz_le]
    refine ⟨fun _ => ?_, fun z => absurd (by omega) z⟩
    have hS : fl_S N fl_pre := ⟨fun i hi => h1 i hi, fun i hi (h : false = true) => (nomatch h), fun r hr => h2 r (by omega)⟩
    refine lk_10 G fg_init fl_pre N 0 0 0 (Int32.ofInt (-1)) (nI 0) _ _ hG1 hS ok.1 (fun z => absurd rfl z) (fun z => nomatch z) (fun _ => ⟨by omega, ?_, ?_⟩) (fun N2 A2 a1 a2 a3 a4 a5 a6 a7 => ?_)
    · rw [fl_pre_init]; exact fg_Sq.rf (fg_init_I ok)
    · rw [fl_pre_init]; exact fl_O_init
    · obtain ⟨s1, s2⟩ := a5 rfl
      have hcl : fg_cl G A2 := fg_cl_inc fun v hv => (a7 v hv).resolve_left (fun z => nomatch z)
      exact lp_195c _ 0 N2 A2 0 _ _ _ rfl (by omega) (hG1.fr a1) ⟨a2, s2, s1, hcl⟩ (Or.inr rfl) (fun N' A' b1 b2 b3 b4 => kk N' A' ((hF.tr a1).tr b1) b2 b3 b4)
  | succ m ih =>
    intro q N o2 o3 o4 hm hq hF h1 h2
    refine fb_195_25 X _ _ _ _ N Q ?_
    simp (disch := omega) only [fz_le, nI_add, fz_t]
    refine ⟨fun z => absurd z (by omega), fun _ => ⟨fz_in (by omega) (by omega), ih (q + 1) _ _ _ _ (by omega) (by omega) (hF.up (by omega)) (fun i hi => ?_) (fun r hr => ?_)⟩⟩
    · show fm_uI _ _ _ _ 0 (400 + i) = _
      rw [fz_at, if_neg (by omega)]; exact h1 i hi
    · show fm_uI _ _ _ _ 0 (480 + r) = _
      rw [fz_at]
      by_cases z : r = q
      · rw [if_pos (by omega)]
      · rw [if_neg (by omega)]; exact h2 r (by omega)
theorem lp_195a {N0 : fm_N} (hG : fl_G N0 G) (kk : ∀ N' A', fl_F 400 N0 N' → fl_S N' A' → fl_O A' → fg_Fin G A' → Q (.inl none) (N', fm_SH)) :
    ∀ m k (N : fm_N) (o2 o3 o4 : Option fm_V), fg_n G - k = m → k ≤ fg_n G → fl_F 400 N0 N → (∀ i, i < 8 → (i < k ∨ fg_n G ≤ i) → N.1 0 (400 + i) = nI 0) →
    fm_Ev (fm_PP X) 195 (2, [some (.inl (.ref 0)), some (.inl (.int (nI k))), o2, o3, o4], [], (N, fm_SH)) Q := by
  intro m
  induction m with
  | zero =>
    intro k N o2 o3 o4 hm hk hF h1
    have hG1 := hG.fr hF
    have h8 := hG.2.2.1
    refine fb_195_2 X _ _ _ _ N Q ?_
    simp (disch := omega) only [fz_t, hG1.1, fz_le]
    exact ⟨fz_in (by omega) (by omega), fun _ => lp_195b hG kk _ 0 N _ _ _ rfl (by omega) hF (fun i hi => h1 i hi (by omega)) (fun r hr => absurd hr (Nat.not_lt_zero r)), fun z => absurd (by omega) z⟩
  | succ m ih =>
    intro k N o2 o3 o4 hm hk hF h1
    have hG1 := hG.fr hF
    have h8 := hG.2.2.1
    refine fb_195_2 X _ _ _ _ N Q ?_
    simp (disch := omega) only [fz_t, hG1.1, fz_le, nI_add]
    refine ⟨fz_in (by omega) (by omega), fun z => absurd z (by omega), fun _ => ⟨fz_in (by omega) (by omega), ih (k + 1) _ _ _ _ (by omega) (by omega) (hF.up (by omega)) (fun i hi hik => ?_)⟩⟩
    show fm_uI _ _ _ _ 0 (400 + i) = _
    rw [fz_at]
    by_cases z : i = k
    · rw [if_pos (by omega)]
    · rw [if_neg (by omega)]; exact h1 i hi (by omega)
/-- links: the law's net knows who feeds whom -/
theorem sp_195 {N : fm_N} (hG : fl_G N G) (hZ : ∀ i, i < 8 → fg_n G ≤ i → N.1 0 (400 + i) = nI 0) (k : ∀ N' A', fl_F 400 N N' → fl_S N' A' → fl_O A' → fg_Fin G A' → K N') : fm_Cv (fm_PP X) 195 [.inl (.ref 0)] (N, fm_SH) K X' := by
  refine fe_195 X N K X' ?_
  exact lp_195a hG (fun N' A' a1 a2 a3 a4 => ⟨rfl, k N' A' a1 a2 a3 a4⟩) _ 0 N _ _ _ rfl (Nat.zero_le _) (fl_F.rf _ _) (fun i hi h => hZ i hi (h.resolve_left (Nat.not_lt_zero i)))
end FLL
