/-! the model: who feeds whom -/
def fn_G (N : fm_N) (G : fg_G) : Prop := N.1 63 25 = nI (fg_n G) ∧ N.1 63 26 = nI (fg_t G) ∧ fg_n G ≤ 12 ∧ fg_t G ≤ 4 ∧ fg_ok G ∧
  (∀ i, i < 12 → N.1 64 i = nI (fg_p G i) ∧ N.1 71 i = fz_b (!fg_w G i) ∧ N.1 65 i = fg_r G i ∧ fg_p G i < 12) ∧
  (∀ q, q < 4 → N.1 78 q = nI (fg_a G q) ∧ N.1 79 q = nI (fg_b G q) ∧ N.1 80 q = fg_x G q ∧ fg_a G q < 12 ∧ fg_b G q < 12)
theorem fn_G.of {R N : fm_N} {G : fg_G} {M : Nat} (h : fk_G R G) (hC : fn_cp R N M) : fn_G N G := by
  obtain ⟨g1, g2, g3, g4, g5, g6, g7⟩ := h
  obtain ⟨⟨c25, c26, -⟩, ⟨c64, c65, -⟩, c71, -, ⟨c78, c79, c80⟩, -⟩ := hC
  refine ⟨by rw [c25]; exact g1, by rw [c26]; exact g2, g3, g4, g5, fun i hi => ?_, fun q hq => ?_⟩
  · rw [c64, c65, c71 i hi]; exact g6 i hi
  · rw [c78, c79, c80]; exact g7 q hq
/-- a cable as the model tells it -/
def fn_c (c : Nat) : Int32 := if c = 0 then Int32.ofInt (-1) else nI c
def fn_S (N : fm_N) (A : fg_A) (n t : Nat) : Prop := (∀ i, i < n → N.1 74 i = fz_b (fg_F A i) ∧ (fg_F A i = true → N.1 84 i = fn_c (fg_C A i) ∧ (i ≠ 0 → N.1 83 i = nI (fg_D A i) ∧ N.1 85 i = fg_S A i))) ∧ ∀ q, q < t → N.1 82 q = fz_b (fg_K A q)
abbrev fn_fs : List Nat := [74, 82, 83, 84, 85]
theorem fn_G.fr {N N' : fm_N} {G : fg_G} (h : fn_G N G) {cs : List Nat} (hF : fx_F cs N N') (hc : cs.contains 63 = false ∧ cs.contains 64 = false ∧ cs.contains 65 = false ∧ cs.contains 71 = false ∧ cs.contains 78 = false ∧ cs.contains 79 = false ∧ cs.contains 80 = false) : fn_G N' G := by
  obtain ⟨c3, c4, c5, c8, c9, c10, c11⟩ := hc
  unfold fn_G
  rw [hF.1 63 c3, hF.1 64 c4, hF.1 65 c5, hF.1 71 c8, hF.1 78 c9, hF.1 79 c10, hF.1 80 c11]
  exact h
theorem fn_fr {N N' : fm_N} {G : fg_G} (h : fn_G N G) (hF : fx_F fn_fs N N') : fn_G N' G := h.fr hF ⟨rfl, rfl, rfl, rfl, rfl, rfl, rfl⟩
theorem fn_S.fr {N N' : fm_N} {A : fg_A} {n t : Nat} (h : fn_S N A n t) {cs : List Nat} (hF : fx_F cs N N') (hc : cs.contains 74 = false ∧ cs.contains 82 = false ∧ cs.contains 83 = false ∧ cs.contains 84 = false ∧ cs.contains 85 = false) : fn_S N' A n t := by
  obtain ⟨c3, c4, c5, c8, c9⟩ := hc
  unfold fn_S
  rw [hF.1 74 c3, hF.1 82 c4, hF.1 83 c5, hF.1 84 c8, hF.1 85 c9]
  exact h
theorem fn_S.eq {N : fm_N} {A B : fg_A} {n t : Nat} (h : fn_S N A n t) (e : fg_eq A B) : fn_S N B n t := by
  obtain ⟨e1, e2, e3, e4, e5⟩ := e
  refine ⟨fun i hi => ?_, fun q hq => by rw [← e4]; exact h.2 q hq⟩
  obtain ⟨h1, h2⟩ := h.1 i hi
  refine ⟨by rw [← e1]; exact h1, fun hF => ?_⟩
  have hA : fg_F A i = true := by rw [e1]; exact hF
  obtain ⟨k1, k2, k3⟩ := e5 i hA
  obtain ⟨h3, h4⟩ := h2 hA
  exact ⟨by rw [← k2]; exact h3, fun h0 => ⟨by rw [← k1]; exact (h4 h0).1, by rw [← k3]; exact (h4 h0).2⟩⟩
section FNF
variable {X : Nat × (Nat → Int32)} {G : fg_G} {A0 : fg_A} {K : fm_N → Prop} {X' : Nat → fm_N → Prop} {Q : fm_O → fm_M → Prop}
/-- a node is fed: the model's cells -/
theorem fn_put {N N' : fm_N} {A : fg_A} {n t u f c : Nat} {r : Int32} {K' : Nat → Bool} {U' E' : Nat → Prop} (h : fn_S N A n t) (k74 : ∀ i, N'.1 74 i = if i = u then nI 1 else N.1 74 i) (k83 : ∀ i, N'.1 83 i = if i = u then nI f else N.1 83 i) (k84 : ∀ i, N'.1 84 i = if i = u then fn_c c else N.1 84 i) (k85 : ∀ i, N'.1 85 i = if i = u then r else N.1 85 i) (k82 : ∀ q, q < t → N'.1 82 q = fz_b (K' q)) :
    fn_S N' (fg_up (fg_F A) u true, fg_up (fg_D A) u f, fg_up (fg_C A) u c, fg_up (fg_S A) u r, K', U', E') n t := by
  refine ⟨fun i hi => ?_, k82⟩
  show N'.1 74 i = fz_b (fg_up (fg_F A) u true i) ∧ (fg_up (fg_F A) u true i = true → N'.1 84 i = fn_c (fg_up (fg_C A) u c i) ∧ (i ≠ 0 → N'.1 83 i = nI (fg_up (fg_D A) u f i) ∧ N'.1 85 i = fg_up (fg_S A) u r i))
  rw [k74, k83, k84, k85]
  by_cases z : i = u
  · subst z
    rw [if_pos rfl, if_pos rfl, if_pos rfl, if_pos rfl, fg_up_eq, fg_up_eq, fg_up_eq, fg_up_eq]
    exact ⟨rfl, fun _ => ⟨rfl, fun _ => ⟨rfl, rfl⟩⟩⟩
  · rw [if_neg z, if_neg z, if_neg z, if_neg z, fg_up_ne _ _ z, fg_up_ne _ _ z, fg_up_ne _ _ z, fg_up_ne _ _ z]
    exact h.1 i hi
theorem sp_78 {N : fm_N} {u : Nat} (hu : u < 12) {x2 x3 x4 : Int32} (h : K (fm_uI (fm_uI (fm_uI (fm_uI N.1 74 u (nI 1)) 83 u x2) 84 u x3) 85 u x4, N.2)) : fm_Cv (fm_PP X) 78 [.inl (.ref 63), .inl (.int (nI u)), .inl (.int x2), .inl (.int x3), .inl (.int x4)] (N, fm_SH) K X' := by
  have hin : fm_inb (nI u) 12 := fz_in hu (by omega)
  refine fe_78 X _ _ _ _ N K X' ?_
  rw [fz_t (by omega : u < 2147483648), fz_nb1]
  exact ⟨hin, hin, hin, hin, rfl, h⟩
theorem fg_cn_mono {f g : Nat → Bool} : ∀ m, (∀ i, i < m → f i = true → g i = true) → fg_cn f m ≤ fg_cn g m := fun m h => fg_cn_sub m h
theorem lp_79b {tt : Nat} {N0 : fm_N} {A1 : fg_A} {m : Nat} (ok : fg_ok G) (head : ∀ (N : fm_N) (A : fg_A) (o2 o3 : Option fm_V), 12 - fg_cn (fg_F A) 12 < m → fx_F fn_fs N0 N → fn_S N A (fg_n G) tt → fg_Sq G A0 A → fm_Ev (fm_PP X) 79 (2, [some (.inl (.ref 63)), some (.inl (.int (nI 1))), o2, o3], [], (N, fm_SH)) Q)
    (kk : ∀ N' A', fx_F fn_fs N0 N' → fn_S N' A' (fg_n G) tt → fg_Sq G A0 A' → fg_cl G A' → Q (.inl none) (N', fm_SH)) :
    ∀ j k (N : fm_N) (A : fg_A) (is : Bool) (o3 : Option fm_V), fg_n G - k = j → 1 ≤ k → k ≤ fg_n G → fn_G N G → fx_F fn_fs N0 N → fn_S N A (fg_n G) tt → fg_Sq G A0 A → (is = true → 12 - fg_cn (fg_F A) 12 < m) → (is = false → ∀ c, 1 ≤ c → c < k → fg_cb G c → fg_F A c = fg_F A (fg_p G c)) → (12 - fg_cn (fg_F A) 12 ≤ m) →
    fm_Ev (fm_PP X) 79 (10, [some (.inl (.ref 63)), some (.inl (.int (fz_b is))), some (.inl (.int (nI k))), o3], [], (N, fm_SH)) Q := by
  intro j
  induction j with
  | zero =>
    intro k N A is o3 hj hk1 hk hG hF hS hQ ht hf hle
    have h12 := hG.2.2.1
    refine fb_79_10 X _ _ _ N Q ?_
    rw [hG.1, fz_le (by omega) (by omega)]
    refine ⟨fun _ => ?_, fun z => absurd (by omega) z⟩
    cases is with
    | true => exact head N A _ _ (ht rfl) hF hS hQ
    | false =>
      refine fb_79_2 X _ _ _ N Q ⟨fun _ => kk N A hF hS hQ (fun c hc => hf rfl c hc.1 (by have := hc.2.1; omega) hc), fun z => absurd rfl z⟩
  | succ j ih =>
    intro k N A is o3 hj hk1 hk hG hF hS hQ ht hf hle
    have h12 := hG.2.2.1
    obtain ⟨g64, g71, g65, gp⟩ := hG.2.2.2.2.2.1 k (by omega)
    have hpk := ok.2.1 k hk1 (by omega)
    have hk74 := (hS.1 k (by omega)).1
    have hp74 := (hS.1 (fg_p G k) (by omega)).1
    have hink : fm_inb (nI k) 12 := fz_in (by omega) (by omega)
    have hinp : fm_inb (nI (fg_p G k)) 12 := fz_in (by omega) (by omega)
    have skip : (fg_cb G k → fg_F A k = fg_F A (fg_p G k)) → fm_Ev (fm_PP X) 79 (10, [some (.inl (.ref 63)), some (.inl (.int (fz_b is))), some (.inl (.int (nI (k + 1)))), some (.inl (.int (nI (fg_p G k))))], [], (N, fm_SH)) Q := fun hs => by
      refine ih (k + 1) N A is _ (by omega) (by omega) (by omega) hG hF hS hQ ht (fun hi c h1 h2 hc => ?_) hle
      by_cases z : c = k
      · rw [z] at hc ⊢; exact hs hc
      · exact hf hi c h1 (by omega) hc
    have take : ∀ u f, u < 12 → fg_F A u = false → fg_Sq G A0 (fg_feed A u f k (fg_r G k)) → fm_Cv (fm_PP X) 78 [.inl (.ref 63), .inl (.int (nI u)), .inl (.int (nI f)), .inl (.int (nI k)), .inl (.int (fg_r G k))] (N, fm_SH) (fun N1 => fm_Ev (fm_PP X) 79 (10, [some (.inl (.ref 63)), some (.inl (.int (nI 1))), some (.inl (.int (nI (k + 1)))), some (.inl (.int (nI (fg_p G k))))], [], (N1, fm_SH)) Q) (fun e N1 => Q (.inr e) (N1, fm_SH)) := fun u f hu12 hu hSq => by
      refine sp_78 hu12 ?_
      have hFn : fx_F fn_fs N (fm_uI (fm_uI (fm_uI (fm_uI N.1 74 u (nI 1)) 83 u (nI f)) 84 u (nI k)) 85 u (fg_r G k), N.2) := ((((fx_F.rf fn_fs N).up rfl).up rfl).up rfl).up rfl
      have hck : fn_c k = nI k := if_neg (by omega)
      have hcnt : fg_cn (fg_F (fg_feed A u f k (fg_r G k))) 12 = fg_cn (fg_F A) 12 + 1 := by
        show fg_cn (fg_up (fg_F A) u true) 12 = _
        rw [fg_cn_up hu, if_pos hu12]
      have hlt := fg_cn_lt hu 12 hu12
      refine ih (k + 1) _ (fg_feed A u f k (fg_r G k)) true _ (by omega) (by omega) (by omega) (fn_fr hG hFn) (hF.tr hFn) ?_ hSq (fun _ => by omega) (fun z => nomatch z) (by omega)
      exact fn_put hS (fun i => by simp [fz_ui]) (fun i => by simp [fz_ui]) (fun i => by rw [hck]; simp [fz_ui]) (fun i => by simp [fz_ui]) (fun q hq => by simp [fz_ui]; exact hS.2 q hq)
    refine fb_79_10 X _ _ _ N Q ?_
    rw [hG.1, fz_le (by omega) (by omega), fz_t (by omega : k < 2147483648), g64, g71, g65, fz_t (by omega : fg_p G k < 2147483648), hk74, hp74, nI_add, fz_be, fz_bb, fz_be]
    refine ⟨fun z => absurd z (by omega), fun _ => ⟨hink, hink, fun hw => ⟨hink, hinp, fun he => skip (fun _ => he), fun hne => ⟨hink, fun hk0 => ⟨hink, fun _ => ⟨hink, ?_⟩, fun z => absurd hk0 z⟩, fun hk1' => ⟨hink, fun z => absurd z hk1', fun _ => ⟨hink, ?_⟩⟩⟩⟩, fun hw => skip (fun hc => ?_)⟩⟩
    · have hw' : fg_w G k = true := by simpa using hw
      have hp1 : fg_F A (fg_p G k) = true := by
        cases hp : fg_F A (fg_p G k)
        · exact absurd (hk0.trans hp.symm) hne
        · rfl
      exact take k (fg_p G k) (by omega) hk0 (hQ.s1 ok ⟨hk1, by omega, hw'⟩ hp1 hk0)
    · have hw' : fg_w G k = true := by simpa using hw
      have hk1'' : fg_F A k = true := by simpa using hk1'
      have hp0 : fg_F A (fg_p G k) = false := by
        cases hp : fg_F A (fg_p G k)
        · rfl
        · exact absurd (hk1''.trans hp.symm) hne
      exact take (fg_p G k) k gp hp0 (hQ.s2 ok ⟨hk1, by omega, hw'⟩ hp0 hk1'')
    · exfalso
      apply hw
      have := hc.2.2
      simp [this]
theorem lp_79a {tt : Nat} {N0 : fm_N} (ok : fg_ok G) (hG0 : fn_G N0 G) (kk : ∀ N' A', fx_F fn_fs N0 N' → fn_S N' A' (fg_n G) tt → fg_Sq G A0 A' → fg_cl G A' → Q (.inl none) (N', fm_SH)) :
    ∀ m (N : fm_N) (A : fg_A) (o2 o3 : Option fm_V), 12 - fg_cn (fg_F A) 12 ≤ m → fx_F fn_fs N0 N → fn_S N A (fg_n G) tt → fg_Sq G A0 A → fm_Ev (fm_PP X) 79 (2, [some (.inl (.ref 63)), some (.inl (.int (nI 1))), o2, o3], [], (N, fm_SH)) Q := by
  intro m
  induction m with
  | zero =>
    intro N A o2 o3 hm hF hS hQ
    refine fb_79_2 X _ _ _ N Q ⟨fun z => absurd z (by decide), fun _ => ?_⟩
    exact lp_79b (N0 := N0) (A1 := A) (m := 0) ok (fun N A _ _ z => absurd z (Nat.not_lt_zero _)) kk _ 1 N A false _ rfl (Nat.le_refl _) ok.1 (fn_fr hG0 hF) hF hS hQ (fun z => nomatch z) (fun _ c h1 h2 => absurd h2 (by omega)) (by omega)
  | succ m ih =>
    intro N A o2 o3 hm hF hS hQ
    refine fb_79_2 X _ _ _ N Q ⟨fun z => absurd z (by decide), fun _ => ?_⟩
    exact lp_79b (N0 := N0) (A1 := A) (m := m + 1) ok (fun N A _ _ z hF' hS' hQ' => ih N A _ _ (by omega) hF' hS' hQ') kk _ 1 N A false _ rfl (Nat.le_refl _) ok.1 (fn_fr hG0 hF) hF hS hQ (fun z => nomatch z) (fun _ c h1 h2 => absurd h2 (by omega)) hm
theorem sp_79 {tt : Nat} {N : fm_N} {A : fg_A} (hG : fn_G N G) (hS : fn_S N A (fg_n G) tt) (hQ : fg_Sq G A0 A) (kk : ∀ N' A', fx_F fn_fs N N' → fn_S N' A' (fg_n G) tt → fg_Sq G A0 A' → fg_cl G A' → K N') : fm_Cv (fm_PP X) 79 [.inl (.ref 63)] (N, fm_SH) K X' := by
  refine fe_79 X N K X' ?_
  exact lp_79a (N0 := N) hG.2.2.2.2.1 hG (fun N' A' a1 a2 a3 a4 => ⟨rfl, kk N' A' a1 a2 a3 a4⟩) _ N A _ _ (Nat.le_refl _) (fx_F.rf _ _) hS hQ
theorem lp_80c {N0 : fm_N} (ok : fg_ok G) (hG0 : fn_G N0 G) (kk : ∀ N' A', fx_F fn_fs N0 N' → fn_S N' A' (fg_n G) (fg_t G) → fg_Fin G A' → Q (.inl none) (N', fm_SH)) :
    ∀ m j q k (N : fm_N) (A : fg_A) (o2 : Option fm_V), fg_t G - k ≤ m → fg_t G - q = j → q ≤ fg_t G → fx_F fn_fs N0 N → fn_S N A (fg_n G) (fg_t G) → fg_Re G k A → (∀ r, r < q → ¬ fg_df G A r) →
    fm_Ev (fm_PP X) 80 (67, [some (.inl (.ref 63)), some (.inl (.int (nI q))), o2], [], (N, fm_SH)) Q := by
  intro m
  induction m with
  | zero =>
    intro j
    induction j with
    | zero =>
      intro q k N A o2 hm hj hq hF hS hR hr
      have ht := hG0.2.2.2.1
      refine fb_80_67 X _ _ N Q ?_
      rw [fx_cell hF 63 rfl, hG0.2.1, fz_le (by omega) (by omega)]
      exact ⟨fun _ => kk N A hF hS ⟨k, hR, fun r hr' => hr r (by omega)⟩, fun z => absurd (by omega) z⟩
    | succ j ih =>
      intro q k N A o2 hm hj hq hF hS hR hr
      have ht := hG0.2.2.2.1
      obtain ⟨g78, g79, g80, ga, gb⟩ := hG0.2.2.2.2.2.2 q (by omega)
      obtain ⟨a1, a2, a3⟩ := ok.2.2 q (by omega)
      have hnd : ¬ fg_df G A q := fun hd => by
        have := fg_Re_lt ok hR ⟨by omega, hd, hr⟩
        omega
      have he : fg_F A (fg_a G q) = fg_F A (fg_b G q) := Classical.byContradiction hnd
      refine fb_80_67 X _ _ N Q ?_
      rw [fx_cell hF 63 rfl, hG0.2.1, fz_le (by omega) (by omega), fz_t (by omega : q < 2147483648), fx_cell hF 78 rfl, fx_cell hF 79 rfl, g78, g79, fz_t (by omega : fg_a G q < 2147483648), fz_t (by omega : fg_b G q < 2147483648), (hS.1 _ a1).1, (hS.1 _ a2).1, he, nI_add]
      refine ⟨fun z => absurd z (by omega), fun _ => ⟨fz_in (by omega) (by omega), fz_in (by omega) (by omega), fz_in (by omega) (by omega), fz_in (by omega) (by omega), fun _ => ih (q + 1) k N A _ hm (by omega) (by omega) hF hS hR (fun r hr' => ?_), fun z => absurd rfl z⟩⟩
      by_cases z : r = q
      · rw [z]; exact hnd
      · exact hr r (by omega)
  | succ m ihm =>
    intro j
    induction j with
    | zero =>
      intro q k N A o2 hm hj hq hF hS hR hr
      have ht := hG0.2.2.2.1
      refine fb_80_67 X _ _ N Q ?_
      rw [fx_cell hF 63 rfl, hG0.2.1, fz_le (by omega) (by omega)]
      exact ⟨fun _ => kk N A hF hS ⟨k, hR, fun r hr' => hr r (by omega)⟩, fun z => absurd (by omega) z⟩
    | succ j ih =>
      intro q k N A o2 hm hj hq hF hS hR hr
      have ht := hG0.2.2.2.1
      obtain ⟨g78, g79, g80, ga, gb⟩ := hG0.2.2.2.2.2.2 q (by omega)
      obtain ⟨a1, a2, a3⟩ := ok.2.2 q (by omega)
      have hin : fm_inb (nI q) 4 := fz_in (by omega) (by omega)
      have hia : fm_inb (nI (fg_a G q)) 12 := fz_in (by omega) (by omega)
      have hib : fm_inb (nI (fg_b G q)) 12 := fz_in (by omega) (by omega)
      have go : fg_df G A q → fm_Cv (fm_PP X) 78 [.inl (.ref 63), .inl (.int (nI (fg_y G A q))), .inl (.int (nI (fg_z G A q))), .inl (.int (Int32.ofInt (-1))), .inl (.int (fg_x G q))] ((fm_uI N.1 82 q (nI 1), N.2), fm_SH) (fun N1 => fm_Cv (fm_PP X) 79 [.inl (.ref 63)] (N1, fm_SH) (fun N2 => ∀ o2, fm_Ev (fm_PP X) 80 (67, [some (.inl (.ref 63)), some (.inl (.int (nI 0))), o2], [], (N2, fm_SH)) Q) (fun e N3 => Q (.inr e) (N3, fm_SH))) (fun e N5 => Q (.inr e) (N5, fm_SH)) := fun hd => by
        have hfi : fg_fi G A q := ⟨by omega, hd, hr⟩
        have hklt := fg_Re_lt ok hR hfi
        have hFu := (fg_Re_Fu ok k A hR).1
        have hy12 : fg_y G A q < 12 := by unfold fg_y; split <;> assumption
        refine sp_78 hy12 ?_
        have hFn : fx_F fn_fs N (fm_uI (fm_uI (fm_uI (fm_uI (fm_uI N.1 82 q (nI 1)) 74 (fg_y G A q) (nI 1)) 83 (fg_y G A q) (nI (fg_z G A q))) 84 (fg_y G A q) (Int32.ofInt (-1))) 85 (fg_y G A q) (fg_x G q), N.2) := (((((fx_F.rf fn_fs N).up rfl).up rfl).up rfl).up rfl).up rfl
        refine sp_79 (tt := fg_t G) (A0 := fg_close G A q) (A := fg_close G A q) (fn_fr (fn_fr hG0 hF) hFn) ?_ (fg_Sq.rf (fg_close_I ok hFu hfi)) (fun N2 A2 b1 b2 b3 b4 o2 => ?_)
        · refine fn_put hS (fun i => by simp [fz_ui]) (fun i => by simp [fz_ui]) (fun i => by simp [fz_ui, fn_c]) (fun i => by simp [fz_ui]) (fun r hr' => ?_)
          by_cases z : r = q
          · subst z; rw [fg_up_eq]; simp [fz_ui]; rfl
          · rw [fg_up_ne _ _ z]; simp [fz_ui, z]; exact hS.2 r hr'
        · exact ihm _ 0 (k + 1) N2 A2 o2 (by omega) rfl (Nat.zero_le _) ((hF.tr hFn).tr b1) b2 ⟨A, q, hR, hfi, b3, b4⟩ (fun r hr' => absurd hr' (Nat.not_lt_zero r))
      refine fb_80_67 X _ _ N Q ?_
      rw [fx_cell hF 63 rfl, hG0.2.1, fz_le (by omega) (by omega), fz_t (by omega : q < 2147483648), fx_cell hF 78 rfl, fx_cell hF 79 rfl, fx_cell hF 80 rfl, g78, g79, g80, fz_t (by omega : fg_a G q < 2147483648), fz_t (by omega : fg_b G q < 2147483648), (hS.1 _ a1).1, (hS.1 _ a2).1, nI_add, fz_nb1, fz_bb, fz_be]
      refine ⟨fun z => absurd z (by omega), fun _ => ⟨hin, hia, hin, hib, fun he => ih (q + 1) k N A _ hm (by omega) (by omega) hF hS hR (fun r hr' => ?_), fun hne => ⟨hin, hin, hia, fun ha0 => ⟨hin, fun _ => ⟨hin, hin, ?_⟩, fun z => absurd ha0 z⟩, fun ha1 => ⟨hin, fun z => absurd z ha1, fun _ => ⟨hin, hin, ?_⟩⟩⟩⟩⟩
      · by_cases z : r = q
        · rw [z]; exact fun hd => hd he
        · exact hr r (by omega)
      · have e1 : fg_y G A q = fg_a G q := if_neg (by rw [ha0]; exact fun z => nomatch z)
        have e2 : fg_z G A q = fg_b G q := if_neg (by rw [ha0]; exact fun z => nomatch z)
        have g := go hne
        rw [e1, e2] at g
        refine fm_Ev.mono g fun oo MM ho => ?_
        split at ho
        · exact ⟨ho.1, fm_Ev.mono ho.2 fun o2 M2 h2 => (by
            split at h2
            · exact ⟨h2.1, h2.2 _⟩
            · exact h2
            · exact h2)⟩
        · exact ho
        · exact ho
      · have ha1' : fg_F A (fg_a G q) = true := by simpa using ha1
        have e1 : fg_y G A q = fg_b G q := if_pos ha1'
        have e2 : fg_z G A q = fg_a G q := if_pos ha1'
        have g := go hne
        rw [e1, e2] at g
        refine fm_Ev.mono g fun oo MM ho => ?_
        split at ho
        · exact ⟨ho.1, fm_Ev.mono ho.2 fun o2 M2 h2 => (by
            split at h2
            · exact ⟨h2.1, h2.2 _⟩
            · exact h2
            · exact h2)⟩
        · exact ho
        · exact ho
theorem lp_80b {N0 : fm_N} (hG0 : fn_G N0 G) {A : fg_A} (hK : ∀ q, fg_K A q = false) (kk : ∀ N' o2, fx_F fn_fs N0 N' → fn_S N' A (fg_n G) (fg_t G) → fm_Ev (fm_PP X) 80 (67, [some (.inl (.ref 63)), some (.inl (.int (nI 0))), o2], [], (N', fm_SH)) Q) :
    ∀ m q (N : fm_N) (o2 : Option fm_V), fg_t G - q = m → q ≤ fg_t G → fx_F fn_fs N0 N → fn_S N A (fg_n G) q → fm_Ev (fm_PP X) 80 (44, [some (.inl (.ref 63)), some (.inl (.int (nI q))), o2], [], (N, fm_SH)) Q := by
  have ht := hG0.2.2.2.1
  intro m
  induction m with
  | zero =>
    intro q N o2 hm hq hF hS
    refine fb_80_44 X _ _ N Q ?_
    rw [fx_cell hF 63 rfl, hG0.2.1, fz_le (by omega) (by omega)]
    have e : q = fg_t G := by omega
    subst e
    exact ⟨fun _ => kk N _ hF hS, fun z => absurd (by omega) z⟩
  | succ m ih =>
    intro q N o2 hm hq hF hS
    refine fb_80_44 X _ _ N Q ?_
    rw [fx_cell hF 63 rfl, hG0.2.1, fz_le (by omega) (by omega), fz_t (by omega : q < 2147483648), fz_nb0, nI_add]
    refine ⟨fun z => absurd z (by omega), fun _ => ⟨fz_in (by omega) (by omega), ih (q + 1) _ _ (by omega) (by omega) (hF.up rfl) ⟨fun i hi => ?_, fun r hr => ?_⟩⟩⟩
    · simp only [fz_ne _ _ (by decide : (74 : Nat) ≠ 82), fz_ne _ _ (by decide : (83 : Nat) ≠ 82), fz_ne _ _ (by decide : (84 : Nat) ≠ 82), fz_ne _ _ (by decide : (85 : Nat) ≠ 82)]
      exact hS.1 i hi
    · simp only [fz_at]
      by_cases z : r = q
      · rw [if_pos z, hK]; rfl
      · rw [if_neg z]; exact hS.2 r (by omega)
theorem lp_80a {N0 : fm_N} (hG0 : fn_G N0 G) (kk : ∀ N', fx_F fn_fs N0 N' → (∀ i, i < fg_n G → N'.1 74 i = fz_b (decide (i = 0)) ∧ N'.1 84 i = Int32.ofInt (-1)) → fm_Cv (fm_PP X) 79 [.inl (.ref 63)] (N', fm_SH) (fun N1 => ∀ o2, fm_Ev (fm_PP X) 80 (44, [some (.inl (.ref 63)), some (.inl (.int (nI 0))), o2], [], (N1, fm_SH)) Q) (fun e N2 => Q (.inr e) (N2, fm_SH))) :
    ∀ m k (N : fm_N) (o2 : Option fm_V), fg_n G - k = m → k ≤ fg_n G → fx_F fn_fs N0 N → (∀ i, i < k → N.1 74 i = fz_b (decide (i = 0)) ∧ N.1 84 i = Int32.ofInt (-1)) → fm_Ev (fm_PP X) 80 (2, [some (.inl (.ref 63)), some (.inl (.int (nI k))), o2], [], (N, fm_SH)) Q := by
  have h12 := hG0.2.2.1
  intro m
  induction m with
  | zero =>
    intro k N o2 hm hk hF hi
    refine fb_80_2 X _ _ N Q ?_
    rw [fx_cell hF 63 rfl, hG0.1, fz_le (by omega) (by omega)]
    refine ⟨fun _ => ?_, fun z => absurd (by omega) z⟩
    refine fm_Ev.mono (kk N hF (fun i h => hi i (by omega))) fun oo MM ho => ?_
    split at ho
    · exact ⟨ho.1, ho.2 _⟩
    · exact ho
    · exact ho
  | succ m ih =>
    intro k N o2 hm hk hF hi
    have hin : fm_inb (nI k) 12 := fz_in (by omega) (by omega)
    refine fb_80_2 X _ _ N Q ?_
    rw [fx_cell hF 63 rfl, hG0.1, fz_le (by omega) (by omega), fz_t (by omega : k < 2147483648), fz_nb0, fz_nb1, nI_add, fz_eq (by omega) (by omega)]
    refine ⟨fun z => absurd z (by omega), fun _ => ⟨fun h0 => ⟨hin, hin, ih (k + 1) _ _ (by omega) (by omega) ((hF.up rfl).up rfl) (fun i h => ?_)⟩, fun h0 => ⟨hin, hin, ih (k + 1) _ _ (by omega) (by omega) ((hF.up rfl).up rfl) (fun i h => ?_)⟩⟩⟩
    · by_cases z : i = k
      · subst z
        simp [fz_ui]
        subst h0
        exact rfl
      · simp [fz_ui, z]
        exact hi i (by omega)
    · by_cases z : i = k
      · subst z
        simp [fz_ui]
        rw [decide_eq_false h0]
        rfl
      · simp [fz_ui, z]
        exact hi i (by omega)
theorem sp_80 {N : fm_N} {A : fg_A} (hG : fn_G N G) (hA : fg_Fin G A) (kk : ∀ N', fx_F fn_fs N N' → fn_S N' A (fg_n G) (fg_t G) → K N') : fm_Cv (fm_PP X) 80 [.inl (.ref 63)] (N, fm_SH) K X' := by
  have ok := hG.2.2.2.2.1
  refine fe_80 X N K X' ?_
  refine lp_80a (N0 := N) hG (fun N1 a1 a2 => ?_) _ 0 N _ rfl (Nat.zero_le _) (fx_F.rf _ _) (fun i hi => absurd hi (Nat.not_lt_zero i))
  have hG1 := fn_fr hG a1
  have hS1 : ∀ t, (∀ q, q < t → N1.1 82 q = nI 0) → fn_S N1 fg_init (fg_n G) t := fun t hq => ⟨fun i hi => ⟨(a2 i hi).1, fun hF => ⟨(a2 i hi).2, fun h0 => absurd (of_decide_eq_true hF) h0⟩⟩, hq⟩
  refine sp_79 (tt := 0) (A0 := fg_init) hG1 (hS1 0 (fun q hq => absurd hq (Nat.not_lt_zero q))) (fg_Sq.rf (fg_init_I ok)) (fun N2 A2 b1 b2 b3 b4 o2 => ?_)
  have hK2 : ∀ q, fg_K A2 q = false := fun q => by rw [b3.2.2.2.1]; rfl
  refine lp_80b (N0 := N) hG (A := A2) hK2 (fun N3 o3 c1 c2 => ?_) _ 0 N2 _ rfl (Nat.zero_le _) (a1.tr b1) b2
  exact lp_80c (N0 := N) ok hG (fun N4 A4 d1 d2 d3 => ⟨rfl, kk N4 d1 (d2.eq (fg_Fin_uniq ok d3 hA))⟩) _ _ 0 0 N3 A2 o3 (Nat.le_refl _) rfl (Nat.zero_le _) c1 c2 ⟨b3, b4⟩ (fun r hr => absurd hr (Nat.not_lt_zero r))
end FNF
