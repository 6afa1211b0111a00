/-! the law: isClosed, turn, replaceFuse -/
section FJE
variable {X : Nat × (Nat → Int32)} {x5 : Int32} {o6 o7 o8 o9 : Option fm_V} {R N : fm_N} {Q : fm_O → fm_M → Prop} {A : fg_A} {o : Nat → Nat} {fc M u : Nat} {X' : Nat → fm_N → Prop} {Ki : Int32 → fm_N → Prop} {x : Int32}
theorem sp_63in0 {n : Nat} {c : Int32} (hc : c = nI n) (h12 : n ≤ 12) (h : ¬ fj_in x n) (k : Ki (nI 0) N) : fm_Ci (fm_PP X) 63 [.inl (.int x), .inl (.int (nI 0)), .inl (.int (c - nI 1))] (N, fm_SH) Ki X' := by
  by_cases h1 : 1 ≤ n
  · exact sp_63in hc h12 h1 h k
  · have e : n = 0 := by omega
    subst e
    rw [hc]
    refine fe_63 X _ _ _ N Ki X' ⟨fun _ => ⟨Or.inl rfl, rfl, k⟩, fun z => ⟨fun _ => ⟨Or.inl rfl, rfl, k⟩, fun y => absurd ?_ y⟩⟩
    have e1 : (nI 0 - nI 1).toInt = -1 := by decide
    rw [fz_ltI, fz_nI (by omega)] at z
    rw [fz_ltI, e1]
    omega
theorem sp_18y {t q : Nat} {b : Bool} (h9 : N.1 3 9 = nI t) (t4 : t ≤ 4) (hq : q < t) (c17 : N.1 17 q = fz_b b) (k : Ki (fz_b b) N) : fm_Ci (fm_PP X) 18 [.inl (.ref 0), .inl (.int (nI q))] (N, fm_SH) Ki X' := by
  refine fe_18 X _ N Ki X' ?_
  rw [h9, fz_t (by omega : q < 2147483648), c17, fz_lt (a := q) (b := 0) (by omega) (by omega), fz_lt (a := q) (b := t) (by omega) (by omega)]
  exact ⟨fun z => absurd z (by omega), fun _ => ⟨fun _ => ⟨fz_in (by omega) (by omega), fj_or b, rfl, k⟩, fun z => absurd hq z⟩⟩
theorem sp_18n {t : Nat} (h9 : N.1 3 9 = nI t) (t4 : t ≤ 4) (hx : ¬ fj_in x t) (k : X' 3 (fj_g N)) : fm_Ci (fm_PP X) 18 [.inl (.ref 0), .inl (.int x)] (N, fm_SH) Ki X' := by
  refine fe_18 X _ N Ki X' ?_
  exact ⟨fun _ => ⟨rfl, k⟩, fun z => ⟨fun y => absurd (fj_in_of z (by rw [h9] at y; exact y) (by omega)) hx, fun _ => ⟨rfl, k⟩⟩⟩
theorem sp_94y {q : Nat} (ic : fk_ic R A o fc M) (hC : fn_cp R N M) (hq : q < fg_t (fk_gG R)) (kk : ∀ N', fj_n N N' → N'.1 63 31 = nI 0 → Ki (fz_b (fg_K A q)) N') : fm_Ci (fm_PP X) 94 [.inl (.ref 63), .inl (.int (nI q))] (N, fm_SH) Ki X' := by
  have t4 := ic.1.2.2.2.1
  refine fe_94 X _ N Ki X' (sp_80 (fn_G.of ic.1 hC) ic.2.2.1 (fun N1 a1 a2 => ?_))
  have a26 : N1.1 63 26 = nI (fg_t (fk_gG R)) := by rw [a1.1 63 rfl]; exact (fn_G.of ic.1 hC).2.1
  have e82 : fm_uI N1.1 63 31 (nI 0) 82 q = fz_b (fg_K A q) := by simp [fm_uI]; exact a2.2 q hq
  have K2 : Ki (fz_b (fg_K A q)) (fm_uI N1.1 63 31 (nI 0), N1.2) := kk _ ((fj_n.F a1 (by intro c hc; simp at hc ⊢; omega) rfl rfl).tr (fj_n.th _ _)) (by simp [fm_uI])
  refine sp_63iy (n := fg_t (fk_gG R)) a26 (by omega) hq ⟨fun z => absurd z fj_n1, fun _ => sp_64n ⟨fun _ => ⟨fz_in (by omega) (by omega), ?_⟩, fun z => absurd rfl z⟩⟩
  rw [fz_t (by omega : q < 2147483648)]
  cases hF : fg_K A q
  · rw [hF] at e82 K2
    exact ⟨fun _ => ⟨Or.inl rfl, rfl, K2⟩, fun y => absurd e82 y⟩
  · rw [hF] at e82 K2
    exact ⟨fun y => absurd (e82.symm.trans y) fj_n1, fun _ => ⟨Or.inr rfl, rfl, K2⟩⟩
theorem sp_94n (ic : fk_ic R A o fc M) (hC : fn_cp R N M) (hx : ¬ fj_in x (fg_t (fk_gG R))) (kk : ∀ N', fj_n N N' → N'.1 63 31 = nI 1 → Ki (nI 0) N') : fm_Ci (fm_PP X) 94 [.inl (.ref 63), .inl (.int x)] (N, fm_SH) Ki X' := by
  have t4 := ic.1.2.2.2.1
  refine fe_94 X _ N Ki X' (sp_80 (fn_G.of ic.1 hC) ic.2.2.1 (fun N1 a1 a2 => ?_))
  have a26 : N1.1 63 26 = nI (fg_t (fk_gG R)) := by rw [a1.1 63 rfl]; exact (fn_G.of ic.1 hC).2.1
  exact sp_63in0 (n := fg_t (fk_gG R)) a26 (by omega) hx ⟨fun _ => sp_64y ⟨fun z => absurd z fj_n1, fun _ => ⟨Or.inl rfl, rfl, kk _ ((fj_n.F a1 (by intro c hc; simp at hc ⊢; omega) rfl rfl).tr (fj_n.th _ _)) (by simp [fm_uI])⟩⟩, fun z => absurd rfl z⟩
theorem lw_1137 (hI : fj_I N A o fc M) (h1 : fm_inb (x5 + nI 1) X.1) (H : fj_H X x5 (N.2.2.2 + 1) Q) : fm_Ev (fm_PP X) 0 (1137, [some (.inl (.ref 999999)), some (.inl (.ref 0)), some (.inl (.ref 63)), some (.inl (.ref 89)), some (.inl (.ref 90)), some (.inl (.int x5)), o6, o7, o8, o9], [], (N, fm_SH)) Q := by
  obtain ⟨⟨c25, c26, c27, c28, c29, c32⟩, ⟨c64, c65, c66, c67, c68, c69, c70⟩, c71, c72, ⟨c78, c79, c80⟩, cR⟩ := hI.2.1
  have hG := hI.1.1
  have hn := hG.1
  have h12 := hG.2.2.1
  have n1 := hG.2.2.2.2.1.1
  have h25 := c25.trans hn
  refine fb_0_1137 X _ _ _ _ _ N Q ?_
  refine ⟨h1, ?_⟩
  generalize X.2 (x5 + nI 1).toNatClampNeg = x
  have t4 := hG.2.2.2.1
  by_cases hx : fj_in x (fg_t (fk_gG N))
  · obtain ⟨q, hq, rfl⟩ := hx
    have c17 := hI.1.2.1.2.1 q (by omega)
    refine fe_156 X _ N _ _ (sp_18y hG.2.1 t4 hq c17 ?_)
    cases hF : fg_K A q
    · refine ⟨fun _ => ⟨fz_in (by omega) (by omega), rfl, h1, ?_⟩, fun z => absurd rfl z⟩
      have q1 : fj_q 0 N (N.1, fm_uI N.2.1 89 ((nI 0).toNatClampNeg) (Int64.ofNat 0), N.2.2) := fj_q.lo _ _
      refine sp_94y (q1.ic hI.1) (q1.cp q1 hI.2.1) (by rw [q1.gG]; exact hq) (fun N2 b1 b2 => sp_62 (fj_endb (b := fg_K A q) b2 (H _ _ _ _ _ _ _ _ _ ((q1.tr b1.1).I hI) ?_) (fun _ => ⟨rfl, ?_⟩)))
      · rw [b1.2]; exact Nat.le_succ _
      · rw [b1.2, hF]
        dsimp only
        rw [fj_t0, fz_at, if_pos rfl]; rfl
    · refine ⟨fun z => absurd z fj_n1, fun _ => ⟨fz_in (by omega) (by omega), rfl, h1, ?_⟩⟩
      have q1 : fj_q 0 N (N.1, fm_uI N.2.1 89 ((nI 0).toNatClampNeg) (Int64.ofNat 1), N.2.2) := fj_q.lo _ _
      refine sp_94y (q1.ic hI.1) (q1.cp q1 hI.2.1) (by rw [q1.gG]; exact hq) (fun N2 b1 b2 => sp_62 (fj_endb (b := fg_K A q) b2 (H _ _ _ _ _ _ _ _ _ ((q1.tr b1.1).I hI) ?_) (fun _ => ⟨rfl, ?_⟩)))
      · rw [b1.2]; exact Nat.le_succ _
      · rw [b1.2, hF]
        dsimp only
        rw [fj_t0, fz_at, if_pos rfl]; rfl
  · refine fe_156 X _ N _ _ (sp_18n hG.2.1 t4 hx ⟨fun _ => ⟨rfl, h1, ?_⟩, fun z => absurd rfl z⟩)
    refine sp_94n ((fj_q.gc N).ic hI.1) ((fj_q.gc N).cp (fj_q.gc N) hI.2.1) hx (fun N2 b1 b2 => sp_62 (fj_endb (b := false) b2 (H _ _ _ _ _ _ _ _ _ (((fj_q.gc N).tr b1.1).I hI) ?_) (fun z => absurd z fj_n1)))
    rw [b1.2]; exact Nat.le_refl _
theorem lw_1513 (hI : fj_I N A o fc M) (h1 : fm_inb (x5 + nI 1) X.1) (H : fj_H X x5 (N.2.2.2 + 1) Q) : fm_Ev (fm_PP X) 0 (1513, [some (.inl (.ref 999999)), some (.inl (.ref 0)), some (.inl (.ref 63)), some (.inl (.ref 89)), some (.inl (.ref 90)), some (.inl (.int x5)), o6, o7, o8, o9], [], (N, fm_SH)) Q := by
  obtain ⟨⟨c25, c26, c27, c28, c29, c32⟩, ⟨c64, c65, c66, c67, c68, c69, c70⟩, c71, c72, ⟨c78, c79, c80⟩, cR⟩ := hI.2.1
  have hG := hI.1.1
  have hn := hG.1
  have h12 := hG.2.2.1
  have n1 := hG.2.2.2.2.1.1
  have h25 := c25.trans hn
  refine fb_0_1513 X _ _ _ _ _ N Q ?_
  refine ⟨h1, ?_⟩
  generalize X.2 (x5 + nI 1).toNatClampNeg = x
  have hm := fl_n_le (N.1 21) (fg_n (fk_gG N))
  refine fe_162 X _ N _ _ (fe_26 X _ N _ _ ?_)
  rw [hn]
  refine sp_116 h12 (fun N1 a1 a2 a3 a4 => ?_)
  have q0 : fj_q 0 N N1 := fj_q.F a1 (by intro c hc; simp at hc ⊢; omega) a2 (fun i _ _ => by rw [a1.1 63 rfl])
  rw [a3]
  by_cases hx : fj_in x (fl_n (N.1 21) (fg_n (fk_gG N)))
  · obtain ⟨p, hp, rfl⟩ := hx
    have pb := fz_in (n := 12) (by omega : p < 12) (by omega)
    have pt := fz_t (n := p) (by omega)
    refine ⟨fun z => absurd z (by rw [fz_lt (by omega) (by omega)]; omega), fun _ => ⟨fun _ => ⟨pb, rfl, fz_in (by omega) (by omega), rfl, h1, ?_⟩, fun z => absurd (by rw [fz_lt (by omega) (by omega)]; exact hp) z⟩⟩
    have q1 : fj_q 0 N (N1.1, fm_uI N1.2.1 89 ((nI 0).toNatClampNeg) (N1.1 23 (nI p).toNatClampNeg).toInt64, N1.2.2) := q0.tr (fj_q.lo _ _)
    have e68 : N1.1 68 = N.1 21 := (q0.1 68 rfl).trans c68
    have e69 : N1.1 69 = N.1 22 := (q0.1 69 rfl).trans c69
    refine fe_102 X _ _ _ _ (sp_84 (n := fg_n (fk_gG N)) h12 (by exact (q0.2.2.1 25 (by decide) (by decide)).trans h25) (fun N2 b1 b2 => ?_))
    dsimp only at b2
    rw [e68, e69] at b2
    refine sp_63iy (n := fl_n (N.1 21) (fg_n (fk_gG N))) (by dsimp only; rw [e68]) (by omega) hp ⟨fun z => absurd z fj_n1, fun _ => sp_64n ⟨fun _ => ⟨pb, rfl, sp_62 (fj_end ?_ (H _ _ _ _ _ _ _ _ _ ((q1.tr ((fj_n.F b1 (by intro c hc; simp at hc ⊢; omega) rfl rfl).tr (fj_n.th _ _)).1).I hI) ?_) (fun _ => ?_))⟩, fun z => absurd rfl z⟩⟩
    · simp [fm_uI]
    · dsimp only
      rw [b1.2]
      exact Nat.le_trans q0.2.2.2.2.2 (Nat.le_succ _)
    · rw [pt]
      dsimp only
      rw [b1.2, fz_ne _ _ (by decide : (88 : Nat) ≠ 63), (b2 p hp).1, fj_t0]
      dsimp only
      rw [fz_at, if_pos rfl, pt, (a4 p hp).1]
  · have hx' := hx
    refine ⟨fun _ => ⟨rfl, ?_⟩, fun z => ⟨fun y => absurd (fj_in_of z y (by omega)) hx, fun _ => ⟨rfl, ?_⟩⟩⟩
    · refine ⟨fun _ => ⟨rfl, h1, ?_⟩, fun z => absurd rfl z⟩
      have q1 : fj_q 1 N (fj_g N1) := (q0.tr (fj_q.gc N1)).mo (by omega)
      have e68 : N1.1 68 = N.1 21 := (q0.1 68 rfl).trans c68
      refine fe_102 X _ _ _ _ (sp_84 (n := fg_n (fk_gG N)) h12 (by exact (q0.2.2.1 25 (by decide) (by decide)).trans h25) (fun N2 b1 b2 => ?_))
      refine sp_63in0 (n := fl_n (N.1 21) (fg_n (fk_gG N))) (by dsimp only; rw [e68]) (by omega) hx ⟨fun _ => sp_64y ⟨fun z => absurd z fj_n1, fun _ => ⟨rfl, sp_62 (fj_end ?_ (H _ _ _ _ _ _ _ _ _ ((q1.tr ((fj_n.F b1 (by intro c hc; simp at hc ⊢; omega) rfl rfl).tr (fj_n.th _ _)).1).I hI) ?_) (fun z => absurd z fj_n1))⟩⟩, fun z => absurd rfl z⟩
      · simp [fm_uI]
      · dsimp only
        rw [b1.2]
        exact Nat.succ_le_succ q0.2.2.2.2.2
    · refine ⟨fun _ => ⟨rfl, h1, ?_⟩, fun z => absurd rfl z⟩
      have q1 : fj_q 1 N (fj_g N1) := (q0.tr (fj_q.gc N1)).mo (by omega)
      have e68 : N1.1 68 = N.1 21 := (q0.1 68 rfl).trans c68
      refine fe_102 X _ _ _ _ (sp_84 (n := fg_n (fk_gG N)) h12 (by exact (q0.2.2.1 25 (by decide) (by decide)).trans h25) (fun N2 b1 b2 => ?_))
      refine sp_63in0 (n := fl_n (N.1 21) (fg_n (fk_gG N))) (by dsimp only; rw [e68]) (by omega) hx ⟨fun _ => sp_64y ⟨fun z => absurd z fj_n1, fun _ => ⟨rfl, sp_62 (fj_end ?_ (H _ _ _ _ _ _ _ _ _ ((q1.tr ((fj_n.F b1 (by intro c hc; simp at hc ⊢; omega) rfl rfl).tr (fj_n.th _ _)).1).I hI) ?_) (fun z => absurd z fj_n1))⟩⟩, fun z => absurd rfl z⟩
      · simp [fm_uI]
      · dsimp only
        rw [b1.2]
        exact Nat.succ_le_succ q0.2.2.2.2.2
end FJE
