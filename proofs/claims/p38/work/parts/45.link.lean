/-! the law's own net, and who feeds whom in it: depth first -/
def fl_G (N : fm_N) (G : fg_G) : Prop := N.1 0 0 = nI (fg_n G) ∧ N.1 0 1 = nI (fg_t G) ∧ fg_n G ≤ 8 ∧ fg_t G ≤ 4 ∧ fg_ok G ∧
  (∀ i, i < 8 → N.1 0 (10 + i) = nI (fg_p G i) ∧ N.1 0 (150 + i) = fz_b (!fg_w G i) ∧ N.1 0 (30 + i) = fg_r G i) ∧
  (∀ q, q < 4 → N.1 0 (340 + 3 * q) = nI (fg_a G q) ∧ N.1 0 (341 + 3 * q) = nI (fg_b G q) ∧ N.1 0 (342 + 3 * q) = fg_x G q)
/-- how a cable's number is kept; -1 for none -/
def fl_c (c : Nat) : Int32 := if c = 0 then Int32.ofInt (-1) else nI c
theorem fl_c_pos {c : Nat} (h : 1 ≤ c) : fl_c c = nI c := if_neg (by omega)
/-- what the law's net holds of the feeding -/
def fl_S (N : fm_N) (A : fg_A) : Prop := (∀ i, i < 8 → N.1 0 (400 + i) = fz_b (fg_F A i)) ∧
  (∀ i, i < 8 → fg_F A i = true → (i ≠ 0 → N.1 0 (420 + i) = nI (fg_D A i)) ∧ N.1 0 (440 + i) = fl_c (fg_C A i) ∧ N.1 0 (460 + i) = fg_S A i) ∧
  (∀ q, q < 4 → N.1 0 (480 + q) = fz_b (fg_K A q))
/-- all cells alike but the law's net from place a on -/
def fl_F (a : Nat) (N N' : fm_N) : Prop := (∀ c, c ≠ 0 → N'.1 c = N.1 c) ∧ (∀ i, i < a → N'.1 0 i = N.1 0 i) ∧ N'.2 = N.2
theorem fl_F.rf (a : Nat) (N : fm_N) : fl_F a N N := ⟨fun _ _ => rfl, fun _ _ => rfl, rfl⟩
theorem fl_F.tr {a : Nat} {N N' N'' : fm_N} (h : fl_F a N N') (k : fl_F a N' N'') : fl_F a N N'' := ⟨fun c hc => (k.1 c hc).trans (h.1 c hc), fun i hi => (k.2.1 i hi).trans (h.2.1 i hi), k.2.2.trans h.2.2⟩
theorem fl_F.up {a : Nat} {N N' : fm_N} (h : fl_F a N N') {j : Nat} {v : Int32} (hj : a ≤ j) : fl_F a N (fm_uI N'.1 0 j v, N'.2) := ⟨fun c hc => (fz_ne _ _ hc).trans (h.1 c hc), fun i hi => by
  show fm_uI N'.1 0 j v 0 i = _
  rw [fz_at, if_neg (by omega)]
  exact h.2.1 i hi, h.2.2⟩
theorem fl_G.fr {N N' : fm_N} {G : fg_G} (h : fl_G N G) (hF : fl_F 400 N N') : fl_G N' G := by
  obtain ⟨h1, h2, h3, h4, h5, h6, h7⟩ := h
  have e := hF.2.1
  refine ⟨by rw [e 0 (by omega)]; exact h1, by rw [e 1 (by omega)]; exact h2, h3, h4, h5, fun i hi => ?_, fun q hq => ?_⟩
  · rw [e (10 + i) (by omega), e (150 + i) (by omega), e (30 + i) (by omega)]; exact h6 i hi
  · rw [e (340 + 3 * q) (by omega), e (341 + 3 * q) (by omega), e (342 + 3 * q) (by omega)]; exact h7 q hq
/-- the fed nodes can be told in an order in which each one's feeder comes before it -/
def fl_O (A : fg_A) : Prop := ∃ o fc, ft_ok (fg_F A) o (fg_D A) fc ∧ fc = fg_cn (fg_F A) 12
theorem fl_O_up {A : fg_A} {u f c : Nat} {r : Int32} (h : fl_O A) (hu : fg_F A u = false) (h12 : u < 12) (hf : fg_F A f = true) : fl_O (fg_feed A u f c r) := by
  obtain ⟨o, fc, h1, h2⟩ := h
  have hfc : fc < 12 := by rw [h2]; exact fg_cn_lt hu 12 h12
  refine ⟨fg_up o fc u, fc + 1, fk_ok_up h1 hu h12 hf hfc, ?_⟩
  show fc + 1 = fg_cn (fg_up (fg_F A) u true) 12
  rw [fg_cn_up hu, if_pos h12, ← h2]
theorem fl_S_feed {N : fm_N} {A : fg_A} {u f c : Nat} {x r : Int32} (h : fl_S N A) (hu : u < 8) (hx : u ≠ 0 → x = nI f) : fl_S (fm_uI (fm_uI (fm_uI (fm_uI N.1 0 (400 + u) (nI 1)) 0 (420 + u) x) 0 (440 + u) (fl_c c)) 0 (460 + u) r, N.2) (fg_feed A u f c r) := by
  have hz : ∀ j, fm_uI (fm_uI (fm_uI (fm_uI N.1 0 (400 + u) (nI 1)) 0 (420 + u) x) 0 (440 + u) (fl_c c)) 0 (460 + u) r 0 j = if j = 460 + u then r else if j = 440 + u then fl_c c else if j = 420 + u then x else if j = 400 + u then nI 1 else N.1 0 j := fun j => by simp only [fz_at]
  obtain ⟨h1, h2, h3⟩ := h
  refine ⟨fun i hi => ?_, fun i hi hF => ?_, fun q hq => ?_⟩
  · show fm_uI _ _ _ _ 0 (400 + i) = fz_b (fg_up (fg_F A) u true i)
    rw [hz, if_neg (by omega), if_neg (by omega), if_neg (by omega)]
    by_cases z : i = u
    · subst z
      rw [if_pos rfl, fg_up_eq]
      rfl
    · rw [if_neg (by omega), fg_up_ne _ _ z]
      exact h1 i hi
  · show (i ≠ 0 → fm_uI _ _ _ _ 0 (420 + i) = nI (fg_up (fg_D A) u f i)) ∧ fm_uI _ _ _ _ 0 (440 + i) = fl_c (fg_up (fg_C A) u c i) ∧ fm_uI _ _ _ _ 0 (460 + i) = fg_up (fg_S A) u r i
    rw [hz, hz, hz, if_neg (by omega : ¬ 420 + i = 460 + u), if_neg (by omega : ¬ 420 + i = 440 + u), if_neg (by omega : ¬ 440 + i = 460 + u)]
    by_cases z : i = u
    · subst z
      rw [if_pos rfl, if_pos rfl, if_pos rfl, fg_up_eq, fg_up_eq, fg_up_eq]
      exact ⟨hx, rfl, rfl⟩
    · have hF' : fg_F A i = true := by
        have h9 : fg_up (fg_F A) u true i = true := hF
        rw [fg_up_ne _ _ z] at h9
        exact h9
      rw [if_neg (by omega), if_neg (by omega), if_neg (by omega), if_neg (by omega), if_neg (by omega), if_neg (by omega), if_neg (by omega), if_neg (by omega), if_neg (by omega), fg_up_ne _ _ z, fg_up_ne _ _ z, fg_up_ne _ _ z]
      exact h2 i hi hF'
  · show fm_uI _ _ _ _ 0 (480 + q) = fz_b (fg_K A q)
    rw [hz, if_neg (by omega), if_neg (by omega), if_neg (by omega), if_neg (by omega)]
    exact h3 q hq
/-- a call of the law's 'link', by a method of that number, that may go d deep -/
def fl_LK (X : Nat × (Nat → Int32)) (m d : Nat) : Prop := ∀ (G : fg_G) (A0 A : fg_A) (N : fm_N) (u f c : Nat) (x r : Int32) (K : fm_N → Prop) (X' : Nat → fm_N → Prop), fl_G N G → fl_S N A → u < fg_n G → (u ≠ 0 → x = nI f) →
  (fg_F A u = true → 1 ≤ d) → (fg_F A u = false → 9 ≤ fg_cn (fg_F A) 8 + d ∧ fg_Sq G A0 (fg_feed A u f c r) ∧ fl_O (fg_feed A u f c r)) →
  (∀ N' A', fl_F 400 N N' → fl_S N' A' → (∀ v, fg_F A v = true → fg_F A' v = true) → fg_F A' u = true → (fg_F A u = false → fg_Sq G A0 A' ∧ fl_O A') → (fg_F A u = true → A' = A) → (∀ v, fg_F A' v = true → fg_F A v = true ∨ fk_inc G A' v) → K N') →
  fm_Cv (fm_PP X) m [.inl (.ref 0), .inl (.int (nI u)), .inl (.int x), .inl (.int (fl_c c)), .inl (.int r)] (N, fm_SH) K X'
abbrev fl_e_link (X : Nat × (Nat → Int32)) (M C : Nat) : Prop := ∀ (x1 : Int32) (x2 : Int32) (x3 : Int32) (x4 : Int32) (N : fm_N) (K : fm_N → Prop) (X' : Nat → fm_N → Prop), (fm_inb ((nI 400) + x1) 500 ∧ (((N.1 0 (((nI 400) + x1).toNatClampNeg)) = nI 0 → (fm_inb ((nI 400) + x1) 500 ∧ (fm_inb ((nI 420) + x1) 500 ∧ (fm_inb ((nI 440) + x1) 500 ∧ (fm_inb ((nI 460) + x1) 500 ∧ fm_Ev (fm_PP X) M (46, [some (.inl (.ref 0)), some (.inl (.int x1)), some (.inl (.int x2)), some (.inl (.int x3)), some (.inl (.int x4)), some (.inl (.int (nI 1)))], [], (((fm_uI (fm_uI (fm_uI (fm_uI N.1 0 (((nI 400) + x1).toNatClampNeg) (nI 1)) 0 (((nI 420) + x1).toNatClampNeg) x2) 0 (((nI 440) + x1).toNatClampNeg) x3) 0 (((nI 460) + x1).toNatClampNeg) x4), N.2), fm_SH)) (fm_Qv fm_SH K X')))))) ∧ (¬ ((N.1 0 (((nI 400) + x1).toNatClampNeg)) = nI 0) → (fm_SH = fm_SH ∧ K N)))) → fm_Cv (fm_PP X) M [.inl (.ref 0), .inl (.int x1), .inl (.int x2), .inl (.int x3), .inl (.int x4)] (N, fm_SH) K X'
abbrev fl_b_link (X : Nat × (Nat → Int32)) (M C : Nat) : Prop := ∀ (x1 : Int32) (o2 : Option fm_V) (o3 : Option fm_V) (o4 : Option fm_V) (x5 : Int32) (N : fm_N) (Q : fm_O → fm_M → Prop), (fm_inb (nI 0) 500 ∧ (((N.1 0 ((nI 0).toNatClampNeg)) ≤ x5 → Q (.inl none) (N, fm_SH)) ∧ (¬ ((N.1 0 ((nI 0).toNatClampNeg)) ≤ x5) → (fm_inb ((nI 150) + x5) 500 ∧ (((N.1 0 (((nI 150) + x5).toNatClampNeg)) = nI 0 → ((x5 = x1 → ((x5 = x1 → (fm_inb ((nI 10) + x5) 500 ∧ (fm_inb ((nI 30) + x5) 500 ∧ fm_Cv (fm_PP X) C [.inl (.ref 0), .inl (.int (N.1 0 (((nI 10) + x5).toNatClampNeg))), .inl (.int x1), .inl (.int x5), .inl (.int (N.1 0 (((nI 30) + x5).toNatClampNeg)))] (N, fm_SH) (fun N4 => fm_Ev (fm_PP X) M (46, [some (.inl (.ref 0)), some (.inl (.int x1)), o2, o3, o4, some (.inl (.int (x5 + (nI 1))))], [], (N4, fm_SH)) Q) (fun e6 N5 => Q (.inr e6) (N5, fm_SH))))) ∧ (¬ (x5 = x1) → (fm_inb ((nI 30) + x5) 500 ∧ fm_Cv (fm_PP X) C [.inl (.ref 0), .inl (.int x5), .inl (.int x1), .inl (.int x5), .inl (.int (N.1 0 (((nI 30) + x5).toNatClampNeg)))] (N, fm_SH) (fun N1 => fm_Ev (fm_PP X) M (46, [some (.inl (.ref 0)), some (.inl (.int x1)), o2, o3, o4, some (.inl (.int (x5 + (nI 1))))], [], (N1, fm_SH)) Q) (fun e3 N2 => Q (.inr e3) (N2, fm_SH)))))) ∧ (¬ (x5 = x1) → (fm_inb ((nI 10) + x5) 500 ∧ (((N.1 0 (((nI 10) + x5).toNatClampNeg)) = x1 → ((x5 = x1 → (fm_inb ((nI 10) + x5) 500 ∧ (fm_inb ((nI 30) + x5) 500 ∧ fm_Cv (fm_PP X) C [.inl (.ref 0), .inl (.int (N.1 0 (((nI 10) + x5).toNatClampNeg))), .inl (.int x1), .inl (.int x5), .inl (.int (N.1 0 (((nI 30) + x5).toNatClampNeg)))] (N, fm_SH) (fun N10 => fm_Ev (fm_PP X) M (46, [some (.inl (.ref 0)), some (.inl (.int x1)), o2, o3, o4, some (.inl (.int (x5 + (nI 1))))], [], (N10, fm_SH)) Q) (fun e12 N11 => Q (.inr e12) (N11, fm_SH))))) ∧ (¬ (x5 = x1) → (fm_inb ((nI 30) + x5) 500 ∧ fm_Cv (fm_PP X) C [.inl (.ref 0), .inl (.int x5), .inl (.int x1), .inl (.int x5), .inl (.int (N.1 0 (((nI 30) + x5).toNatClampNeg)))] (N, fm_SH) (fun N7 => fm_Ev (fm_PP X) M (46, [some (.inl (.ref 0)), some (.inl (.int x1)), o2, o3, o4, some (.inl (.int (x5 + (nI 1))))], [], (N7, fm_SH)) Q) (fun e9 N8 => Q (.inr e9) (N8, fm_SH)))))) ∧ (¬ ((N.1 0 (((nI 10) + x5).toNatClampNeg)) = x1) → fm_Ev (fm_PP X) M (46, [some (.inl (.ref 0)), some (.inl (.int x1)), o2, o3, o4, some (.inl (.int (x5 + (nI 1))))], [], (N, fm_SH)) Q)))))) ∧ (¬ ((N.1 0 (((nI 150) + x5).toNatClampNeg)) = nI 0) → fm_Ev (fm_PP X) M (46, [some (.inl (.ref 0)), some (.inl (.int x1)), o2, o3, o4, some (.inl (.int (x5 + (nI 1))))], [], (N, fm_SH)) Q)))))) → fm_Ev (fm_PP X) M (46, [some (.inl (.ref 0)), some (.inl (.int x1)), o2, o3, o4, some (.inl (.int x5))], [], (N, fm_SH)) Q
theorem lk_gen {X : Nat × (Nat → Int32)} {M C d : Nat} (he : fl_e_link X M C) (hb : fl_b_link X M C) (ih : fl_LK X C d) : fl_LK X M (d + 1) := by
  intro G A0 A N u f c x r K X' hG hS hun hx hd1 hd0 kk
  have hn8 := hG.2.2.1
  have ok := hG.2.2.2.2.1
  have hu8 : u < 8 := by omega
  refine he _ _ _ _ N K X' ?_
  simp (disch := omega) only [nI_add, fz_t, hS.1 u hu8, fz_be]
  refine ⟨fz_in (by omega) (by omega), fun hu => ⟨fz_in (by omega) (by omega), fz_in (by omega) (by omega), fz_in (by omega) (by omega), fz_in (by omega) (by omega), ?_⟩, fun hu => ⟨trivial, ?_⟩⟩
  · obtain ⟨q1, q2, q3⟩ := hd0 hu
    have loop : ∀ m k (N1 : fm_N) (A1 : fg_A) (o2 o3 o4 : Option fm_V), fg_n G - k = m → 1 ≤ k → k ≤ fg_n G → fl_F 400 N N1 → fl_S N1 A1 → fg_Sq G A0 A1 → fl_O A1 → fg_F A1 u = true → (∀ v, fg_F A v = true → fg_F A1 v = true) → 9 ≤ fg_cn (fg_F A1) 8 + d →
        (∀ v, fg_F A1 v = true → fg_F A v = true ∨ v = u ∨ fk_inc G A1 v) → (∀ e, fg_cb G e → e < k → (e = u ∨ fg_p G e = u) → fg_F A1 e = true ∧ fg_F A1 (fg_p G e) = true) →
        fm_Ev (fm_PP X) M (46, [some (.inl (.ref 0)), some (.inl (.int (nI u))), o2, o3, o4, some (.inl (.int (nI k)))], [], (N1, fm_SH)) (fm_Qv fm_SH K X') := by
      intro m
      induction m with
      | zero =>
        intro k N1 A1 o2 o3 o4 hm hk1 hkn hF1 hS1 hQ hO hAu hmo hcn hcl hin
        have hG1 := hG.fr hF1
        refine hb _ _ _ _ _ N1 _ ?_
        simp (disch := omega) only [fz_t, hG1.1, fz_le]
        refine ⟨fz_in (by omega) (by omega), fun _ => ⟨rfl, kk N1 A1 hF1 hS1 hmo hAu (fun _ => ⟨hQ, hO⟩) (fun z => absurd z (by rw [hu]; decide)) (fun v hv => ?_)⟩, fun z => absurd (by omega) z⟩
        rcases hcl v hv with z | z | z
        · exact Or.inl z
        · subst z; exact Or.inr fun e he hev => hin e he (by have := he.2.1; omega) hev
        · exact Or.inr z
      | succ m ihm =>
        intro k N1 A1 o2 o3 o4 hm hk1 hkn hF1 hS1 hQ hO hAu hmo hcn hcl hin
        have hG1 := hG.fr hF1
        have hk8 : k < 8 := by omega
        obtain ⟨g10, g150, g30⟩ := hG1.2.2.2.2.2.1 k hk8
        have hpk : fg_p G k < k := ok.2.1 k hk1 (by omega)
        have hcn8 : fg_cn (fg_F A1) 8 ≤ 8 := fg_cn_le _ 8
        have skip : ¬ (fg_w G k = true ∧ (k = u ∨ fg_p G k = u)) → fm_Ev (fm_PP X) M (46, [some (.inl (.ref 0)), some (.inl (.int (nI u))), o2, o3, o4, some (.inl (.int (nI (k + 1))))], [], (N1, fm_SH)) (fm_Qv fm_SH K X') := fun hno =>
          ihm (k + 1) N1 A1 o2 o3 o4 (by omega) (by omega) (by omega) hF1 hS1 hQ hO hAu hmo hcn hcl (fun e he hlt hev => by
            by_cases z : e = k
            · subst z; exact absurd ⟨he.2.2, hev⟩ hno
            · exact hin e he (by omega) hev)
        have go : ∀ y, y < fg_n G → (fg_F A1 y = false → fg_Sq G A0 (fg_feed A1 y u k (fg_r G k))) → (∀ A2 : fg_A, (∀ v, fg_F A1 v = true → fg_F A2 v = true) → fg_F A2 y = true → fg_F A2 k = true ∧ fg_F A2 (fg_p G k) = true) →
            fm_Cv (fm_PP X) C [.inl (.ref 0), .inl (.int (nI y)), .inl (.int (nI u)), .inl (.int (nI k)), .inl (.int (fg_r G k))] (N1, fm_SH) (fun N4 => fm_Ev (fm_PP X) M (46, [some (.inl (.ref 0)), some (.inl (.int (nI u))), o2, o3, o4, some (.inl (.int (nI (k + 1))))], [], (N4, fm_SH)) (fm_Qv fm_SH K X')) (fun e6 N5 => fm_Qv fm_SH K X' (.inr e6) (N5, fm_SH)) := by
          intro y hy hsq hpost
          have h := ih G A0 A1 N1 y u k (nI u) (fg_r G k) (fun N4 => fm_Ev (fm_PP X) M (46, [some (.inl (.ref 0)), some (.inl (.int (nI u))), o2, o3, o4, some (.inl (.int (nI (k + 1))))], [], (N4, fm_SH)) (fm_Qv fm_SH K X')) (fun e6 N5 => fm_Qv fm_SH K X' (.inr e6) (N5, fm_SH)) hG1 hS1 hy (fun _ => rfl) (fun _ => by omega) (fun hF => ⟨hcn, hsq hF, fl_O_up hO hF (by omega) hAu⟩) (fun N2 A2 a1 a2 a3 a4 a5 a6 a7 => by
            have hQ2 : fg_Sq G A0 A2 ∧ fl_O A2 := by
              cases hF : fg_F A1 y
              · exact a5 hF
              · rw [a6 hF]; exact ⟨hQ, hO⟩
            refine ihm (k + 1) N2 A2 o2 o3 o4 (by omega) (by omega) (by omega) (hF1.tr a1) a2 hQ2.1 hQ2.2 (a3 u hAu) (fun v hv => a3 v (hmo v hv)) (Nat.le_trans hcn (Nat.add_le_add_right (fg_cn_sub 8 (fun i _ hi => a3 i hi)) d)) (fun v hv => ?_) (fun e he hlt hev => ?_)
            · rcases a7 v hv with z | z
              · rcases hcl v z with z | z | z
                · exact Or.inl z
                · exact Or.inr (Or.inl z)
                · exact Or.inr (Or.inr (z.mono a3))
              · exact Or.inr (Or.inr z)
            · by_cases z : e = k
              · subst z; exact hpost A2 a3 a4
              · obtain ⟨z1, z2⟩ := hin e he (by omega) hev
                exact ⟨a3 _ z1, a3 _ z2⟩)
          rw [fl_c_pos hk1] at h
          exact h
        refine hb _ _ _ _ _ N1 _ ?_
        simp (disch := omega) only [fz_t, hG1.1, fz_le, nI_add, g10, g150, g30, fz_be, fz_eq]
        refine ⟨fz_in (by omega) (by omega), fun z => absurd z (by omega), fun _ => ⟨fz_in (by omega) (by omega), fun hw => ?_, fun hw => skip (fun z => hw (by rw [z.1]; rfl))⟩⟩
        have hw' : fg_w G k = true := by simpa using hw
        have hcb : fg_cb G k := ⟨hk1, by omega, hw'⟩
        have one : k = u → fm_Cv (fm_PP X) C [.inl (.ref 0), .inl (.int (nI (fg_p G k))), .inl (.int (nI u)), .inl (.int (nI k)), .inl (.int (fg_r G k))] (N1, fm_SH) (fun N4 => fm_Ev (fm_PP X) M (46, [some (.inl (.ref 0)), some (.inl (.int (nI u))), o2, o3, o4, some (.inl (.int (nI (k + 1))))], [], (N4, fm_SH)) (fm_Qv fm_SH K X')) (fun e6 N5 => fm_Qv fm_SH K X' (.inr e6) (N5, fm_SH)) := fun z =>
          go (fg_p G k) (by omega) (fun hF => by
            have := hQ.s2 ok hcb hF (by rw [z]; exact hAu)
            rw [← z]
            exact this) (fun A2 b1 b2 => ⟨b1 k (by rw [z]; exact hAu), b2⟩)
        have two : fg_p G k = u → fm_Cv (fm_PP X) C [.inl (.ref 0), .inl (.int (nI k)), .inl (.int (nI u)), .inl (.int (nI k)), .inl (.int (fg_r G k))] (N1, fm_SH) (fun N4 => fm_Ev (fm_PP X) M (46, [some (.inl (.ref 0)), some (.inl (.int (nI u))), o2, o3, o4, some (.inl (.int (nI (k + 1))))], [], (N4, fm_SH)) (fm_Qv fm_SH K X')) (fun e6 N5 => fm_Qv fm_SH K X' (.inr e6) (N5, fm_SH)) := fun z =>
          go k (by omega) (fun hF => by
            have := hQ.s1 ok hcb (by rw [z]; exact hAu) hF
            rw [z] at this
            exact this) (fun A2 b1 b2 => ⟨b2, b1 _ (by rw [z]; exact hAu)⟩)
        refine ⟨fun z => ⟨fun _ => ⟨fz_in (by omega) (by omega), fz_in (by omega) (by omega), one z⟩, fun y => absurd z y⟩, fun z => ⟨fz_in (by omega) (by omega), fun hp => ⟨fun y => absurd y z, fun _ => ⟨fz_in (by omega) (by omega), two hp⟩⟩, fun hp => skip (fun y => y.2.elim z hp)⟩⟩
    have hA1u : fg_F (fg_feed A u f c r) u = true := fg_up_eq _ _ _
    have hmo : ∀ v, fg_F A v = true → fg_F (fg_feed A u f c r) v = true := fun v hv => by
      show fg_up (fg_F A) u true v = true
      unfold fg_up
      split
      · rfl
      · exact hv
    have hcnu : fg_cn (fg_F (fg_feed A u f c r)) 8 = fg_cn (fg_F A) 8 + 1 := by
      show fg_cn (fg_up (fg_F A) u true) 8 = _
      rw [fg_cn_up hu, if_pos hu8]
    refine loop _ 1 _ (fg_feed A u f c r) _ _ _ rfl (Nat.le_refl _) ok.1 (((((fl_F.rf 400 N).up (by omega)).up (by omega)).up (by omega)).up (by omega)) (fl_S_feed hS hu8 hx) q2 q3 hA1u hmo (by omega) (fun v hv => ?_) (fun e he hlt => absurd he.1 (by omega))
    by_cases z : v = u
    · exact Or.inr (Or.inl z)
    · have h9 : fg_up (fg_F A) u true v = true := hv
      rw [fg_up_ne _ _ z] at h9
      exact Or.inl h9
  · have hu' : fg_F A u = true := by simpa using hu
    exact kk N A (fl_F.rf _ _) hS (fun v h => h) hu' (fun z => absurd hu' (by rw [z]; decide)) (fun _ => rfl) (fun v hv => Or.inl hv)
section FLK
variable {X : Nat × (Nat → Int32)}
theorem lk_0 : fl_LK X 211 0 := by
  intro G A0 A N u f c x r K X' hG hS hun hx hd1 hd0 kk
  exfalso
  cases hu : fg_F A u
  · have := (hd0 hu).1
    have := fg_cn_le (fg_F A) 8
    omega
  · have := hd1 hu
    omega
theorem lk_1 : fl_LK X 212 1 := lk_gen (fun x1 x2 x3 x4 N K X' h => fe_212 X x1 x2 x3 x4 N K X' h) (fun x1 o2 o3 o4 x5 N Q h => fb_212_46 X x1 o2 o3 o4 x5 N Q h) lk_0
theorem lk_2 : fl_LK X 213 2 := lk_gen (fun x1 x2 x3 x4 N K X' h => fe_213 X x1 x2 x3 x4 N K X' h) (fun x1 o2 o3 o4 x5 N Q h => fb_213_46 X x1 o2 o3 o4 x5 N Q h) lk_1
theorem lk_3 : fl_LK X 214 3 := lk_gen (fun x1 x2 x3 x4 N K X' h => fe_214 X x1 x2 x3 x4 N K X' h) (fun x1 o2 o3 o4 x5 N Q h => fb_214_46 X x1 o2 o3 o4 x5 N Q h) lk_2
theorem lk_4 : fl_LK X 215 4 := lk_gen (fun x1 x2 x3 x4 N K X' h => fe_215 X x1 x2 x3 x4 N K X' h) (fun x1 o2 o3 o4 x5 N Q h => fb_215_46 X x1 o2 o3 o4 x5 N Q h) lk_3
theorem lk_5 : fl_LK X 216 5 := lk_gen (fun x1 x2 x3 x4 N K X' h => fe_216 X x1 x2 x3 x4 N K X' h) (fun x1 o2 o3 o4 x5 N Q h => fb_216_46 X x1 o2 o3 o4 x5 N Q h) lk_4
theorem lk_6 : fl_LK X 217 6 := lk_gen (fun x1 x2 x3 x4 N K X' h => fe_217 X x1 x2 x3 x4 N K X' h) (fun x1 o2 o3 o4 x5 N Q h => fb_217_46 X x1 o2 o3 o4 x5 N Q h) lk_5
theorem lk_7 : fl_LK X 218 7 := lk_gen (fun x1 x2 x3 x4 N K X' h => fe_218 X x1 x2 x3 x4 N K X' h) (fun x1 o2 o3 o4 x5 N Q h => fb_218_46 X x1 o2 o3 o4 x5 N Q h) lk_6
theorem lk_8 : fl_LK X 219 8 := lk_gen (fun x1 x2 x3 x4 N K X' h => fe_219 X x1 x2 x3 x4 N K X' h) (fun x1 o2 o3 o4 x5 N Q h => fb_219_46 X x1 o2 o3 o4 x5 N Q h) lk_7
theorem lk_9 : fl_LK X 220 9 := lk_gen (fun x1 x2 x3 x4 N K X' h => fe_220 X x1 x2 x3 x4 N K X' h) (fun x1 o2 o3 o4 x5 N Q h => fb_220_46 X x1 o2 o3 o4 x5 N Q h) lk_8
theorem lk_10 : fl_LK X 221 10 := lk_gen (fun x1 x2 x3 x4 N K X' h => fe_221 X x1 x2 x3 x4 N K X' h) (fun x1 o2 o3 o4 x5 N Q h => fb_221_46 X x1 o2 o3 o4 x5 N Q h) lk_9
end FLK
