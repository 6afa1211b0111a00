/-! the law's questions to the class -/
section FJA
variable {X : Nat × (Nat → Int32)} {N : fm_N} {X' : Nat → fm_N → Prop} {K : fm_N → Prop}
theorem sp_40y {u : Nat} (hu : u < 12) (h : N.1 13 u = nI 1) (k : K N) : fm_Cv (fm_PP X) 40 [.inl (.ref 1), .inl (.int (nI u))] (N, fm_SH) K X' := by
  refine fe_40 X _ N K X' ⟨fz_in hu (by omega), ?_⟩
  rw [fz_t (by omega), h]
  exact ⟨fun z => absurd z fj_n1, fun _ => ⟨rfl, k⟩⟩
theorem sp_40n {u : Nat} (hu : u < 12) (h : N.1 13 u = nI 0) (k : X' 3 (fj_g N)) : fm_Cv (fm_PP X) 40 [.inl (.ref 1), .inl (.int (nI u))] (N, fm_SH) K X' := by
  refine fe_40 X _ N K X' ⟨fz_in hu (by omega), ?_⟩
  rw [fz_t (by omega), h]
  exact ⟨fun _ => ⟨rfl, k⟩, fun z => absurd rfl z⟩
theorem sp_41y {u : Nat} (hu : u < 12) (h0 : u ≠ 0) (h : N.1 13 u = nI 1) (k : K N) : fm_Cv (fm_PP X) 41 [.inl (.ref 1), .inl (.int (nI u))] (N, fm_SH) K X' := by
  refine fe_41 X _ N K X' ⟨fun z => absurd ((nI_eq (by omega) (by omega)).mp z) h0, fun _ => sp_40y hu h ⟨rfl, k⟩⟩
theorem sp_41n {u : Nat} (hu : u < 12) (h : u = 0 ∨ N.1 13 u = nI 0) (k : X' 3 (fj_g N)) : fm_Cv (fm_PP X) 41 [.inl (.ref 1), .inl (.int (nI u))] (N, fm_SH) K X' := by
  refine fe_41 X _ N K X' ⟨fun _ => ⟨rfl, k⟩, fun z => sp_40n hu (h.resolve_left (fun y => z (by rw [y]))) ⟨rfl, k⟩⟩
theorem sp_42y {u : Nat} (hu : u < 12) (h0 : u ≠ 0) (k : K N) : fm_Cv (fm_PP X) 42 [.inl (.ref 1), .inl (.int (nI u))] (N, fm_SH) K X' :=
  fe_42 X _ N K X' ⟨fun z => absurd ((nI_eq (by omega) (by omega)).mp z) h0, fun _ => ⟨rfl, k⟩⟩
theorem sp_42n (k : X' 3 (fj_g N)) : fm_Cv (fm_PP X) 42 [.inl (.ref 1), .inl (.int (nI 0))] (N, fm_SH) K X' :=
  fe_42 X _ N K X' ⟨fun _ => ⟨rfl, k⟩, fun z => absurd rfl z⟩
end FJA
section FJB
variable {X : Nat × (Nat → Int32)} {N : fm_N} {A : fg_A} {M u : Nat} {x : Int32} {X' : Nat → fm_N → Prop} {Ki : Int32 → fm_N → Prop}
theorem fj_or (b : Bool) : fz_b b = nI 0 ∨ fz_b b = nI 1 := by
  cases b
  · exact Or.inl rfl
  · exact Or.inr rfl
theorem sp_43 (h12 : u < 12) (hF : N.1 13 u = fz_b (fg_F A u)) (h4 : N.1 21 4 = nI M) (hM : M < 4096) (k : Ki (fz_b (fg_F A u && M.testBit u)) N) : fm_Ci (fm_PP X) 43 [.inl (.ref 1), .inl (.int (nI u))] (N, fm_SH) Ki X' := by
  refine fe_43 X _ N Ki X' ⟨fz_in h12 (by omega), ?_⟩
  rw [fz_t (by omega : u < 2147483648), hF, h4]
  cases hF : fg_F A u
  · rw [hF] at k
    exact ⟨fun _ => ⟨Or.inl rfl, rfl, k⟩, fun z => absurd rfl z⟩
  · rw [hF, Bool.true_and] at k
    refine ⟨fun z => absurd z fj_n1, fun _ => sp_59 hM h12 ?_⟩
    cases hb : M.testBit u
    · rw [hb] at k
      exact ⟨fun _ => ⟨Or.inl rfl, rfl, k⟩, fun z => absurd rfl z⟩
    · rw [hb] at k
      exact ⟨fun z => absurd z fj_n1, fun _ => ⟨Or.inr rfl, rfl, k⟩⟩
theorem sp_18y {t q : Nat} {b : Bool} (h9 : N.1 4 9 = nI t) (t4 : t ≤ 4) (hq : q < t) (c17 : N.1 18 q = fz_b b) (k : Ki (fz_b b) N) : fm_Ci (fm_PP X) 18 [.inl (.ref 1), .inl (.int (nI q))] (N, fm_SH) Ki X' := by
  refine fe_18 X _ N Ki X' ?_
  rw [h9, fz_t (by omega : q < 2147483648), c17, fz_lt (a := q) (b := 0) (by omega) (by omega), fz_lt (a := q) (b := t) (by omega) (by omega)]
  exact ⟨fun z => absurd z (by omega), fun _ => ⟨fun _ => ⟨fz_in (by omega) (by omega), fj_or b, rfl, k⟩, fun z => absurd hq z⟩⟩
theorem sp_18n {t : Nat} (h9 : N.1 4 9 = nI t) (t4 : t ≤ 4) (hx : ¬ fj_in x t) (k : X' 3 (fj_g N)) : fm_Ci (fm_PP X) 18 [.inl (.ref 1), .inl (.int x)] (N, fm_SH) Ki X' := by
  refine fe_18 X _ N Ki X' ?_
  exact ⟨fun _ => ⟨rfl, k⟩, fun z => ⟨fun y => absurd (fj_in_of z (by rw [h9] at y; exact y) (by omega)) hx, fun _ => ⟨rfl, k⟩⟩⟩
end FJB
theorem fz_back (b x : Int32) : b + (x - b) = x := by
  rw [Int32.sub_eq_add_neg, Int32.add_comm x (-b), ← Int32.add_assoc, Int32.add_right_neg, Int32.zero_add]
section FJW
variable {X : Nat × (Nat → Int32)} {N : fm_N} {Q : fm_O → fm_M → Prop} {A : fg_A} {o : Nat → Nat} {fc M : Nat} {X' : Nat → fm_N → Prop} {Ki : Int32 → fm_N → Prop}
theorem lp_129 (hS : fk_S N A o fc) {i k : Nat} (hk : k < fc) (h0 : 0 < k) (k1 : ft_on o (fg_D A) fc i (o k) → Q (.inl (some (.inl (.int (nI 1))))) (N, fm_SH)) (k2 : ¬ ft_on o (fg_D A) fc i (o k) → Q (.inl (some (.inl (.int (nI 0))))) (N, fm_SH)) :
    ∀ B q p st (o1 : Option fm_V), q ≤ B → ft_at o (fg_D A) fc i p q → (k < p ∨ ¬ ft_on o (fg_D A) fc i (o k)) → q + st ≤ 11 →
    fm_Ev (fm_PP X) 129 (5, [some (.inl (.ref 3)), o1, some (.inl (.int (nI (o k)))), some (.inl (.int (nI (o q)))), some (.inl (.int (nI st)))], [], (N, fm_SH)) Q := by
  have ok := hS.2.2.2.2.1
  have hk12 := (ok.2.1 k hk).2
  have hok0 : o k ≠ 0 := fun z => by have := (ft_o0 ok hk).mp z; omega
  intro B
  induction B with
  | zero =>
    intro q p st o1 hq ha hm hst
    have e : q = 0 := by omega
    subst e
    have hno : ¬ ft_on o (fg_D A) fc i (o k) := by
      rcases hm with z | z
      · exact fun y => absurd ((ft_at_on ok ha (Nat.zero_le _) z).mp y) (by omega)
      · exact z
    refine fb_129_5 X _ _ _ _ N Q ?_
    rw [ok.1.2.2, fz_le (by omega) (by omega), fz_le (by omega) (by omega), fz_eq (by omega) (by omega)]
    exact ⟨fun z => absurd z (by omega), fun _ => ⟨fun _ => ⟨fun z => absurd z.symm hok0, fun _ => ⟨Or.inl rfl, k2 hno⟩⟩, fun z => absurd (Nat.le_refl _) z⟩⟩
  | succ B ih =>
    intro q p st o1 hq ha hm hst
    by_cases hq0 : q = 0
    · exact ih q p st o1 (by omega) ha hm hst
    · have hqf : q < fc := by have := ha.1; have := ha.2.1; omega
      have hq12 := (ok.2.1 q hqf).2
      have hoq0 : o q ≠ 0 := fun z => hq0 ((ft_o0 ok hqf).mp z)
      refine fb_129_5 X _ _ _ _ N Q ?_
      rw [fz_le (by omega) (by omega), fz_le (by omega) (by omega), fz_eq (by omega) (by omega), fz_t (by omega : o q < 2147483648), nI_add]
      refine ⟨fun z => absurd z (by omega), fun _ => ⟨fun z => absurd z (by omega), fun _ => ⟨fun z => ⟨Or.inr rfl, k1 ?_⟩, fun z => ⟨fz_in hq12 (by omega), ?_⟩⟩⟩⟩
      · have e : q = k := by
          rcases Nat.lt_trichotomy q k with w | w | w
          · exact absurd z (ok.2.2.1 q k w hk)
          · exact w
          · exact absurd z.symm (ok.2.2.1 k q w hqf)
        subst e
        exact (ft_at_on ok ha (Nat.le_refl _) ha.1).mpr rfl
      · obtain ⟨r, hr, hor, har⟩ := ft_at_next ok ha (by omega)
        rw [(hS.1 (o q) hq12).2.1, ← hor]
        refine ih r q (st + 1) o1 (by omega) har ?_ (by omega)
        rcases hm with w | w
        · by_cases y : k < q
          · exact Or.inl y
          · refine Or.inr (fun v => ?_)
            have := (ft_at_on ok ha (by omega) w).mp v
            rw [this] at z
            exact z rfl
        · exact Or.inr w
theorem sp_129 (hS : fk_S N A o fc) {i k : Nat} (hi : fg_F A i = true) (hk : k < fc) (h0 : 0 < k) (k1 : ft_on o (fg_D A) fc i (o k) → Ki (nI 1) N) (k2 : ¬ ft_on o (fg_D A) fc i (o k) → Ki (nI 0) N) : fm_Ci (fm_PP X) 129 [.inl (.ref 3), .inl (.int (nI i)), .inl (.int (nI (o k)))] (N, fm_SH) Ki X' := by
  obtain ⟨q, hoq, ha⟩ := ft_at_start hS.2.2.2.2.1 hi
  have hf := hS.2.2.2.2.1.1.2.1
  have h1 := ha.1
  refine fe_129 X _ _ N Ki X' ?_
  have := lp_129 (X := X) (Q := fm_Qi fm_SH Ki X') hS hk h0 (fun z => ⟨rfl, k1 z⟩) (fun z => ⟨rfl, k2 z⟩) q q fc 0 (some (.inl (.int (nI i)))) (Nat.le_refl _) ha (Or.inl hk) (by omega)
  rw [hoq] at this
  exact this
theorem sp_54 (ic : fk_ic N A o fc M) {i : Nat} (hi : fg_F A i = true) (k : Ki (fk_net N M.testBit i) N) : fm_Ci (fm_PP X) 54 [.inl (.ref 1), .inl (.int (nI i))] (N, fm_SH) Ki X' := by
  have h12 : i < 12 := fk_F12 ic.2.1.2.2.2.2.1 hi
  have ib := fz_in h12 (by omega)
  refine fe_54 X _ N Ki X' ⟨ib, ib, ?_⟩
  rw [fz_t (by omega : i < 2147483648)]
  refine sp_141 ic.2.2.2.1 h12 (sp_43 (A := A) (M := M) h12 (ic.2.1.1 i h12).1 ic.2.2.2.2.2.1 ic.2.2.2.2.2.2.1 ?_)
  unfold fk_net at k
  rw [hi, Bool.true_and]
  cases hb : M.testBit i
  · rw [hb, if_neg (fun z => nomatch z), Int32.add_zero] at k
    exact ⟨fun _ => ⟨rfl, k⟩, fun z => absurd rfl z⟩
  · rw [hb, if_pos rfl] at k
    exact ⟨fun z => absurd z fj_n1, fun _ => ⟨ib, rfl, k⟩⟩
end FJW
section FJW
variable {X : Nat × (Nat → Int32)} {N : fm_N} {Q : fm_O → fm_M → Prop} {A : fg_A} {o : Nat → Nat} {fc M : Nat} {X' : Nat → fm_N → Prop} {Ki : Int32 → fm_N → Prop}
theorem lp_53 (ic : fk_ic N A o fc M) {k : Nat} (hk : k < fc) (h0 : 0 < k) {g : Nat → Int32} (hg1 : ∀ i, fg_F A i = true ∧ ft_on o (fg_D A) fc i (o k) → g i = fk_net N M.testBit i) (hg0 : ∀ i, ¬ (fg_F A i = true ∧ ft_on o (fg_D A) fc i (o k)) → g i = 0) (kk : Q (.inl (some (.inl (.int (fs_m g (fg_n (fk_gG N))))))) (N, fm_SH)) :
    ∀ m j, fg_n (fk_gG N) - j = m → j ≤ fg_n (fk_gG N) → fm_Ev (fm_PP X) 53 (4, [some (.inl (.ref 1)), some (.inl (.int (nI (o k)))), some (.inl (.int (fs_m g j))), some (.inl (.int (nI j)))], [], (N, fm_SH)) Q := by
  have hn := ic.1.1
  have h12 := ic.1.2.2.1
  intro m
  induction m with
  | zero =>
    intro j hm hj
    refine fb_53_4 X _ _ _ N Q ?_
    rw [hn, fz_le (by omega) (by omega)]
    have e : j = fg_n (fk_gG N) := by omega
    rw [e]
    exact ⟨fun _ => kk, fun z => absurd (Nat.le_refl _) z⟩
  | succ m ih =>
    intro j hm hj
    have go := ih (j + 1) (by omega) (by omega)
    have no : ¬ (fg_F A j = true ∧ ft_on o (fg_D A) fc j (o k)) → fm_Ev (fm_PP X) 53 (4, [some (.inl (.ref 1)), some (.inl (.int (nI (o k)))), some (.inl (.int (fs_m g j))), some (.inl (.int (nI (j + 1))))], [], (N, fm_SH)) Q := fun z => by
      rw [show fs_m g (j + 1) = fs_m g j from by
        show fs_m g j + g j = _
        rw [hg0 _ z, Int32.add_zero]] at go
      exact go
    refine fb_53_4 X _ _ _ N Q ?_
    rw [hn, fz_le (by omega) (by omega), fz_t (by omega : j < 2147483648), (ic.2.1.1 j (by omega)).1, fz_be, nI_add]
    refine ⟨fun z => absurd z (by omega), fun _ => ⟨fz_in (by omega) (by omega), fun z => no (fun w => by rw [z] at w; cases w.1), fun z => ?_⟩⟩
    have hF := (Bool.not_eq_false _).mp z
    refine sp_129 ic.2.1 hF hk h0 (fun w => ⟨fun y => absurd y fj_n1, fun _ => sp_54 ic hF ?_⟩) (fun w => ⟨fun _ => no (fun y => w y.2), fun y => absurd rfl y⟩)
    rw [show fs_m g (j + 1) = fs_m g j + fk_net N M.testBit j from by
      show fs_m g j + g j = _
      rw [hg1 _ ⟨hF, w⟩]] at go
    exact go
theorem sp_53 (ic : fk_ic N A o fc M) {k : Nat} (hk : k < fc) (h0 : 0 < k) (kk : Ki (fk_fl N A o fc M.testBit (o k)) N) : fm_Ci (fm_PP X) 53 [.inl (.ref 1), .inl (.int (nI (o k)))] (N, fm_SH) Ki X' := by
  refine fe_53 X _ N Ki X' ?_
  unfold fk_fl ft_f ft_s at kk
  rw [fs_more 12 ic.1.2.2.1 (fun i h1 h2 => if_neg (fun z => absurd (fj_An ic.1 ic.2.2.1 i z.1) (by omega)))] at kk
  exact lp_53 (X := X) (Q := fm_Qi fm_SH Ki X') ic hk h0 (fun i z => if_pos z) (fun i z => if_neg z) ⟨rfl, kk⟩ _ 0 rfl (Nat.zero_le _)
end FJW
section FJW
variable {X : Nat × (Nat → Int32)} {N : fm_N} {Q : fm_O → fm_M → Prop} {A : fg_A} {o : Nat → Nat} {fc M : Nat} {X' : Nat → fm_N → Prop} {Ki : Int32 → fm_N → Prop}
theorem lp_52 (ic : fk_ic N A o fc M) {V : Int32} (kk : Q (.inl (some (.inl (.int V)))) (N, fm_SH)) : ∀ B q st (x2 : Int32) (o1 : Option fm_V), q ≤ B → q < fc → q + st ≤ 11 → x2 + (fk_vt N A o fc M.testBit (o q) - N.1 1 7) = V →
    fm_Ev (fm_PP X) 52 (10, [some (.inl (.ref 1)), o1, some (.inl (.int x2)), some (.inl (.int (nI (o q)))), some (.inl (.int (nI st)))], [], (N, fm_SH)) Q := by
  have hS := ic.2.1
  have ok := hS.2.2.2.2.1
  intro B
  induction B with
  | zero =>
    intro q st x2 o1 hq hqf hst hV
    have e : q = 0 := by omega
    subst e
    refine fb_52_10 X _ _ _ _ N Q ?_
    rw [ok.1.2.2, fz_le (by omega) (by omega), fz_le (by omega) (by omega)]
    refine ⟨fun z => absurd z (by omega), fun _ => ⟨fun _ => ?_, fun z => absurd (Nat.le_refl _) z⟩⟩
    unfold fk_vt at hV
    rw [ok.1.2.2, ft_v_0, Int32.sub_self, Int32.add_zero] at hV
    rw [hV]
    exact kk
  | succ B ih =>
    intro q st x2 o1 hq hqf hst hV
    by_cases hq0 : q = 0
    · exact ih q st x2 o1 (by omega) hqf hst hV
    · have hq12 := (ok.2.1 q hqf).2
      have hoq0 : o q ≠ 0 := fun z => hq0 ((ft_o0 ok hqf).mp z)
      obtain ⟨r, hr, hor⟩ := ok.2.2.2.2 q (by omega) hqf
      have hin := fz_in hq12 (by omega)
      refine fb_52_10 X _ _ _ _ N Q ?_
      rw [fz_le (by omega) (by omega), fz_le (by omega) (by omega), fz_t (by omega : o q < 2147483648), nI_add]
      refine ⟨fun z => absurd z (by omega), fun _ => ⟨fun z => absurd z (by omega), fun _ => ⟨hin, sp_53 ic hqf (by omega) (sp_60 ⟨hin, ?_⟩)⟩⟩⟩
      rw [(hS.1 (o q) hq12).2.1, (hS.1 (o q) hq12).2.2.2.1, ← hor]
      refine ih r (st + 1) _ o1 (by omega) (by omega) (by omega) ?_
      have e : fk_vt N A o fc M.testBit (o q) = fk_vt N A o fc M.testBit (o r) - fg_S A (o q) * fk_fl N A o fc M.testBit (o q) / nI 10 := by
        unfold fk_vt
        rw [ft_v_step ok (by omega) hqf, hor]
      rw [fz_shift, ← e]
      exact hV
theorem sp_52 (ic : fk_ic N A o fc M) {u : Nat} (hu : fg_F A u = true) (kk : Ki (fk_vt N A o fc M.testBit u) N) : fm_Ci (fm_PP X) 52 [.inl (.ref 1), .inl (.int (nI u))] (N, fm_SH) Ki X' := by
  obtain ⟨q, hq, hoq⟩ := ic.2.1.2.2.2.2.1.2.2.2.1 u hu
  have hf := ic.2.1.2.2.2.2.1.1.2.1
  refine fe_52 X _ N Ki X' ?_
  have := lp_52 (X := X) (Q := fm_Qi fm_SH Ki X') ic ⟨rfl, kk⟩ q q 0 (N.1 1 7) (some (.inl (.int (nI u)))) (Nat.le_refl _) hq (by omega) (by rw [hoq, fz_back])
  rw [hoq] at this
  exact this
end FJW
theorem fj_q.Fx {cs : List Nat} {N N' : fm_N} (h : fx_F cs N N') (k : ∀ c, fj_sc.contains c = false → cs.contains c = false) (h4 : cs.contains 21 = false) : fj_q 0 N N' := .F h k h4
section FJV
variable {X : Nat × (Nat → Int32)} {N : fm_N} {Q : fm_O → fm_M → Prop} {A : fg_A} {o : Nat → Nat} {fc M : Nat} {X' : Nat → fm_N → Prop} {Ki : Int32 → fm_N → Prop}
theorem lp_55 (ic : fk_ic N A o fc M) (hv : fk_fv N A o fc M.testBit) (kk : Q (.inl (some (.inl (.int (nI 1))))) (N, fm_SH)) :
    ∀ m k, fg_n (fk_gG N) - k = m → k ≤ fg_n (fk_gG N) → fm_Ev (fm_PP X) 55 (6, [some (.inl (.ref 1)), some (.inl (.int (nI k)))], [], (N, fm_SH)) Q := by
  have hn := ic.1.1
  have h12 := ic.1.2.2.1
  intro m
  induction m with
  | zero =>
    intro k hm hk
    refine fb_55_6 X _ N Q ?_
    rw [hn, fz_le (by omega) (by omega)]
    exact ⟨fun _ => ⟨Or.inr rfl, kk⟩, fun z => absurd (by omega) z⟩
  | succ m ih =>
    intro k hm hk
    have go := ih (k + 1) (by omega) (by omega)
    have ib := fz_in (n := 12) (by omega : k < 12) (by omega)
    refine fb_55_6 X _ N Q ?_
    rw [hn, fz_le (by omega) (by omega), fz_t (by omega : k < 2147483648), (ic.2.1.1 k (by omega)).1, fz_be, nI_add]
    refine ⟨fun z => absurd z (by omega), fun _ => ⟨ib, fun _ => go, fun z => ⟨ib, ?_⟩⟩⟩
    have hF := (Bool.not_eq_false _).mp z
    refine sp_52 ic hF ⟨fun _ => go, fun y => absurd ?_ y⟩
    obtain ⟨j, hj, hoj⟩ := ic.2.1.2.2.2.2.1.2.2.2.1 k hF
    rw [← hoj, (hv j hj).2]
theorem sp_55 (ic : fk_ic N A o fc M) (kk : ∀ N', fx_F [63, 19, 20] N N' → Ki (nI 1) N') : fm_Ci (fm_PP X) 55 [.inl (.ref 1)] (N, fm_SH) Ki X' := by
  refine fe_55 X N Ki X' (sp_45 ic.1 ic.2.2.2.1 ic.2.1 (fj_An ic.1 ic.2.2.1) ic.2.2.2.2.2.2.1 ic.2.2.2.2.2.1 (fun N1 a1 a2 a3 => ?_))
  have q0 : fj_q 0 N N1 := fj_q.Fx a1 (by intro c hc; simp at hc ⊢; omega) rfl
  exact lp_55 (X := X) (Q := fm_Qi fm_SH Ki X') (q0.ic ic) a3 ⟨rfl, kk N1 a1⟩ _ 0 rfl (Nat.zero_le _)
end FJV
section FJQ
variable {X : Nat × (Nat → Int32)} {N : fm_N} {A : fg_A} {o : Nat → Nat} {fc M n u t q : Nat} {x : Int32} {f : Bool} {K : Int32 → fm_N → Prop} {X' : Nat → fm_N → Prop}
theorem sw_187 (hn : N.1 4 8 = nI n) (h12 : n ≤ 12) (hu : u < n) (c : N.1 13 u = fz_b f) (k : K (fz_b f) N) : fm_Ci (fm_PP X) 187 [.inl (.ref 1), .inl (.int (nI u))] (N, fm_SH) K X' := by
  refine fe_187 X _ N K X' (fe_16 X _ N _ _ (sp_37y hn h12 hu ?_))
  rw [fz_t (by omega), c]
  refine ⟨fz_in (by omega) (by omega), fj_or f, rfl, ?_⟩
  cases f
  · exact ⟨fun _ => ⟨rfl, k⟩, fun z => absurd rfl z⟩
  · exact ⟨fun z => absurd z fj_n1, fun _ => ⟨rfl, k⟩⟩
theorem sw_187n (hn : N.1 4 8 = nI n) (h12 : n ≤ 12) (h : ¬ fj_in x n) (k : K (nI 4294067295) (fj_g N)) : fm_Ci (fm_PP X) 187 [.inl (.ref 1), .inl (.int x)] (N, fm_SH) K X' :=
  fe_187 X _ N K X' (fe_16 X _ N _ _ (sp_37n hn h12 h ⟨rfl, fun _ => ⟨rfl, k⟩, fun z => absurd rfl z⟩))
theorem sw_184 (hn : N.1 4 8 = nI n) (h12 : n ≤ 12) (hu : u < n) (h0 : u ≠ 0) (c : N.1 13 u = nI 1) (k : K (N.1 14 u) N) : fm_Ci (fm_PP X) 184 [.inl (.ref 1), .inl (.int (nI u))] (N, fm_SH) K X' := by
  refine fe_184 X _ N K X' (fe_17 X _ N _ _ (sp_37y hn h12 hu (sp_41y (by omega) h0 c ?_)))
  rw [fz_t (by omega)]
  exact ⟨fz_in (by omega) (by omega), rfl, rfl, k⟩
theorem sw_184u (hn : N.1 4 8 = nI n) (h12 : n ≤ 12) (hu : u < n) (c : u = 0 ∨ N.1 13 u = nI 0) (k : K (nI 4294067294) (fj_g N)) : fm_Ci (fm_PP X) 184 [.inl (.ref 1), .inl (.int (nI u))] (N, fm_SH) K X' :=
  fe_184 X _ N K X' (fe_17 X _ N _ _ (sp_37y hn h12 hu (sp_41n (by omega) c ⟨rfl, ⟨fun z => absurd z (by decide), fun _ => ⟨fun _ => ⟨rfl, k⟩, fun z => absurd rfl z⟩⟩⟩)))
theorem sw_184n (hn : N.1 4 8 = nI n) (h12 : n ≤ 12) (h : ¬ fj_in x n) (k : K (nI 4294067295) (fj_g N)) : fm_Ci (fm_PP X) 184 [.inl (.ref 1), .inl (.int x)] (N, fm_SH) K X' :=
  fe_184 X _ N K X' (fe_17 X _ N _ _ (sp_37n hn h12 h ⟨rfl, fun _ => ⟨rfl, k⟩, fun z => absurd rfl z⟩))
theorem sw_188 (hn : N.1 4 8 = nI n) (h12 : n ≤ 12) (hu : u < n) (c : N.1 13 u = fz_b (fg_F A u)) (h4 : N.1 21 4 = nI M) (hM : M < 4096) (k : K (fz_b (fg_F A u && M.testBit u)) N) : fm_Ci (fm_PP X) 188 [.inl (.ref 1), .inl (.int (nI u))] (N, fm_SH) K X' := by
  refine fe_188 X _ N K X' (fe_24 X _ N _ _ (sp_37y hn h12 hu (sp_43 (by omega) c h4 hM ⟨fj_or _, rfl, ?_⟩)))
  generalize (fg_F A u && M.testBit u) = b at k ⊢
  cases b
  · exact ⟨fun _ => ⟨rfl, k⟩, fun z => absurd rfl z⟩
  · exact ⟨fun z => absurd z fj_n1, fun _ => ⟨rfl, k⟩⟩
theorem sw_188n (hn : N.1 4 8 = nI n) (h12 : n ≤ 12) (h : ¬ fj_in x n) (k : K (nI 4294067295) (fj_g N)) : fm_Ci (fm_PP X) 188 [.inl (.ref 1), .inl (.int x)] (N, fm_SH) K X' :=
  fe_188 X _ N K X' (fe_24 X _ N _ _ (sp_37n hn h12 h ⟨rfl, fun _ => ⟨rfl, k⟩, fun z => absurd rfl z⟩))
theorem sw_185 (hn : N.1 4 8 = nI n) (h12 : n ≤ 12) (hu : u < n) (k : K (N.1 23 u) N) : fm_Ci (fm_PP X) 185 [.inl (.ref 1), .inl (.int (nI u))] (N, fm_SH) K X' := by
  refine fe_185 X _ N K X' (fe_25 X _ N _ _ (sp_37y hn h12 hu ?_))
  rw [fz_t (by omega)]
  exact ⟨fz_in (by omega) (by omega), rfl, rfl, k⟩
theorem sw_185n (hn : N.1 4 8 = nI n) (h12 : n ≤ 12) (h : ¬ fj_in x n) (k : K (nI 4294067295) (fj_g N)) : fm_Ci (fm_PP X) 185 [.inl (.ref 1), .inl (.int x)] (N, fm_SH) K X' :=
  fe_185 X _ N K X' (fe_25 X _ N _ _ (sp_37n hn h12 h ⟨rfl, fun _ => ⟨rfl, k⟩, fun z => absurd rfl z⟩))
theorem sw_186 (hn : N.1 4 8 = nI n) (h12 : n ≤ 12) (hu : u < n) (h0 : u ≠ 0) (k : K (N.1 8 u) N) : fm_Ci (fm_PP X) 186 [.inl (.ref 1), .inl (.int (nI u))] (N, fm_SH) K X' := by
  refine fe_186 X _ N K X' (fe_29 X _ N _ _ (sp_37y hn h12 hu (sp_42y (by omega) h0 ?_)))
  rw [fz_t (by omega)]
  exact ⟨fz_in (by omega) (by omega), rfl, rfl, k⟩
theorem sw_186z (hn : N.1 4 8 = nI n) (h12 : n ≤ 12) (hu : 0 < n) (k : K (nI 4294067294) (fj_g N)) : fm_Ci (fm_PP X) 186 [.inl (.ref 1), .inl (.int (nI 0))] (N, fm_SH) K X' :=
  fe_186 X _ N K X' (fe_29 X _ N _ _ (sp_37y hn h12 hu (sp_42n ⟨rfl, ⟨fun z => absurd z (by decide), fun _ => ⟨fun _ => ⟨rfl, k⟩, fun z => absurd rfl z⟩⟩⟩)))
theorem sw_186n (hn : N.1 4 8 = nI n) (h12 : n ≤ 12) (h : ¬ fj_in x n) (k : K (nI 4294067295) (fj_g N)) : fm_Ci (fm_PP X) 186 [.inl (.ref 1), .inl (.int x)] (N, fm_SH) K X' :=
  fe_186 X _ N K X' (fe_29 X _ N _ _ (sp_37n hn h12 h ⟨rfl, fun _ => ⟨rfl, k⟩, fun z => absurd rfl z⟩))
theorem sw_190 (hn : N.1 4 8 = nI n) (h12 : n ≤ 12) (hu : u < n) (h0 : u ≠ 0) (c : N.1 9 u = fz_b f) (k : K (fz_b f) N) : fm_Ci (fm_PP X) 190 [.inl (.ref 1), .inl (.int (nI u))] (N, fm_SH) K X' := by
  refine fe_190 X _ N K X' (fe_30 X _ N _ _ (sp_37y hn h12 hu (sp_42y (by omega) h0 ?_)))
  rw [fz_t (by omega), c]
  refine ⟨fz_in (by omega) (by omega), fj_or f, rfl, ?_⟩
  cases f
  · exact ⟨fun _ => ⟨rfl, k⟩, fun z => absurd rfl z⟩
  · exact ⟨fun z => absurd z fj_n1, fun _ => ⟨rfl, k⟩⟩
theorem sw_190z (hn : N.1 4 8 = nI n) (h12 : n ≤ 12) (hu : 0 < n) (k : K (nI 4294067294) (fj_g N)) : fm_Ci (fm_PP X) 190 [.inl (.ref 1), .inl (.int (nI 0))] (N, fm_SH) K X' :=
  fe_190 X _ N K X' (fe_30 X _ N _ _ (sp_37y hn h12 hu (sp_42n ⟨rfl, ⟨fun z => absurd z (by decide), fun _ => ⟨fun _ => ⟨rfl, k⟩, fun z => absurd rfl z⟩⟩⟩)))
theorem sw_190n (hn : N.1 4 8 = nI n) (h12 : n ≤ 12) (h : ¬ fj_in x n) (k : K (nI 4294067295) (fj_g N)) : fm_Ci (fm_PP X) 190 [.inl (.ref 1), .inl (.int x)] (N, fm_SH) K X' :=
  fe_190 X _ N K X' (fe_30 X _ N _ _ (sp_37n hn h12 h ⟨rfl, fun _ => ⟨rfl, k⟩, fun z => absurd rfl z⟩))
theorem sw_189 (ht : N.1 4 9 = nI t) (t4 : t ≤ 4) (hq : q < t) (c : N.1 18 q = fz_b f) (k : K (fz_b f) N) : fm_Ci (fm_PP X) 189 [.inl (.ref 1), .inl (.int (nI q))] (N, fm_SH) K X' := by
  refine fe_189 X _ N K X' (sp_18y ht t4 hq c ?_)
  cases f
  · exact ⟨fun _ => ⟨rfl, k⟩, fun z => absurd rfl z⟩
  · exact ⟨fun z => absurd z fj_n1, fun _ => ⟨rfl, k⟩⟩
theorem sw_189n (ht : N.1 4 9 = nI t) (t4 : t ≤ 4) (h : ¬ fj_in x t) (k : K (nI 4294067295) (fj_g N)) : fm_Ci (fm_PP X) 189 [.inl (.ref 1), .inl (.int x)] (N, fm_SH) K X' :=
  fe_189 X _ N K X' (sp_18n ht t4 h ⟨fun _ => ⟨rfl, k⟩, fun z => absurd rfl z⟩)
/-- isSound answers 1 -/
theorem fj_qok {N N' : fm_N} {A : fg_A} {o : Nat → Nat} {fc M d n : Nat} (q : fj_q d N N') (ic : fk_ic N A o fc M) : fq_ok N' A o fc n = fq_ok N A o fc n := by
  funext s
  unfold fq_ok
  have e : (fun i => fk_may N' A n i) = fun i => fk_may N A n i := by
    funext i
    unfold fk_may
    rw [q.E.dt.2.2.2.1]
  refine propext ?_
  rw [fk_kp_dt ic.2.1.2.2.2.2.1 q.E.dt]
  have e1 := fun i => congrFun e i
  simp only [e1]
theorem sp_36 (ic : fk_ic N A o fc M) (k : ∀ N', fj_q 0 N N' → N'.1 0 = N.1 0 → K (nI 1) N') : fm_Ci (fm_PP X) 36 [.inl (.ref 1)] (N, fm_SH) K X' := by
  refine fe_36 X N _ _ (sp_55 ic (fun N1 a1 => ⟨fun z => absurd z fj_n1, fun _ => ?_⟩))
  have q1 : fj_q 0 N N1 := fj_q.Fx a1 (by intro c hc; simp at hc ⊢; omega) rfl
  have ic1 := q1.ic ic
  refine sp_58 ic1.1 ic1.2.2.2.1 ic1.2.1 (fj_An ic1.1 ic1.2.2.1) (fun N2 b b1 b2 => ?_)
  have q2 : fj_q 0 N1 N2 := fj_q.Fx b1 (by intro c hc; simp at hc ⊢; omega) rfl
  have ic2 := q2.ic ic1
  refine sp_57 ic2.1 ic2.2.2.2.1 ic2.2.1 (fj_An ic2.1 ic2.2.2.1) (fun N3 b' c1 c2 => ?_)
  have q3 : fj_q 0 N2 N3 := fj_q.Fx c1 (by intro c hc; simp at hc ⊢; omega) rfl
  have ic3 := q3.ic ic2
  rw [fj_qok q2 ic1, q2.E.gG] at c2
  refine ⟨fun _ => ?_, fun z => absurd (fq_B_uniq b2 c2) z⟩
  obtain ⟨kk, hRe, hnt⟩ := ic3.2.2.1
  refine sp_125 ic3.1 ic3.2.1 (fun q hq => absurd hq.2.1 (hnt q hq.1)) (fun _ => ⟨fun _ => ⟨Or.inr rfl, rfl, k N3 (q1.tr (q2.tr q3)) ?_⟩, fun z => absurd rfl z⟩)
  rw [c1.1 0 rfl, b1.1 0 rfl, a1.1 0 rfl]
end FJQ
