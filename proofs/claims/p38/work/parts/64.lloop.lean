/-! the law: its start, its loop and its end -/
theorem fj_m1 (m : Nat) : nI (m + 1) + Int32.ofInt (-1) = nI m := by
  rw [show Int32.ofInt (-1) = (-1 : Int32) by decide]
  exact pk_m1 m
theorem fj_a1 : nI 1 &&& nI 1 = nI 1 := by decide
theorem fj_le0 (m : Nat) (h : m < 2147483648) : (nI m ≤ nI 0) = (m = 0) := by
  rw [fz_le h (by omega)]
  exact propext ⟨fun z => by omega, fun z => by omega⟩
section LLO
variable {X : Nat × (Nat → Int32)} {Q : fm_O → fm_M → Prop}
theorem lp_194c (hX : X.1 < 2147483640) {B : Nat} (kk : ∀ N' A o fc, fj_I N' A o fc 0 0 → N'.2.2.2 ≤ B → Q (.inl (some (.inl (.ref 1)))) (N', fm_SH)) :
    ∀ m (N : fm_N) (A : fg_A) (o : Nat → Nat) (fc : Nat) (o5 : Option fm_V), m < 100 → fj_I N A o fc 0 0 → N.2.2.2 ≤ B → fm_Ev (fm_PP X) 194 (100, [some (.inl (.ref 999999)), some (.inl (.ref 0)), some (.inl (.ref 1)), some (.inl (.int (nI 1))), some (.inl (.int (nI m))), o5], [], (N, fm_SH)) Q := by
  intro m
  induction m with
  | zero =>
    intro N A o fc o5 hm hI hB
    exact fb_194_100 X _ _ _ N Q ⟨fun _ => ⟨fun z => absurd z fj_n1, fun _ => kk N A o fc hI hB⟩, fun z => absurd (by rw [fj_le0 0 (by omega)]) z⟩
  | succ m ih =>
    intro N A o fc o5 hm hI hB
    have h0 := hI.2.1.2.1.1
    have h8 := hI.2.1.2.1.2.2.1
    have hn := hI.1.1.1
    have n1 := hI.1.1.2.2.2.2.1.1
    have h21 := hI.1.2.2.2.2.2.1
    obtain ⟨-, -, h3, -, -, -, -⟩ := id hI.2.1
    generalize hnn : fg_n (fk_gG N) = n at h0 h8 hn n1
    refine fb_194_100 X _ _ _ N Q ?_
    rw [fj_le0 (m + 1) (by omega), fz_t (by omega : (0 : Nat) < 2147483648), h0, pk_mul, nI_add, nI_add, fj_m1]
    refine ⟨fun z => absurd z (by omega), fun _ => ⟨fz_in (by omega) (by omega), sp_191 hX (by omega) (by omega) (by omega) (fun u hu => sp_191 hX (by omega) (by omega) (by omega) (fun y hy => ?_))⟩⟩
    have hu8 : u < 8 := by omega
    have t1 : (nI 90 + nI u).toNatClampNeg = 90 + u := by rw [nI_add, fz_t (by omega)]
    have i1 : fm_inb (nI 90 + nI u) 500 := by rw [nI_add]; exact fz_in (by omega) (by omega)
    rw [t1, nI_add 1 y, fz_ae]
    obtain ⟨-, -, q3, e, q4, q5⟩ := h3 u hu8
    have he : e = 0 := by omega
    subst he
    have r := fj_rgI (a := 0) (b := 64) (q := 1 + y) (by omega) (by omega) (by omega)
    have hid : fm_uI (fm_uI N.1 0 (90 + u) (nI (1 + y))) 0 (170 + u) (nI 0) = fm_uI N.1 0 (90 + u) (nI (1 + y)) := by
      funext c j
      rw [fz_ui]
      by_cases z : c = 0 ∧ j = 170 + u
      · rw [if_pos z, z.1, z.2, fz_an _ _ _ _ (by omega), q3, Nat.zero_testBit]
        rfl
      · rw [if_neg z]
    have hcl : fb_cl 0 u = 0 := by unfold fb_cl; exact Nat.zero_and _
    have hI2 := fj_char (u := u) (y := nI (1 + y)) hI hu8 (fj_rg_bd (a := 0) (b := 64) r (by decide) (by decide))
    rw [hid, hcl] at hI2
    refine ⟨i1, i1, sw_177 (n := n) (M := 0) (by simp (disch := omega) only [fz_ne]; exact hn) (by omega) hu r (by simp (disch := omega) only [fz_ne]; exact h21) (by omega) ⟨fun _ => ?_, fun z => absurd ?_ z⟩⟩
    · rw [fj_a1, hcl]
      exact ih _ A o fc _ (by omega) hI2 hB
    · simp (disch := omega) only [fz_ne]
      exact q4
theorem lp_194b (hX : X.1 < 2147483640) {B : Nat} (kk : ∀ N' A o fc, fj_I N' A o fc 0 0 → N'.2.2.2 ≤ B → Q (.inl (some (.inl (.ref 1)))) (N', fm_SH)) :
    ∀ m (N : fm_N) (A : fg_A) (o : Nat → Nat) (fc : Nat) (o5 : Option fm_V), m < 100 → fj_I N A o fc 0 0 → N.2.2.2 + m ≤ B → fm_Ev (fm_PP X) 194 (63, [some (.inl (.ref 999999)), some (.inl (.ref 0)), some (.inl (.ref 1)), some (.inl (.int (nI 1))), some (.inl (.int (nI m))), o5], [], (N, fm_SH)) Q := by
  intro m
  induction m with
  | zero =>
    intro N A o fc o5 hm hI hB
    refine fb_194_63 X _ _ _ N Q ⟨fun _ => sp_191 hX (by omega) (by omega) (by omega) (fun v hv => ?_), fun z => absurd (by rw [fj_le0 0 (by omega)]) z⟩
    rw [nI_add]
    exact lp_194c hX kk _ N A o fc _ (by omega) hI (by omega)
  | succ m ih =>
    intro N A o fc o5 hm hI hB
    refine fb_194_63 X _ _ _ N Q ?_
    rw [fj_le0 (m + 1) (by omega), pk_mul, nI_add, fj_m1]
    refine ⟨fun z => absurd z (by omega), fun _ => sp_193 hI hX (by omega) (fun N' A' o' fc' a b => ?_)⟩
    rw [fj_a1]
    exact ih N' A' o' fc' _ (by omega) a (by omega)
theorem lp_194a (hX : X.1 < 2147483640) {B : Nat} (kk : ∀ N' A o fc, fj_I N' A o fc 0 0 → N'.2.2.2 ≤ B → Q (.inl (some (.inl (.ref 1)))) (N', fm_SH)) :
    ∀ m (N : fm_N) (A : fg_A) (o : Nat → Nat) (fc : Nat) (o5 : Option fm_V), m < 100 → fj_I N A o fc 0 0 → N.2.2.2 + m + 4 ≤ B → fm_Ev (fm_PP X) 194 (31, [some (.inl (.ref 999999)), some (.inl (.ref 0)), some (.inl (.ref 1)), some (.inl (.int (nI 1))), some (.inl (.int (nI m))), o5], [], (N, fm_SH)) Q := by
  intro m
  induction m with
  | zero =>
    intro N A o fc o5 hm hI hB
    exact fb_194_31 X _ _ _ N Q ⟨fun _ => sp_191 hX (by omega) (by omega) (by omega) (fun v hv => lp_194b hX kk _ N A o fc _ (by omega) hI (by omega)), fun z => absurd (by rw [fj_le0 0 (by omega)]) z⟩
  | succ m ih =>
    intro N A o fc o5 hm hI hB
    refine fb_194_31 X _ _ _ N Q ?_
    rw [fj_le0 (m + 1) (by omega), pk_mul, fj_m1]
    refine ⟨fun z => absurd z (by omega), fun _ => sp_192 hI hX (by omega) (fun N' A' o' fc' a b => ?_)⟩
    rw [fj_a1]
    exact ih N' A' o' fc' _ (by omega) a (by omega)
/-- the object and the net begun -/
theorem lp_194 (hX : X.1 < 2147483640) {N : fm_N} {A : fg_A} {o : Nat → Nat} {fc : Nat} (hI : fj_I (fm_uI (fm_uI N.1 0 0 (nI 1)) 0 2 (nI 2300), N.2) A o fc 0 0) (hg : N.2.2.2 = 0) (kk : ∀ N' A o fc, fj_I N' A o fc 0 0 → N'.2.2.2 ≤ 20 → Q (.inl (some (.inl (.ref 1)))) (N', fm_SH)) {o3 o4 o5 : Option fm_V} :
    fm_Ev (fm_PP X) 194 (8, [some (.inl (.ref 999999)), some (.inl (.ref 0)), some (.inl (.ref 1)), o3, o4, o5], [], (N, fm_SH)) Q := by
  refine fb_194_8 X _ _ _ N Q ⟨fz_in (by omega) (by omega), fz_in (by omega) (by omega), ?_⟩
  rw [fz_t (by omega : (0 : Nat) < 2147483648), fz_t (by omega : (2 : Nat) < 2147483648)]
  refine sp_191 hX (by omega) (by omega) (by omega) (fun v hv => ?_)
  rw [nI_add]
  exact lp_194a hX kk _ _ A o fc _ (by omega) hI (by show N.2.2.2 + _ + 4 ≤ 20; omega)
theorem fj_nin {n : Nat} (h : n ≤ 12) : ¬ fj_in (nI n) n := fun ⟨u, hu, e⟩ => by
  have := (nI_eq (by omega) (by omega)).mp e
  omega
theorem fj_nim {n : Nat} (h : n ≤ 12) : ¬ fj_in (Int32.ofInt (-1)) n := fun ⟨u, hu, e⟩ => by
  have h1 : (Int32.ofInt (-1)).toInt = -1 := by decide
  rw [e, fz_nI (by omega)] at h1
  omega
theorem lp_230 {N : fm_N} {A : fg_A} {o : Nat → Nat} {fc M mi : Nat} (hI : fj_I N A o fc M mi) (kk : ∀ N', N'.2.2.2 ≤ N.2.2.2 + 6 → Q (.inl (some (.inl (.int (nI 1))))) (N', fm_SH)) {o0 : Option fm_V} :
    fm_Ev (fm_PP X) 0 (230, [o0, some (.inl (.ref 0)), some (.inl (.ref 1)), some (.inl (.int (nI 1)))], [], (N, fm_SH)) Q := by
  have h0 := hI.2.1.2.1.1
  have h8 := hI.2.1.2.1.2.2.1
  have hn := hI.1.1.1
  have ht := hI.1.1.2.1
  have t4 := hI.1.1.2.2.2.1
  generalize hnn : fg_n (fk_gG N) = n at h0 h8 hn
  have n1 := fj_nin (n := n) (by omega)
  have n2 := fj_nim (n := n) (by omega)
  have i0 := fz_in (a := 0) (n := 500) (by omega) (by omega)
  refine fb_0_230 X _ _ N Q ⟨fun z => absurd z fj_n1, fun _ => ⟨i0, ?_⟩⟩
  rw [fz_t (by omega : (0 : Nat) < 2147483648), h0]
  refine sw_184n (n := n) hn (by omega) n1 ⟨fun _ => sw_188n (n := n) hn (by omega) n2 ⟨fun _ => ⟨i0, ?_⟩, fun z => absurd rfl z⟩, fun z => absurd rfl z⟩
  rw [show (fj_g (fj_g N)).1 0 0 = nI n from h0]
  refine sw_185n (n := n) hn (by omega) n1 ⟨fun _ => sw_186n (n := n) hn (by omega) n2 ⟨fun _ => ⟨i0, ?_⟩, fun z => absurd rfl z⟩, fun z => absurd rfl z⟩
  rw [show (fj_g (fj_g (fj_g (fj_g N)))).1 0 0 = nI n from h0]
  refine sw_190n (n := n) hn (by omega) n1 ⟨fun _ => sw_189n ht t4 (fj_nim (by omega)) ⟨fun _ => sp_36 hI.g.g.g.g.g.g.1 (fun N' q e => ⟨fun z => absurd z fj_n1, fun _ => ⟨Or.inr rfl, kk N' ?_⟩⟩), fun z => absurd rfl z⟩, fun z => absurd rfl z⟩
  have := q.2.2.2.2
  have e6 : (fj_g (fj_g (fj_g (fj_g (fj_g (fj_g N)))))).2.2.2 = N.2.2.2 + 6 := rfl
  omega
theorem lp_0e {N : fm_N} {A : fg_A} {o : Nat → Nat} {fc M mi : Nat} (hI : fj_I N A o fc M mi) (kk : ∀ N', N'.2.2.2 ≤ N.2.2.2 + 20 → Q (.inl (some (.inl (.int (nI 1))))) (N', fm_SH)) {k : Nat} (hk : 34 ≤ k) (hk2 : k < 100) :
    fm_Ev (fm_PP X) 0 (28, [some (.inl (.ref 999999)), some (.inl (.ref 0)), some (.inl (.ref 1)), some (.inl (.int (nI k)))], [], (N, fm_SH)) Q := by
  have h0 := hI.2.1.2.1.1
  have h8 := hI.2.1.2.1.2.2.1
  have hn := hI.1.1.1
  have n0 := hI.1.1.2.2.2.2.1.1
  generalize hnn : fg_n (fk_gG N) = n at h0 h8 hn n0
  have n1 := fj_nin (n := n) (by omega)
  have n2 := fj_nim (n := n) (by omega)
  have i0 := fz_in (a := 0) (n := 500) (by omega) (by omega)
  have e0 : ∀ N' : fm_N, N'.1 = N.1 → N'.1 0 (nI 0).toNatClampNeg = nI n := fun N' h => by rw [h, fz_t (by omega)]; exact h0
  refine fb_0_28 X _ N Q ⟨fun _ => ⟨i0, ?_⟩, fun z => absurd (by rw [fz_le (by omega) (by omega)]; exact hk) z⟩
  rw [e0 N rfl]
  refine sw_173n (n := n) hn (by omega) n1 ⟨fun _ => sw_173r (n := n) hn (by omega) n0 (by unfold fj_rg; decide) ⟨fun _ => sw_173w (n := n) hn (by omega) n0 (by unfold fj_rg; decide) (by unfold fj_rg; decide) ⟨fun _ => ⟨i0, ?_⟩, fun z => absurd rfl z⟩, fun z => absurd rfl z⟩, fun z => absurd rfl z⟩
  rw [e0 _ rfl]
  refine sw_174n (n := n) hn (by omega) n1 ⟨fun _ => sw_174s (n := n) hn (by omega) n0 ⟨fun _ => sw_176n (n := n) hn (by omega) n2 ⟨fun _ => sw_176r (n := n) hn (by omega) n0 (by unfold fj_rg; decide) ⟨fun _ => ⟨i0, ?_⟩, fun z => absurd rfl z⟩, fun z => absurd rfl z⟩, fun z => absurd rfl z⟩, fun z => absurd rfl z⟩
  rw [e0 _ rfl]
  refine sw_177n (n := n) hn (by omega) n1 ⟨fun _ => sw_177r (n := n) hn (by omega) n0 (by unfold fj_rg; decide) ⟨fun _ => sw_182n (by unfold fj_rg; decide) ⟨fun _ => sw_182n (by unfold fj_rg; decide) ⟨fun _ => ⟨i0, ?_⟩, fun z => absurd rfl z⟩, fun z => absurd rfl z⟩, fun z => absurd rfl z⟩, fun z => absurd rfl z⟩
  rw [e0 _ rfl]
  refine sw_183n (n := n) hn (by omega) n1 ⟨fun _ => sw_187n (n := n) hn (by omega) n2 ⟨fun _ => lp_230 hI.g.g.g.g.g.g.g.g.g.g.g.g.g (fun N' h => kk N' ?_), fun z => absurd rfl z⟩, fun z => absurd rfl z⟩
  have e6 : (fj_g (fj_g (fj_g (fj_g (fj_g (fj_g (fj_g (fj_g (fj_g (fj_g (fj_g (fj_g (fj_g N))))))))))))).2.2.2 = N.2.2.2 + 13 := rfl
  omega
theorem lp_0 (hX : X.1 < 2147483640) (kk : ∀ N', N'.2.2.2 ≤ 1200 → Q (.inl (some (.inl (.int (nI 1))))) (N', fm_SH)) :
    ∀ m k (N : fm_N) (A : fg_A) (o : Nat → Nat) (fc M : Nat), 34 - k = m → k ≤ 34 → fj_I N A o fc M (5 * k) → N.2.2.2 ≤ 60 + 30 * k →
    fm_Ev (fm_PP X) 0 (28, [some (.inl (.ref 999999)), some (.inl (.ref 0)), some (.inl (.ref 1)), some (.inl (.int (nI k)))], [], (N, fm_SH)) Q := by
  intro m
  induction m with
  | zero =>
    intro k N A o fc M hm hk hI hg
    exact lp_0e hI (fun N' h => kk N' (by omega)) (by omega) (by omega)
  | succ m ih =>
    intro k N A o fc M hm hk hI hg
    refine fb_0_28 X _ N Q ⟨fun z => absurd z (by rw [fz_le (by omega) (by omega)]; omega), fun _ => ?_⟩
    rw [pk_mul, nI_add, nI_add]
    refine sp_201 hI hX (by omega) (by omega) (fun N' A' o' fc' M' a b => ⟨fun z => absurd z fj_n1, fun _ => sp_203 a (fun N2 a2 b2 => ⟨fun z => absurd z fj_n1, fun _ => ih (k + 1) N2 A' o' fc' M' (by omega) (by omega) ?_ (by omega)⟩)⟩)
    rw [show 5 * (k + 1) = 5 * k + 5 by omega]
    exact a2
/-- the law from where it has its object on -/
theorem lp_11 (hX : X.1 < 2147483640) {N : fm_N} {A : fg_A} {o : Nat → Nat} {fc : Nat} (hI : fj_I N A o fc 0 0) (hg : N.2.2.2 ≤ 20) (kk : ∀ N', N'.2.2.2 ≤ 1200 → Q (.inl (some (.inl (.int (nI 1))))) (N', fm_SH)) {o2 o3 : Option fm_V} :
    fm_Ev (fm_PP X) 0 (11, [some (.inl (.ref 999999)), some (.inl (.ref 0)), o2, o3], [.inl (.ref 1)], (N, fm_SH)) Q :=
  fb_0_11 X _ _ N Q (sp_203 hI (fun N' a b => ⟨fun z => absurd z fj_n1, fun _ => lp_0 hX kk _ 0 N' A o fc 0 rfl (Nat.zero_le _) a (by omega)⟩))
end LLO
