/-! the law's in, many and passes -/
theorem fz_an {α : Type} (f : Nat → Nat → α) (c i : Nat) (v : α) {j : Nat} (h : j ≠ i) : fm_uI f c i v c j = f c j := by rw [fz_at, if_neg h]
theorem fz_ae {α : Type} (f : Nat → Nat → α) (c i : Nat) (v : α) : fm_uI f c i v c i = v := by rw [fz_at, if_pos rfl]
theorem fz_f {α : Type} {f g : Nat → Nat → α} {c : Nat} (h : f c = g c) (j : Nat) : f c j = g c j := by rw [h]
theorem sp_191 {X : Nat × (Nat → Int32)} {N : fm_N} {K : Int32 → fm_N → Prop} {X' : Nat → fm_N → Prop} {i n : Nat} (hX : X.1 < 2147483640) (hi : i < 2147483640) (h0 : 0 < n) (hn : n < 2147483640) (h : ∀ v, v < n → K (nI v) N) : fm_Ci (fm_PP X) 191 [.inl (.ref 999999), .inl (.int (nI i)), .inl (.int (nI n))] (N, fm_SH) K X' := by
  have hk : ∀ r2 : Int32, (¬ (nI n = nI 0) ∧ (fm_SH = fm_SH ∧ K ((r2 &&& (nI 2147483647)) - (r2 &&& (nI 2147483647)) / nI n * nI n) N)) := fun r2 => by
    obtain ⟨j, hj, e⟩ := pk_andE r2 (m := nI 2147483647) 31 (by decide)
    refine ⟨?_, rfl, ?_⟩
    · rw [fz_eq (by omega) (by omega)]; omega
    · rw [e, pk_rem (by omega) h0 (by omega)]
      exact h _ (Nat.mod_lt _ h0)
  refine fe_191 X _ _ N K X' (fe_172 X _ N _ _ ⟨fun _ => ⟨rfl, hk _⟩, fun z => ⟨?_, rfl, hk _⟩⟩)
  rw [fz_le (by omega) (by omega)] at z
  exact fz_in (by omega) (by omega)
theorem fb_low : ∀ m, m < 256 → m = 0 ∨ (m &&& (m - 1) < m ∧ fb_ct (m &&& (m - 1)) + 1 = fb_ct m) := by decide +kernel
theorem fb_ct0 : fb_ct 0 = 0 := by decide
theorem lp_200 {X : Nat × (Nat → Int32)} {N : fm_N} {Q : fm_O → fm_M → Prop} {t : Nat} (h : Q (.inl (some (.inl (.int (nI t))))) (N, fm_SH)) : ∀ j L c (o0 : Option fm_V), L ≤ j → L < 256 → c + fb_ct L = t →
    fm_Ev (fm_PP X) 200 (4, [o0, some (.inl (.int (nI c))), some (.inl (.int (nI L)))], [], (N, fm_SH)) Q := by
  intro j
  induction j with
  | zero =>
    intro L c o0 hj hL hc
    have e : L = 0 := by omega
    subst e
    rw [fb_ct0] at hc
    refine fb_200_4 X o0 _ _ N Q ⟨fun _ => ?_, fun z => absurd rfl z⟩
    rw [show c = t by omega]
    exact h
  | succ j ih =>
    intro L c o0 hj hL hc
    refine fb_200_4 X o0 _ _ N Q ?_
    rw [fz_eq (by omega) (by omega)]
    rcases fb_low L hL with e | ⟨e1, e2⟩
    · refine ⟨fun _ => ?_, fun z => absurd e z⟩
      rw [e, fb_ct0] at hc
      rw [show c = t by omega]
      exact h
    · refine ⟨fun z => by omega, fun z => ?_⟩
      rw [fz_sub (by omega), fb_and, nI_add]
      exact ih _ _ o0 (by omega) (by omega) (by omega)
theorem sp_200 {X : Nat × (Nat → Int32)} {N : fm_N} {K : Int32 → fm_N → Prop} {X' : Nat → fm_N → Prop} {M : Nat} (hM : M < 256) (h : K (nI (fb_ct M)) N) : fm_Ci (fm_PP X) 200 [.inl (.int (nI M))] (N, fm_SH) K X' :=
  fe_200 X _ N K X' (lp_200 ⟨rfl, h⟩ M M 0 _ (Nat.le_refl _) hM (Nat.zero_add _))
/-- the law's net tells what the class's cells in R tell; mi: at most so many minutes -/
def fl_T (R N : fm_N) (M mi : Nat) : Prop := fl_D R N ∧ fl_G N (fk_gG R) ∧
  (∀ i, i < 8 → N.1 0 (110 + i) = R.1 23 i ∧ N.1 0 (130 + i) = R.1 8 i ∧ N.1 0 (170 + i) = fz_b (M.testBit i) ∧ ∃ e, R.1 23 i = nI e ∧ e ≤ mi) ∧
  (∀ i, i < 8 → fg_n (fk_gG R) ≤ i → N.1 0 (400 + i) = nI 0) ∧
  N.1 0 4 = R.1 1 9 ∧ (∃ c, N.1 0 5 = nI c ∧ R.2.1 1 10 = lN c ∧ c ≤ 512 * mi) ∧ mi ≤ 1000
/-- what holds of the class's numbers -/
def fl_K (R : fm_N) : Prop := fk_rng R ∧ fk_Rf R ∧ ∀ i, fz_bd 0 10000 (R.1 8 i)
/-- the class's data after a minute -/
def fl_nx (R : fm_N) (A : fg_A) (o : Nat → Nat) (fc n M' : Nat) : fm_N :=
  (fun c i => if c = 8 then fh_h (fg_F A) (fg_C A) (fk_fl R A o fc M'.testBit) (R.1 7) (R.1 8) n i else if c = 23 then (if i < n ∧ ¬ R.1 22 i ≤ nI 0 ∧ M'.testBit i = false then R.1 23 i + nI 1 else R.1 23 i) else if c = 1 then (if i = 9 then R.1 1 9 + nI 1 else R.1 1 i) else R.1 c i,
   fm_uI R.2.1 1 10 (R.2.1 1 10 + fs_l (fun u => if M'.testBit u = true then (R.1 22 u).toInt64 else 0) n), R.2.2)
theorem fl_nx_c {R : fm_N} {A : fg_A} {o : Nat → Nat} {fc n M' c : Nat} (h8 : c ≠ 8) (h23 : c ≠ 23) (h1 : c ≠ 1) : (fl_nx R A o fc n M').1 c = R.1 c := by
  funext i
  show (if c = 8 then _ else if c = 23 then _ else if c = 1 then _ else R.1 c i) = _
  rw [if_neg h8, if_neg h23, if_neg h1]
theorem fl_nx_8 (R : fm_N) (A : fg_A) (o : Nat → Nat) (fc n M' : Nat) : (fl_nx R A o fc n M').1 8 = fh_h (fg_F A) (fg_C A) (fk_fl R A o fc M'.testBit) (R.1 7) (R.1 8) n := rfl
theorem fl_nx_23 (R : fm_N) (A : fg_A) (o : Nat → Nat) (fc n M' i : Nat) : (fl_nx R A o fc n M').1 23 i = if i < n ∧ ¬ R.1 22 i ≤ nI 0 ∧ M'.testBit i = false then R.1 23 i + nI 1 else R.1 23 i := rfl
theorem fl_nx_1 (R : fm_N) (A : fg_A) (o : Nat → Nat) (fc n M' i : Nat) : (fl_nx R A o fc n M').1 1 i = if i = 9 then R.1 1 9 + nI 1 else R.1 1 i := rfl
theorem fl_nx_l (R : fm_N) (A : fg_A) (o : Nat → Nat) (fc n M' : Nat) : (fl_nx R A o fc n M').2.1 1 10 = R.2.1 1 10 + fs_l (fun u => if M'.testBit u = true then (R.1 22 u).toInt64 else 0) n := by
  show fm_uI R.2.1 1 10 (R.2.1 1 10 + fs_l (fun u => if M'.testBit u = true then (R.1 22 u).toInt64 else 0) n) 1 10 = _
  rw [fz_ae]
theorem fl_nx_dt (R : fm_N) (A : fg_A) (o : Nat → Nat) (fc n M' : Nat) : fk_dt R (fl_nx R A o fc n M') := by
  refine ⟨rfl, rfl, fl_nx_c (by omega) (by omega) (by omega), fl_nx_c (by omega) (by omega) (by omega), fl_nx_c (by omega) (by omega) (by omega), fun j hj => ⟨fl_nx_c ?_ ?_ ?_, fl_nx_c ?_ ?_ ?_, fl_nx_c ?_ ?_ ?_⟩⟩ <;> (unfold fm_pc fm_R0; omega)
theorem fl_nx_cm {R : fm_N} {A : fg_A} {o : Nat → Nat} {fc n M' : Nat} (h : fq_sv (fg_F A) (fk_kp R A o fc) (fl_a (R.1 23) (R.1 22) n) (fl_n (R.1 22) n) M'.testBit) : fk_cm R (fl_nx R A o fc n M') A o fc n M' := by
  refine ⟨⟨fun c hc => fl_nx_c ?_ ?_ ?_, fun c i hc => if_neg hc, rfl⟩, fun i => rfl, h, rfl, fun i => ⟨fun z => if_pos z, fun z => if_neg z⟩, fl_nx_l R A o fc n M'⟩ <;> (intro e; subst e; exact absurd hc (by decide))
theorem fl_nx_G {R : fm_N} {A : fg_A} {o : Nat → Nat} {fc n M' : Nat} : fk_gG (fl_nx R A o fc n M') = ((fk_gG R).1, (fk_gG R).2.1, fun i => !decide (nI 100 ≤ (fl_nx R A o fc n M').1 8 i), (fk_gG R).2.2.2) := rfl
/-- what a step of the fuses adds to a cable's heat -/
theorem fh_min {h : Int32} (hb : fz_bd 0 10000 h) : h + -(fc_min (nI 5) h) = fc_max (nI 0) (h - nI 5) := by
  obtain ⟨p, q⟩ := hb
  have e5 : (nI 5).toInt = 5 := fz_nI (by omega)
  have e0 : (nI 0).toInt = 0 := fz_nI (by omega)
  have es : (h - nI 5).toInt = h.toInt - 5 := by
    have e : (h - nI 5).toInt = h.toInt - (nI 5).toInt := Jvm.Kit.i32_sub (by omega) (by omega)
    omega
  unfold fc_min fc_max
  by_cases z : h < nI 5
  · rw [if_pos z, if_neg (fun y => by rw [fz_ltI] at z y; omega)]
    rw [← Int32.sub_eq_add_neg, Int32.sub_self]
    exact nI_0.symm
  · rw [if_neg z, ← Int32.sub_eq_add_neg]
    by_cases y : nI 0 < h - nI 5
    · rw [if_pos y]
    · rw [if_neg y]
      apply Int32.toInt_inj.mp
      rw [fz_ltI] at z y
      omega
theorem fl_X_0 {R N Y : fm_N} {G : fg_G} {A : fg_A} {o : Nat → Nat} {fc : Nat} (h : fl_X R N G A o fc) (e : Y.1 0 = N.1 0) : fl_X R Y G A o fc := by
  unfold fl_X fl_D fl_G fl_S at h ⊢
  rw [e]
  exact h
theorem fl_bit {S a : Nat} : (S ||| 2 ^ a).testBit = fg_up S.testBit a true := by
  funext j
  rw [fb_or_bit]
  by_cases z : j = a
  · subst z; rw [fg_up_eq]; simp
  · rw [fg_up_ne _ _ z, decide_eq_false (fun e => z e.symm), Bool.or_false]
theorem fb_or_lt8 {M i : Nat} (hM : M < 256) (hi : i < 8) : M ||| 2 ^ i < 256 := Nat.or_lt_two_pow (n := 8) hM (Nat.pow_lt_pow_right (by decide) hi)
section FLP
variable {X : Nat × (Nat → Int32)} {R N : fm_N} {G : fg_G} {A : fg_A} {o : Nat → Nat} {fc mi : Nat} {K : Int32 → fm_N → Prop} {X' : Nat → fm_N → Prop} {Q : fm_O → fm_M → Prop}
/-- who is served -/
theorem lp_199a (x : fl_X R N G A o fc) (h110 : ∀ i, i < 8 → N.1 0 (110 + i) = R.1 23 i ∧ ∃ e, R.1 23 i = nI e ∧ e ≤ mi) (hmi : mi ≤ 1000)
    (kk : ∀ S (o3 o4 o5 : Option fm_V) x2, S < 256 → fq_sv (fg_F A) (fk_kp R A o fc) (fl_a (R.1 23) (R.1 22) (fg_n G)) (fl_n (R.1 22) (fg_n G)) S.testBit → fm_Ev (fm_PP X) 199 (65, [some (.inl (.ref 0)), some (.inl (.int (nI S))), some (.inl (.int x2)), o3, o4, o5], [.inr (3, N.2.2.2)], (((fm_nw N.1 (fm_L0 + N.2.2.2)), N.2.1, N.2.2.1, N.2.2.2 + 1), fm_SH)) Q) :
    ∀ m k S (o3 o4 o5 : Option fm_V), fl_n (R.1 22) (fg_n G) - k = m → k ≤ fl_n (R.1 22) (fg_n G) → S < 256 → fq_sv (fg_F A) (fk_kp R A o fc) (fl_a (R.1 23) (R.1 22) (fg_n G)) k S.testBit →
    fm_Ev (fm_PP X) 199 (8, [some (.inl (.ref 0)), some (.inl (.int (nI S))), some (.inl (.int (nI k))), o3, o4, o5], [], (N, fm_SH)) Q := by
  have hG := x.2.2.1
  have hS := x.2.2.2.1
  have h8 := hG.2.2.1
  have hL := fl_n_le (R.1 22) (fg_n G)
  have hin := fl_a_in (R.1 23) (R.1 22) (fg_n G)
  obtain ⟨e, he⟩ : ∃ e : Nat → Nat, ∀ i, i < 8 → R.1 23 i = nI (e i) ∧ e i ≤ 10000 := by
    refine ⟨fun i => (R.1 23 i).toNatClampNeg, fun i hi => ?_⟩
    obtain ⟨-, e, e1, e2⟩ := h110 i hi
    dsimp only
    rw [e1, fz_t (by omega)]
    exact ⟨rfl, by omega⟩
  have turn : ∀ {p : Nat} {K : Int32 → fm_N → Prop} {X' : Nat → fm_N → Prop}, p < 100 → K (if p < fl_n (R.1 22) (fg_n G) then nI (fl_a (R.1 23) (R.1 22) (fg_n G) p) else Int32.ofInt (-1)) N → fm_Ci (fm_PP X) 198 [.inl (.ref 0), .inl (.int (nI p))] (N, fm_SH) K X' := fun hp h =>
    sp_198 (t := R.1 23) (ch := R.1 22) (e := e) hG.1 h8 (fun i hi => (x.1.2.2.1 i hi).2.2) (fun i hi => (h110 i hi).1) he hp h
  intro m
  induction m with
  | zero =>
    intro k S o3 o4 o5 hm hk hS8 hq
    have ek : k = fl_n (R.1 22) (fg_n G) := by omega
    refine fb_199_8 X _ _ _ _ _ N Q (turn (by omega) ?_)
    rw [if_neg (by omega)]
    refine ⟨fun _ => ⟨rfl, kk S _ _ _ _ hS8 (by rw [← ek]; exact hq)⟩, fun z => absurd (by decide) z⟩
  | succ m ih =>
    intro k S o3 o4 o5 hm hk hS8 hq
    have hkL : k < fl_n (R.1 22) (fg_n G) := by omega
    have ha := (hin.1 k hkL).1
    generalize hae : fl_a (R.1 23) (R.1 22) (fg_n G) k = a at ha
    have ha8 : a < 8 := by omega
    have hneg : ¬ nI a < nI 0 := by rw [fz_lt (by omega) (by omega)]; omega
    have no : (fg_F A a = true → ¬ fk_kp R A o fc (fg_up S.testBit a true)) → ∀ o3 o4 o5 : Option fm_V, fm_Ev (fm_PP X) 199 (8, [some (.inl (.ref 0)), some (.inl (.int (nI S ||| nI 0))), some (.inl (.int (nI k + nI 1))), o3, o4, o5], [], (N, fm_SH)) Q := fun z o3 o4 o5 => by
      rw [fl_or0, nI_add]
      refine ih (k + 1) S o3 o4 o5 (by omega) (by omega) hS8 ⟨S.testBit, hq, Or.inr ⟨?_, rfl⟩⟩
      rw [hae]; exact z
    have hkeep : ∀ {K : Int32 → fm_N → Prop} {X' : Nat → fm_N → Prop}, (fk_kp R A o fc (S ||| 2 ^ a).testBit → K (nI 1) N) → (¬ fk_kp R A o fc (S ||| 2 ^ a).testBit → K (nI 0) N) → fm_Ci (fm_PP X) 196 [.inl (.ref 0), .inl (.int (nI (S ||| 2 ^ a)))] (N, fm_SH) K X' := fun k1 k2 => sp_196 x (by have := fb_or_lt8 hS8 ha8; omega) k1 k2
    refine fb_199_8 X _ _ _ _ _ N Q (turn (by omega) ?_)
    rw [if_pos hkL, hae]
    refine ⟨fun z => absurd z hneg, fun _ => turn (by omega) ?_⟩
    rw [if_pos hkL, hae, nI_add, fz_t (by omega), hS.1 a ha8, fz_b1e]
    refine ⟨fz_in (by omega) (by omega), fun hF => ?_, fun hF => no (fun z => absurd z hF) _ _ _⟩
    rw [fb_or (by omega)]
    refine hkeep (fun hk1 => ?_) (fun hk0 => ?_)
    · refine ⟨fun z => absurd z (by decide), fun _ => ?_⟩
      rw [nI_add]
      refine ih (k + 1) _ _ _ _ (by omega) (by omega) (fb_or_lt8 hS8 ha8) ⟨S.testBit, hq, Or.inl ?_⟩
      rw [hae, ← fl_bit]
      exact ⟨hF, hk1, rfl⟩
    · refine ⟨fun _ => no (fun _ => ?_) _ _ _, fun z => absurd rfl z⟩
      rw [← fl_bit]; exact hk0
/-- what every cable's heat grows by -/
theorem lp_199b (x : fl_X R N G A o fc) (hFin : fg_Fin G A) (hK : fl_K R) (h130 : ∀ i, i < 8 → N.1 0 (130 + i) = R.1 8 i) (hw : ∀ c, fg_w G c = true → ¬ nI 100 ≤ R.1 8 c) {S g : Nat} (hS8 : S < 256)
    (kk : ∀ (Y : fm_N) (o4 o5 : Option fm_V), (∀ c, c ≠ fm_L0 + g → Y.1 c = N.1 c) → Y.2 = N.2 → fm_mk Y.1 g → (∀ c, c < 8 → R.1 8 c + Y.1 (fm_L0 + g) c = fh_h (fg_F A) (fg_C A) (fk_fl R A o fc S.testBit) (R.1 7) (R.1 8) (fg_n G) c) → fm_Ev (fm_PP X) 199 (161, [some (.inl (.ref 0)), some (.inl (.int (nI S))), some (.inr (3, g)), some (.inl (.int (nI 0))), o4, o5], [], (Y, fm_SH)) Q) :
    ∀ m k (Y : fm_N) (o4 o5 : Option fm_V), fg_n G - k = m → 1 ≤ k → k ≤ fg_n G → (∀ c, c ≠ fm_L0 + g → Y.1 c = N.1 c) → Y.2 = N.2 → fm_mk Y.1 g → (∀ c, c < 8 → R.1 8 c + Y.1 (fm_L0 + g) c = fh_h (fg_F A) (fg_C A) (fk_fl R A o fc S.testBit) (R.1 7) (R.1 8) k c) →
    fm_Ev (fm_PP X) 199 (68, [some (.inl (.ref 0)), some (.inl (.int (nI S))), some (.inr (3, g)), some (.inl (.int (nI k))), o4, o5], [], (Y, fm_SH)) Q := by
  obtain ⟨hD, hr, hG, hS, ok, hn, hfc, hC, hC0, hF0⟩ := id x
  have h8 := hG.2.2.1
  have gok := hG.2.2.2.2.1
  have fok : fh_ok (fg_F A) (fg_C A) (R.1 8) := ⟨fun u v a b c d => fg_cab_inj gok hFin a b c d, fun u hu hc => hw _ (fg_cab gok hFin hu hc).1.2.2⟩
  have hL0 : (0 : Nat) ≠ fm_L0 + g := by unfold fm_L0; omega
  intro m
  induction m with
  | zero =>
    intro k Y o4 o5 hm hk1 hk hY hY2 hmk hrow
    have x' := fl_X_0 x (hY 0 hL0)
    refine fb_199_68 X _ _ _ _ _ Y Q ?_
    rw [fz_t (by omega : (0 : Nat) < 2147483648), x'.2.2.1.1, fz_le (by omega) (by omega)]
    exact ⟨fz_in (by omega) (by omega), fun _ => kk Y _ _ hY hY2 hmk (by rw [show fg_n G = k by omega]; exact hrow), fun z => absurd (by omega) z⟩
  | succ m ih =>
    intro k Y o4 o5 hm hk1 hk hY hY2 hmk hrow
    have hk8 : k < 8 := by omega
    have x' := fl_X_0 x (hY 0 hL0)
    obtain ⟨hD', -, hG', hS', -⟩ := id x'
    have no : ¬ (fg_F A k = true ∧ 0 < fg_C A k) → ∀ o4 o5 : Option fm_V, fm_Ev (fm_PP X) 199 (68, [some (.inl (.ref 0)), some (.inl (.int (nI S))), some (.inr (3, g)), some (.inl (.int (nI (k + 1)))), o4, o5], [], (Y, fm_SH)) Q := fun z o4 o5 => by
      refine ih (k + 1) Y o4 o5 (by omega) (by omega) (by omega) hY hY2 hmk (fun c hc => ?_)
      rw [hrow c hc]
      exact (congrFun (show fh_h (fg_F A) (fg_C A) (fk_fl R A o fc S.testBit) (R.1 7) (R.1 8) (k + 1) = _ from if_neg z) c).symm
    have yes : fg_F A k = true → 0 < fg_C A k → ∀ (v : Int32) (o4 o5 : Option fm_V), R.1 8 (fg_C A k) + v = fh_u (R.1 8 (fg_C A k)) (fc_ab (fk_fl R A o fc S.testBit k)) (R.1 7 (fg_C A k)) →
        fm_Ev (fm_PP X) 199 (68, [some (.inl (.ref 0)), some (.inl (.int (nI S))), some (.inr (3, g)), some (.inl (.int (nI (k + 1)))), o4, o5], [], ((fm_uI Y.1 (fm_L0 + g) (fg_C A k) v, Y.2), fm_SH)) Q := fun hF hc v o4 o5 hv => by
      have hC8 := hC k hF
      refine ih (k + 1) _ o4 o5 (by omega) (by omega) (by omega) (fun c hcc => ?_) hY2 ?_ (fun c hc8 => ?_)
      · exact (fz_ne _ _ hcc).trans (hY c hcc)
      · show fm_uI Y.1 (fm_L0 + g) (fg_C A k) v (fm_L0 + g) 5000 = nI 21
        rw [fz_an _ _ _ _ (by omega)]
        exact hmk
      · show R.1 8 c + fm_uI Y.1 (fm_L0 + g) (fg_C A k) v (fm_L0 + g) c = _
        rw [show fh_h (fg_F A) (fg_C A) (fk_fl R A o fc S.testBit) (R.1 7) (R.1 8) (k + 1) = _ from if_pos ⟨hF, hc⟩]
        by_cases z : c = fg_C A k
        · subst z
          rw [fz_ae, fg_up_eq, hv, fh_own fok hF hc]
        · rw [fz_an _ _ _ _ z, fg_up_ne _ _ z]
          exact hrow c hc8
    refine fb_199_68 X _ _ _ _ _ Y Q ?_
    simp (disch := omega) only [fz_t, hG'.1, fz_le, nI_add, hS'.1 k hk8, fz_b1e]
    refine ⟨fz_in (by omega) (by omega), fun z => absurd z (by omega), fun _ => ⟨fz_in (by omega) (by omega), fz_in (by omega) (by omega), fun hF => ?_, fun hF => no (fun z => hF z.1) _ _⟩⟩
    have hC8 := hC k hF
    obtain ⟨-, s2, -⟩ := hS'.2.1 k hk8 hF
    rw [s2, fl_c_neg hC8]
    refine ⟨fun z => no (fun y => by omega) _ _, fun z => ?_⟩
    have hc1 : 1 ≤ fg_C A k := by omega
    rw [fl_c_pos hc1]
    simp (disch := omega) only [fz_t, nI_add, (hD'.2.2.1 (fg_C A k) hC8).1]
    obtain ⟨q, hq, hoq⟩ := ok.2.2.2.1 k hF
    have h13 : Y.1 0 (130 + fg_C A k) = R.1 8 (fg_C A k) := by rw [hY 0 hL0]; exact h130 _ hC8
    have hfin : fm_inb (nI (fg_C A k)) 20 := fz_in (by omega) (by omega)
    have fin : ∀ {P : Int32 → fm_N → Prop}, P (fk_fl R A o fc S.testBit k) Y → ∀ (X' : Nat → fm_N → Prop), fm_Ci (fm_PP X) 231 [.inl (.ref 0), .inl (.int (nI k)), .inl (.int (nI S))] (Y, fm_SH) P X' := fun {P} h X' => by
      have hf := fl_9 (X := X) R Y G A o fc S q P X' hD' hr hG' hS' ok hn (by omega) hq (by omega) (by rw [hoq]; exact h)
      rw [hoq] at hf
      exact hf
    refine fin (sp_169 ⟨fz_in (by omega) (by omega), fun z => ⟨fz_in (by omega) (by omega), sp_171 ⟨⟨hmk, hfin⟩, ?_⟩⟩, fun z => ⟨fz_in (by omega) (by omega), ⟨hmk, hfin⟩, ?_⟩⟩) _
    · simp (disch := omega) only [(hD'.2.2.1 (fg_C A k) hC8).1] at z
      refine yes hF hc1 _ _ _ ?_
      unfold fh_u
      rw [if_pos z, h13]
      exact fh_min (hK.2.2 _)
    · simp (disch := omega) only [(hD'.2.2.1 (fg_C A k) hC8).1] at z
      refine yes hF hc1 _ _ _ ?_
      unfold fh_u
      rw [if_neg z, (hD'.2.2.1 (fg_C A k) hC8).1]
end FLP
