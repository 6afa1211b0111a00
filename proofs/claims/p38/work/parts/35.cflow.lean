/-! the class: curves, currents, flows, voltages, limits -/
theorem fz_pred (n : Nat) : nI (n + 1) + Int32.ofInt (-1) = nI n := pk_m1 n
theorem fz_sub {a b : Nat} (h : b ≤ a) : nI a - nI b = nI (a - b) := pk_sub h
theorem fz_sh : ∀ i, i < 12 → ((nI i &&& 31).toBitVec.smod 32).toNat = i := by decide +kernel
theorem fz_bit {m i : Nat} (hm : m < 4096) (hi : i < 12) : (nI m >>> (nI i &&& 31)) &&& nI 1 = fz_b (m.testBit i) := by
  rw [pk_shrN (by omega) _ i (fz_sh i hi), pk_andN (m := nI 1) (Nat.lt_of_le_of_lt (Nat.div_le_self _ _) (by omega)) 1 (by decide +kernel)]
  unfold fz_b
  rw [Nat.testBit_eq_decide_div_mod_eq]
  rcases Nat.mod_two_eq_zero_or_one (m / 2 ^ i) with h | h
  · rw [show (2 : Nat) ^ 1 = 2 from rfl, h]; rfl
  · rw [show (2 : Nat) ^ 1 = 2 from rfl, h]; rfl
def fc_min (a b : Int32) : Int32 := if b < a then b else a
def fc_max (a b : Int32) : Int32 := if a < b then b else a
def fc_ab (x : Int32) : Int32 := if nI 0 ≤ x then x else -x
/-- a curve: layers above, the sun that is left, the most -/
def fc_cv (sh : Nat → Bool) (nu : Nat → Int32) : Nat → Int32 → Int32 → Int32
  | 0, left, most => fc_min most (nu 0 * left / nI 100)
  | k + 1, left, most => if sh (k + 1) = true then (if nu (k + 1) ≤ left then fc_cv sh nu k (left - nu (k + 1)) most else nI 0) else fc_cv sh nu k left (fc_min most (nu (k + 1)))
def fk_cv (N : fm_N) (j : Nat) (s : Int32) : Int32 := fc_cv (fun k => decide (N.1 (fm_pc 1 j) k ≠ nI 0)) (N.1 (fm_pc 2 j)) ((N.1 (fm_pc 0 j) 2).toNatClampNeg - 1) s (nI 200)
def fk_Rf (N : fm_N) : Prop := ∀ j, j < 12 → ∃ L, L ≤ 4 ∧ N.1 (fm_pc 0 j) 2 = nI (L + 1)
theorem fk_cv_fr {N N' : fm_N} {cs : List Nat} (h : fx_F cs N N') (hc : ∀ j, j < 12 → cs.contains (fm_pc 0 j) = false ∧ cs.contains (fm_pc 1 j) = false ∧ cs.contains (fm_pc 2 j) = false) {j : Nat} (hj : j < 12) (s : Int32) : fk_cv N' j s = fk_cv N j s := by
  obtain ⟨h0, h1, h2⟩ := hc j hj
  unfold fk_cv
  rw [h.1 _ h0, h.1 _ h1, h.1 _ h2]
theorem fk_Rf.fr {N N' : fm_N} {cs : List Nat} (k : fk_Rf N) (h : fx_F cs N N') (hc : ∀ j, j < 12 → cs.contains (fm_pc 0 j) = false ∧ cs.contains (fm_pc 1 j) = false ∧ cs.contains (fm_pc 2 j) = false) : fk_Rf N' := by
  intro j hj
  rw [h.1 _ (hc j hj).1]
  exact k j hj
def fk_net (N : fm_N) (s : Nat → Bool) (u : Nat) : Int32 := N.1 62 u - fk_cv N u (N.1 1 8) + (if s u = true then N.1 22 u else 0)
def fk_fl (N : fm_N) (A : fg_A) (o : Nat → Nat) (fc : Nat) (s : Nat → Bool) (u : Nat) : Int32 := ft_f (fg_F A) o (fg_D A) fc (fk_net N s) u
def fk_vt (N : fm_N) (A : fg_A) (o : Nat → Nat) (fc : Nat) (s : Nat → Bool) (u : Nat) : Int32 := ft_v (fg_D A) (N.1 1 7) (fun w => fg_S A w * fk_fl N A o fc s w / nI 10) 12 u
def fk_kp (N : fm_N) (A : fg_A) (o : Nat → Nat) (fc : Nat) (s : Nat → Bool) : Prop := ∀ k, k < fc → ¬ (fk_vt N A o fc s (o k) < nI 2070) ∧ (0 < fg_C A (o k) → fc_ab (fk_fl N A o fc s (o k)) ≤ N.1 7 (fg_C A (o k)))
/-- the currents without chargers stand -/
def fk_own (N : fm_N) (n : Nat) : Prop := ∀ i, i < n → N.1 63 i = N.1 62 i - fk_cv N i (N.1 1 8)
/-- flows and voltages stand for the set s -/
def fk_fv (N : fm_N) (A : fg_A) (o : Nat → Nat) (fc : Nat) (s : Nat → Bool) : Prop := ∀ k, k < fc → N.1 19 (o k) = fk_fl N A o fc s (o k) ∧ N.1 20 (o k) = fk_vt N A o fc s (o k)
theorem ft_s_congr {F : Nat → Bool} {o d : Nat → Nat} {fc : Nat} {net met : Nat → Int32} (h : ∀ i, F i = true → net i = met i) (p x : Nat) : ft_s F o d fc net p x = ft_s F o d fc met p x := by
  unfold ft_s
  refine fs_congr 12 fun i _ => ?_
  by_cases z : F i = true
  · rw [h i z]
  · rw [if_neg (fun q => z q.1), if_neg (fun q => z q.1)]
theorem ft_f_congr {F : Nat → Bool} {o d : Nat → Nat} {fc : Nat} {net met : Nat → Int32} (h : ∀ i, F i = true → net i = met i) (u : Nat) : ft_f F o d fc net u = ft_f F o d fc met u := ft_s_congr h _ _
section FKF
variable {X : Nat × (Nat → Int32)} {N : fm_N} {G : fg_G} {A : fg_A} {o : Nat → Nat} {fc : Nat} {X' : Nat → fm_N → Prop} {Q : fm_O → fm_M → Prop}
theorem sp_169 {x : Int32} {K : Int32 → fm_N → Prop} (h : K (fc_ab x) N) : fm_Ci (fm_PP X) 169 [.inl (.int x)] (N, fm_SH) K X' := by
  refine fe_169 X _ N K X' ⟨fun z => ⟨rfl, ?_⟩, fun z => ⟨rfl, ?_⟩⟩
  · have e : fc_ab x = x := if_pos z
    rw [← e]
    exact h
  · have e : fc_ab x = -x := if_neg z
    rw [← e]
    exact h
theorem sp_170 {x y : Int32} {K : Int32 → fm_N → Prop} (h : K (fc_max x y) N) : fm_Ci (fm_PP X) 170 [.inl (.int x), .inl (.int y)] (N, fm_SH) K X' := by
  refine fe_170 X _ _ N K X' ⟨fun z => ⟨rfl, ?_⟩, fun z => ⟨rfl, ?_⟩⟩
  · have e : fc_max x y = y := if_pos z
    rw [← e]
    exact h
  · have e : fc_max x y = x := if_neg z
    rw [← e]
    exact h
theorem sp_171 {x y : Int32} {K : Int32 → fm_N → Prop} (h : K (fc_min x y) N) : fm_Ci (fm_PP X) 171 [.inl (.int x), .inl (.int y)] (N, fm_SH) K X' := by
  refine fe_171 X _ _ N K X' ⟨fun z => ⟨rfl, ?_⟩, fun z => ⟨rfl, ?_⟩⟩
  · have e : fc_min x y = y := if_pos z
    rw [← e]
    exact h
  · have e : fc_min x y = x := if_neg z
    rw [← e]
    exact h
theorem sp_60 {x y : Int32} {K : Int32 → fm_N → Prop} (h : K (x * y / nI 10) N) : fm_Ci (fm_PP X) 60 [.inl (.int x), .inl (.int y)] (N, fm_SH) K X' := fe_60 X _ _ N K X' ⟨rfl, h⟩
theorem sp_59 {m i : Nat} (hm : m < 4096) (hi : i < 12) {K : Int32 → fm_N → Prop} (h : K (fz_b (m.testBit i)) N) : fm_Ci (fm_PP X) 59 [.inl (.int (nI m)), .inl (.int (nI i))] (N, fm_SH) K X' := by
  refine fe_59 X _ _ N K X' ?_
  rw [fz_bit hm hi]
  cases hb : m.testBit i
  · rw [hb] at h
    exact ⟨fun z => absurd z (by decide), fun _ => ⟨Or.inl rfl, rfl, h⟩⟩
  · rw [hb] at h
    exact ⟨fun _ => ⟨Or.inr rfl, rfl, h⟩, fun z => absurd rfl z⟩
theorem lp_141 {j : Nat} {o1 : Option fm_V} : ∀ (k : Nat) (left most : Int32), k ≤ 4 → Q (.inl (some (.inl (.int (fc_cv (fun k => decide (N.1 (fm_pc 1 j) k ≠ nI 0)) (N.1 (fm_pc 2 j)) k left most))))) (N, fm_SH) →
    fm_Ev (fm_PP X) 141 (14, [some (.inr (0, j)), o1, some (.inl (.int left)), some (.inl (.int most)), some (.inl (.int (nI k)))], [], (N, fm_SH)) Q := by
  intro k
  induction k with
  | zero =>
    intro left most hk h
    refine fb_141_14 X j _ _ _ _ N Q ?_
    simp (disch := omega) only [fz_t, fz_le]
    exact ⟨fun _ => ⟨fz_in (by omega) (by omega), sp_171 h⟩, fun z => absurd (Nat.le_refl 0) z⟩
  | succ k ih =>
    intro left most hk h
    refine fb_141_14 X j _ _ _ _ N Q ?_
    simp (disch := omega) only [fz_t, fz_le, fz_pred]
    unfold fc_cv at h
    refine ⟨fun z => absurd z (by omega), fun _ => ⟨fz_in (by omega) (by omega), fun hs => ⟨fz_in (by omega) (by omega), ?_⟩, fun hs => ⟨fz_in (by omega) (by omega), fun hl => ⟨fz_in (by omega) (by omega), ?_⟩, fun hl => ?_⟩⟩⟩
    · rw [if_neg (by simp [hs])] at h
      exact sp_171 (ih left _ (by omega) h)
    · rw [if_pos (decide_eq_true hs), if_pos hl] at h
      exact ih _ most (by omega) h
    · rw [if_pos (decide_eq_true hs), if_neg hl] at h
      exact h
theorem sp_141 (hR : fk_Rf N) {j : Nat} (hj : j < 12) {s : Int32} {K : Int32 → fm_N → Prop} (h : K (fk_cv N j s) N) : fm_Ci (fm_PP X) 141 [.inr (0, j), .inl (.int s)] (N, fm_SH) K X' := by
  obtain ⟨L, hL, e⟩ := hR j hj
  refine fe_141 X j _ N K X' ?_
  rw [e, fz_sub (by omega)]
  refine lp_141 (L + 1 - 1) s (nI 200) (by omega) ⟨rfl, ?_⟩
  unfold fk_cv at h
  rw [e, fz_t (by omega)] at h
  exact h
theorem lp_44 (hG : fk_G N G) (hR : fk_Rf N) : ∀ m k (N1 : fm_N), fg_n G - k = m → k ≤ fg_n G → fx_F [63] N N1 → (∀ i, i < k → N1.1 63 i = N.1 62 i - fk_cv N i (N.1 1 8)) →
    (∀ N', fx_F [63] N N' → (∀ i, i < fg_n G → N'.1 63 i = N.1 62 i - fk_cv N i (N.1 1 8)) → Q (.inl none) (N', fm_SH)) →
    fm_Ev (fm_PP X) 44 (2, [some (.inl (.ref 1)), some (.inl (.int (nI k)))], [], (N1, fm_SH)) Q := by
  have h12 := hG.2.2.1
  intro m
  induction m with
  | zero =>
    intro k N1 hm hk hF hi kk
    refine fb_44_2 X _ N1 Q ?_
    rw [fx_cell hF 4 rfl 8, hG.1]
    simp (disch := omega) only [fz_t, fz_le]
    exact ⟨fun _ => kk N1 hF (fun i h => hi i (by omega)), fun z => absurd (by omega) z⟩
  | succ m ih =>
    intro k N1 hm hk hF hi kk
    refine fb_44_2 X _ N1 Q ?_
    rw [fx_cell hF 4 rfl 8, hG.1]
    simp (disch := omega) only [fz_t, fz_le, nI_add]
    refine ⟨fun z => absurd z (by omega), fun _ => ⟨fz_in (by omega) (by omega), fz_in (by omega) (by omega), ?_⟩⟩
    refine sp_141 (hR.fr hF (by decide)) (by omega) ⟨fz_in (by omega) (by omega), ?_⟩
    refine ih (k + 1) _ (by omega) (by omega) (hF.up rfl) (fun i h => ?_) kk
    simp only [fz_at]
    by_cases z : i = k
    · rw [if_pos z, z, fx_cell hF 62 rfl, fx_cell hF 1 rfl, fk_cv_fr hF (by decide) (by omega)]
    · rw [if_neg z]; exact hi i (by omega)
theorem sp_44 (hG : fk_G N G) (hR : fk_Rf N) {K : fm_N → Prop} (k : ∀ N', fx_F [63] N N' → fk_own N' (fg_n G) → K N') : fm_Cv (fm_PP X) 44 [.inl (.ref 1)] (N, fm_SH) K X' := by
  have h12 := hG.2.2.1
  refine fe_44 X N K X' ?_
  refine lp_44 hG hR _ 0 N rfl (by omega) (fx_F.rf _ _) (fun i h => absurd h (Nat.not_lt_zero i)) (fun N' a1 a2 => ⟨rfl, k N' a1 (fun i hi => ?_)⟩)
  rw [a2 i hi, fx_cell a1 62 rfl, fx_cell a1 1 rfl, fk_cv_fr a1 (by decide) (by omega)]
/-- the net currents as the class adds them -/
def fk_nt (N : fm_N) (m : Nat) (u : Nat) : Int32 := if m.testBit u = true then N.1 63 u + N.1 22 u else N.1 63 u
theorem lp_131a {m : Nat} (hm : m < 4096) {x4 : Int32} {o6 : Option fm_V} : ∀ j k (N1 : fm_N), 12 - k = j → k ≤ 12 → fx_F [19, 20] N N1 → (∀ i, i < k → N1.1 19 i = fk_nt N m i) →
    (∀ N', fx_F [19, 20] N N' → (∀ i, i < 12 → N'.1 19 i = fk_nt N m i) → fm_Ev (fm_PP X) 131 (59, [some (.inl (.ref 2)), some (.inl (.ref 63)), some (.inl (.ref 22)), some (.inl (.int (nI m))), some (.inl (.int x4)), some (.inl (.int ((N.1 3 7) - (nI 1)))), o6], [], (N', fm_SH)) Q) →
    fm_Ev (fm_PP X) 131 (3, [some (.inl (.ref 2)), some (.inl (.ref 63)), some (.inl (.ref 22)), some (.inl (.int (nI m))), some (.inl (.int x4)), some (.inl (.int (nI k))), o6], [], (N1, fm_SH)) Q := by
  intro j
  induction j with
  | zero =>
    intro k N1 hj hk hF hi kk
    refine fb_131_3 X _ _ _ _ N1 Q ?_
    rw [fx_cell hF 3 rfl]
    simp (disch := omega) only [fz_t, fz_le]
    exact ⟨fun _ => kk N1 hF (fun i h => hi i (by omega)), fun z => absurd (by omega) z⟩
  | succ j ih =>
    intro k N1 hj hk hF hi kk
    refine fb_131_3 X _ _ _ _ N1 Q ?_
    simp (disch := omega) only [fz_t, fz_le, nI_add]
    refine ⟨fun z => absurd z (by omega), fun _ => sp_59 hm (by omega) ?_⟩
    rw [fz_be]
    refine ⟨fun hb => ⟨fz_in (by omega) (by omega), fz_in (by omega) (by omega), ih (k + 1) _ (by omega) (by omega) (hF.up rfl) (fun i h => ?_) kk⟩, fun hb => ⟨fz_in (by omega) (by omega), fz_in (by omega) (by omega), fz_in (by omega) (by omega), ih (k + 1) _ (by omega) (by omega) (hF.up rfl) (fun i h => ?_) kk⟩⟩
    · simp only [fz_at]
      by_cases z : i = k
      · rw [if_pos z, z, fx_cell hF 63 rfl]
        unfold fk_nt
        rw [if_neg (by rw [hb]; exact fun z => nomatch z)]
      · rw [if_neg z]; exact hi i (by omega)
    · simp only [fz_at]
      by_cases z : i = k
      · rw [if_pos z, z, fx_cell hF 63 rfl, fx_cell hF 22 rfl]
        unfold fk_nt
        rw [if_pos (by simpa using hb)]
      · rw [if_neg z]; exact hi i (by omega)
theorem lp_131b (h : fk_S N A o fc) {net : Nat → Int32} {x4 : Int32} {o1 o2 o3 : Option fm_V} : ∀ p (N1 : fm_N) (o6 : Option fm_V), p < fc → fx_F [19, 20] N N1 → ft_c (fg_F A) o (fg_D A) fc net (p + 1) (N1.1 19) →
    (∀ N' o6, fx_F [19, 20] N N' → ft_c (fg_F A) o (fg_D A) fc net 1 (N'.1 19) → N'.1 20 0 = x4 → fm_Ev (fm_PP X) 131 (118, [some (.inl (.ref 2)), o1, o2, o3, some (.inl (.int x4)), some (.inl (.int (nI 1))), o6], [], (N', fm_SH)) Q) →
    fm_Ev (fm_PP X) 131 (59, [some (.inl (.ref 2)), o1, o2, o3, some (.inl (.int x4)), some (.inl (.int (nI p))), o6], [], (N1, fm_SH)) Q := by
  have hfc := h.2.2.2.2.1.1.2.1
  intro p
  induction p with
  | zero =>
    intro N1 o6 hp hF hc kk
    refine fb_131_59 X _ _ _ _ _ _ N1 Q ?_
    simp (disch := omega) only [fz_t, fz_le]
    refine ⟨fun _ => ⟨fz_in (by omega) (by omega), kk _ _ (hF.up rfl) ?_ ?_⟩, fun z => absurd (Nat.le_refl 0) z⟩
    · simp only [fz_ne _ _ (by decide : (19 : Nat) ≠ 20)]; exact hc
    · simp only [fz_at, if_true]
  | succ p ih =>
    intro N1 o6 hp hF hc kk
    obtain ⟨g16, g12⟩ := h.2.2.2.1 (p + 1) (by omega)
    obtain ⟨-, g13, -, -, gD, -⟩ := h.1 _ g12
    refine fb_131_59 X _ _ _ _ _ _ N1 Q ?_
    rw [fx_cell hF 17 rfl, fx_cell hF 14 rfl]
    simp (disch := omega) only [fz_t, fz_le, g16, g13, fz_pred]
    refine ⟨fun z => absurd z (by omega), fun _ => ⟨fz_in (by omega) (by omega), fz_in (by omega) (by omega), fz_in (by omega) (by omega), fz_in (by omega) (by omega), fz_in (by omega) (by omega), ?_⟩⟩
    refine ih _ _ (by omega) (hF.up rfl) ?_ kk
    refine ft_c_step h.2.2.2.2.1 (by omega) hp hc (fun u => ?_)
    simp only [fz_at]
    by_cases z : u = fg_D A (o (p + 1))
    · rw [if_pos z, if_pos z, z]
    · rw [if_neg z, if_neg z]
theorem lp_131c (h : fk_S N A o fc) {fl : Nat → Int32} {base : Int32} {o1 o2 o3 o4 : Option fm_V} : ∀ m k (N1 : fm_N) (o6 : Option fm_V), fc - k = m → 1 ≤ k → k ≤ fc → fx_F [19, 20] N N1 → (∀ j, j < fc → N1.1 19 (o j) = fl (o j)) → (∀ j, j < k → N1.1 20 (o j) = ft_v (fg_D A) base (fun w => fg_S A w * fl w / nI 10) 12 (o j)) →
    (∀ N', fx_F [19, 20] N N' → (∀ j, j < fc → N'.1 19 (o j) = fl (o j) ∧ N'.1 20 (o j) = ft_v (fg_D A) base (fun w => fg_S A w * fl w / nI 10) 12 (o j)) → Q (.inl none) (N', fm_SH)) →
    fm_Ev (fm_PP X) 131 (118, [some (.inl (.ref 2)), o1, o2, o3, o4, some (.inl (.int (nI k))), o6], [], (N1, fm_SH)) Q := by
  have hfc := h.2.2.2.2.1.1.2.1
  have ok := h.2.2.2.2.1
  intro m
  induction m with
  | zero =>
    intro k N1 o6 hm hk1 hk hF h8 h9 kk
    refine fb_131_118 X _ _ _ _ _ _ N1 Q ?_
    rw [fx_cell hF 3 rfl, h.2.2.1]
    simp (disch := omega) only [fz_t, fz_le]
    exact ⟨fun _ => kk N1 hF (fun j hj => ⟨h8 j hj, h9 j (by omega)⟩), fun z => absurd (by omega) z⟩
  | succ m ih =>
    intro k N1 o6 hm hk1 hk hF h8 h9 kk
    obtain ⟨g16, g12⟩ := h.2.2.2.1 k (by omega)
    obtain ⟨-, g13, -, g15, gD, -⟩ := h.1 _ g12
    refine fb_131_118 X _ _ _ _ _ _ N1 Q ?_
    rw [fx_cell hF 3 rfl, h.2.2.1, fx_cell hF 17 rfl, fx_cell hF 14 rfl, fx_cell hF 16 rfl]
    simp (disch := omega) only [fz_t, fz_le, g16, g13, g15, nI_add]
    refine ⟨fun z => absurd z (by omega), fun _ => ⟨fz_in (by omega) (by omega), fz_in (by omega) (by omega), fz_in (by omega) (by omega), fz_in (by omega) (by omega), fz_in (by omega) (by omega), ?_⟩⟩
    refine sp_60 ⟨fz_in (by omega) (by omega), ?_⟩
    refine ih (k + 1) _ _ (by omega) (by omega) (by omega) (hF.up rfl) (fun j hj => ?_) (fun j hj => ?_) kk
    · simp only [fz_ne _ _ (by decide : (19 : Nat) ≠ 20)]
      exact h8 j hj
    · simp only [fz_at]
      by_cases z : j = k
      · subst z
        rw [if_pos rfl, h8 j (by omega), ft_v_step ok (by omega) (by omega)]
        obtain ⟨r, hr, hor⟩ := ok.2.2.2.2 j (by omega) (by omega)
        rw [← hor, h9 r hr]
      · rw [if_neg (fun e => z (ft_inj ok (by omega) (by omega) e))]
        exact h9 j (by omega)
theorem sp_131 (h : fk_S N A o fc) {m : Nat} (hm : m < 4096) {base : Int32} {K : fm_N → Prop} (k : ∀ N', fx_F [19, 20] N N' → (∀ j, j < fc → N'.1 19 (o j) = ft_f (fg_F A) o (fg_D A) fc (fk_nt N m) (o j) ∧ N'.1 20 (o j) = ft_v (fg_D A) base (fun w => fg_S A w * ft_f (fg_F A) o (fg_D A) fc (fk_nt N m) w / nI 10) 12 (o j)) → K N') :
    fm_Cv (fm_PP X) 131 [.inl (.ref 2), .inl (.ref 63), .inl (.ref 22), .inl (.int (nI m)), .inl (.int base)] (N, fm_SH) K X' := by
  have ok := h.2.2.2.2.1
  have hfc := ok.1.2.1
  have hfc1 := ok.1.1
  refine fe_131 X _ _ N K X' ?_
  refine lp_131a (N := N) hm 12 0 N rfl (by omega) (fx_F.rf _ _) (fun i z => absurd z (Nat.not_lt_zero i)) (fun N1 a1 a2 => ?_)
  rw [h.2.2.1, fz_sub hfc1]
  refine lp_131b (N := N) h (net := fk_nt N m) (fc - 1) N1 _ (by omega) a1 ?_ (fun N2 o6 b1 b2 b3 => ?_)
  · rw [show fc - 1 + 1 = fc by omega]
    exact ft_c_top ok (fun u hu => by
      obtain ⟨k, hk, hok⟩ := ok.2.2.2.1 u hu
      rw [a2 u (by rw [← hok]; exact (ok.2.1 k hk).2)])
  · refine lp_131c (N := N) h (fl := ft_f (fg_F A) o (fg_D A) fc (fk_nt N m)) (base := base) _ 1 N2 _ rfl (by omega) hfc1 b1 (fun j hj => ft_c_end ok b2 hj) (fun j hj => ?_) (fun N3 c1 c2 => ⟨rfl, k N3 c1 c2⟩)
    rw [show j = 0 by omega, ok.1.2.2, b3, ft_v_0]
end FKF
