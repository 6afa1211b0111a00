/-! the model: flows, voltages, limits -/
theorem fz_net0 (a b : Int32) : (a + nI 0) - b = a - b + 0 := by
  rw [nI_0, Int32.add_zero, Int32.add_zero]
theorem fz_net1 (a b c : Int32) : (a + c) - b = a - b + c := by
  simp only [Int32.sub_eq_add_neg]
  ac_rfl
theorem fz_back (b x : Int32) : b + (x - b) = x := by
  rw [Int32.sub_eq_add_neg, Int32.add_comm x (-b), ← Int32.add_assoc, Int32.add_right_neg, Int32.zero_add]
theorem fz_a1 (b : Bool) : fz_b b &&& nI 1 = fz_b b := by cases b <;> decide
theorem fz_a0 (b : Bool) : fz_b b &&& nI 0 = fz_b false := by cases b <;> decide
theorem fn_c_lt {c : Nat} (h : c < 2147483648) : (fn_c c < nI 0) = (c = 0) := by
  unfold fn_c
  by_cases z : c = 0
  · rw [if_pos z]
    exact propext ⟨fun _ => z, fun _ => by decide⟩
  · rw [if_neg z, fz_lt h (by omega)]
    exact propext ⟨fun q => absurd q (Nat.not_lt_zero c), fun q => absurd q z⟩
theorem fn_c_t {c : Nat} (h : c < 2147483648) (h0 : ¬ c = 0) : fn_c c = nI c := if_neg h0
theorem ft_at_T {F : Nat → Bool} {o d : Nat → Nat} {fc : Nat} (ok : ft_ok F o d fc) {i p q k : Nat} (h : ft_at o d fc i p q) (h1 : q ≤ k) (h2 : k < p) : ft_T o d fc (k + 1) i = o k ↔ k = q := by
  have := ft_at_on ok h h1 h2
  rwa [ft_on_k ok (by have := h.2.1; omega)] at this
theorem fk_fl_k {R : fm_N} {A : fg_A} {o : Nat → Nat} {fc : Nat} {s : Nat → Bool} (ok : ft_ok (fg_F A) o (fg_D A) fc) {k : Nat} (hk : k < fc) : fk_fl R A o fc s (o k) = fs_m (fun i => if fg_F A i = true ∧ ft_T o (fg_D A) fc (k + 1) i = o k then fk_net R s i else 0) 12 := by
  unfold fk_fl ft_f ft_s
  rw [ft_pl_at ok hk]
section FNW
variable {X : Nat × (Nat → Int32)} {R N : fm_N} {G : fg_G} {A : fg_A} {o : Nat → Nat} {fc M : Nat} {s : Nat → Bool} {X' : Nat → fm_N → Prop} {Q : fm_O → fm_M → Prop}
theorem lp_81c (hk : fk_S R A o fc) (hS : fn_S N A (fg_n G) (fg_t G)) (h12 : fg_n G ≤ 12) (hn : ∀ u, fg_F A u = true → u < fg_n G) {i : Nat} (hi : i < fg_n G) (hF : fg_F A i = true) {net : Int32} {base : Nat → Int32}
    (kk : ∀ N' x3, fx_F [86, 87] N N' → (∀ k, 0 < k → k < fc → N'.1 86 (o k) = base k + (if ft_T o (fg_D A) fc (k + 1) i = o k then net else 0)) → fm_Ev (fm_PP X) 81 (25, [some (.inl (.ref 63)), some (.inl (.int (nI (i + 1)))), some (.inl (.int net)), some (.inl (.int x3))], [], (N', fm_SH)) Q) :
    ∀ B q p (N1 : fm_N), q ≤ B → ft_at o (fg_D A) fc i p q → fx_F [86, 87] N N1 → (∀ k, 0 < k → k < fc → N1.1 86 (o k) = base k + (if p ≤ k ∧ ft_T o (fg_D A) fc (k + 1) i = o k then net else 0)) →
    fm_Ev (fm_PP X) 81 (72, [some (.inl (.ref 63)), some (.inl (.int (nI i))), some (.inl (.int net)), some (.inl (.int (nI (o q))))], [], (N1, fm_SH)) Q := by
  have ok := hk.2.2.2.2.1
  have hfc := ok.1.2.1
  have base0 : ∀ q p (N1 : fm_N), q = 0 → ft_at o (fg_D A) fc i p q → fx_F [86, 87] N N1 → (∀ k, 0 < k → k < fc → N1.1 86 (o k) = base k + (if p ≤ k ∧ ft_T o (fg_D A) fc (k + 1) i = o k then net else 0)) →
    fm_Ev (fm_PP X) 81 (72, [some (.inl (.ref 63)), some (.inl (.int (nI i))), some (.inl (.int net)), some (.inl (.int (nI (o q))))], [], (N1, fm_SH)) Q := by
    intro q p N1 hq ha hF1 h86
    subst hq
    refine fb_81_72 X _ _ _ N1 Q ?_
    rw [fz_t (by omega : i < 2147483648), fx_cell hF1 74 rfl, (hS.1 i hi).1, hF, ok.1.2.2, nI_add]
    refine ⟨fz_in (by omega) (by omega), fun z => absurd z (by decide), fun _ => ⟨fun _ => kk N1 _ hF1 (fun k h0 hkf => ?_), fun z => absurd rfl z⟩⟩
    rw [h86 k h0 hkf]
    by_cases y : p ≤ k
    · by_cases w : ft_T o (fg_D A) fc (k + 1) i = o k
      · rw [if_pos ⟨y, w⟩, if_pos w]
      · rw [if_neg (fun z => w z.2), if_neg w]
    · rw [if_neg (fun z => y z.1), if_neg]
      intro w
      have := (ft_at_T ok ha (Nat.zero_le k) (by omega)).mp w
      omega
  intro B
  induction B with
  | zero => intro q p N1 hq ha hF1 h86; exact base0 q p N1 (by omega) ha hF1 h86
  | succ B ih =>
    intro q p N1 hq ha hF1 h86
    by_cases hq0 : q = 0
    · exact base0 q p N1 hq0 ha hF1 h86
    · have hqf : q < fc := by have := ha.1; have := ha.2.1; omega
      obtain ⟨hFq, hq12⟩ := ok.2.1 q hqf
      have hon : o q ≠ 0 := fun z => hq0 ((ft_o0 ok hqf).mp z)
      obtain ⟨r, hr, hor, har⟩ := ft_at_next ok ha (by omega)
      have hin : fm_inb (nI (o q)) 12 := fz_in hq12 (by omega)
      refine fb_81_72 X _ _ _ N1 Q ?_
      rw [fz_t (by omega : i < 2147483648), fz_t (by omega : o q < 2147483648), fx_cell hF1 74 rfl, (hS.1 i hi).1, hF, fz_eq (by omega) (by omega), fx_cell hF1 83 rfl, (((hS.1 (o q) (hn _ hFq)).2 hFq).2 hon).1, ← hor]
      refine ⟨fz_in (by omega) (by omega), fun z => absurd z (by decide), fun _ => ⟨fun z => absurd z hon, fun _ => ⟨hin, hin, hin, ih r q _ (by omega) har (hF1.up rfl) (fun k h0 hkf => ?_)⟩⟩⟩
      simp only [fz_at]
      by_cases y : k = q
      · subst y
        rw [if_pos rfl, h86 k h0 hkf, if_neg (fun z => by have := ha.1; omega), if_pos ⟨Nat.le_refl _, (ft_at_T ok ha (Nat.le_refl _) ha.1).mpr rfl⟩, Int32.add_zero]
      · rw [if_neg (fun e => y (ft_inj ok hkf hqf e)), h86 k h0 hkf]
        by_cases y2 : p ≤ k
        · by_cases w : ft_T o (fg_D A) fc (k + 1) i = o k
          · rw [if_pos ⟨y2, w⟩, if_pos ⟨by have := ha.1; omega, w⟩]
          · rw [if_neg (fun z => w z.2), if_neg (fun z => w z.2)]
        · rw [if_neg (fun z => y2 z.1), if_neg]
          intro z
          exact y ((ft_at_T ok ha z.1 (by omega)).mp z.2)
theorem lp_81b (hk : fk_S R A o fc) (hC : fn_cd R N) (hG : fn_G N G) (hS : fn_S N A (fg_n G) (fg_t G)) (hn : ∀ u, fg_F A u = true → u < fg_n G) (hs : ∀ i, i < fg_n G → N.1 73 i = fz_b (s i))
    (kk : ∀ N' o2 o3, fx_F [86, 87] N N' → (∀ k, 0 < k → k < fc → N'.1 86 (o k) = fk_fl R A o fc s (o k)) → fm_Ev (fm_PP X) 81 (113, [some (.inl (.ref 63)), some (.inl (.int (nI 0))), o2, o3], [], (N', fm_SH)) Q) :
    ∀ m i (N1 : fm_N) (o2 o3 : Option fm_V), fg_n G - i = m → i ≤ fg_n G → fx_F [86, 87] N N1 → (∀ k, 0 < k → k < fc → N1.1 86 (o k) = fs_m (fun i => if fg_F A i = true ∧ ft_T o (fg_D A) fc (k + 1) i = o k then fk_net R s i else 0) i) →
    fm_Ev (fm_PP X) 81 (25, [some (.inl (.ref 63)), some (.inl (.int (nI i))), o2, o3], [], (N1, fm_SH)) Q := by
  have ok := hk.2.2.2.2.1
  have h12 := hG.2.2.1
  intro m
  induction m with
  | zero =>
    intro i N1 o2 o3 hm hi hF h86
    refine fb_81_25 X _ _ _ N1 Q ?_
    rw [fx_cell hF 63 rfl, hG.1, fz_le (by omega) (by omega)]
    refine ⟨fun _ => kk N1 _ _ hF (fun k h0 hkf => ?_), fun z => absurd (by omega) z⟩
    rw [h86 k h0 hkf, fk_fl_k ok hkf]
    exact (fs_more 12 (by omega) (fun j h1 h2 => if_neg (fun z => by have := hn j z.1; omega))).symm
  | succ m ih =>
    intro i N1 o2 o3 hm hi hF h86
    have hin : fm_inb (nI i) 12 := fz_in (by omega) (by omega)
    have hC1 : fn_cd R N1 := hC.ff hF rfl ⟨rfl, rfl, rfl, rfl, rfl, rfl, rfl⟩
    have hS1 : fn_S N1 A (fg_n G) (fg_t G) := hS.fr hF ⟨rfl, rfl, rfl, rfl, rfl⟩
    have go : ∀ net, net = fk_net R s i → fm_Ev (fm_PP X) 81 (72, [some (.inl (.ref 63)), some (.inl (.int (nI i))), some (.inl (.int net)), some (.inl (.int (nI i)))], [], (N1, fm_SH)) Q := by
      intro net hnet
      subst hnet
      by_cases hFi : fg_F A i = true
      · obtain ⟨q, hoq, ha⟩ := ft_at_start ok hFi
        have := lp_81c (X := X) (Q := Q) hk hS h12 hn (by omega : i < fg_n G) hFi (net := fk_net R s i) (base := fun k => fs_m (fun i => if fg_F A i = true ∧ ft_T o (fg_D A) fc (k + 1) i = o k then fk_net R s i else 0) i) (fun N' x3 b1 b2 => ih (i + 1) N' _ _ (by omega) (by omega) b1 (fun k h0 hkf => by
          rw [b2 k h0 hkf]
          show _ = fs_m _ i + (if fg_F A i = true ∧ ft_T o (fg_D A) fc (k + 1) i = o k then fk_net R s i else 0)
          by_cases w : ft_T o (fg_D A) fc (k + 1) i = o k
          · rw [if_pos w, if_pos ⟨hFi, w⟩]
          · rw [if_neg w, if_neg (fun z => w z.2)])) q q fc N1 (Nat.le_refl _) ha hF (fun k h0 hkf => by
          rw [h86 k h0 hkf, if_neg (fun z => by omega), Int32.add_zero])
        rw [hoq] at this
        exact this
      · have hFf : fg_F A i = false := by simpa using hFi
        refine fb_81_72 X _ _ _ N1 Q ?_
        rw [fz_t (by omega : i < 2147483648), (hS1.1 i (by omega)).1, hFf, nI_add]
        refine ⟨hin, fun _ => ih (i + 1) N1 _ _ (by omega) (by omega) hF (fun k h0 hkf => ?_), fun z => absurd rfl z⟩
        rw [h86 k h0 hkf]
        show _ = fs_m _ i + (if fg_F A i = true ∧ ft_T o (fg_D A) fc (k + 1) i = o k then fk_net R s i else 0)
        rw [if_neg (fun z => hFi z.1), Int32.add_zero]
    refine fb_81_25 X _ _ _ N1 Q ?_
    have e73 : N1.1 73 i = fz_b (s i) := by rw [fx_cell hF 73 rfl]; exact hs i (by omega)
    rw [fx_cell hF 63 rfl, hG.1, fz_le (by omega) (by omega), fz_t (by omega : i < 2147483648), e73, fz_be, hC1.2.2.2.1, hC1.2.2.2.2.1, hC1.2.1]
    refine ⟨fun z => absurd z (by omega), fun _ => ⟨hin, hin, fun hb => sp_76 hC1 (by omega) (go _ ?_), fun hb => ⟨hin, sp_76 hC1 (by omega) (go _ ?_)⟩⟩⟩
    · unfold fk_net
      rw [if_neg (by rw [hb]; exact fun z => nomatch z), fz_net0]
    · unfold fk_net
      rw [if_pos (by simpa using hb), fz_net1]
theorem lp_81a (hG : fn_G N G) (kk : ∀ N' o2 o3, fx_F [86, 87] N N' → (∀ i, i < fg_n G → N'.1 86 i = nI 0) → fm_Ev (fm_PP X) 81 (25, [some (.inl (.ref 63)), some (.inl (.int (nI 0))), o2, o3], [], (N', fm_SH)) Q) :
    ∀ m i (N1 : fm_N) (o2 o3 : Option fm_V), fg_n G - i = m → i ≤ fg_n G → fx_F [86, 87] N N1 → (∀ j, j < i → N1.1 86 j = nI 0) → fm_Ev (fm_PP X) 81 (2, [some (.inl (.ref 63)), some (.inl (.int (nI i))), o2, o3], [], (N1, fm_SH)) Q := by
  have h12 := hG.2.2.1
  intro m
  induction m with
  | zero =>
    intro i N1 o2 o3 hm hi hF h86
    refine fb_81_2 X _ _ _ N1 Q ?_
    rw [fx_cell hF 63 rfl, hG.1, fz_le (by omega) (by omega)]
    exact ⟨fun _ => kk N1 _ _ hF (fun j hj => h86 j (by omega)), fun z => absurd (by omega) z⟩
  | succ m ih =>
    intro i N1 o2 o3 hm hi hF h86
    refine fb_81_2 X _ _ _ N1 Q ?_
    rw [fx_cell hF 63 rfl, hG.1, fz_le (by omega) (by omega), fz_t (by omega : i < 2147483648), nI_add]
    refine ⟨fun z => absurd z (by omega), fun _ => ⟨fz_in (by omega) (by omega), ih (i + 1) _ _ _ (by omega) (by omega) (hF.up rfl) (fun j hj => ?_)⟩⟩
    simp only [fz_at]
    by_cases z : j = i
    · rw [if_pos z]
    · rw [if_neg z]; exact h86 j (by omega)
theorem lp_81f (hk : fk_S R A o fc) (hS : fn_S N A (fg_n G) (fg_t G)) (h12 : fg_n G ≤ 12) (hn : ∀ u, fg_F A u = true → u < fg_n G) {i : Nat} (hi : i < fg_n G) (hF : fg_F A i = true) {fl : Nat → Int32} {base : Int32} {o3 : Option fm_V} {N0 : fm_N} {V : Int32} (hN0 : fx_F [86, 87] N N0) (h86 : ∀ k, 0 < k → k < fc → N0.1 86 (o k) = fl (o k))
    (kk : ∀ N' x2, fx_F [87] N0 N' → (∀ j, j ≠ i → N'.1 87 j = N0.1 87 j) → N'.1 87 i = V → fm_Ev (fm_PP X) 81 (113, [some (.inl (.ref 63)), some (.inl (.int (nI (i + 1)))), some (.inl (.int x2)), o3], [], (N', fm_SH)) Q) :
    ∀ B q (N1 : fm_N), q ≤ B → q < fc → fx_F [87] N0 N1 → (∀ j, j ≠ i → N1.1 87 j = N0.1 87 j) → N1.1 87 i + (ft_v (fg_D A) base (fun w => fg_S A w * fl w / nI 10) 12 (o q) - base) = V →
    fm_Ev (fm_PP X) 81 (133, [some (.inl (.ref 63)), some (.inl (.int (nI i))), some (.inl (.int (nI (o q)))), o3], [], (N1, fm_SH)) Q := by
  have ok := hk.2.2.2.2.1
  have base0 : ∀ q (N1 : fm_N), q = 0 → fx_F [87] N0 N1 → (∀ j, j ≠ i → N1.1 87 j = N0.1 87 j) → N1.1 87 i + (ft_v (fg_D A) base (fun w => fg_S A w * fl w / nI 10) 12 (o q) - base) = V →
    fm_Ev (fm_PP X) 81 (133, [some (.inl (.ref 63)), some (.inl (.int (nI i))), some (.inl (.int (nI (o q)))), o3], [], (N1, fm_SH)) Q := by
    intro q N1 hq hF1 hj hV
    subst hq
    rw [ok.1.2.2, ft_v_0] at hV
    refine fb_81_133 X _ _ _ N1 Q ?_
    rw [fz_t (by omega : i < 2147483648), fx_cell hF1 74 rfl, fx_cell hN0 74 rfl, (hS.1 i hi).1, hF, ok.1.2.2, nI_add]
    refine ⟨fz_in (by omega) (by omega), fun z => absurd z (by decide), fun _ => ⟨fun _ => kk N1 _ hF1 hj ?_, fun z => absurd rfl z⟩⟩
    rw [Int32.sub_self, Int32.add_zero] at hV
    exact hV
  intro B
  induction B with
  | zero => intro q N1 hq hqf hF1 hj hV; exact base0 q N1 (by omega) hF1 hj hV
  | succ B ih =>
    intro q N1 hq hqf hF1 hj hV
    by_cases hq0 : q = 0
    · exact base0 q N1 hq0 hF1 hj hV
    · obtain ⟨hFq, hq12⟩ := ok.2.1 q hqf
      have hon : o q ≠ 0 := fun z => hq0 ((ft_o0 ok hqf).mp z)
      obtain ⟨r, hr, hor⟩ := ok.2.2.2.2 q (by omega) hqf
      have hin : fm_inb (nI (o q)) 12 := fz_in hq12 (by omega)
      have hini : fm_inb (nI i) 12 := fz_in (by omega) (by omega)
      obtain ⟨s83, s85⟩ := ((hS.1 (o q) (hn _ hFq)).2 hFq).2 hon
      refine fb_81_133 X _ _ _ N1 Q ?_
      rw [fz_t (by omega : i < 2147483648), fz_t (by omega : o q < 2147483648), fx_cell hF1 74 rfl, fx_cell hN0 74 rfl, (hS.1 i hi).1, hF, fz_eq (by omega) (by omega), fx_cell hF1 83 rfl, fx_cell hN0 83 rfl, s83, fx_cell hF1 85 rfl, fx_cell hN0 85 rfl, s85, fx_cell hF1 86 rfl, h86 q (by omega) hqf, ← hor]
      refine ⟨hini, fun z => absurd z (by decide), fun _ => ⟨fun z => absurd z hon, fun _ => ⟨hini, hin, hin, hini, hin, ih r _ (by omega) (by omega) (hF1.up rfl) (fun j hji => ?_) ?_⟩⟩⟩
      · simp only [fz_at, if_neg hji]
        exact hj j hji
      · simp only [fz_at, if_true]
        rw [ft_v_step ok (by omega) hqf, ← hor] at hV
        rw [fz_shift]
        exact hV
theorem lp_81d (hk : fk_S R A o fc) (hC : fn_cd R N) (hG : fn_G N G) (hS : fn_S N A (fg_n G) (fg_t G)) (hn : ∀ u, fg_F A u = true → u < fg_n G) {fl : Nat → Int32} {N0 : fm_N} (hN0 : fx_F [86, 87] N N0) (h86 : ∀ k, 0 < k → k < fc → N0.1 86 (o k) = fl (o k))
    (kk : ∀ N', fx_F [87] N0 N' → (∀ k, k < fc → N'.1 87 (o k) = ft_v (fg_D A) (R.1 0 7) (fun w => fg_S A w * fl w / nI 10) 12 (o k)) → Q (.inl none) (N', fm_SH)) :
    ∀ m i (N1 : fm_N) (o2 o3 : Option fm_V), fg_n G - i = m → i ≤ fg_n G → fx_F [87] N0 N1 → (∀ k, k < fc → o k < i → N1.1 87 (o k) = ft_v (fg_D A) (R.1 0 7) (fun w => fg_S A w * fl w / nI 10) 12 (o k)) →
    fm_Ev (fm_PP X) 81 (113, [some (.inl (.ref 63)), some (.inl (.int (nI i))), o2, o3], [], (N1, fm_SH)) Q := by
  have ok := hk.2.2.2.2.1
  have h12 := hG.2.2.1
  intro m
  induction m with
  | zero =>
    intro i N1 o2 o3 hm hi hF h87
    refine fb_81_113 X _ _ _ N1 Q ?_
    rw [fx_cell hF 63 rfl, fx_cell hN0 63 rfl, hG.1, fz_le (by omega) (by omega)]
    exact ⟨fun _ => kk N1 hF (fun k hkf => h87 k hkf (by have := hn _ (ok.2.1 k hkf).1; omega)), fun z => absurd (by omega) z⟩
  | succ m ih =>
    intro i N1 o2 o3 hm hi hF h87
    refine fb_81_113 X _ _ _ N1 Q ?_
    rw [fx_cell hF 63 rfl, fx_cell hN0 63 rfl, hG.1, fz_le (by omega) (by omega), fz_t (by omega : i < 2147483648), fx_cell hF 63 rfl, fx_cell hN0 63 rfl, hC.1]
    refine ⟨fun z => absurd z (by omega), fun _ => ⟨fz_in (by omega) (by omega), ?_⟩⟩
    have hF2 : fx_F [87] N0 (fm_uI N1.1 87 i (R.1 0 7), N1.2) := hF.up rfl
    by_cases hFi : fg_F A i = true
    · obtain ⟨q, hq, hoq⟩ := ok.2.2.2.1 i hFi
      have h86' : ∀ k, 0 < k → k < fc → (fm_uI N1.1 87 i (R.1 0 7), N1.2).1 86 (o k) = fl (o k) := fun k h0 hkf => by rw [fx_cell hF2 86 rfl]; exact h86 k h0 hkf
      have go := lp_81f (X := X) (Q := Q) hk hS h12 hn (by omega : i < fg_n G) hFi (fl := fl) (base := R.1 0 7) (o3 := o3) (N0 := (fm_uI N1.1 87 i (R.1 0 7), N1.2)) (V := ft_v (fg_D A) (R.1 0 7) (fun w => fg_S A w * fl w / nI 10) 12 (o q)) (hN0.tr (hF2.wk (by intro c hc; simp at hc ⊢; exact hc.2))) h86' (fun N' x2 b1 b2 b3 => ih (i + 1) N' _ _ (by omega) (by omega) (hF2.tr b1) (fun k hkf hki => by
        by_cases y : o k = i
        · rw [y, b3, hoq]
        · rw [b2 _ y]
          show fm_uI N1.1 87 i (R.1 0 7) 87 (o k) = _
          rw [fz_at, if_neg y]
          exact h87 k hkf (by omega))) q q _ (Nat.le_refl _) hq (fx_F.rf _ _) (fun _ _ => rfl) (by
        show fm_uI N1.1 87 i (R.1 0 7) 87 i + _ = _
        rw [fz_at, if_pos rfl, fz_back])
      rw [hoq] at go
      exact go
    · have hFf : fg_F A i = false := by simpa using hFi
      refine fb_81_133 X _ _ _ _ Q ?_
      rw [fz_t (by omega : i < 2147483648), fx_cell hF2 74 rfl, fx_cell hN0 74 rfl, (hS.1 i (by omega)).1, hFf, nI_add]
      refine ⟨fz_in (by omega) (by omega), fun _ => ih (i + 1) _ _ _ (by omega) (by omega) hF2 (fun k hkf hki => ?_), fun z => absurd rfl z⟩
      have y : o k ≠ i := fun z => by
        have := (ok.2.1 k hkf).1
        rw [z] at this
        exact hFi this
      show fm_uI N1.1 87 i (R.1 0 7) 87 (o k) = _
      rw [fz_at, if_neg y]
      exact h87 k hkf (by omega)
theorem sp_81 (hk : fk_S R A o fc) (hC : fn_cd R N) (hG : fn_G N G) (hS : fn_S N A (fg_n G) (fg_t G)) (hn : ∀ u, fg_F A u = true → u < fg_n G) (hs : ∀ i, i < fg_n G → N.1 73 i = fz_b (s i)) {K : fm_N → Prop}
    (kk : ∀ N', fx_F [86, 87] N N' → (∀ k, 0 < k → k < fc → N'.1 86 (o k) = fk_fl R A o fc s (o k)) → (∀ k, k < fc → N'.1 87 (o k) = fk_vt R A o fc s (o k)) → K N') : fm_Cv (fm_PP X) 81 [.inl (.ref 63)] (N, fm_SH) K X' := by
  have ok := hk.2.2.2.2.1
  refine fe_81 X N K X' ?_
  refine lp_81a (N := N) hG (fun N1 o2 o3 a1 a2 => ?_) _ 0 N _ _ rfl (Nat.zero_le _) (fx_F.rf _ _) (fun j hj => absurd hj (Nat.not_lt_zero j))
  have hw : ∀ c, [86, 87].contains c = false → [86, 87].contains c = false := fun c h => h
  refine lp_81b (N := N) (s := s) hk hC hG hS hn hs (fun N2 p2 p3 b1 b2 => ?_) _ 0 N1 _ _ rfl (Nat.zero_le _) a1 (fun k h0 hkf => ?_)
  · refine lp_81d (N := N) hk hC hG hS hn (fl := fk_fl R A o fc s) (N0 := N2) b1 b2 (fun N3 c1 c2 => ⟨rfl, kk N3 (b1.tr (c1.wk (by intro c hc; simp at hc ⊢; exact hc.2))) (fun k h0 hkf => ?_) c2⟩) _ 0 N2 _ _ rfl (Nat.zero_le _) (fx_F.rf _ _) (fun k _ hk0 => absurd hk0 (Nat.not_lt_zero _))
    rw [fx_cell c1 86 rfl]
    exact b2 k h0 hkf
  · rw [a2 _ (hn _ (ok.2.1 k hkf).1), nI_0]
    rfl
/-- a node keeps the limits -/
def fn_gd (R : fm_N) (A : fg_A) (o : Nat → Nat) (fc : Nat) (s : Nat → Bool) (i : Nat) : Prop := ¬ (fk_vt R A o fc s i < nI 2070) ∧ (0 < fg_C A i → fc_ab (fk_fl R A o fc s i) ≤ R.1 6 (fg_C A i))
theorem fn_kp (ok : ft_ok (fg_F A) o (fg_D A) fc) : fk_kp R A o fc s ↔ ∀ i, fg_F A i = true → fn_gd R A o fc s i := by
  constructor
  · intro h i hi
    obtain ⟨k, hk, hok⟩ := ok.2.2.2.1 i hi
    rw [← hok]
    exact h k hk
  · intro h k hk
    exact h _ (ok.2.1 k hk).1
theorem lp_82 (hk : fk_S R A o fc) (hC : fn_cd R N) (hG : fn_G N G) (hS : fn_S N A (fg_n G) (fg_t G)) (hn : ∀ u, fg_F A u = true → u < fg_n G) (hC0 : fg_C A 0 = 0) (h86 : ∀ k, 0 < k → k < fc → N.1 86 (o k) = fk_fl R A o fc s (o k)) (h87 : ∀ k, k < fc → N.1 87 (o k) = fk_vt R A o fc s (o k))
    (k1 : fk_kp R A o fc s → Q (.inl (some (.inl (.int (nI 1))))) (N, fm_SH)) (k2 : ¬ fk_kp R A o fc s → Q (.inl (some (.inl (.int (nI 0))))) (N, fm_SH)) :
    ∀ m i b, fg_n G - i = m → i ≤ fg_n G → (b = true ↔ ∀ j, j < i → fg_F A j = true → fn_gd R A o fc s j) → fm_Ev (fm_PP X) 82 (8, [some (.inl (.ref 63)), some (.inl (.int (fz_b b))), some (.inl (.int (nI i)))], [], (N, fm_SH)) Q := by
  have ok := hk.2.2.2.2.1
  have h12 := hG.2.2.1
  intro m
  induction m with
  | zero =>
    intro i b hm hi hb
    refine fb_82_8 X _ _ N Q ?_
    rw [hG.1, fz_le (by omega) (by omega)]
    have hkp : fk_kp R A o fc s ↔ b = true := by
      rw [fn_kp ok, hb]
      exact ⟨fun h j _ hj => h j hj, fun h j hj => h j (by have := hn j hj; omega) hj⟩
    refine ⟨fun _ => ?_, fun z => absurd (by omega) z⟩
    cases b with
    | true => exact ⟨Or.inr rfl, k1 (hkp.mpr rfl)⟩
    | false => exact ⟨Or.inl rfl, k2 (fun z => by have := hkp.mp z; cases this)⟩
  | succ m ih =>
    intro i b hm hi hb
    have hin : fm_inb (nI i) 12 := fz_in (by omega) (by omega)
    have hS74 := (hS.1 i (by omega)).1
    have next : ∀ b' : Bool, (b' = true ↔ b = true ∧ (fg_F A i = true → fn_gd R A o fc s i)) → fm_Ev (fm_PP X) 82 (8, [some (.inl (.ref 63)), some (.inl (.int (fz_b b'))), some (.inl (.int (nI (i + 1))))], [], (N, fm_SH)) Q := fun b' h => ih (i + 1) b' (by omega) (by omega) (by
      rw [h, hb]
      constructor
      · rintro ⟨h1, h2⟩ j hj hF
        by_cases y : j = i
        · rw [y] at hF ⊢; exact h2 hF
        · exact h1 j (by omega) hF
      · intro h1
        exact ⟨fun j hj hF => h1 j (by omega) hF, fun hF => h1 i (by omega) hF⟩)
    refine fb_82_8 X _ _ N Q ?_
    rw [hG.1, fz_le (by omega) (by omega), fz_t (by omega : i < 2147483648), hS74, fz_be (fg_F A i), nI_add]
    rw [fz_a1, fz_a1, fz_a0, fz_a0, show fz_b false &&& nI 1 = fz_b false from fz_a1 false]
    by_cases hFi : fg_F A i = true
    · obtain ⟨q, hq, hoq⟩ := ok.2.2.2.1 i hFi
      have e84 := ((hS.1 i (by omega)).2 hFi).1
      have e87 : N.1 87 i = fk_vt R A o fc s i := by rw [← hoq]; exact h87 q hq
      have hC12 : fg_C A i < 12 := (hk.1 i (by omega)).2.2.2.2.2.1
      have hne : ¬ fg_F A i = false := by rw [hFi]; exact fun z => nomatch z
      rw [e84, e87, fn_c_lt (by omega)]
      have inner : ∀ (B0 B1 : Bool), (B0 = true ↔ b = true ∧ False) → (B1 = true ↔ b = true ∧ ¬ (fk_vt R A o fc s i < nI 2070)) → (¬ fg_C A i = 0 → fm_inb (nI i) 12 ∧ fm_Ci (fm_PP X) 169 [.inl (.int (N.1 86 i))] (N, fm_SH) (fun r2 N1 => (fm_inb (nI i) 12 ∧ (fm_inb (N1.1 84 i) 12 ∧ (((N1.1 66 ((N1.1 84 i).toNatClampNeg)) < r2 → fm_Ev (fm_PP X) 82 (8, [some (.inl (.ref 63)), some (.inl (.int (fz_b B0))), some (.inl (.int (nI (i + 1))))], [], (N1, fm_SH)) Q) ∧ (¬ ((N1.1 66 ((N1.1 84 i).toNatClampNeg)) < r2) → fm_Ev (fm_PP X) 82 (8, [some (.inl (.ref 63)), some (.inl (.int (fz_b B1))), some (.inl (.int (nI (i + 1))))], [], (N1, fm_SH)) Q))))) (fun e4 N3 => Q (.inr e4) (N3, fm_SH))) := by
        intro B0 B1 hB0 hB1 hc0
        refine ⟨hin, sp_169 ⟨hin, ?_⟩⟩
        have hq0 : 0 < q := by
          rcases Nat.eq_zero_or_pos q with z | z
          · exfalso
            rw [z, ok.1.2.2] at hoq
            rw [← hoq] at hc0
            exact hc0 hC0
          · exact z
        have e86 : N.1 86 i = fk_fl R A o fc s i := by rw [← hoq]; exact h86 q hq0 hq
        rw [e84, fn_c_t (by omega) hc0, fz_t (by omega : fg_C A i < 2147483648), hC.2.2.1, e86]
        refine ⟨fz_in hC12 (by omega), fun hlt => next B0 ?_, fun hge => next B1 ?_⟩
        · rw [hB0]
          constructor
          · rintro ⟨_, h2⟩; exact h2.elim
          · rintro ⟨h1, h2⟩
            exact absurd ((h2 hFi).2 (by omega)) (Int32.not_le.mpr hlt)
        · rw [hB1]
          constructor
          · rintro ⟨h1, h2⟩
            exact ⟨h1, fun _ => ⟨h2, fun _ => Int32.not_lt.mp hge⟩⟩
          · rintro ⟨h1, h2⟩
            exact ⟨h1, (h2 hFi).1⟩
      refine ⟨fun z => absurd z (by omega), fun _ => ⟨hin, fun z => absurd z hne, fun _ => ⟨hin, fun hlt => ⟨hin, fun z => absurd z hne, fun _ => ⟨hin, fun hc0 => next false ?_, ?_⟩⟩, fun hge => ⟨hin, fun z => absurd z hne, fun _ => ⟨hin, fun hc0 => next b ?_, ?_⟩⟩⟩⟩⟩
      · constructor
        · intro z; cases z
        · rintro ⟨_, h2⟩; exact absurd hlt (h2 hFi).1
      · exact inner false false ⟨fun z => (nomatch z), fun z => z.2.elim⟩ ⟨fun z => (nomatch z), fun z => absurd hlt z.2⟩
      · constructor
        · intro z; exact ⟨z, fun _ => ⟨hge, fun w => by omega⟩⟩
        · rintro ⟨h1, _⟩; exact h1
      · exact inner false b ⟨fun z => (nomatch z), fun z => z.2.elim⟩ ⟨fun z => ⟨z, hge⟩, fun z => z.1⟩
    · have hFf : fg_F A i = false := by simpa using hFi
      refine ⟨fun z => absurd z (by omega), fun _ => ⟨hin, fun _ => ⟨hin, fun _ => next b ⟨fun z => ⟨z, fun w => absurd w hFi⟩, fun z => z.1⟩, fun z => absurd hFf z⟩, fun z => absurd hFf z⟩⟩
theorem sp_82 (hk : fk_S R A o fc) (hC : fn_cd R N) (hG : fn_G N G) (hS : fn_S N A (fg_n G) (fg_t G)) (hn : ∀ u, fg_F A u = true → u < fg_n G) (hC0 : fg_C A 0 = 0) (hs : ∀ i, i < fg_n G → N.1 73 i = fz_b (s i)) {K : Int32 → fm_N → Prop}
    (k1 : ∀ N', fx_F [86, 87] N N' → fk_kp R A o fc s → K (nI 1) N') (k2 : ∀ N', fx_F [86, 87] N N' → ¬ fk_kp R A o fc s → K (nI 0) N') : fm_Ci (fm_PP X) 82 [.inl (.ref 63)] (N, fm_SH) K X' := by
  refine fe_82 X N K X' ?_
  refine sp_81 hk hC hG hS hn hs (fun N1 a1 a2 a3 => ?_)
  exact lp_82 hk (hC.ff a1 rfl ⟨rfl, rfl, rfl, rfl, rfl, rfl, rfl⟩) (hG.fr a1 ⟨rfl, rfl, rfl, rfl, rfl, rfl, rfl⟩) (hS.fr a1 ⟨rfl, rfl, rfl, rfl, rfl⟩) hn hC0 a2 a3 (fun z => ⟨rfl, k1 N1 a1 z⟩) (fun z => ⟨rfl, k2 N1 a1 z⟩) _ 0 true rfl (Nat.zero_le _) ⟨fun _ j hj => absurd hj (Nat.not_lt_zero j), fun _ => rfl⟩
end FNW
