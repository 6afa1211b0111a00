/-! the model: a minute -/
theorem fz_T0 : (fz_b false = nI 0) = True := eq_true rfl
theorem fz_T1 : (fz_b true = nI 0) = False := eq_false (by decide)
theorem fz_nbb (b : Bool) : fm_nb (fz_b b) = fz_b b := by cases b; exact fz_nb0; exact fz_nb1
theorem fz_or0 (b : Bool) : fm_nb (fz_b b ||| nI 0) = fz_b b := by cases b <;> decide +kernel
theorem fz_or1 (b : Bool) : fm_nb (fz_b b ||| nI 1) = fz_b true := by cases b <;> decide +kernel
section FNP
variable {X : Nat × (Nat → Int32)} {R N : fm_N} {G : fg_G} {A : fg_A} {o : Nat → Nat} {fc M : Nat} {s : Nat → Bool} {X' : Nat → fm_N → Prop} {Q : fm_O → fm_M → Prop}
theorem lp_85a {n : Nat} (hn : n ≤ 12) (h25 : N.1 63 25 = nI n) {x1 x2 : Int32} {o4 o5 : Option fm_V} (kk : ∀ N', fx_F [73] N N' → (∀ i, i < n → N'.1 73 i = nI 0) → fm_Ev (fm_PP X) 85 (36, [some (.inl (.ref 63)), some (.inl (.int x1)), some (.inl (.int x2)), some (.inl (.int (nI 0))), o4, o5], [], (N', fm_SH)) Q) :
    ∀ m k (N1 : fm_N), n - k = m → k ≤ n → fx_F [73] N N1 → (∀ i, i < k → N1.1 73 i = nI 0) → fm_Ev (fm_PP X) 85 (13, [some (.inl (.ref 63)), some (.inl (.int x1)), some (.inl (.int x2)), some (.inl (.int (nI k))), o4, o5], [], (N1, fm_SH)) Q := by
  intro m
  induction m with
  | zero =>
    intro k N1 hm hk hF hi
    refine fb_85_13 X _ _ _ _ _ N1 Q ?_
    rw [fx_cell hF 63 rfl, h25, fz_le (by omega) (by omega)]
    exact ⟨fun _ => kk N1 hF (fun i h => hi i (by omega)), fun z => absurd (by omega) z⟩
  | succ m ih =>
    intro k N1 hm hk hF hi
    refine fb_85_13 X _ _ _ _ _ N1 Q ?_
    rw [fx_cell hF 63 rfl, h25, fz_le (by omega) (by omega), fz_t (by omega : k < 2147483648), fz_nb0, nI_add]
    refine ⟨fun z => absurd z (by omega), fun _ => ⟨fz_in (by omega) (by omega), ih (k + 1) _ (by omega) (by omega) (hF.up rfl) (fun i h => ?_)⟩⟩
    simp only [fz_at]
    by_cases z : i = k
    · rw [if_pos z]
    · rw [if_neg z]; exact hi i (by omega)
theorem lp_85b (hk : fk_S R A o fc) (hG : fn_G N G) (hC : fn_cd R N) (hS : fn_S N A (fg_n G) (fg_t G)) (hn : ∀ u, fg_F A u = true → u < fg_n G) (hC0 : fg_C A 0 = 0) {a : Nat → Nat} {len : Nat} (hlen : len ≤ 12) (ha : ∀ i, i < len → N.1 88 i = nI (a i) ∧ a i < fg_n G) (hd : ∀ i j, i < j → j < len → a i ≠ a j) {x2 : Int32}
    (kk : ∀ N' s o4 o5, fx_F [73, 86, 87] N N' → fq_sv (fg_F A) (fk_kp R A o fc) a len s → (∀ i, i < fg_n G → N'.1 73 i = fz_b (s i)) → fm_Ev (fm_PP X) 85 (100, [some (.inl (.ref 63)), some (.inl (.int (nI len))), some (.inl (.int x2)), some (.inl (.int (nI 0))), o4, o5], [], (N', fm_SH)) Q) :
    ∀ m k (N1 : fm_N) (s : Nat → Bool) (o4 o5 : Option fm_V), len - k = m → k ≤ len → fx_F [73, 86, 87] N N1 → fq_sv (fg_F A) (fk_kp R A o fc) a k s → (∀ i, i < fg_n G → N1.1 73 i = fz_b (s i)) →
    fm_Ev (fm_PP X) 85 (36, [some (.inl (.ref 63)), some (.inl (.int (nI len))), some (.inl (.int x2)), some (.inl (.int (nI k))), o4, o5], [], (N1, fm_SH)) Q := by
  have h12 := hG.2.2.1
  intro m
  induction m with
  | zero =>
    intro k N1 s o4 o5 hm hkl hF hs h73
    refine fb_85_36 X _ _ _ _ _ N1 Q ?_
    rw [fz_le (by omega) (by omega)]
    have e : k = len := by omega
    subst e
    exact ⟨fun _ => kk N1 s _ _ hF hs h73, fun z => absurd (by omega) z⟩
  | succ m ih =>
    intro k N1 s o4 o5 hm hkl hF hs h73
    obtain ⟨g88, gv⟩ := ha k (by omega)
    have hin : fm_inb (nI (a k)) 12 := fz_in (by omega) (by omega)
    have hsv : s (a k) = false := by
      cases hb : s (a k)
      · rfl
      · obtain ⟨_, j, hj, hja⟩ := (fq_sv_in _ _ hs).1 _ hb
        exact absurd hja (hd j k hj (by omega))
    refine fb_85_36 X _ _ _ _ _ N1 Q ?_
    rw [fz_le (by omega) (by omega), fz_t (by omega : k < 2147483648), fx_cell hF 88 rfl, g88, fz_t (by omega : a k < 2147483648), fx_cell hF 74 rfl, (hS.1 _ gv).1, fz_be, fz_nbb, fz_nb0, fz_nb1, nI_add]
    refine ⟨fun z => absurd z (by omega), fun _ => ⟨fz_in (by omega) (by omega), hin, hin, hin, fun hf => ⟨hin, ?_⟩, fun hf => ?_⟩⟩
    · refine ih (k + 1) _ s _ _ (by omega) (by omega) ((hF.up rfl).up rfl) ⟨s, hs, Or.inr ⟨fun z => (by rw [hf] at z; cases z), rfl⟩⟩ (fun i hi => ?_)
      simp only [fz_at]
      by_cases y : i = a k
      · rw [if_pos y, y, hsv]; rfl
      · rw [if_neg y, if_neg y]; exact h73 i hi
    · have hf' : fg_F A (a k) = true := by simpa using hf
      rw [hf']
      have hF2 : fx_F [73, 86, 87] N (fm_uI N1.1 73 (a k) (fz_b true), N1.2) := hF.up rfl
      refine sp_82 (s := fg_up s (a k) true) hk (hC.ff hF2 rfl ⟨rfl, rfl, rfl, rfl, rfl, rfl, rfl⟩) (hG.fr hF2 ⟨rfl, rfl, rfl, rfl, rfl, rfl, rfl⟩) (hS.fr hF2 ⟨rfl, rfl, rfl, rfl, rfl⟩) hn hC0 (fun i hi => ?_) (fun N2 b1 hkp => ?_) (fun N2 b1 hkp => ?_)
      · simp only [fz_at]
        by_cases y : i = a k
        · rw [if_pos y, y, fg_up_eq]
        · rw [if_neg y, fg_up_ne _ _ y]; exact h73 i hi
      · have hF3 : fx_F [73, 86, 87] N N2 := hF2.tr (b1.wk (by intro c hc; simp at hc ⊢; omega))
        refine ⟨fun z => absurd z (by decide), fun _ => ⟨hin, ?_⟩⟩
        refine ih (k + 1) _ (fg_up s (a k) true) _ _ (by omega) (by omega) (hF3.up rfl) ⟨s, hs, Or.inl ⟨hf', hkp, rfl⟩⟩ (fun i hi => ?_)
        simp only [fz_at]
        by_cases y : i = a k
        · rw [if_pos y, y, fg_up_eq]; rfl
        · rw [if_neg y, fg_up_ne _ _ y, fx_cell b1 73 rfl]
          simp only [fz_at, if_neg y]
          exact h73 i hi
      · have hF3 : fx_F [73, 86, 87] N N2 := hF2.tr (b1.wk (by intro c hc; simp at hc ⊢; omega))
        refine ⟨fun _ => ⟨hin, ?_⟩, fun z => absurd rfl z⟩
        refine ih (k + 1) _ s _ _ (by omega) (by omega) (hF3.up rfl) ⟨s, hs, Or.inr ⟨fun _ => hkp, rfl⟩⟩ (fun i hi => ?_)
        simp only [fz_at]
        by_cases y : i = a k
        · rw [if_pos y, y, hsv]; rfl
        · rw [if_neg y, fx_cell b1 73 rfl]
          simp only [fz_at, if_neg y]
          exact h73 i hi
theorem lp_85c {n : Nat} (hn : n ≤ 12) (h25 : N.1 63 25 = nI n) (h73 : ∀ i, i < n → N.1 73 i = fz_b (s i)) {o1 : Option fm_V}
    (kk : ∀ N' o4 o5, fx_M [69, 72] 63 32 N N' → (∀ i, N'.1 72 i = if i < n then fz_b (s i) else N.1 72 i) → (∀ i, (i < n ∧ ¬ N.1 68 i ≤ nI 0 ∧ s i = false → N'.1 69 i = N.1 69 i + nI 1) ∧ (¬ (i < n ∧ ¬ N.1 68 i ≤ nI 0 ∧ s i = false) → N'.1 69 i = N.1 69 i)) → N'.2.1 63 32 = N.2.1 63 32 + fs_l (fun u => if s u = true then (N.1 68 u).toInt64 else 0) n → fm_Cv (fm_PP X) 81 [.inl (.ref 63)] (N', fm_SH) (fun N1 => fm_Ev (fm_PP X) 85 (210, [some (.inl (.ref 63)), o1, some (.inl (.int (nI (fg_cn s n)))), some (.inl (.int (nI 0))), o4, o5], [], (N1, fm_SH)) Q) (fun e N2 => Q (.inr e) (N2, fm_SH))) :
    ∀ m k (N1 : fm_N) (o4 o5 : Option fm_V), n - k = m → k ≤ n → fx_M [69, 72] 63 32 N N1 → (∀ i, N1.1 72 i = if i < k then fz_b (s i) else N.1 72 i) → (∀ i, (i < k ∧ ¬ N.1 68 i ≤ nI 0 ∧ s i = false → N1.1 69 i = N.1 69 i + nI 1) ∧ (¬ (i < k ∧ ¬ N.1 68 i ≤ nI 0 ∧ s i = false) → N1.1 69 i = N.1 69 i)) → N1.2.1 63 32 = N.2.1 63 32 + fs_l (fun u => if s u = true then (N.1 68 u).toInt64 else 0) k →
    fm_Ev (fm_PP X) 85 (100, [some (.inl (.ref 63)), o1, some (.inl (.int (nI (fg_cn s k)))), some (.inl (.int (nI k))), o4, o5], [], (N1, fm_SH)) Q := by
  intro m
  induction m with
  | zero =>
    intro k N1 o4 o5 hm hk hF h72 h69 hl
    refine fb_85_100 X _ _ _ _ _ N1 Q ?_
    rw [hF.1 63 rfl, h25, fz_le (by omega) (by omega)]
    have e : k = n := by omega
    subst e
    exact ⟨fun _ => kk N1 _ _ hF h72 h69 hl, fun z => absurd (by omega) z⟩
  | succ m ih =>
    intro k N1 o4 o5 hm hk hF h72 h69 hl
    have hin : fm_inb (nI k) 12 := fz_in (by omega) (by omega)
    have hin' : fm_inb (nI k) 12 = True := eq_true hin
    have e73 : N1.1 73 k = fz_b (s k) := by rw [hF.1 73 rfl]; exact h73 k (by omega)
    have e69 : N1.1 69 k = N.1 69 k := (h69 k).2 (fun z => by omega)
    have next : ∀ (v69 : Int32) (vl : Int64) (c : Nat), (k < k + 1 ∧ ¬ N.1 68 k ≤ nI 0 ∧ s k = false → v69 = N.1 69 k + nI 1) → (¬ (k < k + 1 ∧ ¬ N.1 68 k ≤ nI 0 ∧ s k = false) → v69 = N.1 69 k) → vl = (if s k = true then (N.1 68 k).toInt64 else 0) → c = (if s k = true then 1 else 0) →
        fm_Ev (fm_PP X) 85 (100, [some (.inl (.ref 63)), o1, some (.inl (.int (nI (fg_cn s k + c)))), some (.inl (.int (nI (k + 1)))), o4, o5], [], ((fm_uI (fm_uI N1.1 72 k (fz_b (s k))) 69 k v69, fm_uI N1.2.1 63 32 (N1.2.1 63 32 + vl), N1.2.2), fm_SH)) Q := by
      intro v69 vl c h1 h2 h3 h4
      have := ih (k + 1) (fm_uI (fm_uI N1.1 72 k (fz_b (s k))) 69 k v69, fm_uI N1.2.1 63 32 (N1.2.1 63 32 + vl), N1.2.2) o4 o5 (by omega) (by omega) ⟨fun d hd => ?_, fun d i hd => ?_, hF.2.2⟩ (fun i => ?_) (fun i => ?_) ?_
      · have e : fg_cn s (k + 1) = fg_cn s k + c := by rw [h4]; rfl
        rw [e] at this
        exact this
      · simp at hd
        show fm_uI (fm_uI N1.1 72 k _) 69 k v69 d = _
        rw [fz_ne _ _ hd.1, fz_ne _ _ hd.2]
        exact hF.1 d (by simp; exact hd)
      · show (if d = 63 ∧ i = 32 then _ else N1.2.1 d i) = _
        rw [if_neg hd]
        exact hF.2.1 d i hd
      · show fm_uI (fm_uI N1.1 72 k _) 69 k v69 72 i = _
        rw [fz_ne _ _ (by decide : (72 : Nat) ≠ 69), fz_at]
        by_cases y : i = k
        · rw [if_pos y, y, if_pos (Nat.lt_succ_self k)]
        · rw [if_neg y, h72]
          by_cases w : i < k
          · rw [if_pos w, if_pos (by omega)]
          · rw [if_neg w, if_neg (by omega)]
      · show (_ → fm_uI (fm_uI N1.1 72 k _) 69 k v69 69 i = _) ∧ (_ → fm_uI (fm_uI N1.1 72 k _) 69 k v69 69 i = _)
        rw [fz_at]
        by_cases y : i = k
        · rw [if_pos y, y]
          exact ⟨h1, h2⟩
        · rw [if_neg y, fz_ne _ _ (by decide : (69 : Nat) ≠ 72)]
          refine ⟨fun z => (h69 i).1 ⟨by omega, z.2⟩, fun z => (h69 i).2 (fun w => z ⟨by omega, w.2⟩)⟩
      · show (if (63 : Nat) = 63 ∧ (32 : Nat) = 32 then N1.2.1 63 32 + vl else N1.2.1 63 32) = _ + (fs_l _ k + (if s k = true then (N.1 68 k).toInt64 else 0))
        rw [if_pos ⟨rfl, rfl⟩, hl, h3]
        ac_rfl
    refine fb_85_100 X _ _ _ _ _ N1 Q ?_
    rw [hF.1 63 rfl, h25, fz_le (by omega) (by omega), fz_t (by omega : k < 2147483648), e73, hF.1 68 rfl, e69, fz_nbb, nI_add k 1, nI_add (fg_cn s k) 0, nI_add (fg_cn s k) 1]
    refine ⟨fun z => absurd z (by omega), fun _ => ?_⟩
    have ez : (N.1 69 k + nI 0) = N.1 69 k := by rw [nI_0, Int32.add_zero]
    by_cases hs : s k = true
    · rw [hs] at next ⊢
      by_cases hc : N.1 68 k ≤ nI 0
      · simp only [fz_T0, fz_T1, hin', eq_true hc, true_implies, not_true_eq_false, false_implies, not_false_eq_true, and_true, true_and, ez]
        exact next _ _ _ (fun z => absurd hc z.2.1) (fun _ => rfl) rfl rfl
      · simp only [fz_T0, fz_T1, hin', eq_false hc, true_implies, not_true_eq_false, false_implies, not_false_eq_true, and_true, true_and, ez]
        exact next _ _ _ (fun z => nomatch z.2.2) (fun _ => rfl) rfl rfl
    · have hs' : s k = false := by simpa using hs
      rw [hs'] at next ⊢
      by_cases hc : N.1 68 k ≤ nI 0
      · simp only [fz_T0, fz_T1, hin', eq_true hc, true_implies, not_true_eq_false, false_implies, not_false_eq_true, and_true, true_and, ez]
        exact next _ _ _ (fun z => absurd hc z.2.1) (fun _ => rfl) rfl rfl
      · simp only [fz_T0, fz_T1, hin', eq_false hc, true_implies, not_true_eq_false, false_implies, not_false_eq_true, and_true, true_and, ez]
        exact next _ _ _ (fun _ => rfl) (fun z => absurd ⟨Nat.lt_succ_self k, hc, rfl⟩ z) rfl rfl
theorem fh_sub {x r : Int32} (hx : fz_bd 0 3168 x) (hr : fz_bd 0 400 r) : x - r ≤ nI 0 ↔ x ≤ r := by
  obtain ⟨a, b⟩ := hx
  obtain ⟨c, d⟩ := hr
  have e : (x - r).toInt = x.toInt - r.toInt := Jvm.Kit.i32_sub (by omega) (by omega)
  rw [fz_leI, fz_leI, e, fz_nI (by omega)]
  omega
theorem lp_85d {n : Nat} (hn12 : n ≤ 12) (h25 : N.1 63 25 = nI n) (hS : fn_S N A n (fg_t G)) {fl rat h : Nat → Int32} (hC12 : ∀ u, fg_F A u = true → fg_C A u < 12) (hfl : ∀ i, i < n → fg_F A i = true → 0 < fg_C A i → N.1 86 i = fl i) (h66 : N.1 66 = rat) (hb : ∀ u, fz_bd (-3168) 3168 (fl u)) (hr : ∀ i, i < 12 → fz_bd 0 400 (rat i)) {o1 : Option fm_V} {x2 : Int32}
    (kk : ∀ N' o4 o5, fx_F [70] N N' → N'.1 70 = fh_h (fg_F A) (fg_C A) fl rat h n → fm_Ev (fm_PP X) 85 (305, [some (.inl (.ref 63)), o1, some (.inl (.int x2)), some (.inl (.int (nI 1))), o4, o5], [], (N', fm_SH)) Q) :
    ∀ m k (N1 : fm_N) (o4 o5 : Option fm_V), n - k = m → k ≤ n → fx_F [70] N N1 → N1.1 70 = fh_h (fg_F A) (fg_C A) fl rat h k →
    fm_Ev (fm_PP X) 85 (210, [some (.inl (.ref 63)), o1, some (.inl (.int x2)), some (.inl (.int (nI k))), o4, o5], [], (N1, fm_SH)) Q := by
  intro m
  induction m with
  | zero =>
    intro k N1 o4 o5 hm hk hF h70
    refine fb_85_210 X _ _ _ _ _ N1 Q ?_
    rw [fx_cell hF 63 rfl, h25, fz_le (by omega) (by omega)]
    have e : k = n := by omega
    subst e
    exact ⟨fun _ => kk N1 _ _ hF h70, fun z => absurd (by omega) z⟩
  | succ m ih =>
    intro k N1 o4 o5 hm hk hF h70
    have hin : fm_inb (nI k) 12 := fz_in (by omega) (by omega)
    have hno : ¬ (fg_F A k = true ∧ 0 < fg_C A k) → ∀ o4 o5, fm_Ev (fm_PP X) 85 (210, [some (.inl (.ref 63)), o1, some (.inl (.int x2)), some (.inl (.int (nI (k + 1)))), o4, o5], [], (N1, fm_SH)) Q := fun z o4 o5 => ih (k + 1) N1 o4 o5 (by omega) (by omega) hF (by rw [h70]; exact (if_neg z).symm)
    refine fb_85_210 X _ _ _ _ _ N1 Q ?_
    rw [fx_cell hF 63 rfl, h25, fz_le (by omega) (by omega), fz_t (by omega : k < 2147483648), fx_cell hF 74 rfl, (hS.1 k (by omega)).1, nI_add]
    refine ⟨fun z => absurd z (by omega), fun _ => ⟨hin, hin, fun hf => ?_, fun hf => ?_⟩⟩
    · rw [fz_be] at hf
      exact hno (fun z => by rw [hf] at z; exact nomatch z.1) _ _
    · rw [fz_be] at hf
      have hf' : fg_F A k = true := by simpa using hf
      have hc12 := hC12 k hf'
      rw [fx_cell hF 84 rfl, ((hS.1 k (by omega)).2 hf').1, fn_c_lt (by omega)]
      refine ⟨fun hc0 => hno (fun z => by omega) _ _, fun hc0 => ⟨hin, sp_169 ?_⟩⟩
      have hc' : 0 < fg_C A k := by omega
      have hinc : fm_inb (nI (fg_C A k)) 12 := fz_in hc12 (by omega)
      rw [fn_c_t (by omega) hc0, fz_t (by omega : fg_C A k < 2147483648), fx_cell hF 86 rfl, hfl k (by omega) hf' hc', hF.1 66 rfl, h66]
      have hstep : ∀ v, v = fh_u (fh_h (fg_F A) (fg_C A) fl rat h k (fg_C A k)) (fc_ab (fl k)) (rat (fg_C A k)) → ∀ o4 o5, fm_Ev (fm_PP X) 85 (210, [some (.inl (.ref 63)), o1, some (.inl (.int x2)), some (.inl (.int (nI (k + 1)))), o4, o5], [], ((fm_uI N1.1 70 (fg_C A k) v, N1.2), fm_SH)) Q := fun v hv o4 o5 => by
        refine ih (k + 1) _ o4 o5 (by omega) (by omega) (hF.up rfl) ?_
        have e : fh_h (fg_F A) (fg_C A) fl rat h (k + 1) = fg_up (fh_h (fg_F A) (fg_C A) fl rat h k) (fg_C A k) (fh_u (fh_h (fg_F A) (fg_C A) fl rat h k (fg_C A k)) (fc_ab (fl k)) (rat (fg_C A k))) := if_pos ⟨hf', hc'⟩
        rw [e, ← hv]
        funext j
        show fm_uI N1.1 70 (fg_C A k) v 70 j = _
        rw [fz_at, h70]
        rfl
      have hxr := fh_sub (fz_bd_ab (hb k) (by omega)) (hr _ hc12)
      rw [h70]
      refine ⟨hinc, fun hle => ⟨hinc, sp_170 ⟨hinc, hstep _ ?_ _ _⟩⟩, fun hgt => ⟨hinc, hinc, hstep _ ?_ _ _⟩⟩
      · exact (if_pos (hxr.mp hle)).symm
      · exact (if_neg (fun z => hgt (hxr.mpr z))).symm
theorem lp_85e {n : Nat} (hn : n ≤ 12) (h25 : N.1 63 25 = nI n) {h : Nat → Int32} (h71 : ∀ c, c < 12 → N.1 71 c = fz_b (decide (nI 100 ≤ h c))) (hst : ∀ c, nI 100 ≤ h c → nI 100 ≤ N.1 70 c) (h00 : fh_b h (N.1 70) 0 = false) {o1 : Option fm_V} {x2 : Int32}
    (kk : ∀ N', fx_F [63, 71] N N' → (∀ i, i ≠ 29 → i ≠ 30 → N'.1 63 i = N.1 63 i) → N'.1 63 29 = N.1 63 29 + nI 1 → N'.1 63 30 = N.1 63 30 + nI (fg_cn (fh_b h (N.1 70)) n) → (∀ c, 1 ≤ c → c < n → N'.1 71 c = fz_b (decide (nI 100 ≤ N.1 70 c))) → (∀ c, ¬ (1 ≤ c ∧ c < n) → N'.1 71 c = N.1 71 c) → Q (.inl (some (.inl (.int x2)))) (N', fm_SH)) :
    ∀ m k (N1 : fm_N) (o4 o5 : Option fm_V), n - k = m → 1 ≤ k → k ≤ n → fx_F [63, 71] N N1 → (∀ i, i ≠ 30 → N1.1 63 i = N.1 63 i) → N1.1 63 30 = N.1 63 30 + nI (fg_cn (fh_b h (N.1 70)) k) → (∀ c, 1 ≤ c → c < k → N1.1 71 c = fz_b (decide (nI 100 ≤ N.1 70 c))) → (∀ c, ¬ (1 ≤ c ∧ c < k) → N1.1 71 c = N.1 71 c) →
    fm_Ev (fm_PP X) 85 (305, [some (.inl (.ref 63)), o1, some (.inl (.int x2)), some (.inl (.int (nI k))), o4, o5], [], (N1, fm_SH)) Q := by
  intro m
  induction m with
  | zero =>
    intro k N1 o4 o5 hm hk1 hk hF h63 h30 ha hb
    refine fb_85_305 X _ _ _ _ _ N1 Q ?_
    rw [h63 25 (by decide), h25, fz_le (by omega) (by omega), h63 29 (by decide)]
    have e : k = n := by omega
    subst e
    refine ⟨fun _ => kk _ (hF.up rfl) (fun i h1 h2 => ?_) ?_ ?_ (fun c h1 h2 => ?_) (fun c h1 => ?_), fun z => absurd (by omega) z⟩
    · simp only [fz_at, if_neg h1]
      exact h63 i h2
    · simp only [fz_at, if_true]
    · simp only [fz_at, show ((30 : Nat) = 29) = False from eq_false (by decide), if_false]
      exact h30
    · simp only [fz_ne _ _ (by decide : (71 : Nat) ≠ 63)]
      exact ha c h1 h2
    · simp only [fz_ne _ _ (by decide : (71 : Nat) ≠ 63)]
      exact hb c h1
  | succ m ih =>
    intro k N1 o4 o5 hm hk1 hk hF h63 h30 ha hb
    have hin : fm_inb (nI k) 12 := fz_in (by omega) (by omega)
    have hin' : fm_inb (nI k) 12 = True := eq_true hin
    have e71 : N1.1 71 k = fz_b (decide (nI 100 ≤ h k)) := by rw [hb k (by omega)]; exact h71 k (by omega)
    have next : ∀ (c : Nat), c = (if fh_b h (N.1 70) k = true then 1 else 0) → fm_Ev (fm_PP X) 85 (305, [some (.inl (.ref 63)), o1, some (.inl (.int x2)), some (.inl (.int (nI (k + 1)))), o4, o5], [], ((fm_uI (fm_uI N1.1 63 30 (N1.1 63 30 + nI c)) 71 k (fz_b (decide (nI 100 ≤ N.1 70 k))), N1.2), fm_SH)) Q := by
      intro c hc
      refine ih (k + 1) _ o4 o5 (by omega) (by omega) (by omega) ((hF.up rfl).up rfl) (fun i hi => ?_) ?_ (fun d h1 h2 => ?_) (fun d h1 => ?_)
      · simp only [fz_ne _ _ (by decide : (63 : Nat) ≠ 71), fz_at, if_neg hi]
        exact h63 i hi
      · have e : fg_cn (fh_b h (N.1 70)) (k + 1) = fg_cn (fh_b h (N.1 70)) k + c := by rw [hc]; rfl
        simp only [fz_ne _ _ (by decide : (63 : Nat) ≠ 71), fz_at, if_true]
        rw [h30, e, Int32.add_assoc, nI_add]
      · simp only [fz_at, fz_ne _ _ (by decide : (71 : Nat) ≠ 63)]
        by_cases y : d = k
        · rw [if_pos y, y]
        · rw [if_neg y]; exact ha d h1 (by omega)
      · simp only [fz_at, fz_ne _ _ (by decide : (71 : Nat) ≠ 63)]
        rw [if_neg (fun y => h1 ⟨by omega, by omega⟩)]
        exact hb d (fun w => h1 ⟨w.1, by omega⟩)
    refine fb_85_305 X _ _ _ _ _ N1 Q ?_
    rw [h63 25 (by decide), h25, fz_le (by omega) (by omega), fz_t (by omega : k < 2147483648), e71, hF.1 70 rfl, fz_or0, fz_or1, nI_add]
    refine ⟨fun z => absurd z (by omega), fun _ => ?_⟩
    by_cases hh : nI 100 ≤ h k
    · have h7 : nI 100 ≤ N.1 70 k := hst k hh
      have hlt : ¬ N.1 70 k < nI 100 := Int32.not_lt.mpr h7
      have hnx := next 0 (by unfold fh_b; rw [decide_eq_true hh]; simp)
      rw [decide_eq_true h7] at hnx
      rw [decide_eq_true hh]
      simp only [fz_T0, fz_T1, hin', eq_false hlt, true_implies, not_true_eq_false, false_implies, not_false_eq_true, and_true, true_and]
      exact hnx
    · rw [decide_eq_false hh]
      by_cases h7 : nI 100 ≤ N.1 70 k
      · have hlt : ¬ N.1 70 k < nI 100 := Int32.not_lt.mpr h7
        have hnx := next 1 (by unfold fh_b; rw [decide_eq_false hh, decide_eq_true h7]; rfl)
        rw [decide_eq_true h7] at hnx
        simp only [fz_T0, fz_T1, hin', eq_false hlt, true_implies, not_true_eq_false, false_implies, not_false_eq_true, and_true, true_and]
        exact hnx
      · have hlt : N.1 70 k < nI 100 := Int32.not_le.mp h7
        have hnx := next 0 (by unfold fh_b; rw [decide_eq_false h7]; rfl)
        rw [decide_eq_false h7] at hnx
        simp only [fz_T0, fz_T1, hin', eq_true hlt, true_implies, not_true_eq_false, false_implies, not_false_eq_true, and_true, true_and]
        exact hnx
end FNP
