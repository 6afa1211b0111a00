/-! the class: a minute: who is served, who is left out -/
def fq_sv (F : Nat → Bool) (kp : (Nat → Bool) → Prop) (a : Nat → Nat) : Nat → (Nat → Bool) → Prop
  | 0, s => s = fun _ => false
  | k + 1, s => ∃ s0, fq_sv F kp a k s0 ∧ ((F (a k) = true ∧ kp (fg_up s0 (a k) true) ∧ s = fg_up s0 (a k) true) ∨ ((F (a k) = true → ¬ kp (fg_up s0 (a k) true)) ∧ s = s0))
theorem fq_sv_uniq {F : Nat → Bool} {kp : (Nat → Bool) → Prop} {a : Nat → Nat} : ∀ k s s', fq_sv F kp a k s → fq_sv F kp a k s' → s = s' := by
  intro k
  induction k with
  | zero => intro s s' h h'; exact (show s = _ from h).trans (show s' = _ from h').symm
  | succ k ih =>
    intro s s' h h'
    obtain ⟨t, ht, h⟩ := h
    obtain ⟨t', ht', h'⟩ := h'
    have e := ih t t' ht ht'
    subst e
    rcases h with ⟨h1, h2, h3⟩ | ⟨h1, h3⟩ <;> rcases h' with ⟨k1, k2, k3⟩ | ⟨k1, k3⟩
    · rw [h3, k3]
    · exact absurd h2 (k1 h1)
    · exact absurd k2 (h1 k1)
    · rw [h3, k3]
theorem fq_sv_in {F : Nat → Bool} {kp : (Nat → Bool) → Prop} {a : Nat → Nat} : ∀ k s, fq_sv F kp a k s → (∀ i, s i = true → F i = true ∧ ∃ j, j < k ∧ a j = i) ∧ ((∀ i, s i = false) ∨ kp s) := by
  intro k
  induction k with
  | zero =>
    intro s h
    have h : s = fun _ => false := h
    subst h
    exact ⟨fun i hi => (nomatch hi), Or.inl fun _ => rfl⟩
  | succ k ih =>
    intro s h
    obtain ⟨t, ht, h⟩ := h
    obtain ⟨i1, i2⟩ := ih t ht
    rcases h with ⟨h1, h2, h3⟩ | ⟨h1, h3⟩
    · subst h3
      refine ⟨fun i hi => ?_, Or.inr h2⟩
      by_cases z : i = a k
      · subst z; exact ⟨h1, k, Nat.lt_succ_self k, rfl⟩
      · rw [fg_up_ne _ _ z] at hi
        obtain ⟨g1, j, hj, g2⟩ := i1 i hi
        exact ⟨g1, j, by omega, g2⟩
    · subst h3
      exact ⟨fun i hi => (let ⟨g1, j, hj, g2⟩ := i1 i hi; ⟨g1, j, by omega, g2⟩), i2⟩
theorem fb_up (M i : Nat) : (M ||| 2 ^ i).testBit = fg_up M.testBit i true := by
  funext j
  rw [fb_or_bit]
  by_cases z : j = i
  · subst z; rw [fg_up_eq, decide_eq_true rfl, Bool.or_true]
  · rw [fg_up_ne _ _ z, decide_eq_false (fun e => z e.symm), Bool.or_false]
/-- sums of longs -/
def fs_l (f : Nat → Int64) : Nat → Int64
  | 0 => 0
  | k + 1 => fs_l f k + f k
theorem fs_l_congr {f g : Nat → Int64} : ∀ m, (∀ i, i < m → f i = g i) → fs_l f m = fs_l g m := by
  intro m
  induction m with
  | zero => intro _; rfl
  | succ m ih =>
    intro h
    unfold fs_l
    rw [ih (fun i hi => h i (by omega)), h m (by omega)]
theorem fs_l_ins {g : Nat → Int64} {a b : Nat → Nat} {v n q : Nat} (hq : q ≤ n) (h1 : b q = v) (h2 : ∀ i, i < q → b i = a i) (h3 : ∀ i, q < i → i ≤ n → b i = a (i - 1)) : fs_l (fun i => g (b i)) (n + 1) = fs_l (fun i => g (a i)) n + g v := by
  have key : ∀ m, q ≤ m → m ≤ n → fs_l (fun i => g (b i)) (m + 1) = fs_l (fun i => g (a i)) m + g v := by
    intro m
    induction m with
    | zero =>
      intro hm _
      have : q = 0 := by omega
      subst this
      show fs_l (fun i => g (b i)) 0 + g (b 0) = _
      rw [h1]
      rfl
    | succ m ih =>
      intro hm hmn
      by_cases z : q = m + 1
      · show fs_l (fun i => g (b i)) (m + 1) + g (b (m + 1)) = _
        rw [← z, h1, fs_l_congr q (fun i hi => by rw [h2 i hi])]
      · show fs_l (fun i => g (b i)) (m + 1) + g (b (m + 1)) = (fs_l (fun i => g (a i)) m + g (a m)) + g v
        rw [ih (by omega) (by omega), h3 (m + 1) (by omega) hmn]
        show fs_l (fun i => g (a i)) m + g v + g (a m) = _
        ac_rfl
  exact key n hq (Nat.le_refl _)
theorem fs_l_line (g : Nat → Int64) (t ch : Nat → Int32) : ∀ k, fs_l (fun i => g (fl_a t ch k i)) (fl_n ch k) = fs_l (fun u => if ch u ≤ nI 0 then 0 else g u) k := by
  intro k
  induction k with
  | zero => rfl
  | succ k ih =>
    by_cases z : ch k ≤ nI 0
    · have e1 : fl_n ch (k + 1) = fl_n ch k := if_pos z
      have e2 : fl_a t ch (k + 1) = fl_a t ch k := if_pos z
      rw [e1, e2, ih]
      show _ = fs_l _ k + (if ch k ≤ nI 0 then 0 else g k)
      rw [if_pos z, Int64.add_zero]
    · have e1 : fl_n ch (k + 1) = fl_n ch k + 1 := if_neg z
      have e2 : fl_a t ch (k + 1) = fl_in t k (fl_n ch k) (fl_a t ch k) := if_neg z
      rw [e1, e2]
      obtain ⟨q, h1, h2, h3, h4, h5⟩ := fl_in_at t k (fl_n ch k) (fl_a t ch k)
      rw [fs_l_ins h1 h2 h3 h4, ih]
      show _ = fs_l _ k + (if ch k ≤ nI 0 then 0 else g k)
      rw [if_neg z]
theorem fk_own.fr {N N' : fm_N} {n : Nat} {cs : List Nat} (h : fk_own N n) (hn : n ≤ 12) (hF : fx_F cs N N') (c62 : cs.contains 63 = false) (c61 : cs.contains 62 = false) (c0 : cs.contains 1 = false) (hc : ∀ j, j < 12 → cs.contains (fm_pc 0 j) = false ∧ cs.contains (fm_pc 1 j) = false ∧ cs.contains (fm_pc 2 j) = false) : fk_own N' n := fun i hi => by
  rw [fx_cell hF 63 c62, fx_cell hF 62 c61, fx_cell hF 1 c0, fk_cv_fr hF hc (by omega)]
  exact h i hi
section FKN
variable {X : Nat × (Nat → Int32)} {N : fm_N} {G : fg_G} {A : fg_A} {o : Nat → Nat} {fc : Nat} {X' : Nat → fm_N → Prop} {Q : fm_O → fm_M → Prop}
theorem lp_49 (hG : fk_G N G) (h : fk_S N A o fc) (hn : ∀ u, fg_F A u = true → u < fg_n G) {a : Nat → Nat} {len : Nat} (hlen : len ≤ 12)
    (kk : ∀ N' M, fx_F [21, 24, 19, 20] N N' → N'.1 21 3 = nI len → (∀ i, i < len → N'.1 24 i = nI (a i) ∧ a i < 12) → M < 4096 → N'.1 21 4 = nI M → fk_own N' (fg_n G) → fq_sv (fg_F A) (fk_kp N A o fc) a len M.testBit → Q (.inl none) (N', fm_SH)) :
    ∀ m k M (N1 : fm_N) (o3 o4 : Option fm_V), len - k = m → k ≤ len → fx_F [21, 24, 19, 20] N N1 → N1.1 21 3 = nI len → (∀ i, i < len → N1.1 24 i = nI (a i) ∧ a i < 12) → M < 4096 → fk_own N1 (fg_n G) → fq_sv (fg_F A) (fk_kp N A o fc) a k M.testBit →
    fm_Ev (fm_PP X) 49 (18, [some (.inl (.ref 1)), some (.inl (.int (nI M))), some (.inl (.int (nI k))), o3, o4], [], (N1, fm_SH)) Q := by
  have ok := h.2.2.2.2.1
  have h12 := hG.2.2.1
  have hdc : fk_dc [21, 24, 19, 20] := by unfold fk_dc; decide
  intro m
  induction m with
  | zero =>
    intro k M N1 o3 o4 hm hk hF h3 hl hM hO hs
    refine fb_49_18 X _ _ _ _ N1 Q ?_
    rw [h3]
    simp (disch := omega) only [fz_t, fz_le]
    have e : k = len := by omega
    subst e
    refine ⟨fun _ => kk _ M (hF.up rfl) ?_ (fun i hi => ?_) hM ?_ (fun i hi => ?_) hs, fun z => absurd (by omega) z⟩
    · simp [fz_ui]; exact h3
    · simp [fz_ui]; exact hl i hi
    · simp [fz_ui]
    · exact hO.fr h12 ((fx_F.rf [21] N1).up rfl) rfl rfl rfl (by decide) i hi
  | succ m ih =>
    intro k M N1 o3 o4 hm hk hF h3 hl hM hO hs
    obtain ⟨g23, ga⟩ := hl k (by omega)
    refine fb_49_18 X _ _ _ _ N1 Q ?_
    rw [h3, fx_cell hF 13 rfl]
    simp (disch := omega) only [fz_t, fz_le, g23, (h.1 _ ga).1, fz_be, nI_add]
    rw [fb_or ga]
    refine ⟨fun z => absurd z (by omega), fun _ => ⟨fz_in (by omega) (by omega), fz_in (by omega) (by omega), fun hf => ?_, fun hf => ?_⟩⟩
    · exact ih (k + 1) M N1 _ _ (by omega) (by omega) hF h3 hl hM hO ⟨_, hs, Or.inr ⟨fun z => (by rw [hf] at z; cases z), rfl⟩⟩
    · have hf' : fg_F A (a k) = true := by simpa using hf
      refine sp_47 (h.fr hF ⟨rfl, rfl, rfl, rfl, rfl, rfl, rfl⟩) hn hO (fb_or_lt hM ga) (fun N2 a1 hk2 => ?_) (fun N2 a1 hk2 => ?_)
      all_goals
        have hF2 : fx_F [21, 24, 19, 20] N N2 := hF.tr (a1.wk (by intro c hc; simp at hc ⊢; exact ⟨hc.2.2.1, hc.2.2.2⟩))
        have hO2 : fk_own N2 (fg_n G) := fun i hi => by rw [fx_cell a1 63 rfl, fx_cell a1 62 rfl, fx_cell a1 1 rfl, fk_cv_fr a1 (by decide) (by omega)]; exact hO i hi
        have h32 : N2.1 21 3 = nI len := by rw [fx_cell a1 21 rfl]; exact h3
        have hl2 : ∀ i, i < len → N2.1 24 i = nI (a i) ∧ a i < 12 := fun i hi => by rw [fx_cell a1 24 rfl]; exact hl i hi
        have hkp : fk_kp N1 A o fc (M ||| 2 ^ a k).testBit ↔ fk_kp N A o fc (M ||| 2 ^ a k).testBit := fk_kp_fr ok hF hdc
        rw [hkp] at hk2
      · exact ⟨fun z => absurd z (by decide), fun _ => ih (k + 1) _ N2 _ _ (by omega) (by omega) hF2 h32 hl2 (fb_or_lt hM ga) hO2 ⟨_, hs, Or.inl ⟨hf', by rw [← fb_up]; exact hk2, fb_up _ _⟩⟩⟩
      · exact ⟨fun _ => ih (k + 1) _ N2 _ _ (by omega) (by omega) hF2 h32 hl2 hM hO2 ⟨_, hs, Or.inr ⟨fun _ => by rw [← fb_up]; exact hk2, rfl⟩⟩, fun z => absurd rfl z⟩
theorem sp_49 (hG : fk_G N G) (h : fk_S N A o fc) (hn : ∀ u, fg_F A u = true → u < fg_n G) (hO : fk_own N (fg_n G)) {K : fm_N → Prop}
    (k : ∀ N' M, fx_F [21, 24, 19, 20] N N' → N'.1 21 3 = nI (fl_n (N.1 22) (fg_n G)) → (∀ i, i < fl_n (N.1 22) (fg_n G) → N'.1 24 i = nI (fl_a (N.1 23) (N.1 22) (fg_n G) i) ∧ fl_a (N.1 23) (N.1 22) (fg_n G) i < 12) → M < 4096 → N'.1 21 4 = nI M → fk_own N' (fg_n G) → fq_sv (fg_F A) (fk_kp N A o fc) (fl_a (N.1 23) (N.1 22) (fg_n G)) (fl_n (N.1 22) (fg_n G)) M.testBit → K N') : fm_Cv (fm_PP X) 49 [.inl (.ref 1)] (N, fm_SH) K X' := by
  have h12 := hG.2.2.1
  have hle := fl_n_le (N.1 22) (fg_n G)
  refine fe_49 X N K X' ?_
  rw [hG.1]
  refine sp_116 h12 (fun N1 a1 a2 a3 a4 => ?_)
  have hF : fx_F [21, 24, 19, 20] N N1 := a1.wk (by intro c hc; simp at hc ⊢; exact ⟨hc.1, hc.2.1⟩)
  refine lp_49 hG h hn (by omega) (fun N' M b1 b2 b3 b4 b5 b6 b7 => ⟨rfl, k N' M b1 b2 b3 b4 b5 b6 b7⟩) _ 0 0 N1 _ _ rfl (Nat.zero_le _) hF a3 a4 (by omega) (fun i hi => ?_) ?_
  · rw [fx_cell a1 63 rfl, fx_cell a1 62 rfl, fx_cell a1 1 rfl, fk_cv_fr a1 (by decide) (by omega)]
    exact hO i hi
  · show (0 : Nat).testBit = fun _ => false
    funext i
    exact Nat.zero_testBit i
/-- all but these cells, and the long at lc, is as it was -/
def fx_M (cs : List Nat) (lc li : Nat) (N N' : fm_N) : Prop := (∀ c, cs.contains c = false → N'.1 c = N.1 c) ∧ (∀ c i, ¬ (c = lc ∧ i = li) → N'.2.1 c i = N.2.1 c i) ∧ N'.2.2 = N.2.2
theorem lp_50 {a : Nat → Nat} {len M : Nat} (hlen : len ≤ 12) (hM : M < 4096) (h3 : N.1 21 3 = nI len) (h4 : N.1 21 4 = nI M) (hl : ∀ i, i < len → N.1 24 i = nI (a i) ∧ a i < 12) (hd : ∀ i j, i < j → j < len → a i ≠ a j) 
    (kk : ∀ N', fx_M [1, 23] 1 10 N N' → (∀ i, N'.1 1 i = if i = 9 then N.1 1 9 + nI 1 else N.1 1 i) → N'.2.1 1 10 = N.2.1 1 10 + fs_l (fun j => if M.testBit (a j) = true then (N.1 22 (a j)).toInt64 else 0) len → (∀ i, ((∃ j, j < len ∧ a j = i) ∧ M.testBit i = false → N'.1 23 i = N.1 23 i + nI 1) ∧ (¬ ((∃ j, j < len ∧ a j = i) ∧ M.testBit i = false) → N'.1 23 i = N.1 23 i)) → Q (.inl none) (N', fm_SH)) :
    ∀ m k (N1 : fm_N) (o2 : Option fm_V), len - k = m → k ≤ len → fx_M [23] 1 10 N N1 → N1.2.1 1 10 = N.2.1 1 10 + fs_l (fun j => if M.testBit (a j) = true then (N.1 22 (a j)).toInt64 else 0) k → (∀ i, ((∃ j, j < k ∧ a j = i) ∧ M.testBit i = false → N1.1 23 i = N.1 23 i + nI 1) ∧ (¬ ((∃ j, j < k ∧ a j = i) ∧ M.testBit i = false) → N1.1 23 i = N.1 23 i)) →
    fm_Ev (fm_PP X) 50 (2, [some (.inl (.ref 1)), some (.inl (.int (nI k))), o2], [], (N1, fm_SH)) Q := by
  intro m
  induction m with
  | zero =>
    intro k N1 o2 hm hk hF hs ht
    have e : k = len := by omega
    subst e
    refine fb_50_2 X _ _ N1 Q ?_
    rw [hF.1 21 rfl, h3]
    simp (disch := omega) only [fz_t, fz_le]
    refine ⟨fun _ => kk _ ⟨fun c hc => ?_, hF.2.1, hF.2.2⟩ (fun i => ?_) hs (fun i => ?_), fun z => absurd (by omega) z⟩
    · simp at hc
      show fm_uI N1.1 1 9 _ c = _
      rw [fz_ne _ _ hc.1]
      exact hF.1 c (by simp; exact hc.2)
    · show fm_uI N1.1 1 9 _ 1 i = _
      rw [fz_at, hF.1 1 rfl]
    · simp only [fz_ne _ _ (by decide : (23 : Nat) ≠ 1)]
      exact ht i
  | succ m ih =>
    intro k N1 o2 hm hk hF hs ht
    obtain ⟨g23, ga⟩ := hl k (by omega)
    have hnew : ∀ j, j < k → a j ≠ a k := fun j hj => hd j k hj (by omega)
    refine fb_50_2 X _ _ N1 Q ?_
    rw [hF.1 21 rfl, hF.1 24 rfl, h3, h4]
    simp (disch := omega) only [fz_t, fz_le, g23, nI_add]
    refine ⟨fun z => absurd z (by omega), fun _ => ⟨fz_in (by omega) (by omega), sp_59 hM ga ?_⟩⟩
    rw [fz_be]
    have hsum : fs_l (fun j => if M.testBit (a j) = true then (N.1 22 (a j)).toInt64 else 0) (k + 1) = fs_l (fun j => if M.testBit (a j) = true then (N.1 22 (a j)).toInt64 else 0) k + (if M.testBit (a k) = true then (N.1 22 (a k)).toInt64 else 0) := rfl
    refine ⟨fun hb => ⟨fz_in (by omega) (by omega), fz_in (by omega) (by omega), ?_⟩, fun hb => ⟨fz_in (by omega) (by omega), ?_⟩⟩
    · refine ih (k + 1) _ _ (by omega) (by omega) ⟨fun c hc => ?_, hF.2.1, hF.2.2⟩ ?_ (fun i => ?_)
      · show fm_uI N1.1 23 _ _ c = _
        rw [fz_ne _ _ (by simpa using hc)]
        exact hF.1 c hc
      · rw [hsum, hb, if_neg (fun z => nomatch z), Int64.add_zero]
        exact hs
      · show (_ → fm_uI N1.1 23 _ _ 23 i = _) ∧ (_ → fm_uI N1.1 23 _ _ 23 i = _)
        rw [fz_at]
        by_cases y : i = a k
        · subst y
          rw [if_pos rfl, (ht (a k)).2 (fun z => by obtain ⟨⟨j, hj, hjk⟩, _⟩ := z; exact hnew j hj hjk)]
          exact ⟨fun _ => rfl, fun z => absurd ⟨⟨k, by omega, rfl⟩, hb⟩ z⟩
        · rw [if_neg y]
          refine ⟨fun z => (ht i).1 ?_, fun z => (ht i).2 (fun w => z ?_)⟩
          · obtain ⟨⟨j, hj, hjk⟩, z2⟩ := z
            refine ⟨⟨j, ?_, hjk⟩, z2⟩
            by_cases w : j = k
            · rw [w] at hjk; exact absurd hjk.symm y
            · omega
          · obtain ⟨⟨j, hj, hjk⟩, w2⟩ := w
            exact ⟨⟨j, by omega, hjk⟩, w2⟩
    · have hb' : M.testBit (a k) = true := by simpa using hb
      rw [hF.1 22 rfl]
      refine ih (k + 1) _ _ (by omega) (by omega) ⟨hF.1, fun c i hc => ?_, hF.2.2⟩ ?_ (fun i => ?_)
      · show (if c = 1 ∧ i = 10 then _ else N1.2.1 c i) = _
        rw [if_neg hc]
        exact hF.2.1 c i hc
      · rw [hsum, if_pos hb']
        show (if (0 : Nat) = 0 ∧ (10 : Nat) = 10 then N1.2.1 1 10 + _ else N1.2.1 1 10) = _
        rw [if_pos ⟨rfl, rfl⟩, hs]
        ac_rfl
      · refine ⟨fun z => (ht i).1 ?_, fun z => (ht i).2 (fun w => z ?_)⟩
        · obtain ⟨⟨j, hj, hjk⟩, z2⟩ := z
          refine ⟨⟨j, ?_, hjk⟩, z2⟩
          by_cases w : j = k
          · rw [w] at hjk; rw [← hjk, hb'] at z2; cases z2
          · omega
        · obtain ⟨⟨j, hj, hjk⟩, w2⟩ := w
          exact ⟨⟨j, by omega, hjk⟩, w2⟩
theorem sp_50 {a : Nat → Nat} {len M : Nat} (hlen : len ≤ 12) (hM : M < 4096) (h3 : N.1 21 3 = nI len) (h4 : N.1 21 4 = nI M) (hl : ∀ i, i < len → N.1 24 i = nI (a i) ∧ a i < 12) (hd : ∀ i j, i < j → j < len → a i ≠ a j) {K : fm_N → Prop}
    (kk : ∀ N', fx_M [1, 23] 1 10 N N' → (∀ i, N'.1 1 i = if i = 9 then N.1 1 9 + nI 1 else N.1 1 i) → N'.2.1 1 10 = N.2.1 1 10 + fs_l (fun j => if M.testBit (a j) = true then (N.1 22 (a j)).toInt64 else 0) len → (∀ i, ((∃ j, j < len ∧ a j = i) ∧ M.testBit i = false → N'.1 23 i = N.1 23 i + nI 1) ∧ (¬ ((∃ j, j < len ∧ a j = i) ∧ M.testBit i = false) → N'.1 23 i = N.1 23 i)) → K N') : fm_Cv (fm_PP X) 50 [.inl (.ref 1)] (N, fm_SH) K X' := by
  refine fe_50 X N K X' ?_
  refine lp_50 hlen hM h3 h4 hl hd (fun N' a1 a2 a3 a4 => ⟨rfl, kk N' a1 a2 a3 a4⟩) _ 0 N _ rfl (Nat.zero_le _) ⟨fun _ _ => rfl, fun _ _ _ => rfl, rfl⟩ ?_ (fun i => ⟨fun z => ?_, fun _ => rfl⟩)
  · show _ = _ + 0
    rw [Int64.add_zero]
  · obtain ⟨⟨j, hj, _⟩, _⟩ := z
    exact absurd hj (Nat.not_lt_zero j)
end FKN
