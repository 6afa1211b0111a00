/-! turns -/
/-- a node takes its place in a line: from place p down -/
def fl_in (t : Nat → Int32) (v : Nat) : Nat → (Nat → Nat) → Nat → Nat
  | 0, a => fg_up a 0 v
  | p + 1, a => if t v ≤ t (a p) then fg_up a (p + 1) v else fl_in t v p (fg_up a (p + 1) (a p))
def fl_n (ch : Nat → Int32) : Nat → Nat
  | 0 => 0
  | k + 1 => if ch k ≤ nI 0 then fl_n ch k else fl_n ch k + 1
def fl_a (t ch : Nat → Int32) : Nat → Nat → Nat
  | 0 => fun _ => 0
  | k + 1 => if ch k ≤ nI 0 then fl_a t ch k else fl_in t k (fl_n ch k) (fl_a t ch k)
theorem fl_n_le (ch : Nat → Int32) : ∀ k, fl_n ch k ≤ k := by
  intro k
  induction k with
  | zero => exact Nat.le_refl _
  | succ k ih => unfold fl_n; split <;> omega
theorem fl_in_at (t : Nat → Int32) (v : Nat) : ∀ (p : Nat) (a : Nat → Nat), ∃ q, q ≤ p ∧ fl_in t v p a q = v ∧ (∀ i, i < q → fl_in t v p a i = a i) ∧ (∀ i, q < i → i ≤ p → fl_in t v p a i = a (i - 1)) ∧ ∀ i, p < i → fl_in t v p a i = a i := by
  intro p
  induction p with
  | zero =>
    intro a
    exact ⟨0, Nat.le_refl _, fg_up_eq _ _ _, fun i hi => by omega, fun i h1 h2 => by omega, fun i hi => fg_up_ne _ _ (by omega)⟩
  | succ p ih =>
    intro a
    unfold fl_in
    by_cases z : t v ≤ t (a p)
    · rw [if_pos z]
      exact ⟨p + 1, Nat.le_refl _, fg_up_eq _ _ _, fun i hi => fg_up_ne _ _ (by omega), fun i h1 h2 => by omega, fun i hi => fg_up_ne _ _ (by omega)⟩
    · rw [if_neg z]
      obtain ⟨q, h1, h2, h3, h4, h5⟩ := ih (fg_up a (p + 1) (a p))
      refine ⟨q, by omega, h2, fun i hi => ?_, fun i g1 g2 => ?_, fun i hi => ?_⟩
      · rw [h3 i hi, fg_up_ne _ _ (by omega)]
      · by_cases y : i = p + 1
        · rw [h5 i (by omega), y, fg_up_eq]; rfl
        · rw [h4 i g1 (by omega), fg_up_ne _ _ (by omega)]
      · rw [h5 i (by omega), fg_up_ne _ _ (by omega)]
/-- who stands in the line -/
theorem fl_a_in (t ch : Nat → Int32) : ∀ k, (∀ i, i < fl_n ch k → fl_a t ch k i < k ∧ ¬ ch (fl_a t ch k i) ≤ nI 0) ∧ (∀ i j, i < j → j < fl_n ch k → fl_a t ch k i ≠ fl_a t ch k j) ∧ ∀ u, u < k → ¬ ch u ≤ nI 0 → ∃ i, i < fl_n ch k ∧ fl_a t ch k i = u := by
  intro k
  induction k with
  | zero => exact ⟨fun i hi => absurd hi (Nat.not_lt_zero i), fun i j _ hj => absurd hj (Nat.not_lt_zero j), fun u hu => absurd hu (Nat.not_lt_zero u)⟩
  | succ k ih =>
    obtain ⟨i1, i2, i3⟩ := ih
    by_cases z : ch k ≤ nI 0
    · have e1 : fl_n ch (k + 1) = fl_n ch k := if_pos z
      have e2 : fl_a t ch (k + 1) = fl_a t ch k := if_pos z
      rw [e1, e2]
      refine ⟨fun i hi => ⟨Nat.lt_succ_of_lt (i1 i hi).1, (i1 i hi).2⟩, i2, fun u hu hc => ?_⟩
      by_cases y : u = k
      · rw [y] at hc; exact absurd z hc
      · exact i3 u (by omega) hc
    · have e1 : fl_n ch (k + 1) = fl_n ch k + 1 := if_neg z
      have e2 : fl_a t ch (k + 1) = fl_in t k (fl_n ch k) (fl_a t ch k) := if_neg z
      rw [e1, e2]
      generalize fl_n ch k = n at *
      generalize fl_a t ch k = a at *
      obtain ⟨q, h1, h2, h3, h4, h5⟩ := fl_in_at t k n a
      have at' : ∀ i, i < n + 1 → (i = q ∧ fl_in t k n a i = k) ∨ (i ≠ q ∧ ∃ j, j < n ∧ fl_in t k n a i = a j ∧ j = (if i < q then i else i - 1)) := fun i hi => by
        rcases Nat.lt_trichotomy i q with y | y | y
        · exact Or.inr ⟨by omega, i, by omega, h3 i y, by rw [if_pos y]⟩
        · exact Or.inl ⟨y, by rw [y]; exact h2⟩
        · exact Or.inr ⟨by omega, i - 1, by omega, h4 i y (by omega), by rw [if_neg (by omega)]⟩
      refine ⟨fun i hi => ?_, fun i j hij hj => ?_, fun u hu hc => ?_⟩
      · rcases at' i hi with ⟨_, y⟩ | ⟨_, j, hj, y, _⟩
        · rw [y]; exact ⟨Nat.lt_succ_self k, z⟩
        · rw [y]; exact ⟨Nat.lt_succ_of_lt (i1 j hj).1, (i1 j hj).2⟩
      · rcases at' i (by omega) with ⟨x1, y1⟩ | ⟨x1, c, hc, y1, w1⟩ <;> rcases at' j hj with ⟨x2, y2⟩ | ⟨x2, d, hd, y2, w2⟩
        · omega
        · rw [y1, y2]
          have := (i1 d hd).1
          omega
        · rw [y1, y2]
          have := (i1 c hc).1
          omega
        · rw [y1, y2]
          have hcd : c < d := by
            rw [w1, w2]
            split <;> split <;> omega
          exact i2 c d hcd hd
      · by_cases y : u = k
        · exact ⟨q, by omega, by rw [y]; exact h2⟩
        · obtain ⟨i, hi, hai⟩ := i3 u (by omega) hc
          by_cases w : i < q
          · exact ⟨i, by omega, (h3 i w).trans hai⟩
          · exact ⟨i + 1, by omega, by rw [h4 (i + 1) (by omega) (by omega)]; exact hai⟩
section FKT
variable {X : Nat × (Nat → Int32)} {N : fm_N} {G : fg_G} {A : fg_A} {o : Nat → Nat} {fc : Nat} {X' : Nat → fm_N → Prop} {Q : fm_O → fm_M → Prop}
theorem lp_117 {v n : Nat} (hv : v < 12) (hn : n < 12) : ∀ p (N1 : fm_N) (a : Nat → Nat), p ≤ n → fx_F [21, 24] N N1 → N1.1 21 4 = N.1 21 4 → N1.1 21 3 = nI n → (∀ i, i ≤ n → i ≠ p → N1.1 24 i = nI (a i) ∧ a i < 12) →
    (∀ N', fx_F [21, 24] N N' → N'.1 21 4 = N.1 21 4 → N'.1 21 3 = nI (n + 1) → (∀ i, i ≤ n → N'.1 24 i = nI (fl_in (N.1 23) v p a i) ∧ fl_in (N.1 23) v p a i < 12) → Q (.inl none) (N', fm_SH)) →
    fm_Ev (fm_PP X) 117 (5, [some (.inl (.ref 21)), some (.inl (.int (nI v))), some (.inl (.int (nI p)))], [], (N1, fm_SH)) Q := by
  intro p
  induction p with
  | zero =>
    intro N1 a hp hF h4 h3 hi kk
    refine fb_117_5 X _ _ N1 Q ?_
    rw [h3]
    simp (disch := omega) only [fz_t, fz_le, nI_add]
    refine ⟨fun _ => ⟨fz_in (by omega) (by omega), kk _ ((hF.up rfl).up rfl) ?_ ?_ (fun i h => ?_)⟩, fun z => absurd (Nat.le_refl 0) z⟩
    · simp [fz_ui]; exact h4
    · simp [fz_ui]
    · show _ = nI (fg_up a 0 v i) ∧ fg_up a 0 v i < 12
      by_cases z : i = 0
      · subst z; rw [fg_up_eq]; simp [fz_ui]; exact hv
      · rw [fg_up_ne _ _ z]; simp [fz_ui, z]; exact hi i h z
  | succ p ih =>
    intro N1 a hp hF h4 h3 hi kk
    obtain ⟨g23, g12⟩ := hi p (by omega) (by omega)
    refine fb_117_5 X _ _ N1 Q ?_
    rw [h3]
    have e1 : nI (p + 1) - nI 1 = nI p := fz_sub (by omega)
    have hstop : N.1 23 v ≤ N.1 23 (a p) → Q (.inl none) ((fm_uI (fm_uI N1.1 24 (p + 1) (nI v)) 21 3 (nI (n + 1)), N1.2), fm_SH) := fun z => by
      have ef : ∀ i, fl_in (N.1 23) v (p + 1) a i = fg_up a (p + 1) v i := fun i => by
        show (if N.1 23 v ≤ N.1 23 (a p) then fg_up a (p + 1) v else fl_in (N.1 23) v p (fg_up a (p + 1) (a p))) i = _
        rw [if_pos z]
      refine kk _ ((hF.up rfl).up rfl) ?_ ?_ (fun i h => ?_)
      · simp [fz_ui]; exact h4
      · simp [fz_ui]
      · rw [ef]
        by_cases y : i = p + 1
        · subst y; rw [fg_up_eq]; simp [fz_ui]; exact hv
        · rw [fg_up_ne _ _ y]; simp [fz_ui, y]; exact hi i h y
    rw [fx_cell hF 23 rfl, fx_cell hF 23 rfl]
    simp (disch := omega) only [e1, fz_t, fz_le, g23, nI_add, fz_pred]
    refine ⟨fun z => absurd z (by omega), fun _ => ⟨fz_in (by omega) (by omega), fz_in (by omega) (by omega), fz_in (by omega) (by omega), fun z => ⟨fz_in (by omega) (by omega), hstop z⟩, fun z => ⟨fz_in (by omega) (by omega), fz_in (by omega) (by omega), ?_⟩⟩⟩
    refine ih _ (fg_up a (p + 1) (a p)) (by omega) (hF.up rfl) ?_ ?_ (fun i h1 h2 => ?_) (fun N' k1 k2 k3 k4 => kk N' k1 k2 k3 (fun i h => ?_))
    · simp [fz_ui]; exact h4
    · simp [fz_ui]; exact h3
    · by_cases y : i = p + 1
      · subst y; rw [fg_up_eq]; simp [fz_ui]; exact g12
      · rw [fg_up_ne _ _ y]; simp [fz_ui, y]; exact hi i h1 y
    · have ef : fl_in (N.1 23) v (p + 1) a i = fl_in (N.1 23) v p (fg_up a (p + 1) (a p)) i := by
        show (if N.1 23 v ≤ N.1 23 (a p) then fg_up a (p + 1) v else fl_in (N.1 23) v p (fg_up a (p + 1) (a p))) i = _
        rw [if_neg z]
      rw [ef]
      exact k4 i h
theorem lp_116 {n : Nat} (hn : n ≤ 12) : ∀ m k (N1 : fm_N), n - k = m → k ≤ n → fx_F [21, 24] N N1 → N1.1 21 4 = N.1 21 4 → N1.1 21 3 = nI (fl_n (N.1 22) k) → (∀ i, i < fl_n (N.1 22) k → N1.1 24 i = nI (fl_a (N.1 23) (N.1 22) k i) ∧ fl_a (N.1 23) (N.1 22) k i < 12) →
    (∀ N', fx_F [21, 24] N N' → N'.1 21 4 = N.1 21 4 → N'.1 21 3 = nI (fl_n (N.1 22) n) → (∀ i, i < fl_n (N.1 22) n → N'.1 24 i = nI (fl_a (N.1 23) (N.1 22) n i) ∧ fl_a (N.1 23) (N.1 22) n i < 12) → Q (.inl none) (N', fm_SH)) →
    fm_Ev (fm_PP X) 116 (7, [some (.inl (.ref 21)), some (.inl (.int (nI n))), some (.inl (.int (nI k)))], [], (N1, fm_SH)) Q := by
  intro m
  induction m with
  | zero =>
    intro k N1 hm hk hF h4 h3 hi kk
    refine fb_116_7 X _ _ N1 Q ?_
    simp (disch := omega) only [fz_t, fz_le]
    have e : k = n := by omega
    subst e
    exact ⟨fun _ => kk N1 hF h4 h3 hi, fun z => absurd (by omega) z⟩
  | succ m ih =>
    intro k N1 hm hk hF h4 h3 hi kk
    have hle := fl_n_le (N.1 22) k
    refine fb_116_7 X _ _ N1 Q ?_
    rw [fx_cell hF 22 rfl]
    simp (disch := omega) only [fz_t, fz_le, nI_add]
    refine ⟨fun z => absurd z (by omega), fun _ => ⟨fz_in (by omega) (by omega), fun z => ?_, fun z => ?_⟩⟩
    · have e1 : fl_n (N.1 22) (k + 1) = fl_n (N.1 22) k := if_pos z
      have e2 : fl_a (N.1 23) (N.1 22) (k + 1) = fl_a (N.1 23) (N.1 22) k := if_pos z
      exact ih (k + 1) N1 (by omega) (by omega) hF h4 (by rw [e1]; exact h3) (by rw [e1, e2]; exact hi) kk
    · have e1 : fl_n (N.1 22) (k + 1) = fl_n (N.1 22) k + 1 := if_neg z
      have e2 : fl_a (N.1 23) (N.1 22) (k + 1) = fl_in (N.1 23) k (fl_n (N.1 22) k) (fl_a (N.1 23) (N.1 22) k) := if_neg z
      refine fe_117 X _ N1 _ _ ?_
      rw [h3]
      refine lp_117 (N := N) (v := k) (n := fl_n (N.1 22) k) (by omega) (by omega) _ N1 (fl_a (N.1 23) (N.1 22) k) (Nat.le_refl _) hF h4 h3 (fun i h1 h2 => hi i (by omega)) (fun N' k1 k2 k3 k4 => ⟨rfl, ?_⟩)
      exact ih (k + 1) N' (by omega) (by omega) k1 k2 (by rw [e1]; exact k3) (by rw [e1, e2]; exact fun i h => k4 i (by omega)) kk
theorem sp_116 {n : Nat} (hn : n ≤ 12) {K : fm_N → Prop} (k : ∀ N', fx_F [21, 24] N N' → N'.1 21 4 = N.1 21 4 → N'.1 21 3 = nI (fl_n (N.1 22) n) → (∀ i, i < fl_n (N.1 22) n → N'.1 24 i = nI (fl_a (N.1 23) (N.1 22) n i) ∧ fl_a (N.1 23) (N.1 22) n i < 12) → K N') :
    fm_Cv (fm_PP X) 116 [.inl (.ref 21), .inl (.int (nI n))] (N, fm_SH) K X' := by
  refine fe_116 X _ N K X' ?_
  refine lp_116 (N := N) hn _ 0 _ rfl (by omega) ((fx_F.rf _ _).up rfl) ?_ ?_ (fun i hi => absurd hi (Nat.not_lt_zero i)) (fun N' a1 a2 a3 a4 => ⟨rfl, k N' a1 a2 a3 a4⟩)
  · simp [fz_ui]
  · simp [fz_ui]; rfl
theorem lp_128 (h : fk_S N A o fc) (kk : ∀ M, M < 4096 → (∀ i, M.testBit i = fg_F A i) → Q (.inl (some (.inl (.int (nI M))))) (N, fm_SH)) : ∀ m k M, fc - k = m → k ≤ fc → M < 4096 → (∀ i, M.testBit i = true ↔ ∃ j, j < k ∧ o j = i) →
    fm_Ev (fm_PP X) 128 (4, [some (.inl (.ref 3)), some (.inl (.int (nI M))), some (.inl (.int (nI k)))], [], (N, fm_SH)) Q := by
  have ok := h.2.2.2.2.1
  have hfc := ok.1.2.1
  intro m
  induction m with
  | zero =>
    intro k M hm hk hM hi
    refine fb_128_4 X _ _ N Q ?_
    rw [h.2.2.1]
    simp (disch := omega) only [fz_t, fz_le]
    refine ⟨fun _ => kk M hM (fun i => ?_), fun z => absurd (by omega) z⟩
    refine Bool.eq_iff_iff.mpr ((hi i).trans ⟨fun ⟨j, hj, hoj⟩ => by rw [← hoj]; exact (ok.2.1 j (by omega)).1, fun z => ?_⟩)
    obtain ⟨j, hj, hoj⟩ := ok.2.2.2.1 i z
    exact ⟨j, by omega, hoj⟩
  | succ m ih =>
    intro k M hm hk hM hi
    obtain ⟨g16, g12⟩ := h.2.2.2.1 k (by omega)
    refine fb_128_4 X _ _ N Q ?_
    rw [h.2.2.1]
    simp (disch := omega) only [fz_t, fz_le, g16, nI_add]
    rw [fb_or g12]
    refine ⟨fun z => absurd z (by omega), fun _ => ⟨fz_in (by omega) (by omega), ih (k + 1) _ (by omega) (by omega) (fb_or_lt hM g12) (fun i => ?_)⟩⟩
    rw [fb_or_bit, Bool.or_eq_true, decide_eq_true_eq, hi]
    constructor
    · rintro (⟨j, hj, hoj⟩ | z)
      · exact ⟨j, by omega, hoj⟩
      · exact ⟨k, by omega, z⟩
    · rintro ⟨j, hj, hoj⟩
      by_cases y : j = k
      · exact Or.inr (by rw [← y]; exact hoj)
      · exact Or.inl ⟨j, by omega, hoj⟩
theorem sp_128 (h : fk_S N A o fc) {K : Int32 → fm_N → Prop} (k : ∀ M, M < 4096 → (∀ i, M.testBit i = fg_F A i) → K (nI M) N) : fm_Ci (fm_PP X) 128 [.inl (.ref 3)] (N, fm_SH) K X' := by
  refine fe_128 X N K X' ?_
  exact lp_128 h (fun M hM hi => ⟨rfl, k M hM hi⟩) _ 0 0 rfl (by omega) (by omega) (fun i => ⟨fun z => (by rw [Nat.zero_testBit] at z; cases z), fun ⟨j, hj, _⟩ => absurd hj (Nat.not_lt_zero j)⟩)
theorem lp_118 {n : Nat} (hn : n ≤ 12) (kk : ∀ M, M < 4096 → (∀ i, M.testBit i = true ↔ i < n ∧ ¬ N.1 22 i ≤ nI 0) → Q (.inl (some (.inl (.int (nI M))))) (N, fm_SH)) : ∀ m k M, n - k = m → k ≤ n → M < 4096 → (∀ i, M.testBit i = true ↔ i < k ∧ ¬ N.1 22 i ≤ nI 0) →
    fm_Ev (fm_PP X) 118 (4, [some (.inl (.ref 21)), some (.inl (.int (nI n))), some (.inl (.int (nI M))), some (.inl (.int (nI k)))], [], (N, fm_SH)) Q := by
  intro m
  induction m with
  | zero =>
    intro k M hm hk hM hi
    refine fb_118_4 X _ _ _ N Q ?_
    simp (disch := omega) only [fz_t, fz_le]
    have e : k = n := by omega
    subst e
    exact ⟨fun _ => kk M hM hi, fun z => absurd (by omega) z⟩
  | succ m ih =>
    intro k M hm hk hM hi
    refine fb_118_4 X _ _ _ N Q ?_
    simp (disch := omega) only [fz_t, fz_le, nI_add]
    rw [fb_or (by omega)]
    refine ⟨fun z => absurd z (by omega), fun _ => ⟨fz_in (by omega) (by omega), fun z => ih (k + 1) M (by omega) (by omega) hM (fun i => ?_), fun z => ih (k + 1) _ (by omega) (by omega) (fb_or_lt hM (by omega)) (fun i => ?_)⟩⟩
    · rw [hi]
      constructor
      · rintro ⟨h1, h2⟩; exact ⟨by omega, h2⟩
      · rintro ⟨h1, h2⟩
        refine ⟨?_, h2⟩
        by_cases y : i = k
        · rw [y] at h2; exact absurd z h2
        · omega
    · rw [fb_or_bit, Bool.or_eq_true, decide_eq_true_eq, hi]
      constructor
      · rintro (⟨h1, h2⟩ | y)
        · exact ⟨by omega, h2⟩
        · rw [← y]; exact ⟨by omega, z⟩
      · rintro ⟨h1, h2⟩
        by_cases y : i = k
        · exact Or.inr y.symm
        · exact Or.inl ⟨by omega, h2⟩
theorem sp_118 {n : Nat} (hn : n ≤ 12) {K : Int32 → fm_N → Prop} (k : ∀ M, M < 4096 → (∀ i, M.testBit i = true ↔ i < n ∧ ¬ N.1 22 i ≤ nI 0) → K (nI M) N) : fm_Ci (fm_PP X) 118 [.inl (.ref 21), .inl (.int (nI n))] (N, fm_SH) K X' := by
  refine fe_118 X _ N K X' ?_
  exact lp_118 hn (fun M hM hi => ⟨rfl, k M hM hi⟩) _ 0 0 rfl (by omega) (by omega) (fun i => ⟨fun z => (by rw [Nat.zero_testBit] at z; cases z), fun z => absurd z.1 (Nat.not_lt_zero i)⟩)
/-- the chargers that may be served -/
def fk_may (N : fm_N) (A : fg_A) (n : Nat) (i : Nat) : Prop := fg_F A i = true ∧ i < n ∧ ¬ N.1 22 i ≤ nI 0
theorem sp_56 (hG : fk_G N G) (h : fk_S N A o fc) {K : Int32 → fm_N → Prop} (k : ∀ M, M < 4096 → (∀ i, M.testBit i = true ↔ fk_may N A (fg_n G) i) → K (nI M) N) : fm_Ci (fm_PP X) 56 [.inl (.ref 1)] (N, fm_SH) K X' := by
  refine fe_56 X N K X' ?_
  rw [hG.1]
  refine sp_118 hG.2.2.1 (fun M hM hi => ?_)
  refine sp_128 h (fun M' hM' hi' => ⟨rfl, ?_⟩)
  rw [fb_and]
  refine k _ (fb_and_lt hM) (fun i => ?_)
  rw [Nat.testBit_and, Bool.and_eq_true, hi, hi']
  exact ⟨fun z => ⟨z.2, z.1⟩, fun z => ⟨z.2, z.1⟩⟩
end FKT
