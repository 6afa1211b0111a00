/-! the law's turn: the line, found by keys -/
theorem fl_in_q (t : Nat → Int32) (v : Nat) : ∀ (p : Nat) (a : Nat → Nat), ∃ q, q ≤ p ∧ fl_in t v p a q = v ∧ (∀ i, i < q → fl_in t v p a i = a i) ∧ (∀ i, q < i → i ≤ p → fl_in t v p a i = a (i - 1)) ∧ (0 < q → t v ≤ t (a (q - 1))) ∧ (∀ i, q ≤ i → i < p → ¬ t v ≤ t (a i)) := by
  intro p
  induction p with
  | zero =>
    intro a
    exact ⟨0, Nat.le_refl _, fg_up_eq _ _ _, fun i hi => by omega, fun i h1 h2 => by omega, fun h => by omega, fun i h1 h2 => by omega⟩
  | succ p ih =>
    intro a
    unfold fl_in
    by_cases z : t v ≤ t (a p)
    · rw [if_pos z]
      exact ⟨p + 1, Nat.le_refl _, fg_up_eq _ _ _, fun i hi => fg_up_ne _ _ (by omega), fun i h1 h2 => by omega, fun _ => z, fun i h1 h2 => by omega⟩
    · rw [if_neg z]
      obtain ⟨q, h1, h2, h3, h4, h5, h6⟩ := ih (fg_up a (p + 1) (a p))
      have h7 := fl_in_at t v p (fg_up a (p + 1) (a p))
      obtain ⟨q', k1, k2, k3, k4, k5⟩ := h7
      refine ⟨q, by omega, h2, fun i hi => ?_, fun i g1 g2 => ?_, fun h => ?_, fun i g1 g2 => ?_⟩
      · rw [h3 i hi, fg_up_ne _ _ (by omega)]
      · by_cases y : i = p + 1
        · rw [k5 i (by omega), y, fg_up_eq]; rfl
        · rw [h4 i g1 (by omega), fg_up_ne _ _ (by omega)]
      · have := h5 h
        rw [fg_up_ne _ _ (by omega)] at this
        exact this
      · by_cases y : i = p
        · rw [y]; exact z
        · have := h6 i g1 (by omega)
          rw [fg_up_ne _ _ (by omega)] at this
          exact this
theorem fl_a_sorted (t ch : Nat → Int32) : ∀ k i j, i < j → j < fl_n ch k → (t (fl_a t ch k j)).toInt < (t (fl_a t ch k i)).toInt ∨ ((t (fl_a t ch k j)).toInt = (t (fl_a t ch k i)).toInt ∧ fl_a t ch k i < fl_a t ch k j) := by
  intro k
  induction k with
  | zero => intro i j _ hj; exact absurd hj (Nat.not_lt_zero j)
  | succ k ih =>
    have i1 := (fl_a_in t ch k).1
    by_cases z : ch k ≤ nI 0
    · have e1 : fl_n ch (k + 1) = fl_n ch k := if_pos z
      have e2 : fl_a t ch (k + 1) = fl_a t ch k := if_pos z
      rw [e1, e2]
      exact ih
    · have e1 : fl_n ch (k + 1) = fl_n ch k + 1 := if_neg z
      have e2 : fl_a t ch (k + 1) = fl_in t k (fl_n ch k) (fl_a t ch k) := if_neg z
      rw [e1, e2]
      generalize fl_n ch k = n at *
      generalize fl_a t ch k = a at *
      obtain ⟨q, h1, h2, h3, h4, h5, h6⟩ := fl_in_q t k n a
      intro i j hij hj
      rcases Nat.lt_trichotomy i q with y | y | y <;> rcases Nat.lt_trichotomy j q with w | w | w
      · rw [h3 i y, h3 j w]; exact ih i j hij (by omega)
      · rw [h3 i y, w, h2]
        have h7 := h5 (by omega)
        rw [fz_leI] at h7
        have hk := (i1 i (by omega)).1
        by_cases e : i = q - 1
        · rw [e] at hk ⊢
          omega
        · have := ih i (q - 1) (by omega) (by omega)
          omega
      · rw [h3 i y, h4 j w (by omega)]; exact ih i (j - 1) (by omega) (by omega)
      · omega
      · omega
      · rw [y, h2, h4 j w (by omega)]
        have h7 := h6 (j - 1) (by omega) (by omega)
        rw [fz_leI] at h7
        omega
      · omega
      · omega
      · rw [h4 i y (by omega), h4 j w (by omega)]; exact ih (i - 1) (j - 1) (by omega) (by omega)
/-- a node's key in the line -/
def fl_key (e : Nat → Nat) (u : Nat) : Nat := 20 * (10000 - e u) + u
section FLT
variable {X : Nat × (Nat → Int32)} {N : fm_N} {K : Int32 → fm_N → Prop} {X' : Nat → fm_N → Prop} {Q : fm_O → fm_M → Prop} {n : Nat} {e : Nat → Nat} {t ch : Nat → Int32}
/-- the line by keys -/
theorem fl_key_lt (he : ∀ i, i < 8 → t i = nI (e i) ∧ e i ≤ 10000) {u v : Nat} (hu : u < 8) (hv : v < 8) (h : (t v).toInt < (t u).toInt ∨ ((t v).toInt = (t u).toInt ∧ u < v)) : fl_key e u < fl_key e v := by
  obtain ⟨a1, a2⟩ := he u hu
  obtain ⟨b1, b2⟩ := he v hv
  rw [a1, b1, fz_nI (by omega), fz_nI (by omega)] at h
  unfold fl_key
  omega
/-- what the inner loop finds: the least key that is not refused -/
def fl_lst (ch : Nat → Int32) (e : Nat → Nat) (P : Nat → Prop) (c : Nat) (b : Int32) : Prop := (b = Int32.ofInt (-1) ∧ ∀ u, u < c → ¬ ch u ≤ nI 0 → ¬ P u) ∨ ∃ u, u < c ∧ ¬ ch u ≤ nI 0 ∧ P u ∧ b = nI (fl_key e u) ∧ ∀ v, v < c → ¬ ch v ≤ nI 0 → P v → fl_key e u ≤ fl_key e v
theorem lp_198b (h0 : N.1 0 0 = nI n) (h8 : n ≤ 8) (h90 : ∀ i, i < 8 → N.1 0 (90 + i) = ch i) (h110 : ∀ i, i < 8 → N.1 0 (110 + i) = nI (e i) ∧ e i ≤ 10000) {x1 x2 x4 : Int32} {o3 : Option fm_V}
    (kk : ∀ b x6 o7 o8, fl_lst ch e (fun u => ¬ nI (fl_key e u) ≤ x2) n b → nI n ≤ x6 → fm_Ev (fm_PP X) 198 (19, [some (.inl (.ref 0)), some (.inl (.int x1)), some (.inl (.int x2)), o3, some (.inl (.int x4)), some (.inl (.int b)), some (.inl (.int x6)), o7, o8], [], (N, fm_SH)) Q) :
    ∀ m c b (o7 o8 : Option fm_V), n - c = m → c ≤ n → fl_lst ch e (fun u => ¬ nI (fl_key e u) ≤ x2) c b →
    fm_Ev (fm_PP X) 198 (19, [some (.inl (.ref 0)), some (.inl (.int x1)), some (.inl (.int x2)), o3, some (.inl (.int x4)), some (.inl (.int b)), some (.inl (.int (nI c))), o7, o8], [], (N, fm_SH)) Q := by
  intro m
  induction m with
  | zero =>
    intro c b o7 o8 hm hc hb
    have e1 : c = n := by omega
    subst e1
    exact kk b _ o7 o8 hb (by rw [fz_le (by omega) (by omega)]; exact Nat.le_refl _)
  | succ m ih =>
    intro c b o7 o8 hm hc hb
    have hc8 : c < 8 := by omega
    obtain ⟨g1, g2⟩ := h110 c hc8
    have hkey : nI 20 * (nI 10000 - nI (e c)) + nI c = nI (fl_key e c) := by
      rw [fz_sub g2, pk_mul, nI_add]
      rfl
    have hkb : fl_key e c < 2147483648 := by unfold fl_key; omega
    have no : (ch c ≤ nI 0 ∨ nI (fl_key e c) ≤ x2 ∨ ∃ w, ¬ b < nI 0 ∧ b ≤ nI (fl_key e c) ∧ b = w) → ∀ o7 o8 : Option fm_V, fm_Ev (fm_PP X) 198 (81, [some (.inl (.ref 0)), some (.inl (.int x1)), some (.inl (.int x2)), o3, some (.inl (.int x4)), some (.inl (.int b)), some (.inl (.int (nI c))), some (.inl (.int (nI (fl_key e c)))), some (.inl (.int (nI 0)))], [], (N, fm_SH)) Q := fun hno o7 o8 => by
      refine fb_198_81 X _ _ _ _ _ _ _ _ N Q ⟨fun _ => fb_198_95 X _ _ _ _ _ _ _ _ N Q ?_, fun z => absurd rfl z⟩
      rw [nI_add]
      refine ih (c + 1) b _ _ (by omega) (by omega) ?_
      rcases hb with ⟨b1, b2⟩ | ⟨u, u1, u2, u3, u4, u5⟩
      · refine Or.inl ⟨b1, fun v hv hcv => ?_⟩
        by_cases z : v = c
        · subst z
          rcases hno with y | y | ⟨w, y1, -, -⟩
          · exact absurd y hcv
          · exact fun z => z y
          · rw [b1] at y1
            exact absurd (by decide) y1
        · exact b2 v (by omega) hcv
      · refine Or.inr ⟨u, by omega, u2, u3, u4, fun v hv hcv hP => ?_⟩
        by_cases z : v = c
        · subst z
          rcases hno with y | y | ⟨w, -, y2, -⟩
          · exact absurd y hcv
          · exact absurd y hP
          · rw [u4, fz_le (by unfold fl_key; omega) hkb] at y2
            exact y2
        · exact u5 v (by omega) hcv hP
    have yes : ¬ ch c ≤ nI 0 → ¬ nI (fl_key e c) ≤ x2 → (b < nI 0 ∨ ¬ b ≤ nI (fl_key e c)) → fm_Ev (fm_PP X) 198 (81, [some (.inl (.ref 0)), some (.inl (.int x1)), some (.inl (.int x2)), o3, some (.inl (.int x4)), some (.inl (.int b)), some (.inl (.int (nI c))), some (.inl (.int (nI (fl_key e c)))), some (.inl (.int (nI 1)))], [], (N, fm_SH)) Q := fun hy1 hy2 hy3 => by
      refine fb_198_81 X _ _ _ _ _ _ _ _ N Q ⟨fun z => absurd z (by decide), fun _ => fb_198_95 X _ _ _ _ _ _ _ _ N Q ?_⟩
      rw [nI_add]
      refine ih (c + 1) _ _ _ (by omega) (by omega) (Or.inr ⟨c, Nat.lt_succ_self c, hy1, hy2, rfl, fun v hv hcv hP => ?_⟩)
      by_cases z : v = c
      · subst z; exact Nat.le_refl _
      · rcases hb with ⟨b1, b2⟩ | ⟨u, u1, u2, u3, u4, u5⟩
        · exact absurd hP (b2 v (by omega) hcv)
        · have hu := u5 v (by omega) hcv hP
          have hub : fl_key e u < 2147483648 := by unfold fl_key; omega
          rw [u4, fz_lt hub (by omega), fz_le hub hkb] at hy3
          omega
    refine fb_198_19 X _ _ _ _ _ _ _ _ N Q ?_
    simp (disch := omega) only [fz_t, h0, fz_le, nI_add, h90 c hc8]
    rw [g1, hkey]
    refine ⟨fz_in (by omega) (by omega), fun z => absurd z (by omega), fun _ => ⟨fz_in (by omega) (by omega), fz_in (by omega) (by omega), fun hch => no (Or.inl hch) o7 o8, fun hch => ⟨fun hk => no (Or.inr (Or.inl hk)) o7 o8, fun hk => ⟨fun hb0 => yes hch hk (Or.inl hb0), fun hb0 => ⟨fun hbk => no (Or.inr (Or.inr ⟨b, hb0, hbk, rfl⟩)) o7 o8, fun hbk => yes hch hk (Or.inr hbk)⟩⟩⟩⟩⟩
/-- the last key, and the node found, after i rounds -/
def fl_l (a : Nat → Nat) (e : Nat → Nat) (L : Nat) : Nat → Int32
  | 0 => Int32.ofInt (-1)
  | i + 1 => if i < L then nI (fl_key e (a i)) else nI 1000000
def fl_f (a : Nat → Nat) (L : Nat) : Nat → Int32
  | 0 => Int32.ofInt (-1)
  | i + 1 => if i < L then nI (a i) else Int32.ofInt (-1)
theorem lp_198a (h0 : N.1 0 0 = nI n) (h8 : n ≤ 8) (h90 : ∀ i, i < 8 → N.1 0 (90 + i) = ch i) (h110 : ∀ i, i < 8 → N.1 0 (110 + i) = t i) (he : ∀ i, i < 8 → t i = nI (e i) ∧ e i ≤ 10000) {p : Nat} (hp : p < 100)
    (kk : Q (.inl (some (.inl (.int (fl_f (fl_a t ch n) (fl_n ch n) (p + 1)))))) (N, fm_SH)) :
    ∀ m i (o5 o6 o7 o8 : Option fm_V), p + 1 - i = m → i ≤ p + 1 →
    fm_Ev (fm_PP X) 198 (7, [some (.inl (.ref 0)), some (.inl (.int (nI p))), some (.inl (.int (fl_l (fl_a t ch n) e (fl_n ch n) i))), some (.inl (.int (fl_f (fl_a t ch n) (fl_n ch n) i))), some (.inl (.int (nI i))), o5, o6, o7, o8], [], (N, fm_SH)) Q := by
  intro m
  induction m with
  | zero =>
    intro i o5 o6 o7 o8 hm hi
    have e1 : i = p + 1 := by omega
    subst e1
    refine fb_198_7 X _ _ _ _ _ _ _ _ N Q ⟨fun _ => kk, fun z => absurd ?_ z⟩
    rw [fz_lt (by omega) (by omega)]
    exact Nat.lt_succ_self p
  | succ m ih =>
    intro i o5 o6 o7 o8 hm hi
    obtain ⟨i1, i2, i3⟩ := fl_a_in t ch n
    have hso := fl_a_sorted t ch n
    have hLn := fl_n_le ch n
    refine fb_198_7 X _ _ _ _ _ _ _ _ N Q ⟨fun z => absurd z ?_, fun _ => ?_⟩
    · rw [fz_lt (by omega) (by omega)]; omega
    have hklt : ∀ j k, j < k → k < fl_n ch n → fl_key e (fl_a t ch n j) < fl_key e (fl_a t ch n k) := fun j k h1 h2 => fl_key_lt he (by have := (i1 j (by omega)).1; omega) (by have := (i1 k h2).1; omega) (hso j k h1 h2)
    have hkb : ∀ u, u < 8 → fl_key e u < 300000 := fun u hu => by unfold fl_key; omega
    refine lp_198b h0 h8 h90 (fun i hi => ⟨(h110 i hi).trans (he i hi).1, (he i hi).2⟩) (fun b x6 o7 o8 hb hx6 => ?_) _ 0 _ _ _ rfl (Nat.zero_le _) (Or.inl ⟨rfl, fun u hu => absurd hu (Nat.not_lt_zero u)⟩)
    refine fb_198_19 X _ _ _ _ _ _ _ _ N Q ?_
    simp (disch := omega) only [fz_t, h0]
    refine ⟨fz_in (by omega) (by omega), fun _ => ?_, fun z => absurd hx6 z⟩
    have hnext := fun o5 o6 o7 o8 => ih (i + 1) o5 o6 o7 o8 (by omega) (by omega)
    -- who is still refused
    have hP : ∀ j, j < fl_n ch n → ((¬ nI (fl_key e (fl_a t ch n j)) ≤ fl_l (fl_a t ch n) e (fl_n ch n) i) ↔ i ≤ j) := fun j hj => by
      have hj8 : fl_a t ch n j < 8 := by have := (i1 j hj).1; omega
      have hjb := hkb _ hj8
      cases i with
      | zero =>
        refine ⟨fun _ => Nat.zero_le _, fun _ z => ?_⟩
        have z : nI (fl_key e (fl_a t ch n j)) ≤ Int32.ofInt (-1) := z
        rw [fz_leI, fz_nI (by omega)] at z
        have h9 : (Int32.ofInt (-1)).toInt = -1 := by decide
        omega
      | succ i =>
        show (¬ nI (fl_key e (fl_a t ch n j)) ≤ (if i < fl_n ch n then nI (fl_key e (fl_a t ch n i)) else nI 1000000)) ↔ i + 1 ≤ j
        by_cases z : i < fl_n ch n
        · have hi8 : fl_a t ch n i < 8 := by have := (i1 i z).1; omega
          have hib := hkb _ hi8
          rw [if_pos z, fz_le (by omega) (by omega)]
          rcases Nat.lt_trichotomy i j with y | y | y
          · have := hklt i j y hj
            omega
          · subst y; omega
          · have := hklt j i y z
            omega
        · rw [if_neg z, fz_le (by omega) (by omega)]
          omega
    by_cases hiL : i < fl_n ch n
    · -- the next of the line
      obtain ⟨u, u1, u2, u3, u4, u5⟩ : ∃ u, u < n ∧ ¬ ch u ≤ nI 0 ∧ (¬ nI (fl_key e u) ≤ fl_l (fl_a t ch n) e (fl_n ch n) i) ∧ b = nI (fl_key e u) ∧ ∀ v, v < n → ¬ ch v ≤ nI 0 → (¬ nI (fl_key e v) ≤ fl_l (fl_a t ch n) e (fl_n ch n) i) → fl_key e u ≤ fl_key e v := by
        rcases hb with ⟨b1, b2⟩ | h
        · exact absurd ((hP i hiL).mpr (Nat.le_refl i)) (b2 _ (i1 i hiL).1 (i1 i hiL).2)
        · exact h
      obtain ⟨j, hj, haj⟩ := i3 u u1 u2
      have hij : i ≤ j := (hP j hj).mp (by rw [haj]; exact u3)
      have hji : j = i := by
        rcases Nat.lt_or_ge i j with y | y
        · have h1 := hklt i j y hj
          have h2 := u5 _ (i1 i hiL).1 (i1 i hiL).2 ((hP i hiL).mpr (Nat.le_refl i))
          rw [haj] at h1
          omega
        · omega
      subst hji
      have hu8 : u < 8 := by omega
      have hub := hkb u hu8
      have hb0 : nI 0 ≤ b := by rw [u4, fz_le (by omega) (by omega)]; omega
      have hfd : b - b / nI 20 * nI 20 = nI u := by
        rw [u4, pk_div (by omega) (by omega) (by omega), pk_mul, fz_sub (Nat.div_mul_le_self _ _)]
        congr 1
        unfold fl_key
        omega
      have el : fl_l (fl_a t ch n) e (fl_n ch n) (j + 1) = b := by
        show (if j < fl_n ch n then nI (fl_key e (fl_a t ch n j)) else nI 1000000) = b
        rw [if_pos hiL, haj, u4]
      have ef : fl_f (fl_a t ch n) (fl_n ch n) (j + 1) = nI u := by
        show (if j < fl_n ch n then nI (fl_a t ch n j) else Int32.ofInt (-1)) = nI u
        rw [if_pos hiL, haj]
      refine ⟨fun _ => ⟨by decide, fun _ => ?_, fun z => absurd hb0 z⟩, fun z => absurd hb0 z⟩
      have h9 := hnext (some (.inl (.int b))) (some (.inl (.int x6))) o7 o8
      rw [el, ef] at h9
      rw [hfd, nI_add]
      exact h9
    · -- the line is at its end
      have hb1 : b = Int32.ofInt (-1) := by
        rcases hb with ⟨b1, b2⟩ | ⟨u, u1, u2, u3, u4, u5⟩
        · exact b1
        · obtain ⟨j, hj, haj⟩ := i3 u u1 u2
          have := (hP j hj).mp (by rw [haj]; exact u3)
          omega
      have hb0 : ¬ nI 0 ≤ b := by rw [hb1]; decide
      have el : fl_l (fl_a t ch n) e (fl_n ch n) (i + 1) = nI 1000000 := if_neg hiL
      have ef : fl_f (fl_a t ch n) (fl_n ch n) (i + 1) = Int32.ofInt (-1) := if_neg hiL
      refine ⟨fun z => absurd z hb0, fun _ => ⟨fun z => absurd z hb0, fun _ => ?_⟩⟩
      have h9 := hnext (some (.inl (.int b))) (some (.inl (.int x6))) o7 o8
      rw [el, ef] at h9
      rw [nI_add]
      exact h9
/-- the p-th of the line, or -1 -/
theorem sp_198 (h0 : N.1 0 0 = nI n) (h8 : n ≤ 8) (h90 : ∀ i, i < 8 → N.1 0 (90 + i) = ch i) (h110 : ∀ i, i < 8 → N.1 0 (110 + i) = t i) (he : ∀ i, i < 8 → t i = nI (e i) ∧ e i ≤ 10000) {p : Nat} (hp : p < 100)
    (h : K (if p < fl_n ch n then nI (fl_a t ch n p) else Int32.ofInt (-1)) N) : fm_Ci (fm_PP X) 198 [.inl (.ref 0), .inl (.int (nI p))] (N, fm_SH) K X' :=
  fe_198 X _ N K X' (lp_198a h0 h8 h90 h110 he hp ⟨rfl, h⟩ _ 0 _ _ _ _ rfl (Nat.zero_le _))
end FLT
