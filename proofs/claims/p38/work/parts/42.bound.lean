/-! bounds: currents, flows, heats -/
def fz_bd (lo hi : Int) (x : Int32) : Prop := lo ≤ x.toInt ∧ x.toInt ≤ hi
theorem fz_leI (x y : Int32) : x ≤ y ↔ x.toInt ≤ y.toInt := Int32.le_iff_toInt_le
theorem fz_ltI (x y : Int32) : x < y ↔ x.toInt < y.toInt := Int32.lt_iff_toInt_lt
theorem fz_nI {n : Nat} (h : n < 2147483648) : (nI n).toInt = (n : Int) := nI_toInt h
theorem fz_bd_add {x y : Int32} {a b c d : Int} (h : fz_bd a b x) (k : fz_bd c d y) (h1 : -2147483648 ≤ a + c) (h2 : b + d < 2147483648) : fz_bd (a + c) (b + d) (x + y) := by
  obtain ⟨p, q⟩ := h
  obtain ⟨r, s⟩ := k
  have e : (x + y).toInt = x.toInt + y.toInt := Jvm.Kit.i32_add (by omega) (by omega)
  exact ⟨by rw [e]; omega, by rw [e]; omega⟩
theorem fz_bd_sub {x y : Int32} {a b c d : Int} (h : fz_bd a b x) (k : fz_bd c d y) (h1 : -2147483648 ≤ a - d) (h2 : b - c < 2147483648) : fz_bd (a - d) (b - c) (x - y) := by
  obtain ⟨p, q⟩ := h
  obtain ⟨r, s⟩ := k
  have e : (x - y).toInt = x.toInt - y.toInt := Jvm.Kit.i32_sub (by omega) (by omega)
  exact ⟨by rw [e]; omega, by rw [e]; omega⟩
theorem fz_bd_wk {x : Int32} {a b c d : Int} (h : fz_bd a b x) (h1 : c ≤ a) (h2 : b ≤ d) : fz_bd c d x := ⟨Int.le_trans h1 h.1, Int.le_trans h.2 h2⟩
theorem fz_bd_min {x y : Int32} {a b : Int} (h : fz_bd a b x) (k : fz_bd a b y) : fz_bd a b (fc_min x y) := by
  unfold fc_min
  split
  · exact k
  · exact h
theorem fz_bd_max {x y : Int32} {a b : Int} (h : fz_bd a b x) (k : fz_bd a b y) : fz_bd a b (fc_max x y) := by
  unfold fc_max
  split
  · exact k
  · exact h
theorem fz_bd_ab {x : Int32} {a : Int} (h : fz_bd (-a) a x) (ha : a < 2147483648) : fz_bd 0 a (fc_ab x) := by
  obtain ⟨p, q⟩ := h
  unfold fc_ab
  by_cases z : nI 0 ≤ x
  · rw [if_pos z]
    rw [fz_leI, fz_nI (by omega)] at z
    exact ⟨z, q⟩
  · rw [if_neg z]
    rw [fz_leI, fz_nI (by omega)] at z
    have e : (-x).toInt = -x.toInt := Jvm.Kit.i32_neg (by omega)
    exact ⟨by rw [e]; omega, by rw [e]; omega⟩
theorem fz_bd_0 : fz_bd 0 0 0 := by unfold fz_bd; decide
theorem fc_cv_bd {sh : Nat → Bool} {nu : Nat → Int32} : ∀ (K : Nat) (left most : Int32), (∀ k, k ≤ K → fz_bd 0 200 (nu k)) → fz_bd 0 100 left → fz_bd 0 200 most → fz_bd 0 200 (fc_cv sh nu K left most) := by
  intro K
  induction K with
  | zero =>
    intro left most hn hl hm
    refine fz_bd_min hm ?_
    obtain ⟨p, q⟩ := hn 0 (Nat.le_refl 0)
    obtain ⟨r, s⟩ := hl
    have h0 : 0 ≤ (nu 0).toInt * left.toInt := Int.mul_nonneg p r
    have h1 : (nu 0).toInt * left.toInt ≤ 200 * 100 := Int.mul_le_mul q s r (by decide)
    have e : (nu 0 * left).toInt = (nu 0).toInt * left.toInt := Jvm.Kit.i32_mul (by omega) (by omega)
    have e2 : (nu 0 * left / nI 100).toInt = ((nu 0).toInt * left.toInt).tdiv 100 := by
      rw [Jvm.Kit.i32_div (by rw [fz_nI (by omega)]; omega), e, fz_nI (by omega)]
      rfl
    generalize (nu 0).toInt * left.toInt = z at *
    rw [Int.tdiv_eq_ediv_of_nonneg h0] at e2
    exact ⟨by rw [e2]; omega, by rw [e2]; omega⟩
  | succ K ih =>
    intro left most hn hl hm
    unfold fc_cv
    split
    · split
      · rename_i z
        rw [fz_leI] at z
        obtain ⟨p, q⟩ := hn (K + 1) (Nat.le_refl _)
        obtain ⟨r, s⟩ := hl
        have e : (left - nu (K + 1)).toInt = left.toInt - (nu (K + 1)).toInt := Jvm.Kit.i32_sub (by omega) (by omega)
        exact ih _ _ (fun k hk => hn k (by omega)) ⟨by rw [e]; omega, by rw [e]; omega⟩ hm
      · exact ⟨by rw [fz_nI (by omega)]; decide, by rw [fz_nI (by omega)]; decide⟩
    · exact ih _ _ (fun k hk => hn k (by omega)) hl (fz_bd_min hm (hn (K + 1) (Nat.le_refl _)))
theorem fs_bd {f : Nat → Int32} {a : Int} (ha0 : 0 ≤ a) (ha : a ≤ 100000) : ∀ m, m ≤ 100 → (∀ i, i < m → fz_bd (-a) a (f i)) → fz_bd (-(a * m)) (a * m) (fs_m f m) := by
  intro m
  induction m with
  | zero =>
    intro _ _
    unfold fs_m
    simp only [Int.natCast_zero, Int.mul_zero]
    exact fz_bd_0
  | succ m ih =>
    intro hm hf
    have h1 := ih (by omega) (fun i hi => hf i (by omega))
    have h2 := hf m (by omega)
    have e : a * ((m + 1 : Nat) : Int) = a * m + a := by rw [Int.natCast_add, Int.mul_add]; simp
    have hb : a * (m : Int) ≤ 100000 * 100 := Int.mul_le_mul ha (by omega) (by omega) (by decide)
    have hb0 : 0 ≤ a * (m : Int) := Int.mul_nonneg ha0 (by omega)
    rw [e]
    generalize a * (m : Int) = z at *
    have h3 := fz_bd_add h1 h2 (by omega) (by omega)
    exact fz_bd_wk h3 (by omega) (by omega)
/-- the numbers that were set lie in their ranges -/
def fk_rng (N : fm_N) : Prop := (∀ i, i < 12 → fz_bd 0 200 (N.1 62 i) ∧ fz_bd 0 64 (N.1 22 i) ∧ fz_bd 0 400 (N.1 7 i)) ∧ fz_bd 0 100 (N.1 1 8) ∧ ∀ j, j < 12 → ∀ k, k < 5 → fz_bd 0 200 (N.1 (fm_pc 2 j) k)
theorem fk_cv_bd {N : fm_N} (hR : fk_Rf N) (h : fk_rng N) {j : Nat} (hj : j < 12) {s : Int32} (hs : fz_bd 0 100 s) : fz_bd 0 200 (fk_cv N j s) := by
  obtain ⟨L, hL, e⟩ := hR j hj
  unfold fk_cv
  rw [e, fz_t (by omega)]
  exact fc_cv_bd _ _ _ (fun k hk => h.2.2 j hj k (by omega)) hs ⟨by rw [fz_nI (by omega)]; decide, by rw [fz_nI (by omega)]; decide⟩
theorem fk_net_bd {N : fm_N} (hR : fk_Rf N) (h : fk_rng N) {u : Nat} (hu : u < 12) (s : Nat → Bool) : fz_bd (-264) 264 (fk_net N s u) := by
  obtain ⟨h1, h2, _⟩ := h.1 u hu
  have h3 := fk_cv_bd hR h hu h.2.1
  unfold fk_net
  have h4 := fz_bd_sub h1 h3 (by omega) (by omega)
  have h5 : fz_bd 0 64 (if s u = true then N.1 22 u else 0) := by
    split
    · exact h2
    · exact fz_bd_wk fz_bd_0 (by omega) (by omega)
  exact fz_bd_wk (fz_bd_add h4 h5 (by omega) (by omega)) (by omega) (by omega)
theorem fk_fl_bd {N : fm_N} (hR : fk_Rf N) (h : fk_rng N) (A : fg_A) (o : Nat → Nat) (fc : Nat) (s : Nat → Bool) (u : Nat) : fz_bd (-3168) 3168 (fk_fl N A o fc s u) := by
  have := fs_bd (f := fun i => if fg_F A i = true ∧ ft_T o (fg_D A) fc (ft_pl o fc u + 1) i = u then fk_net N s i else 0) (a := 264) (by decide) (by decide) 12 (by decide) (fun i hi => by
    split
    · exact fk_net_bd hR h hi s
    · exact fz_bd_wk fz_bd_0 (by omega) (by omega))
  exact fz_bd_wk this (by decide) (by decide)
/-- heats: what a minute makes of them -/
def fh_ok (F : Nat → Bool) (C : Nat → Nat) (h : Nat → Int32) : Prop := (∀ u v, F u = true → F v = true → 0 < C u → C u = C v → u = v) ∧ (∀ u, F u = true → 0 < C u → ¬ nI 100 ≤ h (C u))
section FHB
variable {F : Nat → Bool} {C : Nat → Nat} {fl rat h : Nat → Int32}
theorem fh_own (ok : fh_ok F C h) {k : Nat} (hF : F k = true) (hC : 0 < C k) : fh_h F C fl rat h k (C k) = h (C k) := fh_at k fun u hu h1 h2 z => by
  have := ok.1 u k h1 hF h2 z
  omega
theorem fh_bd (ok : fh_ok F C h) (hb : ∀ i, fz_bd 0 10000 (h i)) (hfl : ∀ u, fz_bd (-3168) 3168 (fl u)) (hr : ∀ u, F u = true → 0 < C u → fz_bd 0 400 (rat (C u))) : ∀ k i, fz_bd 0 10000 (fh_h F C fl rat h k i) := by
  intro k
  induction k with
  | zero => exact hb
  | succ k ih =>
    intro i
    unfold fh_h
    by_cases z : F k = true ∧ 0 < C k
    · rw [if_pos z]
      by_cases y : i = C k
      · rw [y, fg_up_eq, fh_own ok z.1 z.2]
        have h1 := ok.2 k z.1 z.2
        rw [fz_leI, fz_nI (by omega)] at h1
        have h2 := hb (C k)
        have h3 := fz_bd_ab (hfl k) (by omega)
        have h4 := hr k z.1 z.2
        unfold fh_u
        by_cases w : fc_ab (fl k) ≤ rat (C k)
        · rw [if_pos w]
          have h5 : fz_bd 5 5 (nI 5) := ⟨by rw [fz_nI (by omega)]; decide, by rw [fz_nI (by omega)]; decide⟩
          have h6 := fz_bd_sub h2 h5 (by omega) (by omega)
          unfold fc_max
          split
          · rename_i q
            rw [fz_ltI, fz_nI (by omega)] at q
            exact ⟨by omega, by have := h6.2; omega⟩
          · exact ⟨by rw [fz_nI (by omega)]; decide, by rw [fz_nI (by omega)]; decide⟩
        · rw [if_neg w]
          rw [fz_leI] at w
          obtain ⟨p, q⟩ := h2
          obtain ⟨r, s⟩ := h3
          obtain ⟨t, v⟩ := h4
          have e1 : (fc_ab (fl k) - rat (C k)).toInt = (fc_ab (fl k)).toInt - (rat (C k)).toInt := Jvm.Kit.i32_sub (by omega) (by omega)
          have e2 : (h (C k) + (fc_ab (fl k) - rat (C k))).toInt = (h (C k)).toInt + (fc_ab (fl k) - rat (C k)).toInt := Jvm.Kit.i32_add (by omega) (by omega)
          exact ⟨by rw [e2, e1]; omega, by rw [e2, e1]; omega⟩
      · rw [fg_up_ne _ _ y]; exact ih i
    · rw [if_neg z]; exact ih i
/-- what was blown stays as it was -/
theorem fh_blown (ok : fh_ok F C h) {c : Nat} (hc : nI 100 ≤ h c) (k : Nat) : fh_h F C fl rat h k c = h c := fh_at k fun u _ h1 h2 z => by
  have := ok.2 u h1 h2
  rw [z] at this
  exact this hc
/-- where all carry what they may, no fuse blows -/
theorem fh_calm (ok : fh_ok F C h) (hb : ∀ i, fz_bd 0 10000 (h i)) (hk : ∀ u, F u = true → 0 < C u → fc_ab (fl u) ≤ rat (C u)) : ∀ k c, ¬ nI 100 ≤ h c → ¬ nI 100 ≤ fh_h F C fl rat h k c := by
  intro k
  induction k with
  | zero => exact fun c hc => hc
  | succ k ih =>
    intro c hc
    unfold fh_h
    by_cases z : F k = true ∧ 0 < C k
    · rw [if_pos z]
      by_cases y : c = C k
      · rw [y, fg_up_eq, fh_own ok z.1 z.2]
        unfold fh_u
        rw [if_pos (hk k z.1 z.2)]
        have h1 := ok.2 k z.1 z.2
        rw [fz_leI, fz_nI (by omega)] at h1
        have h2 := hb (C k)
        have h5 : fz_bd 5 5 (nI 5) := ⟨by rw [fz_nI (by omega)]; decide, by rw [fz_nI (by omega)]; decide⟩
        obtain ⟨p, q⟩ := h2
        obtain ⟨r, s⟩ := h5
        have e : (h (C k) - nI 5).toInt = (h (C k)).toInt - (nI 5).toInt := Jvm.Kit.i32_sub (by omega) (by omega)
        unfold fc_max
        rw [fz_leI, fz_nI (by omega)]
        split
        · rw [e]; omega
        · rw [fz_nI (by omega)]; decide
      · rw [fg_up_ne _ _ y]; exact ih c hc
    · rw [if_neg z]; exact ih c hc
end FHB
