/-! what flows, told by the nodes that a node feeds; it doesn't depend on the order -/
theorem fs_up0 {f : Nat → Int32} {u : Nat} {v : Int32} (h : f u = 0) : ∀ m, u < m → fs_m (fg_up f u v) m = fs_m f m + v := by
  intro m
  induction m with
  | zero => intro h; omega
  | succ m ih =>
    intro hu
    unfold fs_m
    by_cases z : u = m
    · subst z
      rw [fg_up_eq, fs_congr (f := fg_up f u v) (g := f) u (fun i hi => fg_up_ne _ _ (by omega)), h, Int32.add_zero]
    · rw [ih (by omega), fg_up_ne _ _ (fun e => z e.symm)]
      ac_rfl
section FTR
variable {F F' : Nat → Bool} {o d o' d' : Nat → Nat} {fc fc' : Nat} {w w' : Nat → Int32} {n : Nat}
theorem ft_s_sum (ok : ft_ok F o d fc) (hn : ∀ u, F u = true → u < n) {k : Nat} (hk : k < fc) : ∀ j p, fc - p = j → k < p → p ≤ fc → ft_s F o d fc w p (o k) = w (o k) + fs_m (fun c => if F c = true ∧ p ≤ ft_pl o fc c ∧ d c = o k then ft_f F o d fc w c else 0) n := by
  intro j
  induction j with
  | zero =>
    intro p hj h1 h2
    have e : p = fc := by omega
    subst e
    obtain ⟨q1, q2⟩ := ok.2.1 k hk
    rw [ft_s_top q1 q2, fs_zero n (fun c _ => if_neg (fun z => ?_)), Int32.add_zero]
    obtain ⟨q, hq, hoq⟩ := ok.2.2.2.1 c z.1
    have := z.2.1
    rw [← hoq, ft_pl_at ok hq] at this
    omega
  | succ j ih =>
    intro p hj h1 h2
    have hp : p < fc := by omega
    have hpl : ft_pl o fc (o p) = p := ft_pl_at ok hp
    have hff : ft_f F o d fc w (o p) = ft_s F o d fc w (p + 1) (o p) := by unfold ft_f; rw [hpl]
    rw [ft_s_step hp (fun z => ok.2.2.1 k p h1 hp z), ih (p + 1) (by omega) (by omega) (by omega), ← hff]
    have h0 : (fun c => if F c = true ∧ p + 1 ≤ ft_pl o fc c ∧ d c = o k then ft_f F o d fc w c else 0) (o p) = 0 := if_neg (fun z => by
      have := z.2.1
      rw [hpl] at this
      omega)
    have hpn := hn _ (ok.2.1 p hp).1
    have hpc : ∀ c, c ≠ o p → ((F c = true ∧ p ≤ ft_pl o fc c ∧ d c = o k) ↔ (F c = true ∧ p + 1 ≤ ft_pl o fc c ∧ d c = o k)) := fun c hc => by
      constructor
      · intro z
        obtain ⟨q, hq, hoq⟩ := ok.2.2.2.1 c z.1
        have h3 := z.2.1
        rw [← hoq, ft_pl_at ok hq] at h3
        have : q ≠ p := fun e => hc (by rw [← hoq, e])
        exact ⟨z.1, by rw [← hoq, ft_pl_at ok hq]; omega, z.2.2⟩
      · intro z; exact ⟨z.1, by omega, z.2.2⟩
    by_cases z : o k = d (o p)
    · rw [if_pos z, Int32.add_assoc, ← fs_up0 h0 n hpn]
      congr 1
      refine fs_congr n fun c _ => ?_
      by_cases hc : c = o p
      · subst hc
        rw [fg_up_eq, if_pos ⟨(ok.2.1 p hp).1, by rw [hpl]; omega, z.symm⟩]
      · rw [fg_up_ne _ _ hc]
        simp only [hpc c hc]
    · rw [if_neg z, Int32.add_zero]
      congr 1
      refine fs_congr n fun c _ => ?_
      by_cases hc : c = o p
      · subst hc
        rw [if_neg (fun y => z y.2.2.symm), if_neg (fun y => z y.2.2.symm)]
      · simp only [hpc c hc]
theorem ft_rec (ok : ft_ok F o d fc) (hn : ∀ u, F u = true → u < n) {k : Nat} (hk : k < fc) : ft_f F o d fc w (o k) = w (o k) + fs_m (fun c => if F c = true ∧ c ≠ 0 ∧ d c = o k then ft_f F o d fc w c else 0) n := by
  have hf : ft_f F o d fc w (o k) = ft_s F o d fc w (k + 1) (o k) := by unfold ft_f; rw [ft_pl_at ok hk]
  rw [hf, ft_s_sum ok hn hk _ (k + 1) rfl (by omega) (by omega)]
  congr 1
  refine fs_congr n fun c _ => ?_
  have e : (F c = true ∧ k + 1 ≤ ft_pl o fc c ∧ d c = o k) ↔ (F c = true ∧ c ≠ 0 ∧ d c = o k) := by
    constructor
    · intro z
      obtain ⟨q, hq, hoq⟩ := ok.2.2.2.1 c z.1
      have h3 := z.2.1
      rw [← hoq, ft_pl_at ok hq] at h3
      refine ⟨z.1, fun y => ?_, z.2.2⟩
      have := (ft_o0 ok hq).mp (by rw [hoq, y])
      omega
    · intro z
      obtain ⟨q, hq, hoq⟩ := ok.2.2.2.1 c z.1
      have hq0 : q ≠ 0 := fun y => z.2.1 (by rw [← hoq, y]; exact ok.1.2.2)
      obtain ⟨j, hj, hoj⟩ := ok.2.2.2.2 q (by omega) hq
      have : j = k := ft_inj ok (by omega) hk (by rw [hoj, hoq]; exact z.2.2)
      refine ⟨z.1, ?_, z.2.2⟩
      rw [← hoq, ft_pl_at ok hq]
      omega
  simp only [e]
/-- what hangs on a node lies behind it -/
theorem ft_later (ok : ft_ok F o d fc) {k c : Nat} (hk : k < fc) (hF : F c = true) (h0 : c ≠ 0) (hd : d c = o k) : ∃ q, q < fc ∧ o q = c ∧ k < q := by
  obtain ⟨q, hq, hoq⟩ := ok.2.2.2.1 c hF
  have hq0 : q ≠ 0 := fun y => h0 (by rw [← hoq, y]; exact ok.1.2.2)
  obtain ⟨j, hj, hoj⟩ := ok.2.2.2.2 q (by omega) hq
  have : j = k := ft_inj ok (by omega) hk (by rw [hoj, hoq]; exact hd)
  exact ⟨q, hq, hoq, by omega⟩
theorem ft_lt12 (ok : ft_ok F o d fc) {u : Nat} (hu : F u = true) : u < 12 := by
  obtain ⟨k, hk, hok⟩ := ok.2.2.2.1 u hu
  rw [← hok]
  exact (ok.2.1 k hk).2
theorem ft_indep (ok : ft_ok F o d fc) (ok' : ft_ok F' o' d' fc') (hF : ∀ u, F u = F' u) (hd : ∀ u, F u = true → d u = d' u) (hw : ∀ u, F u = true → w u = w' u) : ∀ u, F u = true → ft_f F o d fc w u = ft_f F' o' d' fc' w' u := by
  have key : ∀ j k, fc - k ≤ j → k < fc → ft_f F o d fc w (o k) = ft_f F' o' d' fc' w' (o k) := by
    intro j
    induction j with
    | zero => intro k h1 h2; omega
    | succ j ih =>
      intro k h1 hk
      have hFk := (ok.2.1 k hk).1
      obtain ⟨k', hk', hok'⟩ := ok'.2.2.2.1 (o k) (by rw [← hF]; exact hFk)
      rw [ft_rec ok (fun u hu => ft_lt12 ok hu) hk, ← hok', ft_rec ok' (fun u hu => ft_lt12 ok' hu) hk', hok', hw _ hFk]
      refine congrArg (fun z => w' (o k) + z) (fs_congr 12 fun c _ => ?_)
      by_cases z : F c = true ∧ c ≠ 0 ∧ d c = o k
      · rw [if_pos z, if_pos ⟨by rw [← hF]; exact z.1, z.2.1, by rw [← hd c z.1]; exact z.2.2⟩]
        obtain ⟨q, hq, hoq, hlt⟩ := ft_later ok hk z.1 z.2.1 z.2.2
        rw [← hoq]
        exact ih q (by omega) hq
      · rw [if_neg z, if_neg (fun y => z ⟨by rw [hF]; exact y.1, y.2.1, by rw [hd c (by rw [hF]; exact y.1)]; exact y.2.2⟩)]
  intro u hu
  obtain ⟨k, hk, hok⟩ := ok.2.2.2.1 u hu
  rw [← hok]
  exact key _ k (Nat.le_refl _) hk
theorem ft_v_indep (ok : ft_ok F o d fc) {base : Int32} {dr er : Nat → Int32} (hd : ∀ u, F u = true → d u = d' u) (he : ∀ u, F u = true → dr u = er u) : ∀ m u, F u = true → ft_v d base dr m u = ft_v d' base er m u := by
  intro m
  induction m with
  | zero => intro u _; rfl
  | succ m ih =>
    intro u hu
    unfold ft_v
    by_cases z : u = 0
    · rw [if_pos z, if_pos z]
    · rw [if_neg z, if_neg z]
      obtain ⟨k, hk, hok⟩ := ok.2.2.2.1 u hu
      have hk0 : k ≠ 0 := fun y => z (by rw [← hok, y]; exact ok.1.2.2)
      obtain ⟨j, hj, hoj⟩ := ok.2.2.2.2 k (by omega) hk
      have hFd : F (d u) = true := by rw [← hok, ← hoj]; exact (ok.2.1 j (by omega)).1
      rw [ih _ hFd, hd u hu, he u hu]
end FTR
