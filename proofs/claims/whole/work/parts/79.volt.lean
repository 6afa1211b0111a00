/-! the law: meanVoltage -/
def fj_mem (o : Nat → Nat) : Nat → Nat → Bool
  | 0, _ => false
  | p + 1, i => decide (o p = i) || fj_mem o p i
theorem fj_mem_iff (o : Nat → Nat) (i : Nat) : ∀ p, fj_mem o p i = true ↔ ∃ j, j < p ∧ o j = i := by
  intro p
  induction p with
  | zero => exact ⟨fun h => (nomatch h), fun ⟨j, hj, _⟩ => absurd hj (Nat.not_lt_zero j)⟩
  | succ p ih =>
    show (decide (o p = i) || fj_mem o p i) = true ↔ _
    rw [Bool.or_eq_true, decide_eq_true_eq, ih]
    constructor
    · rintro (h | ⟨j, hj, h⟩)
      · exact ⟨p, Nat.lt_succ_self p, h⟩
      · exact ⟨j, by omega, h⟩
    · rintro ⟨j, hj, h⟩
      by_cases z : j = p
      · subst z; exact Or.inl h
      · exact Or.inr ⟨j, by omega, h⟩
theorem fj_sum {o : Nat → Nat} {fc : Nat} {v : Nat → Int32} (hinj : ∀ j k, j < k → k < fc → o j ≠ o k) (h12 : ∀ k, k < fc → o k < 12) : ∀ p, p ≤ fc → fs_m (fun j => v (o j)) p = fs_m (fun i => if fj_mem o p i = true then v i else 0) 12 := by
  intro p
  induction p with
  | zero =>
    intro _
    rw [fs_zero 12 (fun i _ => if_neg (fun z => nomatch z))]
    rfl
  | succ p ih =>
    intro hp
    have e : fs_m (fun i => if fj_mem o (p + 1) i = true then v i else 0) 12 = fs_m (fun i => (if fj_mem o p i = true then v i else 0) + (if i = o p then v (o p) else 0)) 12 := fs_congr 12 fun i _ => by
      by_cases z : i = o p
      · have hn : ¬ fj_mem o p i = true := fun y => by
          obtain ⟨j, hj, h⟩ := (fj_mem_iff o i p).mp y
          exact hinj j p hj (by omega) (h.trans z)
        rw [if_pos ((fj_mem_iff o i (p + 1)).mpr ⟨p, Nat.lt_succ_self p, z.symm⟩), if_neg hn, if_pos z, z, Int32.zero_add]
      · have hb : fj_mem o (p + 1) i = fj_mem o p i := by
          show (decide (o p = i) || fj_mem o p i) = _
          rw [decide_eq_false (fun y => z y.symm), Bool.false_or]
        rw [hb, if_neg z, Int32.add_zero]
    rw [e, fs_add, fs_one (u := o p) 12 (h12 p (by omega)) (fun i _ hi => if_neg hi), if_pos rfl, ← ih (by omega)]
    rfl
section FJU
variable {X : Nat × (Nat → Int32)} {x5 : Int32} {o6 o7 o8 o9 : Option fm_V} {N : fm_N} {Q : fm_O → fm_M → Prop} {A : fg_A} {o : Nat → Nat} {fc M : Nat} {X' : Nat → fm_N → Prop}
theorem lp_34 (hS : fk_S N A o fc) (kk : Q (.inl (some (.inl (.double (FP.ddiv (FP.i2d (fs_m (fun j => N.1 19 (o j)) fc)) (FP.i2d (nI fc))))))) (N, fm_SH)) :
    ∀ m k, fc - k = m → k ≤ fc → fm_Ev (fm_PP X) 34 (8, [some (.inl (.ref 0)), some (.inl (.int (fs_m (fun j => N.1 19 (o j)) k))), some (.inl (.int (nI k)))], [], (N, fm_SH)) Q := by
  have ok := hS.2.2.2.2.1
  have h1 := ok.1.1
  have h2 := ok.1.2.1
  intro m
  induction m with
  | zero =>
    intro k hm hk
    have e : k = fc := by omega
    subst e
    refine fb_34_8 X _ _ N Q ?_
    rw [hS.2.2.1, fz_le (by omega) (by omega)]
    exact ⟨fun _ => ⟨fj_dle (fj_dq (fun y => absurd ((nI_eq (b := 0) (by omega) (by omega)).mp y) (by omega))), kk⟩, fun z => absurd (Nat.le_refl _) z⟩
  | succ m ih =>
    intro k hm hk
    obtain ⟨g16, g12⟩ := hS.2.2.2.1 k (by omega)
    refine fb_34_8 X _ _ N Q ?_
    rw [hS.2.2.1, fz_le (by omega) (by omega), fz_t (by omega : k < 2147483648), g16, fz_t (by omega : o k < 2147483648), nI_add]
    exact ⟨fun z => absurd z (by omega), fun _ => ⟨fz_in (by omega) (by omega), fz_in g12 (by omega), ih (k + 1) (by omega) (by omega)⟩⟩
theorem lp_112 {n : Nat} {F : Nat → Bool} (hn : n ≤ 12) (h25 : N.1 63 25 = nI n) (h74 : ∀ i, i < n → N.1 74 i = fz_b (F i)) (hc : nI (fg_cn F n) ≠ 0) (kk : Q (.inl (some (.inl (.double (FP.ddiv (FP.i2d (fs_m (fun i => if F i = true then N.1 87 i else 0) n)) (FP.i2d (nI (fg_cn F n)))))))) (N, fm_SH)) :
    ∀ m k, n - k = m → k ≤ n → fm_Ev (fm_PP X) 112 (15, [some (.inl (.ref 63)), some (.inl (.int (fs_m (fun i => if F i = true then N.1 87 i else 0) k))), some (.inl (.int (nI (fg_cn F k)))), some (.inl (.int (nI k)))], [], (N, fm_SH)) Q := by
  intro m
  induction m with
  | zero =>
    intro k hm hk
    have e : k = n := by omega
    subst e
    refine fb_112_15 X _ _ _ N Q ?_
    rw [h25, fz_le (by omega) (by omega)]
    exact ⟨fun _ => ⟨fj_dle (fj_dq hc), kk⟩, fun z => absurd (Nat.le_refl _) z⟩
  | succ m ih =>
    intro k hm hk
    have go := ih (k + 1) (by omega) (by omega)
    have ib := fz_in (n := 12) (by omega : k < 12) (by omega)
    have e0 : fs_m (fun i => if F i = true then N.1 87 i else 0) (k + 1) = fs_m (fun i => if F i = true then N.1 87 i else 0) k + (if F k = true then N.1 87 k else 0) := rfl
    have e1 : fg_cn F (k + 1) = fg_cn F k + (if F k = true then 1 else 0) := rfl
    rw [e0, e1] at go
    refine fb_112_15 X _ _ _ N Q ?_
    rw [h25, fz_le (by omega) (by omega), fz_t (by omega : k < 2147483648), h74 k (by omega), fz_be, show nI k + nI 1 = nI (k + 1) by rw [nI_add], show nI (fg_cn F k) + nI 0 = nI (fg_cn F k) by rw [nI_add]; rfl, show nI (fg_cn F k) + nI 1 = nI (fg_cn F k + 1) by rw [nI_add]]
    refine ⟨fun z => absurd z (by omega), fun _ => ⟨ib, fun z => ⟨ib, fun _ => ?_, fun y => absurd z y⟩, fun z => ⟨ib, ib, fun y => absurd y z, fun _ => ?_⟩⟩⟩
    · rw [if_neg (by rw [z]; exact fun w => nomatch w), if_neg (by rw [z]; exact fun w => nomatch w)] at go
      exact go
    · have w := (Bool.not_eq_false _).mp z
      rw [if_pos w, if_pos w] at go
      exact go
theorem lw_1846 (hI : fj_I N A o fc M) (H : fj_H X x5 (N.2.2.2 + 1) Q) : fm_Ev (fm_PP X) 0 (1846, [some (.inl (.ref 999999)), some (.inl (.ref 0)), some (.inl (.ref 63)), some (.inl (.ref 89)), some (.inl (.ref 90)), some (.inl (.int x5)), o6, o7, o8, o9], [], (N, fm_SH)) Q := by
  have hA := fj_An hI.1.1 hI.1.2.2.1
  refine fb_0_1846 X _ _ _ _ _ N Q (fe_34 X N _ _ (sp_45 hI.1.1 hI.1.2.2.2.1 hI.1.2.1 hA hI.1.2.2.2.2.2.2.1 hI.1.2.2.2.2.2.1 (fun N1 a1 a2 a3 => ?_)))
  have q0 : fj_q 0 N N1 := fj_q.Fx a1 (by intro c hc; simp at hc ⊢; omega) rfl rfl
  have hI1 := q0.I hI
  have ic1 := hI1.1
  have hS := ic1.2.1
  have ok := hS.2.2.2.2.1
  have hcn : fc = fg_cn (fg_F A) (fg_n (fk_gG N1)) := by
    rw [hS.2.2.2.2.2, ← fg_cn_more 12 ic1.1.2.2.1 (fj_Az hI1)]
  have hfc : nI fc ≠ 0 := fun y => absurd ((nI_eq (b := 0) (by have := ok.1.2.1; omega) (by omega)).mp y) (by have := ok.1.1; omega)
  refine lp_34 hS ⟨rfl, ?_⟩ _ 0 rfl (Nat.zero_le _)
  have hC0 : fn_cp N1 (fm_uI N1.1 63 31 (nI 0), N1.2) M := (fj_q.rf N1).cp (fj_q.th N1 _) hI1.2.1
  refine fe_112 X N1 _ _ (sp_83 ic1 hC0 (fun N2 b1 b2 b3 b4 b5 => ?_))
  have n2 : fj_n (fm_uI N1.1 63 31 (nI 0), N1.2) N2 := fj_n.F b1 (by intro c hc; simp at hc ⊢; omega) rfl rfl
  have e25 : N2.1 63 25 = nI (fg_n (fk_gG N1)) := (fn_G.of ic1.1 ((fj_q.rf N1).cp n2.1 hC0)).1
  refine lp_112 (F := fg_F A) ic1.1.2.2.1 e25 (fun i hi => (b2.1 i hi).1) (by rw [← hcn]; exact hfc) ⟨rfl, ?_⟩ _ 0 rfl (Nat.zero_le _)
  have es : fs_m (fun j => N1.1 19 (o j)) fc = fs_m (fun i => if fg_F A i = true then N2.1 87 i else 0) (fg_n (fk_gG N1)) := by
    rw [fj_sum (v := N1.1 19) ok.2.2.1 (fun k hk => (ok.2.1 k hk).2) fc (Nat.le_refl _), ← fs_more 12 ic1.1.2.2.1 (fun i h1 h2 => if_neg (fun z => absurd (fj_An ic1.1 ic1.2.2.1 i z) (by omega)))]
    refine fs_congr 12 fun i hi => ?_
    by_cases z : fg_F A i = true
    · obtain ⟨k, hk, hok⟩ := ok.2.2.2.1 i z
      rw [if_pos ((fj_mem_iff o i fc).mpr ⟨k, hk, hok⟩), if_pos z, ← hok, (a3 k hk).2, b5 k hk]
    · rw [if_neg z, if_neg (fun y => z (by
        obtain ⟨k, hk, hok⟩ := (fj_mem_iff o i fc).mp y
        rw [← hok]
        exact (ok.2.1 k hk).1))]
  rw [es, ← hcn]
  refine ⟨fun _ => H _ _ _ _ _ _ _ _ _ (((fj_n.th N1 _).tr n2).1.I hI1) ?_, fun z => absurd (fj_dc (fj_dq hfc)) z⟩
  rw [n2.2]
  dsimp only
  rw [a1.2]
  exact Nat.le_succ _
end FJU
