/-! the law's keeps, served and many -/
/-- what the law's net holds while it reckons: data, net, feeding, an order -/
def fl_X (R N : fm_N) (G : fg_G) (A : fg_A) (o : Nat → Nat) (fc : Nat) : Prop := fl_D R N ∧ fk_rng R ∧ fl_G N G ∧ fl_S N A ∧ ft_ok (fg_F A) o (fg_D A) fc ∧ (∀ u, fg_F A u = true → u < fg_n G) ∧ fc ≤ 8 ∧ (∀ u, fg_F A u = true → fg_C A u < 8) ∧ fg_C A 0 = 0 ∧ fg_F A 0 = true
theorem fl_X_of {R N : fm_N} {G : fg_G} {A : fg_A} (hD : fl_D R N) (hr : fk_rng R) (hG : fl_G N G) (hS : fl_S N A) (hO : fl_O A) (hF : fg_Fin G A) : ∃ o fc, fl_X R N G A o fc := by
  obtain ⟨o, fc, h1, h2⟩ := hO
  obtain ⟨kk, hRe, -⟩ := id hF
  have ok := hG.2.2.2.2.1
  have h8 := hG.2.2.1
  have hFu := fg_Re_Fu ok kk A hRe
  have hn : ∀ u, fg_F A u = true → u < fg_n G := hFu.1.1.2.2.2.2.2.2.2.2
  refine ⟨o, fc, hD, hr, hG, hS, h1, hn, ?_, fun u hu => ?_, (fg_Re_0 ok kk A hRe).2.1, hFu.2.1⟩
  · have := fg_cn_bd hn 12
    omega
  · by_cases z : 0 < fg_C A u
    · have := (fg_cab ok hF hu z).1.2.1
      omega
    · omega
def fl_gd (R : fm_N) (A : fg_A) (o : Nat → Nat) (fc : Nat) (s : Nat → Bool) (u : Nat) : Prop := ¬ (fk_vt R A o fc s u < nI 2070) ∧ (0 < fg_C A u → fc_ab (fk_fl R A o fc s u) ≤ R.1 7 (fg_C A u))
theorem fl_kp_gd {R : fm_N} {A : fg_A} {o : Nat → Nat} {fc : Nat} {s : Nat → Bool} (ok : ft_ok (fg_F A) o (fg_D A) fc) : fk_kp R A o fc s ↔ ∀ u, fg_F A u = true → fl_gd R A o fc s u := by
  constructor
  · intro h u hu
    obtain ⟨k, hk, hok⟩ := ok.2.2.2.1 u hu
    rw [← hok]
    exact h k hk
  · intro h k hk
    exact h _ (ok.2.1 k hk).1
theorem fl_c_neg {c : Nat} (h : c < 8) : (fl_c c < nI 0) = (c = 0) := by
  unfold fl_c
  by_cases z : c = 0
  · rw [if_pos z]
    exact propext ⟨fun _ => z, fun _ => by decide⟩
  · rw [if_neg z, fz_lt (by omega) (by omega)]
    exact propext ⟨fun y => absurd y (Nat.not_lt_zero c), fun y => absurd y z⟩
theorem fl_or0 (x : Int32) : x ||| nI 0 = x := by
  rw [nI_0]
  simp
section FLK2
variable {X : Nat × (Nat → Int32)} {R N : fm_N} {G : fg_G} {A : fg_A} {o : Nat → Nat} {fc : Nat} {K : Int32 → fm_N → Prop} {X' : Nat → fm_N → Prop} {Q : fm_O → fm_M → Prop}
theorem lp_196f {x1 x3 : Int32} {o4 : Option fm_V} (h : Q (.inl (some (.inl (.int (nI 0))))) (N, fm_SH)) : fm_Ev (fm_PP X) 196 (17, [some (.inl (.ref 0)), some (.inl (.int x1)), some (.inl (.int (nI 0))), some (.inl (.int x3)), o4], [], (N, fm_SH)) Q :=
  fb_196_17 X _ _ _ _ N Q ⟨fz_in (by omega) (by omega), fun _ => ⟨Or.inl rfl, h⟩, fun _ => ⟨fun _ => ⟨Or.inl rfl, h⟩, fun z => absurd rfl z⟩⟩
theorem lp_196 (x : fl_X R N G A o fc) {on : Nat} (hon : on < 4096) (k1 : fk_kp R A o fc on.testBit → Q (.inl (some (.inl (.int (nI 1))))) (N, fm_SH)) (k2 : ¬ fk_kp R A o fc on.testBit → Q (.inl (some (.inl (.int (nI 0))))) (N, fm_SH)) :
    ∀ m c (o4 : Option fm_V), fg_n G - c = m → 1 ≤ c → c ≤ fg_n G → (∀ u, u < c → fg_F A u = true → fl_gd R A o fc on.testBit u) →
    fm_Ev (fm_PP X) 196 (17, [some (.inl (.ref 0)), some (.inl (.int (nI on))), some (.inl (.int (nI 1))), some (.inl (.int (nI c))), o4], [], (N, fm_SH)) Q := by
  obtain ⟨hD, hr, hG, hS, ok, hn, hfc, hC, hC0, hF0⟩ := x
  have h8 := hG.2.2.1
  intro m
  induction m with
  | zero =>
    intro c o4 hm hc1 hc hg
    refine fb_196_17 X _ _ _ _ N Q ?_
    simp (disch := omega) only [fz_t, hG.1, fz_le]
    refine ⟨fz_in (by omega) (by omega), fun _ => ⟨Or.inr trivial, k1 ((fl_kp_gd ok).mpr fun u hu => hg u (by have := hn u hu; omega) hu)⟩, fun z => absurd (by omega) z⟩
  | succ m ih =>
    intro c o4 hm hc1 hc hg
    have hc8 : c < 8 := by omega
    have bad : ∀ (x3 : Int32) (o4 : Option fm_V), fg_F A c = true → ¬ fl_gd R A o fc on.testBit c → fm_Ev (fm_PP X) 196 (17, [some (.inl (.ref 0)), some (.inl (.int (nI on))), some (.inl (.int (nI 0))), some (.inl (.int x3)), o4], [], (N, fm_SH)) Q := fun x3 o4 hF hb => lp_196f (k2 fun z => hb ((fl_kp_gd ok).mp z c hF))
    have good : ∀ o4 : Option fm_V, (fg_F A c = true → fl_gd R A o fc on.testBit c) → fm_Ev (fm_PP X) 196 (17, [some (.inl (.ref 0)), some (.inl (.int (nI on))), some (.inl (.int (nI 1))), some (.inl (.int (nI (c + 1)))), o4], [], (N, fm_SH)) Q := fun o4 hb => ih (c + 1) o4 (by omega) (by omega) (by omega) (fun u hu hF => by
      by_cases z : u = c
      · subst z; exact hb hF
      · exact hg u (by omega) hF)
    refine fb_196_17 X _ _ _ _ N Q ?_
    simp (disch := omega) only [fz_t, hG.1, fz_le, nI_add, hS.1 c hc8, fz_b1e]
    refine ⟨fz_in (by omega) (by omega), fun z => absurd z (by omega), fun _ => ⟨fun z => absurd z (by decide), fun _ => ⟨fz_in (by omega) (by omega), fun hF => ⟨fz_in (by omega) (by omega), ?_⟩, fun hF => good _ (fun z => absurd z hF)⟩⟩⟩
    obtain ⟨q, hq, hoq⟩ := ok.2.2.2.1 c hF
    have hCc := hC c hF
    obtain ⟨-, s2, -⟩ := hS.2.1 c hc8 hF
    rw [s2]
    have hCp : 0 < fg_C A c → 1 ≤ fg_C A c := fun z => z
    have vol : ∀ {P : Int32 → fm_N → Prop} {X' : Nat → fm_N → Prop}, P (fk_vt R A o fc on.testBit c) N → fm_Ci (fm_PP X) 241 [.inl (.ref 0), .inl (.int (nI c)), .inl (.int (nI on))] (N, fm_SH) P X' := fun {P X'} h => by
      have hv := vo_9 (X := X) R N G A o fc on q P X' hD hr hG hS ok hn hon hq (by omega) (by omega) (by rw [hoq]; exact h)
      rw [hoq] at hv
      exact hv
    have flo : ∀ {P : Int32 → fm_N → Prop} {X' : Nat → fm_N → Prop}, P (fk_fl R A o fc on.testBit c) N → fm_Ci (fm_PP X) 231 [.inl (.ref 0), .inl (.int (nI c)), .inl (.int (nI on))] (N, fm_SH) P X' := fun {P X'} h => by
      have hf := fl_9 (X := X) R N G A o fc on q P X' hD hr hG hS ok hn hon hq (by omega) (by rw [hoq]; exact h)
      rw [hoq] at hf
      exact hf
    refine vol ⟨fun z => bad _ _ hF (fun y => y.1 z), fun hvt => ?_⟩
    rw [fl_c_neg hCc]
    refine ⟨fun z => good _ (fun _ => ⟨hvt, fun y => absurd z (by omega)⟩), fun z => flo (sp_169 ?_)⟩
    have hC1 : 1 ≤ fg_C A c := by omega
    rw [fl_c_pos hC1]
    simp (disch := omega) only [nI_add, fz_t, (hD.2.2.1 (fg_C A c) hCc).1]
    exact ⟨fz_in (by omega) (by omega), fun y => bad _ _ hF (fun w => Int32.not_le.mpr y (w.2 hC1)), fun y => good _ (fun _ => ⟨hvt, fun _ => Int32.not_lt.mp y⟩)⟩
theorem sp_196 (x : fl_X R N G A o fc) {on : Nat} (hon : on < 4096) (k1 : fk_kp R A o fc on.testBit → K (nI 1) N) (k2 : ¬ fk_kp R A o fc on.testBit → K (nI 0) N) : fm_Ci (fm_PP X) 196 [.inl (.ref 0), .inl (.int (nI on))] (N, fm_SH) K X' := by
  obtain ⟨hD, hr, hG, hS, ok, hn, hfc, hC, hC0, hF0⟩ := id x
  refine fe_196 X _ N K X' ?_
  simp (disch := omega) only [fz_t]
  rw [hD.1]
  have e0 : fk_vt R A o fc on.testBit 0 = R.1 1 7 := by unfold fk_vt; rw [ft_v_0]
  refine ⟨fz_in (by omega) (by omega), fun z => lp_196f ⟨rfl, k2 fun y => ?_⟩, fun z => lp_196 x hon (fun y => ⟨rfl, k1 y⟩) (fun y => ⟨rfl, k2 y⟩) _ 1 _ rfl (Nat.le_refl _) hG.2.2.2.2.1.1 (fun u hu hF => ?_)⟩
  · have := ((fl_kp_gd ok).mp y 0 hF0).1
    rw [e0] at this
    exact this z
  · have hu0 : u = 0 := by omega
    subst hu0
    exact ⟨by rw [e0]; exact z, fun y => absurd hC0 (by omega)⟩
/-- the served of the fed -/
theorem lp_197 {n M : Nat} {F : Nat → Bool} (h0 : N.1 0 0 = nI n) (h8 : n ≤ 8) (h170 : ∀ i, i < 8 → N.1 0 (170 + i) = fz_b (M.testBit i)) (h400 : ∀ i, i < 8 → N.1 0 (400 + i) = fz_b (F i)) (kk : ∀ S, S < 4096 → (∀ i, S.testBit i = true ↔ i < n ∧ M.testBit i = true ∧ F i = true) → Q (.inl (some (.inl (.int (nI S))))) (N, fm_SH)) :
    ∀ m c S, n - c = m → c ≤ n → S < 4096 → (∀ i, S.testBit i = true ↔ i < c ∧ M.testBit i = true ∧ F i = true) →
    fm_Ev (fm_PP X) 197 (4, [some (.inl (.ref 0)), some (.inl (.int (nI S))), some (.inl (.int (nI c)))], [], (N, fm_SH)) Q := by
  intro m
  induction m with
  | zero =>
    intro c S hm hc hS hb
    have e : c = n := by omega
    subst e
    refine fb_197_4 X _ _ N Q ?_
    simp (disch := omega) only [fz_t, h0, fz_le]
    exact ⟨fz_in (by omega) (by omega), fun _ => kk S hS hb, fun z => absurd (Nat.le_refl _) z⟩
  | succ m ih =>
    intro c S hm hc hS hb
    have hc8 : c < 8 := by omega
    refine fb_197_4 X _ _ N Q ?_
    simp (disch := omega) only [fz_t, h0, fz_le, nI_add, h170 c hc8, h400 c hc8, fz_b1e, fb_or (show c < 12 by omega), fl_or0]
    have no : ¬ (M.testBit c = true ∧ F c = true) → fm_Ev (fm_PP X) 197 (4, [some (.inl (.ref 0)), some (.inl (.int (nI S))), some (.inl (.int (nI (c + 1))))], [], (N, fm_SH)) Q := fun hno => ih (c + 1) S (by omega) (by omega) hS (fun i => by
      rw [hb]
      constructor
      · intro z; exact ⟨by omega, z.2⟩
      · intro z
        refine ⟨?_, z.2⟩
        by_cases y : i = c
        · subst y; exact absurd z.2 hno
        · omega)
    refine ⟨fz_in (by omega) (by omega), fun z => absurd z (by omega), fun _ => ⟨fz_in (by omega) (by omega), fun hM => ⟨fz_in (by omega) (by omega), fun hF => ?_, fun hF => no (fun z => hF z.2)⟩, fun hM => no (fun z => hM z.1)⟩⟩
    refine ih (c + 1) _ (by omega) (by omega) (fb_or_lt hS (by omega)) (fun i => ?_)
    rw [fb_or_bit, Bool.or_eq_true, hb, decide_eq_true_iff]
    constructor
    · rintro (z | z)
      · exact ⟨by omega, z.2⟩
      · subst z; exact ⟨by omega, hM, hF⟩
    · intro z
      by_cases y : c = i
      · exact Or.inr y
      · exact Or.inl ⟨by omega, z.2⟩
theorem sp_197 {n M : Nat} {F : Nat → Bool} (h0 : N.1 0 0 = nI n) (h8 : n ≤ 8) (h170 : ∀ i, i < 8 → N.1 0 (170 + i) = fz_b (M.testBit i)) (h400 : ∀ i, i < 8 → N.1 0 (400 + i) = fz_b (F i)) (kk : ∀ S, S < 4096 → (∀ i, S.testBit i = true ↔ i < n ∧ M.testBit i = true ∧ F i = true) → K (nI S) N) : fm_Ci (fm_PP X) 197 [.inl (.ref 0)] (N, fm_SH) K X' :=
  fe_197 X N K X' (lp_197 h0 h8 h170 h400 (fun S a b => ⟨rfl, kk S a b⟩) _ 0 0 rfl (Nat.zero_le _) (by omega) (fun i => by simp))
end FLK2
