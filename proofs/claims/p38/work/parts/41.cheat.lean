/-! the class: a minute: fuses -/
theorem fg_Re_E {G : fg_G} (ok : fg_ok G) : ∀ k A, fg_Re G k A → ∀ e, fg_E A e → fg_C A e = 0 := by
  intro k
  induction k with
  | zero =>
    intro A h e he
    rw [h.1.2.2.1] at he
    have he : e = 0 := he
    rw [he]
    exact (fg_Re_0 ok 0 A h).2.1
  | succ k ih =>
    intro A h e he
    obtain ⟨A0, q, h0, hq, hS, hcl⟩ := h
    have hFu := fg_Re_Fu ok k A0 h0
    rw [hS.2.2.1] at he
    have hy := (fg_y_un hq.2.1).1
    rcases he with he | he
    · have h1 := hFu.1.1.2.2.2.2.1 e he
      have hne : e ≠ fg_y G A0 q := fun z => by rw [← z, h1] at hy; cases hy
      obtain ⟨_, _, k3, _⟩ := hS.2.2.2.2.1 e ((fg_up_ne _ _ hne).trans h1)
      exact k3.trans ((fg_up_ne _ _ hne).trans (ih A0 h0 e he))
    · subst he
      obtain ⟨_, _, k3, _⟩ := hS.2.2.2.2.1 _ (fg_up_eq _ _ _)
      exact k3.trans (fg_up_eq _ _ _)
theorem fg_cab {G : fg_G} (ok : fg_ok G) {A : fg_A} (h : fg_Fin G A) {u : Nat} (hu : fg_F A u = true) (hc : 0 < fg_C A u) : fg_cb G (fg_C A u) ∧ ((fg_U A (fg_C A u) ∧ fg_p G (fg_C A u) = u) ∨ (¬ fg_U A (fg_C A u) ∧ fg_C A u = u)) := by
  obtain ⟨k, hR, _⟩ := h
  have hI := (fg_Re_Fu ok k A hR).1.1
  rcases hI.2.2.2.2.2.2.2.1 u hu with he | ⟨c, c1, c2, c3⟩ | ⟨c1, c2⟩
  · rw [fg_Re_E ok k A hR u he] at hc
    exact absurd hc (Nat.lt_irrefl 0)
  · subst c3
    obtain ⟨_, _, k3, _⟩ := hI.2.2.2.2.2.1 c c1 c2 hu
    rw [k3]
    exact ⟨c1, Or.inl ⟨c2, rfl⟩⟩
  · obtain ⟨_, _, k3, _⟩ := hI.2.2.2.2.2.2.1 u c1 c2 hu
    rw [k3]
    exact ⟨c1, Or.inr ⟨c2, rfl⟩⟩
theorem fg_cab_inj {G : fg_G} (ok : fg_ok G) {A : fg_A} (h : fg_Fin G A) {u v : Nat} (hu : fg_F A u = true) (hv : fg_F A v = true) (hc : 0 < fg_C A u) (he : fg_C A u = fg_C A v) : u = v := by
  obtain ⟨_, h1⟩ := fg_cab ok h hu hc
  obtain ⟨_, h2⟩ := fg_cab ok h hv (he ▸ hc)
  rw [← he] at h2
  rcases h1 with ⟨a1, a2⟩ | ⟨a1, a2⟩ <;> rcases h2 with ⟨b1, b2⟩ | ⟨b1, b2⟩
  · rw [← a2, ← b2]
  · exact absurd a1 b1
  · exact absurd b1 a1
  · rw [← a2, ← b2]
def fh_u (h x r : Int32) : Int32 := if x ≤ r then fc_max (nI 0) (h - nI 5) else h + (x - r)
/-- the heats when the nodes below k have heated theirs -/
def fh_h (F : Nat → Bool) (C : Nat → Nat) (fl rat h : Nat → Int32) : Nat → Nat → Int32
  | 0 => h
  | k + 1 => if F k = true ∧ 0 < C k then fg_up (fh_h F C fl rat h k) (C k) (fh_u (fh_h F C fl rat h k (C k)) (fc_ab (fl k)) (rat (C k))) else fh_h F C fl rat h k
theorem fh_at {F : Nat → Bool} {C : Nat → Nat} {fl rat h : Nat → Int32} {c : Nat} : ∀ k, (∀ u, u < k → F u = true → 0 < C u → C u ≠ c) → fh_h F C fl rat h k c = h c := by
  intro k
  induction k with
  | zero => intro _; rfl
  | succ k ih =>
    intro hk
    unfold fh_h
    by_cases z : F k = true ∧ 0 < C k
    · rw [if_pos z, fg_up_ne _ _ (fun e => hk k (Nat.lt_succ_self k) z.1 z.2 e.symm)]
      exact ih (fun u hu => hk u (by omega))
    · rw [if_neg z]
      exact ih (fun u hu => hk u (by omega))
theorem fh_congr {F : Nat → Bool} {C : Nat → Nat} {fl fl' rat h : Nat → Int32} (e : ∀ u, F u = true → fl u = fl' u) : ∀ k, fh_h F C fl rat h k = fh_h F C fl' rat h k := by
  intro k
  induction k with
  | zero => rfl
  | succ k ih =>
    unfold fh_h
    by_cases z : F k = true ∧ 0 < C k
    · rw [if_pos z, if_pos z, ih, e k z.1]
    · rw [if_neg z, if_neg z, ih]
/-- newly blown -/
def fh_b (h h' : Nat → Int32) (c : Nat) : Bool := decide (nI 100 ≤ h' c) && !decide (nI 100 ≤ h c)
section FKH
variable {X : Nat × (Nat → Int32)} {N : fm_N} {G : fg_G} {A : fg_A} {o : Nat → Nat} {fc : Nat} {X' : Nat → fm_N → Prop} {Q : fm_O → fm_M → Prop}
theorem sp_137 {c : Nat} (hc : c < 12) {x : Int32} {K : Int32 → fm_N → Prop} (h : ∀ v, v = fh_u (N.1 8 c) x (N.1 7 c) → K (fz_b (decide (nI 100 ≤ v))) (fm_uI (fm_uI N.1 8 c v) 9 c (fz_b (decide (nI 100 ≤ v))), N.2)) : fm_Ci (fm_PP X) 137 [.inl (.ref 4), .inl (.int (nI c)), .inl (.int x)] (N, fm_SH) K X' := by
  have hin : fm_inb (nI c) 12 := fz_in hc (by omega)
  have fin : ∀ v, v = fh_u (N.1 8 c) x (N.1 7 c) → ((v < nI 100 → (fm_inb (nI c) 12 ∧ (fm_inb (nI c) 12 ∧ ((nI 0 = nI 0 ∨ nI 0 = nI 1) ∧ (fm_SH = fm_SH ∧ K (nI 0) (fm_uI (fm_uI N.1 8 c v) 9 c (nI 0), N.2)))))) ∧ (¬ v < nI 100 → (fm_inb (nI c) 12 ∧ (fm_inb (nI c) 12 ∧ ((nI 1 = nI 0 ∨ nI 1 = nI 1) ∧ (fm_SH = fm_SH ∧ K (nI 1) (fm_uI (fm_uI N.1 8 c v) 9 c (nI 1), N.2))))))) := by
    intro v hv
    have hk := h v hv
    refine ⟨fun z => ⟨hin, hin, Or.inl rfl, rfl, ?_⟩, fun z => ⟨hin, hin, Or.inr rfl, rfl, ?_⟩⟩
    · rw [decide_eq_false (Int32.not_le.mpr z)] at hk
      exact hk
    · rw [decide_eq_true (Int32.not_lt.mp z)] at hk
      exact hk
  refine fe_137 X _ _ N K X' ?_
  rw [fz_t (by omega : c < 2147483648), fz_nb0, fz_nb1]
  refine ⟨hin, fun z => ⟨hin, sp_170 ⟨hin, hin, ?_⟩⟩, fun z => ⟨hin, hin, hin, hin, ?_⟩⟩
  · have e := fin _ (show fc_max (nI 0) (N.1 8 c - nI 5) = _ from (if_pos z).symm)
    simp only [fz_at, if_true] at e ⊢
    exact e
  · have e := fin _ (show N.1 8 c + (x - N.1 7 c) = _ from (if_neg z).symm)
    simp only [fz_at, if_true] at e ⊢
    exact e
theorem lp_51 (hG : fk_G N G) (h : fk_S N A o fc) (hC0 : fg_C A 0 = 0) (hinj : ∀ u v, fg_F A u = true → fg_F A v = true → 0 < fg_C A u → fg_C A u = fg_C A v → u = v) (hwh : ∀ u, fg_F A u = true → 0 < fg_C A u → ¬ nI 100 ≤ N.1 8 (fg_C A u))
    (kk : ∀ N', fx_F [8, 9] N N' → N'.1 8 = fh_h (fg_F A) (fg_C A) (N.1 19) (N.1 7) (N.1 8) (fg_n G) → (∀ i, i < 12 → N'.1 9 i = fz_b (decide (nI 100 ≤ N'.1 8 i))) → Q (.inl (some (.inl (.int (nI (fg_cn (fh_b (N.1 8) (N'.1 8)) 12)))))) (N', fm_SH)) :
    ∀ m k (N1 : fm_N), fg_n G - k = m → 1 ≤ k → k ≤ fg_n G → fx_F [8, 9] N N1 → N1.1 8 = fh_h (fg_F A) (fg_C A) (N.1 19) (N.1 7) (N.1 8) k → (∀ i, i < 12 → N1.1 9 i = fz_b (decide (nI 100 ≤ N1.1 8 i))) →
    fm_Ev (fm_PP X) 51 (4, [some (.inl (.ref 1)), some (.inl (.int (nI (fg_cn (fh_b (N.1 8) (N1.1 8)) 12)))), some (.inl (.int (nI k)))], [], (N1, fm_SH)) Q := by
  have h12 := hG.2.2.1
  intro m
  induction m with
  | zero =>
    intro k N1 hm hk1 hk hF h7 h8
    refine fb_51_4 X _ _ N1 Q ?_
    rw [fx_cell hF 4 rfl, hG.1]
    simp (disch := omega) only [fz_t, fz_le]
    have e : k = fg_n G := by omega
    subst e
    exact ⟨fun _ => kk N1 hF h7 h8, fun z => absurd (by omega) z⟩
  | succ m ih =>
    intro k N1 hm hk1 hk hF h7 h8
    obtain ⟨g12, -, g14, -, -, gC, -⟩ := h.1 k (by omega)
    refine fb_51_4 X _ _ N1 Q ?_
    rw [fx_cell hF 4 rfl, hG.1, fx_cell hF 13 rfl, fx_cell hF 15 rfl]
    simp (disch := omega) only [fz_t, fz_le, g12, g14, fz_be, nI_add]
    have hno : ¬ (fg_F A k = true ∧ 0 < fg_C A k) → fm_Ev (fm_PP X) 51 (4, [some (.inl (.ref 1)), some (.inl (.int (nI (fg_cn (fh_b (N.1 8) (N1.1 8)) 12)))), some (.inl (.int (nI (k + 1))))], [], (N1, fm_SH)) Q := fun z => by
      refine ih (k + 1) N1 (by omega) (by omega) (by omega) hF ?_ h8
      rw [h7]
      exact (if_neg z).symm
    refine ⟨fun z => absurd z (by omega), fun _ => ⟨fz_in (by omega) (by omega), fun hf => hno (fun z => by rw [hf] at z; exact nomatch z.1), fun hf => ⟨fz_in (by omega) (by omega), fun hc => hno (fun z => by omega), fun hc => ⟨fz_in (by omega) (by omega), ?_⟩⟩⟩⟩
    have hf' : fg_F A k = true := by simpa using hf
    have hc' : 0 < fg_C A k := by omega
    refine sp_132 (by omega) (sp_137 gC (fun v hv => ?_))
    have hold : N1.1 8 (fg_C A k) = N.1 8 (fg_C A k) := by
      rw [h7]
      exact fh_at k (fun u hu huf huc z => by
        have := hinj u k huf hf' huc z
        omega)
    rw [fz_be]
    obtain ⟨Z, hZ⟩ : ∃ Z, Z = fm_uI (fm_uI N1.1 8 (fg_C A k) v) 9 (fg_C A k) (fz_b (decide (nI 100 ≤ v))) := ⟨_, rfl⟩
    have hFZ : fx_F [8, 9] N (Z, N1.2) := by rw [hZ]; exact (hF.up rfl).up rfl
    rw [← hZ]
    have h7' : Z 8 = fg_up (N1.1 8) (fg_C A k) v := by
      rw [hZ, fz_ne _ _ (by decide : (8 : Nat) ≠ 9)]
      funext j
      rw [fz_at]
      rfl
    have hN : Z 8 = fh_h (fg_F A) (fg_C A) (N.1 19) (N.1 7) (N.1 8) (k + 1) := by
      rw [h7', hv, h7, fx_cell hF 7 rfl, hF.1 19 rfl]
      exact (if_pos ⟨hf', hc'⟩).symm
    have h8' : ∀ i, i < 12 → Z 9 i = fz_b (decide (nI 100 ≤ Z 8 i)) := fun i hi => by
      rw [h7', hZ, fz_at, fz_ne _ _ (by decide : (9 : Nat) ≠ 8)]
      by_cases y : i = fg_C A k
      · rw [if_pos y, y, fg_up_eq]
      · rw [if_neg y, fg_up_ne _ _ y]; exact h8 i hi
    clear hZ
    have hwc : decide (nI 100 ≤ N.1 8 (fg_C A k)) = false := decide_eq_false (hwh k hf' hc')
    have hb0 : fh_b (N.1 8) (N1.1 8) (fg_C A k) = false := by
      unfold fh_b
      rw [hold, hwc]
      rfl
    have go : ∀ t, t = fg_cn (fh_b (N.1 8) (Z 8)) 12 → fm_Ev (fm_PP X) 51 (4, [some (.inl (.ref 1)), some (.inl (.int (nI t))), some (.inl (.int (nI (k + 1))))], [], ((Z, N1.2), fm_SH)) Q := fun t ht => by
      rw [ht]
      exact ih (k + 1) (Z, N1.2) (by omega) (by omega) (by omega) hFZ hN h8'
    refine ⟨fun z => go _ ?_, fun z => go _ ?_⟩
    · have y : ¬ nI 100 ≤ v := of_decide_eq_false z
      refine fg_cn_congr 12 fun j _ => ?_
      rw [h7']
      by_cases w : j = fg_C A k
      · subst w
        rw [hb0]
        unfold fh_b
        rw [fg_up_eq, decide_eq_false y]
        rfl
      · unfold fh_b
        rw [fg_up_ne _ _ w]
    · have y : nI 100 ≤ v := by simpa using z
      have e : fh_b (N.1 8) (Z 8) = fg_up (fh_b (N.1 8) (N1.1 8)) (fg_C A k) true := by
        rw [h7']
        funext j
        by_cases w : j = fg_C A k
        · subst w
          rw [fg_up_eq]
          unfold fh_b
          rw [fg_up_eq, hwc, decide_eq_true y]
          rfl
        · rw [fg_up_ne _ _ w]
          unfold fh_b
          rw [fg_up_ne _ _ w]
      rw [e, fg_cn_up hb0, if_pos gC]
theorem sp_51 (hG : fk_G N G) (h : fk_S N A o fc) (hC0 : fg_C A 0 = 0) (hinj : ∀ u v, fg_F A u = true → fg_F A v = true → 0 < fg_C A u → fg_C A u = fg_C A v → u = v) (hwh : ∀ u, fg_F A u = true → 0 < fg_C A u → ¬ nI 100 ≤ N.1 8 (fg_C A u)) (h8 : ∀ i, i < 12 → N.1 9 i = fz_b (decide (nI 100 ≤ N.1 8 i))) {K : Int32 → fm_N → Prop}
    (kk : ∀ N', fx_F [8, 9] N N' → N'.1 8 = fh_h (fg_F A) (fg_C A) (N.1 19) (N.1 7) (N.1 8) (fg_n G) → (∀ i, i < 12 → N'.1 9 i = fz_b (decide (nI 100 ≤ N'.1 8 i))) → K (nI (fg_cn (fh_b (N.1 8) (N'.1 8)) 12)) N') : fm_Ci (fm_PP X) 51 [.inl (.ref 1)] (N, fm_SH) K X' := by
  have ok := hG.2.2.2.2.1
  refine fe_51 X N K X' ?_
  have h1 := lp_51 (X := X) (Q := fm_Qi fm_SH K X') hG h hC0 hinj hwh (fun N' a1 a2 a3 => ⟨rfl, kk N' a1 a2 a3⟩) _ 1 N rfl (Nat.le_refl _) ok.1 (fx_F.rf _ _) (if_neg (fun z => by rw [hC0] at z; exact absurd z.2 (Nat.lt_irrefl 0))).symm h8
  have e : fg_cn (fh_b (N.1 8) (N.1 8)) 12 = 0 := by
    have : ∀ m, fg_cn (fh_b (N.1 8) (N.1 8)) m = 0 := by
      intro m
      induction m with
      | zero => rfl
      | succ m ih =>
        unfold fg_cn
        rw [ih, if_neg]
        unfold fh_b
        simp
    exact this 12
  rw [e] at h1
  exact h1
end FKH
