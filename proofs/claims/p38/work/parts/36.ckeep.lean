/-! the class: flows of a set of chargers, and its limits -/
/-- these cells bear no data of the currents -/
def fk_dc (cs : List Nat) : Prop := cs.contains 1 = false ∧ cs.contains 7 = false ∧ cs.contains 22 = false ∧ cs.contains 62 = false ∧ ∀ j, j < 12 → cs.contains (fm_pc 0 j) = false ∧ cs.contains (fm_pc 1 j) = false ∧ cs.contains (fm_pc 2 j) = false
theorem fk_net_fr {N N' : fm_N} {cs : List Nat} (h : fx_F cs N N') (hc : fk_dc cs) {u : Nat} (hu : u < 12) (s : Nat → Bool) : fk_net N' s u = fk_net N s u := by
  unfold fk_net
  rw [h.1 62 hc.2.2.2.1, h.1 22 hc.2.2.1, h.1 1 hc.1, fk_cv_fr h hc.2.2.2.2 hu]
section FKK
variable {X : Nat × (Nat → Int32)} {N N' : fm_N} {G : fg_G} {A : fg_A} {o : Nat → Nat} {fc : Nat} {X' : Nat → fm_N → Prop} {Q : fm_O → fm_M → Prop} {s s' : Nat → Bool} {cs : List Nat}
theorem fk_F12 (ok : ft_ok (fg_F A) o (fg_D A) fc) {u : Nat} (hu : fg_F A u = true) : u < 12 := by
  obtain ⟨k, hk, hok⟩ := ok.2.2.2.1 u hu
  rw [← hok]
  exact (ok.2.1 k hk).2
theorem fk_fl_fr (ok : ft_ok (fg_F A) o (fg_D A) fc) (h : fx_F cs N N') (hc : fk_dc cs) (u : Nat) : fk_fl N' A o fc s u = fk_fl N A o fc s u := ft_f_congr (fun i hi => fk_net_fr h hc (fk_F12 ok hi) s) u
theorem fk_vt_fr (ok : ft_ok (fg_F A) o (fg_D A) fc) (h : fx_F cs N N') (hc : fk_dc cs) (u : Nat) : fk_vt N' A o fc s u = fk_vt N A o fc s u := by
  have e : (fun w => fg_S A w * fk_fl N' A o fc s w / nI 10) = fun w => fg_S A w * fk_fl N A o fc s w / nI 10 := funext fun w => by rw [fk_fl_fr ok h hc]
  unfold fk_vt
  rw [h.1 1 hc.1, e]
theorem fk_kp_fr (ok : ft_ok (fg_F A) o (fg_D A) fc) (h : fx_F cs N N') (hc : fk_dc cs) : fk_kp N' A o fc s ↔ fk_kp N A o fc s := by
  unfold fk_kp
  constructor
  · intro z k hk
    have := z k hk
    rw [fk_vt_fr ok h hc, fk_fl_fr ok h hc, h.1 7 hc.2.1] at this
    exact this
  · intro z k hk
    rw [fk_vt_fr ok h hc, fk_fl_fr ok h hc, h.1 7 hc.2.1]
    exact z k hk
theorem fk_fl_cs (hs : ∀ u, fg_F A u = true → s u = s' u) (u : Nat) : fk_fl N A o fc s u = fk_fl N A o fc s' u := ft_f_congr (fun i hi => by unfold fk_net; rw [hs i hi]) u
theorem fk_vt_cs (hs : ∀ u, fg_F A u = true → s u = s' u) (u : Nat) : fk_vt N A o fc s u = fk_vt N A o fc s' u := by
  have e : (fun w => fg_S A w * fk_fl N A o fc s w / nI 10) = fun w => fg_S A w * fk_fl N A o fc s' w / nI 10 := funext fun w => by rw [fk_fl_cs hs]
  unfold fk_vt
  rw [e]
theorem fk_kp_cs (hs : ∀ u, fg_F A u = true → s u = s' u) : fk_kp N A o fc s ↔ fk_kp N A o fc s' := by
  unfold fk_kp
  constructor
  · intro z k hk
    have := z k hk
    rw [fk_vt_cs hs, fk_fl_cs hs] at this
    exact this
  · intro z k hk
    rw [fk_vt_cs hs, fk_fl_cs hs]
    exact z k hk
theorem fk_fv_fr (ok : ft_ok (fg_F A) o (fg_D A) fc) (h : fx_F cs N N') (hc : fk_dc cs) (h18 : cs.contains 19 = false) (h19 : cs.contains 20 = false) (k : fk_fv N A o fc s) : fk_fv N' A o fc s := by
  intro j hj
  rw [h.1 19 h18, h.1 20 h19, fk_fl_fr ok h hc, fk_vt_fr ok h hc]
  exact k j hj
theorem sp_46 (h : fk_S N A o fc) {n : Nat} (hn : ∀ u, fg_F A u = true → u < n) (hO : fk_own N n) {m : Nat} (hm : m < 4096) {K : fm_N → Prop} (k : ∀ N', fx_F [19, 20] N N' → fk_fv N' A o fc m.testBit → K N') : fm_Cv (fm_PP X) 46 [.inl (.ref 1), .inl (.int (nI m))] (N, fm_SH) K X' := by
  have ok := h.2.2.2.2.1
  refine fe_46 X _ N K X' ?_
  refine sp_131 h hm (fun N' a1 a2 => ⟨rfl, k N' a1 (fun j hj => ?_)⟩)
  obtain ⟨b1, b2⟩ := a2 j hj
  have e : ∀ u, ft_f (fg_F A) o (fg_D A) fc (fk_nt N m) u = fk_fl N A o fc m.testBit u := fun u => ft_f_congr (fun i hi => by
    unfold fk_nt fk_net
    rw [hO i (hn i hi)]
    by_cases z : m.testBit i = true
    · rw [if_pos z, if_pos z]
    · rw [if_neg z, if_neg z, Int32.add_zero]) u
  have e2 : (fun w => fg_S A w * ft_f (fg_F A) o (fg_D A) fc (fk_nt N m) w / nI 10) = fun w => fg_S A w * fk_fl N A o fc m.testBit w / nI 10 := funext fun w => by rw [e]
  rw [b1, b2, fk_fl_fr ok a1 (by unfold fk_dc; decide), fk_vt_fr ok a1 (by unfold fk_dc; decide), e, e2]
  exact ⟨rfl, rfl⟩
theorem sp_132 {u : Nat} (hu : u < 12) {K : Int32 → fm_N → Prop} (h : K (fc_ab (N.1 19 u)) N) : fm_Ci (fm_PP X) 132 [.inl (.ref 2), .inl (.int (nI u))] (N, fm_SH) K X' := by
  refine fe_132 X _ N K X' ?_
  simp (disch := omega) only [fz_t]
  exact ⟨fz_in (by omega) (by omega), sp_169 ⟨trivial, h⟩⟩
theorem lp_133 (h : fk_S N A o fc) (hv : fk_fv N A o fc s) {P : Prop} (hP : P ↔ fk_kp N A o fc s) : ∀ m k (o2 o3 : Option fm_V), fc - k = m → k ≤ fc → (∀ j, j < k → ¬ (fk_vt N A o fc s (o j) < nI 2070) ∧ (0 < fg_C A (o j) → fc_ab (fk_fl N A o fc s (o j)) ≤ N.1 7 (fg_C A (o j)))) →
    (P → Q (.inl (some (.inl (.int (nI 1))))) (N, fm_SH)) → (¬ P → Q (.inl (some (.inl (.int (nI 0))))) (N, fm_SH)) →
    fm_Ev (fm_PP X) 133 (2, [some (.inl (.ref 2)), some (.inl (.int (nI k))), o2, o3], [], (N, fm_SH)) Q := by
  have ok := h.2.2.2.2.1
  have hfc := ok.1.2.1
  intro m
  induction m with
  | zero =>
    intro k o2 o3 hm hk hi k1 k2
    refine fb_133_2 X _ _ _ N Q ?_
    rw [h.2.2.1]
    simp (disch := omega) only [fz_t, fz_le]
    exact ⟨fun _ => ⟨Or.inr trivial, k1 (hP.mpr (fun j hj => hi j (by omega)))⟩, fun z => absurd (by omega) z⟩
  | succ m ih =>
    intro k o2 o3 hm hk hi k1 k2
    obtain ⟨g16, g12⟩ := h.2.2.2.1 k (by omega)
    obtain ⟨-, -, g14, -, -, gC, -⟩ := h.1 _ g12
    obtain ⟨v1, v2⟩ := hv k (by omega)
    refine fb_133_2 X _ _ _ N Q ?_
    rw [h.2.2.1]
    simp (disch := omega) only [fz_t, fz_le, g16, g14, v2, nI_add]
    refine ⟨fun z => absurd z (by omega), fun _ => ⟨fz_in (by omega) (by omega), fz_in (by omega) (by omega), fz_in (by omega) (by omega), fun hlt => ⟨Or.inl trivial, k2 (fun z => ((hP.mp z) k (by omega)).1 hlt)⟩, fun hge => ⟨fun hc0 => ?_, fun hc0 => ?_⟩⟩⟩
    · refine ih (k + 1) _ _ (by omega) (by omega) (fun j hj => ?_) k1 k2
      by_cases z : j = k
      · subst z; exact ⟨hge, fun q => by omega⟩
      · exact hi j (by omega)
    · refine sp_132 (by omega) ⟨fz_in (by omega) (by omega), fun hle => ?_, fun hgt => ⟨Or.inl trivial, k2 (fun z => hgt ?_)⟩⟩
      · refine ih (k + 1) _ _ (by omega) (by omega) (fun j hj => ?_) k1 k2
        by_cases z : j = k
        · subst z; exact ⟨hge, fun q => by rw [← v1]; exact hle⟩
        · exact hi j (by omega)
      · rw [v1]
        exact ((hP.mp z) k (by omega)).2 (by omega)
theorem sp_133 (h : fk_S N A o fc) (hv : fk_fv N A o fc s) {K : Int32 → fm_N → Prop} (k1 : fk_kp N A o fc s → K (nI 1) N) (k2 : ¬ fk_kp N A o fc s → K (nI 0) N) : fm_Ci (fm_PP X) 133 [.inl (.ref 2)] (N, fm_SH) K X' := by
  refine fe_133 X N K X' ?_
  exact lp_133 h hv Iff.rfl _ 0 _ _ rfl (by omega) (fun j z => absurd z (Nat.not_lt_zero j)) (fun z => ⟨rfl, k1 z⟩) (fun z => ⟨rfl, k2 z⟩)
theorem sp_47 (h : fk_S N A o fc) {n : Nat} (hn : ∀ u, fg_F A u = true → u < n) (hO : fk_own N n) {m : Nat} (hm : m < 4096) {K : Int32 → fm_N → Prop} (k1 : ∀ N', fx_F [19, 20] N N' → fk_kp N A o fc m.testBit → K (nI 1) N') (k2 : ∀ N', fx_F [19, 20] N N' → ¬ fk_kp N A o fc m.testBit → K (nI 0) N') :
    fm_Ci (fm_PP X) 47 [.inl (.ref 1), .inl (.int (nI m))] (N, fm_SH) K X' := by
  have ok := h.2.2.2.2.1
  refine fe_47 X _ N K X' ?_
  refine sp_46 h hn hO hm (fun N1 a1 a2 => ?_)
  refine sp_133 (h.fr a1 ⟨rfl, rfl, rfl, rfl, rfl, rfl, rfl⟩) a2 (fun z => ⟨Or.inr rfl, rfl, k1 N1 a1 ((fk_kp_fr ok a1 (by unfold fk_dc; decide)).mp z)⟩) (fun z => ⟨Or.inl rfl, rfl, k2 N1 a1 (fun q => z ((fk_kp_fr ok a1 (by unfold fk_dc; decide)).mpr q))⟩)
theorem sp_45 (hG : fk_G N G) (hR : fk_Rf N) (h : fk_S N A o fc) (hn : ∀ u, fg_F A u = true → u < fg_n G) {m : Nat} (hm : m < 4096) (h4 : N.1 21 4 = nI m) {K : fm_N → Prop} (k : ∀ N', fx_F [63, 19, 20] N N' → fk_own N' (fg_n G) → fk_fv N' A o fc m.testBit → K N') : fm_Cv (fm_PP X) 45 [.inl (.ref 1)] (N, fm_SH) K X' := by
  refine fe_45 X N K X' ?_
  refine sp_44 hG hR (fun N1 a1 a2 => ?_)
  rw [fx_cell a1 21 rfl, h4]
  have h12 := hG.2.2.1
  refine sp_46 (h.fr a1 ⟨rfl, rfl, rfl, rfl, rfl, rfl, rfl⟩) hn a2 hm (fun N2 b1 b2 => ⟨rfl, k N2 ?_ ?_ b2⟩)
  · exact (a1.wk (by intro c hc; simp at hc ⊢; exact hc.1)).tr (b1.wk (by intro c hc; simp at hc ⊢; exact hc.2))
  · intro i hi
    rw [fx_cell b1 63 rfl, fx_cell b1 62 rfl, fx_cell b1 1 rfl, fk_cv_fr b1 (by decide) (by omega)]
    exact a2 i hi
end FKK
