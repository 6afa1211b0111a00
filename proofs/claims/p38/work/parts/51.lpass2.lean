/-! the law's passes: what a minute leaves behind -/
theorem fg_cn_more {f : Nat → Bool} {n : Nat} : ∀ m, n ≤ m → (∀ i, n ≤ i → i < m → f i = false) → fg_cn f m = fg_cn f n := by
  intro m
  induction m with
  | zero => intro h _; rw [Nat.le_zero.mp h]
  | succ m ih =>
    intro h h0
    by_cases z : n = m + 1
    · rw [z]
    · show fg_cn f m + (if f m = true then 1 else 0) = _
      rw [h0 m (by omega) (by omega), if_neg (by decide), Nat.add_zero]
      exact ih (by omega) (fun i h1 h2 => h0 i h1 (by omega))
section FLP2
variable {X : Nat × (Nat → Int32)} {Y : fm_N} {S g i : Nat} {x1 : Int32} {o4 o5 : Option fm_V} {Q : fm_O → fm_M → Prop}
theorem lp_297 (hi : i < 8) (h : ∀ o4 o5 : Option fm_V, fm_Ev (fm_PP X) 199 (161, [some (.inl (.ref 0)), some (.inl (.int x1)), some (.inr (3, g)), some (.inl (.int (nI (i + 1)))), o4, o5], [], ((fm_uI Y.1 0 (150 + i) (fz_b (decide (nI 100 ≤ Y.1 0 (130 + i)))), Y.2), fm_SH)) Q) :
    fm_Ev (fm_PP X) 199 (297, [some (.inl (.ref 0)), some (.inl (.int x1)), some (.inr (3, g)), some (.inl (.int (nI i))), o4, o5], [], (Y, fm_SH)) Q := by
  refine fb_199_297 X _ _ _ _ _ Y Q ?_
  simp (disch := omega) only [fz_t, nI_add]
  refine ⟨fz_in (by omega) (by omega), fun z => ⟨fz_in (by omega) (by omega), ?_⟩, fun z => ⟨fz_in (by omega) (by omega), ?_⟩⟩
  · have h := h o4 o5
    rw [decide_eq_false (Int32.not_le.mpr z)] at h
    exact h
  · have h := h o4 o5
    rw [decide_eq_true (Int32.not_lt.mp z)] at h
    exact h
theorem lp_250 (hi : i < 8) (hmk : fm_mk Y.1 g) {bl : Bool} (hb : Y.1 0 (150 + i) = fz_b bl) {v : Int32} (hv : Y.1 0 (130 + i) + Y.1 (fm_L0 + g) i = v)
    (h : ∀ o4 o5 : Option fm_V, fm_Ev (fm_PP X) 199 (161, [some (.inl (.ref 0)), some (.inl (.int x1)), some (.inr (3, g)), some (.inl (.int (nI (i + 1)))), o4, o5], [], ((fm_uI (fm_uI (fm_uI Y.1 0 (130 + i) v) 0 6 (Y.1 0 6 + fz_b (decide (nI 100 ≤ v) && !bl))) 0 (150 + i) (fz_b (decide (nI 100 ≤ v))), Y.2), fm_SH)) Q) :
    fm_Ev (fm_PP X) 199 (250, [some (.inl (.ref 0)), some (.inl (.int x1)), some (.inr (3, g)), some (.inl (.int (nI i))), o4, o5], [], (Y, fm_SH)) Q := by
  have last : ∀ w, w = fz_b (decide (nI 100 ≤ v) && !bl) → ∀ o4 o5 : Option fm_V, fm_Ev (fm_PP X) 199 (297, [some (.inl (.ref 0)), some (.inl (.int x1)), some (.inr (3, g)), some (.inl (.int (nI i))), o4, o5], [], ((fm_uI (fm_uI Y.1 0 (130 + i) v) 0 6 (Y.1 0 6 + w), Y.2), fm_SH)) Q := fun w hw o4 o5 => by
    refine lp_297 hi (fun o4 o5 => ?_)
    have e : (fm_uI (fm_uI Y.1 0 (130 + i) v) 0 6 (Y.1 0 6 + w)) 0 (130 + i) = v := by rw [fz_an _ _ _ _ (by omega), fz_ae]
    show fm_Ev (fm_PP X) 199 (161, [some (.inl (.ref 0)), some (.inl (.int x1)), some (.inr (3, g)), some (.inl (.int (nI (i + 1)))), o4, o5], [], ((fm_uI (fm_uI (fm_uI Y.1 0 (130 + i) v) 0 6 (Y.1 0 6 + w)) 0 (150 + i) (fz_b (decide (nI 100 ≤ (fm_uI (fm_uI Y.1 0 (130 + i) v) 0 6 (Y.1 0 6 + w)) 0 (130 + i)))), Y.2), fm_SH)) Q
    rw [e, hw]
    exact h o4 o5
  refine fb_199_250 X _ _ _ _ _ Y Q ?_
  simp (disch := omega) only [fz_t, nI_add, fz_an, fz_ae, hv, hb, fz_be]
  refine ⟨fz_in (by omega) (by omega), ⟨hmk, fz_in (by omega) (by omega)⟩, fz_in (by omega) (by omega), fz_in (by omega) (by omega), fz_in (by omega) (by omega), fun z => ⟨fz_in (by omega) (by omega), last _ ?_ _ _⟩, fun z => ⟨fz_in (by omega) (by omega), fun y => ⟨fz_in (by omega) (by omega), last _ ?_ _ _⟩, fun y => ⟨fz_in (by omega) (by omega), last _ ?_ _ _⟩⟩⟩
  · rw [decide_eq_false (Int32.not_le.mpr z)]; rfl
  · rw [decide_eq_true (Int32.not_lt.mp z), y]; rfl
  · rw [decide_eq_true (Int32.not_lt.mp z)]
    cases bl
    · exact absurd rfl y
    · rfl
theorem lp_229 (hi : i < 8) {s : Bool} (h : fm_Ev (fm_PP X) 199 (250, [some (.inl (.ref 0)), some (.inl (.int x1)), some (.inr (3, g)), some (.inl (.int (nI i))), some (.inl (.int (fz_b s))), o5], [], ((fm_uI Y.1 0 5 (Y.1 0 5 + (if s = true then Y.1 0 (90 + i) else nI 0)), Y.2), fm_SH)) Q) :
    fm_Ev (fm_PP X) 199 (229, [some (.inl (.ref 0)), some (.inl (.int x1)), some (.inr (3, g)), some (.inl (.int (nI i))), some (.inl (.int (fz_b s))), o5], [], (Y, fm_SH)) Q := by
  refine fb_199_229 X _ _ _ _ _ Y Q ?_
  simp (disch := omega) only [fz_t, nI_add, fz_be]
  cases s
  · exact ⟨fz_in (by omega) (by omega), fun _ => ⟨fz_in (by omega) (by omega), h⟩, fun z => absurd rfl z⟩
  · exact ⟨fz_in (by omega) (by omega), fun z => absurd z (by decide), fun _ => ⟨fz_in (by omega) (by omega), fz_in (by omega) (by omega), h⟩⟩
theorem lp_201 (hi : i < 8) {s : Bool} (h : fm_Ev (fm_PP X) 199 (229, [some (.inl (.ref 0)), some (.inl (.int x1)), some (.inr (3, g)), some (.inl (.int (nI i))), some (.inl (.int (fz_b s))), o5], [], ((fm_uI Y.1 0 (110 + i) (if ¬ Y.1 0 (90 + i) ≤ nI 0 ∧ s = false then Y.1 0 (110 + i) + nI 1 else Y.1 0 (110 + i)), Y.2), fm_SH)) Q) :
    fm_Ev (fm_PP X) 199 (201, [some (.inl (.ref 0)), some (.inl (.int x1)), some (.inr (3, g)), some (.inl (.int (nI i))), some (.inl (.int (fz_b s))), o5], [], (Y, fm_SH)) Q := by
  refine fb_199_201 X _ _ _ _ _ Y Q ?_
  have h0 : ∀ x : Int32, x + nI 0 = x := fun x => by rw [nI_0, Int32.add_zero]
  simp (disch := omega) only [fz_t, nI_add, fz_be, h0]
  refine ⟨fz_in (by omega) (by omega), fz_in (by omega) (by omega), fun z => ⟨fz_in (by omega) (by omega), ?_⟩, fun z => ⟨fun y => ⟨fz_in (by omega) (by omega), ?_⟩, fun y => ⟨fz_in (by omega) (by omega), ?_⟩⟩⟩
  · rw [if_neg (fun w => w.1 z)] at h; exact h
  · rw [if_pos ⟨z, y⟩] at h; exact h
  · rw [if_neg (fun w => y w.2)] at h; exact h
theorem lp_184 (hi : i < 8) {s : Bool} (h : fm_Ev (fm_PP X) 199 (201, [some (.inl (.ref 0)), some (.inl (.int x1)), some (.inr (3, g)), some (.inl (.int (nI i))), some (.inl (.int (fz_b s))), o5], [], ((fm_uI Y.1 0 (170 + i) (fz_b s), Y.2), fm_SH)) Q) :
    fm_Ev (fm_PP X) 199 (184, [some (.inl (.ref 0)), some (.inl (.int x1)), some (.inr (3, g)), some (.inl (.int (nI i))), some (.inl (.int (fz_b s))), o5], [], (Y, fm_SH)) Q := by
  refine fb_199_184 X _ _ _ _ _ Y Q ?_
  simp (disch := omega) only [fz_t, nI_add, fz_be]
  cases s
  · exact ⟨fun _ => ⟨fz_in (by omega) (by omega), h⟩, fun z => absurd rfl z⟩
  · exact ⟨fun z => absurd z (by decide), fun _ => ⟨fz_in (by omega) (by omega), h⟩⟩
theorem lp_161 {n : Nat} (h0 : Y.1 0 0 = nI n) (h8 : n ≤ 8) (hi : i < n) (hS : S < 256) (h : ∀ o5 : Option fm_V, fm_Ev (fm_PP X) 199 (184, [some (.inl (.ref 0)), some (.inl (.int (nI S))), some (.inr (3, g)), some (.inl (.int (nI i))), some (.inl (.int (fz_b (S.testBit i)))), o5], [], (Y, fm_SH)) Q) :
    fm_Ev (fm_PP X) 199 (161, [some (.inl (.ref 0)), some (.inl (.int (nI S))), some (.inr (3, g)), some (.inl (.int (nI i))), o4, o5], [], (Y, fm_SH)) Q := by
  refine fb_199_161 X _ _ _ _ _ Y Q ?_
  simp (disch := omega) only [fz_t, h0, fz_le, fz_bit (show S < 4096 by omega) (show i < 12 by omega), fz_b1e]
  refine ⟨fz_in (by omega) (by omega), fun z => absurd z (by omega), fun _ => ⟨fun z => ?_, fun z => ?_⟩⟩
  · have h := h o5
    rw [z] at h
    exact h
  · have h := h o5
    rw [show S.testBit i = false by simpa using z] at h
    exact h
/-- a node's share of a minute -/
theorem lp_161s {n : Nat} (h0 : Y.1 0 0 = nI n) (h8 : n ≤ 8) (hi : i < n) (hS : S < 256) (hmk : fm_mk Y.1 g) {bl s : Bool} (hs : S.testBit i = s) (hb : Y.1 0 (150 + i) = fz_b bl) {v t ch c u : Int32} (hv : Y.1 0 (130 + i) + Y.1 (fm_L0 + g) i = v) (ht : Y.1 0 (110 + i) = t) (hch : Y.1 0 (90 + i) = ch) (hc : Y.1 0 5 = c) (hu : Y.1 0 6 = u)
    (h : ∀ o4 o5 : Option fm_V, fm_Ev (fm_PP X) 199 (161, [some (.inl (.ref 0)), some (.inl (.int (nI S))), some (.inr (3, g)), some (.inl (.int (nI (i + 1)))), o4, o5], [], ((fm_uI (fm_uI (fm_uI (fm_uI (fm_uI (fm_uI Y.1 0 (170 + i) (fz_b s)) 0 (110 + i) (if ¬ ch ≤ nI 0 ∧ s = false then t + nI 1 else t)) 0 5 (c + (if s = true then ch else nI 0))) 0 (130 + i) v) 0 6 (u + fz_b (decide (nI 100 ≤ v) && !bl))) 0 (150 + i) (fz_b (decide (nI 100 ≤ v))), Y.2), fm_SH)) Q) :
    fm_Ev (fm_PP X) 199 (161, [some (.inl (.ref 0)), some (.inl (.int (nI S))), some (.inr (3, g)), some (.inl (.int (nI i))), o4, o5], [], (Y, fm_SH)) Q := by
  have hi8 : i < 8 := by omega
  have hL : fm_L0 + g ≠ 0 := by unfold fm_L0; omega
  refine lp_161 h0 h8 hi hS (fun o5 => ?_)
  rw [hs]
  refine lp_184 hi8 (lp_201 hi8 (lp_229 hi8 ?_))
  simp (disch := omega) only [fz_an, ht, hch, hc]
  refine lp_250 (bl := bl) (v := v) hi8 ?_ ?_ ?_ (fun o4 o5 => ?_)
  · show fm_uI (fm_uI (fm_uI Y.1 0 _ _) 0 _ _) 0 _ _ (fm_L0 + g) 5000 = _
    rw [fz_ne _ _ hL, fz_ne _ _ hL, fz_ne _ _ hL]
    exact hmk
  · simp (disch := omega) only [fz_an]
    exact hb
  · simp (disch := omega) only [fz_an, fz_ne _ _ hL]
    exact hv
  · simp (disch := omega) only [fz_an, hu]
    exact h o4 o5
end FLP2
