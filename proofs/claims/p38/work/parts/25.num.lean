/-! small numbers as ints of the machine -/
theorem fz_t {n : Nat} (h : n < 2147483648) : (nI n).toNatClampNeg = n := nI_clamp h
theorem fz_lt {a b : Nat} (ha : a < 2147483648) (hb : b < 2147483648) : (nI a < nI b) = (a < b) := propext (nI_ltI ha hb)
theorem fz_le {a b : Nat} (ha : a < 2147483648) (hb : b < 2147483648) : (nI a ≤ nI b) = (a ≤ b) := propext (nI_leI ha hb)
theorem fz_eq {a b : Nat} (ha : a < 2147483648) (hb : b < 2147483648) : (nI a = nI b) = (a = b) := propext (nI_eq ha hb)
theorem fz_in {a n : Nat} (h : a < n) (ha : a < 2147483648) : fm_inb (nI a) n := by
  show ¬ (nI a < 0 ∨ n ≤ (nI a).toNatClampNeg)
  rw [fz_t ha]
  intro z
  rcases z with z | z
  · exact nI_pos ha z
  · omega
theorem fz_lt0 {a : Nat} (ha : a < 2147483648) : (nI a < 0) = False := eq_false (nI_pos ha)
/-- a truth as an int -/
def fz_b (b : Bool) : Int32 := nI (cond b 1 0)
theorem fz_b0 : fz_b false = nI 0 := rfl
theorem fz_b1 : fz_b true = nI 1 := rfl
theorem fz_be (b : Bool) : (fz_b b = nI 0) = (b = false) := by
  cases b
  · exact propext ⟨fun _ => rfl, fun _ => rfl⟩
  · exact propext ⟨fun h => absurd h (by decide), fun h => nomatch h⟩
theorem fz_b1e (b : Bool) : (fz_b b = nI 1) = (b = true) := by
  cases b
  · exact propext ⟨fun h => absurd h (by decide), fun h => nomatch h⟩
  · exact propext ⟨fun _ => rfl, fun _ => rfl⟩
theorem fz_bb (a b : Bool) : (fz_b a = fz_b b) = (a = b) := by
  cases a <;> cases b
  · exact propext ⟨fun _ => rfl, fun _ => rfl⟩
  · exact propext ⟨fun h => absurd h (by decide), fun h => nomatch h⟩
  · exact propext ⟨fun h => absurd h (by decide), fun h => nomatch h⟩
  · exact propext ⟨fun _ => rfl, fun _ => rfl⟩
theorem fz_nb0 : fm_nb (nI 0) = nI 0 := by decide +kernel
theorem fz_nb1 : fm_nb (nI 1) = nI 1 := by decide +kernel
theorem fz_ui {α : Type} (f : Nat → Nat → α) (c i : Nat) (v : α) (d j : Nat) : fm_uI f c i v d j = if d = c ∧ j = i then v else f d j := rfl
theorem fz_ne {α : Type} (f : Nat → Nat → α) {c i : Nat} (v : α) {d : Nat} (h : d ≠ c) : fm_uI f c i v d = f d := funext fun j => if_neg fun z => h z.1
theorem fz_at {α : Type} (f : Nat → Nat → α) (c i : Nat) (v : α) (j : Nat) : fm_uI f c i v c j = if j = i then v else f c j := by
  show (if c = c ∧ j = i then v else f c j) = _
  by_cases h : j = i
  · rw [if_pos ⟨rfl, h⟩, if_pos h]
  · rw [if_neg (fun z => h z.2), if_neg h]
/-- all but these cells is as it was -/
def fx_F (cs : List Nat) (N N' : fm_N) : Prop := (∀ c, cs.contains c = false → N'.1 c = N.1 c) ∧ N'.2 = N.2
theorem fx_F.rf (cs : List Nat) (N : fm_N) : fx_F cs N N := ⟨fun _ _ => rfl, rfl⟩
theorem fx_F.tr {cs : List Nat} {N N' N'' : fm_N} (h : fx_F cs N N') (k : fx_F cs N' N'') : fx_F cs N N'' := ⟨fun c hc => (k.1 c hc).trans (h.1 c hc), k.2.trans h.2⟩
theorem fx_F.wk {cs ds : List Nat} {N N' : fm_N} (h : fx_F cs N N') (k : ∀ c, ds.contains c = false → cs.contains c = false) : fx_F ds N N' := ⟨fun c hc => h.1 c (k c hc), h.2⟩
theorem fx_F.up {cs : List Nat} {N N' : fm_N} (h : fx_F cs N N') {c i : Nat} {v : Int32} (hc : cs.contains c = true) : fx_F cs N (fm_uI N'.1 c i v, N'.2) := by
  refine ⟨fun d hd => ?_, h.2⟩
  have hne : d ≠ c := fun z => by rw [z, hc] at hd; cases hd
  show fm_uI N'.1 c i v d = N.1 d
  rw [fz_ne _ _ hne]
  exact h.1 d hd
