/-! who feeds whom: a net of nodes, cables and ties, without the machine -/
def fg_up {α : Type} (f : Nat → α) (i : Nat) (v : α) : Nat → α := fun j => if j = i then v else f j
theorem fg_up_eq {α : Type} (f : Nat → α) (i : Nat) (v : α) : fg_up f i v i = v := if_pos rfl
theorem fg_up_ne {α : Type} (f : Nat → α) {i j : Nat} (v : α) (h : j ≠ i) : fg_up f i v j = f j := if_neg h
/-- how many of the first m -/
def fg_cn (f : Nat → Bool) : Nat → Nat
  | 0 => 0
  | m + 1 => fg_cn f m + (if f m = true then 1 else 0)
theorem fg_cn_le (f : Nat → Bool) : ∀ m, fg_cn f m ≤ m := by
  intro m
  induction m with
  | zero => exact Nat.le_refl _
  | succ m ih => unfold fg_cn; split <;> omega
theorem fg_cn_congr {f g : Nat → Bool} : ∀ m, (∀ i, i < m → f i = g i) → fg_cn f m = fg_cn g m := by
  intro m
  induction m with
  | zero => intro _; rfl
  | succ m ih =>
    intro h
    unfold fg_cn
    rw [ih (fun i hi => h i (by omega)), h m (by omega)]
theorem fg_cn_up {f : Nat → Bool} {u : Nat} (hu : f u = false) : ∀ m, fg_cn (fg_up f u true) m = fg_cn f m + (if u < m then 1 else 0) := by
  intro m
  induction m with
  | zero => rfl
  | succ m ih =>
    unfold fg_cn
    rw [ih]
    by_cases h : m = u
    · subst h
      rw [fg_up_eq, hu, if_neg (Nat.lt_irrefl m), if_pos (Nat.lt_succ_self m)]
      simp
    · rw [fg_up_ne _ _ h]
      have e1 : (if u < m + 1 then 1 else 0 : Nat) = if u < m then 1 else 0 := by
        by_cases h2 : u < m
        · rw [if_pos h2, if_pos (by omega : u < m + 1)]
        · rw [if_neg h2, if_neg (by omega : ¬ u < m + 1)]
      rw [e1]
      omega
theorem fg_cn_lt {f : Nat → Bool} {u : Nat} (hu : f u = false) : ∀ m, u < m → fg_cn f m < m := by
  intro m hm
  have h1 := fg_cn_up hu m
  rw [if_pos hm] at h1
  have h2 := fg_cn_le (fg_up f u true) m
  omega
theorem fg_cn_all {f : Nat → Bool} {m : Nat} (h : fg_cn f m = m) (i : Nat) (hi : i < m) : f i = true := by
  cases hf : f i
  · have := fg_cn_lt hf m hi
    omega
  · rfl
theorem fg_cn_pos {f : Nat → Bool} : ∀ m, (∃ i, i < m ∧ f i = true) → 0 < fg_cn f m := by
  intro m
  induction m with
  | zero => rintro ⟨i, hi, _⟩; omega
  | succ m ih =>
    rintro ⟨i, hi, hf⟩
    unfold fg_cn
    by_cases h : i = m
    · subst h; rw [if_pos hf]; omega
    · have := ih ⟨i, by omega, hf⟩; omega
/-- a net: nodes, parents, whole cables, resistances; ties, their ends, their resistances -/
abbrev fg_G : Type := Nat × (Nat → Nat) × (Nat → Bool) × (Nat → Int32) × Nat × (Nat → Nat) × (Nat → Nat) × (Nat → Int32)
abbrev fg_n (G : fg_G) : Nat := G.1
abbrev fg_p (G : fg_G) : Nat → Nat := G.2.1
abbrev fg_w (G : fg_G) : Nat → Bool := G.2.2.1
abbrev fg_r (G : fg_G) : Nat → Int32 := G.2.2.2.1
abbrev fg_t (G : fg_G) : Nat := G.2.2.2.2.1
abbrev fg_a (G : fg_G) : Nat → Nat := G.2.2.2.2.2.1
abbrev fg_b (G : fg_G) : Nat → Nat := G.2.2.2.2.2.2.1
abbrev fg_x (G : fg_G) : Nat → Int32 := G.2.2.2.2.2.2.2
/-- who is fed, by which node, over which cable (0: a tie), its resistance; the closed ties; the marks: nodes above an entry, entries -/
abbrev fg_A : Type := (Nat → Bool) × (Nat → Nat) × (Nat → Nat) × (Nat → Int32) × (Nat → Bool) × (Nat → Prop) × (Nat → Prop)
abbrev fg_F (A : fg_A) : Nat → Bool := A.1
abbrev fg_D (A : fg_A) : Nat → Nat := A.2.1
abbrev fg_C (A : fg_A) : Nat → Nat := A.2.2.1
abbrev fg_S (A : fg_A) : Nat → Int32 := A.2.2.2.1
abbrev fg_K (A : fg_A) : Nat → Bool := A.2.2.2.2.1
abbrev fg_U (A : fg_A) : Nat → Prop := A.2.2.2.2.2.1
abbrev fg_E (A : fg_A) : Nat → Prop := A.2.2.2.2.2.2
def fg_ok (G : fg_G) : Prop := 1 ≤ fg_n G ∧ (∀ c, 1 ≤ c → c < fg_n G → fg_p G c < c) ∧ ∀ q, q < fg_t G → fg_a G q < fg_n G ∧ fg_b G q < fg_n G ∧ fg_a G q ≠ fg_b G q
/-- a whole cable -/
def fg_cb (G : fg_G) (c : Nat) : Prop := 1 ≤ c ∧ c < fg_n G ∧ fg_w G c = true
/-- what holds while cables are taken one by one -/
def fg_I (G : fg_G) (A : fg_A) : Prop :=
  (∀ c, fg_cb G c → fg_U A c → fg_U A (fg_p G c)) ∧
  (∀ c d, fg_cb G c → fg_cb G d → fg_U A c → fg_U A d → fg_p G c = fg_p G d → c = d) ∧
  (∀ e c, fg_E A e → fg_cb G c → fg_U A c → fg_p G c ≠ e) ∧
  (∀ e, fg_E A e → fg_cb G e → fg_U A e) ∧
  (∀ e, fg_E A e → fg_F A e = true) ∧
  (∀ c, fg_cb G c → fg_U A c → fg_F A (fg_p G c) = true → fg_F A c = true ∧ fg_D A (fg_p G c) = c ∧ fg_C A (fg_p G c) = c ∧ fg_S A (fg_p G c) = fg_r G c) ∧
  (∀ c, fg_cb G c → ¬ fg_U A c → fg_F A c = true → fg_F A (fg_p G c) = true ∧ fg_D A c = fg_p G c ∧ fg_C A c = c ∧ fg_S A c = fg_r G c) ∧
  (∀ u, fg_F A u = true → fg_E A u ∨ (∃ c, fg_cb G c ∧ fg_U A c ∧ fg_p G c = u) ∨ (fg_cb G u ∧ ¬ fg_U A u)) ∧
  (∀ u, fg_F A u = true → u < fg_n G)
def fg_feed (A : fg_A) (u f c : Nat) (r : Int32) : fg_A := (fg_up (fg_F A) u true, fg_up (fg_D A) u f, fg_up (fg_C A) u c, fg_up (fg_S A) u r, fg_K A, fg_U A, fg_E A)
theorem fg_step1 {G : fg_G} {A : fg_A} (ok : fg_ok G) (h : fg_I G A) {c : Nat} (hc : fg_cb G c) (hp : fg_F A (fg_p G c) = true) (hu : fg_F A c = false) : fg_I G (fg_feed A c (fg_p G c) c (fg_r G c)) := by
  obtain ⟨u1, u2, u3, u4, e1, ha, hb, hcc, hn⟩ := h
  have hpc : fg_p G c < c := ok.2.1 c hc.1 hc.2.1
  have hU : ¬ fg_U A c := fun z => by rw [(ha c hc z hp).1] at hu; cases hu
  refine ⟨u1, u2, u3, u4, fun e he => ?_, fun d hd hUd hf => ?_, fun d hd hUd hf => ?_, fun u hf => ?_, fun u hf => ?_⟩
  · show fg_up (fg_F A) c true e = true
    by_cases z : e = c
    · rw [z, fg_up_eq]
    · rw [fg_up_ne _ _ z]; exact e1 e he
  · have hne : fg_p G d ≠ c := fun z => hU (by rw [← z]; exact u1 d hd hUd)
    have hf' : fg_F A (fg_p G d) = true := by
      have hz : fg_up (fg_F A) c true (fg_p G d) = true := hf
      rw [fg_up_ne _ _ hne] at hz; exact hz
    obtain ⟨k1, k2, k3, k4⟩ := ha d hd hUd hf'
    have hdc : d ≠ c := fun z => hU (z ▸ hUd)
    exact ⟨(fg_up_ne _ _ hdc).trans k1, (fg_up_ne _ _ hne).trans k2, (fg_up_ne _ _ hne).trans k3, (fg_up_ne _ _ hne).trans k4⟩
  · by_cases z : d = c
    · subst z
      exact ⟨(fg_up_ne _ _ (by omega)).trans hp, fg_up_eq _ _ _, fg_up_eq _ _ _, fg_up_eq _ _ _⟩
    · have hf' : fg_F A d = true := by
        have hz : fg_up (fg_F A) c true d = true := hf
        rw [fg_up_ne _ _ z] at hz; exact hz
      obtain ⟨k1, k2, k3, k4⟩ := hb d hd hUd hf'
      refine ⟨?_, (fg_up_ne _ _ z).trans k2, (fg_up_ne _ _ z).trans k3, (fg_up_ne _ _ z).trans k4⟩
      show fg_up (fg_F A) c true (fg_p G d) = true
      by_cases z2 : fg_p G d = c
      · rw [z2, fg_up_eq]
      · rw [fg_up_ne _ _ z2]; exact k1
  · by_cases z : u = c
    · subst z; exact Or.inr (Or.inr ⟨hc, hU⟩)
    · have hz : fg_up (fg_F A) c true u = true := hf
      rw [fg_up_ne _ _ z] at hz
      exact hcc u hz
  · by_cases z : u = c
    · subst z; exact hc.2.1
    · have hz : fg_up (fg_F A) c true u = true := hf
      rw [fg_up_ne _ _ z] at hz
      exact hn u hz
theorem fg_step2 {G : fg_G} {A : fg_A} (ok : fg_ok G) (h : fg_I G A) {c : Nat} (hc : fg_cb G c) (hp : fg_F A (fg_p G c) = false) (hu : fg_F A c = true) : fg_I G (fg_feed A (fg_p G c) c c (fg_r G c)) := by
  obtain ⟨u1, u2, u3, u4, e1, ha, hb, hcc, hn⟩ := h
  have hpc : fg_p G c < c := ok.2.1 c hc.1 hc.2.1
  have hU : fg_U A c := Classical.byContradiction fun z => by rw [(hb c hc z hu).1] at hp; cases hp
  refine ⟨u1, u2, u3, u4, fun e he => ?_, fun d hd hUd hf => ?_, fun d hd hUd hf => ?_, fun u hf => ?_, fun u hf => ?_⟩
  · show fg_up (fg_F A) (fg_p G c) true e = true
    by_cases z : e = fg_p G c
    · rw [z, fg_up_eq]
    · rw [fg_up_ne _ _ z]; exact e1 e he
  · by_cases z : fg_p G d = fg_p G c
    · have hdc : d = c := u2 d c hd hc hUd hU z
      subst hdc
      exact ⟨(fg_up_ne _ _ (by omega)).trans hu, fg_up_eq _ _ _, fg_up_eq _ _ _, fg_up_eq _ _ _⟩
    · have hf' : fg_F A (fg_p G d) = true := by
        have hz : fg_up (fg_F A) (fg_p G c) true (fg_p G d) = true := hf
        rw [fg_up_ne _ _ z] at hz; exact hz
      obtain ⟨k1, k2, k3, k4⟩ := ha d hd hUd hf'
      refine ⟨?_, (fg_up_ne _ _ z).trans k2, (fg_up_ne _ _ z).trans k3, (fg_up_ne _ _ z).trans k4⟩
      show fg_up (fg_F A) (fg_p G c) true d = true
      by_cases z2 : d = fg_p G c
      · rw [z2, fg_up_eq]
      · rw [fg_up_ne _ _ z2]; exact k1
  · have hne : d ≠ fg_p G c := fun z => hUd (z ▸ u1 c hc hU)
    have hf' : fg_F A d = true := by
      have hz : fg_up (fg_F A) (fg_p G c) true d = true := hf
      rw [fg_up_ne _ _ hne] at hz; exact hz
    obtain ⟨k1, k2, k3, k4⟩ := hb d hd hUd hf'
    refine ⟨?_, (fg_up_ne _ _ hne).trans k2, (fg_up_ne _ _ hne).trans k3, (fg_up_ne _ _ hne).trans k4⟩
    show fg_up (fg_F A) (fg_p G c) true (fg_p G d) = true
    by_cases z2 : fg_p G d = fg_p G c
    · rw [z2, fg_up_eq]
    · rw [fg_up_ne _ _ z2]; exact k1
  · by_cases z : u = fg_p G c
    · exact Or.inr (Or.inl ⟨c, hc, hU, z.symm⟩)
    · have hz : fg_up (fg_F A) (fg_p G c) true u = true := hf
      rw [fg_up_ne _ _ z] at hz
      exact hcc u hz
  · by_cases z : u = fg_p G c
    · rw [z]; exact Nat.lt_trans hpc hc.2.1
    · have hz : fg_up (fg_F A) (fg_p G c) true u = true := hf
      rw [fg_up_ne _ _ z] at hz
      exact hn u hz
/-- nothing more to take -/
def fg_cl (G : fg_G) (A : fg_A) : Prop := ∀ c, fg_cb G c → fg_F A c = fg_F A (fg_p G c)
/-- A comes out of A0 by cables taken -/
def fg_Sq (G : fg_G) (A0 A : fg_A) : Prop := fg_I G A ∧ fg_U A = fg_U A0 ∧ fg_E A = fg_E A0 ∧ fg_K A = fg_K A0 ∧
  (∀ u, fg_F A0 u = true → fg_F A u = true ∧ fg_D A u = fg_D A0 u ∧ fg_C A u = fg_C A0 u ∧ fg_S A u = fg_S A0 u) ∧
  (∀ Z : Nat → Prop, (∀ c, fg_cb G c → (Z c ↔ Z (fg_p G c))) → (∀ u, fg_F A0 u = true → Z u) → ∀ u, fg_F A u = true → Z u)
theorem fg_Sq.rf {G : fg_G} {A : fg_A} (h : fg_I G A) : fg_Sq G A A := ⟨h, rfl, rfl, rfl, fun _ hu => ⟨hu, rfl, rfl, rfl⟩, fun _ _ h0 u hu => h0 u hu⟩
theorem fg_Sq.ext {G : fg_G} {A0 A : fg_A} (h : fg_Sq G A0 A) {u f c : Nat} {r : Int32} (hI : fg_I G (fg_feed A u f c r)) (hu : fg_F A u = false) (hZ : ∀ Z : Nat → Prop, (∀ c, fg_cb G c → (Z c ↔ Z (fg_p G c))) → (∀ u, fg_F A u = true → Z u) → Z u) : fg_Sq G A0 (fg_feed A u f c r) := by
  obtain ⟨_, h2, h3, h4, h5, h6⟩ := h
  refine ⟨hI, h2, h3, h4, fun v hv => ?_, fun Z hZc h0 v hv => ?_⟩
  · obtain ⟨k1, k2, k3, k4⟩ := h5 v hv
    have hne : v ≠ u := fun z => by rw [z, hu] at k1; cases k1
    exact ⟨(fg_up_ne _ _ hne).trans k1, (fg_up_ne _ _ hne).trans k2, (fg_up_ne _ _ hne).trans k3, (fg_up_ne _ _ hne).trans k4⟩
  · by_cases z : v = u
    · rw [z]; exact hZ Z hZc (h6 Z hZc h0)
    · have hz : fg_up (fg_F A) u true v = true := hv
      rw [fg_up_ne _ _ z] at hz
      exact h6 Z hZc h0 v hz
theorem fg_Sq.s1 {G : fg_G} {A0 A : fg_A} (ok : fg_ok G) (h : fg_Sq G A0 A) {c : Nat} (hc : fg_cb G c) (hp : fg_F A (fg_p G c) = true) (hu : fg_F A c = false) : fg_Sq G A0 (fg_feed A c (fg_p G c) c (fg_r G c)) :=
  h.ext (fg_step1 ok h.1 hc hp hu) hu fun _ hZ h0 => (hZ c hc).mpr (h0 _ hp)
theorem fg_Sq.s2 {G : fg_G} {A0 A : fg_A} (ok : fg_ok G) (h : fg_Sq G A0 A) {c : Nat} (hc : fg_cb G c) (hp : fg_F A (fg_p G c) = false) (hu : fg_F A c = true) : fg_Sq G A0 (fg_feed A (fg_p G c) c c (fg_r G c)) :=
  h.ext (fg_step2 ok h.1 hc hp hu) hp fun _ hZ h0 => (hZ c hc).mp (h0 _ hu)
/-- alike: the same are fed, and these alike -/
def fg_eq (A B : fg_A) : Prop := (∀ u, fg_F A u = fg_F B u) ∧ fg_U A = fg_U B ∧ fg_E A = fg_E B ∧ fg_K A = fg_K B ∧ ∀ u, fg_F A u = true → fg_D A u = fg_D B u ∧ fg_C A u = fg_C B u ∧ fg_S A u = fg_S B u
theorem fg_uniq {G : fg_G} {A0 B0 A B : fg_A} (hI : fg_I G A0) (h0 : fg_eq A0 B0) (hA : fg_Sq G A0 A) (cA : fg_cl G A) (hB : fg_Sq G B0 B) (cB : fg_cl G B) : fg_eq A B := by
  obtain ⟨a1, a2, a3, a4, a5, a6⟩ := hA
  obtain ⟨b1, b2, b3, b4, b5, b6⟩ := hB
  obtain ⟨z1, z2, z3, z4, z5⟩ := h0
  have hAB : ∀ u, fg_F A u = true → fg_F B u = true := a6 (fun u => fg_F B u = true) (fun c hc => by show _ = true ↔ _ = true; rw [cB c hc]) (fun u hu => (b5 u (by rw [← z1]; exact hu)).1)
  have hBA : ∀ u, fg_F B u = true → fg_F A u = true := b6 (fun u => fg_F A u = true) (fun c hc => by show _ = true ↔ _ = true; rw [cA c hc]) (fun u hu => (a5 u (by rw [z1]; exact hu)).1)
  have hU : fg_U A = fg_U B := by rw [a2, b2, z2]
  have hE : fg_E A = fg_E B := by rw [a3, b3, z3]
  refine ⟨fun u => ?_, hU, hE, by rw [a4, b4, z4], fun u hu => ?_⟩
  · cases hA9 : fg_F A u <;> cases hB9 : fg_F B u
    · rfl
    · rw [hBA u hB9] at hA9; cases hA9
    · rw [hAB u hA9] at hB9; cases hB9
    · rfl
  · have huB := hAB u hu
    rcases a1.2.2.2.2.2.2.2.1 u hu with he | ⟨c, hc, hUc, hpc⟩ | ⟨hc, hUc⟩
    · have h00 : fg_F A0 u = true := hI.2.2.2.2.1 u (by rw [← a3]; exact he)
      obtain ⟨_, k2, k3, k4⟩ := a5 u h00
      obtain ⟨_, l2, l3, l4⟩ := b5 u (by rw [← z1]; exact h00)
      obtain ⟨m2, m3, m4⟩ := z5 u h00
      exact ⟨by rw [k2, l2, m2], by rw [k3, l3, m3], by rw [k4, l4, m4]⟩
    · subst hpc
      obtain ⟨_, k2, k3, k4⟩ := a1.2.2.2.2.2.1 c hc hUc hu
      obtain ⟨_, l2, l3, l4⟩ := b1.2.2.2.2.2.1 c hc (hU ▸ hUc) huB
      exact ⟨by rw [k2, l2], by rw [k3, l3], by rw [k4, l4]⟩
    · obtain ⟨_, k2, k3, k4⟩ := a1.2.2.2.2.2.2.1 u hc hUc hu
      obtain ⟨_, l2, l3, l4⟩ := b1.2.2.2.2.2.2.1 u hc (hU ▸ hUc) huB
      exact ⟨by rw [k2, l2], by rw [k3, l3], by rw [k4, l4]⟩
/-- the way up from a node over whole cables -/
def fg_it (G : fg_G) : Nat → Nat → Nat → Prop
  | 0, y, c => c = y
  | k + 1, y, c => fg_cb G y ∧ fg_it G k (fg_p G y) c
def fg_ch (G : fg_G) (y c : Nat) : Prop := ∃ k, fg_it G k y c
theorem fg_it_snoc {G : fg_G} : ∀ k y c, fg_it G k y c → fg_cb G c → fg_it G (k + 1) y (fg_p G c) := by
  intro k
  induction k with
  | zero => intro y c h hc; have h : c = y := h; subst h; exact ⟨hc, rfl⟩
  | succ k ih => intro y c h hc; exact ⟨h.1, ih _ _ h.2 hc⟩
theorem fg_it_le {G : fg_G} (ok : fg_ok G) : ∀ k y c, fg_it G k y c → c ≤ y := by
  intro k
  induction k with
  | zero => intro y c h; have h : c = y := h; omega
  | succ k ih =>
    intro y c h
    have h1 := ih _ _ h.2
    have h2 := ok.2.1 y h.1.1 h.1.2.1
    omega
theorem fg_it_two {G : fg_G} (ok : fg_ok G) : ∀ k j y c d, fg_it G k y c → fg_it G j y d → fg_cb G c → fg_cb G d → fg_p G c = fg_p G d → c = d := by
  intro k
  induction k with
  | zero =>
    intro j y c d h h' hc hd he
    have h : c = y := h
    subst h
    cases j with
    | zero => exact (show d = c from h').symm
    | succ j =>
      have h1 := fg_it_le ok _ _ _ h'.2
      have h2 := ok.2.1 d hd.1 hd.2.1
      omega
  | succ k ih =>
    intro j y c d h h' hc hd he
    cases j with
    | zero =>
      have h' : d = y := h'
      subst h'
      have h1 := fg_it_le ok _ _ _ h.2
      have h2 := ok.2.1 c hc.1 hc.2.1
      omega
    | succ j => exact ih j _ c d h.2 h'.2 hc hd he
theorem fg_it_Z {G : fg_G} {Z : Nat → Prop} (hZ : ∀ c, fg_cb G c → (Z c ↔ Z (fg_p G c))) : ∀ k y c, fg_it G k y c → (Z y ↔ Z c) := by
  intro k
  induction k with
  | zero => intro y c h; have h : c = y := h; rw [h]
  | succ k ih => intro y c h; exact (hZ y h.1).trans (ih _ _ h.2)
theorem fg_cl_Z {G : fg_G} {A : fg_A} (h : fg_cl G A) {y c : Nat} (hc : fg_ch G y c) : fg_F A y = fg_F A c := by
  obtain ⟨k, hk⟩ := hc
  have := fg_it_Z (Z := fun u => fg_F A u = true) (fun c hc => by show _ = true ↔ _ = true; rw [h c hc]) k y c hk
  exact Bool.eq_iff_iff.mpr this
/-- the ties -/
def fg_df (G : fg_G) (A : fg_A) (q : Nat) : Prop := fg_F A (fg_a G q) ≠ fg_F A (fg_b G q)
def fg_fi (G : fg_G) (A : fg_A) (q : Nat) : Prop := q < fg_t G ∧ fg_df G A q ∧ ∀ r, r < q → ¬ fg_df G A r
def fg_nt (G : fg_G) (A : fg_A) : Prop := ∀ q, q < fg_t G → ¬ fg_df G A q
def fg_y (G : fg_G) (A : fg_A) (q : Nat) : Nat := if fg_F A (fg_a G q) = true then fg_b G q else fg_a G q
def fg_z (G : fg_G) (A : fg_A) (q : Nat) : Nat := if fg_F A (fg_a G q) = true then fg_a G q else fg_b G q
def fg_close (G : fg_G) (A : fg_A) (q : Nat) : fg_A := (fg_up (fg_F A) (fg_y G A q) true, fg_up (fg_D A) (fg_y G A q) (fg_z G A q), fg_up (fg_C A) (fg_y G A q) 0, fg_up (fg_S A) (fg_y G A q) (fg_x G q), fg_up (fg_K A) q true, fun c => fg_U A c ∨ fg_ch G (fg_y G A q) c, fun e => fg_E A e ∨ e = fg_y G A q)
theorem fg_y_un {G : fg_G} {A : fg_A} {q : Nat} (h : fg_df G A q) : fg_F A (fg_y G A q) = false ∧ fg_F A (fg_z G A q) = true := by
  unfold fg_df at h
  unfold fg_y fg_z
  cases ha : fg_F A (fg_a G q) <;> cases hb : fg_F A (fg_b G q) <;> simp_all
theorem fg_y_lt {G : fg_G} {A : fg_A} {q : Nat} (ok : fg_ok G) (h : q < fg_t G) : fg_y G A q < fg_n G ∧ fg_z G A q < fg_n G := by
  obtain ⟨h1, h2, h3⟩ := ok.2.2 q h
  unfold fg_y fg_z
  split <;> exact ⟨by assumption, by assumption⟩
/-- a full state -/
def fg_Fu (G : fg_G) (A : fg_A) : Prop := fg_I G A ∧ fg_cl G A ∧ ∀ u, fg_U A u → fg_F A u = true
theorem fg_close_I {G : fg_G} {A : fg_A} {q : Nat} (ok : fg_ok G) (h : fg_Fu G A) (hq : fg_fi G A q) : fg_I G (fg_close G A q) := by
  obtain ⟨⟨u1, u2, u3, u4, e1, ha, hb, hcc, hn⟩, hcl, hd⟩ := h
  obtain ⟨hy, hz⟩ := fg_y_un hq.2.1
  have hyn := (fg_y_lt (A := A) ok hq.1).1
  have hun : ∀ c, fg_ch G (fg_y G A q) c → fg_F A c = false := fun c hc => by rw [← fg_cl_Z hcl hc]; exact hy
  have hsn : ∀ c, fg_ch G (fg_y G A q) c → fg_cb G c → fg_ch G (fg_y G A q) (fg_p G c) := fun c ⟨k, hk⟩ hc => ⟨k + 1, fg_it_snoc k _ _ hk hc⟩
  have hle : ∀ c, fg_ch G (fg_y G A q) c → c ≤ fg_y G A q := fun c ⟨k, hk⟩ => fg_it_le ok k _ _ hk
  generalize hY : fg_y G A q = y at *
  have key : ∀ c, fg_cb G c → fg_U A c → fg_p G c ≠ y := fun c hc hUc z => by
    have h1 := hd c hUc
    rw [hcl c hc, z, hy] at h1
    cases h1
  unfold fg_close
  rw [hY]
  refine ⟨fun c hc hU => ?_, fun c d hc hd' hU hV he => ?_, fun e c hE hc hU => ?_, fun e hE hc => ?_, fun e hE => ?_, fun c hc hU hf => ?_, fun c hc hU hf => ?_, fun u hf => ?_, fun u hf => ?_⟩
  · rcases hU with hU | hU
    · exact Or.inl (u1 c hc hU)
    · exact Or.inr (hsn c hU hc)
  · rcases hU with hU | hU <;> rcases hV with hV | hV
    · exact u2 c d hc hd' hU hV he
    · exfalso
      have h1 := hd c hU
      rw [hcl c hc, he, hun _ (hsn d hV hd')] at h1
      cases h1
    · exfalso
      have h1 := hd d hV
      rw [hcl d hd', ← he, hun _ (hsn c hU hc)] at h1
      cases h1
    · obtain ⟨k, hk⟩ := hU
      obtain ⟨j, hj⟩ := hV
      exact fg_it_two ok k j y c d hk hj hc hd' he
  · rcases hE with hE | hE <;> rcases hU with hU | hU
    · exact u3 e c hE hc hU
    · intro z
      have h1 := e1 e hE
      rw [← z, hun _ (hsn c hU hc)] at h1
      cases h1
    · rw [hE]; exact key c hc hU
    · have h1 := hle c hU
      have h2 := ok.2.1 c hc.1 hc.2.1
      rw [hE]
      omega
  · rcases hE with hE | hE
    · exact Or.inl (u4 e hE hc)
    · exact Or.inr ⟨0, hE⟩
  · show fg_up (fg_F A) y true e = true
    rcases hE with hE | hE
    · by_cases z : e = y
      · rw [z, fg_up_eq]
      · rw [fg_up_ne _ _ z]; exact e1 e hE
    · rw [hE, fg_up_eq]
  · rcases hU with hU | hU
    · have hne := key c hc hU
      have hf' : fg_F A (fg_p G c) = true := by
        have h9 : fg_up (fg_F A) y true (fg_p G c) = true := hf
        rw [fg_up_ne _ _ hne] at h9; exact h9
      obtain ⟨k1, k2, k3, k4⟩ := ha c hc hU hf'
      refine ⟨?_, (fg_up_ne _ _ hne).trans k2, (fg_up_ne _ _ hne).trans k3, (fg_up_ne _ _ hne).trans k4⟩
      show fg_up (fg_F A) y true c = true
      by_cases z : c = y
      · rw [z, fg_up_eq]
      · rw [fg_up_ne _ _ z]; exact k1
    · exfalso
      have h1 := hle c hU
      have h2 := ok.2.1 c hc.1 hc.2.1
      have h9 : fg_up (fg_F A) y true (fg_p G c) = true := hf
      rw [fg_up_ne _ _ (by omega), hun _ (hsn c hU hc)] at h9
      cases h9
  · have hne : c ≠ y := fun z => hU (Or.inr ⟨0, z⟩)
    have hf' : fg_F A c = true := by
      have h9 : fg_up (fg_F A) y true c = true := hf
      rw [fg_up_ne _ _ hne] at h9; exact h9
    obtain ⟨k1, k2, k3, k4⟩ := hb c hc (fun z => hU (Or.inl z)) hf'
    refine ⟨?_, (fg_up_ne _ _ hne).trans k2, (fg_up_ne _ _ hne).trans k3, (fg_up_ne _ _ hne).trans k4⟩
    show fg_up (fg_F A) y true (fg_p G c) = true
    by_cases z : fg_p G c = y
    · rw [z, fg_up_eq]
    · rw [fg_up_ne _ _ z]; exact k1
  · by_cases z : u = y
    · exact Or.inl (Or.inr z)
    · have h9 : fg_up (fg_F A) y true u = true := hf
      rw [fg_up_ne _ _ z] at h9
      rcases hcc u h9 with h1 | ⟨c, h1, h2, h3⟩ | ⟨h1, h2⟩
      · exact Or.inl (Or.inl h1)
      · exact Or.inr (Or.inl ⟨c, h1, Or.inl h2, h3⟩)
      · refine Or.inr (Or.inr ⟨h1, fun h3 => ?_⟩)
        rcases h3 with h3 | h3
        · exact h2 h3
        · rw [hun u h3] at h9; cases h9
  · by_cases z : u = y
    · rw [z]; exact hyn
    · have h9 : fg_up (fg_F A) y true u = true := hf
      rw [fg_up_ne _ _ z] at h9
      exact hn u h9
def fg_init : fg_A := (fun u => decide (u = 0), fun _ => 0, fun _ => 0, fun _ => 0, fun _ => false, fun _ => False, fun e => e = 0)
theorem fg_init_I {G : fg_G} (ok : fg_ok G) : fg_I G fg_init := by
  refine ⟨fun c _ h => h.elim, fun c d _ _ h => h.elim, fun e c _ _ h => h.elim, fun e he hc => ?_, fun e he => decide_eq_true he, fun c _ h => h.elim, fun c hc _ hf => ?_, fun u hf => Or.inl (show u = 0 from of_decide_eq_true hf), fun u hf => ?_⟩
  · have he : e = 0 := he
    subst he
    have := hc.1
    omega
  · have h0 : c = 0 := of_decide_eq_true hf
    subst h0
    have := hc.1
    omega
  · have h0 : u = 0 := of_decide_eq_true hf
    have := ok.1
    omega
/-- after k closings -/
def fg_Re (G : fg_G) : Nat → fg_A → Prop
  | 0, A => fg_Sq G fg_init A ∧ fg_cl G A
  | k + 1, A => ∃ A0 q, fg_Re G k A0 ∧ fg_fi G A0 q ∧ fg_Sq G (fg_close G A0 q) A ∧ fg_cl G A
theorem fg_Re_Fu {G : fg_G} (ok : fg_ok G) : ∀ k A, fg_Re G k A → fg_Fu G A ∧ fg_F A 0 = true ∧ (∀ q, fg_K A q = true → q < fg_t G ∧ fg_F A (fg_a G q) = true ∧ fg_F A (fg_b G q) = true) ∧ fg_cn (fg_K A) (fg_t G) = k := by
  intro k
  induction k with
  | zero =>
    intro A h
    obtain ⟨⟨h1, h2, h3, h4, h5, h6⟩, hc⟩ := h
    refine ⟨⟨h1, hc, fun u hu => ?_⟩, (h5 0 rfl).1, fun q hq => ?_, ?_⟩
    · rw [h2] at hu; exact hu.elim
    · rw [h4] at hq; cases hq
    · rw [h4]
      have : ∀ m, fg_cn (fg_K fg_init) m = 0 := by
        intro m
        induction m with
        | zero => rfl
        | succ m ih => unfold fg_cn; rw [ih]; rfl
      exact this _
  | succ k ih =>
    intro A h
    obtain ⟨A0, q, h0, hq, ⟨h1, h2, h3, h4, h5, h6⟩, hc⟩ := h
    obtain ⟨⟨g1, g2, g3⟩, g4, g5, g6⟩ := ih A0 h0
    have hy := fg_y_un hq.2.1
    have hold : ∀ u, fg_F A0 u = true → fg_F A u = true := fun u hu => by
      refine (h5 u ?_).1
      show fg_up (fg_F A0) (fg_y G A0 q) true u = true
      unfold fg_up
      split
      · rfl
      · exact hu
    have hnew : fg_F A (fg_y G A0 q) = true := (h5 _ (fg_up_eq _ _ _)).1
    have hKq : fg_K A0 q = false := by
      cases hk : fg_K A0 q
      · rfl
      · obtain ⟨_, k1, k2⟩ := g5 q hk
        exact absurd (k1.trans k2.symm) hq.2.1
    refine ⟨⟨h1, hc, fun u hu => ?_⟩, hold 0 g4, fun r hr => ?_, ?_⟩
    · rw [h2] at hu
      rcases hu with hu | hu
      · exact hold u (g3 u hu)
      · rw [← fg_cl_Z hc hu]; exact hnew
    · rw [h4] at hr
      have hr' : fg_up (fg_K A0) q true r = true := hr
      by_cases z : r = q
      · subst z
        refine ⟨hq.1, ?_⟩
        unfold fg_y at hnew
        have hz := hold _ hy.2
        unfold fg_z at hz
        split at hnew
        · rename_i h9; rw [if_pos h9] at hz; exact ⟨hz, hnew⟩
        · rename_i h9; rw [if_neg h9] at hz; exact ⟨hnew, hz⟩
      · rw [fg_up_ne _ _ z] at hr'
        obtain ⟨k0, k1, k2⟩ := g5 r hr'
        exact ⟨k0, hold _ k1, hold _ k2⟩
    · rw [h4]
      show fg_cn (fg_up (fg_K A0) q true) (fg_t G) = k + 1
      rw [fg_cn_up hKq, g6, if_pos hq.1]
theorem fg_eq_df {G : fg_G} {A B : fg_A} (h : fg_eq A B) (q : Nat) : fg_df G A q ↔ fg_df G B q := by
  unfold fg_df
  rw [h.1, h.1]
theorem fg_eq_fi {G : fg_G} {A B : fg_A} (h : fg_eq A B) {q r : Nat} (hA : fg_fi G A q) (hB : fg_fi G B r) : q = r := by
  rcases Nat.lt_trichotomy q r with z | z | z
  · exact absurd ((fg_eq_df h q).mp hA.2.1) (hB.2.2 q z)
  · exact z
  · exact absurd ((fg_eq_df h r).mpr hB.2.1) (hA.2.2 r z)
theorem fg_eq_close {G : fg_G} {A B : fg_A} (h : fg_eq A B) (q : Nat) : fg_eq (fg_close G A q) (fg_close G B q) := by
  obtain ⟨h1, h2, h3, h4, h5⟩ := h
  have hy : fg_y G A q = fg_y G B q := by unfold fg_y; rw [h1]
  have hz : fg_z G A q = fg_z G B q := by unfold fg_z; rw [h1]
  unfold fg_close
  rw [hy, hz, h2, h3, h4]
  refine ⟨fun u => ?_, rfl, rfl, rfl, fun u hu => ?_⟩
  · show fg_up (fg_F A) _ true u = fg_up (fg_F B) _ true u
    unfold fg_up
    rw [h1]
  · show fg_up (fg_D A) _ _ u = fg_up (fg_D B) _ _ u ∧ fg_up (fg_C A) _ _ u = fg_up (fg_C B) _ _ u ∧ fg_up (fg_S A) _ _ u = fg_up (fg_S B) _ _ u
    have hu' : fg_up (fg_F A) (fg_y G B q) true u = true := hu
    by_cases z : u = fg_y G B q
    · rw [z, fg_up_eq, fg_up_eq, fg_up_eq, fg_up_eq, fg_up_eq, fg_up_eq]
      exact ⟨rfl, rfl, rfl⟩
    · rw [fg_up_ne _ _ z] at hu'
      obtain ⟨k1, k2, k3⟩ := h5 u hu'
      rw [fg_up_ne _ _ z, fg_up_ne _ _ z, fg_up_ne _ _ z, fg_up_ne _ _ z, fg_up_ne _ _ z, fg_up_ne _ _ z]
      exact ⟨k1, k2, k3⟩
theorem fg_eq.rf (A : fg_A) : fg_eq A A := ⟨fun _ => rfl, rfl, rfl, rfl, fun _ _ => ⟨rfl, rfl, rfl⟩⟩
theorem fg_Re_uniq {G : fg_G} (ok : fg_ok G) : ∀ k A B, fg_Re G k A → fg_Re G k B → fg_eq A B := by
  intro k
  induction k with
  | zero => intro A B hA hB; exact fg_uniq (fg_init_I ok) (fg_eq.rf _) hA.1 hA.2 hB.1 hB.2
  | succ k ih =>
    intro A B hA hB
    obtain ⟨A0, q, a1, a2, a3, a4⟩ := hA
    obtain ⟨B0, r, b1, b2, b3, b4⟩ := hB
    have h0 := ih A0 B0 a1 b1
    have hqr := fg_eq_fi h0 a2 b2
    subst hqr
    exact fg_uniq (fg_close_I ok (fg_Re_Fu ok k A0 a1).1 a2) (fg_eq_close h0 q) a3 a4 b3 b4
theorem fg_Re_below {G : fg_G} : ∀ j k B, fg_Re G (k + j + 1) B → ∃ B0 q, fg_Re G k B0 ∧ fg_fi G B0 q := by
  intro j
  induction j with
  | zero => intro k B h; obtain ⟨B0, q, h1, h2, _⟩ := h; exact ⟨B0, q, h1, h2⟩
  | succ j ih => intro k B h; obtain ⟨B0, q, h1, h2, _⟩ := h; exact ih k B0 h1
/-- what feeding gives -/
def fg_Fin (G : fg_G) (A : fg_A) : Prop := ∃ k, fg_Re G k A ∧ fg_nt G A
theorem fg_Fin_uniq {G : fg_G} (ok : fg_ok G) {A B : fg_A} (hA : fg_Fin G A) (hB : fg_Fin G B) : fg_eq A B := by
  obtain ⟨k, a1, a2⟩ := hA
  obtain ⟨j, b1, b2⟩ := hB
  rcases Nat.lt_trichotomy k j with z | z | z
  · exfalso
    obtain ⟨B0, q, h1, h2⟩ := fg_Re_below (j - k - 1) k B (by rw [show k + (j - k - 1) + 1 = j by omega]; exact b1)
    exact a2 q h2.1 ((fg_eq_df (fg_Re_uniq ok k A B0 a1 h1) q).mpr h2.2.1)
  · subst z; exact fg_Re_uniq ok k A B a1 b1
  · exfalso
    obtain ⟨B0, q, h1, h2⟩ := fg_Re_below (k - j - 1) j A (by rw [show j + (k - j - 1) + 1 = k by omega]; exact a1)
    exact b2 q h2.1 ((fg_eq_df (fg_Re_uniq ok j B B0 b1 h1) q).mpr h2.2.1)
theorem fg_Re_full {G : fg_G} (ok : fg_ok G) {A : fg_A} (h : fg_Re G (fg_t G) A) : fg_nt G A := by
  obtain ⟨_, _, h5, h6⟩ := fg_Re_Fu ok _ A h
  intro q hq hd
  obtain ⟨_, k1, k2⟩ := h5 q (fg_cn_all h6 q hq)
  exact hd (k1.trans k2.symm)
theorem fg_Re_lt {G : fg_G} (ok : fg_ok G) {k : Nat} {A : fg_A} (h : fg_Re G k A) {q : Nat} (hq : fg_fi G A q) : k < fg_t G := by
  obtain ⟨_, _, h5, h6⟩ := fg_Re_Fu ok _ A h
  have hK : fg_K A q = false := by
    cases hk : fg_K A q
    · rfl
    · obtain ⟨_, k1, k2⟩ := h5 q hk
      exact absurd (k1.trans k2.symm) hq.2.1
  have := fg_cn_lt hK (fg_t G) hq.1
  omega
