/-! sums, and what flows over the ways, without the machine -/
def fs_m (f : Nat → Int32) : Nat → Int32
  | 0 => 0
  | k + 1 => fs_m f k + f k
theorem fs_congr {f g : Nat → Int32} : ∀ m, (∀ i, i < m → f i = g i) → fs_m f m = fs_m g m := by
  intro m
  induction m with
  | zero => intro _; rfl
  | succ m ih =>
    intro h
    unfold fs_m
    rw [ih (fun i hi => h i (by omega)), h m (by omega)]
theorem fs_add {f g : Nat → Int32} : ∀ m, fs_m (fun i => f i + g i) m = fs_m f m + fs_m g m := by
  intro m
  induction m with
  | zero => rfl
  | succ m ih =>
    unfold fs_m
    rw [ih]
    ac_rfl
theorem fs_zero {f : Nat → Int32} : ∀ m, (∀ i, i < m → f i = 0) → fs_m f m = 0 := by
  intro m
  induction m with
  | zero => intro _; rfl
  | succ m ih =>
    intro h
    unfold fs_m
    rw [ih (fun i hi => h i (by omega)), h m (by omega)]
    rfl
theorem fs_one {f : Nat → Int32} {u : Nat} : ∀ m, u < m → (∀ i, i < m → i ≠ u → f i = 0) → fs_m f m = f u := by
  intro m
  induction m with
  | zero => intro h; omega
  | succ m ih =>
    intro h h0
    unfold fs_m
    by_cases z : u = m
    · subst z
      rw [fs_zero u (fun i hi => h0 i (by omega) (by omega)), Int32.zero_add]
    · rw [ih (by omega) (fun i hi hn => h0 i (by omega) hn), h0 m (by omega) (fun e => z e.symm), Int32.add_zero]
theorem fs_more {f : Nat → Int32} {n : Nat} : ∀ m, n ≤ m → (∀ i, n ≤ i → i < m → f i = 0) → fs_m f m = fs_m f n := by
  intro m
  induction m with
  | zero => intro h _; rw [Nat.le_zero.mp h]
  | succ m ih =>
    intro h h0
    by_cases z : n = m + 1
    · rw [z]
    · have e : fs_m f (m + 1) = fs_m f m + f m := rfl
      rw [e, h0 m (by omega) (by omega), Int32.add_zero]
      exact ih (by omega) (fun i h1 h2 => h0 i h1 (by omega))
/-- where the current of a node is when the places from the end on have handed theirs on: after j of them -/
def ft_k (o d : Nat → Nat) (fc : Nat) : Nat → Nat → Nat
  | 0, i => i
  | j + 1, i => if ft_k o d fc j i = o (fc - 1 - j) then d (o (fc - 1 - j)) else ft_k o d fc j i
def ft_T (o d : Nat → Nat) (fc p i : Nat) : Nat := ft_k o d fc (fc - p) i
theorem ft_T_top (o d : Nat → Nat) (fc i : Nat) : ft_T o d fc fc i = i := by
  unfold ft_T
  rw [Nat.sub_self]
  rfl
theorem ft_T_step (o d : Nat → Nat) {fc p : Nat} (i : Nat) (h : p < fc) : ft_T o d fc p i = if ft_T o d fc (p + 1) i = o p then d (o p) else ft_T o d fc (p + 1) i := by
  unfold ft_T
  rw [show fc - p = (fc - (p + 1)) + 1 by omega]
  show (if ft_k o d fc (fc - (p + 1)) i = o (fc - 1 - (fc - (p + 1))) then d (o (fc - 1 - (fc - (p + 1)))) else ft_k o d fc (fc - (p + 1)) i) = _
  rw [show fc - 1 - (fc - (p + 1)) = p by omega]
/-- a node's place -/
def ft_pl (o : Nat → Nat) : Nat → Nat → Nat
  | 0, _ => 0
  | m + 1, u => if o m = u then m else ft_pl o m u
/-- the nodes that are fed in an order in which each one's feeder comes before it -/
def ft_ok (F : Nat → Bool) (o d : Nat → Nat) (fc : Nat) : Prop := (1 ≤ fc ∧ fc ≤ 12 ∧ o 0 = 0) ∧ (∀ k, k < fc → F (o k) = true ∧ o k < 12) ∧ (∀ j k, j < k → k < fc → o j ≠ o k) ∧ (∀ u, F u = true → ∃ k, k < fc ∧ o k = u) ∧ (∀ k, 0 < k → k < fc → ∃ j, j < k ∧ o j = d (o k))
theorem ft_pl_at' {o : Nat → Nat} {k : Nat} : ∀ m, k < m → (∀ j, k < j → j < m → o j ≠ o k) → ft_pl o m (o k) = k := by
  intro m
  induction m with
  | zero => intro h; omega
  | succ m ih =>
    intro h h0
    unfold ft_pl
    by_cases z : k = m
    · subst z; rw [if_pos rfl]
    · rw [if_neg (h0 m (by omega) (by omega))]
      exact ih (by omega) (fun j h1 h2 => h0 j h1 (by omega))
section FTS
variable {F : Nat → Bool} {o d : Nat → Nat} {fc : Nat}
theorem ft_pl_at (ok : ft_ok F o d fc) {k : Nat} (hk : k < fc) : ft_pl o fc (o k) = k := ft_pl_at' fc hk fun j h1 h2 z => ok.2.2.1 k j h1 h2 z.symm
theorem ft_inj (ok : ft_ok F o d fc) {j k : Nat} (hj : j < fc) (hk : k < fc) (h : o j = o k) : j = k := by
  rcases Nat.lt_trichotomy j k with z | z | z
  · exact absurd h (ok.2.2.1 j k z hk)
  · exact z
  · exact absurd h.symm (ok.2.2.1 k j z hj)
theorem ft_T_in (ok : ft_ok F o d fc) {i : Nat} (hi : F i = true) : ∀ m p, fc - p = m → 1 ≤ p → p ≤ fc → ∃ q, q < p ∧ ft_T o d fc p i = o q := by
  intro m
  induction m with
  | zero =>
    intro p h1 h2 h3
    have e : p = fc := by omega
    subst e
    obtain ⟨k, hk, hok⟩ := ok.2.2.2.1 i hi
    exact ⟨k, hk, by rw [ft_T_top, hok]⟩
  | succ m ih =>
    intro p h1 h2 h3
    obtain ⟨q, hq, hT⟩ := ih (p + 1) (by omega) (by omega) (by omega)
    rw [ft_T_step o d i (by omega : p < fc), hT]
    by_cases z : o q = o p
    · rw [if_pos z]
      obtain ⟨j, hj, hoj⟩ := ok.2.2.2.2 p (by omega) (by omega)
      exact ⟨j, hj, hoj.symm⟩
    · rw [if_neg z]
      refine ⟨q, ?_, rfl⟩
      have : q ≠ p := fun e => z (by rw [e])
      omega
theorem ft_T_same (ok : ft_ok F o d fc) {i q p : Nat} (hp : p ≤ fc) (hT : ft_T o d fc p i = o q) : ∀ m r, p - r = m → q < r → r ≤ p → ft_T o d fc r i = o q := by
  intro m
  induction m with
  | zero => intro r h1 h2 h3; rw [show r = p by omega]; exact hT
  | succ m ih =>
    intro r h1 h2 h3
    rw [ft_T_step o d i (by omega : r < fc), ih (r + 1) (by omega) (by omega) (by omega), if_neg (ok.2.2.1 q r h2 (by omega))]
/-- what stands at x when the places from p on have handed theirs on -/
def ft_s (F : Nat → Bool) (o d : Nat → Nat) (fc : Nat) (net : Nat → Int32) (p x : Nat) : Int32 := fs_m (fun i => if F i = true ∧ ft_T o d fc p i = x then net i else 0) 12
/-- the flow of a node -/
def ft_f (F : Nat → Bool) (o d : Nat → Nat) (fc : Nat) (net : Nat → Int32) (u : Nat) : Int32 := ft_s F o d fc net (ft_pl o fc u + 1) u
theorem ft_s_top {net : Nat → Int32} {u : Nat} (hu : F u = true) (h12 : u < 12) : ft_s F o d fc net fc u = net u := by
  unfold ft_s
  rw [fs_one (u := u) 12 h12 (fun i _ hn => if_neg (fun z => hn (by rw [ft_T_top] at z; exact z.2)))]
  rw [if_pos ⟨hu, ft_T_top o d fc u⟩]
theorem ft_s_step {net : Nat → Int32} {p x : Nat} (hp : p < fc) (hx : x ≠ o p) : ft_s F o d fc net p x = ft_s F o d fc net (p + 1) x + (if x = d (o p) then ft_s F o d fc net (p + 1) (o p) else 0) := by
  unfold ft_s
  by_cases z : x = d (o p)
  · rw [if_pos z, ← fs_add]
    refine fs_congr 12 fun i _ => ?_
    rw [ft_T_step o d i hp]
    by_cases h1 : ft_T o d fc (p + 1) i = o p
    · rw [if_pos h1]
      by_cases hF : F i = true
      · rw [if_pos ⟨hF, z.symm⟩, if_neg (fun h => hx (by rw [← h.2]; exact h1)), if_pos ⟨hF, h1⟩, Int32.zero_add]
      · rw [if_neg (fun h => hF h.1), if_neg (fun h => hF h.1), if_neg (fun h => hF h.1)]
        rfl
    · rw [if_neg h1, if_neg (c := F i = true ∧ ft_T o d fc (p + 1) i = o p) (fun h => h1 h.2), Int32.add_zero]
  · rw [if_neg z, Int32.add_zero]
    refine fs_congr 12 fun i _ => ?_
    rw [ft_T_step o d i hp]
    by_cases h1 : ft_T o d fc (p + 1) i = o p
    · rw [if_pos h1, if_neg (fun h => z h.2.symm), if_neg (fun h => hx (by rw [← h.2]; exact h1))]
    · rw [if_neg h1]
/-- the class's way: amperes while places from p on have handed theirs on -/
def ft_c (F : Nat → Bool) (o d : Nat → Nat) (fc : Nat) (net : Nat → Int32) (p : Nat) (a : Nat → Int32) : Prop := ∀ k, k < fc → a (o k) = if k < p then ft_s F o d fc net p (o k) else ft_s F o d fc net (k + 1) (o k)
theorem ft_c_top (ok : ft_ok F o d fc) {net a : Nat → Int32} (h : ∀ u, F u = true → a u = net u) : ft_c F o d fc net fc a := by
  intro k hk
  obtain ⟨h1, h2⟩ := ok.2.1 k hk
  rw [if_pos hk, ft_s_top h1 h2, h _ h1]
theorem ft_c_step (ok : ft_ok F o d fc) {net a b : Nat → Int32} {p : Nat} (hp0 : 0 < p) (hp : p < fc) (h : ft_c F o d fc net (p + 1) a) (hb : ∀ u, b u = if u = d (o p) then a u + a (o p) else a u) : ft_c F o d fc net p b := by
  intro k hk
  obtain ⟨j, hj, hoj⟩ := ok.2.2.2.2 p hp0 hp
  have hpp := h p hp
  rw [if_pos (Nat.lt_succ_self p)] at hpp
  rw [hb]
  by_cases hkp : k < p
  · rw [if_pos hkp, ft_s_step hp (fun z => ok.2.2.1 k p hkp hp z)]
    have hkk := h k hk
    rw [if_pos (by omega)] at hkk
    by_cases z : o k = d (o p)
    · rw [if_pos z, if_pos z, hkk, hpp]
    · rw [if_neg z, if_neg z, hkk, Int32.add_zero]
  · rw [if_neg hkp]
    have hkk := h k hk
    have hne : o k ≠ d (o p) := fun z => by
      have := ft_inj ok hk (by omega : j < fc) (by rw [hoj]; exact z)
      omega
    rw [if_neg hne, hkk]
    by_cases z : k = p
    · subst z; rw [if_pos (Nat.lt_succ_self k)]
    · rw [if_neg (by omega)]
theorem ft_c_end (ok : ft_ok F o d fc) {net a : Nat → Int32} (h : ft_c F o d fc net 1 a) {k : Nat} (hk : k < fc) : a (o k) = ft_f F o d fc net (o k) := by
  unfold ft_f
  rw [h k hk, ft_pl_at ok hk]
  by_cases z : k < 1
  · rw [if_pos z, show k = 0 by omega]
  · rw [if_neg z]
/-- a node's current lies on the way of i -/
def ft_on (o d : Nat → Nat) (fc i u : Nat) : Prop := ft_T o d fc (ft_pl o fc u + 1) i = u
theorem ft_on_k (ok : ft_ok F o d fc) {i k : Nat} (hk : k < fc) : ft_on o d fc i (o k) ↔ ft_T o d fc (k + 1) i = o k := by
  unfold ft_on
  rw [ft_pl_at ok hk]
/-- climbing: at the node o q, reached at p; the nodes at places from p on are done -/
def ft_at (o d : Nat → Nat) (fc i p q : Nat) : Prop := q < p ∧ p ≤ fc ∧ ft_T o d fc p i = o q
theorem ft_at_start (ok : ft_ok F o d fc) {i : Nat} (hi : F i = true) : ∃ q, o q = i ∧ ft_at o d fc i fc q := by
  obtain ⟨k, hk, hok⟩ := ok.2.2.2.1 i hi
  exact ⟨k, hok, hk, Nat.le_refl _, by rw [ft_T_top, hok]⟩
theorem ft_at_next (ok : ft_ok F o d fc) {i p q : Nat} (h : ft_at o d fc i p q) (hq : 0 < q) : ∃ r, r < q ∧ o r = d (o q) ∧ ft_at o d fc i q r := by
  obtain ⟨h1, h2, h3⟩ := h
  obtain ⟨j, hj, hoj⟩ := ok.2.2.2.2 q hq (by omega)
  refine ⟨j, hj, hoj, hj, by omega, ?_⟩
  rw [ft_T_step o d i (by omega : q < fc), ft_T_same ok h2 h3 (p - (q + 1)) (q + 1) rfl (by omega) (by omega), if_pos rfl, hoj]
/-- of the nodes between the two, just the one at hand lies on the way -/
theorem ft_at_on (ok : ft_ok F o d fc) {i p q k : Nat} (h : ft_at o d fc i p q) (h1 : q ≤ k) (h2 : k < p) : ft_on o d fc i (o k) ↔ k = q := by
  obtain ⟨a1, a2, a3⟩ := h
  have hk : k < fc := by omega
  rw [ft_on_k ok hk, ft_T_same ok a2 a3 (p - (k + 1)) (k + 1) rfl (by omega) (by omega)]
  constructor
  · intro z; exact (ft_inj ok (by omega) hk z).symm
  · intro z; rw [z]
/-- voltages: m steps of fuel, from the node u -/
def ft_v (d : Nat → Nat) (base : Int32) (dr : Nat → Int32) : Nat → Nat → Int32
  | 0, _ => base
  | m + 1, u => if u = 0 then base else ft_v d base dr m (d u) - dr u
theorem ft_o0 (ok : ft_ok F o d fc) {k : Nat} (hk : k < fc) : o k = 0 ↔ k = 0 := by
  constructor
  · intro z; exact ft_inj ok hk (by omega) (by rw [z, ok.1.2.2])
  · intro z; rw [z]; exact ok.1.2.2
theorem ft_v_fuel (ok : ft_ok F o d fc) {base : Int32} {dr : Nat → Int32} : ∀ K k, k ≤ K → k < fc → ∀ m j, k ≤ m → k ≤ j → ft_v d base dr m (o k) = ft_v d base dr j (o k) := by
  intro K
  induction K with
  | zero =>
    intro k hK hk m j _ _
    have z : o k = 0 := (ft_o0 ok hk).mpr (by omega)
    rw [z]
    cases m <;> cases j <;> simp [ft_v]
  | succ K ih =>
    intro k hK hk m j hm hj
    by_cases h0 : k = 0
    · exact ih k (by omega) hk m j hm hj
    · cases m with
      | zero => omega
      | succ m =>
        cases j with
        | zero => omega
        | succ j =>
          have hne : o k ≠ 0 := fun z => h0 ((ft_o0 ok hk).mp z)
          unfold ft_v
          rw [if_neg hne, if_neg hne]
          obtain ⟨r, hr, hor⟩ := ok.2.2.2.2 k (by omega) hk
          rw [← hor, ih r (by omega) (by omega) m j (by omega) (by omega)]
theorem ft_v_0 (d : Nat → Nat) (base : Int32) (dr : Nat → Int32) (m : Nat) : ft_v d base dr m 0 = base := by
  cases m <;> simp [ft_v]
theorem ft_v_step (ok : ft_ok F o d fc) {base : Int32} {dr : Nat → Int32} {k : Nat} (h0 : 0 < k) (hk : k < fc) : ft_v d base dr 12 (o k) = ft_v d base dr 12 (d (o k)) - dr (o k) := by
  have hne : o k ≠ 0 := fun z => by have := (ft_o0 ok hk).mp z; omega
  have h12 := ok.1.2.1
  obtain ⟨r, hr, hor⟩ := ok.2.2.2.2 k h0 hk
  show (if o k = 0 then base else ft_v d base dr 11 (d (o k)) - dr (o k)) = _
  rw [if_neg hne, ← hor, ft_v_fuel ok r r (Nat.le_refl _) (by omega) 11 12 (by omega) (by omega)]
theorem ft_v_congr {base : Int32} {dr er : Nat → Int32} (ok : ft_ok F o d fc) (h : ∀ k, 0 < k → k < fc → dr (o k) = er (o k)) : ∀ m k, k < fc → ft_v d base dr m (o k) = ft_v d base er m (o k) := by
  intro m
  induction m with
  | zero => intro k _; rfl
  | succ m ih =>
    intro k hk
    unfold ft_v
    by_cases z : o k = 0
    · rw [if_pos z, if_pos z]
    · have h0 : k ≠ 0 := fun e => z ((ft_o0 ok hk).mpr e)
      rw [if_neg z, if_neg z]
      obtain ⟨r, hr, hor⟩ := ok.2.2.2.2 k (by omega) hk
      rw [← hor, ih r (by omega), h k (by omega) hk]
end FTS
theorem fz_shift (v a w b : Int32) : (v - a) + (w - b) = v + ((w - a) - b) := by
  simp only [Int32.sub_eq_add_neg]
  ac_rfl
