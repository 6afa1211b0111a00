/-! The small machine's cells in the machine's heap. B: where the first one lies; b: the script. -/
def RX0 : String := "Feederlight$Chargers"
def TX0 : u_T := fun k => match k with
  | 0 => ("Feederlight$Chargers", "amperes", "[I", true)
  | 1 => ("Feederlight$Chargers", "timesLeftOut", "[I", true)
  | 2 => ("Feederlight$Chargers", "line", "[I", true)
  | 3 => ("Feederlight$Chargers", "lineLength", "I", false)
  | _ => ("Feederlight$Chargers", "served", "I", false)
def tyX0 : Nat → FieldType := fun k => match k with
  | 0 => .array .int
  | 1 => .array .int
  | 2 => .array .int
  | 3 => .int
  | _ => .int
abbrev wsX00 : List Cond := u_ws RX0 TX0 5
theorem nmX0 : ∀ a, a < 5 → ∀ b, b < 5 → a ≠ b → (TX0 a).2.1 ≠ (TX0 b).2.1 := by decide +kernel
theorem tyX0_ok : ∀ k, k < 5 → parseFieldDescriptor (TX0 k).2.2.1 = some (tyX0 k) := by decide +kernel
def RX1 : String := "Feederlight$Feeding"
def TX1 : u_T := fun k => match k with
  | 0 => ("Feederlight$Feeding", "grid", "LFeederlight$Grid;", true)
  | 1 => ("Feederlight$Feeding", "fed", "[Z", true)
  | 2 => ("Feederlight$Feeding", "feeders", "[I", true)
  | 3 => ("Feederlight$Feeding", "cables", "[I", true)
  | 4 => ("Feederlight$Feeding", "resistances", "[I", true)
  | 5 => ("Feederlight$Feeding", "order", "[I", true)
  | 6 => ("Feederlight$Feeding", "closed", "[Z", true)
  | _ => ("Feederlight$Feeding", "fedCount", "I", false)
def tyX1 : Nat → FieldType := fun k => match k with
  | 0 => .object "Feederlight$Grid"
  | 1 => .array .boolean
  | 2 => .array .int
  | 3 => .array .int
  | 4 => .array .int
  | 5 => .array .int
  | 6 => .array .boolean
  | _ => .int
abbrev wsX10 : List Cond := u_ws RX1 TX1 8
theorem nmX1 : ∀ a, a < 8 → ∀ b, b < 8 → a ≠ b → (TX1 a).2.1 ≠ (TX1 b).2.1 := by decide +kernel
theorem tyX1_ok : ∀ k, k < 8 → parseFieldDescriptor (TX1 k).2.2.1 = some (tyX1 k) := by decide +kernel
def RX2 : String := "Feederlight$Flows"
def TX2 : u_T := fun k => match k with
  | 0 => ("Feederlight$Flows", "feeding", "LFeederlight$Feeding;", true)
  | 1 => ("Feederlight$Flows", "amperes", "[I", true)
  | _ => ("Feederlight$Flows", "voltages", "[I", true)
def tyX2 : Nat → FieldType := fun k => match k with
  | 0 => .object "Feederlight$Feeding"
  | 1 => .array .int
  | _ => .array .int
abbrev wsX20 : List Cond := u_ws RX2 TX2 3
theorem nmX2 : ∀ a, a < 3 → ∀ b, b < 3 → a ≠ b → (TX2 a).2.1 ≠ (TX2 b).2.1 := by decide +kernel
theorem tyX2_ok : ∀ k, k < 3 → parseFieldDescriptor (TX2 k).2.2.1 = some (tyX2 k) := by decide +kernel
def RX3 : String := "Feederlight$Grid"
def TX3 : u_T := fun k => match k with
  | 0 => ("Feederlight$Grid", "parents", "[I", true)
  | 1 => ("Feederlight$Grid", "resistances", "[I", true)
  | 2 => ("Feederlight$Grid", "ratings", "[I", true)
  | 3 => ("Feederlight$Grid", "heats", "[I", true)
  | 4 => ("Feederlight$Grid", "blown", "[Z", true)
  | 5 => ("Feederlight$Grid", "tieNodes", "[I", true)
  | 6 => ("Feederlight$Grid", "tieOthers", "[I", true)
  | 7 => ("Feederlight$Grid", "tieResistances", "[I", true)
  | 8 => ("Feederlight$Grid", "nodeCount", "I", false)
  | _ => ("Feederlight$Grid", "tieCount", "I", false)
def tyX3 : Nat → FieldType := fun k => match k with
  | 0 => .array .int
  | 1 => .array .int
  | 2 => .array .int
  | 3 => .array .int
  | 4 => .array .boolean
  | 5 => .array .int
  | 6 => .array .int
  | 7 => .array .int
  | 8 => .int
  | _ => .int
abbrev wsX30 : List Cond := u_ws RX3 TX3 10
theorem nmX3 : ∀ a, a < 10 → ∀ b, b < 10 → a ≠ b → (TX3 a).2.1 ≠ (TX3 b).2.1 := by decide +kernel
theorem tyX3_ok : ∀ k, k < 10 → parseFieldDescriptor (TX3 k).2.2.1 = some (tyX3 k) := by decide +kernel
def RX4 : String := "Feederlight$Roof"
def TX4 : u_T := fun k => match k with
  | 0 => ("Feederlight$Roof", "shades", "[Z", true)
  | 1 => ("Feederlight$Roof", "numbers", "[I", true)
  | _ => ("Feederlight$Roof", "layers", "I", false)
def tyX4 : Nat → FieldType := fun k => match k with
  | 0 => .array .boolean
  | 1 => .array .int
  | _ => .int
abbrev wsX40 : List Cond := u_ws RX4 TX4 3
theorem nmX4 : ∀ a, a < 3 → ∀ b, b < 3 → a ≠ b → (TX4 a).2.1 ≠ (TX4 b).2.1 := by decide +kernel
theorem tyX4_ok : ∀ k, k < 3 → parseFieldDescriptor (TX4 k).2.2.1 = some (tyX4 k) := by decide +kernel
def RX5 : String := "Feederlight"
def TX5 : u_T := fun k => match k with
  | 0 => ("Feederlight", "flows", "LFeederlight$Flows;", true)
  | 1 => ("Feederlight", "feeding", "LFeederlight$Feeding;", true)
  | 2 => ("Feederlight", "grid", "LFeederlight$Grid;", true)
  | 3 => ("Feederlight", "chargers", "LFeederlight$Chargers;", true)
  | 4 => ("Feederlight", "roofs", "[LFeederlight$Roof;", true)
  | 5 => ("Feederlight", "loads", "[I", true)
  | 6 => ("Feederlight", "ownCurrents", "[I", true)
  | 7 => ("Feederlight", "base", "I", false)
  | 8 => ("Feederlight", "sun", "I", false)
  | 9 => ("Feederlight", "minutesPassed", "I", false)
  | _ => ("Feederlight", "chargedSum", "J", false)
def tyX5 : Nat → FieldType := fun k => match k with
  | 0 => .object "Feederlight$Flows"
  | 1 => .object "Feederlight$Feeding"
  | 2 => .object "Feederlight$Grid"
  | 3 => .object "Feederlight$Chargers"
  | 4 => .array (.object "Feederlight$Roof")
  | 5 => .array .int
  | 6 => .array .int
  | 7 => .int
  | 8 => .int
  | 9 => .int
  | _ => .long
abbrev wsX50 : List Cond := u_ws RX5 TX5 11
theorem nmX5 : ∀ a, a < 11 → ∀ b, b < 11 → a ≠ b → (TX5 a).2.1 ≠ (TX5 b).2.1 := by decide +kernel
theorem tyX5_ok : ∀ k, k < 11 → parseFieldDescriptor (TX5 k).2.2.1 = some (tyX5 k) := by decide +kernel
def RX6 : String := "Feederlight"
def TX6 : u_T := fun k => match k with
  | 0 => ("Feederlight", "flows", "LFeederlight$Flows;", true)
  | 1 => ("Feederlight", "feeding", "LFeederlight$Feeding;", true)
  | 2 => ("Feederlight", "grid", "LFeederlight$Grid;", true)
  | 3 => ("Feederlight", "chargers", "LFeederlight$Chargers;", true)
  | 4 => ("Feederlight", "roofs", "[LFeederlight$Roof;", true)
  | 5 => ("Feederlight", "loads", "[I", true)
  | 6 => ("Feederlight", "ownCurrents", "[I", true)
  | 7 => ("Feederlight", "base", "I", false)
  | 8 => ("Feederlight", "sun", "I", false)
  | 9 => ("Feederlight", "minutesPassed", "I", false)
  | _ => ("Feederlight", "chargedSum", "J", false)
def tyX6 : Nat → FieldType := fun k => match k with
  | 0 => .object "Feederlight$Flows"
  | 1 => .object "Feederlight$Feeding"
  | 2 => .object "Feederlight$Grid"
  | 3 => .object "Feederlight$Chargers"
  | 4 => .array (.object "Feederlight$Roof")
  | 5 => .array .int
  | 6 => .array .int
  | 7 => .int
  | 8 => .int
  | 9 => .int
  | _ => .long
abbrev wsX60 : List Cond := u_ws RX6 TX6 11
theorem nmX6 : ∀ a, a < 11 → ∀ b, b < 11 → a ≠ b → (TX6 a).2.1 ≠ (TX6 b).2.1 := by decide +kernel
theorem tyX6_ok : ∀ k, k < 11 → parseFieldDescriptor (TX6 k).2.2.1 = some (tyX6 k) := by decide +kernel
abbrev fm_cls : List vw_C := [(RX0, TX0, 5), (RX1, TX1, 8), (RX2, TX2, 3), (RX3, TX3, 10), (RX4, TX4, 3), (RX5, TX5, 11), (RX6, TX6, 11)]
def fm_fks : List (List Nat) := [[2, 2, 2, 0, 0], [2, 2, 2, 2, 2, 2, 2, 0], [2, 2, 2], [2, 2, 2, 2, 2, 2, 2, 2, 0, 0], [2, 2, 0], [2, 2, 2, 2, 2, 2, 2, 0, 0, 0, 1], [2, 2, 2, 2, 2, 2, 2, 0, 0, 0, 1]]
def fm_fN : List Nat := [5, 8, 3, 10, 3, 11, 11]
def fm_kid (o : Option Nat) : Nat := o.getD 0
abbrev fm_A (B : Nat) : Nat → Prop := fun q => B ≤ q
def fm_ren (B b : Nat) (v : fm_V) : Value := match v with
  | .inl (.ref k) => .ref (if k = fm_scr then b else B + k)
  | .inl w => w
  | .inr q => .ref (B + cond (Nat.beq q.1 3) (fm_L0 + q.2) (fm_pc q.1 q.2))
def fm_fv (B : Nat) (N : fm_N) (c fk k : Nat) (rs : List (Option Nat)) : Value := match fk with
  | 0 => .int (N.1 c k)
  | 1 => .long (N.2.1 c k)
  | _ => va_rf ((rs.getD k none).map (fun j => B + j))
def fm_fields (B : Nat) (N : fm_N) (c : Nat) (q : fm_Sc) : List Value := (List.range q.2.1).map fun k => fm_fv B N c ((fm_fks.getD q.1 []).getD k 9) k q.2.2
def fm_ent (B : Nat) (aC : Nat → ClassId) (N : fm_N) (c : Nat) (q : fm_Sc) : va_E :=
  if q.1 < 7 then .inr (q.1, fm_fields B N c q)
  else if q.1 = 10 then .inl (aC 0, q.2.1, .inl (N.1 c))
  else if q.1 = 11 then .inl (aC 1, q.2.1, .inl (N.1 c))
  else if q.1 = 12 then .inl (aC 2, q.2.1, .inr (.inl (N.2.1 c)))
  else if q.1 = 13 then .inl (aC 3, q.2.1, .inr (.inr (.inr (.inl (N.2.2.1 c)))))
  else .inl (aC 4, q.2.1, .inr (.inr (.inr (.inr (fun i => (q.2.2.getD i none).map (fun j => B + j))))))
def fm_ws (B : Nat) (aC : Nat → ClassId) (M : fm_M) : va_W := (List.range M.2.length).map fun c => (B + c, fm_ent B aC M.1 c (M.2.getD c (99, 0, [])))
theorem fm_ws_get {B : Nat} {aC : Nat → ClassId} {M : fm_M} {c : Nat} {q : fm_Sc} (h : M.2[c]? = some q) : (fm_ws B aC M)[c]? = some (B + c, fm_ent B aC M.1 c q) := by
  have hc : c < M.2.length := (List.getElem?_eq_some_iff.mp h).1
  unfold fm_ws
  rw [List.getElem?_map, List.getElem?_range hc]
  simp [List.getD, h]
theorem fm_ws_at {B : Nat} {aC : Nat → ClassId} {M : fm_M} {k : Nat} {x : Nat × va_E} (h : (fm_ws B aC M)[k]? = some x) : k < M.2.length ∧ x.1 = B + k := by
  unfold fm_ws at h
  rw [List.getElem?_map] at h
  by_cases hk : k < M.2.length
  · rw [List.getElem?_range hk] at h
    cases h
    exact ⟨hk, rfl⟩
  · rw [List.getElem?_eq_none (by simpa using hk)] at h
    cases h
theorem fm_ws_D (B : Nat) (aC : Nat → ClassId) (M : fm_M) : va_D (fm_A B) (fm_ws B aC M) := by
  refine ⟨fun i j p q hi hj hpq => ?_, fun k q hk => ?_⟩
  · have h1 := (fm_ws_at hi).2
    have h2 := (fm_ws_at hj).2
    omega
  · have h1 := (fm_ws_at hk).2
    show B ≤ q.1
    omega
theorem fm_ws_set {B : Nat} {aC : Nat → ClassId} {M M' : fm_M} {c : Nat} {q : fm_Sc} (hc : c < M.2.length) (hS : M'.2 = M.2.set c q) (hN : ∀ d, d ≠ c → M'.1.1 d = M.1.1 d ∧ M'.1.2.1 d = M.1.2.1 d ∧ M'.1.2.2.1 d = M.1.2.2.1 d) : (fm_ws B aC M).set c (B + c, fm_ent B aC M'.1 c q) = fm_ws B aC M' := by
  have hl : M'.2.length = M.2.length := by rw [hS, List.length_set]
  apply List.ext_getElem?
  intro k
  rw [List.getElem?_set]
  have hlen : (fm_ws B aC M).length = M.2.length := by simp [fm_ws]
  by_cases hk : k < M.2.length
  · by_cases hkc : c = k
    · subst hkc
      rw [if_pos rfl, if_pos (by rw [hlen]; exact hc)]
      have h1 : M'.2[c]? = some q := by rw [hS, List.getElem?_set_self hc]
      rw [fm_ws_get h1]
    · rw [if_neg hkc]
      obtain ⟨q2, hq2⟩ : ∃ q2, M.2[k]? = some q2 := ⟨_, List.getElem?_eq_getElem hk⟩
      have h1 : M'.2[k]? = some q2 := by rw [hS, List.getElem?_set_ne hkc]; exact hq2
      rw [fm_ws_get hq2, fm_ws_get h1]
      obtain ⟨e1, e2, e3⟩ := hN k (fun h => hkc h.symm)
      have : fm_ent B aC M.1 k q2 = fm_ent B aC M'.1 k q2 := by
        unfold fm_ent fm_fields fm_fv
        rw [e1, e2, e3]
      rw [this]
  · have hkc : ¬ c = k := by omega
    rw [if_neg hkc]
    have n1 : (fm_ws B aC M)[k]? = none := List.getElem?_eq_none (by rw [hlen]; omega)
    have n2 : (fm_ws B aC M')[k]? = none := List.getElem?_eq_none (by simp [fm_ws]; omega)
    rw [n1, n2]
theorem fm_ws_same {B : Nat} {aC : Nat → ClassId} {M M' : fm_M} {c : Nat} {q : fm_Sc} (h : M.2[c]? = some q) (hS : M'.2 = M.2) (hN : ∀ d, d ≠ c → M'.1.1 d = M.1.1 d ∧ M'.1.2.1 d = M.1.2.1 d ∧ M'.1.2.2.1 d = M.1.2.2.1 d) : (fm_ws B aC M).set c (B + c, fm_ent B aC M'.1 c q) = fm_ws B aC M' := by
  have hc : c < M.2.length := (List.getElem?_eq_some_iff.mp h).1
  refine fm_ws_set hc ?_ hN
  rw [hS]
  apply List.ext_getElem?
  intro k
  by_cases hk : c = k
  · subst hk; rw [List.getElem?_set_self hc, h]
  · rw [List.getElem?_set_ne hk]
theorem fm_ws_app {B : Nat} {aC : Nat → ClassId} {M : fm_M} {q : fm_Sc} : fm_ws B aC (M.1, M.2 ++ [q]) = fm_ws B aC M ++ [(B + M.2.length, fm_ent B aC M.1 M.2.length q)] := by
  unfold fm_ws
  simp only [List.length_append, List.length_cons, List.length_nil, Nat.zero_add, List.range_succ, List.map_append, List.map_cons, List.map_nil]
  congr 1
  · apply List.map_congr_left
    intro c hc
    have hc' : c < M.2.length := List.mem_range.mp hc
    simp [List.getD, List.getElem?_append_left hc']
  · simp [List.getD]
/-- a cell's shape is one of the kinds -/
def fm_okq (q : fm_Sc) : Prop := (q.1 < 7 ∧ fm_fN[q.1]? = some q.2.1) ∨ (9 < q.1 ∧ q.1 < 15)
def fm_tys (aC : Nat → ClassId) : List (ClassId × FieldType) := [(aC 0, .int), (aC 1, .boolean), (aC 2, .int), (aC 3, .int), (aC 4, .object RX4)]
/-- the late rows lie behind the fixed cells, and the heap is as long as both -/
def fm_Lt (B : Nat) (aC : Nat → ClassId) (D : va_G) (M : fm_M) (H : Heap) : Prop :=
  H.size = B + M.2.length + M.1.2.2.2 ∧ (0 < M.1.2.2.2 → M.2.length = fm_L0) ∧ M.2.length ≤ fm_L0 ∧ ∀ g : Nat, fm_mk M.1.1 g → g < M.1.2.2.2 ∧ va_at D fm_cls (B + (fm_L0 + g), .inl (aC 0, 20, .inl (M.1.1 (fm_L0 + g)))) H
/-- the cells lie in the heap -/
def fm_Wd (B : Nat) (aC : Nat → ClassId) (D : va_G) (M : fm_M) (H : Heap) : Prop :=
  va_P D fm_cls (fm_ws B aC M) H ∧ M.2.length ≤ 1000 ∧ B + M.2.length ≤ H.size ∧ (M.1.2.2.2 = 0 → H.size = B + M.2.length) ∧ (∀ (c : Nat) (q : fm_Sc), M.2[c]? = some q → fm_okq q) ∧ (∀ (c : Nat) (q : fm_Sc), M.2[c]? = some q → ∀ k j : Nat, q.2.2[k]? = some (some j) → j < M.2.length) ∧ (∀ c : Nat, M.2.length + M.1.2.2.2 ≤ c → ∀ i : Nat, M.1.1 c i = 0 ∧ M.1.2.1 c i = 0 ∧ M.1.2.2.1 c i = 0) ∧ fm_Lt B aC D M H
theorem fm_Lt.keep {B : Nat} {aC : Nat → ClassId} {D : va_G} {M M' : fm_M} {H H1 : Heap} (h : fm_Lt B aC D M H) (hS : M'.2.length = M.2.length) (hG : M'.1.2.2.2 = M.1.2.2.2) (hN : ∀ g, M'.1.1 (fm_L0 + g) = M.1.1 (fm_L0 + g)) (hz : H1.size = H.size) (hk : ∀ g, g < M.1.2.2.2 → H1[B + (fm_L0 + g)]? = H[B + (fm_L0 + g)]?) : fm_Lt B aC D M' H1 := by
  obtain ⟨h1, h2, h3, h4⟩ := h
  refine ⟨by rw [hS, hG, hz]; exact h1, by rw [hS, hG]; exact h2, by rw [hS]; exact h3, fun g hg => ?_⟩
  unfold fm_mk at hg
  rw [hN] at hg
  obtain ⟨k1, k2⟩ := h4 g hg
  rw [hN, hG]
  exact ⟨k1, k2.kept (hk g k1)⟩
/-- what stays over a whole run: the tables' facts, the script, where the cells begin -/
def fm_mv (w : Cond) : Bool := match w with
  | .castable .. => true
  | .fieldLinkNest .. => true
  | .methodLinkNest .. => true
  | .declares .. => true
  | _ => false
theorem fm_mv_warm {w : Cond} (h : fm_mv w = true) {s U : State} (hW : s.WarmedH U.vm) (hZ : va_Nw w s) : va_Nw w U := by
  cases w <;> first | exact va_Nw.warmC hW hZ | exact va_Nw.warmF hW hZ | exact va_Nw.warmM hW hZ | exact va_Nw.warmD hW hZ | cases h
theorem fm_mv_same {w : Cond} (h : fm_mv w = true) {s U : State} (hv : s.vm = U.vm) (hZ : va_Nw w s) : va_Nw w U := by
  cases w <;> first | exact va_Nw.same rfl hv hZ | cases h
abbrev fm_TG : List Cond := lw_tbl.filter goodWord
/-- the texts of the exceptions: class, entry, text -/
abbrev fm_St : Type := List (String × Nat × String)
/-- which class is no subclass of which -/
abbrev fm_Nc : Type := List (String × String)
def fm_Ps (sts : fm_St) (ncs : fm_Nc) (X : Nat × (Nat → Int32)) (B b : Nat) (aC : Nat → ClassId) (D : va_G) (U : State) : Prop :=
  va_K D fm_cls (fm_tys aC) U ∧ (∀ w ∈ lw_tbl, fm_mv w = true → va_Nw w U) ∧ (∀ q ∈ sts, ∃ sa : Nat, vk_R q.1 q.2.1 q.2.2 sa U) ∧ (∀ q ∈ ncs, va_Nc q.1 q.2 U) ∧ va_AO RX4 U ∧
  vx_Zq Bundle.tN "UNASSIGNED_STACK" Bundle.steD (fm_A B) U U.heap ∧ vx_Zq Bundle.tN "SUPPRESSED_SENTINEL" Bundle.listD (fm_A B) U U.heap ∧ va_X b X.1 X.2 U U.heap ∧ b < B ∧ B ≤ U.heap.size
theorem fm_Ps.go {sts : fm_St} {ncs : fm_Nc} {X : Nat × (Nat → Int32)} {B b : Nat} {aC : Nat → ClassId} {D : va_G} {s U : State} (h : fm_Ps sts ncs X B b aC D s) (hW : s.WarmedH U.vm) (hz : s.heap.size ≤ U.heap.size) (hk : ∀ q : Nat, q < s.heap.size → ¬ B ≤ q → U.heap[q]? = s.heap[q]?) : fm_Ps sts ncs X B b aC D U := by
  obtain ⟨h1, h2, h3, h4, h5, h6, h7, h8, h9, h10⟩ := h
  refine ⟨va_K.moved hW.alike h1, fun w hw hm => fm_mv_warm hm hW (h2 w hw hm), fun q hq => ?_, fun q hq => (h4 q hq).moved hW.alike, va_AO.moved hW.alike h5, vx_Zq.moved hW.alike (h6.kept hk), vx_Zq.moved hW.alike (h7.kept hk), (h8.moved hW.alike).kept (hk b (by omega) (by omega)), h9, by omega⟩
  obtain ⟨sa, hs⟩ := h3 q hq
  exact ⟨sa, vk_R.warm hW hs⟩
theorem fm_Ps.eqv {sts : fm_St} {ncs : fm_Nc} {X : Nat × (Nat → Int32)} {B b : Nat} {aC : Nat → ClassId} {D : va_G} {s U : State} (h : fm_Ps sts ncs X B b aC D s) (hv : s.vm = U.vm) (hh : U.heap = s.heap) : fm_Ps sts ncs X B b aC D U := by
  have hW : s.WarmedH U.vm := by rw [← hv]; exact State.WarmedH.refl s
  exact h.go hW (by rw [hh]; exact Nat.le_refl _) (fun q _ _ => by rw [hh])
theorem fm_ws_P0 {B : Nat} {aC : Nat → ClassId} {D : va_G} {M : fm_M} {H : Heap} {c : Nat} {q : fm_Sc} (hW : fm_Wd B aC D M H) (h : M.2[c]? = some q) : va_at D fm_cls (B + c, fm_ent B aC M.1 c q) H := hW.1 c _ (fm_ws_get h)
section FMR
variable {p : Program} {l : Launch} {e : Env} {R : Room} {s : State} {m : MethodId} {args : Array Value} {below : List Frame} {meth : Method} {c : Code} {H : Heap} {locs : List Loc} {cells slots : Nat} {Q : State → Prop}
variable {cc : ByteArray} {pc : Nat} {ls : Array Slot} {rest : List Value} {D : va_G} {cl : List vw_C} {A : Nat → Prop} {a : Nat} {tys : List (ClassId × FieldType)} {ws : va_W} {H0 : Heap}
/-! the kit's rows of writes (va_iast, va_zast, va_last, va_dast, va_astq, va_put, va_putN, va_putF) and makings, with the heap's size told -/
theorem fr_iast (hexec : p.tables.exec = Jvm.exec) (hb : c.code = cc) (hK : va_K D cl tys s) (hP : va_P D cl ws H) (hD : va_D A ws) (hS : va_S A H0 H locs) (q0 t0 : Nat) {cA : ClassId} {n : Nat} {f : Nat → Int32} (ha : ws[q0]? = some (a, .inl (cA, n, .inl f))) (ht : tys[t0]? = some (cA, .int)) {i : Int32} {x : Int32} (hin : vp_in i n) (hdg : decode cc pc = .ok (.iastore, 1))
    (kk : ∀ (H1 : Heap) (locs1 : List Loc), va_P D cl (ws.set q0 (a, .inl (cA, n, .inl (upd f i.toNatClampNeg x)))) H1 → H1.size = H.size → va_S A H0 H1 locs1 → (∀ q : Nat, q ≠ a → H1[q]? = H[q]?) → W p l e R s m args below meth c H1 locs1 cells slots Q (F0 m (pc + 1) ls rest)) : W p l e R s m args below meth c H locs cells slots Q (F0 m pc ls (.int x :: .int i :: .ref a :: rest)) := by
  refine W.iast hexec hb (hP q0 _ ha) ((hK.2 t0 _ ht).1 n (fun j => .int (f j))) (fun q => by cases q) (by show ¬ (i < 0 ∨ (arrV _ _ _).slots.size ≤ _); rw [arrV_size]; exact hin) rfl rfl hdg fun H1 e z oq => ?_
  refine kk H1 _ (hP.set hD ha ?_ oq) z (hS.put z oq (hD.2 q0 _ ha)) oq
  show H1[a]? = some (vp_cell _ _)
  rw [e]
  rw [vp_cell_i, vp_cell_i, arrV_store]
  congr 2
  funext q
  by_cases hq : q = i.toNatClampNeg
  · subst hq
    simp [updV, upd]
  · simp [updV, upd, hq]
theorem fr_zast (hexec : p.tables.exec = Jvm.exec) (hb : c.code = cc) (hK : va_K D cl tys s) (hP : va_P D cl ws H) (hD : va_D A ws) (hS : va_S A H0 H locs) (q0 t0 : Nat) {cA : ClassId} {n : Nat} {f : Nat → Int32} (ha : ws[q0]? = some (a, .inl (cA, n, .inl f))) (ht : tys[t0]? = some (cA, .boolean)) {i : Int32} {x : Int32} (hin : vp_in i n) (hdg : decode cc pc = .ok (.bastore, 1))
    (kk : ∀ (H1 : Heap) (locs1 : List Loc), va_P D cl (ws.set q0 (a, .inl (cA, n, .inl (upd f i.toNatClampNeg (vp_nar .boolean x))))) H1 → H1.size = H.size → va_S A H0 H1 locs1 → (∀ q : Nat, q ≠ a → H1[q]? = H[q]?) → W p l e R s m args below meth c H1 locs1 cells slots Q (F0 m (pc + 1) ls rest)) : W p l e R s m args below meth c H locs cells slots Q (F0 m pc ls (.int x :: .int i :: .ref a :: rest)) := by
  refine W.zast hexec hb (hP q0 _ ha) ((hK.2 t0 _ ht).1 n (fun j => .int (f j))) (fun q => by cases q) (by show ¬ (i < 0 ∨ (arrV _ _ _).slots.size ≤ _); rw [arrV_size]; exact hin) rfl rfl hdg fun H1 e z oq => ?_
  refine kk H1 _ (hP.set hD ha ?_ oq) z (hS.put z oq (hD.2 q0 _ ha)) oq
  show H1[a]? = some (vp_cell _ _)
  rw [e]
  rw [vp_cell_i, vp_cell_i, arrV_store]
  congr 2
  funext q
  by_cases hq : q = i.toNatClampNeg
  · subst hq
    simp [updV, upd, vp_nar]
    try rfl
  · simp [updV, upd, hq]
theorem fr_last (hexec : p.tables.exec = Jvm.exec) (hb : c.code = cc) (hK : va_K D cl tys s) (hP : va_P D cl ws H) (hD : va_D A ws) (hS : va_S A H0 H locs) (q0 t0 : Nat) {cA : ClassId} {n : Nat} {f : Nat → Int64} (ha : ws[q0]? = some (a, .inl (cA, n, .inr (.inl f)))) (ht : tys[t0]? = some (cA, .long)) {i : Int32} {x : Int64} (hin : vp_in i n) (hdg : decode cc pc = .ok (.lastore, 1))
    (kk : ∀ (H1 : Heap) (locs1 : List Loc), va_P D cl (ws.set q0 (a, .inl (cA, n, .inr (.inl (vp_updL f i.toNatClampNeg x))))) H1 → H1.size = H.size → va_S A H0 H1 locs1 → (∀ q : Nat, q ≠ a → H1[q]? = H[q]?) → W p l e R s m args below meth c H1 locs1 cells slots Q (F0 m (pc + 1) ls rest)) : W p l e R s m args below meth c H locs cells slots Q (F0 m pc ls (.long x :: .int i :: .ref a :: rest)) := by
  refine W.last hexec hb (hP q0 _ ha) ((hK.2 t0 _ ht).1 n (fun j => .long (f j))) (fun q => by cases q) (by show ¬ (i < 0 ∨ (arrV _ _ _).slots.size ≤ _); rw [arrV_size]; exact hin) rfl rfl hdg fun H1 e z oq => ?_
  refine kk H1 _ (hP.set hD ha ?_ oq) z (hS.put z oq (hD.2 q0 _ ha)) oq
  show H1[a]? = some (vp_cell _ _)
  rw [e]
  rw [vp_cell_l, vp_cell_l, arrV_store]
  congr 2
  funext q
  by_cases hq : q = i.toNatClampNeg
  · subst hq
    simp [updV, vp_updL]
  · simp [updV, vp_updL, hq]
theorem fr_dast (hexec : p.tables.exec = Jvm.exec) (hb : c.code = cc) (hK : va_K D cl tys s) (hP : va_P D cl ws H) (hD : va_D A ws) (hS : va_S A H0 H locs) (q0 t0 : Nat) {cA : ClassId} {n : Nat} {f : Nat → UInt64} (ha : ws[q0]? = some (a, .inl (cA, n, .inr (.inr (.inr (.inl f)))))) (ht : tys[t0]? = some (cA, .double)) {i : Int32} {x : UInt64} (hin : vp_in i n) (hdg : decode cc pc = .ok (.dastore, 1))
    (kk : ∀ (H1 : Heap) (locs1 : List Loc), va_P D cl (ws.set q0 (a, .inl (cA, n, .inr (.inr (.inr (.inl (vf_upd f i.toNatClampNeg x))))))) H1 → H1.size = H.size → va_S A H0 H1 locs1 → (∀ q : Nat, q ≠ a → H1[q]? = H[q]?) → W p l e R s m args below meth c H1 locs1 cells slots Q (F0 m (pc + 1) ls rest)) : W p l e R s m args below meth c H locs cells slots Q (F0 m pc ls (.double x :: .int i :: .ref a :: rest)) := by
  refine W.dast hexec hb (hP q0 _ ha) ((hK.2 t0 _ ht).1 n (fun j => .double (f j))) (fun q => by cases q) (by show ¬ (i < 0 ∨ (arrV _ _ _).slots.size ≤ _); rw [arrV_size]; exact hin) rfl rfl hdg fun H1 e z oq => ?_
  refine kk H1 _ (hP.set hD ha ?_ oq) z (hS.put z oq (hD.2 q0 _ ha)) oq
  show H1[a]? = some (vp_cell _ _)
  rw [e]
  rw [vp_cell_d, vp_cell_d, arrV_store]
  congr 2
  funext q
  by_cases hq : q = i.toNatClampNeg
  · subst hq
    simp [updV, vf_upd]
  · simp [updV, vf_upd, hq]
theorem fr_astq (hexec : p.tables.exec = Jvm.exec) (hb : c.code = cc) (hK : va_K D cl tys s) (hP : va_P D cl ws H) (hD : va_D A ws) (hS : va_S A H0 H locs) (q0 t0 qk ci : Nat) {cA : ClassId} {r : vw_C} {n v : Nat} {vs : List Value} {f : Nat → Option Nat} (ha : ws[q0]? = some (a, .inl (cA, n, .inr (.inr (.inr (.inr f)))))) (ht : tys[t0]? = some (cA, .object r.1)) (hv : ws[qk]? = some (v, .inr (ci, vs))) (hc : cl[ci]? = some r) {i : Int32} (hin : vp_in i n) (hdg : decode cc pc = .ok (.aastore, 1))
    (kk : ∀ (H1 : Heap) (locs1 : List Loc), va_P D cl (ws.set q0 (a, .inl (cA, n, .inr (.inr (.inr (.inr (va_up f i.toNatClampNeg (some v)))))))) H1 → H1.size = H.size → va_S A H0 H1 locs1 → (∀ q : Nat, q ≠ a → H1[q]? = H[q]?) → W p l e R s m args below meth c H1 locs1 cells slots Q (F0 m (pc + 1) ls rest)) : W p l e R s m args below meth c H locs cells slots Q (F0 m pc ls (.ref v :: .int i :: .ref a :: rest)) := by
  have hlt : i.toNatClampNeg < n := Nat.not_le.mp fun q => hin (Or.inr q)
  have h0 : ¬ i < 0 := fun q => hin (Or.inl q)
  obtain ⟨r', hr', cellV, g1, g2, g3, -⟩ := hP qk _ hv
  have hcls := (hK.1 ci r hc).2
  obtain ⟨kA, comp, k1, k2, k3, -⟩ := (hK.2 t0 _ ht).2
  have hcomp : comp = D.1 ci := Option.some.inj (k3.symm.trans hcls.1)
  subst hcomp
  obtain ⟨kC, hkC, -⟩ := hcls.2
  refine W.aast hexec hb (hP q0 _ ha) (fun q h => by cases h) (fun h => by cases h) k1 k2 rfl hkC ⟨h0, by show _ < (arrV _ _ _).slots.size; rw [arrV_size]; exact hlt⟩ g1 (fun q h => by rw [g3] at h; cases h) (by rw [g2]; exact hkC) (by rw [g2]; exact va_assign hcls) rfl rfl hdg fun H1 e z oq => ?_
  refine kk H1 _ (hP.set hD ha ?_ oq) z (hS.put z oq (hD.2 q0 _ ha)) oq
  show H1[a]? = some (vp_cell _ _)
  rw [e]
  rw [vp_cell_q, vp_cell_q, arrV_store]
  congr 2
  funext q
  by_cases hq : q = i.toNatClampNeg
  · subst hq
    simp [updV, va_up, va_rf]
  · simp [updV, va_up, hq]
theorem fr_put (hexec : p.tables.exec = Jvm.exec) (hb : c.code = cc) {own ref C : String} {T : u_T} {N ci index : Nat} {Ts : List Cond} (hts : ∀ w ∈ Ts, w.before args s = true) (hin : ∀ w ∈ u_ws C T N, w ∈ Ts) (ty0 : Nat → FieldType) (hty : ∀ k, k < N → parseFieldDescriptor (T k).2.2.1 = some (ty0 k)) (hnm : ∀ a, a < N → ∀ b, b < N → a ≠ b → (T a).2.1 ≠ (T b).2.1) (hown : s.vm.findClass own = some m.cls) (hK : va_K D cl tys s) (hP : va_P D cl ws H) (hD : va_D A ws) (hS0 : va_S A H0 H locs) (q0 : Nat) {fs : List Value} (he : ws[q0]? = some (a, .inr (ci, fs))) (hc : cl[ci]? = some (C, T, N)) (k : Nat) (hk : k < N) (hlink : (Cond.fieldLink own index ref (T k).2.1 (T k).2.2.1).before args s = true ∨ ∃ host, (Cond.fieldLinkNest own index ref (T k).2.1 (T k).2.2.1 host).before args s = true) (hsame : ∀ x, s.fieldFound? (T k).1 (T k).2.1 (T k).2.2.1 = some x → s.fieldFound? ref (T k).2.1 (T k).2.2.1 = some x) (hfin : (T k).2.2.2 = false) {ty : FieldType} {v : Value} (hd : parseFieldDescriptor (T k).2.2.1 = some ty) (hn : narrow ty v = v) (hfit : fits ty v = true) (hl : k < fs.length)
    (hdg : decode cc pc = .ok (.putfield index, 3)) (kk : ∀ (H1 : Heap) (locs1 : List Loc), va_P D cl (ws.set q0 (a, .inr (ci, fs.set k v))) H1 → H1.size = H.size → va_S A H0 H1 locs1 → (∀ q : Nat, q ≠ a → H1[q]? = H[q]?) → W p l e R s m args below meth c H1 locs1 cells slots Q (F0 m (pc + 3) ls rest)) : W p l e R s m args below meth c H locs cells slots Q (F0 m pc ls (v :: .ref a :: rest)) := by
  have hap := va_apart (own := own) hts hin ty0 hty hnm hK hc
  obtain ⟨r, h1, cell, q1, q2, q3, q4⟩ := hP q0 _ he
  have hr : r = (C, T, N) := Option.some.inj (h1.symm.trans hc)
  subst hr
  obtain ⟨hS, hfc, kC, hkC, hkind⟩ := hK.1 ci _ hc
  obtain ⟨cf, kf, fi, f, hi, hsl⟩ := hS k hk
  have hlay := hts _ (hin _ (u_in_lay hk))
  unfold u_lay at hlay
  rw [if_neg (by rw [hfin]; decide)] at hlay
  have hst := (u_facts hfc hkC (u_lays hts hin hk) hi).1
  have h6 := u_store hfc hkC hkind hlay hi hd hn hfit
  rcases hlink with hlink | ⟨host, hlink⟩
  · refine W.putK hexec hb (f := f) ⟨hown, hlink, ⟨_, _, _, hsame _ hi⟩, hst⟩ (by rw [q2]; exact h6) q1 q3 (by rw [hsl]; exact k2_hasslot (q4 k hk)) rfl rfl hdg fun H' e1 e2 e3 => ?_
    rw [hsl] at e1 ⊢
    exact kk H' _ (hP.set hD he ⟨_, hc, t_OB.to (V := updV (vp_V fs) k v) ⟨_, e1, q2, q3, t_set q4 hap hk v⟩ (fun j _ => vp_updV_set hl v j)⟩ e3) e2 (hS0.put e2 e3 (hD.2 q0 _ he)) e3
  · refine va_WputK hexec hb (f := f) hown hlink (hsame _ hi) hst (by rw [q2]; exact h6) q1 q3 (by rw [hsl]; exact k2_hasslot (q4 k hk)) rfl rfl hdg fun H' e1 e2 e3 => ?_
    rw [hsl] at e1 ⊢
    exact kk H' _ (hP.set hD he ⟨_, hc, t_OB.to (V := updV (vp_V fs) k v) ⟨_, e1, q2, q3, t_set q4 hap hk v⟩ (fun j _ => vp_updV_set hl v j)⟩ e3) e2 (hS0.put e2 e3 (hD.2 q0 _ he)) e3
theorem fr_putF (hexec : p.tables.exec = Jvm.exec) (hb : c.code = cc) {own ref C : String} {T : u_T} {N ci index : Nat} {Ts : List Cond} (hts : ∀ w ∈ Ts, w.before args s = true) (hin : ∀ w ∈ u_ws C T N, w ∈ Ts) (ty0 : Nat → FieldType) (hty : ∀ k, k < N → parseFieldDescriptor (T k).2.2.1 = some (ty0 k)) (hnm : ∀ a, a < N → ∀ b, b < N → a ≠ b → (T a).2.1 ≠ (T b).2.1) (hown : s.vm.findClass own = some m.cls) (hK : va_K D cl tys s) (hP : va_P D cl ws H) (hD : va_D A ws) (hS0 : va_S A H0 H locs) (q0 : Nat) {fs : List Value} (he : ws[q0]? = some (a, .inr (ci, fs))) (hc : cl[ci]? = some (C, T, N)) (k : Nat) (hk : k < N) (hlink : (Cond.fieldLink own index ref (T k).2.1 (T k).2.2.1).before args s = true) (hsame : ∀ x, s.fieldFound? (T k).1 (T k).2.1 (T k).2.2.1 = some x → s.fieldFound? ref (T k).2.1 (T k).2.2.1 = some x) (hfin : (T k).2.2.2 = true) (hin2 : meth.name = "<init>") (hdecl : (T k).1 = own) {ty : FieldType} {v : Value} (hd : parseFieldDescriptor (T k).2.2.1 = some ty) (hn : narrow ty v = v) (hfit : fits ty v = true) (hl : k < fs.length)
    (hdg : decode cc pc = .ok (.putfield index, 3)) (kk : ∀ (H1 : Heap) (locs1 : List Loc), va_P D cl (ws.set q0 (a, .inr (ci, fs.set k v))) H1 → H1.size = H.size → va_S A H0 H1 locs1 → (∀ q : Nat, q ≠ a → H1[q]? = H[q]?) → W p l e R s m args below meth c H1 locs1 cells slots Q (F0 m (pc + 3) ls rest)) : W p l e R s m args below meth c H locs cells slots Q (F0 m pc ls (v :: .ref a :: rest)) := by
  have hap := va_apart (own := own) hts hin ty0 hty hnm hK hc
  obtain ⟨r, h1, cell, q1, q2, q3, q4⟩ := hP q0 _ he
  have hr : r = (C, T, N) := Option.some.inj (h1.symm.trans hc)
  subst hr
  obtain ⟨hS, hfc, kC, hkC, hkind⟩ := hK.1 ci _ hc
  obtain ⟨cf, kf, fi, f, hi, hsl⟩ := hS k hk
  have hlay := hts _ (hin _ (u_in_lay hk))
  unfold u_lay at hlay
  rw [if_pos hfin] at hlay
  have hst := (u_facts hfc hkC (u_lays hts hin hk) hi).1
  have hcf : m.cls = cf := by
    obtain ⟨_, _, c', _, _, _, -, -, hf', -, -, -, hown2, -⟩ := Cond.laysFinal_spec hlay
    have e1 : c' = cf := by have := hi.symm.trans hf'; simp at this; exact this.1.symm
    rw [hdecl] at hown2
    rw [← e1]; exact Option.some.inj (hown.symm.trans hown2)
  have h6 := u_fits hfc hkC hkind (Or.inr hlay) hi hd hn hfit
  refine W.putFinK hexec hb hown hlink (hsame _ hi) hst hcf hin2 (by rw [q2]; exact h6) q1 q3 (by rw [hsl]; exact k2_hasslot (q4 k hk)) rfl rfl hdg fun H' e1 e2 e3 => ?_
  rw [hsl] at e1 ⊢
  exact kk H' _ (hP.set hD he ⟨_, hc, t_OB.to (V := updV (vp_V fs) k v) ⟨_, e1, q2, q3, t_set q4 hap hk v⟩ (fun j _ => vp_updV_set hl v j)⟩ e3) e2 (hS0.put e2 e3 (hD.2 q0 _ he)) e3
theorem fr_new {c0 : Code} (hexec : p.tables.exec = Jvm.exec) (hb : c0.code = cc) {own C : String} {T : u_T} {N ci index : Nat} {Ts : List Cond} (hts : ∀ w ∈ Ts, w.before args s = true) (hin : ∀ w ∈ u_ws C T N, w ∈ Ts) (ty : Nat → FieldType) (hty : ∀ k, k < N → parseFieldDescriptor (T k).2.2.1 = some (ty k)) (hown : s.vm.findClass own = some m.cls) (hcl : (Cond.classLink own index C).before args s = true) (hinst : (Cond.instantiable C N).before args s = true) (hini : (Cond.initialized C).before args s = true)
    (hK : va_K D cl tys s) (hP : va_P D cl ws H) (hS : va_S A H0 H locs) (hc : cl[ci]? = some (C, T, N)) {fs : List Value} (hfs : ∀ j, j < N → defaultValue (ty j) = vp_V fs j) (hcells : cells + 1 ≤ R.cells) (hslots : slots + N ≤ R.slots) (hdg : decode cc pc = .ok (.new index, 3))
    (kk : ∀ (H1 : Heap), va_P D cl (ws ++ [(H.size, .inr (ci, fs))]) H1 → H1.size = H.size + 1 → va_S A H0 H1 locs → (∀ q : Nat, q < H.size → H1[q]? = H[q]?) →
      W p l e R s m args below meth c0 H1 locs (cells + 1) (slots + N) Q (F0 m (pc + 3) ls (.ref H.size :: rest))) : W p l e R s m args below meth c0 H locs cells slots Q (F0 m pc ls rest) := by
  have hKn := hK.1 ci _ hc
  refine W.newcK hexec hb hown hcl hinst hini rfl hdg hcells hslots hKn.2.1 rfl fun H1 kC hkC e1 z1 o1 => ?_
  have hk : ∀ (k : Nat) (x : Nat × va_E), ws[k]? = some x → H1[x.1]? = H[x.1]? := fun k x hx => o1 x.1 ((hP k x hx).lt)
  refine kk H1 ((hP.kept hk).app (fun k x hx => ?_)) z1 ⟨Nat.le_trans hS.1 (by omega), fun x h1 h2 => (o1 x (Nat.lt_of_lt_of_le h1 hS.1)).trans (hS.2.1 x h1 h2), hS.2.2⟩ o1
  have hz : k < 1 := (List.getElem?_eq_some_iff.mp hx).1
  rw [show k = 0 by omega] at hx
  cases hx
  exact ⟨_, hc, (u_born ty hts hin hKn hkC e1 hty).to hfs⟩
theorem fr_newa (hexec : p.tables.exec = Jvm.exec) (hb : c.code = cc) {atype : ArrayType} (harr : (Cond.arrayClass (newarray.typeOf atype)).before args s = true) {ty : FieldType} (hty : newarray.typeOf atype = ty) (hP : va_P D cl ws H) (hS : va_S A H0 H locs)
    {cA0 : ClassId} (hcA : s.vm.findClass ("[" ++ ty.toString) = some cA0) {n : Int32} {N' : Nat} {a0 : vp_A} (ha : ∀ cA : ClassId, vp_cell cA a0 = arrV cA N' (fun _ => defaultValue ty)) (hn : ¬ n < 0) (hN : n.toNatClampNeg = N') (hbytes : N' * componentBytes ty ≤ 536870912) (hcells : cells + 1 ≤ R.cells) (hslots : slots + N' ≤ R.slots) (hdg : decode cc pc = .ok (.newarray atype, 2))
    (kk : ∀ (H1 : Heap), va_P D cl (ws ++ [(H.size, .inl (cA0, a0))]) H1 → H1.size = H.size + 1 → va_S A H0 H1 locs → (∀ q : Nat, q < H.size → H1[q]? = H[q]?) →
      W p l e R s m args below meth c H1 locs (cells + 1) (slots + N') Q (F0 m (pc + 2) ls (.ref H.size :: rest))) : W p l e R s m args below meth c H locs cells slots Q (F0 m pc ls (.int n :: rest)) := by
  subst hty
  refine va_newaK hexec hb harr rfl hdg rfl hn hN hbytes hcells hslots rfl fun H1 cA e1 z1 o1 hAr hNm => ?_
  have hcc : cA = cA0 := Option.some.inj (hNm.symm.trans hcA)
  subst hcc
  have hk : ∀ (k : Nat) (x : Nat × va_E), ws[k]? = some x → H1[x.1]? = H[x.1]? := fun k x hx => o1 x.1 ((hP k x hx).lt)
  refine kk H1 ((hP.kept hk).app (fun k x hx => ?_)) z1 ⟨Nat.le_trans hS.1 (by omega), fun x h1 h2 => (o1 x (Nat.lt_of_lt_of_le h1 hS.1)).trans (hS.2.1 x h1 h2), hS.2.2⟩ o1
  have hz : k < 1 := (List.getElem?_eq_some_iff.mp hx).1
  rw [show k = 0 by omega] at hx
  cases hx
  show H1[H.size]? = some (vp_cell _ _)
  rw [ha]
  exact e1
theorem fr_newq (hexec : p.tables.exec = Jvm.exec) (hb : c.code = cc) {own C : String} {index : Nat} (hown : s.vm.findClass own = some m.cls) (hclink : (Cond.classLink own index C).before args s = true) (hover : va_AO C s) (hP : va_P D cl ws H) (hS : va_S A H0 H locs) {cA0 : ClassId} (hcA : s.vm.findClass ("[" ++ (FieldType.object C).toString) = some cA0)
    {n : Int32} {N' : Nat} (hn : ¬ n < 0) (hN : n.toNatClampNeg = N') (hbytes : N' * 4 ≤ 536870912) (hcells : cells + 1 ≤ R.cells) (hslots : slots + N' ≤ R.slots) (hdg : decode cc pc = .ok (.anewarray index, 3)) {f : Nat → Option Nat} (hf : ∀ i, f i = none)
    (kk : ∀ (H1 : Heap), va_P D cl (ws ++ [(H.size, .inl (cA0, N', .inr (.inr (.inr (.inr f)))))]) H1 → H1.size = H.size + 1 → va_S A H0 H1 locs → (∀ q : Nat, q < H.size → H1[q]? = H[q]?) →
      W p l e R s m args below meth c H1 locs (cells + 1) (slots + N') Q (F0 m (pc + 3) ls (.ref H.size :: rest))) : W p l e R s m args below meth c H locs cells slots Q (F0 m pc ls (.int n :: rest)) := by
  subst hN
  have hf' : f = fun _ => none := funext hf
  subst hf'
  refine W.anew hexec hb hown hclink (va_AO.use hover) rfl hdg rfl hn hbytes hcells hslots fun cA kA comp f1 f2 f3 f4 => ?_
  have hcc : cA = cA0 := Option.some.inj (f1.symm.trans hcA)
  subst hcc
  generalize hH1 : H.push ({ cls := cA, slots := Array.replicate n.toNatClampNeg .null, vm := .none } : Cell) = H1
  have z1 : H1.size = H.size + 1 := by rw [← hH1, Array.size_push]
  have e1 : H1[H.size]? = some (arrV cA n.toNatClampNeg (fun _ => .null)) := by rw [← hH1, Array.getElem?_push_size, ← arrV_new]
  have o1 : ∀ q : Nat, q < H.size → H1[q]? = H[q]? := fun q hq => by rw [← hH1, Array.getElem?_push, if_neg (Nat.ne_of_lt hq)]
  have hk : ∀ (k : Nat) (x : Nat × va_E), ws[k]? = some x → H1[x.1]? = H[x.1]? := fun k x hx => o1 x.1 ((hP k x hx).lt)
  refine kk H1 ((hP.kept hk).app (fun k x hx => ?_)) z1 ⟨Nat.le_trans hS.1 (by omega), fun x h1 h2 => (o1 x (Nat.lt_of_lt_of_le h1 hS.1)).trans (hS.2.1 x h1 h2), hS.2.2⟩ o1
  have hz : k < 1 := (List.getElem?_eq_some_iff.mp hx).1
  rw [show k = 0 by omega] at hx
  cases hx
  show H1[H.size]? = some (vp_cell _ _)
  rw [vp_cell_q]
  exact e1
end FMR
