/-! Each step of the small machine is one of the machine's. -/
def fm_C (ci : Nat) : String := match ci with
  | 0 => RX0 | 1 => RX1 | 2 => RX2 | 3 => RX3 | 4 => RX4 | 5 => RX5 | _ => RX6
def fm_T (ci : Nat) : u_T := match ci with
  | 0 => TX0 | 1 => TX1 | 2 => TX2 | 3 => TX3 | 4 => TX4 | 5 => TX5 | _ => TX6
def fm_ty (ci : Nat) : Nat → FieldType := match ci with
  | 0 => tyX0 | 1 => tyX1 | 2 => tyX2 | 3 => tyX3 | 4 => tyX4 | 5 => tyX5 | _ => tyX6
def fm_n (ci : Nat) : Nat := fm_fN.getD ci 0
theorem fm_cls_at {ci : Nat} (h : ci < 7) : fm_cls[ci]? = some (fm_C ci, fm_T ci, fm_n ci) := by
  match ci, h with
  | 0, _ => rfl
  | 1, _ => rfl
  | 2, _ => rfl
  | 3, _ => rfl
  | 4, _ => rfl
  | 5, _ => rfl
  | 6, _ => rfl
  | k + 7, h => omega
set_option maxRecDepth 100000 in
theorem fm_in {ci : Nat} (h : ci < 7) : ∀ w ∈ u_ws (fm_C ci) (fm_T ci) (fm_n ci), w ∈ fm_TG := by
  match ci, h with
  | 0, _ => show ∀ w ∈ u_ws RX0 TX0 5, w ∈ fm_TG; decide +kernel
  | 1, _ => show ∀ w ∈ u_ws RX1 TX1 8, w ∈ fm_TG; decide +kernel
  | 2, _ => show ∀ w ∈ u_ws RX2 TX2 3, w ∈ fm_TG; decide +kernel
  | 3, _ => show ∀ w ∈ u_ws RX3 TX3 10, w ∈ fm_TG; decide +kernel
  | 4, _ => show ∀ w ∈ u_ws RX4 TX4 3, w ∈ fm_TG; decide +kernel
  | 5, _ => show ∀ w ∈ u_ws RX5 TX5 11, w ∈ fm_TG; decide +kernel
  | 6, _ => show ∀ w ∈ u_ws RX6 TX6 11, w ∈ fm_TG; decide +kernel
  | k + 7, h => omega
theorem fm_tyk {ci : Nat} (h : ci < 7) : ∀ k, k < fm_n ci → parseFieldDescriptor (fm_T ci k).2.2.1 = some (fm_ty ci k) := by
  match ci, h with
  | 0, _ => exact tyX0_ok
  | 1, _ => exact tyX1_ok
  | 2, _ => exact tyX2_ok
  | 3, _ => exact tyX3_ok
  | 4, _ => exact tyX4_ok
  | 5, _ => exact tyX5_ok
  | 6, _ => exact tyX6_ok
  | k + 7, h => omega
theorem fm_nmk {ci : Nat} (h : ci < 7) : ∀ a, a < fm_n ci → ∀ b, b < fm_n ci → a ≠ b → (fm_T ci a).2.1 ≠ (fm_T ci b).2.1 := by
  match ci, h with
  | 0, _ => exact nmX0
  | 1, _ => exact nmX1
  | 2, _ => exact nmX2
  | 3, _ => exact nmX3
  | 4, _ => exact nmX4
  | 5, _ => exact nmX5
  | 6, _ => exact nmX6
  | k + 7, h => omega
theorem fm_fN_n {ci n : Nat} (h : fm_fN[ci]? = some n) : fm_n ci = n := by
  unfold fm_n
  rw [List.getD, h]
  rfl
def fm_cn (M : fm_M) : Nat := M.2.length + M.1.2.2.2
def fm_sn (M : fm_M) : Nat := (M.2.map (fun q => q.2.1)).sum + 20 * M.1.2.2.2
/-- a value is one of the machine's -/
def fm_vok (S : List fm_Sc) (v : fm_V) : Prop := match v with
  | .inr q => q.1 = 3 ∨ (q.1 < 3 ∧ q.2 < 12 ∧ fm_pool S = true)
  | _ => True
def fm_ok (S : List fm_Sc) (lo : List (Option fm_V)) (st : List fm_V) : Prop := (∀ (i : Nat) (v : fm_V), lo[i]? = some (some v) → fm_vok S v) ∧ ∀ v ∈ st, fm_vok S v
def fm_LH (B b nL : Nat) (wd : Bool) (ls : Array Slot) (lo : List (Option fm_V)) : Prop := ls.size = nL ∧ lo.length = nL ∧ lv_wf ls ∧ (∀ (i : Nat) (v : fm_V), lo[i]? = some (some v) → ls[i]? = some (.val (fm_ren B b v))) ∧ (wd = false → ∀ (i : Nat) (v : fm_V), lo[i]? = some (some v) → fm_cat v = 1)
theorem fm_cat_ren (B b : Nat) (v : fm_V) : (fm_ren B b v).category = fm_cat v := by
  rcases v with v | q
  · cases v <;> rfl
  · rfl
theorem fm_csum_ren (B b : Nat) (st : List fm_V) : ((st.map (fm_ren B b)).map fun v => v.category).sum = fm_csum st := by
  induction st with
  | nil => rfl
  | cons v r ih =>
    simp only [List.map_cons, List.sum_cons, fm_csum, fm_cat_ren]
    rw [← ih]
theorem fm_k_const (n : Int) : Int32.ofInt n = fm_k n := by
  cases n with
  | ofNat k => rfl
  | negSucc k => rfl
theorem fm_ld_some {lo : List (Option fm_V)} {i : Nat} {v : fm_V} (h : fm_ld lo i = some v) : lo[i]? = some (some v) := by
  unfold fm_ld at h
  split at h
  · rename_i w hw; cases h; exact hw
  · cases h
/-- the locals as a list of places -/
def fm_pl (B b : Nat) (lo : List (Option fm_V)) : List (Nat × Value) := (List.range lo.length).filterMap fun i => match lo[i]? with
  | some (some v) => some (i, fm_ren B b v)
  | _ => none
theorem fm_pl_in {B b : Nat} {lo : List (Option fm_V)} {i : Nat} {v : fm_V} (h : lo[i]? = some (some v)) : (i, fm_ren B b v) ∈ fm_pl B b lo := by
  have hi : i < lo.length := (List.getElem?_eq_some_iff.mp h).1
  unfold fm_pl
  refine List.mem_filterMap.mpr ⟨i, List.mem_range.mpr hi, ?_⟩
  rw [h]
theorem fm_pl_of {B b : Nat} {lo : List (Option fm_V)} {q : Nat × Value} (h : q ∈ fm_pl B b lo) : ∃ v, lo[q.1]? = some (some v) ∧ q.2 = fm_ren B b v := by
  unfold fm_pl at h
  obtain ⟨i, -, hi⟩ := List.mem_filterMap.mp h
  split at hi
  · rename_i v hv; cases hi; exact ⟨v, hv, rfl⟩
  · cases hi
theorem fm_LH.has {B b nL : Nat} {wd : Bool} {ls : Array Slot} {lo : List (Option fm_V)} (h : fm_LH B b nL wd ls lo) : lv_has ls nL (fm_pl B b lo) := by
  refine ⟨h.1, h.2.2.1, fun q hq => ?_⟩
  obtain ⟨v, h1, h2⟩ := fm_pl_of hq
  rw [h2]
  exact h.2.2.2.1 _ _ h1
/-- a narrow store, where the locals are narrow -/
theorem fm_LH.set1 {B b nL : Nat} {ls ls' : Array Slot} {lo : List (Option fm_V)} {i : Nat} {v : fm_V} (h : fm_LH B b nL false ls lo) (hv : fm_cat v = 1) (hi : i < nL) (h' : lv_has ls' nL ((i, fm_ren B b v) :: (fm_pl B b lo).filter (fun q => !(q.1 == i) && !(q.1 + 1 == i && q.2.category == 2)))) : fm_LH B b nL false ls' (lo.set i (some v)) := by
  obtain ⟨h1, h2, h3, h4, h5⟩ := h
  refine ⟨h'.1, by rw [List.length_set]; exact h2, h'.2.1, fun j w hj => ?_, fun _ j w hj => ?_⟩
  · by_cases hij : i = j
    · subst hij
      rw [List.getElem?_set_self (by omega)] at hj
      cases hj
      exact h'.2.2 _ List.mem_cons_self
    · rw [List.getElem?_set_ne hij] at hj
      refine h'.2.2 (j, fm_ren B b w) (List.mem_cons_of_mem _ (List.mem_filter.mpr ⟨fm_pl_in hj, ?_⟩))
      have hc := h5 rfl j w hj
      have : ¬ j = i := fun e => hij e.symm
      simp [this, fm_cat_ren, hc]
  · by_cases hij : i = j
    · subst hij
      rw [List.getElem?_set_self (by omega)] at hj
      cases hj
      exact hv
    · rw [List.getElem?_set_ne hij] at hj
      exact h5 rfl j w hj
theorem fm_cat12 (v : fm_V) : fm_cat v = 1 ∨ fm_cat v = 2 := by
  unfold fm_cat
  split <;> simp
theorem fm_cl_at {lo : List (Option fm_V)} {i j : Nat} {w : fm_V} (h : (fm_cl lo i)[j]? = some (some w)) : lo[j]? = some (some w) ∧ (j + 1 = i → fm_cat w = 1) := by
  cases i with
  | zero => exact ⟨h, fun e => by omega⟩
  | succ k =>
    unfold fm_cl at h
    dsimp only at h
    split at h
    · rename_i v hv
      cases hb : Nat.beq (fm_cat v) 2
      · rw [hb, cond_false] at h
        refine ⟨h, fun e => ?_⟩
        have hjk : j = k := by omega
        subst hjk
        rw [hv] at h
        have hvw : v = w := Option.some.inj (Option.some.inj h)
        subst hvw
        rcases fm_cat12 v with h1 | h2
        · exact h1
        · rw [h2] at hb; cases hb
      · rw [hb, cond_true] at h
        by_cases hjk : k = j
        · subst hjk
          have hk : k < lo.length := (List.getElem?_eq_some_iff.mp hv).1
          rw [List.getElem?_set_self hk] at h
          cases h
        · rw [List.getElem?_set_ne hjk] at h
          exact ⟨h, fun e => by omega⟩
    · rename_i hv
      refine ⟨h, fun e => ?_⟩
      have hjk : j = k := by omega
      subst hjk
      exact absurd h (hv w)
theorem fm_cl_len (lo : List (Option fm_V)) (i : Nat) : (fm_cl lo i).length = lo.length := by
  unfold fm_cl
  split
  · rfl
  · split
    · rename_i v _
      cases Nat.beq (fm_cat v) 2 <;> simp
    · rfl
theorem fm_LH.set2 {B b nL : Nat} {ls ls' : Array Slot} {lo : List (Option fm_V)} {i : Nat} {v : fm_V} (h : fm_LH B b nL true ls lo) (hi : i + (fm_cat v - 1) < nL)
    (h' : (fm_cat v = 1 ∧ lv_has ls' nL ((i, fm_ren B b v) :: (fm_pl B b lo).filter (fun q => !(q.1 == i) && !(q.1 + 1 == i && q.2.category == 2)))) ∨ (fm_cat v = 2 ∧ lv_has ls' nL ((i, fm_ren B b v) :: (fm_pl B b lo).filter (fun q => !(q.1 == i) && (!(q.1 == i + 1) && !(q.1 + 1 == i && q.2.category == 2)))))) : fm_LH B b nL true ls' (fm_sto lo i v) := by
  obtain ⟨h1, h2, h3, h4, h5⟩ := h
  have hcl : ((fm_cl lo i).set i (some v)).length = nL := by rw [List.length_set, fm_cl_len, h2]
  rcases h' with ⟨hv, h'⟩ | ⟨hv, h'⟩
  · have hs : fm_sto lo i v = (fm_cl lo i).set i (some v) := by unfold fm_sto; rw [hv]; rfl
    rw [hs]
    refine ⟨h'.1, hcl, h'.2.1, fun j w hj => ?_, fun e => by cases e⟩
    by_cases hij : i = j
    · subst hij
      rw [List.getElem?_set_self (by rw [fm_cl_len]; omega)] at hj
      cases hj
      exact h'.2.2 _ List.mem_cons_self
    · rw [List.getElem?_set_ne hij] at hj
      obtain ⟨g1, g2⟩ := fm_cl_at hj
      refine h'.2.2 (j, fm_ren B b w) (List.mem_cons_of_mem _ (List.mem_filter.mpr ⟨fm_pl_in g1, ?_⟩))
      have : ¬ j = i := fun e => hij e.symm
      by_cases hji : j + 1 = i
      · simp [this, fm_cat_ren, g2 hji]
      · simp [this, hji]
  · have hs : fm_sto lo i v = ((fm_cl lo i).set i (some v)).set (i + 1) none := by unfold fm_sto; rw [hv]; rfl
    rw [hs]
    refine ⟨h'.1, by rw [List.length_set]; exact hcl, h'.2.1, fun j w hj => ?_, fun e => by cases e⟩
    rw [hv] at hi
    by_cases hij1 : i + 1 = j
    · subst hij1
      rw [List.getElem?_set_self (by omega)] at hj
      cases hj
    · rw [List.getElem?_set_ne hij1] at hj
      by_cases hij : i = j
      · subst hij
        rw [List.getElem?_set_self (by rw [fm_cl_len]; omega)] at hj
        cases hj
        exact h'.2.2 _ List.mem_cons_self
      · rw [List.getElem?_set_ne hij] at hj
        obtain ⟨g1, g2⟩ := fm_cl_at hj
        refine h'.2.2 (j, fm_ren B b w) (List.mem_cons_of_mem _ (List.mem_filter.mpr ⟨fm_pl_in g1, ?_⟩))
        have n1 : ¬ j = i := fun e => hij e.symm
        have n2 : ¬ j = i + 1 := fun e => hij1 e.symm
        by_cases hji : j + 1 = i
        · simp [n1, n2, fm_cat_ren, g2 hji]
        · simp [n1, n2, hji]
theorem fm_ok.push {S : List fm_Sc} {lo : List (Option fm_V)} {st : List fm_V} {v : fm_V} (h : fm_ok S lo st) (hv : fm_vok S v) : fm_ok S lo (v :: st) := ⟨h.1, fun w hw => (List.mem_cons.mp hw).elim (fun e => by rw [e]; exact hv) (h.2 w)⟩
theorem fm_ok.tail {S : List fm_Sc} {lo : List (Option fm_V)} {st : List fm_V} {v : fm_V} (h : fm_ok S lo (v :: st)) : fm_ok S lo st := ⟨h.1, fun w hw => h.2 w (List.mem_cons_of_mem _ hw)⟩
theorem fm_ok.hd {S : List fm_Sc} {lo : List (Option fm_V)} {st : List fm_V} {v : fm_V} (h : fm_ok S lo (v :: st)) : fm_vok S v := h.2 v List.mem_cons_self
theorem fm_ok.set {S : List fm_Sc} {lo : List (Option fm_V)} {st : List fm_V} {i : Nat} {v : fm_V} (h : fm_ok S lo st) (hv : fm_vok S v) : fm_ok S (lo.set i (some v)) st := by
  refine ⟨fun j w hj => ?_, h.2⟩
  by_cases hij : i = j
  · subst hij
    by_cases hl : i < lo.length
    · rw [List.getElem?_set_self hl] at hj; cases hj; exact hv
    · rw [List.getElem?_eq_none (by rw [List.length_set]; omega)] at hj; cases hj
  · rw [List.getElem?_set_ne hij] at hj
    exact h.1 j w hj
theorem fm_ok.setN {S : List fm_Sc} {lo : List (Option fm_V)} {st : List fm_V} {i : Nat} (h : fm_ok S lo st) : fm_ok S (lo.set i none) st := by
  refine ⟨fun j w hj => ?_, h.2⟩
  by_cases hij : i = j
  · subst hij
    by_cases hl : i < lo.length
    · rw [List.getElem?_set_self hl] at hj; cases hj
    · rw [List.getElem?_eq_none (by rw [List.length_set]; omega)] at hj; cases hj
  · rw [List.getElem?_set_ne hij] at hj
    exact h.1 j w hj
theorem fm_ok.sto {S : List fm_Sc} {lo : List (Option fm_V)} {st : List fm_V} {i : Nat} {v : fm_V} (h : fm_ok S lo st) (hv : fm_vok S v) : fm_ok S (fm_sto lo i v) st := by
  have hc : fm_ok S (fm_cl lo i) st := ⟨fun j w hj => h.1 j w (fm_cl_at hj).1, h.2⟩
  unfold fm_sto
  cases Nat.beq (fm_cat v) 2
  · exact hc.set hv
  · exact (hc.set hv).setN
theorem fm_ok.mono {S S' : List fm_Sc} {lo : List (Option fm_V)} {st : List fm_V} (h : fm_ok S lo st) (hp : fm_pool S = true → fm_pool S' = true) : fm_ok S' lo st := by
  have hv : ∀ v, fm_vok S v → fm_vok S' v := by
    intro v hv
    rcases v with v | q
    · trivial
    · exact hv.imp id fun z => ⟨z.1, z.2.1, hp z.2.2⟩
  exact ⟨fun i v hi => hv v (h.1 i v hi), fun v hm => hv v (h.2 v hm)⟩
theorem fm_pool_at {S : List fm_Sc} (h : fm_pool S = true) {j : Nat} (hj : j < 12) : S[fm_pc 0 j]? = some (4, 3, [some (fm_pc 1 j), some (fm_pc 2 j), none]) ∧ S[fm_pc 1 j]? = some (11, 5, []) ∧ S[fm_pc 2 j]? = some (10, 5, []) := by
  unfold fm_pool at h
  have h1 := List.all_eq_true.mp h j (List.mem_range.mpr hj)
  unfold fm_poolRow at h1
  simp only [Bool.and_eq_true, beq_iff_eq] at h1
  exact ⟨h1.1.1, h1.1.2, h1.2⟩
theorem fm_vok2 {S : List fm_Sc} {t j : Nat} (h : fm_vok S (.inr (t, j))) (ht : t ≠ 3) : t < 3 ∧ j < 12 ∧ fm_pool S = true := h.elim (fun z => absurd z ht) id
/-- an array's cell -/
theorem fm_arr_at {S : List fm_Sc} {v : fm_V} {q : Nat × Nat × Nat} (h : fm_arr v S = some q) (hv : fm_vok S v) (hl : S.length ≤ 1000) (B b : Nat) : ∃ rs, S[q.1]? = some (q.2.1, q.2.2, rs) ∧ fm_ren B b v = .ref (B + q.1) := by
  unfold fm_arr at h
  split at h
  · rename_i c
    split at h
    · rename_i x hx
      cases h
      have hc : c < S.length := (List.getElem?_eq_some_iff.mp hx).1
      have hcs : ¬ c = fm_scr := fun e => by
        have h1 : (999999 : Nat) < S.length := by rw [e] at hc; exact hc
        omega
      refine ⟨x.2.2, hx, ?_⟩
      show Value.ref (if c = fm_scr then b else B + c) = _
      rw [if_neg hcs]
    · cases h
  · rename_i t j
    split at h
    · cases hp : fm_pool S
      · rw [hp, cond_false] at h; cases h
      · rw [hp, cond_true] at h; cases h
        exact ⟨[], (fm_pool_at hp (fm_vok2 hv (by decide)).2.1).2.1, rfl⟩
    · cases hp : fm_pool S
      · rw [hp, cond_false] at h; cases h
      · rw [hp, cond_true] at h; cases h
        exact ⟨[], (fm_pool_at hp (fm_vok2 hv (by decide)).2.1).2.2, rfl⟩
    · cases h
  · cases h
