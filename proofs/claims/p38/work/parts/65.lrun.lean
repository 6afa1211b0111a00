/-! the law's way to its loop's head: the small machine's run over numbers -/
abbrev gs_V : Type := Nat × Nat
/-- stores of ints, stores of longs, shapes -/
abbrev gs_M : Type := List (Nat × Nat × Nat) × List (Nat × Nat × Nat) × List fm_Sc
abbrev gs_F : Type := Nat × List (Option gs_V) × List gs_V × gs_M
def gs_v (v : gs_V) : fm_V := match v.1 with
  | 0 => .inl (.ref v.2)
  | 1 => .inl (.int (nI v.2))
  | _ => .inl (.long (Int64.ofNat v.2))
def gs_i (U : List (Nat × Nat × Nat)) : Nat → Nat → Int32 := match U with
  | [] => fun _ _ => 0
  | u :: r => fm_uI (gs_i r) u.1 u.2.1 (nI u.2.2)
def gs_l (U : List (Nat × Nat × Nat)) : Nat → Nat → Int64 := match U with
  | [] => fun _ _ => 0
  | u :: r => fm_uI (gs_l r) u.1 u.2.1 (Int64.ofNat u.2.2)
def gs_Mm (M : gs_M) : fm_M := ((gs_i M.1, gs_l M.2.1, fun _ _ => 0, 0), M.2.2)
def gs_lo (lo : List (Option gs_V)) : List (Option fm_V) := lo.map (Option.map gs_v)
def gs_st (st : List gs_V) : List fm_V := st.map gs_v
def gs_f (f : gs_F) : fm_F := (f.1, gs_lo f.2.1, gs_st f.2.2.1, gs_Mm f.2.2.2)
def gs_nw (lo : List (Option gs_V)) (k : Nat) : Bool := match k with
  | 0 => true
  | j + 1 => match lo[j]? with
    | some (some v) => Nat.blt v.1 2
    | _ => true
def gs_new (nx : Nat) (lo : List (Option gs_V)) (st : List gs_V) (M : gs_M) (q : fm_Sc) : Option gs_F := cond (Nat.blt M.2.2.length fm_L0) (some (nx, lo, (0, M.2.2.length) :: st, (M.1, M.2.1, M.2.2 ++ [q]))) none
/-- a step that calls nothing -/
def gs_step (e : fm_En) (lo : List (Option gs_V)) (st : List gs_V) (M : gs_M) : Option gs_F := match e.2.1 with
  | .iconst n => match n with
    | .ofNat k => some (e.1 + 1, lo, (1, k) :: st, M)
    | _ => none
  | .bipush n => match n with
    | .ofNat k => some (e.1 + 2, lo, (1, k) :: st, M)
    | _ => none
  | .sipush n => match n with
    | .ofNat k => some (e.1 + 3, lo, (1, k) :: st, M)
    | _ => none
  | .lconst n => some (e.1 + 1, lo, (2, n.val) :: st, M)
  | .aload_n k => match lo[k.val]? with
    | some (some (0, c)) => some (e.1 + 1, lo, (0, c) :: st, M)
    | _ => none
  | .iload_n k => match lo[k.val]? with
    | some (some (1, c)) => some (e.1 + 1, lo, (1, c) :: st, M)
    | _ => none
  | .dup => match st with
    | v :: r => cond (Nat.blt v.1 2) (some (e.1 + 1, lo, v :: v :: r, M)) none
    | _ => none
  | .new _ => match e.2.2.2 with
    | [0, ci, n, _] => gs_new (e.1 + 3) lo st M (ci, n, List.replicate n none)
    | _ => none
  | .newarray _ => match e.2.2.2, st with
    | [kd], (1, n) :: r => cond (Nat.ble n 1000) (gs_new (e.1 + 2) lo r M (kd, n, [])) none
    | _, _ => none
  | .anewarray _ => match st with
    | (1, n) :: r => cond (Nat.ble n 1000) (gs_new (e.1 + 3) lo r M (14, n, List.replicate n none)) none
    | _ => none
  | .getfield _ => match e.2.2.2, st with
    | [ci, k, 2, _], (0, c) :: r => match M.2.2[c]? with
      | some q => cond (Nat.beq q.1 ci) (match q.2.2[k]? with
        | some (some j) => some (e.1 + 3, lo, (0, j) :: r, M)
        | _ => none) none
      | none => none
    | _, _ => none
  | .putfield _ => match e.2.2.2, st with
    | [ci, k, fk, _], x :: (0, c) :: r => match M.2.2[c]? with
      | some q => cond (Nat.beq q.1 ci && Nat.blt k q.2.1) (match fk, x with
        | 0, (1, y) => some (e.1 + 3, lo, r, ((c, k, y) :: M.1, M.2.1, M.2.2))
        | 1, (2, y) => some (e.1 + 3, lo, r, (M.1, (c, k, y) :: M.2.1, M.2.2))
        | 2, (0, j) => cond (Nat.blt j M.2.2.length && Nat.blt k q.2.2.length && (!(fm_pool M.2.2) || fm_pool (M.2.2.set c (q.1, q.2.1, q.2.2.set k (some j))))) (some (e.1 + 3, lo, r, (M.1, M.2.1, M.2.2.set c (q.1, q.2.1, q.2.2.set k (some j))))) none
        | _, _ => none) none
      | none => none
    | _, _ => none
  | .aastore => match st with
    | (0, j) :: (1, i) :: (0, c) :: r => cond (Nat.blt i 1000) (match M.2.2[c]?, M.2.2[j]? with
      | some q, some q' => cond (Nat.blt i q.2.1) (cond (Nat.beq q.1 14 && Nat.beq q'.1 4 && Nat.blt i q.2.2.length && (!(fm_pool M.2.2) || fm_pool (M.2.2.set c (q.1, q.2.1, q.2.2.set i (some j))))) (some (e.1 + 1, lo, r, (M.1, M.2.1, M.2.2.set c (q.1, q.2.1, q.2.2.set i (some j))))) none) none
      | _, _ => none) none
    | _ => none
  | .bastore => match st with
    | (1, 1) :: (1, i) :: (0, c) :: r => cond (Nat.blt i 1000) (match M.2.2[c]? with
      | some q => cond (Nat.beq q.1 11 && Nat.blt i q.2.1) (some (e.1 + 1, lo, r, ((c, i, 1) :: M.1, M.2.1, M.2.2))) none
      | none => none) none
    | _ => none
  | .iinc k n => match lo[k]?, n, e.2.2.2 with
    | some (some (1, x)), .ofNat m, [] => cond (Nat.blt k lo.length) (some (e.1 + 3, lo.set k (some (1, x + m)), st, M)) none
    | _, _, _ => none
  | .goto _ => match e.2.2.2 with
    | [tg] => some (tg, lo, st, M)
    | _ => none
  | .if_icmp c _ => match c, e.2.2.2, st with
    | .ge, [tg], (1, y) :: (1, x) :: r => cond (Nat.blt x 1000 && Nat.blt y 1000) (some (cond (Nat.ble y x) tg (e.1 + 3), lo, r, M)) none
    | _, _, _ => none
  | .istore_n k => match e.2.2.2, st with
    | [], (1, x) :: r => cond (Nat.blt k lo.length) (some (e.1 + 1, lo.set k (some (1, x)), r, M)) none
    | _, _ => none
  | .istore k => match e.2.2.2, st with
    | [_], (1, x) :: r => cond (Nat.blt k lo.length && gs_nw lo k) (some (e.1 + 2, lo.set k (some (1, x)), r, M)) none
    | _, _ => none
  | .astore_n k => match e.2.2.2, st with
    | [], (0, x) :: r => cond (Nat.blt k lo.length) (some (e.1 + 1, lo.set k (some (0, x)), r, M)) none
    | [_], (0, x) :: r => cond (Nat.blt k lo.length && gs_nw lo k) (some (e.1 + 1, lo.set k (some (0, x)), r, M)) none
    | _, _ => none
  | .astore k => match e.2.2.2, st with
    | [_], (0, x) :: r => cond (Nat.blt k lo.length && gs_nw lo k) (some (e.1 + 2, lo.set k (some (0, x)), r, M)) none
    | _, _ => none
  | _ => none
/-- what a step of the small machine gives is g -/
def gs_to (r : fm_R) (g : fm_F) : Prop := r = fm_go g ∨ (∃ c : fm_P, c.1 ∧ r = .inr (.inl (c, g))) ∨ (∃ (c : fm_P) (h : fm_F), c.1 ∧ r = .inr (.inr (.inl (c, g, h)))) ∨ ∃ (c : fm_P) (h : fm_F), ¬ c.1 ∧ r = .inr (.inr (.inl (c, h, g)))
theorem gs_to_ev {P : fm_Pr} {mi : Nat} {f g : fm_F} {Q : fm_O → fm_M → Prop} {e : fm_En} (he : fm_fetch (P.1 mi) f.1 = some e) (hs : gs_to (fm_step P.2.2.2 e f.2.1 f.2.2.1 f.2.2.2) g) (h : fm_Ev P mi g Q) : fm_Ev P mi f Q := by
  refine fm_Ev.step (fun n r hr => ?_) h
  rw [fm_run, he]
  dsimp only
  rcases hs with hs | ⟨c, hc, hs⟩ | ⟨c, q, hc, hs⟩ | ⟨c, q, hc, hs⟩
  · rw [hs]; exact hr
  · rw [hs]; dsimp only; rw [if_pos hc]; exact hr
  · rw [hs]; dsimp only; rw [if_pos hc]; exact hr
  · rw [hs]; dsimp only; rw [if_neg hc]; exact hr
theorem gs_ld {lo : List (Option gs_V)} {k : Nat} {v : gs_V} (h : lo[k]? = some (some v)) : fm_ld (gs_lo lo) k = some (gs_v v) := by
  unfold fm_ld gs_lo
  rw [List.getElem?_map, h]
  rfl
theorem gs_cat {v : gs_V} (h : Nat.blt v.1 2 = true) : fm_cat (gs_v v) = 1 := by
  obtain ⟨t, k⟩ := v
  match t, h with
  | 0, _ => rfl
  | 1, _ => rfl
  | t + 2, h => exact absurd (Nat.le_of_ble_eq_true h) (by dsimp only; omega)
theorem gs_len (lo : List (Option gs_V)) : (gs_lo lo).length = lo.length := List.length_map ..
theorem gs_set (lo : List (Option gs_V)) (k : Nat) (v : gs_V) : gs_lo (lo.set k (some v)) = (gs_lo lo).set k (some (gs_v v)) := by
  unfold gs_lo
  rw [List.map_set]
  rfl
theorem gs_cl {lo : List (Option gs_V)} {k : Nat} (h : gs_nw lo k = true) : fm_cl (gs_lo lo) k = gs_lo lo := by
  cases k with
  | zero => rfl
  | succ j =>
    unfold gs_nw at h
    unfold fm_cl
    dsimp only at h ⊢
    have e : (gs_lo lo)[j]? = (lo[j]?).map (Option.map gs_v) := List.getElem?_map ..
    rw [e]
    cases hj : lo[j]? with
    | none => rfl
    | some o =>
      cases o with
      | none => rfl
      | some v =>
        rw [hj] at h
        have hc := gs_cat h
        show cond (Nat.beq (fm_cat (gs_v v)) 2) _ _ = _
        rw [hc]
        rfl
theorem gs_sto {lo : List (Option gs_V)} {k : Nat} {v : gs_V} (hv : Nat.blt v.1 2 = true) (h : gs_nw lo k = true) : fm_sto (gs_lo lo) k (gs_v v) = gs_lo (lo.set k (some v)) := by
  unfold fm_sto
  rw [gs_cat hv, gs_cl h, gs_set]
  rfl
theorem gs_st1 {w nx k : Nat} {lo : List (Option gs_V)} {v : gs_V} {r : List gs_V} {M : gs_M} (hk : Nat.blt k lo.length = true) (hv : Nat.blt v.1 2 = true) (h : gs_nw lo k = true) : fm_st [w] nx (gs_lo lo) k (gs_v v) (gs_st r) (gs_Mm M) = fm_go (gs_f (nx, lo.set k (some v), r, M)) := by
  unfold fm_st
  rw [gs_cat hv, gs_len, gs_sto hv h]
  show cond (Nat.blt k lo.length) _ _ = _
  rw [hk]
  rfl
theorem gs_st0 {nx k : Nat} {lo : List (Option gs_V)} {v : gs_V} {r : List gs_V} {M : gs_M} (hk : Nat.blt k lo.length = true) (hv : Nat.blt v.1 2 = true) : fm_st [] nx (gs_lo lo) k (gs_v v) (gs_st r) (gs_Mm M) = fm_go (gs_f (nx, lo.set k (some v), r, M)) := by
  unfold fm_st
  rw [gs_cat hv, gs_len]
  show cond (Nat.blt k lo.length && true) _ _ = _
  rw [hk, ← gs_set]
  rfl
theorem gs_newc {q : fm_Sc} {nx : Nat} {lo : List (Option gs_V)} {st : List gs_V} {M : gs_M} {g : gs_F} (h : gs_new nx lo st M q = some g) : fm_newc q (gs_Mm M) = some (M.2.2.length, gs_Mm (M.1, M.2.1, M.2.2 ++ [q])) ∧ g = (nx, lo, (0, M.2.2.length) :: st, (M.1, M.2.1, M.2.2 ++ [q])) := by
  unfold gs_new at h
  cases hb : Nat.blt M.2.2.length fm_L0
  · rw [hb] at h; cases h
  · rw [hb] at h
    refine ⟨?_, (Option.some.inj h).symm⟩
    unfold fm_newc
    show cond (Nat.blt M.2.2.length fm_L0 && true) _ _ = _
    rw [hb]
    rfl
section GS
variable {X : Nat × (Nat → Int32)} {pc len : Nat} {ann : List Nat} {lo : List (Option gs_V)} {st : List gs_V} {M : gs_M} {g : gs_F}
abbrev gs_K (X : Nat × (Nat → Int32)) (e : fm_En) (lo : List (Option gs_V)) (st : List gs_V) (M : gs_M) (g : gs_F) : Prop := gs_step e lo st M = some g → gs_to (fm_step X e (gs_lo lo) (gs_st st) (gs_Mm M)) (gs_f g)
theorem gs_iconst (n : Int) : gs_K X (pc, .iconst n, len, ann) lo st M g := by
  intro h
  dsimp only [gs_step] at h
  split at h
  · cases h; exact Or.inl rfl
  · cases h
theorem gs_bipush (n : Int) : gs_K X (pc, .bipush n, len, ann) lo st M g := by
  intro h
  dsimp only [gs_step] at h
  split at h
  · cases h; exact Or.inl rfl
  · cases h
theorem gs_sipush (n : Int) : gs_K X (pc, .sipush n, len, ann) lo st M g := by
  intro h
  dsimp only [gs_step] at h
  split at h
  · cases h; exact Or.inl rfl
  · cases h
theorem gs_lconst (n : Fin 2) : gs_K X (pc, .lconst n, len, ann) lo st M g := by
  intro h
  dsimp only [gs_step] at h
  cases h; exact Or.inl rfl
theorem gs_aload (k : Fin 4) : gs_K X (pc, .aload_n k, len, ann) lo st M g := by
  intro h
  dsimp only [gs_step] at h
  split at h
  · rename_i c hc
    cases h
    refine Or.inl ?_
    dsimp only [fm_step]
    unfold fm_load
    rw [gs_ld hc]
    rfl
  · cases h
theorem gs_iload (k : Fin 4) : gs_K X (pc, .iload_n k, len, ann) lo st M g := by
  intro h
  dsimp only [gs_step] at h
  split at h
  · rename_i c hc
    cases h
    refine Or.inl ?_
    dsimp only [fm_step]
    unfold fm_load
    rw [gs_ld hc]
    rfl
  · cases h
theorem gs_dup : gs_K X (pc, .dup, len, ann) lo st M g := by
  intro h
  dsimp only [gs_step] at h
  split at h
  · rename_i v r
    cases hb : Nat.blt v.1 2
    · rw [hb] at h; cases h
    · rw [hb] at h
      cases h
      refine Or.inl ?_
      show cond (Nat.beq (fm_cat (gs_v v)) 1) _ _ = _
      rw [gs_cat hb]
      rfl
  · cases h
theorem gs_nw_ (i : Nat) : gs_K X (pc, .new i, len, ann) lo st M g := by
  intro h
  dsimp only [gs_step] at h
  split at h
  · rename_i ci n j0
    obtain ⟨h1, rfl⟩ := gs_newc h
    refine Or.inl ?_
    show (match fm_newc (ci, n, List.replicate n none) (gs_Mm M) with
      | some q => fm_go (pc + 3, gs_lo lo, .inl (.ref q.1) :: gs_st st, q.2)
      | none => fm_no) = _
    rw [h1]
    first | done | rfl
  · cases h
theorem gs_newarray (i : ArrayType) : gs_K X (pc, .newarray i, len, ann) lo st M g := by
  intro h
  dsimp only [gs_step] at h
  split at h
  · rename_i kd n r
    cases hb : Nat.ble n 1000
    · rw [hb] at h; cases h
    · rw [hb, cond_true] at h
      have hn : n ≤ 1000 := Nat.le_of_ble_eq_true hb
      obtain ⟨h1, rfl⟩ := gs_newc h
      refine Or.inr (Or.inl ?_)
      rw [show gs_st ((1, n) :: r) = .inl (.int (nI n)) :: gs_st r from rfl]
      dsimp only [fm_step]
      rw [fz_t (by omega), h1]
      dsimp only
      rw [hb]
      exact ⟨⟨_, _⟩, nI_pos (by omega), rfl⟩
  · cases h
theorem gs_anewarray (i : Nat) : gs_K X (pc, .anewarray i, len, ann) lo st M g := by
  intro h
  dsimp only [gs_step] at h
  split at h
  · rename_i n r
    cases hb : Nat.ble n 1000
    · rw [hb] at h; cases h
    · rw [hb, cond_true] at h
      have hn : n ≤ 1000 := Nat.le_of_ble_eq_true hb
      obtain ⟨h1, rfl⟩ := gs_newc h
      refine Or.inr (Or.inl ?_)
      rw [show gs_st ((1, n) :: r) = .inl (.int (nI n)) :: gs_st r from rfl]
      dsimp only [fm_step]
      rw [fz_t (by omega), h1]
      dsimp only
      rw [hb]
      exact ⟨⟨_, _⟩, nI_pos (by omega), rfl⟩
  · cases h
theorem gs_getfield (i : Nat) : gs_K X (pc, .getfield i, len, ann) lo st M g := by
  intro h
  dsimp only [gs_step] at h
  split at h
  · rename_i ci k j0 c r
    split at h
    · rename_i q hq
      cases hb : Nat.beq q.1 ci
      · rw [hb] at h; cases h
      · rw [hb, cond_true] at h
        split at h
        · rename_i j hj
          cases h
          have e : fm_getf ci k 2 (.inl (.ref c)) (gs_Mm M) = some (.inl (.ref j)) := by
            unfold fm_getf
            dsimp only [gs_Mm]
            rw [hq]
            dsimp only
            rw [hb, cond_true, hj]
            first | done | rfl
          refine Or.inl ?_
          rw [show gs_st ((0, c) :: r) = .inl (.ref c) :: gs_st r from rfl]
          dsimp only [fm_step]
          rw [e]
          rfl
        · cases h
    · cases h
  · cases h
theorem gs_putfield (i : Nat) : gs_K X (pc, .putfield i, len, ann) lo st M g := by
  intro h
  dsimp only [gs_step] at h
  split at h
  · rename_i ci k fk j0 x c r
    split at h
    · rename_i q hq
      cases hb : (Nat.beq q.1 ci && Nat.blt k q.2.1)
      · rw [hb] at h; cases h
      · rw [hb, cond_true] at h
        refine Or.inl ?_
        have go : ∀ M', fm_putf ci k fk (.inl (.ref c)) (gs_v x) (gs_Mm M) = some M' → gs_f g = (pc + 3, gs_lo lo, gs_st r, M') → fm_step X (pc, .putfield i, len, [ci, k, fk, j0]) (gs_lo lo) (gs_st (x :: (0, c) :: r)) (gs_Mm M) = fm_go (gs_f g) := by
          intro M' e1 e2
          rw [show gs_st (x :: (0, c) :: r) = gs_v x :: .inl (.ref c) :: gs_st r from rfl]
          dsimp only [fm_step]
          rw [e1]
          exact congrArg fm_go e2.symm
        split at h
        · rename_i y
          cases h
          refine go _ ?_ rfl
          unfold fm_putf
          dsimp only [gs_Mm]
          rw [hq]
          dsimp only
          rw [hb]
          rfl
        · rename_i y
          cases h
          refine go _ ?_ rfl
          unfold fm_putf
          dsimp only [gs_Mm]
          rw [hq]
          dsimp only
          rw [hb]
          rfl
        · rename_i j
          cases hc : (Nat.blt j M.2.2.length && Nat.blt k q.2.2.length && (!(fm_pool M.2.2) || fm_pool (M.2.2.set c (q.1, q.2.1, q.2.2.set k (some j)))))
          · rw [hc] at h; cases h
          · rw [hc, cond_true] at h
            cases h
            refine go _ ?_ rfl
            unfold fm_putf
            dsimp only [gs_Mm]
            rw [hq]
            dsimp only
            rw [hb, cond_true]
            show cond (Nat.blt j M.2.2.length && Nat.blt k q.2.2.length && (!(fm_pool M.2.2) || fm_pool (M.2.2.set c (q.1, q.2.1, q.2.2.set k (some j))))) _ _ = _
            rw [hc]
            rfl
        · cases h
    · cases h
  · cases h
theorem gs_aastore : gs_K X (pc, .aastore, len, ann) lo st M g := by
  intro h
  dsimp only [gs_step] at h
  split at h
  · rename_i j i c r
    cases hi : Nat.blt i 1000
    · rw [hi] at h; cases h
    · rw [hi, cond_true] at h
      have hi' : i < 1000 := Nat.le_of_ble_eq_true hi
      split at h
      · rename_i q q' hq hq'
        cases hn : Nat.blt i q.2.1
        · rw [hn] at h; cases h
        · rw [hn, cond_true] at h
          have hn' : i < q.2.1 := Nat.le_of_ble_eq_true hn
          cases hc : (Nat.beq q.1 14 && Nat.beq q'.1 4 && Nat.blt i q.2.2.length && (!(fm_pool M.2.2) || fm_pool (M.2.2.set c (q.1, q.2.1, q.2.2.set i (some j)))))
          · rw [hc] at h; cases h
          · rw [hc, cond_true] at h
            cases h
            refine Or.inr (Or.inl ?_)
            rw [show gs_st ((0, j) :: (1, i) :: (0, c) :: r) = .inl (.ref j) :: .inl (.int (nI i)) :: .inl (.ref c) :: gs_st r from rfl]
            dsimp only [fm_step]
            rw [show (gs_Mm M).2 = M.2.2 from rfl, hq, hq']
            dsimp only
            have et : (nI i).toNatClampNeg = i := fz_t (by omega)
            have e1 : M.2.2.set c (q.1, q.2.1, q.2.2.set (nI i).toNatClampNeg (some j)) = M.2.2.set c (q.1, q.2.1, q.2.2.set i (some j)) := by rw [et]
            have e2 : (Nat.beq q.1 14 && Nat.beq q'.1 4 && Nat.blt (nI i).toNatClampNeg q.2.2.length && (!(fm_pool M.2.2) || fm_pool (M.2.2.set c (q.1, q.2.1, q.2.2.set (nI i).toNatClampNeg (some j))))) = true := by rw [et]; exact hc
            rw [e2, e1]
            exact ⟨⟨_, _⟩, fz_in hn' (by omega), rfl⟩
      · cases h
  · cases h
theorem gs_bastore : gs_K X (pc, .bastore, len, ann) lo st M g := by
  intro h
  dsimp only [gs_step] at h
  split at h
  · rename_i i c r
    cases hi : Nat.blt i 1000
    · rw [hi] at h; cases h
    · rw [hi, cond_true] at h
      have hi' : i < 1000 := Nat.le_of_ble_eq_true hi
      split at h
      · rename_i q hq
        cases hc : (Nat.beq q.1 11 && Nat.blt i q.2.1)
        · rw [hc] at h; cases h
        · rw [hc, cond_true] at h
          cases h
          rw [Bool.and_eq_true] at hc
          have hn' : i < q.2.1 := Nat.le_of_ble_eq_true hc.2
          refine Or.inr (Or.inl ?_)
          rw [show gs_st ((1, 1) :: (1, i) :: (0, c) :: r) = .inl (.int (nI 1)) :: .inl (.int (nI i)) :: .inl (.ref c) :: gs_st r from rfl]
          dsimp only [fm_step]
          have e : fm_arr (.inl (.ref c)) (gs_Mm M).2 = some (c, q.1, q.2.1) := by
            unfold fm_arr
            dsimp only [gs_Mm]
            simp only [hq]
          rw [e]
          dsimp only
          have e1 : fm_uI (gs_Mm M).1.1 c (nI i).toNatClampNeg (nI 1) = fm_uI (gs_Mm M).1.1 c i (nI 1) := by rw [fz_t (by omega)]
          rw [hc.1, fz_nb1, e1]
          exact ⟨⟨_, _⟩, fz_in hn' (by omega), rfl⟩
      · cases h
  · cases h
theorem gs_iinc (k : Nat) (n : Int) : gs_K X (pc, .iinc k n, len, ann) lo st M g := by
  intro h
  dsimp only [gs_step] at h
  split at h
  · rename_i x m hx
    cases hb : Nat.blt k lo.length
    · rw [hb] at h; cases h
    · rw [hb, cond_true] at h
      cases h
      refine Or.inl ?_
      dsimp only [fm_step]
      rw [gs_ld hx]
      show fm_st [] (pc + 3) (gs_lo lo) k (.inl (.int (nI x + nI m))) (gs_st st) (gs_Mm M) = _
      rw [nI_add]
      exact gs_st0 (v := (1, x + m)) hb rfl
  · cases h
theorem gs_goto (k : Int) : gs_K X (pc, .goto k, len, ann) lo st M g := by
  intro h
  dsimp only [gs_step] at h
  split at h
  · cases h
    exact Or.inl rfl
  · cases h
theorem gs_icmp (c : Jvm.ClassFile.Cond) (k : Int) : gs_K X (pc, .if_icmp c k, len, ann) lo st M g := by
  intro h
  dsimp only [gs_step] at h
  split at h
  · rename_i tg y x r
    cases hb : (Nat.blt x 1000 && Nat.blt y 1000)
    · rw [hb] at h; cases h
    · rw [hb, cond_true] at h
      rw [Bool.and_eq_true] at hb
      have hx : x < 1000 := Nat.le_of_ble_eq_true hb.1
      have hy : y < 1000 := Nat.le_of_ble_eq_true hb.2
      rw [show gs_st ((1, y) :: (1, x) :: r) = .inl (.int (nI y)) :: .inl (.int (nI x)) :: gs_st r from rfl]
      dsimp only [fm_step]
      unfold fm_icmp
      cases hc : Nat.ble y x
      · rw [hc] at h
        cases h
        have hlt : ¬ y ≤ x := fun z => by rw [Nat.ble_eq_true_of_le z] at hc; cases hc
        refine Or.inr (Or.inr (Or.inr ⟨⟨_, _⟩, _, ?_, rfl⟩))
        show ¬ nI y ≤ nI x
        rw [fz_le (by omega) (by omega)]
        exact hlt
      · rw [hc] at h
        cases h
        refine Or.inr (Or.inr (Or.inl ⟨⟨_, _⟩, _, ?_, rfl⟩))
        exact nI_le (Nat.le_of_ble_eq_true hc) (by omega)
  · cases h
theorem gs_istore_n (k : Fin 4) : gs_K X (pc, .istore_n k, len, ann) lo st M g := by
  intro h
  dsimp only [gs_step] at h
  split at h
  · rename_i x r
    cases hb : Nat.blt k.val lo.length
    · rw [hb] at h; cases h
    · rw [hb, cond_true] at h
      cases h
      exact Or.inl (gs_st0 (v := (1, x)) hb rfl)
  · cases h
theorem gs_istore (k : Nat) : gs_K X (pc, .istore k, len, ann) lo st M g := by
  intro h
  dsimp only [gs_step] at h
  split at h
  · rename_i w x r
    cases hb : (Nat.blt k lo.length && gs_nw lo k)
    · rw [hb] at h; cases h
    · rw [hb, cond_true] at h
      rw [Bool.and_eq_true] at hb
      cases h
      exact Or.inl (gs_st1 (w := w) (v := (1, x)) hb.1 rfl hb.2)
  · cases h
theorem gs_astore_n (k : Fin 4) : gs_K X (pc, .astore_n k, len, ann) lo st M g := by
  intro h
  dsimp only [gs_step] at h
  split at h
  · rename_i x r
    cases hb : Nat.blt k.val lo.length
    · rw [hb] at h; cases h
    · rw [hb, cond_true] at h
      cases h
      exact Or.inl (gs_st0 (v := (0, x)) hb rfl)
  · rename_i w x r
    cases hb : (Nat.blt k.val lo.length && gs_nw lo k.val)
    · rw [hb] at h; cases h
    · rw [hb, cond_true] at h
      rw [Bool.and_eq_true] at hb
      cases h
      exact Or.inl (gs_st1 (w := w) (v := (0, x)) hb.1 rfl hb.2)
  · cases h
theorem gs_astore (k : Nat) : gs_K X (pc, .astore k, len, ann) lo st M g := by
  intro h
  dsimp only [gs_step] at h
  split at h
  · rename_i w x r
    cases hb : (Nat.blt k lo.length && gs_nw lo k)
    · rw [hb] at h; cases h
    · rw [hb, cond_true] at h
      rw [Bool.and_eq_true] at hb
      cases h
      exact Or.inl (gs_st1 (w := w) (v := (0, x)) hb.1 rfl hb.2)
  · cases h
theorem gs_ok (ins : Instr) : gs_K X (pc, ins, len, ann) lo st M g := by
  cases ins with
  | iconst n => exact gs_iconst n
  | bipush n => exact gs_bipush n
  | sipush n => exact gs_sipush n
  | lconst n => exact gs_lconst n
  | aload_n k => exact gs_aload k
  | iload_n k => exact gs_iload k
  | dup => exact gs_dup
  | new i => exact gs_nw_ i
  | newarray i => exact gs_newarray i
  | anewarray i => exact gs_anewarray i
  | getfield i => exact gs_getfield i
  | putfield i => exact gs_putfield i
  | aastore => exact gs_aastore
  | bastore => exact gs_bastore
  | iinc k n => exact gs_iinc k n
  | goto k => exact gs_goto k
  | if_icmp c k => exact gs_icmp c k
  | istore_n k => exact gs_istore_n k
  | istore k => exact gs_istore k
  | astore_n k => exact gs_astore_n k
  | astore k => exact gs_astore k
  | _ => exact fun h => absurd (show (none : Option gs_F) = some g from h) (fun h9 => nomatch h9)
end GS
/-- how many words a stack takes -/
def gs_cs (st : List gs_V) : Nat := match st with
  | [] => 0
  | v :: r => cond (Nat.blt v.1 2) 1 2 + gs_cs r
theorem gs_cat2 (v : gs_V) : fm_cat (gs_v v) = cond (Nat.blt v.1 2) 1 2 := by
  cases hb : Nat.blt v.1 2
  · obtain ⟨t, k⟩ := v
    match t, hb with
    | 0, hb => cases hb
    | 1, hb => cases hb
    | t + 2, _ => rfl
  · exact gs_cat hb
theorem gs_csum (st : List gs_V) : fm_csum (gs_st st) = gs_cs st := by
  induction st with
  | nil => rfl
  | cons v r ih =>
    show fm_cat (gs_v v) + fm_csum (gs_st r) = cond (Nat.blt v.1 2) 1 2 + gs_cs r
    rw [ih, gs_cat2]
/-- the run: of method 0 to its place 28, of another one to its return -/
def gs_run : Nat → Nat → gs_F → Option gs_F
  | 0, _, _ => none
  | n + 1, mi, f => match fm_fetch (fm_codes.getD mi []) f.1 with
    | none => none
    | some e => cond ((Nat.beq mi 0 || Nat.beq mi 194) && Nat.beq f.1 8) (some f) (match e.2.1 with
      | .return_ => cond f.2.2.1.isEmpty (some f) none
      | .invokespecial _ => match e.2.2.2, f.2.2.1 with
        | [_], (0, _) :: r => cond (Nat.ble (gs_cs r) 8) (gs_run n mi (e.1 + 3, f.2.1, r, f.2.2.2)) none
        | [mj, _, 1, _], (0, c) :: r => cond (Nat.ble (gs_cs r) 8 && (Nat.blt 0 mj && Nat.blt mj 194)) (match gs_run n mj (0, some (0, c) :: List.replicate (fm_maxL.getD mj 0 - 1) none, [], f.2.2.2) with
          | some g => gs_run n mi (e.1 + 3, f.2.1, r, g.2.2.2)
          | none => none) none
        | _, _ => none
      | _ => match gs_step e f.2.1 f.2.2.1 f.2.2.2 with
        | some g => gs_run n mi g
        | none => none)
section GSR
variable {X : Nat × (Nat → Int32)}
theorem gs_entry (nL c : Nat) (M : gs_M) : gs_f (0, some (0, c) :: List.replicate (nL - 1) none, [], M) = fm_entry nL [.inl (.ref c)] (gs_Mm M) := by
  have e : gs_lo (some (0, c) :: List.replicate (nL - 1) none) = some (.inl (.ref c)) :: List.replicate (nL - 1) none := by
    show some (gs_v (0, c)) :: (List.replicate (nL - 1) none).map (Option.map gs_v) = _
    rw [List.map_replicate]
    rfl
  show (0, gs_lo (some (0, c) :: List.replicate (nL - 1) none), [], gs_Mm M) = _
  rw [e]
  rfl
theorem gs_ret {mi : Nat} {g : gs_F} {e : fm_En} {Q : fm_O → fm_M → Prop} (he : fm_fetch (fm_codes.getD mi []) g.1 = some e) (hr : e.2.1 = .return_) (hs : g.2.2.1 = []) (h : Q (.inl none) (gs_Mm g.2.2.2)) : fm_Ev (fm_PP X) mi (gs_f g) Q := by
  obtain ⟨pc, ins, len, ann⟩ := e
  obtain ⟨pg, lo, st, M⟩ := g
  dsimp only at hr hs h he
  subst hr
  subst hs
  refine ⟨1, (.inl none, gs_Mm M), ?_, h⟩
  have he' : fm_fetch ((fm_PP X).1 mi) (gs_f (pg, lo, [], M)).1 = some (pc, .return_, len, ann) := he
  rw [fm_run, he']
  rfl
theorem gs_run_ok : ∀ (n mi : Nat) (f g : gs_F), gs_run n mi f = some g → (∀ Q, fm_Ev (fm_PP X) mi (gs_f g) Q → fm_Ev (fm_PP X) mi (gs_f f) Q) ∧ (mi ≠ 0 → mi ≠ 194 → ∃ e, fm_fetch (fm_codes.getD mi []) g.1 = some e ∧ e.2.1 = .return_ ∧ g.2.2.1 = []) := by
  intro n
  induction n with
  | zero => intro mi f g h; cases h
  | succ n ih =>
    intro mi f g h
    obtain ⟨pc, lo, st, M⟩ := f
    unfold gs_run at h
    dsimp only at h
    split at h
    · cases h
    · rename_i e he
      obtain ⟨pc', ins, len, ann⟩ := e
      have he' : fm_fetch ((fm_PP X).1 mi) (gs_f (pc, lo, st, M)).1 = some (pc', ins, len, ann) := he
      dsimp only at h
      cases hb : ((Nat.beq mi 0 || Nat.beq mi 194) && Nat.beq pc 8)
      · rw [hb, cond_false] at h
        split at h
        · cases hs : st.isEmpty
          · rw [hs] at h; cases h
          · rw [hs] at h
            cases h
            exact ⟨fun Q q => q, fun _ _ => ⟨_, he, rfl, List.isEmpty_iff.mp hs⟩⟩
        · rename_i i
          split at h
          · rename_i j0 c r
            cases hc : Nat.ble (gs_cs r) 8
            · rw [hc] at h; cases h
            · rw [hc, cond_true] at h
              obtain ⟨a, b⟩ := ih _ _ _ h
              refine ⟨fun Q hq => gs_to_ev he' (Or.inl ?_) (a Q hq), b⟩
              show fm_step X (pc', .invokespecial i, len, [j0]) (gs_lo lo) (.inl (.ref c) :: gs_st r) (gs_Mm M) = _
              dsimp only [fm_step]
              rw [gs_csum, hc]
              rfl
          · rename_i mj rk j0 c r
            cases hc : (Nat.ble (gs_cs r) 8 && (Nat.blt 0 mj && Nat.blt mj 194))
            · rw [hc] at h; cases h
            · rw [hc, cond_true] at h
              rw [Bool.and_eq_true, Bool.and_eq_true] at hc
              split at h
              · rename_i g' hg'
                obtain ⟨a1, b1⟩ := ih _ _ _ hg'
                obtain ⟨a2, b2⟩ := ih _ _ _ h
                have hmj : mj ≠ 0 := by
                  have := Nat.le_of_ble_eq_true hc.2.1
                  omega
                have hmk : mj ≠ 194 := by
                  have := Nat.le_of_ble_eq_true hc.2.2
                  omega
                obtain ⟨e1, q1, q2, q3⟩ := b1 hmj hmk
                refine ⟨fun Q hq => ?_, b2⟩
                have hst : fm_step (fm_PP X).2.2.2 (pc', .invokespecial i, len, [mj, rk, 1, j0]) (gs_f (pc, lo, (0, c) :: r, M)).2.1 (gs_f (pc, lo, (0, c) :: r, M)).2.2.1 (gs_f (pc, lo, (0, c) :: r, M)).2.2.2 = fm_ca mj rk [.inl (.ref c)] (pc' + 3, gs_lo lo, gs_st r, gs_Mm M) := by
                  show fm_step X (pc', .invokespecial i, len, [mj, rk, 1, j0]) (gs_lo lo) (.inl (.ref c) :: gs_st r) (gs_Mm M) = _
                  dsimp only [fm_step]
                  unfold fm_calls
                  show cond (Nat.ble (fm_csum (gs_st r)) 8 && true && true) _ _ = _
                  rw [gs_csum, hc.1]
                  rfl
                refine fm_call he' hst ?_
                have := a1 (fun o M' => match o with
                  | .inl v => fm_Ev (fm_PP X) mi (fm_push v (pc' + 3, gs_lo lo, gs_st r, gs_Mm M) M') Q
                  | .inr x => (∃ q, fm_hnd ((fm_PP X).2.1 mi) pc x = some q ∧ fm_Ev (fm_PP X) mi (fm_hfr q (gs_lo lo) M') Q) ∨ (fm_hnd ((fm_PP X).2.1 mi) pc x = none ∧ Q (.inr x) M')) (gs_ret q1 q2 q3 (a2 Q hq))
                rw [gs_entry] at this
                exact this
              · cases h
          · cases h
        · split at h
          · rename_i g' hg
            obtain ⟨a, b⟩ := ih _ _ _ h
            exact ⟨fun Q hq => gs_to_ev he' (gs_ok ins hg) (a Q hq), b⟩
          · cases h
      · rw [hb, cond_true] at h
        rw [Bool.and_eq_true, Bool.or_eq_true] at hb
        cases h
        refine ⟨fun Q q => q, fun z y => ?_⟩
        rcases hb.1 with w | w
        · exact absurd (Nat.eq_of_beq_eq_true w) z
        · exact absurd (Nat.eq_of_beq_eq_true w) y
end GSR
