section FMS
variable {p : Program} {l : Launch} {e : Env} {R : Room} {s : State} {m : MethodId} {args : Array Value} {below : List Frame} {meth : Method} {c : Code}
/-- what is fixed in a frame -/
def fm_Cx (p : Program) (s : State) (m : MethodId) (args : Array Value) (meth : Method) (c : Code) (sts : fm_St) (ncs : fm_Nc) (X : Nat × (Nat → Int32)) (B b nL : Nat) (aC : Nat → ClassId) (D : va_G) (cc : ByteArray) (own : String) : Prop :=
  p.tables.exec = Jvm.exec ∧ c.code = cc ∧ c.maxLocals = nL ∧ s.vm.findClass own = some m.cls ∧ (∀ w ∈ fm_TG, w.before args s = true) ∧ fm_Ps sts ncs X B b aC D s ∧ meth.locks = false
/-- from every state of the machine that is the frame f, Q is reached -/
def fm_WW (p : Program) (l : Launch) (e : Env) (R : Room) (s : State) (m : MethodId) (args : Array Value) (below : List Frame) (meth : Method) (c : Code) (B b nL : Nat) (wd : Bool) (aC : Nat → ClassId) (D : va_G) (M0 : fm_M) (Q : State → Prop) (f : fm_F) : Prop :=
  ∀ (H : Heap) (locs : List Loc) (ls : Array Slot), fm_LH B b nL wd ls f.2.1 → fm_ok f.2.2.2.2 f.2.1 f.2.2.1 → fm_Wd B aC D f.2.2.2 H → va_S (fm_A B) s.heap H locs →
    W p l e R s m args below meth c H locs (fm_cn f.2.2.2 - fm_cn M0) (fm_sn f.2.2.2 - fm_sn M0) Q (F0 m f.1 ls (f.2.2.1.map (fm_ren B b)))
variable {sts : fm_St} {ncs : fm_Nc} {X : Nat × (Nat → Int32)} {B b nL : Nat} {wd : Bool} {aC : Nat → ClassId} {D : va_G} {M0 : fm_M} {Q : State → Prop} {cc : ByteArray} {own : String}
variable {pc : Nat} {lo : List (Option fm_V)} {st : List fm_V} {M : fm_M} {g : fm_F}
theorem sm_push {i : Instr} {n : Nat} {v : fm_V} {nx : Nat} (C : fm_Cx p s m args meth c sts ncs X B b nL aC D cc own) (hv : fm_vok M.2 v)
    (row : ∀ (H : Heap) (locs : List Loc) (cells slots : Nat) (ls : Array Slot) (rest : List Value), W p l e R s m args below meth c H locs cells slots Q (F0 m nx ls (fm_ren B b v :: rest)) → W p l e R s m args below meth c H locs cells slots Q (F0 m pc ls rest))
    (k : fm_WW p l e R s m args below meth c B b nL wd aC D M0 Q (nx, lo, v :: st, M)) : fm_WW p l e R s m args below meth c B b nL wd aC D M0 Q (pc, lo, st, M) := by
  intro H locs ls hl ho hw hS
  exact row _ _ _ _ _ _ (k H locs ls hl (ho.push hv) hw hS)
theorem sm_iconst {n : Int} (C : fm_Cx p s m args meth c sts ncs X B b nL aC D cc own) (hd : decode cc pc = .ok (.iconst n, 1)) (k : fm_WW p l e R s m args below meth c B b nL wd aC D M0 Q (pc + 1, lo, .inl (.int (fm_k n)) :: st, M)) : fm_WW p l e R s m args below meth c B b nL wd aC D M0 Q (pc, lo, st, M) := by
  intro H locs ls hl ho hw hS
  exact lv_iconst C.1 C.2.1 hd (fm_k_const n) (k H locs ls hl (ho.push trivial) hw hS)
theorem sm_bipush {n : Int} (C : fm_Cx p s m args meth c sts ncs X B b nL aC D cc own) (hd : decode cc pc = .ok (.bipush n, 2)) (hn : (Int8.ofInt n).toInt32 = fm_k n) (k : fm_WW p l e R s m args below meth c B b nL wd aC D M0 Q (pc + 2, lo, .inl (.int (fm_k n)) :: st, M)) : fm_WW p l e R s m args below meth c B b nL wd aC D M0 Q (pc, lo, st, M) := by
  intro H locs ls hl ho hw hS
  exact lv_bipush C.1 C.2.1 hd hn (k H locs ls hl (ho.push trivial) hw hS)
theorem sm_sipush {n : Int} (C : fm_Cx p s m args meth c sts ncs X B b nL aC D cc own) (hd : decode cc pc = .ok (.sipush n, 3)) (hn : (Int16.ofInt n).toInt32 = fm_k n) (k : fm_WW p l e R s m args below meth c B b nL wd aC D M0 Q (pc + 3, lo, .inl (.int (fm_k n)) :: st, M)) : fm_WW p l e R s m args below meth c B b nL wd aC D M0 Q (pc, lo, st, M) := by
  intro H locs ls hl ho hw hS
  exact lv_sipush C.1 C.2.1 hd hn (k H locs ls hl (ho.push trivial) hw hS)
theorem sm_lconst {n : Fin 2} (C : fm_Cx p s m args meth c sts ncs X B b nL aC D cc own) (hd : decode cc pc = .ok (.lconst n, 1)) (k : fm_WW p l e R s m args below meth c B b nL wd aC D M0 Q (pc + 1, lo, .inl (.long (Int64.ofNat n)) :: st, M)) : fm_WW p l e R s m args below meth c B b nL wd aC D M0 Q (pc, lo, st, M) := by
  intro H locs ls hl ho hw hS
  exact lv_lconst C.1 C.2.1 hd rfl (k H locs ls hl (ho.push trivial) hw hS)
theorem sm_dconst (C : fm_Cx p s m args meth c sts ncs X B b nL aC D cc own) (hd : decode cc pc = .ok (.dconst 0, 1)) (k : fm_WW p l e R s m args below meth c B b nL wd aC D M0 Q (pc + 1, lo, .inl (.double FP.dconst0) :: st, M)) : fm_WW p l e R s m args below meth c B b nL wd aC D M0 Q (pc, lo, st, M) := by
  intro H locs ls hl ho hw hS
  exact lv_dconst0 C.1 C.2.1 hd (k H locs ls hl (ho.push trivial) hw hS)
theorem sm_load_inv {ok : Option fm_V → Bool} {nx i : Nat} (h : fm_load ok nx lo i st M = .inl g) : ∃ v, lo[i]? = some (some v) ∧ ok (some v) = true ∧ g = (nx, lo, v :: st, M) := by
  unfold fm_load at h
  split at h
  · rename_i v hv
    cases hk : ok (some v)
    · rw [hk, cond_false] at h; cases h
    · rw [hk, cond_true] at h; cases h; exact ⟨v, fm_ld_some hv, hk, rfl⟩
  · cases h
theorem sm_isI {v : fm_V} (h : fm_isI (some v) = true) : ∃ x, v = .inl (.int x) := by
  unfold fm_isI at h
  split at h
  · rename_i x hx; exact ⟨x, Option.some.inj hx⟩
  · cases h
theorem sm_isD {v : fm_V} (h : fm_isD (some v) = true) : ∃ x, v = .inl (.double x) := by
  unfold fm_isD at h
  split at h
  · rename_i x hx; exact ⟨x, Option.some.inj hx⟩
  · cases h
theorem sm_isA {v : fm_V} (h : fm_isA (some v) = true) : fm_cat v = 1 ∧ ∃ a, fm_ren B b v = .ref a := by
  unfold fm_isA at h
  split at h
  · rename_i x hx; cases hx; exact ⟨rfl, _, rfl⟩
  · rename_i x hx; cases hx; exact ⟨rfl, _, rfl⟩
  · cases h
theorem sm_iload_n {j : Fin 4} (C : fm_Cx p s m args meth c sts ncs X B b nL aC D cc own) (hd : decode cc pc = .ok (.iload_n j, 1)) (h : fm_load fm_isI (pc + 1) lo j st M = .inl g) (k : fm_WW p l e R s m args below meth c B b nL wd aC D M0 Q g) : fm_WW p l e R s m args below meth c B b nL wd aC D M0 Q (pc, lo, st, M) := by
  obtain ⟨v, h1, h2, rfl⟩ := sm_load_inv h
  obtain ⟨x, rfl⟩ := sm_isI h2
  intro H locs ls hl ho hw hS
  exact lv_iload_n C.1 C.2.1 hd rfl (hl.2.2.2.1 _ _ h1) (k H locs ls hl (ho.push trivial) hw hS)
theorem sm_iload {j : Nat} (C : fm_Cx p s m args meth c sts ncs X B b nL aC D cc own) (hd : decode cc pc = .ok (.iload j, 2)) (h : fm_load fm_isI (pc + 2) lo j st M = .inl g) (k : fm_WW p l e R s m args below meth c B b nL wd aC D M0 Q g) : fm_WW p l e R s m args below meth c B b nL wd aC D M0 Q (pc, lo, st, M) := by
  obtain ⟨v, h1, h2, rfl⟩ := sm_load_inv h
  obtain ⟨x, rfl⟩ := sm_isI h2
  intro H locs ls hl ho hw hS
  exact lv_iload C.1 C.2.1 hd (hl.2.2.2.1 _ _ h1) (k H locs ls hl (ho.push trivial) hw hS)
theorem sm_dload {j : Nat} (C : fm_Cx p s m args meth c sts ncs X B b nL aC D cc own) (hd : decode cc pc = .ok (.dload j, 2)) (h : fm_load fm_isD (pc + 2) lo j st M = .inl g) (k : fm_WW p l e R s m args below meth c B b nL wd aC D M0 Q g) : fm_WW p l e R s m args below meth c B b nL wd aC D M0 Q (pc, lo, st, M) := by
  obtain ⟨v, h1, h2, rfl⟩ := sm_load_inv h
  obtain ⟨x, rfl⟩ := sm_isD h2
  intro H locs ls hl ho hw hS
  exact lv_dload C.1 C.2.1 hd (hl.2.2.2.1 _ _ h1) (k H locs ls hl (ho.push trivial) hw hS)
theorem sm_aload_n {j : Fin 4} (C : fm_Cx p s m args meth c sts ncs X B b nL aC D cc own) (hd : decode cc pc = .ok (.aload_n j, 1)) (h : fm_load fm_isA (pc + 1) lo j st M = .inl g) (k : fm_WW p l e R s m args below meth c B b nL wd aC D M0 Q g) : fm_WW p l e R s m args below meth c B b nL wd aC D M0 Q (pc, lo, st, M) := by
  obtain ⟨v, h1, h2, rfl⟩ := sm_load_inv h
  obtain ⟨-, a, ha⟩ := sm_isA (B := B) (b := b) h2
  intro H locs ls hl ho hw hS
  have hg := k H locs ls hl (ho.push (ho.1 _ _ h1)) hw hS
  have hv := hl.2.2.2.1 _ _ h1
  simp only [List.map_cons] at hg
  rw [ha] at hg hv
  exact lv_aload_n C.1 C.2.1 hd rfl hv hg
theorem sm_aload {j : Nat} (C : fm_Cx p s m args meth c sts ncs X B b nL aC D cc own) (hd : decode cc pc = .ok (.aload j, 2)) (h : fm_load fm_isA (pc + 2) lo j st M = .inl g) (k : fm_WW p l e R s m args below meth c B b nL wd aC D M0 Q g) : fm_WW p l e R s m args below meth c B b nL wd aC D M0 Q (pc, lo, st, M) := by
  obtain ⟨v, h1, h2, rfl⟩ := sm_load_inv h
  obtain ⟨-, a, ha⟩ := sm_isA (B := B) (b := b) h2
  intro H locs ls hl ho hw hS
  have hg := k H locs ls hl (ho.push (ho.1 _ _ h1)) hw hS
  have hv := hl.2.2.2.1 _ _ h1
  simp only [List.map_cons] at hg
  rw [ha] at hg hv
  exact lv_aload C.1 C.2.1 hd hv hg
theorem sm_st_inv {w : List Nat} {nx i : Nat} {v : fm_V} {r : List fm_V} (h : fm_st w nx lo i v r M = .inl g) : (w = [] ∧ i < lo.length ∧ fm_cat v = 1 ∧ g = (nx, lo.set i (some v), r, M)) ∨ (w ≠ [] ∧ i + (fm_cat v - 1) < lo.length ∧ g = (nx, fm_sto lo i v, r, M)) := by
  unfold fm_st at h
  split at h
  · cases hc : (Nat.blt i lo.length && Nat.beq (fm_cat v) 1)
    · rw [hc, cond_false] at h; cases h
    · rw [hc, cond_true] at h; cases h
      simp only [Bool.and_eq_true] at hc
      exact Or.inl ⟨rfl, by simpa using hc.1, Nat.eq_of_beq_eq_true hc.2, rfl⟩
  · rename_i hw
    cases hc : Nat.blt (i + (fm_cat v - 1)) lo.length
    · rw [hc, cond_false] at h; cases h
    · rw [hc, cond_true] at h; cases h
      exact Or.inr ⟨fun e => hw e, by simpa using hc, rfl⟩
/-- a store of a narrow value -/
theorem sm_store1 {w : List Nat} {nx i : Nat} {v : fm_V} {st0 : List fm_V} (hwd : (w = [] → wd = false) ∧ (w ≠ [] → wd = true)) (h : fm_st w nx lo i v st M = .inl g) (hv : fm_cat v = 1)
    (hst : ∀ S, fm_ok S lo st0 → S = M.2 → fm_ok S lo st ∧ fm_vok S v)
    (row : ∀ (H : Heap) (locs : List Loc) (cells slots : Nat) (ls : Array Slot) (lv : List (Nat × Value)), lv_has ls nL lv → i < nL → fm_LH B b nL wd ls lo →
      (∀ ls' : Array Slot, lv_has ls' nL ((i, fm_ren B b v) :: lv.filter (fun q => !(q.1 == i) && !(q.1 + 1 == i && q.2.category == 2))) → W p l e R s m args below meth c H locs cells slots Q (F0 m nx ls' (st.map (fm_ren B b)))) →
      W p l e R s m args below meth c H locs cells slots Q (F0 m pc ls (st0.map (fm_ren B b))))
    (k : fm_WW p l e R s m args below meth c B b nL wd aC D M0 Q g) : fm_WW p l e R s m args below meth c B b nL wd aC D M0 Q (pc, lo, st0, M) := by
  intro H locs ls hl ho hw hS
  obtain ⟨ho1, ho2⟩ := hst _ ho rfl
  rcases sm_st_inv h with ⟨hw0, hi, -, rfl⟩ | ⟨hw0, hi, rfl⟩
  · have e := hwd.1 hw0
    subst e
    refine row H locs _ _ ls _ hl.has (by rw [← hl.2.1]; exact hi) hl fun ls' h' => ?_
    exact k H locs ls' (hl.set1 hv (by rw [← hl.2.1]; exact hi) h') (ho1.set ho2) hw hS
  · have e := hwd.2 hw0
    subst e
    rw [hv] at hi
    have hi' : i < lo.length := by omega
    refine row H locs _ _ ls _ hl.has (by rw [← hl.2.1]; exact hi') hl fun ls' h' => ?_
    exact k H locs ls' (hl.set2 (by rw [hv, ← hl.2.1]; omega) (Or.inl ⟨hv, h'⟩)) (ho1.sto ho2) hw hS
theorem sm_istore_n {j : Fin 4} {w : List Nat} {x : Int32} (C : fm_Cx p s m args meth c sts ncs X B b nL aC D cc own) (hd : decode cc pc = .ok (.istore_n j, 1)) (hwd : (w = [] → wd = false) ∧ (w ≠ [] → wd = true)) (h : fm_st w (pc + 1) lo j (.inl (.int x)) st M = .inl g) (k : fm_WW p l e R s m args below meth c B b nL wd aC D M0 Q g) : fm_WW p l e R s m args below meth c B b nL wd aC D M0 Q (pc, lo, .inl (.int x) :: st, M) :=
  sm_store1 hwd h rfl (fun S ho _ => ⟨ho.tail, trivial⟩) (fun H locs cells slots ls lv h1 h2 _ kk => lv_istore_n C.1 C.2.1 hd rfl h1 h2 rfl kk) k
theorem sm_istore {j : Nat} {w : List Nat} {x : Int32} (C : fm_Cx p s m args meth c sts ncs X B b nL aC D cc own) (hd : decode cc pc = .ok (.istore j, 2)) (hwd : (w = [] → wd = false) ∧ (w ≠ [] → wd = true)) (h : fm_st w (pc + 2) lo j (.inl (.int x)) st M = .inl g) (k : fm_WW p l e R s m args below meth c B b nL wd aC D M0 Q g) : fm_WW p l e R s m args below meth c B b nL wd aC D M0 Q (pc, lo, .inl (.int x) :: st, M) :=
  sm_store1 hwd h rfl (fun S ho _ => ⟨ho.tail, trivial⟩) (fun H locs cells slots ls lv h1 h2 _ kk => lv_istore C.1 C.2.1 hd h1 h2 rfl kk) k
theorem sm_astore_n {j : Fin 4} {w : List Nat} {v : fm_V} (C : fm_Cx p s m args meth c sts ncs X B b nL aC D cc own) (hd : decode cc pc = .ok (.astore_n j, 1)) (hwd : (w = [] → wd = false) ∧ (w ≠ [] → wd = true)) (hv : fm_isA (some v) = true) (h : fm_st w (pc + 1) lo j v st M = .inl g) (k : fm_WW p l e R s m args below meth c B b nL wd aC D M0 Q g) : fm_WW p l e R s m args below meth c B b nL wd aC D M0 Q (pc, lo, v :: st, M) := by
  obtain ⟨h1, a, ha⟩ := sm_isA (B := B) (b := b) hv
  refine sm_store1 hwd h h1 (fun S ho _ => ⟨ho.tail, ho.hd⟩) (fun H locs cells slots ls lv g1 g2 _ kk => ?_) k
  rw [ha] at kk
  simp only [List.map_cons]
  rw [ha]
  exact lv_astore_n C.1 C.2.1 hd rfl g1 g2 rfl kk
theorem sm_astore {j : Nat} {w : List Nat} {v : fm_V} (C : fm_Cx p s m args meth c sts ncs X B b nL aC D cc own) (hd : decode cc pc = .ok (.astore j, 2)) (hwd : (w = [] → wd = false) ∧ (w ≠ [] → wd = true)) (hv : fm_isA (some v) = true) (h : fm_st w (pc + 2) lo j v st M = .inl g) (k : fm_WW p l e R s m args below meth c B b nL wd aC D M0 Q g) : fm_WW p l e R s m args below meth c B b nL wd aC D M0 Q (pc, lo, v :: st, M) := by
  obtain ⟨h1, a, ha⟩ := sm_isA (B := B) (b := b) hv
  refine sm_store1 hwd h h1 (fun S ho _ => ⟨ho.tail, ho.hd⟩) (fun H locs cells slots ls lv g1 g2 _ kk => ?_) k
  rw [ha] at kk
  simp only [List.map_cons]
  rw [ha]
  exact lv_astore C.1 C.2.1 hd g1 g2 rfl kk
theorem sm_iinc {j : Nat} {n : Int} {w : List Nat} {x : Int32} (C : fm_Cx p s m args meth c sts ncs X B b nL aC D cc own) (hd : decode cc pc = .ok (.iinc j n, 3)) (hwd : (w = [] → wd = false) ∧ (w ≠ [] → wd = true)) (hx : fm_ld lo j = some (.inl (.int x))) (h : fm_st w (pc + 3) lo j (.inl (.int (x + fm_k n))) st M = .inl g) (k : fm_WW p l e R s m args below meth c B b nL wd aC D M0 Q g) : fm_WW p l e R s m args below meth c B b nL wd aC D M0 Q (pc, lo, st, M) := by
  refine sm_store1 hwd h rfl (fun S ho _ => ⟨ho, trivial⟩) (fun H locs cells slots ls lv g1 g2 hl kk => ?_) k
  have hh := hl.has
  obtain ⟨q, hq⟩ := List.getElem?_of_mem (fm_pl_in (B := B) (b := b) (fm_ld_some hx))
  have h0 : lv_has ls nL ((j, Value.int x) :: lv) := ⟨g1.1, g1.2.1, fun y hy => (List.mem_cons.mp hy).elim (fun e => by rw [e]; exact lv_at hh q hq) (g1.2.2 y)⟩
  refine lv_iinc C.1 C.2.1 hd h0 (k := 0) rfl (by rw [fm_k_const]) g2 rfl fun ls' h' => kk ls' ?_
  simp only [List.filter_cons, beq_self_eq_true, Bool.not_true, Bool.false_and] at h'
  exact h'
theorem sm_dstore {j : Nat} {w : Nat} {x : UInt64} (C : fm_Cx p s m args meth c sts ncs X B b nL aC D cc own) (hd : decode cc pc = .ok (.dstore j, 2)) (hwd : wd = true) (h : fm_st [w] (pc + 2) lo j (.inl (.double x)) st M = .inl g) (k : fm_WW p l e R s m args below meth c B b nL wd aC D M0 Q g) : fm_WW p l e R s m args below meth c B b nL wd aC D M0 Q (pc, lo, .inl (.double x) :: st, M) := by
  subst hwd
  rcases sm_st_inv h with ⟨hw0, -⟩ | ⟨-, hi, rfl⟩
  · cases hw0
  · intro H locs ls hl ho hw hS
    have hi' : j + 1 < lo.length := hi
    have hi2 : j + 1 < nL := by rw [← hl.2.1]; exact hi'
    refine lv_dstore C.1 C.2.1 hd hl.has hi2 rfl fun ls' h' => ?_
    have hl2 : fm_LH B b nL true ls' (fm_sto lo j (.inl (.double x))) := fm_LH.set2 (lo := lo) (i := j) (v := .inl (.double x)) hl hi2 (Or.inr ⟨rfl, h'⟩)
    have ho2 : fm_ok M.2 (fm_sto lo j (.inl (.double x))) st := fm_ok.sto (v := .inl (.double x)) (fm_ok.tail ho) trivial
    exact k H locs ls' hl2 ho2 hw hS
end FMS
