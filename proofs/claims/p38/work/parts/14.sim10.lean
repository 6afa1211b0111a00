/-! ends of a method, and its contract -/
def fm_Qc (B b : Nat) (aC : Nat → ClassId) (D : va_G) (r : fm_O × fm_M) : Array Value → State → Outcome → State → Prop := fun _ st o t => match r.1 with
  | .inl v => o = .returned (v.map (fm_ren B b)) ∧ fm_Wd B aC D r.2 t.heap ∧ va_F (fm_A B) st t
  | .inr _ => False
def fm_XC (B : Nat) (aC : Nat → ClassId) (D : va_G) (r : fm_O × fm_M) : String → State → State → Prop := fun E st t => match r.1 with
  | .inl _ => False
  | .inr x => E = fm_ex x ∧ fm_Wd B aC D r.2 t.heap ∧ va_F (fm_A B) st t
def fm_Pc (sts : fm_St) (ncs : fm_Nc) (X : Nat × (Nat → Int32)) (B b : Nat) (aC : Nat → ClassId) (D : va_G) (as : List fm_V) (M : fm_M) : Array Value → State → Prop := va_Pc (as.map (fm_ren B b)) (fun U => fm_Ps sts ncs X B b aC D U ∧ fm_Wd B aC D M U.heap ∧ ∀ v ∈ as, fm_vok M.2 v)
theorem fm_Pc_blind {sts : fm_St} {ncs : fm_Nc} {X : Nat × (Nat → Int32)} {B b : Nat} {aC : Nat → ClassId} {D : va_G} {as : List fm_V} {M : fm_M} : FrameBlind (fm_Pc sts ncs X B b aC D as M) := by
  intro a U g mk h
  obtain ⟨h1, h2, h3, h4⟩ := h
  exact ⟨h1, h2.eqv rfl rfl, h3, h4⟩
theorem fm_map_none {B b : Nat} : (Option.map (fm_ren B b) none) = none := rfl
/-- by which entry an exception's constructor hands its text on, and its bytes -/
def fm_exI (x : Nat) : Nat := match x with
  | 3 => 13
  | _ => 7
def fm_exB (x : Nat) : ByteArray := match x with
  | 3 => ⟨#[0x2a, 0x2b, 0xb7, 0x00, 0x0d, 0xb1]⟩
  | _ => ⟨#[0x2a, 0x2b, 0xb7, 0x00, 0x07, 0xb1]⟩
theorem fm_exB_0 (x : Nat) : decode (fm_exB x) 0 = .ok (.aload_n 0, 1) := by
  unfold fm_exB
  split <;> decide +kernel
theorem fm_exB_1 (x : Nat) : decode (fm_exB x) 1 = .ok (.aload_n 1, 1) := by
  unfold fm_exB
  split <;> decide +kernel
theorem fm_exB_2 (x : Nat) : decode (fm_exB x) 2 = .ok (.invokespecial (fm_exI x), 3) := by
  unfold fm_exB fm_exI
  split <;> decide +kernel
theorem fm_exB_5 (x : Nat) : decode (fm_exB x) 5 = .ok (.return_, 1) := by
  unfold fm_exB
  split <;> decide +kernel
/-- the tables' rows about throws -/
def fm_ThOk (T : fm_Tb) : Prop := ∀ q ∈ T.2.2.1, q.2.2.2.2.1 < 4 → (Cond.classLink q.1 q.2.1 (fm_ex q.2.2.2.2.1)) ∈ lw_tbl ∧ (Cond.initialized (fm_ex q.2.2.2.2.1)) ∈ lw_tbl ∧ (∀ w ∈ vx_atX q.1 q.2.2.2.1 (fm_ex q.2.2.2.2.1) (fm_exI q.2.2.2.2.1) (fm_exB q.2.2.2.2.1) fm_exN, w ∈ lw_tbl ∧ (goodWord w || (fm_mv w && w.onTables)) = true)
def fm_StOk (T : fm_Tb) (sts : fm_St) : Prop := ∀ q ∈ T.2.2.1, (q.1, q.2.2.1, q.2.2.2.2.2) ∈ sts
theorem fm_ex_fit (x : Nat) : Bundle.fit (fm_ex x) = true := by
  unfold fm_ex
  split <;> decide
theorem fm_exN_fit : ∀ n ∈ fm_exN, Bundle.fit n = true := by decide
section FMS10
variable {p : Program} {l : Launch} {e : Env} {R : Room} {s : State} {m : MethodId} {args : Array Value} {below : List Frame} {meth : Method} {c : Code}
variable {sts : fm_St} {ncs : fm_Nc} {X : Nat × (Nat → Int32)} {B b nL : Nat} {wd ini : Bool} {aC : Nat → ClassId} {D : va_G} {M0 : fm_M} {Q : State → Prop} {cc : ByteArray} {own : String} {T : fm_Tb} {cl : List fm_En} {rt : Option FieldType}
variable {pc : Nat} {lo : List (Option fm_V)} {st : List fm_V} {M : fm_M} {g : fm_F}
theorem fm_sel_at {lo : List (Option fm_V)} {r : List fm_V} {M : fm_M} {x : Int32} {d : fm_F} : ∀ (ts : List Nat) (k : Nat), k + ts.length ≤ 2000 → (∃ j t, ts[j]? = some t ∧ x = nI (k + j) ∧ fm_sel x (fm_swl lo r M k ts) d = (t, lo, r, M)) ∨ ((∀ j, j < ts.length → ¬ x = nI (k + j)) ∧ fm_sel x (fm_swl lo r M k ts) d = d) := by
  intro ts
  induction ts with
  | nil => intro k hk; exact Or.inr ⟨fun j hj => absurd hj (Nat.not_lt_zero j), rfl⟩
  | cons t ts ih =>
    intro k hk
    unfold fm_swl fm_sel
    by_cases hx : x = nI k
    · rw [if_pos hx]
      exact Or.inl ⟨0, t, rfl, hx, rfl⟩
    · rw [if_neg hx]
      rcases ih (k + 1) (by simp only [List.length_cons] at hk; omega) with ⟨j, t', h1, h2, h3⟩ | ⟨h1, h2⟩
      · exact Or.inl ⟨j + 1, t', h1, by rw [h2]; congr 1; omega, h3⟩
      · refine Or.inr ⟨fun j hj => ?_, h2⟩
        cases j with
        | zero => exact hx
        | succ j =>
          have := h1 j (by simp only [List.length_cons] at hj; omega)
          rw [show k + (j + 1) = k + 1 + j by omega]
          exact this
/-- a switch -/
theorem sm_sw {ins : Instr} {len : Nat} {ann : List Nat} {x : Int32} {sl : List (Int32 × fm_F)} {d : fm_F} (C : fm_Cx p s m args meth c sts ncs X B b nL aC D cc own) (hd : decode cc pc = .ok (ins, len)) (hck : fm_ck T cl own wd ini rt (pc, ins, len, ann) = true)
    (h : fm_step X (pc, ins, len, ann) lo st M = .inr (.inr (.inr (.inr (.inr (.inl (x, sl, d)))))))
    (k : fm_WW p l e R s m args below meth c B b nL wd aC D M0 Q (fm_sel x sl d)) : fm_WW p l e R s m args below meth c B b nL wd aC D M0 Q (pc, lo, st, M) := by
  unfold fm_ck at hck
  simp only [Bool.and_eq_true] at hck
  obtain ⟨hlen, hck⟩ := hck
  cases ins with
  | tableswitch d9 lo9 hi offs =>
    dsimp only [fm_step] at h
    split at h
    · rename_i dt ts x' r
      cases h
      dsimp only at hck
      simp only [Bool.and_eq_true] at hck
      obtain ⟨⟨⟨⟨h1, h2⟩, h3⟩, h4⟩, h5⟩ := hck
      have e1 := of_decide_eq_true h1
      have e2 := of_decide_eq_true h2
      have e3 := of_decide_eq_true h3
      have e4 := of_decide_eq_true h4
      have e5 : ts.length ≤ 1000 := by simpa using h5
      clear h1 h2 h3 h4 h5
      subst e1
      rcases fm_sel_at (lo := lo) (r := r) (M := M) (x := x) (d := (dt, lo, r, M)) ts 0 (by omega) with ⟨j, t, g1, g2, g3⟩ | ⟨g1, g2⟩
      · rw [g3] at k
        have hj : j < ts.length := (List.getElem?_eq_some_iff.mp g1).1
        have hx : x.toInt = (j : Int) := by
          rw [g2, Nat.zero_add]
          exact nI_toInt (by omega)
        have hoff : ∃ off, offs[(x.toInt - 0).toNat]? = some off ∧ (pc : Int) + off = (t : Int) := by
          have hm : (offs.toList.map (fun o => (pc : Int) + o))[j]? = (ts.map (fun t : Nat => (t : Int)))[j]? := by rw [e4]
          rw [List.getElem?_map, List.getElem?_map, g1] at hm
          cases ho : offs.toList[j]? with
          | none => rw [ho] at hm; cases hm
          | some off =>
            rw [ho] at hm
            refine ⟨off, ?_, Option.some.inj hm⟩
            rw [hx, Int.sub_zero, Int.toNat_natCast, ← Array.getElem?_toList]
            exact ho
        obtain ⟨off, o1, o2⟩ := hoff
        intro H locs ls hl ho hw hS
        exact lv_tableIn C.1 C.2.1 hd (by omega) (by omega) o1 o2 (k H locs ls hl ho.tail hw hS)
      · rw [g2] at k
        have hout : x.toInt < 0 ∨ hi < x.toInt := by
          rcases Int.lt_or_le x.toInt 0 with q | q
          · exact Or.inl q
          · rcases Int.lt_or_le hi x.toInt with q2 | q2
            · exact Or.inr q2
            · exfalso
              have hlt : ¬ x < 0 := fun z => by
                have z2 := Int32.lt_iff_toInt_lt.mp z
                have z3 : (0 : Int32).toInt = 0 := by decide
                omega
              obtain ⟨n, hn, hxn⟩ := nI_of hlt
              have ht : x.toInt = (n : Int) := by rw [hxn]; exact nI_toInt hn
              exact g1 n (by omega) (by rw [Nat.zero_add]; exact hxn)
        intro H locs ls hl ho hw hS
        exact lv_tableOut C.1 C.2.1 hd hout e3 (k H locs ls hl ho.tail hw hS)
    · cases h
  | ifCond cd off =>
    exfalso
    dsimp only [fm_step] at h
    split at h
    · cases cd <;> (unfold fm_if at h; simp only at h; (repeat' (split at h)) <;> cases h)
    · cases h
  | if_icmp cd off =>
    exfalso
    dsimp only [fm_step] at h
    split at h
    · cases cd <;> (unfold fm_icmp at h; simp only at h; (repeat' (split at h)) <;> cases h)
    · cases h
  | _ => first
    | exact absurd (show (fm_no : fm_R) = Sum.inr (Sum.inr (Sum.inr (Sum.inr (Sum.inr (Sum.inl (x, sl, d)))))) from h) (fun h9 => nomatch h9)
    | (exfalso; (simp only [fm_step, fm_ald, fm_callr, fm_callv, fm_calls, fm_load, fm_st, fm_bin, fm_un, Bool.cond_eq_ite] at h) <;> (repeat' (split at h)) <;> (cases h))
/-- what stands when a method returns -/
theorem fm_Qc_of {r : fm_O × fm_M} {v : Option fm_V} {H : Heap} {locs : List Loc} (hr : r = (.inl v, M)) (hw : fm_Wd B aC D M H) (hS : va_S (fm_A B) s.heap H locs) : ∀ t : State, t.heap = H → s.WarmedH t.vm → fm_Qc B b aC D r args s (.returned (v.map (fm_ren B b))) t := by
  intro t ht _
  subst hr
  exact ⟨rfl, by rw [ht]; exact hw, hS.F ht⟩
/-- a method's return -/
theorem sm_dn {ins : Instr} {len : Nat} {ann : List Nat} {v : Option fm_V} {M' : fm_M} {mc ms : Nat} {XC : String → State → State → Prop} (C : fm_Cx p s m args meth c sts ncs X B b nL aC D cc own) (hr : meth.sig.returnType = rt) (hd : decode cc pc = .ok (ins, len)) (hck : fm_ck T cl own wd ini rt (pc, ins, len, ann) = true)
    (h : (fm_step X (pc, ins, len, ann) lo st M = fm_dn (.inl v) M') ∨ ∃ q : fm_P, q.1 ∧ fm_step X (pc, ins, len, ann) lo st M = .inr (.inr (.inr (.inr (.inr (.inr (.inl (q, .inl v, M')))))))) (hc : fm_cn M' - fm_cn M0 ≤ mc) (hs : fm_sn M' - fm_sn M0 ≤ ms) :
    fm_WW p l e R s m args below meth c B b nL wd aC D M0 (vx_MQ below (fm_Qc B b aC D (.inl v, M')) XC args s mc ms (fm_A B)) (pc, lo, st, M) := by
  have hlk := C.2.2.2.2.2.2
  unfold fm_ck at hck
  simp only [Bool.and_eq_true] at hck
  obtain ⟨hlen, hck⟩ := hck
  have hlen := Nat.eq_of_beq_eq_true hlen
  intro H locs ls hl ho hw hS
  refine vx_ret ?_
  cases ins with
  | ireturn =>
    have hl1 : len = 1 := hlen
    subst hl1
    rcases h with h | ⟨q, hq, h⟩
    · dsimp only [fm_step] at h
      split at h
      · rename_i x
        cases h
        exact W.widen hc hs (W.iret C.1 C.2.1 (by rw [hr]; exact of_decide_eq_true hck) (fm_Qc_of rfl hw hS) hS.2.2 hd hlk)
      · cases h
      · cases h
    · dsimp only [fm_step] at h
      split at h
      · cases h
      · rename_i x
        cases h
        refine W.widen hc hs (W.zret (ty := .boolean) C.1 C.2.1 (by rw [hr]; exact of_decide_eq_true hck) ?_ (fm_Qc_of rfl hw hS) hS.2.2 hd hlk)
        rcases (show x = nI 0 ∨ x = nI 1 from hq) with e9 | e9 <;> (rw [e9]; rfl)
      · cases h
  | areturn =>
    have hl1 : len = 1 := hlen
    subst hl1
    rcases h with h | ⟨q, hq, h⟩
    · dsimp only [fm_step] at h
      split at h
      · rename_i x
        cases h
        dsimp only at hck
        split at hck
        · rename_i nm9
          exact W.widen hc hs (W.aret (rt := .object nm9) C.1 C.2.1 hr (Or.inl ⟨_, rfl⟩) (Or.inr ⟨_, rfl⟩) (fm_Qc_of rfl hw hS) hS.2.2 hd hlk)
        · cases hck
      · cases h
    · dsimp only [fm_step] at h
      split at h <;> cases h
  | lreturn =>
    have hl1 : len = 1 := hlen
    subst hl1
    rcases h with h | ⟨q, hq, h⟩
    · dsimp only [fm_step] at h
      split at h
      · rename_i x
        cases h
        exact W.widen hc hs (W.lret C.1 C.2.1 (by rw [hr]; exact of_decide_eq_true hck) (fm_Qc_of rfl hw hS) hS.2.2 hd hlk)
      · cases h
    · dsimp only [fm_step] at h
      split at h <;> cases h
  | freturn =>
    have hl1 : len = 1 := hlen
    subst hl1
    rcases h with h | ⟨q, hq, h⟩
    · dsimp only [fm_step] at h
      split at h
      · rename_i x
        cases h
        exact W.widen hc hs (W.fret C.1 C.2.1 (by rw [hr]; exact of_decide_eq_true hck) (fm_Qc_of rfl hw hS) hS.2.2 hd hlk)
      · cases h
    · dsimp only [fm_step] at h
      split at h <;> cases h
  | dreturn =>
    have hl1 : len = 1 := hlen
    subst hl1
    rcases h with h | ⟨q, hq, h⟩
    · dsimp only [fm_step] at h
      split at h
      · rename_i x
        cases h
        exact W.widen hc hs (W.dret C.1 C.2.1 (by rw [hr]; exact of_decide_eq_true hck) (fm_Qc_of rfl hw hS) hS.2.2 hd hlk)
      · cases h
    · dsimp only [fm_step] at h
      split at h <;> cases h
  | return_ =>
    have hl1 : len = 1 := hlen
    subst hl1
    rcases h with h | ⟨q, hq, h⟩
    · dsimp only [fm_step] at h
      split at h
      · cases h
        exact W.widen hc hs (W.vret C.1 C.2.1 (by rw [hr]; exact of_decide_eq_true hck) (fm_Qc_of (v := none) rfl hw hS) hS.2.2 hd hlk)
      · cases h
    · dsimp only [fm_step] at h
      split at h <;> cases h
  | ifCond cd off =>
    exfalso
    rcases h with h | ⟨q, hq, h⟩ <;> dsimp only [fm_step] at h <;> split at h
    · cases cd <;> (unfold fm_if at h; simp only at h; (repeat' (split at h)) <;> cases h)
    · cases h
    · cases cd <;> (unfold fm_if at h; simp only at h; (repeat' (split at h)) <;> cases h)
    · cases h
  | if_icmp cd off =>
    exfalso
    rcases h with h | ⟨q, hq, h⟩ <;> dsimp only [fm_step] at h <;> split at h
    · cases cd <;> (unfold fm_icmp at h; simp only at h; (repeat' (split at h)) <;> cases h)
    · cases h
    · cases cd <;> (unfold fm_icmp at h; simp only at h; (repeat' (split at h)) <;> cases h)
    · cases h
  | _ =>
    exfalso
    rcases h with h | ⟨q, hq, h⟩
    · first
        | exact absurd (show (fm_no : fm_R) = fm_dn (.inl v) M' from h) (fun h9 => nomatch h9)
        | ((simp only [fm_step, fm_ald, fm_callr, fm_callv, fm_calls, fm_load, fm_st, fm_bin, fm_un, Bool.cond_eq_ite] at h) <;> (repeat' (split at h)) <;> (cases h))
    · first
        | exact absurd (show (fm_no : fm_R) = _ from h) (fun h9 => nomatch h9)
        | ((simp only [fm_step, fm_ald, fm_callr, fm_callv, fm_calls, fm_load, fm_st, fm_bin, fm_un, Bool.cond_eq_ite] at h) <;> (repeat' (split at h)) <;> (cases h))
end FMS10
