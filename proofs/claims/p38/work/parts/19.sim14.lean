/-! handlers; what ends; entry -/
theorem fm_fetch_in {cl : List fm_En} {pc : Nat} {x : fm_En} (h : fm_fetch cl pc = some x) : x ∈ cl ∧ x.1 = pc := by
  induction cl with
  | nil => cases h
  | cons y r ih =>
    unfold fm_fetch at h
    cases hb : Nat.beq y.1 pc
    · rw [hb, cond_false] at h; exact ⟨List.mem_cons_of_mem _ (ih h).1, (ih h).2⟩
    · rw [hb, cond_true] at h; cases h; exact ⟨List.mem_cons_self, Nat.eq_of_beq_eq_true hb⟩
/-- the handlers' table of a method against the small machine's -/
def fm_hck (own : String) : List (Nat × Nat × Nat × Nat) → List fm_H → Bool
  | [], [] => true
  | q :: r, h :: t => Nat.beq q.1 h.1 && Nat.beq q.2.1 h.2.1 && Nat.beq q.2.2.1 h.2.2.1 && !(Nat.beq q.2.2.2 0) && Nat.blt h.2.2.2.1 4 && decide (Cond.classLink own q.2.2.2 (fm_ex h.2.2.2.1) ∈ lw_tbl) && fm_hck own r t
  | _, _ => false
/-- a handler's first row stores the exception -/
def fm_hst (cl : List fm_En) (h : fm_H) : Bool := match fm_fetch cl h.2.2.1 with
  | some x => match x.2.1 with
    | .astore_n k => Nat.beq x.2.2.1 1 && Nat.beq k.val h.2.2.2.2.2 && Nat.beq (h.2.2.1 + 1) h.2.2.2.2.1
    | .astore k => Nat.beq x.2.2.1 2 && Nat.beq k h.2.2.2.2.2 && Nat.beq (h.2.2.1 + 2) h.2.2.2.2.1
    | _ => false
  | none => false
/-- a row that lets x through -/
def fm_hby (own : String) (pc x : Nat) (z : Nat × Nat × Nat × Nat) : Prop := (Nat.ble z.1 pc && Nat.blt pc z.2.1) = false ∨ (z.2.2.2 ≠ 0 ∧ ∃ y, y < 4 ∧ y ≠ x ∧ Cond.classLink own z.2.2.2 (fm_ex y) ∈ lw_tbl)
theorem fm_hck_no {own : String} {pc x : Nat} : ∀ (hh : List (Nat × Nat × Nat × Nat)) (hs : List fm_H), fm_hck own hh hs = true → fm_hnd hs pc x = none → ∀ z ∈ hh, fm_hby own pc x z := by
  intro hh
  induction hh with
  | nil => intro hs _ _ z hz; cases hz
  | cons q r ih =>
    intro hs h1 h2
    cases hs with
    | nil => cases h1
    | cons h t =>
      unfold fm_hck at h1
      simp only [Bool.and_eq_true] at h1
      obtain ⟨⟨⟨⟨⟨⟨a1, a2⟩, a3⟩, a4⟩, a5⟩, a6⟩, a7⟩ := h1
      unfold fm_hnd at h2
      cases hb : (Nat.ble h.1 pc && Nat.blt pc h.2.1 && Nat.beq h.2.2.2.1 x)
      · rw [hb, cond_false] at h2
        intro z hz
        rcases List.mem_cons.mp hz with rfl | hz
        · have e1 := Nat.eq_of_beq_eq_true a1
          have e2 := Nat.eq_of_beq_eq_true a2
          unfold fm_hby
          rw [e1, e2]
          rcases Bool.and_eq_false_iff.mp hb with hb | hb
          · exact Or.inl hb
          · refine Or.inr ⟨fun e => ?_, h.2.2.2.1, by simpa using a5, fun e => ?_, of_decide_eq_true a6⟩
            · rw [e] at a4; cases a4
            · rw [e, Nat.beq_refl] at hb; cases hb
        · exact ih t a7 h2 z hz
      · rw [hb, cond_true] at h2; cases h2
theorem fm_hck_some {own : String} {pc x : Nat} {g : fm_H} : ∀ (hh : List (Nat × Nat × Nat × Nat)) (hs : List fm_H), fm_hck own hh hs = true → fm_hnd hs pc x = some g → ∃ pre q suf, hh = pre ++ q :: suf ∧ (∀ z ∈ pre, fm_hby own pc x z) ∧ (Nat.ble q.1 pc && Nat.blt pc q.2.1) = true ∧ q.2.2.2 ≠ 0 ∧ Cond.classLink own q.2.2.2 (fm_ex x) ∈ lw_tbl ∧ q.2.2.1 = g.2.2.1 ∧ g ∈ hs ∧ x < 4 := by
  intro hh
  induction hh with
  | nil =>
    intro hs h1 h2
    cases hs with
    | nil => cases h2
    | cons h t => cases h1
  | cons q r ih =>
    intro hs h1 h2
    cases hs with
    | nil => cases h1
    | cons h t =>
      unfold fm_hck at h1
      simp only [Bool.and_eq_true] at h1
      obtain ⟨⟨⟨⟨⟨⟨a1, a2⟩, a3⟩, a4⟩, a5⟩, a6⟩, a7⟩ := h1
      have e1 := Nat.eq_of_beq_eq_true a1
      have e2 := Nat.eq_of_beq_eq_true a2
      have e3 := Nat.eq_of_beq_eq_true a3
      have e4 : q.2.2.2 ≠ 0 := fun e => by rw [e] at a4; cases a4
      unfold fm_hnd at h2
      cases hb : (Nat.ble h.1 pc && Nat.blt pc h.2.1 && Nat.beq h.2.2.2.1 x)
      · rw [hb, cond_false] at h2
        obtain ⟨pre, q9, suf, b1, b2, b3, b4, b5, b6, b7, b8⟩ := ih t a7 h2
        refine ⟨q :: pre, q9, suf, by rw [b1]; rfl, fun z hz => ?_, b3, b4, b5, b6, List.mem_cons_of_mem _ b7, b8⟩
        rcases List.mem_cons.mp hz with rfl | hz
        · unfold fm_hby
          rw [e1, e2]
          rcases Bool.and_eq_false_iff.mp hb with hb | hb
          · exact Or.inl hb
          · refine Or.inr ⟨e4, h.2.2.2.1, by simpa using a5, fun e => ?_, of_decide_eq_true a6⟩
            rw [e, Nat.beq_refl] at hb; cases hb
        · exact b2 z hz
      · rw [hb, cond_true] at h2
        cases h2
        simp only [Bool.and_eq_true] at hb
        have e5 := Nat.eq_of_beq_eq_true hb.2
        refine ⟨[], q, r, rfl, (fun z hz => nomatch hz), ?_, e4, ?_, e3, List.mem_cons_self, ?_⟩
        · rw [e1, e2, hb.1.1, hb.1.2]; rfl
        · rw [← e5]; exact of_decide_eq_true a6
        · rw [← e5]; simpa using a5
theorem fm_covers {q : Nat × Nat × Nat × Nat} {pc : Nat} : covers ⟨q.1, q.2.1, q.2.2.1, q.2.2.2⟩ pc = (Nat.ble q.1 pc && Nat.blt pc q.2.1) := by
  show (decide (q.1 ≤ pc) && decide (pc < q.2.1)) = _
  congr 1
  · cases h : Nat.ble q.1 pc
    · exact decide_eq_false (fun z => by rw [Nat.ble_eq_true_of_le z] at h; cases h)
    · exact decide_eq_true (Nat.le_of_ble_eq_true h)
  · cases h : Nat.blt pc q.2.1
    · exact decide_eq_false (fun z => by rw [show Nat.blt pc q.2.1 = true from Nat.ble_eq_true_of_le z] at h; cases h)
    · exact decide_eq_true (Nat.le_of_ble_eq_true h)
/-- the exceptions part from one another -/
def fm_NcOk (ncs : fm_Nc) : Prop := ∀ x, x < 4 → ∀ y, y < 4 → y ≠ x → (fm_ex x, fm_ex y) ∈ ncs
def fm_CaOk : Prop := ∀ x, x < 4 → (Cond.castable (fm_ex x) (fm_ex x)) ∈ lw_tbl
section FMS14
variable {p : Program} {l : Launch} {e : Env} {R : Room} {s : State} {m : MethodId} {args : Array Value} {below : List Frame} {meth : Method} {c : Code}
variable {sts : fm_St} {ncs : fm_Nc} {X : Nat × (Nat → Int32)} {B b nL : Nat} {wd ini : Bool} {aC : Nat → ClassId} {D : va_G} {M0 : fm_M} {Q : State → Prop} {cc : ByteArray} {own : String} {T : fm_Tb} {cl : List fm_En} {rt : Option FieldType} {mss : List fm_MR}
variable {pc : Nat} {lo : List (Option fm_V)} {st : List fm_V} {M : fm_M} {g : fm_F}
theorem fm_hby_at {x : Nat} {z : Nat × Nat × Nat × Nat} (C : fm_Cx p s m args meth c sts ncs X B b nL aC D cc own) (hN : fm_NcOk ncs) (hx : x < 4) (h : fm_hby own pc x z) : covers ⟨z.1, z.2.1, z.2.2.1, z.2.2.2⟩ pc = false ∨ ((⟨z.1, z.2.1, z.2.2.1, z.2.2.2⟩ : ExceptionTableEntry).catchType ≠ 0 ∧ ∃ nm : String, (Cond.classLink own z.2.2.2 nm).before args s = true ∧ va_Nc (fm_ex x) nm s) := by
  rcases h with h | ⟨h0, y, h1, h2, h3⟩
  · exact Or.inl (fm_covers.trans h)
  · exact Or.inr ⟨h0, fm_ex y, fm_word C h3 rfl, C.2.2.2.2.2.1.2.2.2.1 _ (hN x hx y h1 h2)⟩
theorem fm_LH.setN1 {ls ls' : Array Slot} {lo : List (Option fm_V)} {i : Nat} {w : Value} (h : fm_LH B b nL false ls lo) (hi : i < nL) (h' : lv_has ls' nL ((i, w) :: (fm_pl B b lo).filter (fun q => !(q.1 == i) && !(q.1 + 1 == i && q.2.category == 2)))) : fm_LH B b nL false ls' (lo.set i none) := by
  obtain ⟨h1, h2, h3, h4, h5⟩ := h
  refine ⟨h'.1, by rw [List.length_set]; exact h2, h'.2.1, fun j w hj => ?_, fun _ j w hj => ?_⟩
  · by_cases hij : i = j
    · subst hij
      rw [List.getElem?_set_self (by omega)] at hj
      cases hj
    · rw [List.getElem?_set_ne hij] at hj
      refine h'.2.2 (j, fm_ren B b w) (List.mem_cons_of_mem _ (List.mem_filter.mpr ⟨fm_pl_in hj, ?_⟩))
      have hc := h5 rfl j w hj
      have : ¬ j = i := fun e => hij e.symm
      simp [this, fm_cat_ren, hc]
  · by_cases hij : i = j
    · subst hij
      rw [List.getElem?_set_self (by omega)] at hj
      cases hj
    · rw [List.getElem?_set_ne hij] at hj
      exact h5 rfl j w hj
/-- caught here -/
theorem sm_catch {hh : List (Nat × Nat × Nat × Nat)} {hs : List fm_H} {x : Nat} {h : fm_H} {H : Heap} {locs : List Loc} {ls : Array Slot} {rest : List Value} {q9 : Addr} {ce : Cell} {st0 : List fm_V} (C : fm_Cx p s m args meth c sts ncs X B b nL aC D cc own) (hN : fm_NcOk ncs) (hCa : fm_CaOk) (htab : c.exceptionTable.toList = tableOf hh) (hk : fm_hck own hh hs = true) (hks : ∀ h ∈ hs, fm_hst cl h = true ∧ h.2.2.2.2.2 < nL) (hcl : ∀ x ∈ cl, decode cc x.1 = .ok (x.2.1, x.2.2.1)) (hf : fm_hnd hs pc x = some h)
    (hl : fm_LH B b nL false ls lo) (ho : fm_ok M.2 lo st0) (hw : fm_Wd B aC D M H) (hS : va_S (fm_A B) s.heap H locs) (hce : H[q9]? = some ce) (hv : ce.vm = .none) (hcls : s.vm.findClass (fm_ex x) = some ce.cls)
    (k : fm_WW p l e R s m args below meth c B b nL false aC D M0 Q (fm_hfr h lo M)) :
    vx_W p l e R s m args below meth c H locs (fm_cn M - fm_cn M0) (fm_sn M - fm_sn M0) Q (F0 m pc ls rest) q9 := by
  obtain ⟨pre, q, suf, a1, a2, a3, a4, a5, a6, a7, a8⟩ := fm_hck_some hh hs hk hf
  have hsplit : c.exceptionTable.toList = tableOf pre ++ (⟨q.1, q.2.1, q.2.2.1, q.2.2.2⟩ : ExceptionTableEntry) :: tableOf suf := by
    rw [htab, a1]
    unfold tableOf
    rw [List.map_append, List.map_cons]
  have hE : (Cond.castable (fm_ex x) (fm_ex x)).before args s = true := fm_wordN C (hCa x a8) rfl rfl
  refine vx_catch (own := own) (name := fm_ex x) (E := fm_ex x) (ce := ce) C.2.2.2.1 (tableOf pre) _ (tableOf suf) hsplit (fun z hz => ?_) (fm_covers.trans a3) a4 (fm_word C a5 rfl) hE hce hv hcls ?_
  · unfold tableOf at hz
    obtain ⟨z0, hz0, rfl⟩ := List.mem_map.mp hz
    exact fm_hby_at C hN a8 (a2 z0 hz0)
  · obtain ⟨b1, b2⟩ := hks h a7
    unfold fm_hst at b1
    split at b1
    · rename_i y hy
      obtain ⟨hy1, hy2⟩ := fm_fetch_in hy
      have hd := hcl y hy1
      rw [hy2] at hd
      split at b1
      · rename_i kf hkf
        simp only [Bool.and_eq_true] at b1
        obtain ⟨⟨c1, c2⟩, c3⟩ := b1
        have c1 := Nat.eq_of_beq_eq_true c1
        have c2 := Nat.eq_of_beq_eq_true c2
        have c3 := Nat.eq_of_beq_eq_true c3
        rw [hkf, c1] at hd
        rw [← a6] at hd c3
        refine lv_astore_n C.1 C.2.1 hd c2 hl.has b2 rfl fun ls' h' => ?_
        have hg := k H locs ls' (hl.setN1 b2 h') ⟨(ho.setN (i := h.2.2.2.2.2)).1, fun v hv => by cases hv⟩ hw hS
        rw [c3]
        exact hg
      · rename_i kf hkf
        simp only [Bool.and_eq_true] at b1
        obtain ⟨⟨c1, c2⟩, c3⟩ := b1
        have c1 := Nat.eq_of_beq_eq_true c1
        have c2 := Nat.eq_of_beq_eq_true c2
        have c3 := Nat.eq_of_beq_eq_true c3
        rw [hkf, c1, c2] at hd
        rw [← a6] at hd c3
        refine lv_astore C.1 C.2.1 hd hl.has b2 rfl fun ls' h' => ?_
        have hg := k H locs ls' (hl.setN1 b2 h') ⟨(ho.setN (i := h.2.2.2.2.2)).1, fun v hv => by cases hv⟩ hw hS
        rw [c3]
        exact hg
      · cases b1
    · cases b1
end FMS14
/-- a call's frame behind it -/
theorem fm_step_ca {X : Nat × (Nat → Int32)} {pc len : Nat} {ins : Instr} {ann : List Nat} {lo : List (Option fm_V)} {st : List fm_V} {M : fm_M} {mj rk : Nat} {as : List fm_V} {g : fm_F} (h : fm_step X (pc, ins, len, ann) lo st M = fm_ca mj rk as g) : g.2.1 = lo ∧ g.2.2.2 = M ∧ ∀ v ∈ as, v ∈ st := by
  cases ins with
  | invokevirtual cp =>
    dsimp only [fm_step] at h
    split at h
    · rename_i n j ci
      unfold fm_callv at h
      split at h
      · rename_i q hq
        cases hb : (Nat.ble (fm_csum q.2) 8 && q.1.all (fun v => Nat.beq (fm_cat v) 1) && fm_rcv ci q.1 M.2)
        · rw [hb, cond_false] at h; cases h
        · rw [hb, cond_true] at h
          cases h
          obtain ⟨tk, t1, t2, t3⟩ := fm_pop_inv n st [] q hq
          refine ⟨rfl, rfl, fun v hv => ?_⟩
          rw [t2, List.append_nil] at hv
          rw [t1]
          exact List.mem_append_left _ (List.mem_reverse.mp hv)
      · cases h
    · cases h
  | invokestatic cp =>
    dsimp only [fm_step] at h
    split at h
    · rename_i n j
      unfold fm_callr at h
      split at h
      · rename_i q hq
        cases hb : (Nat.ble (fm_csum q.2) 8 && q.1.all (fun v => Nat.beq (fm_cat v) 1))
        · rw [hb, cond_false] at h; cases h
        · rw [hb, cond_true] at h
          cases h
          obtain ⟨tk, t1, t2, t3⟩ := fm_pop_inv n st [] q hq
          refine ⟨rfl, rfl, fun v hv => ?_⟩
          rw [t2, List.append_nil] at hv
          rw [t1]
          exact List.mem_append_left _ (List.mem_reverse.mp hv)
      · cases h
    · cases h
  | invokespecial cp =>
    dsimp only [fm_step] at h
    split at h
    · rename_i n j
      unfold fm_calls at h
      split at h
      · rename_i q hq
        cases hb : (Nat.ble (fm_csum q.2) 8 && q.1.all (fun v => Nat.beq (fm_cat v) 1) && fm_isA q.1.head?)
        · rw [hb, cond_false] at h; cases h
        · rw [hb, cond_true] at h
          cases h
          obtain ⟨tk, t1, t2, t3⟩ := fm_pop_inv n st [] q hq
          refine ⟨rfl, rfl, fun v hv => ?_⟩
          rw [t2, List.append_nil] at hv
          rw [t1]
          exact List.mem_append_left _ (List.mem_reverse.mp hv)
      · cases h
    · split at h
      · rename_i c0 r0
        cases hb : Nat.ble (fm_csum r0) 8
        · rw [hb, cond_false] at h; cases h
        · rw [hb, cond_true] at h; cases h
      · cases h
    · cases h
  | ifCond cd off =>
    exfalso
    dsimp only [fm_step] at h
    split at h
    · cases cd <;> (unfold fm_if at h; simp only at h; (repeat' (split at h)) <;> cases h)
    · cases h
  | if_icmp cd off =>
    exfalso
    dsimp only [fm_step] at h
    split at h
    · cases cd <;> (unfold fm_icmp at h; simp only at h; (repeat' (split at h)) <;> cases h)
    · cases h
  | _ =>
    exfalso
    first
      | exact absurd (show (fm_no : fm_R) = fm_ca mj rk as g from h) (fun h9 => nomatch h9)
      | ((simp only [fm_step, fm_ald, fm_load, fm_st, fm_bin, fm_un, Bool.cond_eq_ite] at h) <;> (repeat' (split at h)) <;> (cases h))
/-- how a frame ends: with a value of the program's own, or with an exception that its row made -/
def fm_nice (T : fm_Tb) (ins : Instr) (ann : List Nat) (o : fm_O) : Prop := (∃ w : Option Value, o = .inl (w.map Sum.inl)) ∨ ∃ x cp j, x < 4 ∧ o = .inr x ∧ ins = .new cp ∧ ann = [1, x, j]
theorem fm_step_dn {T : fm_Tb} {X : Nat × (Nat → Int32)} {cl : List fm_En} {own : String} {wd ini : Bool} {rt : Option FieldType} {pc len : Nat} {ins : Instr} {ann : List Nat} {lo : List (Option fm_V)} {st : List fm_V} {M M' : fm_M} {o : fm_O} (hck : fm_ck T cl own wd ini rt (pc, ins, len, ann) = true)
    (h : (fm_step X (pc, ins, len, ann) lo st M = fm_dn o M') ∨ ∃ q : fm_P, fm_step X (pc, ins, len, ann) lo st M = .inr (.inr (.inr (.inr (.inr (.inr (.inl (q, o, M')))))))) : fm_nice T ins ann o := by
  unfold fm_ck at hck
  simp only [Bool.and_eq_true] at hck
  obtain ⟨hlen, hck⟩ := hck
  cases ins with
  | new cp =>
    rcases h with h | ⟨q, h⟩
    · dsimp only [fm_step] at h
      split at h
      · split at h <;> cases h
      · rename_i x9 j
        dsimp only at hck
        simp only [Bool.and_eq_true] at hck
        have hx5 := hck.1
        cases hb : (Nat.ble (fm_csum st) 8 && Nat.beq M.2.length fm_L0)
        · rw [hb, cond_false] at h; cases h
        · rw [hb, cond_true] at h
          cases h
          exact Or.inr ⟨_, _, _, by simpa using hx5, rfl, rfl, rfl⟩
      · cases h
    · dsimp only [fm_step] at h
      split at h
      · split at h <;> cases h
      · rename_i x9 j
        cases hb : (Nat.ble (fm_csum st) 8 && Nat.beq M.2.length fm_L0)
        · rw [hb, cond_false] at h; cases h
        · rw [hb, cond_true] at h; cases h
      · cases h
  | ireturn =>
    rcases h with h | ⟨q, h⟩
    · dsimp only [fm_step] at h
      split at h
      · rename_i x; cases h; exact Or.inl ⟨some (.int x), rfl⟩
      · cases h
      · cases h
    · dsimp only [fm_step] at h
      split at h
      · cases h
      · rename_i x; cases h; exact Or.inl ⟨some (.int x), rfl⟩
      · cases h
  | lreturn =>
    rcases h with h | ⟨q, h⟩ <;> (dsimp only [fm_step] at h; split at h)
    · rename_i x; cases h; exact Or.inl ⟨some (.long x), rfl⟩
    · cases h
    · cases h
    · cases h
  | areturn =>
    rcases h with h | ⟨q, h⟩ <;> (dsimp only [fm_step] at h; split at h)
    · rename_i x; cases h; exact Or.inl ⟨some (.ref x), rfl⟩
    · cases h
    · cases h
    · cases h
  | freturn =>
    rcases h with h | ⟨q, h⟩ <;> (dsimp only [fm_step] at h; split at h)
    · rename_i x; cases h; exact Or.inl ⟨some (.float x), rfl⟩
    · cases h
    · cases h
    · cases h
  | dreturn =>
    rcases h with h | ⟨q, h⟩ <;> (dsimp only [fm_step] at h; split at h)
    · rename_i x; cases h; exact Or.inl ⟨some (.double x), rfl⟩
    · cases h
    · cases h
    · cases h
  | return_ =>
    rcases h with h | ⟨q, h⟩ <;> (dsimp only [fm_step] at h; split at h)
    · cases h; exact Or.inl ⟨none, rfl⟩
    · cases h
    · cases h
    · cases h
  | ifCond cd off =>
    exfalso
    rcases h with h | ⟨q, h⟩ <;> dsimp only [fm_step] at h <;> split at h
    · cases cd <;> (unfold fm_if at h; simp only at h; (repeat' (split at h)) <;> cases h)
    · cases h
    · cases cd <;> (unfold fm_if at h; simp only at h; (repeat' (split at h)) <;> cases h)
    · cases h
  | if_icmp cd off =>
    exfalso
    rcases h with h | ⟨q, h⟩ <;> dsimp only [fm_step] at h <;> split at h
    · cases cd <;> (unfold fm_icmp at h; simp only at h; (repeat' (split at h)) <;> cases h)
    · cases h
    · cases cd <;> (unfold fm_icmp at h; simp only at h; (repeat' (split at h)) <;> cases h)
    · cases h
  | _ =>
    exfalso
    rcases h with h | ⟨q, h⟩
    · first
        | exact absurd (show (fm_no : fm_R) = fm_dn o M' from h) (fun h9 => nomatch h9)
        | ((simp only [fm_step, fm_ald, fm_callr, fm_callv, fm_calls, fm_load, fm_st, fm_bin, fm_un, Bool.cond_eq_ite] at h) <;> (repeat' (split at h)) <;> (cases h))
    · first
        | exact absurd (show (fm_no : fm_R) = _ from h) (fun h9 => nomatch h9)
        | ((simp only [fm_step, fm_ald, fm_callr, fm_callv, fm_calls, fm_load, fm_st, fm_bin, fm_un, Bool.cond_eq_ite] at h) <;> (repeat' (split at h)) <;> (cases h))
/-- the locals at a method's entry -/
theorem fm_sl1 : ∀ vs : List Value, (∀ v ∈ vs, v.category = 1) → lg_sl vs = vs.map Slot.val := by
  intro vs
  induction vs with
  | nil => intro _; rfl
  | cons v r ih =>
    intro h
    have h1 := h v List.mem_cons_self
    have h2 := ih (fun w hw => h w (List.mem_cons_of_mem _ hw))
    have e : lg_sl (v :: r) = Slot.val v :: lg_sl r := by simp [lg_sl, h1]
    rw [e, h2]
    rfl
theorem fm_args1 : ∀ (vs : List Value) (i k : Nat) (v : Value), (∀ v ∈ vs, v.category = 1) → vs[k]? = some v → (i + k, v) ∈ lv_args i vs := by
  intro vs
  induction vs with
  | nil => intro i k v _ h; simp at h
  | cons w r ih =>
    intro i k v h hk
    have h1 := h w List.mem_cons_self
    unfold lv_args
    rw [if_neg (by rw [h1]; decide)]
    cases k with
    | zero =>
      have : w = v := by simpa using hk
      rw [this]
      exact List.mem_cons_self
    | succ k =>
      refine List.mem_cons_of_mem _ ?_
      have := ih (i + 1) k v (fun w hw => h w (List.mem_cons_of_mem _ hw)) (by simpa using hk)
      rw [show i + (k + 1) = i + 1 + k by omega]
      exact this
theorem fm_entry_LH {B b nL : Nat} {wd : Bool} {as : List fm_V} (hl : as.length ≤ nL) (hc : ∀ v ∈ as, fm_cat v = 1) : fm_LH B b nL wd ((lg_sl (as.map (fm_ren B b)) ++ List.replicate (nL - (lg_sl (as.map (fm_ren B b))).length) Slot.unset).toArray) (as.map some ++ List.replicate (nL - as.length) none) := by
  have hc' : ∀ v ∈ as.map (fm_ren B b), v.category = 1 := fun v hv => by
    obtain ⟨w, hw, rfl⟩ := List.mem_map.mp hv
    rw [fm_cat_ren]
    exact hc w hw
  have hlen : (lg_sl (as.map (fm_ren B b))).length = as.length := by rw [fm_sl1 _ hc']; simp
  have h := lv_entry (as.map (fm_ren B b)) (n := nL) (by rw [hlen]; exact hl)
  have hget : ∀ (i : Nat) (v : fm_V), (as.map some ++ List.replicate (nL - as.length) none)[i]? = some (some v) → as[i]? = some v := by
    intro i v hi
    by_cases hlt : i < as.length
    · rw [List.getElem?_append_left (by simpa using hlt), List.getElem?_map] at hi
      cases ha : as[i]? with
      | none => rw [ha] at hi; cases hi
      | some w => rw [ha] at hi; cases hi; rfl
    · rw [List.getElem?_append_right (by simpa using hlt), List.getElem?_replicate] at hi
      split at hi <;> cases hi
  refine ⟨h.1, by simp; omega, h.2.1, fun i v hi => ?_, fun _ i v hi => hc v (List.mem_of_getElem? (hget i v hi))⟩
  have hm : (as.map (fm_ren B b))[i]? = some (fm_ren B b v) := by rw [List.getElem?_map, hget i v hi]; rfl
  have := h.2.2 _ (fm_args1 _ 0 i _ hc' hm)
  rw [Nat.zero_add] at this
  exact this
