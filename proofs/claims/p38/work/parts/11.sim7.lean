/-! what is checked of a row of code, once and for all -/
def fm_len (i : Instr) (l : Nat) : Nat := match i with
  | .bipush _ => 2 | .iload _ => 2 | .aload _ => 2 | .dload _ => 2 | .istore _ => 2 | .astore _ => 2 | .dstore _ => 2 | .newarray _ => 2 | .ldc _ => 2
  | .sipush _ => 3 | .ifCond _ _ => 3 | .if_icmp _ _ => 3 | .ifnull _ => 3 | .goto _ => 3 | .iinc _ _ => 3 | .getfield _ => 3 | .putfield _ => 3 | .new _ => 3 | .invokevirtual _ => 3 | .invokestatic _ => 3 | .invokespecial _ => 3 | .anewarray _ => 3 | .ldc_w _ => 3
  | .tableswitch _ _ _ _ => l
  | _ => 1
/-- a field's entry: class, entry, class by number, field, the host of a nest -/
abbrev fm_pfT : Type := String × Nat × Nat × Nat × Option String
def fm_fw (q : fm_pfT) : Cond := match q.2.2.2.2 with
  | none => .fieldLink q.1 q.2.1 (fm_T q.2.2.1 q.2.2.2.1).1 (fm_T q.2.2.1 q.2.2.2.1).2.1 (fm_T q.2.2.1 q.2.2.2.1).2.2.1
  | some h => .fieldLinkNest q.1 q.2.1 (fm_T q.2.2.1 q.2.2.2.1).1 (fm_T q.2.2.1 q.2.2.2.1).2.1 (fm_T q.2.2.1 q.2.2.2.1).2.2.1 h
def fm_fitb (ty : FieldType) (fk : Nat) : Bool := match ty, fk with
  | .int, 0 => true
  | .long, 1 => true
  | .object _, 2 => true
  | .array _, 2 => true
  | _, _ => false
theorem fm_fitb_ok {ty : FieldType} {fk : Nat} (h : fm_fitb ty fk = true) : fm_fit ty fk := by
  unfold fm_fitb at h
  split at h
  · rfl
  · rfl
  · exact Or.inl ⟨_, rfl⟩
  · exact Or.inr ⟨_, rfl⟩
  · cases h
/-- the tables of a program: fields, calls (class, entry, method, kind, host), throws (class, entry of the class, of the text, of the constructor, exception by number, text), Object.<init>, classes (class, entry, name), constants (class, entry, number) -/
abbrev fm_Tb : Type := List fm_pfT × List (String × Nat × Nat × Nat × Option String) × List (String × Nat × Nat × Nat × Nat × String) × List (String × Nat) × List (String × Nat × String) × List (String × Nat × Nat)
def fm_ex (x : Nat) : String := match x with
  | 0 => "java/lang/IndexOutOfBoundsException"
  | 1 => "java/lang/IllegalArgumentException"
  | 2 => "java/lang/IllegalStateException"
  | 3 => "java/util/NoSuchElementException"
  | _ => "java/lang/ArithmeticException"
def fm_exN : List String := ["java/lang/RuntimeException", "java/lang/Exception"]
def fm_atI (cl : List fm_En) (pc : Nat) (i : Instr) (n : Nat) : Bool := match fm_fetch cl pc with
  | some e => decide (e.2.1 = i) && Nat.beq e.2.2.1 n && Nat.beq e.1 pc
  | none => false
def fm_ck (T : fm_Tb) (cl : List fm_En) (own : String) (wd ini : Bool) (rt : Option FieldType) (e : fm_En) : Bool := Nat.beq e.2.2.1 (fm_len e.2.1 e.2.2.1) && (match e.2.1 with
  | .bipush n => decide ((Int8.ofInt n).toInt32 = fm_k n)
  | .sipush n => decide ((Int16.ofInt n).toInt32 = fm_k n)
  | .istore_n _ => e.2.2.2.isEmpty == !wd
  | .istore _ => e.2.2.2.isEmpty == !wd
  | .astore_n _ => e.2.2.2.isEmpty == !wd
  | .astore _ => e.2.2.2.isEmpty == !wd
  | .iinc _ _ => e.2.2.2.isEmpty == !wd
  | .dstore _ => wd
  | .ifCond _ off => match e.2.2.2 with
    | [t] => decide ((e.1 : Int) + off = (t : Int))
    | _ => true
  | .if_icmp _ off => match e.2.2.2 with
    | [t] => decide ((e.1 : Int) + off = (t : Int))
    | _ => true
  | .goto off => match e.2.2.2 with
    | [t] => decide ((e.1 : Int) + off = (t : Int))
    | _ => true
  | .tableswitch d lo hi offs => match e.2.2.2 with
    | dt :: ts => decide (lo = 0) && decide (hi + 1 = (ts.length : Int)) && decide ((e.1 : Int) + d = (dt : Int)) && decide (offs.toList.map (fun o => (e.1 : Int) + o) = ts.map (fun t : Nat => (t : Int))) && Nat.ble ts.length 1000
    | _ => true
  | .getfield cp => match e.2.2.2 with
    | [ci, k, fk, j] => Nat.blt ci 7 && Nat.blt k (fm_n ci) && Nat.beq ((fm_fks.getD ci []).getD k 9) fk && (match T.1[j]? with
      | some q => decide (q.1 = own) && Nat.beq q.2.1 cp && Nat.beq q.2.2.1 ci && Nat.beq q.2.2.2.1 k
      | none => false)
    | _ => true
  | .putfield cp => match e.2.2.2 with
    | [ci, k, fk, j] => Nat.blt ci 7 && Nat.blt k (fm_n ci) && Nat.beq ((fm_fks.getD ci []).getD k 9) fk && fm_fitb (fm_ty ci k) fk && (match T.1[j]? with
      | some q => decide (q.1 = own) && Nat.beq q.2.1 cp && Nat.beq q.2.2.1 ci && Nat.beq q.2.2.2.1 k && (!(fm_T ci k).2.2.2 || (ini && decide (q.2.2.2.2 = none) && decide ((fm_T ci k).1 = own)))
      | none => false)
    | _ => true
  | .new cp => match e.2.2.2 with
    | [0, ci, n, j] => Nat.blt ci 7 && Nat.beq n (fm_n ci) && decide (T.2.2.2.2.1[j]? = some (own, cp, fm_C ci))
    | [1, x, j] => Nat.blt x 4 && (match T.2.2.1[j]? with
      | some q => decide (q.1 = own) && Nat.beq q.2.1 cp && Nat.beq q.2.2.2.2.1 x && fm_atI cl (e.1 + 3) .dup 1 && fm_atI cl (e.1 + 4) (.ldc q.2.2.1) 2 && fm_atI cl (e.1 + 6) (.invokespecial q.2.2.2.1) 3 && fm_atI cl (e.1 + 9) .athrow 1
      | none => false)
    | _ => true
  | .newarray a => match e.2.2.2 with
    | [kd] => match a with
      | .int => Nat.beq kd 10
      | .boolean => Nat.beq kd 11
      | _ => false
    | _ => true
  | .anewarray cp => match e.2.2.2 with
    | [j] => decide (T.2.2.2.2.1[j]? = some (own, cp, RX4))
    | _ => false
  | .ldc cp => match e.2.2.2 with
    | [n] => T.2.2.2.2.2.contains (own, cp, n)
    | _ => true
  | .ldc_w cp => match e.2.2.2 with
    | [n] => T.2.2.2.2.2.contains (own, cp, n)
    | _ => true
  | .invokevirtual cp => match e.2.2.2 with
    | [mj, _, _, j, _] => match T.2.1[j]? with
      | some q => decide (q.1 = own) && Nat.beq q.2.1 cp && Nat.beq q.2.2.1 mj && Nat.beq q.2.2.2.1 0
      | none => false
    | _ => true
  | .invokestatic cp => match e.2.2.2 with
    | [mj, _, _, j] => match T.2.1[j]? with
      | some q => decide (q.1 = own) && Nat.beq q.2.1 cp && Nat.beq q.2.2.1 mj && Nat.beq q.2.2.2.1 1
      | none => false
    | _ => true
  | .invokespecial cp => match e.2.2.2 with
    | [mj, _, _, j] => match T.2.1[j]? with
      | some q => decide (q.1 = own) && Nat.beq q.2.1 cp && Nat.beq q.2.2.1 mj && Nat.beq q.2.2.2.1 2
      | none => false
    | [j] => decide (T.2.2.2.1[j]? = some (own, cp))
    | _ => true
  | .ireturn => match e.2.2.2 with
    | [0] => decide (rt = some .int)
    | [1] => decide (rt = some .boolean)
    | _ => true
  | .areturn => match rt with
    | some (.object _) => true
    | _ => false
  | .lreturn => decide (rt = some .long)
  | .freturn => decide (rt = some .float)
  | .dreturn => decide (rt = some .double)
  | .return_ => decide (rt = none)
  | _ => true)
/-- what the tables' rows say, of lw_tbl -/
def fm_TbOk (T : fm_Tb) : Prop := (∀ q ∈ T.1, fm_fw q ∈ lw_tbl) ∧ (∀ q ∈ T.2.2.2.1, (Cond.methodLink q.1 q.2 objectInit) ∈ lw_tbl) ∧ (Cond.instanceMethod objectInit) ∈ lw_tbl ∧ (Cond.code objectInit ⟨#[0xb1]⟩ 1 none) ∈ lw_tbl ∧
  (∀ q ∈ T.2.2.2.2.1, (Cond.classLink q.1 q.2.1 q.2.2) ∈ lw_tbl) ∧ (∀ q ∈ T.2.2.2.2.2, (Cond.constant q.1 q.2.1 (nI q.2.2)) ∈ lw_tbl) ∧ (∀ ci, ci < 7 → (Cond.instantiable (fm_C ci) (fm_n ci)) ∈ lw_tbl ∧ (Cond.initialized (fm_C ci)) ∈ lw_tbl ∧ ∀ k, k < fm_n ci → fm_fitb (fm_ty ci k) ((fm_fks.getD ci []).getD k 9) = true) ∧
  ((Cond.arrayClass .int) ∈ lw_tbl ∧ (Cond.arrayClass .boolean) ∈ lw_tbl)
section FMS7
variable {p : Program} {l : Launch} {e : Env} {R : Room} {s : State} {m : MethodId} {args : Array Value} {below : List Frame} {meth : Method} {c : Code}
variable {sts : fm_St} {ncs : fm_Nc} {X : Nat × (Nat → Int32)} {B b nL : Nat} {wd ini : Bool} {aC : Nat → ClassId} {D : va_G} {M0 : fm_M} {Q : State → Prop} {cc : ByteArray} {own : String} {T : fm_Tb} {cl : List fm_En} {rt : Option FieldType}
variable {pc : Nat} {lo : List (Option fm_V)} {st : List fm_V} {M : fm_M} {g : fm_F}
theorem sm_flOk {j cp ci k : Nat} {q : fm_pfT} (C : fm_Cx p s m args meth c sts ncs X B b nL aC D cc own) (hT : fm_TbOk T) (hq : T.1[j]? = some q) (h1 : q.1 = own) (h2 : q.2.1 = cp) (h3 : q.2.2.1 = ci) (h4 : q.2.2.2.1 = k) : fm_fl own cp ci k args s := by
  have hm := hT.1 q (List.mem_of_getElem? hq)
  obtain ⟨q1, q2, q3, q4, q5⟩ := q
  dsimp only at h1 h2 h3 h4
  subst h1; subst h2; subst h3; subst h4
  cases q5 with
  | none => exact Or.inl (fm_word C hm rfl)
  | some hst => exact Or.inr ⟨hst, fm_wordN C hm rfl rfl⟩
theorem sm_wdOk {w : List Nat} {wd : Bool} (h : (w.isEmpty == !wd) = true) : (w = [] → wd = false) ∧ (w ≠ [] → wd = true) := by
  cases w <;> cases wd <;> simp at h ⊢
theorem fm_ald_no {kd nx : Nat} {G : Nat → Int32 → fm_V} (h : fm_ald kd G nx lo st M = .inl g) : False := by
  unfold fm_ald at h
  split at h
  · split at h
    · rename_i q _
      cases hq : Nat.beq q.2.1 kd
      · rw [hq, cond_false] at h; cases h
      · rw [hq, cond_true] at h; cases h
    · cases h
  · cases h
theorem fm_if_no {tg nx : Nat} {cnd : Int32 → Prop} {d : ∀ x, Decidable (cnd x)} (h : fm_if tg nx lo st M cnd d = .inl g) : False := by
  unfold fm_if at h
  split at h <;> cases h
theorem fm_icmp_no {tg nx : Nat} {cnd : Int32 → Int32 → Prop} {d : ∀ x y, Decidable (cnd x y)} (h : fm_icmp tg nx lo st M cnd d = .inl g) : False := by
  unfold fm_icmp at h
  split at h <;> cases h
set_option maxHeartbeats 4000000 in
/-- a step to one frame -/
theorem sm_go {ins : Instr} {len : Nat} {ann : List Nat} (C : fm_Cx p s m args meth c sts ncs X B b nL aC D cc own) (hT : fm_TbOk T) (hini : ini = true → meth.name = "<init>") (hd : decode cc pc = .ok (ins, len)) (hck : fm_ck T cl own wd ini rt (pc, ins, len, ann) = true)
    (hfl : ∀ cp j, ins = .invokespecial cp → ann = [j] → 1 ≤ R.frames ∧ 20 ≤ R.locals)
    (h : fm_step X (pc, ins, len, ann) lo st M = .inl g) (hc : fm_cn g.2.2.2 - fm_cn M0 ≤ R.cells) (hs : fm_sn g.2.2.2 - fm_sn M0 ≤ R.slots) (hm1 : fm_cn M0 ≤ fm_cn M) (hm2 : fm_sn M0 ≤ fm_sn M)
    (k : fm_WW p l e R s m args below meth c B b nL wd aC D M0 Q g) : fm_WW p l e R s m args below meth c B b nL wd aC D M0 Q (pc, lo, st, M) := by
  unfold fm_ck at hck
  simp only [Bool.and_eq_true] at hck
  obtain ⟨hlen, hck⟩ := hck
  have hlen := Nat.eq_of_beq_eq_true hlen
  cases ins with
  | iconst n => have hl1 : len = 1 := hlen; subst hl1; cases h; exact sm_iconst C hd k
  | bipush n => have hl1 : len = 2 := hlen; subst hl1; cases h; exact sm_bipush C hd (of_decide_eq_true hck) k
  | sipush n => have hl1 : len = 3 := hlen; subst hl1; cases h; exact sm_sipush C hd (of_decide_eq_true hck) k
  | lconst n => have hl1 : len = 1 := hlen; subst hl1; cases h; exact sm_lconst C hd k
  | dconst n =>
    have hl1 : len = 1 := hlen
    subst hl1
    have h : cond (Nat.beq n.1 0) (fm_go (pc + 1, lo, .inl (.double FP.dconst0) :: st, M)) fm_no = .inl g := h
    cases hb : Nat.beq n.1 0
    · rw [hb, cond_false] at h; cases h
    · rw [hb, cond_true] at h
      cases h
      have hn : n = 0 := Fin.ext (Nat.eq_of_beq_eq_true hb)
      subst hn
      exact sm_dconst C hd k
  | iload_n j => have hl1 : len = 1 := hlen; subst hl1; exact sm_iload_n C hd h k
  | iload j => have hl1 : len = 2 := hlen; subst hl1; exact sm_iload C hd h k
  | aload_n j => have hl1 : len = 1 := hlen; subst hl1; exact sm_aload_n C hd h k
  | aload j => have hl1 : len = 2 := hlen; subst hl1; exact sm_aload C hd h k
  | dload j => have hl1 : len = 2 := hlen; subst hl1; exact sm_dload C hd h k
  | istore_n j =>
    have hl1 : len = 1 := hlen
    subst hl1
    dsimp only [fm_step] at h
    split at h
    · exact sm_istore_n C hd (sm_wdOk hck) h k
    · cases h
  | istore j =>
    have hl1 : len = 2 := hlen
    subst hl1
    dsimp only [fm_step] at h
    split at h
    · exact sm_istore C hd (sm_wdOk hck) h k
    · cases h
  | astore_n j =>
    have hl1 : len = 1 := hlen
    subst hl1
    dsimp only [fm_step] at h
    split at h
    · rename_i v r
      cases hb : fm_isA (some v)
      · rw [hb, cond_false] at h; cases h
      · rw [hb, cond_true] at h
        exact sm_astore_n C hd (sm_wdOk hck) hb h k
    · cases h
  | astore j =>
    have hl1 : len = 2 := hlen
    subst hl1
    dsimp only [fm_step] at h
    split at h
    · rename_i v r
      cases hb : fm_isA (some v)
      · rw [hb, cond_false] at h; cases h
      · rw [hb, cond_true] at h
        exact sm_astore C hd (sm_wdOk hck) hb h k
    · cases h
  | dstore j =>
    have hl1 : len = 2 := hlen
    subst hl1
    dsimp only [fm_step] at h
    split at h
    · exact sm_dstore C hd hck h k
    · cases h
  | iinc j n =>
    have hl1 : len = 3 := hlen
    subst hl1
    dsimp only [fm_step] at h
    split at h
    · rename_i x hx
      exact sm_iinc C hd (sm_wdOk hck) hx h k
    · cases h
  | iadd => have hl1 : len = 1 := hlen; subst hl1; exact sm_bin h (fun H locs cells slots ls x y rest kk => lv_iadd C.1 C.2.1 hd kk) k
  | isub => have hl1 : len = 1 := hlen; subst hl1; exact sm_bin h (fun H locs cells slots ls x y rest kk => lv_isub C.1 C.2.1 hd kk) k
  | imul => have hl1 : len = 1 := hlen; subst hl1; exact sm_bin h (fun H locs cells slots ls x y rest kk => lv_imul C.1 C.2.1 hd kk) k
  | iand => have hl1 : len = 1 := hlen; subst hl1; exact sm_bin h (fun H locs cells slots ls x y rest kk => lv_iand C.1 C.2.1 hd kk) k
  | ior => have hl1 : len = 1 := hlen; subst hl1; exact sm_bin h (fun H locs cells slots ls x y rest kk => lv_ior C.1 C.2.1 hd kk) k
  | ixor => have hl1 : len = 1 := hlen; subst hl1; exact sm_bin h (fun H locs cells slots ls x y rest kk => lv_ixor C.1 C.2.1 hd kk) k
  | ishl => have hl1 : len = 1 := hlen; subst hl1; exact sm_bin h (fun H locs cells slots ls x y rest kk => lv_ishl C.1 C.2.1 hd kk) k
  | ishr => have hl1 : len = 1 := hlen; subst hl1; exact sm_bin h (fun H locs cells slots ls x y rest kk => lv_ishr C.1 C.2.1 hd kk) k
  | iushr => have hl1 : len = 1 := hlen; subst hl1; exact sm_bin h (fun H locs cells slots ls x y rest kk => lv_iushr C.1 C.2.1 hd rfl kk) k
  | idiv =>
    have hl1 : len = 1 := hlen
    subst hl1
    dsimp only [fm_step] at h
    split at h
    · rename_i y x r
      cases hb : decide (y = nI 0)
      · rw [hb, cond_false] at h
        cases h
        have hy : ¬ y = 0 := of_decide_eq_false hb
        exact sm_stack (fun S ho => fm_ok.push (v := .inl (.int (x / y))) ho.tail.tail trivial) (fun H locs cells slots ls kk => lv_idiv C.1 C.2.1 hd hy kk) k
      · rw [hb, cond_true] at h; cases h
    · cases h
  | ineg => have hl1 : len = 1 := hlen; subst hl1; exact sm_un h (fun _ _ => trivial) (fun H locs cells slots ls x rest kk => lv_ineg C.1 C.2.1 hd kk) k
  | i2l => have hl1 : len = 1 := hlen; subst hl1; exact sm_un h (fun _ _ => trivial) (fun H locs cells slots ls x rest kk => lv_i2l C.1 C.2.1 hd rfl kk) k
  | i2f => have hl1 : len = 1 := hlen; subst hl1; exact sm_un h (fun _ _ => trivial) (fun H locs cells slots ls x rest kk => lv_i2f C.1 C.2.1 hd kk) k
  | i2d => have hl1 : len = 1 := hlen; subst hl1; exact sm_un h (fun _ _ => trivial) (fun H locs cells slots ls x rest kk => lv_i2d C.1 C.2.1 hd kk) k
  | ladd =>
    have hl1 : len = 1 := hlen
    subst hl1
    dsimp only [fm_step] at h
    split at h
    · rename_i y x r
      cases h
      exact sm_stack (fun S ho => fm_ok.push (v := .inl (.long (x + y))) ho.tail.tail trivial) (fun H locs cells slots ls kk => lv_ladd C.1 C.2.1 hd kk) k
    · cases h
  | lcmp =>
    have hl1 : len = 1 := hlen
    subst hl1
    dsimp only [fm_step] at h
    split at h
    · rename_i y x r
      cases h
      exact sm_stack (fun S ho => fm_ok.push (v := .inl (.int (lg_cmp x y))) ho.tail.tail trivial) (fun H locs cells slots ls kk => W.lcmp C.1 C.2.1 hd kk) k
    · cases h
  | fcmp op =>
    have hl1 : len = 1 := hlen
    subst hl1
    dsimp only [fm_step] at h
    split at h
    · rename_i y x r
      cases h
      exact sm_stack (fun S ho => fm_ok.push (v := .inl (.int (Op.cmpValue (FP.fcmp x y) op))) ho.tail.tail trivial) (fun H locs cells slots ls kk => lv_fcmp C.1 C.2.1 hd kk) k
    · cases h
  | ifnull off =>
    have hl1 : len = 3 := hlen
    subst hl1
    dsimp only [fm_step] at h
    split at h
    · rename_i c0 r
      cases h
      exact sm_stack (fun S ho => fm_ok.tail ho) (fun H locs cells slots ls kk => lv_ifnull C.1 C.2.1 hd kk) k
    · cases h
  | dcmp op =>
    have hl1 : len = 1 := hlen
    subst hl1
    dsimp only [fm_step] at h
    split at h
    · rename_i y x r
      cases h
      exact sm_stack (fun S ho => fm_ok.push (v := .inl (.int (Op.cmpValue (FP.dcmp x y) op))) ho.tail.tail trivial) (fun H locs cells slots ls kk => lv_dcmp C.1 C.2.1 hd kk) k
    · cases h
  | dup =>
    have hl1 : len = 1 := hlen
    subst hl1
    dsimp only [fm_step] at h
    split at h
    · rename_i v r
      cases hb : Nat.beq (fm_cat v) 1
      · rw [hb, cond_false] at h; cases h
      · rw [hb, cond_true] at h
        cases h
        have hv := Nat.eq_of_beq_eq_true hb
        exact sm_stack (fun S ho => ho.push ho.hd) (fun H locs cells slots ls kk => lv_dup C.1 C.2.1 hd (by rw [fm_cat_ren]; exact hv) kk) k
    · cases h
  | pop =>
    have hl1 : len = 1 := hlen
    subst hl1
    dsimp only [fm_step] at h
    split at h
    · rename_i v r
      cases hb : Nat.beq (fm_cat v) 1
      · rw [hb, cond_false] at h; cases h
      · rw [hb, cond_true] at h
        cases h
        have hv := Nat.eq_of_beq_eq_true hb
        exact sm_stack (fun S ho => ho.tail) (fun H locs cells slots ls kk => lv_pop C.1 C.2.1 hd (va := fm_ren B b v) (by rw [fm_cat_ren]; exact hv) kk) k
    · cases h
  | dup2 =>
    have hl1 : len = 1 := hlen
    subst hl1
    dsimp only [fm_step] at h
    split at h
    · rename_i v w r
      cases hb : (Nat.beq (fm_cat v) 1 && Nat.beq (fm_cat w) 1)
      · rw [hb, cond_false] at h; cases h
      · rw [hb, cond_true] at h
        cases h
        simp only [Bool.and_eq_true] at hb
        have hv := Nat.eq_of_beq_eq_true hb.1
        have hw := Nat.eq_of_beq_eq_true hb.2
        exact sm_stack (fun S ho => (ho.push ho.tail.hd).push ho.hd) (fun H locs cells slots ls kk => lv_dup2_11 C.1 C.2.1 hd (by rw [fm_cat_ren]; exact hv) (by rw [fm_cat_ren]; exact hw) kk) k
    · cases h
  | goto off =>
    have hl1 : len = 3 := hlen
    subst hl1
    dsimp only [fm_step] at h
    split at h
    · rename_i tg
      cases h
      dsimp only at hck
      exact sm_stack (fun S ho => ho) (fun H locs cells slots ls kk => lv_goto C.1 C.2.1 hd (of_decide_eq_true hck) kk) k
    · cases h
  | arraylength =>
    have hl1 : len = 1 := hlen
    subst hl1
    dsimp only [fm_step] at h
    split at h
    · rename_i c0 r
      cases hb : Nat.beq c0 fm_scr
      · rw [hb, cond_false] at h; cases h
      · rw [hb, cond_true] at h
        cases h
        have hc0 := Nat.eq_of_beq_eq_true hb
        subst hc0
        exact sm_slen C hd k
    · cases h
  | getfield cp =>
    have hl1 : len = 3 := hlen
    subst hl1
    dsimp only [fm_step] at h
    split at h
    · rename_i ci k9 fk j v r
      split at h
      · rename_i w hw
        cases h
        dsimp only at hck
        simp only [Bool.and_eq_true] at hck
        obtain ⟨⟨⟨h1, h2⟩, h3⟩, h4⟩ := hck
        split at h4
        · rename_i q hq
          simp only [Bool.and_eq_true] at h4
          obtain ⟨⟨⟨q1, q2⟩, q3⟩, q4⟩ := h4
          exact sm_getfield C hd (Nat.eq_of_beq_eq_true h3) (by simpa using h1) (by simpa using h2) (sm_flOk C hT hq (of_decide_eq_true q1) (Nat.eq_of_beq_eq_true q2) (Nat.eq_of_beq_eq_true q3) (Nat.eq_of_beq_eq_true q4)) hw k
        · cases h4
      · cases h
    · cases h
  | putfield cp =>
    have hl1 : len = 3 := hlen
    subst hl1
    dsimp only [fm_step] at h
    split at h
    · rename_i ci k9 fk j x v r
      split at h
      · rename_i w hw
        cases h
        dsimp only at hck
        simp only [Bool.and_eq_true] at hck
        obtain ⟨⟨⟨⟨h1, h2⟩, h3⟩, h5⟩, h4⟩ := hck
        split at h4
        · rename_i q hq
          simp only [Bool.and_eq_true] at h4
          obtain ⟨⟨⟨⟨q1, q2⟩, q3⟩, q4⟩, q5⟩ := h4
          have hfl := sm_flOk C hT hq (of_decide_eq_true q1) (Nat.eq_of_beq_eq_true q2) (Nat.eq_of_beq_eq_true q3) (Nat.eq_of_beq_eq_true q4)
          have hfp : fm_fp own cp ci k9 args s meth := by
            cases hfin : (fm_T ci k9).2.2.2
            · exact Or.inl ⟨hfin, hfl⟩
            · rw [hfin] at q5
              simp only [Bool.not_true, Bool.false_or, Bool.and_eq_true] at q5
              obtain ⟨⟨i1, i2⟩, i3⟩ := q5
              refine Or.inr ⟨hfin, ?_, hini i1, of_decide_eq_true i3⟩
              have hm := hT.1 q (List.mem_of_getElem? hq)
              have e1 := of_decide_eq_true q1
              have e2 := Nat.eq_of_beq_eq_true q2
              have e3 := Nat.eq_of_beq_eq_true q3
              have e4 := Nat.eq_of_beq_eq_true q4
              have e5 := of_decide_eq_true i2
              obtain ⟨z1, z2, z3, z4, z5⟩ := q
              dsimp only at e1 e2 e3 e4 e5
              subst e1; subst e2; subst e3; subst e4; subst e5
              exact fm_word C hm rfl
          exact sm_putfield C hd (Nat.eq_of_beq_eq_true h3) (by simpa using h1) (by simpa using h2) hfp (fm_fitb_ok h5) hw k
        · cases h4
      · cases h
    · cases h
  | new cp =>
    have hl1 : len = 3 := hlen
    subst hl1
    dsimp only [fm_step] at h
    split at h
    · rename_i ci n j
      split at h
      · rename_i q hq
        cases h
        dsimp only at hck
        simp only [Bool.and_eq_true] at hck
        obtain ⟨⟨h1, h2⟩, h3⟩ := hck
        have hci : ci < 7 := by simpa using h1
        have hn := Nat.eq_of_beq_eq_true h2
        have hw1 := hT.2.2.2.2.1 _ (List.mem_of_getElem? (of_decide_eq_true h3))
        obtain ⟨w2, w3, w4⟩ := hT.2.2.2.2.2.2.1 ci hci
        obtain ⟨g0, g1, rfl⟩ := fm_newc_inv hq
        rw [fm_cn_app] at hc
        rw [fm_sn_app] at hs
        exact sm_new C hd hci hn (fm_word C hw1 rfl) (fm_word C w2 rfl) (fm_word C w3 rfl) (fun k hk => fm_fitb_ok (w4 k hk)) hq hc hs hm1 hm2 k
      · cases h
    · rename_i x j
      cases hb : (Nat.ble (fm_csum st) 8 && Nat.beq M.2.length fm_L0)
      · rw [hb, cond_false] at h; cases h
      · rw [hb, cond_true] at h; cases h
    · cases h
  | ldc cp =>
    have hl1 : len = 2 := hlen
    subst hl1
    dsimp only [fm_step] at h
    split at h
    · rename_i n
      cases h
      dsimp only at hck
      have hm := hT.2.2.2.2.2.1 _ (List.contains_iff_mem.mp hck)
      exact sm_stack (fun S ho => fm_ok.push (v := .inl (.int (nI n))) ho trivial) (fun H locs cells slots ls kk => lv_ldc C.1 C.2.1 C.2.2.2.1 (fm_word C hm rfl) hd kk) k
    · cases h
  | ldc_w cp =>
    have hl1 : len = 3 := hlen
    subst hl1
    dsimp only [fm_step] at h
    split at h
    · rename_i n
      cases h
      dsimp only at hck
      have hm := hT.2.2.2.2.2.1 _ (List.contains_iff_mem.mp hck)
      exact sm_stack (fun S ho => fm_ok.push (v := .inl (.int (nI n))) ho trivial) (fun H locs cells slots ls kk => lv_ldcw C.1 C.2.1 C.2.2.2.1 (fm_word C hm rfl) hd kk) k
    · cases h
  | invokespecial cp =>
    have hl1 : len = 3 := hlen
    subst hl1
    dsimp only [fm_step] at h
    split at h
    · rename_i mj rk n j
      unfold fm_calls at h
      split at h
      · rename_i q hq
        cases hb : (Nat.ble (fm_csum q.2) 8 && q.1.all (fun v => Nat.beq (fm_cat v) 1) && fm_isA q.1.head?)
        · rw [hb, cond_false] at h; cases h
        · rw [hb, cond_true] at h; cases h
      · cases h
    · rename_i j
      split at h
      · rename_i c0 r
        cases hb : Nat.ble (fm_csum r) 8
        · rw [hb, cond_false] at h; cases h
        · rw [hb, cond_true] at h
          cases h
          dsimp only at hck
          have hm := hT.2.1 _ (List.mem_of_getElem? (of_decide_eq_true hck))
          have hf1 : 1 ≤ R.frames := (hfl _ j rfl rfl).1
          have hl2 : 20 ≤ R.locals := (hfl _ j rfl rfl).2
          have hb2 : fm_csum r ≤ 8 := by simpa using hb
          intro H locs ls hl ho hw hS
          refine W.objInit (a := if c0 = fm_scr then b else B + c0) (rest := r.map (fm_ren B b)) C.1 C.2.1 C.2.2.2.1 (fm_word C hm rfl) (fm_word C hT.2.2.1 rfl) (fm_word C hT.2.2.2.1 rfl) rfl (by rw [C.2.2.1]; exact hl.1) rfl hd hf1 ?_ (k H locs ls hl ho.tail hw hS)
          rw [fm_csum_ren]
          show 2 * (F0 m pc ls (List.map (fm_ren B b) (Sum.inl (Value.ref c0) :: r))).monitorRoom + fm_csum r + 12 ≤ R.locals
          have h0 : (F0 m pc ls (List.map (fm_ren B b) (Sum.inl (Value.ref c0) :: r))).monitorRoom = 0 := rfl
          rw [h0]
          omega
      · cases h
    · cases h
  | ifCond cd off =>
    exfalso
    dsimp only [fm_step] at h
    split at h
    · cases cd <;> exact fm_if_no h
    · cases h
  | if_icmp cd off =>
    exfalso
    dsimp only [fm_step] at h
    split at h
    · cases cd <;> exact fm_icmp_no h
    · cases h
  | tableswitch d lo9 hi offs =>
    exfalso
    dsimp only [fm_step] at h
    split at h <;> cases h
  | iaload =>
    exfalso
    dsimp only [fm_step] at h
    split at h
    · rename_i i c0 r
      cases hb : Nat.beq c0 fm_scr
      · rw [hb, cond_false] at h; exact fm_ald_no h
      · rw [hb, cond_true] at h; cases h
    · cases h
    · exact fm_ald_no h
  | _ => first
    | exact absurd (show (fm_no : fm_R) = Sum.inl g from h) (fun h9 => nomatch h9)
    | (exfalso; (simp only [fm_step, fm_ald, fm_callr, fm_callv, fm_calls, Bool.cond_eq_ite] at h) <;> (repeat' (split at h)) <;> (cases h))
end FMS7
