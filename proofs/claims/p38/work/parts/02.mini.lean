/-! A small machine: frames of methods over a world of numbered cells; its steps, its runs, and what must hold so that a run comes to an end with Q. -/
/-- a value: a machine's value whose references are numbers of cells; or a thing of the pool: what (0 the object, 1 and 2 its rows) and which -/
abbrev fm_V : Type := Value ⊕ (Nat × Nat)
/-- a cell's shape: kind, length, references -/
abbrev fm_Sc : Type := Nat × Nat × List (Option Nat)
/-- what the cells hold: ints, longs, doubles by cell and place; how many cells were thrown away -/
abbrev fm_N : Type := (Nat → Nat → Int32) × (Nat → Nat → Int64) × (Nat → Nat → UInt64) × Nat
/-- the memory: what the cells hold, and their shapes -/
abbrev fm_M : Type := fm_N × List fm_Sc
/-- a constant -/
def fm_k (n : Int) : Int32 := match n with
  | .ofNat k => nI k
  | .negSucc k => Int32.ofInt (.negSucc k)
/-- a frame: place, locals, stack, memory -/
abbrev fm_F : Type := Nat × List (Option fm_V) × List fm_V × fm_M
/-- an end: returned, or threw an exception of that number -/
abbrev fm_O : Type := Option fm_V ⊕ Nat
/-- a row of code: place, instruction, length, remarks -/
abbrev fm_En : Type := Nat × Instr × Nat × List Nat
/-- a row of a table of handlers: from, to, handler, its class by number, where it goes on, the local that is lost -/
abbrev fm_H : Type := Nat × Nat × Nat × Nat × Nat × Nat
abbrev fm_P : Type := (c : Prop) × Decidable c
/-- what a step gives: a frame; a frame under a condition; one of two; a call (method, kind of answer, arguments, the frame behind); an end; one of many by a number; nothing -/
abbrev fm_R : Type := fm_F ⊕ (fm_P × fm_F) ⊕ (fm_P × fm_F × fm_F) ⊕ (Nat × Nat × List fm_V × fm_F) ⊕ (fm_O × fm_M) ⊕ (Int32 × List (Int32 × fm_F) × fm_F) ⊕ (fm_P × fm_O × fm_M) ⊕ Unit
abbrev fm_go (f : fm_F) : fm_R := .inl f
abbrev fm_gd (c : Prop) [d : Decidable c] (f : fm_F) : fm_R := .inr (.inl (⟨c, d⟩, f))
abbrev fm_br (c : Prop) [d : Decidable c] (f g : fm_F) : fm_R := .inr (.inr (.inl (⟨c, d⟩, f, g)))
abbrev fm_ca (mj rk : Nat) (as : List fm_V) (f : fm_F) : fm_R := .inr (.inr (.inr (.inl (mj, rk, as, f))))
abbrev fm_dn (o : fm_O) (M : fm_M) : fm_R := .inr (.inr (.inr (.inr (.inl (o, M)))))
abbrev fm_sw (x : Int32) (l : List (Int32 × fm_F)) (f : fm_F) : fm_R := .inr (.inr (.inr (.inr (.inr (.inl (x, l, f))))))
abbrev fm_dg (c : Prop) [d : Decidable c] (o : fm_O) (M : fm_M) : fm_R := .inr (.inr (.inr (.inr (.inr (.inr (.inl (⟨c, d⟩, o, M)))))))
abbrev fm_no : fm_R := .inr (.inr (.inr (.inr (.inr (.inr (.inr ()))))))
def fm_uI {α : Type} (f : Nat → Nat → α) (c i : Nat) (v : α) : Nat → Nat → α := fun c' i' => if c' = c ∧ i' = i then v else f c' i'
/-- the pool's first cell -/
abbrev fm_R0 : Nat := 26
/-- the pool: how many -/
abbrev fm_RN : Nat := 12
/-- how many cells the fixed part has, once all are made -/
abbrev fm_L0 : Nat := 64
/-- the stores with a fresh late row of ints at c: noughts, and a mark at 5000 that tells its length -/
def fm_nw (f : Nat → Nat → Int32) (c : Nat) : Nat → Nat → Int32 := fun c' i => if c' = c then (if i = 5000 then nI 21 else nI 0) else f c' i
/-- the late row g of 20 ints is there -/
abbrev fm_mk (f : Nat → Nat → Int32) (g : Nat) : Prop := f (fm_L0 + g) 5000 = nI 21
def fm_pc (t j : Nat) : Nat := fm_R0 + 3 * j + t
/-- the script's number -/
abbrev fm_scr : Nat := 999999
def fm_poolRow (S : List fm_Sc) (j : Nat) : Bool := (S[fm_R0 + 3 * j]? == some (4, 3, [some (fm_R0 + 3 * j + 1), some (fm_R0 + 3 * j + 2), none])) && (S[fm_R0 + 3 * j + 1]? == some (11, 5, [])) && (S[fm_R0 + 3 * j + 2]? == some (10, 5, []))
def fm_poolRefs : List (Option Nat) := (List.range fm_RN).map fun j => some (fm_R0 + 3 * j)
def fm_pool (S : List fm_Sc) : Bool := (List.range fm_RN).all (fm_poolRow S)
/-- a cell of an array: its number, kind, length -/
def fm_arr (v : fm_V) (S : List fm_Sc) : Option (Nat × Nat × Nat) := match v with
  | .inl (.ref c) => match S[c]? with
    | some q => some (c, q.1, q.2.1)
    | none => none
  | .inr (t, j) => match t with
    | 1 => cond (fm_pool S) (some (fm_pc 1 j, 11, 5)) none
    | 2 => cond (fm_pool S) (some (fm_pc 2 j, 10, 5)) none
    | _ => none
  | _ => none
def fm_refv (r : Option Nat) : fm_V := match r with
  | some j => .inl (.ref j)
  | none => .inl .null
def fm_getf (ci k fk : Nat) (v : fm_V) (M : fm_M) : Option fm_V := match v with
  | .inl (.ref c) => match M.2[c]? with
    | some q => cond (Nat.beq q.1 ci) (match fk with
      | 0 => some (.inl (.int (M.1.1 c k)))
      | 1 => some (.inl (.long (M.1.2.1 c k)))
      | _ => (q.2.2[k]?).map fm_refv) none
    | none => none
  | .inr (t, j) => cond (Nat.beq t 0 && Nat.beq ci 4 && fm_pool M.2) (match k with
    | 0 => some (.inr (1, j))
    | 1 => some (.inr (2, j))
    | 2 => some (.inl (.int (M.1.1 (fm_pc 0 j) 2)))
    | _ => none) none
  | _ => none
def fm_putf (ci k fk : Nat) (v : fm_V) (x : fm_V) (M : fm_M) : Option fm_M := match v with
  | .inl (.ref c) => match M.2[c]? with
    | some q => cond (Nat.beq q.1 ci && Nat.blt k q.2.1) (match fk, x with
      | 0, .inl (.int y) => some ((fm_uI M.1.1 c k y, M.1.2), M.2)
      | 1, .inl (.long y) => some ((M.1.1, fm_uI M.1.2.1 c k y, M.1.2.2), M.2)
      | 2, .inl (.ref j) => cond (Nat.blt j M.2.length && Nat.blt k q.2.2.length && (!(fm_pool M.2) || fm_pool (M.2.set c (q.1, q.2.1, q.2.2.set k (some j))))) (some (M.1, M.2.set c (q.1, q.2.1, q.2.2.set k (some j)))) none
      | _, _ => none) none
    | none => none
  | .inr (t, j) => cond (Nat.beq t 0 && Nat.beq ci 4 && Nat.beq k 2 && fm_pool M.2) (match x with
    | .inl (.int y) => some ((fm_uI M.1.1 (fm_pc 0 j) 2 y, M.1.2), M.2)
    | _ => none) none
  | _ => none
/-- a new cell of that shape -/
def fm_newc (q : fm_Sc) (M : fm_M) : Option (Nat × fm_M) := cond (Nat.blt M.2.length fm_L0 && Nat.beq M.1.2.2.2 0) (some (M.2.length, M.1, M.2 ++ [q])) none
def fm_nb (x : Int32) : Int32 := vp_nar .boolean x
def fm_ld (lo : List (Option fm_V)) (i : Nat) : Option fm_V := match lo[i]? with
  | some (some v) => some v
  | _ => none
def fm_cat (v : fm_V) : Nat := match v with
  | .inl (.long _) => 2
  | .inl (.double _) => 2
  | _ => 1
/-- the place before i no longer counts, if it held a wide thing -/
def fm_cl (lo : List (Option fm_V)) (i : Nat) : List (Option fm_V) := match i with
  | 0 => lo
  | k + 1 => match lo[k]? with
    | some (some v) => cond (Nat.beq (fm_cat v) 2) (lo.set k none) lo
    | _ => lo
def fm_sto (lo : List (Option fm_V)) (i : Nat) (v : fm_V) : List (Option fm_V) := cond (Nat.beq (fm_cat v) 2) (((fm_cl lo i).set i (some v)).set (i + 1) none) ((fm_cl lo i).set i (some v))
/-- a store: the local's place lies within; w: the method has wide locals ([] for none) -/
def fm_st (w : List Nat) (nx : Nat) (lo : List (Option fm_V)) (i : Nat) (v : fm_V) (r : List fm_V) (M : fm_M) : fm_R := match w with
  | [] => cond (Nat.blt i lo.length && Nat.beq (fm_cat v) 1) (fm_go (nx, lo.set i (some v), r, M)) fm_no
  | _ => cond (Nat.blt (i + (fm_cat v - 1)) lo.length) (fm_go (nx, fm_sto lo i v, r, M)) fm_no
def fm_isI : Option fm_V → Bool
  | some (.inl (.int _)) => true
  | _ => false
def fm_isA : Option fm_V → Bool
  | some (.inl (.ref _)) => true
  | some (.inr _) => true
  | _ => false
def fm_isD : Option fm_V → Bool
  | some (.inl (.double _)) => true
  | _ => false
def fm_load (ok : Option fm_V → Bool) (nx : Nat) (lo : List (Option fm_V)) (i : Nat) (st : List fm_V) (M : fm_M) : fm_R := match fm_ld lo i with
  | some v => cond (ok (some v)) (fm_go (nx, lo, v :: st, M)) fm_no
  | none => fm_no
def fm_csum (st : List fm_V) : Nat := match st with
  | [] => 0
  | v :: r => fm_cat v + fm_csum r
/-- the first n of the stack, turned round, and the rest -/
def fm_pop : Nat → List fm_V → List fm_V → Option (List fm_V × List fm_V)
  | 0, st, acc => some (acc, st)
  | n + 1, v :: st, acc => fm_pop n st (v :: acc)
  | _ + 1, [], _ => none
abbrev fm_inb (i : Int32) (n : Nat) : Prop := ¬ (i < 0 ∨ n ≤ i.toNatClampNeg)
/-- an array's place is read -/
def fm_ald (kd : Nat) (g : Nat → Int32 → fm_V) (nx : Nat) (lo : List (Option fm_V)) (st : List fm_V) (M : fm_M) : fm_R := match st with
  | .inl (.int i) :: a :: r => match fm_arr a M.2 with
    | some q => cond (Nat.beq q.2.1 kd) (fm_gd (fm_inb i q.2.2) (nx, lo, g q.1 i :: r, M)) fm_no
    | none => fm_no
  | _ => fm_no
def fm_bin (nx : Nat) (lo : List (Option fm_V)) (st : List fm_V) (M : fm_M) (op : Int32 → Int32 → Int32) : fm_R := match st with
  | .inl (.int y) :: .inl (.int x) :: r => fm_go (nx, lo, .inl (.int (op x y)) :: r, M)
  | _ => fm_no
def fm_un (nx : Nat) (lo : List (Option fm_V)) (st : List fm_V) (M : fm_M) (op : Int32 → fm_V) : fm_R := match st with
  | .inl (.int x) :: r => fm_go (nx, lo, op x :: r, M)
  | _ => fm_no
def fm_if (tg nx : Nat) (lo : List (Option fm_V)) (st : List fm_V) (M : fm_M) (c : Int32 → Prop) (d : ∀ x, Decidable (c x)) : fm_R := match st with
  | .inl (.int x) :: r => .inr (.inr (.inl (⟨c x, d x⟩, (tg, lo, r, M), (nx, lo, r, M))))
  | _ => fm_no
def fm_icmp (tg nx : Nat) (lo : List (Option fm_V)) (st : List fm_V) (M : fm_M) (c : Int32 → Int32 → Prop) (d : ∀ x y, Decidable (c x y)) : fm_R := match st with
  | .inl (.int y) :: .inl (.int x) :: r => .inr (.inr (.inl (⟨c x y, d x y⟩, (tg, lo, r, M), (nx, lo, r, M))))
  | _ => fm_no
/-- the receiver is of the class ci -/
def fm_rcv (ci : Nat) (as : List fm_V) (S : List fm_Sc) : Bool := match as with
  | .inl (.ref c) :: _ => match S[c]? with
    | some q => Nat.beq q.1 ci
    | none => false
  | .inr (t, _) :: _ => Nat.beq t 0 && Nat.beq ci 4 && fm_pool S
  | _ => false
def fm_callv (mj rk n ci : Nat) (nx : Nat) (lo : List (Option fm_V)) (st : List fm_V) (M : fm_M) : fm_R := match fm_pop n st [] with
  | some q => cond (Nat.ble (fm_csum q.2) 8 && q.1.all (fun v => Nat.beq (fm_cat v) 1) && fm_rcv ci q.1 M.2) (fm_ca mj rk q.1 (nx, lo, q.2, M)) fm_no
  | none => fm_no
def fm_callr (mj rk n : Nat) (nx : Nat) (lo : List (Option fm_V)) (st : List fm_V) (M : fm_M) : fm_R := match fm_pop n st [] with
  | some q => cond (Nat.ble (fm_csum q.2) 8 && q.1.all (fun v => Nat.beq (fm_cat v) 1)) (fm_ca mj rk q.1 (nx, lo, q.2, M)) fm_no
  | none => fm_no
def fm_calls (mj rk n : Nat) (nx : Nat) (lo : List (Option fm_V)) (st : List fm_V) (M : fm_M) : fm_R := match fm_pop n st [] with
  | some q => cond (Nat.ble (fm_csum q.2) 8 && q.1.all (fun v => Nat.beq (fm_cat v) 1) && fm_isA q.1.head?) (fm_ca mj rk q.1 (nx, lo, q.2, M)) fm_no
  | none => fm_no
def fm_swl (lo : List (Option fm_V)) (r : List fm_V) (M : fm_M) : Nat → List Nat → List (Int32 × fm_F)
  | _, [] => []
  | k, t :: ts => (nI k, (t, lo, r, M)) :: fm_swl lo r M (k + 1) ts
/-- one step; X: the script's length and ints -/
def fm_step (X : Nat × (Nat → Int32)) (e : fm_En) (lo : List (Option fm_V)) (st : List fm_V) (M : fm_M) : fm_R := match e.2.1 with
  | .iconst n => fm_go (e.1 + 1, lo, .inl (.int (fm_k n)) :: st, M)
  | .bipush n => fm_go (e.1 + 2, lo, .inl (.int (fm_k n)) :: st, M)
  | .sipush n => fm_go (e.1 + 3, lo, .inl (.int (fm_k n)) :: st, M)
  | .lconst n => fm_go (e.1 + 1, lo, .inl (.long (Int64.ofNat n)) :: st, M)
  | .dconst n => cond (Nat.beq n.1 0) (fm_go (e.1 + 1, lo, .inl (.double FP.dconst0) :: st, M)) fm_no
  | .iload_n k => fm_load fm_isI (e.1 + 1) lo k st M
  | .iload k => fm_load fm_isI (e.1 + 2) lo k st M
  | .aload_n k => fm_load fm_isA (e.1 + 1) lo k st M
  | .aload k => fm_load fm_isA (e.1 + 2) lo k st M
  | .dload k => fm_load fm_isD (e.1 + 2) lo k st M
  | .istore_n k => match st with
    | .inl (.int x) :: r => fm_st e.2.2.2 (e.1 + 1) lo k (.inl (.int x)) r M
    | _ => fm_no
  | .istore k => match st with
    | .inl (.int x) :: r => fm_st e.2.2.2 (e.1 + 2) lo k (.inl (.int x)) r M
    | _ => fm_no
  | .astore_n k => match st with
    | v :: r => cond (fm_isA (some v)) (fm_st e.2.2.2 (e.1 + 1) lo k v r M) fm_no
    | _ => fm_no
  | .astore k => match st with
    | v :: r => cond (fm_isA (some v)) (fm_st e.2.2.2 (e.1 + 2) lo k v r M) fm_no
    | _ => fm_no
  | .dstore k => match e.2.2.2, st with
    | [w], .inl (.double x) :: r => fm_st [w] (e.1 + 2) lo k (.inl (.double x)) r M
    | _, _ => fm_no
  | .iinc k n => match fm_ld lo k with
    | some (.inl (.int x)) => fm_st e.2.2.2 (e.1 + 3) lo k (.inl (.int (x + fm_k n))) st M
    | _ => fm_no
  | .iadd => fm_bin (e.1 + 1) lo st M (fun x y => x + y)
  | .isub => fm_bin (e.1 + 1) lo st M (fun x y => x - y)
  | .imul => fm_bin (e.1 + 1) lo st M (fun x y => x * y)
  | .iand => fm_bin (e.1 + 1) lo st M (fun x y => x &&& y)
  | .ior => fm_bin (e.1 + 1) lo st M (fun x y => x ||| y)
  | .ixor => fm_bin (e.1 + 1) lo st M (fun x y => x ^^^ y)
  | .ishl => fm_bin (e.1 + 1) lo st M (fun x y => x <<< (y &&& 31))
  | .ishr => fm_bin (e.1 + 1) lo st M (fun x y => x >>> (y &&& 31))
  | .iushr => fm_bin (e.1 + 1) lo st M (fun x y => (x.toUInt32 >>> (y.toUInt32 &&& Int32.toUInt32 31)).toInt32)
  | .idiv => match st with
    | .inl (.int y) :: .inl (.int x) :: r => cond (decide (y = nI 0)) fm_no (fm_go (e.1 + 1, lo, .inl (.int (x / y)) :: r, M))
    | _ => fm_no
  | .irem => match st with
    | .inl (.int y) :: .inl (.int x) :: r => fm_gd (¬ y = nI 0) (e.1 + 1, lo, .inl (.int (x - x / y * y)) :: r, M)
    | _ => fm_no
  | .ineg => fm_un (e.1 + 1) lo st M (fun x => .inl (.int (-x)))
  | .i2l => fm_un (e.1 + 1) lo st M (fun x => .inl (.long x.toInt64))
  | .i2f => fm_un (e.1 + 1) lo st M (fun x => .inl (.float (FP.i2f x)))
  | .i2d => fm_un (e.1 + 1) lo st M (fun x => .inl (.double (FP.i2d x)))
  | .ladd => match st with
    | .inl (.long y) :: .inl (.long x) :: r => fm_go (e.1 + 1, lo, .inl (.long (x + y)) :: r, M)
    | _ => fm_no
  | .lcmp => match st with
    | .inl (.long y) :: .inl (.long x) :: r => fm_go (e.1 + 1, lo, .inl (.int (lg_cmp x y)) :: r, M)
    | _ => fm_no
  | .fdiv => match st with
    | .inl (.float y) :: .inl (.float x) :: r => fm_gd (FP.fdiv x y &&& 0x7fffffff ≤ 0x7f800000) (e.1 + 1, lo, .inl (.float (FP.fdiv x y)) :: r, M)
    | _ => fm_no
  | .ddiv => match st with
    | .inl (.double y) :: .inl (.double x) :: r => fm_gd (FP.ddiv x y &&& 0x7fffffffffffffff ≤ 0x7ff0000000000000) (e.1 + 1, lo, .inl (.double (FP.ddiv x y)) :: r, M)
    | _ => fm_no
  | .f2d => match st with
    | .inl (.float x) :: r => fm_gd (FP.f2d x &&& 0x7fffffffffffffff ≤ 0x7ff0000000000000) (e.1 + 1, lo, .inl (.double (FP.f2d x)) :: r, M)
    | _ => fm_no
  | .fcmp op => match st with
    | .inl (.float y) :: .inl (.float x) :: r => fm_go (e.1 + 1, lo, .inl (.int (Op.cmpValue (FP.fcmp x y) op)) :: r, M)
    | _ => fm_no
  | .ifnull _ => match st with
    | .inl (.ref _) :: r => fm_go (e.1 + 3, lo, r, M)
    | _ => fm_no
  | .areturn => match st with
    | [.inl (.ref c)] => fm_dn (.inl (some (.inl (.ref c)))) M
    | _ => fm_no
  | .dcmp op => match st with
    | .inl (.double y) :: .inl (.double x) :: r => fm_go (e.1 + 1, lo, .inl (.int (Op.cmpValue (FP.dcmp x y) op)) :: r, M)
    | _ => fm_no
  | .dup => match st with
    | v :: r => cond (Nat.beq (fm_cat v) 1) (fm_go (e.1 + 1, lo, v :: v :: r, M)) fm_no
    | _ => fm_no
  | .pop => match st with
    | v :: r => cond (Nat.beq (fm_cat v) 1) (fm_go (e.1 + 1, lo, r, M)) fm_no
    | _ => fm_no
  | .dup2 => match st with
    | v :: w :: r => cond (Nat.beq (fm_cat v) 1 && Nat.beq (fm_cat w) 1) (fm_go (e.1 + 1, lo, v :: w :: v :: w :: r, M)) fm_no
    | _ => fm_no
  | .ifCond c _ => match e.2.2.2 with
    | [tg] => match c with
      | .eq => fm_if tg (e.1 + 3) lo st M (fun x => x = nI 0) (fun x => inferInstance)
      | .ne => fm_if (e.1 + 3) tg lo st M (fun x => x = nI 0) (fun x => inferInstance)
      | .lt => fm_if tg (e.1 + 3) lo st M (fun x => x < nI 0) (fun x => inferInstance)
      | .ge => fm_if tg (e.1 + 3) lo st M (fun x => nI 0 ≤ x) (fun x => inferInstance)
      | .gt => fm_if tg (e.1 + 3) lo st M (fun x => nI 0 < x) (fun x => inferInstance)
      | .le => fm_if tg (e.1 + 3) lo st M (fun x => x ≤ nI 0) (fun x => inferInstance)
    | _ => fm_no
  | .if_icmp c _ => match e.2.2.2 with
    | [tg] => match c with
      | .eq => fm_icmp tg (e.1 + 3) lo st M (fun x y => x = y) (fun x y => inferInstance)
      | .ne => fm_icmp (e.1 + 3) tg lo st M (fun x y => x = y) (fun x y => inferInstance)
      | .lt => fm_icmp tg (e.1 + 3) lo st M (fun x y => x < y) (fun x y => inferInstance)
      | .ge => fm_icmp tg (e.1 + 3) lo st M (fun x y => y ≤ x) (fun x y => inferInstance)
      | .gt => fm_icmp tg (e.1 + 3) lo st M (fun x y => y < x) (fun x y => inferInstance)
      | .le => fm_icmp tg (e.1 + 3) lo st M (fun x y => x ≤ y) (fun x y => inferInstance)
    | _ => fm_no
  | .goto _ => match e.2.2.2 with
    | [tg] => fm_go (tg, lo, st, M)
    | _ => fm_no
  | .tableswitch _ _ _ _ => match e.2.2.2, st with
    | dt :: ts, .inl (.int x) :: r => fm_sw x (fm_swl lo r M 0 ts) (dt, lo, r, M)
    | _, _ => fm_no
  | .iaload => match st with
    | .inl (.int i) :: .inl (.ref c) :: r => cond (Nat.beq c fm_scr) (fm_gd (fm_inb i X.1) (e.1 + 1, lo, .inl (.int (X.2 i.toNatClampNeg)) :: r, M)) (fm_ald 10 (fun c i => .inl (.int (M.1.1 c i.toNatClampNeg))) (e.1 + 1) lo st M)
    | .inl (.int i) :: .inr (3, g) :: r => fm_gd (fm_mk M.1.1 g ∧ fm_inb i 20) (e.1 + 1, lo, .inl (.int (M.1.1 (fm_L0 + g) i.toNatClampNeg)) :: r, M)
    | _ => fm_ald 10 (fun c i => .inl (.int (M.1.1 c i.toNatClampNeg))) (e.1 + 1) lo st M
  | .baload => fm_ald 11 (fun c i => .inl (.int (M.1.1 c i.toNatClampNeg))) (e.1 + 1) lo st M
  | .aaload => match st with
    | .inl (.int i) :: .inl (.ref c) :: r => cond (fm_pool M.2 && (M.2[c]? == some (14, 12, fm_poolRefs))) (fm_gd (fm_inb i 12) (e.1 + 1, lo, .inr (0, i.toNatClampNeg) :: r, M)) fm_no
    | _ => fm_no
  | .iastore => match st with
    | .inl (.int x) :: .inl (.int i) :: a :: r => match fm_arr a M.2 with
      | some q => cond (Nat.beq q.2.1 10) (fm_gd (fm_inb i q.2.2) (e.1 + 1, lo, r, ((fm_uI M.1.1 q.1 i.toNatClampNeg x, M.1.2), M.2))) fm_no
      | none => match a with
        | .inr (3, g) => fm_gd (fm_mk M.1.1 g ∧ fm_inb i 20) (e.1 + 1, lo, r, ((fm_uI M.1.1 (fm_L0 + g) i.toNatClampNeg x, M.1.2), M.2))
        | _ => fm_no
    | _ => fm_no
  | .bastore => match st with
    | .inl (.int x) :: .inl (.int i) :: a :: r => match fm_arr a M.2 with
      | some q => cond (Nat.beq q.2.1 11) (fm_gd (fm_inb i q.2.2) (e.1 + 1, lo, r, ((fm_uI M.1.1 q.1 i.toNatClampNeg (fm_nb x), M.1.2), M.2))) fm_no
      | none => fm_no
    | _ => fm_no
  | .aastore => match st with
    | .inl (.ref j) :: .inl (.int i) :: .inl (.ref c) :: r => match M.2[c]?, M.2[j]? with
      | some q, some q' => cond (Nat.beq q.1 14 && Nat.beq q'.1 4 && Nat.blt i.toNatClampNeg q.2.2.length && (!(fm_pool M.2) || fm_pool (M.2.set c (q.1, q.2.1, q.2.2.set i.toNatClampNeg (some j))))) (fm_gd (fm_inb i q.2.1) (e.1 + 1, lo, r, (M.1, M.2.set c (q.1, q.2.1, q.2.2.set i.toNatClampNeg (some j))))) fm_no
      | _, _ => fm_no
    | _ => fm_no
  | .arraylength => match st with
    | .inl (.ref c) :: r => cond (Nat.beq c fm_scr) (fm_go (e.1 + 1, lo, .inl (.int (nI X.1)) :: r, M)) fm_no
    | _ => fm_no
  | .getfield _ => match e.2.2.2, st with
    | [ci, k, fk, _], v :: r => match fm_getf ci k fk v M with
      | some w => fm_go (e.1 + 3, lo, w :: r, M)
      | none => fm_no
    | _, _ => fm_no
  | .putfield _ => match e.2.2.2, st with
    | [ci, k, fk, _], x :: v :: r => match fm_putf ci k fk v x M with
      | some M' => fm_go (e.1 + 3, lo, r, M')
      | none => fm_no
    | _, _ => fm_no
  | .new _ => match e.2.2.2 with
    | [0, ci, n, _] => match fm_newc (ci, n, List.replicate n none) M with
      | some q => fm_go (e.1 + 3, lo, .inl (.ref q.1) :: st, q.2)
      | none => fm_no
    | [1, x, _] => cond (Nat.ble (fm_csum st) 8 && Nat.beq M.2.length fm_L0) (fm_dn (.inr x) ((M.1.1, M.1.2.1, M.1.2.2.1, M.1.2.2.2 + 1), M.2)) fm_no
    | _ => fm_no
  | .newarray _ => match e.2.2.2, st with
    | [kd], .inl (.int n) :: r => match fm_newc (kd, n.toNatClampNeg, []) M with
      | some q => cond (Nat.ble n.toNatClampNeg 1000) (fm_gd (¬ n < 0) (e.1 + 2, lo, .inl (.ref q.1) :: r, q.2)) fm_no
      | none => cond (Nat.beq M.2.length fm_L0 && Nat.beq kd 10) (fm_gd (n = nI 20) (e.1 + 2, lo, .inr (3, M.1.2.2.2) :: r, ((fm_nw M.1.1 (fm_L0 + M.1.2.2.2), M.1.2.1, M.1.2.2.1, M.1.2.2.2 + 1), M.2))) fm_no
    | _, _ => fm_no
  | .anewarray _ => match st with
    | .inl (.int n) :: r => match fm_newc (14, n.toNatClampNeg, List.replicate n.toNatClampNeg none) M with
      | some q => cond (Nat.ble n.toNatClampNeg 1000) (fm_gd (¬ n < 0) (e.1 + 3, lo, .inl (.ref q.1) :: r, q.2)) fm_no
      | none => fm_no
    | _ => fm_no
  | .ldc _ => match e.2.2.2 with
    | [n] => fm_go (e.1 + 2, lo, .inl (.int (nI n)) :: st, M)
    | _ => fm_no
  | .ldc_w _ => match e.2.2.2 with
    | [n] => fm_go (e.1 + 3, lo, .inl (.int (nI n)) :: st, M)
    | _ => fm_no
  | .invokevirtual _ => match e.2.2.2 with
    | [mj, rk, n, _, ci] => fm_callv mj rk n ci (e.1 + 3) lo st M
    | _ => fm_no
  | .invokestatic _ => match e.2.2.2 with
    | [mj, rk, n, _] => fm_callr mj rk n (e.1 + 3) lo st M
    | _ => fm_no
  | .invokespecial _ => match e.2.2.2 with
    | [mj, rk, n, _] => fm_calls mj rk n (e.1 + 3) lo st M
    | [_] => match st with
      | .inl (.ref _) :: r => cond (Nat.ble (fm_csum r) 8) (fm_go (e.1 + 3, lo, r, M)) fm_no
      | _ => fm_no
    | _ => fm_no
  | .ireturn => match e.2.2.2, st with
    | [0], [.inl (.int x)] => fm_dn (.inl (some (.inl (.int x)))) M
    | [1], [.inl (.int x)] => fm_dg (x = nI 0 ∨ x = nI 1) (.inl (some (.inl (.int x)))) M
    | _, _ => fm_no
  | .lreturn => match st with
    | [.inl (.long x)] => fm_dn (.inl (some (.inl (.long x)))) M
    | _ => fm_no
  | .freturn => match st with
    | [.inl (.float x)] => fm_dn (.inl (some (.inl (.float x)))) M
    | _ => fm_no
  | .dreturn => match st with
    | [.inl (.double x)] => fm_dn (.inl (some (.inl (.double x)))) M
    | _ => fm_no
  | .return_ => match st with
    | [] => fm_dn (.inl none) M
    | _ => fm_no
  | _ => fm_no
/-- the code of a method, and its handlers; method by number -/
def fm_fetch (cl : List fm_En) (pc : Nat) : Option fm_En := match cl with
  | [] => none
  | e :: r => cond (Nat.beq e.1 pc) (some e) (fm_fetch r pc)
def fm_entry (nL : Nat) (as : List fm_V) (M : fm_M) : fm_F := (0, as.map some ++ List.replicate (nL - as.length) none, [], M)
/-- the first handler over pc for the exception x -/
def fm_hnd (hs : List fm_H) (pc x : Nat) : Option fm_H := match hs with
  | [] => none
  | h :: r => cond (Nat.ble h.1 pc && Nat.blt pc h.2.1 && Nat.beq h.2.2.2.1 x) (some h) (fm_hnd r pc x)
/-- a handler's frame: its first instruction, which stores the exception, is done -/
def fm_hfr (h : fm_H) (lo : List (Option fm_V)) (M : fm_M) : fm_F := (h.2.2.2.2.1, lo.set h.2.2.2.2.2 none, [], M)
def fm_sel (x : Int32) (l : List (Int32 × fm_F)) (d : fm_F) : fm_F := match l with
  | [] => d
  | q :: r => if x = q.1 then q.2 else fm_sel x r d
def fm_push (v : Option fm_V) (f : fm_F) (M : fm_M) : fm_F := match v with
  | some w => (f.1, f.2.1, w :: f.2.2.1, M)
  | none => (f.1, f.2.1, f.2.2.1, M)
/-- the program: code, handlers, locals of each method; the script -/
abbrev fm_Pr : Type := (Nat → List fm_En) × (Nat → List fm_H) × (Nat → Nat) × (Nat × (Nat → Int32))
def fm_run (P : fm_Pr) : Nat → Nat → fm_F → Option (fm_O × fm_M)
  | 0, _, _ => none
  | n + 1, mi, f => match fm_fetch (P.1 mi) f.1 with
    | none => none
    | some e => match fm_step P.2.2.2 e f.2.1 f.2.2.1 f.2.2.2 with
      | .inl g => fm_run P n mi g
      | .inr (.inl (c, g)) => @ite _ c.1 c.2 (fm_run P n mi g) none
      | .inr (.inr (.inl (c, g, h))) => @ite _ c.1 c.2 (fm_run P n mi g) (fm_run P n mi h)
      | .inr (.inr (.inr (.inl (mj, _, as, g)))) => match fm_run P n mj (fm_entry (P.2.2.1 mj) as g.2.2.2) with
        | none => none
        | some (.inl v, M) => fm_run P n mi (fm_push v g M)
        | some (.inr x, M) => match fm_hnd (P.2.1 mi) f.1 x with
          | some h => fm_run P n mi (fm_hfr h g.2.1 M)
          | none => some (.inr x, M)
      | .inr (.inr (.inr (.inr (.inl q)))) => some q
      | .inr (.inr (.inr (.inr (.inr (.inl (x, l, d)))))) => fm_run P n mi (fm_sel x l d)
      | .inr (.inr (.inr (.inr (.inr (.inr (.inl (c, q))))))) => @ite _ c.1 c.2 (some q) none
      | .inr (.inr (.inr (.inr (.inr (.inr (.inr _)))))) => none
/-- the run from f comes to an end with Q -/
def fm_Ev (P : fm_Pr) (mi : Nat) (f : fm_F) (Q : fm_O → fm_M → Prop) : Prop := ∃ (n : Nat) (r : fm_O × fm_M), fm_run P n mi f = some r ∧ Q r.1 r.2
/-- a call that answers a value of its kind (0 nothing, 1 an int, 2 a long, 3 a float, 4 a double) with K, or throws with X -/
def fm_Cv (P : fm_Pr) (mj : Nat) (as : List fm_V) (M : fm_M) (K : fm_N → Prop) (X : Nat → fm_N → Prop) : Prop := fm_Ev P mj (fm_entry (P.2.2.1 mj) as M) fun o M' => match o with
  | .inl none => M'.2 = M.2 ∧ K M'.1
  | .inr x => M'.2 = M.2 ∧ X x M'.1
  | _ => False
def fm_Ci (P : fm_Pr) (mj : Nat) (as : List fm_V) (M : fm_M) (K : Int32 → fm_N → Prop) (X : Nat → fm_N → Prop) : Prop := fm_Ev P mj (fm_entry (P.2.2.1 mj) as M) fun o M' => match o with
  | .inl (some (.inl (.int r))) => M'.2 = M.2 ∧ K r M'.1
  | .inr x => M'.2 = M.2 ∧ X x M'.1
  | _ => False
def fm_Cl (P : fm_Pr) (mj : Nat) (as : List fm_V) (M : fm_M) (K : Int64 → fm_N → Prop) (X : Nat → fm_N → Prop) : Prop := fm_Ev P mj (fm_entry (P.2.2.1 mj) as M) fun o M' => match o with
  | .inl (some (.inl (.long r))) => M'.2 = M.2 ∧ K r M'.1
  | .inr x => M'.2 = M.2 ∧ X x M'.1
  | _ => False
def fm_Cf (P : fm_Pr) (mj : Nat) (as : List fm_V) (M : fm_M) (K : UInt32 → fm_N → Prop) (X : Nat → fm_N → Prop) : Prop := fm_Ev P mj (fm_entry (P.2.2.1 mj) as M) fun o M' => match o with
  | .inl (some (.inl (.float r))) => M'.2 = M.2 ∧ K r M'.1
  | .inr x => M'.2 = M.2 ∧ X x M'.1
  | _ => False
def fm_Cd (P : fm_Pr) (mj : Nat) (as : List fm_V) (M : fm_M) (K : UInt64 → fm_N → Prop) (X : Nat → fm_N → Prop) : Prop := fm_Ev P mj (fm_entry (P.2.2.1 mj) as M) fun o M' => match o with
  | .inl (some (.inl (.double r))) => M'.2 = M.2 ∧ K r M'.1
  | .inr x => M'.2 = M.2 ∧ X x M'.1
  | _ => False
def fm_Cr (P : fm_Pr) (mj : Nat) (as : List fm_V) (M : fm_M) (K : Nat → fm_N → Prop) (X : Nat → fm_N → Prop) : Prop := fm_Ev P mj (fm_entry (P.2.2.1 mj) as M) fun o M' => match o with
  | .inl (some (.inl (.ref r))) => M'.2 = M.2 ∧ K r M'.1
  | .inr x => M'.2 = M.2 ∧ X x M'.1
  | _ => False
/-- where an exception x at pc goes on: by the handlers, or out -/
def fm_hw (hs : List fm_H) (pc : Nat) (K : fm_H → Prop) (X : Prop) (x : Nat) : Prop := match hs with
  | [] => X
  | h :: r => cond (Nat.ble h.1 pc && Nat.blt pc h.2.1) ((x = h.2.2.2.1 → K h) ∧ (¬ x = h.2.2.2.1 → fm_hw r pc K X x)) (fm_hw r pc K X x)
def fm_sww (x : Int32) (l : List (Int32 × fm_F)) (d : fm_F) (K : fm_F → Prop) : Prop := match l with
  | [] => K d
  | q :: r => (x = q.1 → K q.2) ∧ (¬ x = q.1 → fm_sww x r d K)
/-- what must hold so that the run from f comes to an end with Q: k steps, but no step from the places sp -/
def fm_wp (P : fm_Pr) (cl : List fm_En) (hs : List fm_H) (mi : Nat) (sp : List Nat) : Nat → Bool → fm_F → (fm_O → fm_M → Prop) → Prop
  | 0, _, f, Q => fm_Ev P mi f Q
  | k + 1, b, f, Q => cond (b && sp.contains f.1) (fm_Ev P mi f Q) (match fm_fetch cl f.1 with
    | none => False
    | some e => match fm_step P.2.2.2 e f.2.1 f.2.2.1 f.2.2.2 with
      | .inl g => fm_wp P cl hs mi sp k true g Q
      | .inr (.inl (c, g)) => c.1 ∧ fm_wp P cl hs mi sp k true g Q
      | .inr (.inr (.inl (c, g, h))) => (c.1 → fm_wp P cl hs mi sp k true g Q) ∧ (¬ c.1 → fm_wp P cl hs mi sp k true h Q)
      | .inr (.inr (.inr (.inl (mj, rk, as, g)))) => match rk with
        | 0 => fm_Cv P mj as g.2.2.2 (fun N => fm_wp P cl hs mi sp k true (g.1, g.2.1, g.2.2.1, (N, g.2.2.2.2)) Q) (fun x N => fm_hw hs f.1 (fun h => fm_wp P cl hs mi sp k true (fm_hfr h g.2.1 (N, g.2.2.2.2)) Q) (Q (.inr x) (N, g.2.2.2.2)) x)
        | 1 => fm_Ci P mj as g.2.2.2 (fun r N => fm_wp P cl hs mi sp k true (g.1, g.2.1, .inl (.int r) :: g.2.2.1, (N, g.2.2.2.2)) Q) (fun x N => fm_hw hs f.1 (fun h => fm_wp P cl hs mi sp k true (fm_hfr h g.2.1 (N, g.2.2.2.2)) Q) (Q (.inr x) (N, g.2.2.2.2)) x)
        | 2 => fm_Cl P mj as g.2.2.2 (fun r N => fm_wp P cl hs mi sp k true (g.1, g.2.1, .inl (.long r) :: g.2.2.1, (N, g.2.2.2.2)) Q) (fun x N => fm_hw hs f.1 (fun h => fm_wp P cl hs mi sp k true (fm_hfr h g.2.1 (N, g.2.2.2.2)) Q) (Q (.inr x) (N, g.2.2.2.2)) x)
        | 3 => fm_Cf P mj as g.2.2.2 (fun r N => fm_wp P cl hs mi sp k true (g.1, g.2.1, .inl (.float r) :: g.2.2.1, (N, g.2.2.2.2)) Q) (fun x N => fm_hw hs f.1 (fun h => fm_wp P cl hs mi sp k true (fm_hfr h g.2.1 (N, g.2.2.2.2)) Q) (Q (.inr x) (N, g.2.2.2.2)) x)
        | 5 => fm_Cr P mj as g.2.2.2 (fun r N => fm_wp P cl hs mi sp k true (g.1, g.2.1, .inl (.ref r) :: g.2.2.1, (N, g.2.2.2.2)) Q) (fun x N => fm_hw hs f.1 (fun h => fm_wp P cl hs mi sp k true (fm_hfr h g.2.1 (N, g.2.2.2.2)) Q) (Q (.inr x) (N, g.2.2.2.2)) x)
        | _ => fm_Cd P mj as g.2.2.2 (fun r N => fm_wp P cl hs mi sp k true (g.1, g.2.1, .inl (.double r) :: g.2.2.1, (N, g.2.2.2.2)) Q) (fun x N => fm_hw hs f.1 (fun h => fm_wp P cl hs mi sp k true (fm_hfr h g.2.1 (N, g.2.2.2.2)) Q) (Q (.inr x) (N, g.2.2.2.2)) x)
      | .inr (.inr (.inr (.inr (.inl q)))) => Q q.1 q.2
      | .inr (.inr (.inr (.inr (.inr (.inl (x, l, d)))))) => fm_sww x l d (fun g => fm_wp P cl hs mi sp k true g Q)
      | .inr (.inr (.inr (.inr (.inr (.inr (.inl (c, q))))))) => c.1 ∧ Q q.1 q.2
      | .inr (.inr (.inr (.inr (.inr (.inr (.inr _)))))) => False)
theorem fm_run_mono (P : fm_Pr) : ∀ (n mi : Nat) (f : fm_F) (r : fm_O × fm_M), fm_run P n mi f = some r → fm_run P (n + 1) mi f = some r := by
  intro n
  induction n with
  | zero => intro mi f r h; cases h
  | succ n ih =>
    intro mi f r h
    rw [fm_run] at h ⊢
    split at h
    · cases h
    · rename_i e he
      try rw [he]
      try dsimp only
      split at h
      · rename_i g hg; (try rw [hg]); exact ih _ _ _ h
      · rename_i c g hg
        (try rw [hg])
        (try dsimp only)
        by_cases hc : c.1
        · rw [if_pos hc] at h ⊢; exact ih _ _ _ h
        · rw [if_neg hc] at h; cases h
      · rename_i c g g' hg
        (try rw [hg])
        (try dsimp only)
        by_cases hc : c.1
        · rw [if_pos hc] at h ⊢; exact ih _ _ _ h
        · rw [if_neg hc] at h ⊢; exact ih _ _ _ h
      · rename_i mj rk as g hg
        (try rw [hg])
        (try dsimp only)
        split at h
        · cases h
        · rename_i v M hr; rw [ih _ _ _ hr]; exact ih _ _ _ h
        · rename_i x M hr
          rw [ih _ _ _ hr]
          dsimp only
          split at h
          · rename_i hh hq; (try rw [hq]); exact ih _ _ _ h
          · rename_i hq; (try rw [hq]); exact h
      · rename_i q hg; (try rw [hg]); exact h
      · rename_i x l d hg; (try rw [hg]); exact ih _ _ _ h
      · rename_i c q hg; (try rw [hg]); exact h
      · cases h
theorem fm_run_le (P : fm_Pr) {n m mi : Nat} {f : fm_F} {r : fm_O × fm_M} (hnm : n ≤ m) (h : fm_run P n mi f = some r) : fm_run P m mi f = some r := by
  induction m with
  | zero => rw [Nat.le_zero.mp hnm] at h; exact h
  | succ m ih =>
    rcases Nat.lt_or_ge n (m + 1) with q | q
    · exact fm_run_mono P _ _ _ _ (ih (by omega))
    · rw [show m + 1 = n by omega]; exact h
theorem fm_Ev.mono {P : fm_Pr} {mi : Nat} {f : fm_F} {Q Q' : fm_O → fm_M → Prop} (h : fm_Ev P mi f Q) (k : ∀ o M, Q o M → Q' o M) : fm_Ev P mi f Q' := by
  obtain ⟨n, r, h1, h2⟩ := h
  exact ⟨n, r, h1, k _ _ h2⟩
theorem fm_Ev.step {P : fm_Pr} {mi : Nat} {f g : fm_F} {Q : fm_O → fm_M → Prop} (hr : ∀ n r, fm_run P n mi g = some r → fm_run P (n + 1) mi f = some r) (h : fm_Ev P mi g Q) : fm_Ev P mi f Q := by
  obtain ⟨n, r, h1, h2⟩ := h
  exact ⟨n + 1, r, hr _ _ h1, h2⟩
theorem fm_hw_out {hs : List fm_H} {pc x : Nat} {K : fm_H → Prop} {X : Prop} (h : fm_hw hs pc K X x) : (∃ q, fm_hnd hs pc x = some q ∧ K q) ∨ (fm_hnd hs pc x = none ∧ X) := by
  induction hs with
  | nil => exact Or.inr ⟨rfl, h⟩
  | cons q r ih =>
    unfold fm_hw at h
    unfold fm_hnd
    cases hc : (Nat.ble q.1 pc && Nat.blt pc q.2.1)
    · rw [hc] at h
      simp only [Bool.false_and, cond_false] at h ⊢
      exact ih h
    · rw [hc] at h
      simp only [Bool.true_and, cond_true] at h ⊢
      by_cases hx : x = q.2.2.2.1
      · have hb : Nat.beq q.2.2.2.1 x = true := by rw [hx]; exact Nat.beq_refl _
        rw [hb]
        exact Or.inl ⟨q, rfl, h.1 hx⟩
      · have hb : Nat.beq q.2.2.2.1 x = false := by
          cases hbb : Nat.beq q.2.2.2.1 x
          · rfl
          · exact absurd (Nat.eq_of_beq_eq_true hbb).symm hx
        rw [hb]
        exact ih (h.2 hx)
theorem fm_sww_out {x : Int32} {l : List (Int32 × fm_F)} {d : fm_F} {K : fm_F → Prop} (h : fm_sww x l d K) : K (fm_sel x l d) := by
  induction l with
  | nil => exact h
  | cons q r ih =>
    unfold fm_sww at h
    unfold fm_sel
    by_cases hx : x = q.1
    · rw [if_pos hx]; exact h.1 hx
    · rw [if_neg hx]; exact ih (h.2 hx)
/-- a call, and what is behind it -/
theorem fm_call {P : fm_Pr} {mi : Nat} {f : fm_F} {Q : fm_O → fm_M → Prop} {e : fm_En} {mj rk : Nat} {as : List fm_V} {g : fm_F} (he : fm_fetch (P.1 mi) f.1 = some e) (hs : fm_step P.2.2.2 e f.2.1 f.2.2.1 f.2.2.2 = fm_ca mj rk as g)
    (h : fm_Ev P mj (fm_entry (P.2.2.1 mj) as g.2.2.2) fun o M => match o with
      | .inl v => fm_Ev P mi (fm_push v g M) Q
      | .inr x => (∃ q, fm_hnd (P.2.1 mi) f.1 x = some q ∧ fm_Ev P mi (fm_hfr q g.2.1 M) Q) ∨ (fm_hnd (P.2.1 mi) f.1 x = none ∧ Q (.inr x) M)) : fm_Ev P mi f Q := by
  obtain ⟨n, ⟨o, M⟩, h1, h2⟩ := h
  cases o with
  | inl v =>
    obtain ⟨m, r, h3, h4⟩ := h2
    refine ⟨max n m + 1, r, ?_, h4⟩
    rw [fm_run, he]
    dsimp only
    rw [hs]
    dsimp only
    rw [fm_run_le P (Nat.le_max_left n m) h1]
    exact fm_run_le P (Nat.le_max_right n m) h3
  | inr x =>
    rcases h2 with ⟨q, hq, m, r, h3, h4⟩ | ⟨hq, h4⟩
    · refine ⟨max n m + 1, r, ?_, h4⟩
      rw [fm_run, he]
      dsimp only
      rw [hs]
      dsimp only
      rw [fm_run_le P (Nat.le_max_left n m) h1]
      dsimp only
      rw [hq]
      exact fm_run_le P (Nat.le_max_right n m) h3
    · refine ⟨n + 1, (.inr x, M), ?_, h4⟩
      rw [fm_run, he]
      dsimp only
      rw [hs]
      dsimp only
      rw [h1]
      dsimp only
      rw [hq]
/-- what must hold is enough -/
theorem fm_wp_ok (P : fm_Pr) (cl : List fm_En) (hs : List fm_H) (mi : Nat) (sp : List Nat) (hc : P.1 mi = cl) (hh : P.2.1 mi = hs) : ∀ (k : Nat) (b : Bool) (f : fm_F) (Q : fm_O → fm_M → Prop), fm_wp P cl hs mi sp k b f Q → fm_Ev P mi f Q := by
  subst hc
  subst hh
  intro k
  induction k with
  | zero => intro b f Q h; exact h
  | succ k ih =>
    intro b f Q h
    unfold fm_wp at h
    cases hb : (b && sp.contains f.1)
    · rw [hb, cond_false] at h
      split at h
      · exact h.elim
      · rename_i e he
        split at h
        · rename_i g hg
          refine fm_Ev.step (fun n r hr => ?_) (ih _ _ _ h)
          rw [fm_run, he]; dsimp only; rw [hg]; exact hr
        · rename_i c g hg
          refine fm_Ev.step (fun n r hr => ?_) (ih _ _ _ h.2)
          rw [fm_run, he]; dsimp only; rw [hg]; dsimp only; rw [if_pos h.1]; exact hr
        · rename_i c g g' hg
          by_cases hcc : c.1
          · refine fm_Ev.step (fun n r hr => ?_) (ih _ _ _ (h.1 hcc))
            rw [fm_run, he]; dsimp only; rw [hg]; dsimp only; rw [if_pos hcc]; exact hr
          · refine fm_Ev.step (fun n r hr => ?_) (ih _ _ _ (h.2 hcc))
            rw [fm_run, he]; dsimp only; rw [hg]; dsimp only; rw [if_neg hcc]; exact hr
        · rename_i mj rk as g hg
          have hX : ∀ x M, fm_hw (P.2.1 mi) f.1 (fun h => fm_wp P (P.1 mi) (P.2.1 mi) mi sp k true (fm_hfr h g.2.1 M) Q) (Q (.inr x) M) x → (∃ q, fm_hnd (P.2.1 mi) f.1 x = some q ∧ fm_Ev P mi (fm_hfr q g.2.1 M) Q) ∨ (fm_hnd (P.2.1 mi) f.1 x = none ∧ Q (.inr x) M) := by
            intro x M hx
            rcases fm_hw_out hx with ⟨q, h1, h2⟩ | h1
            · exact Or.inl ⟨q, h1, ih _ _ _ h2⟩
            · exact Or.inr h1
          refine fm_call he hg ?_
          have hM : ∀ (M : fm_M), M.2 = g.2.2.2.2 → M = (M.1, g.2.2.2.2) := fun M e => by rw [← e]
          split at h <;> refine fm_Ev.mono h fun o M ho => ?_ <;> (split at ho <;> first | exact ho.elim | (rw [hM M ho.1]; exact ih _ _ _ ho.2) | (rw [hM M ho.1]; exact hX _ _ ho.2))
        · rename_i q hg
          exact ⟨1, q, by rw [fm_run, he]; dsimp only; rw [hg], h⟩
        · rename_i x l d hg
          refine fm_Ev.step (fun n r hr => ?_) (ih _ _ _ (fm_sww_out h))
          rw [fm_run, he]; dsimp only; rw [hg]; exact hr
        · rename_i c q hg
          exact ⟨1, q, by rw [fm_run, he]; dsimp only; rw [hg]; dsimp only; rw [if_pos h.1], h.2⟩
        · exact h.elim
    · rw [hb, cond_true] at h
      exact h
