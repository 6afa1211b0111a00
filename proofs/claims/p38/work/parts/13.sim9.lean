/-- a memory that came behind another: the pool stays, nothing is unmade -/
def fm_ge (M M' : fm_M) : Prop := (fm_pool M.2 = true → fm_pool M'.2 = true) ∧ fm_cn M ≤ fm_cn M' ∧ fm_sn M ≤ fm_sn M'
theorem fm_ge.rf (M : fm_M) : fm_ge M M := ⟨id, Nat.le_refl _, Nat.le_refl _⟩
theorem fm_ge.tr {M M' M'' : fm_M} (h : fm_ge M M') (h' : fm_ge M' M'') : fm_ge M M'' := ⟨fun z => h'.1 (h.1 z), Nat.le_trans h.2.1 h'.2.1, Nat.le_trans h.2.2 h'.2.2⟩
def fm_rall (P : fm_M → Prop) (r : fm_R) : Prop := match r with
  | .inl g => P g.2.2.2
  | .inr (.inl (_, g)) => P g.2.2.2
  | .inr (.inr (.inl (_, g, h))) => P g.2.2.2 ∧ P h.2.2.2
  | .inr (.inr (.inr (.inl (_, _, _, g)))) => P g.2.2.2
  | .inr (.inr (.inr (.inr (.inl q)))) => P q.2
  | .inr (.inr (.inr (.inr (.inr (.inl (x, l, d)))))) => P (fm_sel x l d).2.2.2
  | .inr (.inr (.inr (.inr (.inr (.inr (.inl (_, q))))))) => P q.2
  | .inr (.inr (.inr (.inr (.inr (.inr (.inr _)))))) => True
theorem fm_set_sum {S : List fm_Sc} {cI : Nat} {q : fm_Sc} {rs : List (Option Nat)} (h : S[cI]? = some q) : ((S.set cI (q.1, q.2.1, rs)).map (fun z => z.2.1)).sum = (S.map (fun z => z.2.1)).sum := by
  have : (S.set cI (q.1, q.2.1, rs)).map (fun z => z.2.1) = S.map (fun z => z.2.1) := by
    rw [List.map_set]
    apply List.ext_getElem?
    intro i
    have hcl := (List.getElem?_eq_some_iff.mp h).1
    by_cases hi : cI = i
    · subst hi
      rw [List.getElem?_set_self (by simpa using hcl), List.getElem?_map, h]
      rfl
    · rw [List.getElem?_set_ne hi]
  rw [this]
theorem fm_set_ge {M : fm_M} {cI : Nat} {q : fm_Sc} {rs : List (Option Nat)} (h : M.2[cI]? = some q) (hp : fm_pool M.2 = true → fm_pool (M.2.set cI (q.1, q.2.1, rs)) = true) : fm_ge M (M.1, M.2.set cI (q.1, q.2.1, rs)) := by
  refine ⟨hp, ?_, ?_⟩
  · unfold fm_cn
    rw [List.length_set]
    exact Nat.le_refl _
  · unfold fm_sn
    rw [fm_set_sum h]
    exact Nat.le_refl _
theorem fm_putf_ge {ci k fk : Nat} {v x : fm_V} {M M' : fm_M} (h : fm_putf ci k fk v x M = some M') : fm_ge M M' := by
  unfold fm_putf at h
  split at h
  · rename_i cI
    split at h
    · rename_i q hq
      cases hb : (Nat.beq q.1 ci && Nat.blt k q.2.1)
      · rw [hb, cond_false] at h; cases h
      · rw [hb, cond_true] at h
        split at h
        · cases h; exact ⟨fun z => z, Nat.le_refl _, Nat.le_refl _⟩
        · cases h; exact ⟨fun z => z, Nat.le_refl _, Nat.le_refl _⟩
        · rename_i j
          cases hb2 : (Nat.blt j M.2.length && Nat.blt k q.2.2.length && (!(fm_pool M.2) || fm_pool (M.2.set cI (q.1, q.2.1, q.2.2.set k (some j)))))
          · rw [hb2, cond_false] at h; cases h
          · rw [hb2, cond_true] at h
            cases h
            simp only [Bool.and_eq_true] at hb2
            refine fm_set_ge hq fun hp => ?_
            have h3 := hb2.2
            rw [hp] at h3
            simpa using h3
        · cases h
    · cases h
  · rename_i t j
    cases hb : (Nat.beq t 0 && Nat.beq ci 4 && Nat.beq k 2 && fm_pool M.2)
    · rw [hb, cond_false] at h; cases h
    · rw [hb, cond_true] at h
      split at h
      · cases h; exact ⟨fun z => z, Nat.le_refl _, Nat.le_refl _⟩
      · cases h
  · cases h
theorem fm_newc_ge {q : fm_Sc} {M : fm_M} {y : Nat × fm_M} (h : fm_newc q M = some y) : fm_ge M y.2 := by
  obtain ⟨-, -, rfl⟩ := fm_newc_inv h
  refine ⟨fun z => fm_pool_app z, ?_, ?_⟩
  · rw [fm_cn_app]; omega
  · rw [fm_sn_app]; omega
theorem fm_swl_mem {lo : List (Option fm_V)} {r : List fm_V} {M : fm_M} : ∀ (ts : List Nat) (k : Nat) (x : Int32) (d : fm_F), d.2.2.2 = M → (fm_sel x (fm_swl lo r M k ts) d).2.2.2 = M := by
  intro ts
  induction ts with
  | nil => intro k x d hd; exact hd
  | cons t ts ih =>
    intro k x d hd
    unfold fm_swl fm_sel
    split
    · rfl
    · exact ih _ _ _ hd
set_option maxHeartbeats 4000000 in
theorem fm_step_ge (X : Nat × (Nat → Int32)) (e : fm_En) (lo : List (Option fm_V)) (st : List fm_V) (M : fm_M) : fm_rall (fm_ge M) (fm_step X e lo st M) := by
  have rfl1 : fm_ge M M := fm_ge.rf M
  have one : ∀ (c : Bool) (f : fm_F), f.2.2.2 = M → fm_rall (fm_ge M) (cond c (fm_go f) fm_no) := fun c f hf => by
    cases c
    · trivial
    · show fm_ge M f.2.2.2; rw [hf]; exact rfl1
  have ald : ∀ (kd : Nat) (G : Nat → Int32 → fm_V) (nx : Nat), fm_rall (fm_ge M) (fm_ald kd G nx lo st M) := fun kd G nx => by
    unfold fm_ald
    split
    · split
      · rename_i q _
        cases Nat.beq q.2.1 kd
        · trivial
        · exact rfl1
      · trivial
    · trivial
  have bin : ∀ (nx : Nat) (op : Int32 → Int32 → Int32), fm_rall (fm_ge M) (fm_bin nx lo st M op) := fun nx op => by
    unfold fm_bin
    split
    · exact rfl1
    · trivial
  have un : ∀ (nx : Nat) (op : Int32 → fm_V), fm_rall (fm_ge M) (fm_un nx lo st M op) := fun nx op => by
    unfold fm_un
    split
    · exact rfl1
    · trivial
  have ld : ∀ (ok : Option fm_V → Bool) (nx i : Nat), fm_rall (fm_ge M) (fm_load ok nx lo i st M) := fun ok nx i => by
    unfold fm_load
    split
    · exact one _ _ rfl
    · trivial
  have sto : ∀ (w : List Nat) (nx i : Nat) (v : fm_V) (r : List fm_V), fm_rall (fm_ge M) (fm_st w nx lo i v r M) := fun w nx i v r => by
    unfold fm_st
    split
    · exact one _ _ rfl
    · exact one _ _ rfl
  have iff1 : ∀ (tg nx : Nat) (cnd : Int32 → Prop) (d : ∀ x, Decidable (cnd x)), fm_rall (fm_ge M) (fm_if tg nx lo st M cnd d) := fun tg nx cnd d => by
    unfold fm_if
    split
    · exact ⟨rfl1, rfl1⟩
    · trivial
  have iff2 : ∀ (tg nx : Nat) (cnd : Int32 → Int32 → Prop) (d : ∀ x y, Decidable (cnd x y)), fm_rall (fm_ge M) (fm_icmp tg nx lo st M cnd d) := fun tg nx cnd d => by
    unfold fm_icmp
    split
    · exact ⟨rfl1, rfl1⟩
    · trivial
  have callr : ∀ (mj rk n nx : Nat), fm_rall (fm_ge M) (fm_callr mj rk n nx lo st M) := fun mj rk n nx => by
    unfold fm_callr
    split
    · rename_i q _
      cases (Nat.ble (fm_csum q.2) 8 && q.1.all (fun v => Nat.beq (fm_cat v) 1))
      · trivial
      · exact rfl1
    · trivial
  have callv : ∀ (mj rk n ci nx : Nat), fm_rall (fm_ge M) (fm_callv mj rk n ci nx lo st M) := fun mj rk n ci nx => by
    unfold fm_callv
    split
    · rename_i q _
      cases (Nat.ble (fm_csum q.2) 8 && q.1.all (fun v => Nat.beq (fm_cat v) 1) && fm_rcv ci q.1 M.2)
      · trivial
      · exact rfl1
    · trivial
  have calls : ∀ (mj rk n nx : Nat), fm_rall (fm_ge M) (fm_calls mj rk n nx lo st M) := fun mj rk n nx => by
    unfold fm_calls
    split
    · rename_i q _
      cases (Nat.ble (fm_csum q.2) 8 && q.1.all (fun v => Nat.beq (fm_cat v) 1) && fm_isA q.1.head?)
      · trivial
      · exact rfl1
    · trivial
  obtain ⟨pc, ins, len, ann⟩ := e
  cases ins with
  | dconst n => exact one _ _ rfl
  | iload_n j => exact ld _ _ _
  | iload j => exact ld _ _ _
  | aload_n j => exact ld _ _ _
  | aload j => exact ld _ _ _
  | dload j => exact ld _ _ _
  | istore_n j =>
    dsimp only [fm_step]
    split
    · exact sto _ _ _ _ _
    · trivial
  | istore j =>
    dsimp only [fm_step]
    split
    · exact sto _ _ _ _ _
    · trivial
  | astore_n j =>
    dsimp only [fm_step]
    split
    · rename_i v r
      cases fm_isA (some v)
      · trivial
      · exact sto _ _ _ _ _
    · trivial
  | astore j =>
    dsimp only [fm_step]
    split
    · rename_i v r
      cases fm_isA (some v)
      · trivial
      · exact sto _ _ _ _ _
    · trivial
  | dstore j =>
    dsimp only [fm_step]
    split
    · exact sto _ _ _ _ _
    · trivial
  | iinc j n =>
    dsimp only [fm_step]
    split
    · exact sto _ _ _ _ _
    · trivial
  | iadd => exact bin _ _
  | isub => exact bin _ _
  | imul => exact bin _ _
  | iand => exact bin _ _
  | ior => exact bin _ _
  | ixor => exact bin _ _
  | ishl => exact bin _ _
  | ishr => exact bin _ _
  | iushr => exact bin _ _
  | ineg => exact un _ _
  | i2l => exact un _ _
  | i2f => exact un _ _
  | i2d => exact un _ _
  | ifCond cd off =>
    dsimp only [fm_step]
    split
    · cases cd <;> exact iff1 _ _ _ _
    · trivial
  | if_icmp cd off =>
    dsimp only [fm_step]
    split
    · cases cd <;> exact iff2 _ _ _ _
    · trivial
  | tableswitch d lo9 hi offs =>
    dsimp only [fm_step]
    split
    · rename_i dt ts x r
      have h9 := fm_swl_mem (lo := lo) (r := r) (M := M) ts 0 x (dt, lo, r, M) rfl
      show fm_ge M (fm_sel x (fm_swl lo r M 0 ts) (dt, lo, r, M)).2.2.2
      rw [h9]
      exact rfl1
    · trivial
  | iaload =>
    dsimp only [fm_step]
    split
    · rename_i i c0 r
      cases Nat.beq c0 fm_scr
      · exact ald 10 (fun c i => .inl (.int (M.1.1 c i.toNatClampNeg))) (pc + 1)
      · exact rfl1
    · exact rfl1
    · exact ald 10 (fun c i => .inl (.int (M.1.1 c i.toNatClampNeg))) (pc + 1)
  | baload => exact ald 11 (fun c i => .inl (.int (M.1.1 c i.toNatClampNeg))) (pc + 1)
  | getfield cp =>
    dsimp only [fm_step]
    split
    · split
      · exact rfl1
      · trivial
    · trivial
  | putfield cp =>
    dsimp only [fm_step]
    split
    · split
      · rename_i w hw
        exact fm_putf_ge hw
      · trivial
    · trivial
  | new cp =>
    dsimp only [fm_step]
    split
    · split
      · rename_i q hq
        exact fm_newc_ge hq
      · trivial
    · cases (Nat.ble (fm_csum st) 8 && Nat.beq M.2.length fm_L0)
      · trivial
      · exact ⟨fun z => z, (by unfold fm_cn; dsimp only; omega), (by unfold fm_sn; dsimp only; omega)⟩
    · trivial
  | newarray a =>
    dsimp only [fm_step]
    split
    · rename_i kd n r
      split
      · rename_i q hq
        cases Nat.ble n.toNatClampNeg 1000
        · trivial
        · exact fm_newc_ge hq
      · cases (Nat.beq M.2.length fm_L0 && Nat.beq kd 10)
        · trivial
        · exact ⟨fun z => z, (by unfold fm_cn; dsimp only; omega), (by unfold fm_sn; dsimp only; omega)⟩
    · trivial
  | anewarray cp =>
    dsimp only [fm_step]
    split
    · rename_i n r
      split
      · rename_i q hq
        cases Nat.ble n.toNatClampNeg 1000
        · trivial
        · exact fm_newc_ge hq
      · trivial
    · trivial
  | aastore =>
    dsimp only [fm_step]
    split
    · rename_i j i c0 r
      split
      · rename_i q q' hq hq'
        cases hb : (Nat.beq q.1 14 && Nat.beq q'.1 4 && Nat.blt i.toNatClampNeg q.2.2.length && (!(fm_pool M.2) || fm_pool (M.2.set c0 (q.1, q.2.1, q.2.2.set i.toNatClampNeg (some j)))))
        · trivial
        · simp only [Bool.and_eq_true] at hb
          refine fm_set_ge hq fun hp => ?_
          have h3 := hb.2
          rw [hp] at h3
          simpa using h3
      · trivial
    · trivial
  | invokevirtual cp =>
    dsimp only [fm_step]
    split
    · exact callv _ _ _ _ _
    · trivial
  | invokestatic cp =>
    dsimp only [fm_step]
    split
    · exact callr _ _ _ _
    · trivial
  | invokespecial cp =>
    dsimp only [fm_step]
    split
    · exact calls _ _ _ _
    · split
      · exact one _ _ rfl
      · trivial
    · trivial
  | _ => first
    | trivial
    | exact rfl1
    | (simp only [fm_step, Bool.cond_eq_ite] <;> (repeat' split) <;> first | trivial | exact rfl1 | exact ⟨fun z => z, Nat.le_refl _, Nat.le_refl _⟩)
/-- a run never unmakes -/
theorem fm_run_ge (P : fm_Pr) : ∀ (n mi : Nat) (f : fm_F) (r : fm_O × fm_M), fm_run P n mi f = some r → fm_ge f.2.2.2 r.2 := by
  intro n
  induction n with
  | zero => intro mi f r h; cases h
  | succ n ih =>
    intro mi f r h
    rw [fm_run] at h
    split at h
    · cases h
    · rename_i e he
      have hs := fm_step_ge P.2.2.2 e f.2.1 f.2.2.1 f.2.2.2
      split at h
      · rename_i g hg; rw [hg] at hs; exact fm_ge.tr hs (ih _ _ _ h)
      · rename_i c g hg
        rw [hg] at hs
        by_cases hc : c.1
        · rw [if_pos hc] at h; exact fm_ge.tr hs (ih _ _ _ h)
        · rw [if_neg hc] at h; cases h
      · rename_i c g g' hg
        rw [hg] at hs
        by_cases hc : c.1
        · rw [if_pos hc] at h; exact fm_ge.tr hs.1 (ih _ _ _ h)
        · rw [if_neg hc] at h; exact fm_ge.tr hs.2 (ih _ _ _ h)
      · rename_i mj rk as g hg
        rw [hg] at hs
        split at h
        · cases h
        · rename_i v M hr
          have h1 := ih _ _ _ hr
          have h2 := ih _ _ _ h
          have h3 : fm_ge M r.2 := by
            unfold fm_push at h2
            split at h2 <;> exact h2
          exact fm_ge.tr hs (fm_ge.tr h1 h3)
        · rename_i x M hr
          have h1 := ih _ _ _ hr
          split at h
          · exact fm_ge.tr hs (fm_ge.tr h1 (ih _ _ _ h))
          · cases h; exact fm_ge.tr hs h1
      · rename_i q hg; rw [hg] at hs; cases h; exact hs
      · rename_i x l d hg; rw [hg] at hs; exact fm_ge.tr hs (ih _ _ _ h)
      · rename_i c q hg
        rw [hg] at hs
        by_cases hc : c.1
        · rw [if_pos hc] at h; cases h; exact hs
        · rw [if_neg hc] at h; cases h
      · cases h
