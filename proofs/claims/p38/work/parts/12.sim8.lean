section FMS8
variable {p : Program} {l : Launch} {e : Env} {R : Room} {s : State} {m : MethodId} {args : Array Value} {below : List Frame} {meth : Method} {c : Code}
variable {sts : fm_St} {ncs : fm_Nc} {X : Nat × (Nat → Int32)} {B b nL : Nat} {wd ini : Bool} {aC : Nat → ClassId} {D : va_G} {M0 : fm_M} {Q : State → Prop} {cc : ByteArray} {own : String} {T : fm_Tb} {cl : List fm_En} {rt : Option FieldType}
variable {pc : Nat} {lo : List (Option fm_V)} {st : List fm_V} {M : fm_M} {g : fm_F}
theorem fm_if_gd {tg nx : Nat} {cnd : Int32 → Prop} {d : ∀ x, Decidable (cnd x)} {q : fm_P} (h : fm_if tg nx lo st M cnd d = .inr (.inl (q, g))) : False := by
  unfold fm_if at h
  split at h <;> cases h
theorem fm_icmp_gd {tg nx : Nat} {cnd : Int32 → Int32 → Prop} {d : ∀ x y, Decidable (cnd x y)} {q : fm_P} (h : fm_icmp tg nx lo st M cnd d = .inr (.inl (q, g))) : False := by
  unfold fm_icmp at h
  split at h <;> cases h
set_option maxHeartbeats 4000000 in
/-- a step under a condition -/
theorem sm_gd {ins : Instr} {len : Nat} {ann : List Nat} {q : fm_P} (C : fm_Cx p s m args meth c sts ncs X B b nL aC D cc own) (hT : fm_TbOk T) (hd : decode cc pc = .ok (ins, len)) (hck : fm_ck T cl own wd ini rt (pc, ins, len, ann) = true)
    (h : fm_step X (pc, ins, len, ann) lo st M = .inr (.inl (q, g))) (hq : q.1) (hc : fm_cn g.2.2.2 - fm_cn M0 ≤ R.cells) (hs : fm_sn g.2.2.2 - fm_sn M0 ≤ R.slots) (hm1 : fm_cn M0 ≤ fm_cn M) (hm2 : fm_sn M0 ≤ fm_sn M)
    (k : fm_WW p l e R s m args below meth c B b nL wd aC D M0 Q g) : fm_WW p l e R s m args below meth c B b nL wd aC D M0 Q (pc, lo, st, M) := by
  unfold fm_ck at hck
  simp only [Bool.and_eq_true] at hck
  obtain ⟨hlen, hck⟩ := hck
  have hlen := Nat.eq_of_beq_eq_true hlen
  cases ins with
  | irem =>
    have hl1 : len = 1 := hlen
    subst hl1
    dsimp only [fm_step] at h
    split at h
    · rename_i y x r
      cases h
      exact sm_stack (fun S ho => fm_ok.push (v := .inl (.int (x - x / y * y))) ho.tail.tail trivial) (fun H locs cells slots ls kk => lv_irem C.1 C.2.1 hd hq kk) k
    · cases h
  | fdiv =>
    have hl1 : len = 1 := hlen
    subst hl1
    dsimp only [fm_step] at h
    split at h
    · rename_i y x r
      cases h
      exact sm_stack (fun S ho => fm_ok.push (v := .inl (.float (FP.fdiv x y))) ho.tail.tail trivial) (fun H locs cells slots ls kk => lv_fdiv C.1 C.2.1 hd hq kk) k
    · cases h
  | ddiv =>
    have hl1 : len = 1 := hlen
    subst hl1
    dsimp only [fm_step] at h
    split at h
    · rename_i y x r
      cases h
      exact sm_stack (fun S ho => fm_ok.push (v := .inl (.double (FP.ddiv x y))) ho.tail.tail trivial) (fun H locs cells slots ls kk => lv_ddiv C.1 C.2.1 hd hq kk) k
    · cases h
  | f2d =>
    have hl1 : len = 1 := hlen
    subst hl1
    dsimp only [fm_step] at h
    split at h
    · rename_i x r
      cases h
      exact sm_stack (fun S ho => fm_ok.push (v := .inl (.double (FP.f2d x))) ho.tail trivial) (fun H locs cells slots ls kk => lv_f2d C.1 C.2.1 hd hq kk) k
    · cases h
  | iaload =>
    have hl1 : len = 1 := hlen
    subst hl1
    dsimp only [fm_step] at h
    split at h
    · rename_i i c0 r
      cases hb : Nat.beq c0 fm_scr
      · rw [hb, cond_false] at h; exact sm_iaload C hd h hq k
      · rw [hb, cond_true] at h
        cases h
        have hc0 := Nat.eq_of_beq_eq_true hb
        subst hc0
        exact sm_sload C hd hq k
    · cases h
      exact sm_ialoadL C hd hq.1 hq.2 k
    · exact sm_iaload C hd h hq k
  | baload => have hl1 : len = 1 := hlen; subst hl1; exact sm_baload C hd h hq k
  | aaload =>
    have hl1 : len = 1 := hlen
    subst hl1
    dsimp only [fm_step] at h
    split at h
    · rename_i i c0 r
      cases hb : (fm_pool M.2 && (M.2[c0]? == some (14, 12, fm_poolRefs)))
      · rw [hb, cond_false] at h; cases h
      · rw [hb, cond_true] at h
        cases h
        simp only [Bool.and_eq_true, beq_iff_eq] at hb
        exact sm_aaload C hd hb.1 hb.2 hq k
    · cases h
  | iastore =>
    have hl1 : len = 1 := hlen
    subst hl1
    dsimp only [fm_step] at h
    split at h
    · rename_i x i a r
      split at h
      · rename_i y hy
        cases hb : Nat.beq y.2.1 10
        · rw [hb, cond_false] at h; cases h
        · rw [hb, cond_true] at h
          cases h
          exact sm_iastore C hd hy (Nat.eq_of_beq_eq_true hb) hq k
      · split at h
        · cases h
          exact sm_iastoreL C hd hq.1 hq.2 k
        · cases h
    · cases h
  | bastore =>
    have hl1 : len = 1 := hlen
    subst hl1
    dsimp only [fm_step] at h
    split at h
    · rename_i x i a r
      split at h
      · rename_i y hy
        cases hb : Nat.beq y.2.1 11
        · rw [hb, cond_false] at h; cases h
        · rw [hb, cond_true] at h
          cases h
          exact sm_bastore C hd hy (Nat.eq_of_beq_eq_true hb) hq k
      · cases h
    · cases h
  | aastore =>
    have hl1 : len = 1 := hlen
    subst hl1
    dsimp only [fm_step] at h
    split at h
    · rename_i j i c0 r
      split at h
      · rename_i y y' hy hy'
        cases hb : (Nat.beq y.1 14 && Nat.beq y'.1 4 && Nat.blt i.toNatClampNeg y.2.2.length && (!(fm_pool M.2) || fm_pool (M.2.set c0 (y.1, y.2.1, y.2.2.set i.toNatClampNeg (some j)))))
        · rw [hb, cond_false] at h; cases h
        · rw [hb, cond_true] at h
          cases h
          simp only [Bool.and_eq_true] at hb
          obtain ⟨⟨⟨b1, b2⟩, b3⟩, b4⟩ := hb
          refine sm_aastore C hd hy hy' (Nat.eq_of_beq_eq_true b1) (Nat.eq_of_beq_eq_true b2) (by simpa using b3) (fun hp => ?_) hq k
          rw [hp] at b4
          simpa using b4
      · cases h
    · cases h
  | newarray a =>
    have hl1 : len = 2 := hlen
    subst hl1
    dsimp only [fm_step] at h
    split at h
    · rename_i kd n r
      split at h
      · rename_i y hy
        cases hb : Nat.ble n.toNatClampNeg 1000
        · rw [hb, cond_false] at h; cases h
        · rw [hb, cond_true] at h
          cases h
          have hb2 : n.toNatClampNeg ≤ 1000 := by simpa using hb
          obtain ⟨g0, g1, rfl⟩ := fm_newc_inv hy
          rw [fm_cn_app] at hc
          rw [fm_sn_app] at hs
          obtain ⟨t1, t2⟩ := hT.2.2.2.2.2.2.2
          cases a with
          | int => exact sm_newarray C hd (Or.inl ⟨rfl, Nat.eq_of_beq_eq_true hck⟩) (fm_word C t1 rfl) hq hb2 hy hc hs hm1 hm2 k
          | boolean => exact sm_newarray C hd (Or.inr ⟨rfl, Nat.eq_of_beq_eq_true hck⟩) (fm_word C t2 rfl) hq hb2 hy hc hs hm1 hm2 k
          | _ => cases hck
      · cases hb : (Nat.beq M.2.length fm_L0 && Nat.beq kd 10)
        · rw [hb, cond_false] at h; cases h
        · rw [hb, cond_true] at h
          cases h
          simp only [Bool.and_eq_true] at hb
          have hl0 := Nat.eq_of_beq_eq_true hb.1
          have hk0 := Nat.eq_of_beq_eq_true hb.2
          subst hk0
          obtain ⟨t1, t2⟩ := hT.2.2.2.2.2.2.2
          have e1 : fm_cn ((fm_nw M.1.1 (fm_L0 + M.1.2.2.2), M.1.2.1, M.1.2.2.1, M.1.2.2.2 + 1), M.2) = fm_cn M + 1 := by unfold fm_cn; dsimp only; omega
          have e2 : fm_sn ((fm_nw M.1.1 (fm_L0 + M.1.2.2.2), M.1.2.1, M.1.2.2.1, M.1.2.2.2 + 1), M.2) = fm_sn M + 20 := by unfold fm_sn; dsimp only; omega
          dsimp only at hc hs
          rw [e1] at hc
          rw [e2] at hs
          cases a with
          | int => exact sm_newL C hd (fm_word C t1 rfl) hl0 hq hc hs hm1 hm2 k
          | _ => first | cases hck | exact absurd hck (by decide)
    · cases h
  | anewarray cp =>
    have hl1 : len = 3 := hlen
    subst hl1
    dsimp only [fm_step] at h
    split at h
    · rename_i n r
      split at h
      · rename_i y hy
        cases hb : Nat.ble n.toNatClampNeg 1000
        · rw [hb, cond_false] at h; cases h
        · rw [hb, cond_true] at h
          cases h
          have hb2 : n.toNatClampNeg ≤ 1000 := by simpa using hb
          obtain ⟨g0, g1, rfl⟩ := fm_newc_inv hy
          rw [fm_cn_app] at hc
          rw [fm_sn_app] at hs
          dsimp only at hck
          split at hck
          · rename_i j
            have hw1 := hT.2.2.2.2.1 _ (List.mem_of_getElem? (of_decide_eq_true hck))
            exact sm_anewarray C hd (fm_word C hw1 rfl) hq hb2 hy hc hs hm1 hm2 k
          · cases hck
      · cases h
    · cases h
  | ifCond cd off =>
    exfalso
    dsimp only [fm_step] at h
    split at h
    · cases cd <;> exact fm_if_gd h
    · cases h
  | if_icmp cd off =>
    exfalso
    dsimp only [fm_step] at h
    split at h
    · cases cd <;> exact fm_icmp_gd h
    · cases h
  | _ => first
    | exact absurd (show (fm_no : fm_R) = Sum.inr (Sum.inl (q, g)) from h) (fun h9 => nomatch h9)
    | (exfalso; (simp only [fm_step, fm_ald, fm_callr, fm_callv, fm_calls, fm_load, fm_st, fm_bin, fm_un, Bool.cond_eq_ite] at h) <;> (repeat' (split at h)) <;> (cases h))
set_option maxHeartbeats 4000000 in
/-- a branch -/
theorem sm_br {ins : Instr} {len : Nat} {ann : List Nat} {q : fm_P} {g2 : fm_F} (C : fm_Cx p s m args meth c sts ncs X B b nL aC D cc own) (hd : decode cc pc = .ok (ins, len)) (hck : fm_ck T cl own wd ini rt (pc, ins, len, ann) = true)
    (h : fm_step X (pc, ins, len, ann) lo st M = .inr (.inr (.inl (q, g, g2))))
    (k1 : q.1 → fm_WW p l e R s m args below meth c B b nL wd aC D M0 Q g) (k2 : ¬ q.1 → fm_WW p l e R s m args below meth c B b nL wd aC D M0 Q g2) : fm_WW p l e R s m args below meth c B b nL wd aC D M0 Q (pc, lo, st, M) := by
  unfold fm_ck at hck
  simp only [Bool.and_eq_true] at hck
  obtain ⟨hlen, hck⟩ := hck
  have hlen := Nat.eq_of_beq_eq_true hlen
  cases ins with
  | ifCond cd off =>
    have hl1 : len = 3 := hlen
    subst hl1
    have h' := h
    dsimp only [fm_step] at h'
    split at h'
    · rename_i tg
      exact sm_ifCond (X := X) C hd (of_decide_eq_true hck) h k1 k2
    · cases h'
  | if_icmp cd off =>
    have hl1 : len = 3 := hlen
    subst hl1
    have h' := h
    dsimp only [fm_step] at h'
    split at h'
    · rename_i tg
      exact sm_ifIcmp (X := X) C hd (of_decide_eq_true hck) h k1 k2
    · cases h'
  | _ => first
    | exact absurd (show (fm_no : fm_R) = Sum.inr (Sum.inr (Sum.inl (q, g, g2))) from h) (fun h9 => nomatch h9)
    | (exfalso; (simp only [fm_step, fm_ald, fm_callr, fm_callv, fm_calls, fm_load, fm_st, fm_bin, fm_un, Bool.cond_eq_ite] at h) <;> (repeat' (split at h)) <;> (cases h))
end FMS8
