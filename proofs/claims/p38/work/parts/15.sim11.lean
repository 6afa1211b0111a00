/-- the handlers of a method, as the tables have them (from, to, handler, entry of the class) and as the small machine has them -/
def fm_hOk (hh : List (Nat × Nat × Nat × Nat)) (hs : List fm_H) : Bool := hh.map (fun q => (q.1, q.2.1, q.2.2.1)) == hs.map (fun h => (h.1, h.2.1, h.2.2.1))
section FMS11
variable {p : Program} {l : Launch} {e : Env} {R : Room} {s : State} {m : MethodId} {args : Array Value} {below : List Frame} {meth : Method} {c : Code}
variable {sts : fm_St} {ncs : fm_Nc} {X : Nat × (Nat → Int32)} {B b nL : Nat} {wd ini : Bool} {aC : Nat → ClassId} {D : va_G} {M0 : fm_M} {Q : State → Prop} {cc : ByteArray} {own : String} {T : fm_Tb} {cl : List fm_En} {rt : Option FieldType}
variable {pc : Nat} {lo : List (Option fm_V)} {st : List fm_V} {M : fm_M} {g : fm_F}
theorem fm_atI_at {pc n : Nat} {i : Instr} (hcl : ∀ x ∈ cl, decode cc x.1 = .ok (x.2.1, x.2.2.1)) (h : fm_atI cl pc i n = true) : decode cc pc = .ok (i, n) := by
  unfold fm_atI at h
  split at h
  · rename_i x hx
    simp only [Bool.and_eq_true] at h
    obtain ⟨⟨h1, h2⟩, h3⟩ := h
    have hm : ∀ (cl : List fm_En), fm_fetch cl pc = some x → x ∈ cl := by
      intro cl
      induction cl with
      | nil => intro h; cases h
      | cons y r ih =>
        intro h
        unfold fm_fetch at h
        cases hb : Nat.beq y.1 pc
        · rw [hb, cond_false] at h; exact List.mem_cons_of_mem _ (ih h)
        · rw [hb, cond_true] at h; cases h; exact List.mem_cons_self
    have hd := hcl x (hm cl hx)
    rw [← of_decide_eq_true h1, ← Nat.eq_of_beq_eq_true h2, ← Nat.eq_of_beq_eq_true h3]
    exact hd
  · cases h
set_option maxHeartbeats 4000000 in
/-- a throw -/
theorem sm_throw {ins : Instr} {len : Nat} {ann : List Nat} {x : Nat} {M' : fm_M} {mc ms : Nat} {Qc : Array Value → State → Outcome → State → Prop} (C : fm_Cx p s m args meth c sts ncs X B b nL aC D cc own) (hl0 : l.stackTraces = false) (hTh : fm_ThOk T) (hSt : fm_StOk T sts) (hcl : ∀ x ∈ cl, decode cc x.1 = .ok (x.2.1, x.2.2.1)) (hout : c.exceptionTable.toList = []) (hd : decode cc pc = .ok (ins, len)) (hck : fm_ck T cl own wd ini rt (pc, ins, len, ann) = true)
    (h : fm_step X (pc, ins, len, ann) lo st M = fm_dn (.inr x) M') (hf : 5 < R.frames) (hlo : 8 + (13 * 3 + 43) ≤ R.locals) (hc : fm_cn M' - fm_cn M0 ≤ mc) (hs : fm_sn M' - fm_sn M0 ≤ ms) (hcR : mc ≤ R.cells) (hsR : ms ≤ R.slots) (hm1 : fm_cn M0 ≤ fm_cn M) (hm2 : fm_sn M0 ≤ fm_sn M) :
    fm_WW p l e R s m args below meth c B b nL wd aC D M0 (vx_MQ below Qc (fm_XC B aC D (.inr x, M')) args s mc ms (fm_A B)) (pc, lo, st, M) := by
  unfold fm_ck at hck
  simp only [Bool.and_eq_true] at hck
  obtain ⟨hlen, hck⟩ := hck
  have hlen := Nat.eq_of_beq_eq_true hlen
  cases ins with
  | new cp =>
    have hl1 : len = 3 := hlen
    subst hl1
    dsimp only [fm_step] at h
    split at h
    · split at h <;> cases h
    · rename_i x9 j
      cases hb : (Nat.ble (fm_csum st) 8 && Nat.beq M.2.length fm_L0)
      · rw [hb, cond_false] at h; cases h
      · rw [hb, cond_true] at h
        cases h
        simp only [Bool.and_eq_true] at hb
        have hb2 : fm_csum st ≤ 8 := by simpa using hb.1
        have hbl : M.2.length = fm_L0 := Nat.eq_of_beq_eq_true hb.2
        dsimp only at hck
        simp only [Bool.and_eq_true] at hck
        obtain ⟨hx5, hck⟩ := hck
        split at hck
        · rename_i q hq
          simp only [Bool.and_eq_true] at hck
          obtain ⟨⟨⟨⟨⟨⟨q1, q2⟩, q3⟩, q4⟩, q5⟩, q6⟩, q7⟩ := hck
          have hqm := List.mem_of_getElem? hq
          have e1 := of_decide_eq_true q1
          have e2 := Nat.eq_of_beq_eq_true q2
          have e3 := Nat.eq_of_beq_eq_true q3
          have hx : q.2.2.2.2.1 < 4 := by rw [e3]; simpa using hx5
          obtain ⟨t1, t2, t3⟩ := hTh q hqm hx
          have hst := hSt q hqm
          obtain ⟨z1, z2, z3, z4, z5, z6⟩ := q
          dsimp only at e1 e2 e3 t1 t2 t3 hst q5 q6
          subst e1; subst e2; subst e3
          have hcn : fm_cn ((M.1.1, M.1.2.1, M.1.2.2.1, M.1.2.2.2 + 1), M.2) = fm_cn M + 1 := by
            unfold fm_cn
            dsimp only
            omega
          have hsn : fm_sn ((M.1.1, M.1.2.1, M.1.2.2.1, M.1.2.2.2 + 1), M.2) = fm_sn M + 20 := by
            unfold fm_sn
            dsimp only
            omega
          rw [hcn] at hc
          rw [hsn] at hs
          intro H locs ls hl ho hw hS
          obtain ⟨p1, p2, p3, p4, p5, p6, p7, p8, p9, p10⟩ := id C.2.2.2.2.2.1
          obtain ⟨sa, hsa⟩ := p3 _ hst
          have hat : ∀ w ∈ vx_atX z1 z4 (fm_ex z5) (fm_exI z5) (fm_exB z5) fm_exN, w.before args s = true := fun w hw9 => by
            obtain ⟨u1, u2⟩ := t3 w hw9
            simp only [Bool.or_eq_true, Bool.and_eq_true] at u2
            rcases u2 with u2 | u2
            · exact fm_word C u1 u2
            · exact fm_wordN C u1 u2.1 u2.2
          have hgood : ∀ w ∈ Cond.classLink z1 z2 (fm_ex z5) :: Cond.initialized (fm_ex z5) :: vx_atX z1 z4 (fm_ex z5) (fm_exI z5) (fm_exB z5) fm_exN, vx_ot w = true := fun w hw9 => by
            rcases List.mem_cons.mp hw9 with rfl | hw9
            · rfl
            · rcases List.mem_cons.mp hw9 with rfl | hw9
              · rfl
              · obtain ⟨u1, u2⟩ := t3 w hw9
                unfold vx_ot
                simp only [Bool.or_eq_true, Bool.and_eq_true] at u2 ⊢
                rcases u2 with u2 | u2
                · exact Or.inr u2
                · exact Or.inl u2.2
          refine vx_throwX (rest := st.map (fm_ren B b)) (names := fm_exN) (A := fm_A B) C.1 C.2.1 hl0 (fm_exB_0 z5) (fm_exB_1 z5) (fm_exB_2 z5) (fm_exB_5 z5) C.2.2.2.1 (fm_ex_fit _) fm_exN_fit (fm_word C t1 rfl) (fm_word C t2 rfl) hsa hat hgood p6 p7 hS (by rw [C.2.2.1]; exact hl.1)
            hd (fm_atI_at hcl q4) (fm_atI_at hcl q5) (fm_atI_at hcl q6) (fm_atI_at hcl q7) (fun y hy => by rw [hout] at hy; cases hy) hf (by rw [fm_csum_ren]; show fm_csum st + (13 * (2 + 1) + 43) ≤ R.locals; omega) ?_ ?_ C.2.2.2.2.2.2 (fun t ht hz hk hz9 => ?_) hS.2.2 ?_ ?_
          · show fm_cn M - fm_cn M0 + 1 ≤ R.cells; omega
          · show fm_sn M - fm_sn M0 + 6 ≤ R.slots; omega
          · obtain ⟨w1, w2, w3, w4, w5, w6, w7, w8, w9, w10, w11⟩ := hw
            have w3 : B + M.2.length ≤ H.size := w3
            have w8 : H.size = B + M.2.length + M.1.2.2.2 := w8
            have w9 : 0 < M.1.2.2.2 → M.2.length = fm_L0 := w9
            have w10 : M.2.length ≤ fm_L0 := w10
            refine ⟨rfl, ⟨w1.kept (fun k q hq => hk q.1 (w1 k q hq).lt), w2, ?_, fun h0 => ?_, w5, w6, fun d hd9 i9 => ?_, ?_, fun _ => hbl, w10, fun g9 hg9 => ?_⟩, ?_⟩
            · show B + M.2.length ≤ t.heap.size
              omega
            · dsimp only at h0
              omega
            · dsimp only at hd9
              exact w7 d (by omega) i9
            · dsimp only
              omega
            · obtain ⟨k1, k2⟩ := w11 g9 hg9
              dsimp only at k1 ⊢
              exact ⟨by omega, k2.kept (hk _ (by omega))⟩
            · exact ⟨Nat.le_trans hS.1 hz, fun q h1 h2 => by rw [hk q (Nat.lt_of_lt_of_le h1 hS.1)]; exact hS.2.1 q h1 h2⟩
          · show fm_cn M - fm_cn M0 + 1 ≤ mc; omega
          · show fm_sn M - fm_sn M0 + 6 ≤ ms; omega
        · cases hck
    · cases h
  | ifCond cd off =>
    exfalso
    dsimp only [fm_step] at h
    split at h
    · cases cd <;> (unfold fm_if at h; simp only at h; (repeat' (split at h)) <;> cases h)
    · cases h
  | if_icmp cd off =>
    exfalso
    dsimp only [fm_step] at h
    split at h
    · cases cd <;> (unfold fm_icmp at h; simp only at h; (repeat' (split at h)) <;> cases h)
    · cases h
  | _ =>
    exfalso
    first
      | exact absurd (show (fm_no : fm_R) = fm_dn (.inr x) M' from h) (fun h9 => nomatch h9)
      | ((simp only [fm_step, fm_ald, fm_callr, fm_callv, fm_calls, fm_load, fm_st, fm_bin, fm_un, Bool.cond_eq_ite] at h) <;> (repeat' (split at h)) <;> (cases h))
/-- an exception that came out of a call goes on to the caller -/
theorem sm_out {H : Heap} {locs : List Loc} {ls : Array Slot} {rest : List Value} {q9 : Addr} {ce : Cell} {x mc ms : Nat} {r : fm_O × fm_M} {Qc : Array Value → State → Outcome → State → Prop} {cells slots : Nat} (C : fm_Cx p s m args meth c sts ncs X B b nL aC D cc own)
    (hpass : ∀ z ∈ c.exceptionTable.toList, covers z pc = false ∨ (z.catchType ≠ 0 ∧ ∃ nm : String, (Cond.classLink own z.catchType nm).before args s = true ∧ va_Nc (fm_ex x) nm s)) (hr : r = (.inr x, M))
    (hw : fm_Wd B aC D M H) (hS : va_S (fm_A B) s.heap H locs) (hce : H[q9]? = some ce) (hv : ce.vm = .none) (hcl : s.vm.findClass (fm_ex x) = some ce.cls) (hc : cells ≤ mc) (hs : slots ≤ ms) :
    vx_W p l e R s m args below meth c H locs cells slots (vx_MQ below Qc (fm_XC B aC D r) args s mc ms (fm_A B)) (F0 m pc ls rest) q9 :=
  vx_outP C.2.2.2.1 C.2.2.2.2.2.2 hpass hce hv hcl (fun t ht _ => by subst hr; exact ⟨rfl, by rw [ht]; exact hw, hS.F ht⟩) hS.2.2 hc hs
end FMS11
