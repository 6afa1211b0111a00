/-! every method keeps its contract -/
theorem fx_ofW {l : Launch} {y : MethodName} {ws ws' : List Cond} {rm : Room} {Pc : Array Value → State → Prop} {Qc : Array Value → State → Outcome → State → Prop} {XC : String → State → State → Prop} {mc ms : Nat} {free : Addr → Prop} {cc : ByteArray} {maxL : Nat} {ret : Option FieldType}
    (hy : plainFor y = true) (hw : ws = Cond.code y cc maxL ret :: ws')
    (body : ∀ p e s m args below meth c s₁, BodyLoose p l y (headSpec ws rm) cc maxL ret e s m args below meth c s₁ → c.maxLocals = maxL → (∀ x ∈ c.exceptionTable.toList, False) → Pc args s →
      W p l e (headSpec ws rm).room s m args below meth c s.heap [] 0 0 (vx_MQ below Qc XC args s mc ms free) (entryFrame m args maxL)) : vx_Met l y ws rm Pc Qc XC mc ms free := by
  refine MetFree.of_bodySF (code := cc) (maxLocals := maxL) (ret := ret) hy ?_ ?_
  · intro args s m h hn
    obtain ⟨meth, c, h1, h2, h3, h4, h5, h6, -, -⟩ := Cond.code_spec hn (atoms_spec (ws := ws) h _ (by rw [hw]; exact List.mem_cons_self))
    exact ⟨meth, c, h1, h2, h3, h4, h5, h6⟩
  · intro p e s m args below meth c s₁ B hml hP _
    have hh0 : s₁.heap = s.heap := by rw [B.state]; rfl
    have ht : ∀ x ∈ c.exceptionTable.toList, False := by
      obtain ⟨meth9, c9, h1, h2, -, -, -, -, h7, -⟩ := Cond.code_spec B.named (atoms_spec (ws := ws) B.pre _ (by rw [hw]; exact List.mem_cons_self))
      cases Option.some.inj (h1.symm.trans B.method)
      cases Option.some.inj (h2.symm.trans (Stand.of_body B).code)
      intro x hx
      rw [Array.isEmpty_iff.mp h7] at hx
      cases hx
    obtain ⟨t, a1, o, b1, b2, b3⟩ := body p e s m args below meth c s₁ B hml ht hP s₁ hh0 (Stand.of_body B)
    exact ⟨t, o, a1, b1, b2, b3⟩
theorem fx_ofWH {l : Launch} {y : MethodName} {ws ws' : List Cond} {rm : Room} {Pc : Array Value → State → Prop} {Qc : Array Value → State → Outcome → State → Prop} {XC : String → State → State → Prop} {mc ms : Nat} {free : Addr → Prop} {cc : ByteArray} {maxL : Nat} {ret : Option FieldType} {hh : List (Nat × Nat × Nat × Nat)}
    (hy : plainFor y = true) (hw : ws = Cond.codeWith y cc maxL ret hh :: ws')
    (body : ∀ p e s m args below meth c s₁, BodyLoose p l y (headSpec ws rm) cc maxL ret e s m args below meth c s₁ → c.maxLocals = maxL → Pc args s →
      W p l e (headSpec ws rm).room s m args below meth c s.heap [] 0 0 (vx_MQ below Qc XC args s mc ms free) (entryFrame m args maxL)) : vx_Met l y ws rm Pc Qc XC mc ms free := by
  refine MetFree.of_bodySF (code := cc) (maxLocals := maxL) (ret := ret) hy ?_ ?_
  · intro args s m h hn
    obtain ⟨m9, meth, c, hn9, h1, h2, h3, h4, -, h5, h6, -⟩ := Cond.codeWith_spec (atoms_spec (ws := ws) h _ (by rw [hw]; exact List.mem_cons_self))
    cases hn.symm.trans hn9
    exact ⟨meth, c, h1, h2, h3, h4, h5, h6⟩
  · intro p e s m args below meth c s₁ B hml hP _
    have hh0 : s₁.heap = s.heap := by rw [B.state]; rfl
    obtain ⟨t, a1, o, b1, b2, b3⟩ := body p e s m args below meth c s₁ B hml hP s₁ hh0 (Stand.of_body B)
    exact ⟨t, o, a1, b1, b2, b3⟩
section FMS16
variable {p : Program} {l : Launch} {e : Env} {s s₁ : State} {m : MethodId} {args : Array Value} {below : List Frame} {meth : Method} {c : Code}
variable {sts : fm_St} {ncs : fm_Nc} {X : Nat × (Nat → Int32)} {B b : Nat} {aC : Nat → ClassId} {D : va_G} {T : fm_Tb} {mss : List fm_MR} {P : fm_Pr}
theorem fm_body {mi N : Nat} {rec : fm_MR} {as : List fm_V} {M : fm_M} {r : fm_O × fm_M} (hl0 : l.stackTraces = false) (hT : fm_TbOk T) (hCl : fm_CallOk T mss) (hTh : fm_ThOk T) (hSt : fm_StOk T sts) (hNc : fm_NcOk ncs) (hCa : fm_CaOk) (hAll : fm_All T mss P) (hm : mss[mi]? = some rec) (hX : P.2.2.2 = X) (hA : fm_AA l sts ncs X B b aC D P mss N)
    (hlen : as.length ≤ rec.2.2.1) (hcat : ∀ v ∈ as, fm_cat v = 1) (hrun : fm_run P (N + 1) mi (fm_entry (P.2.2.1 mi) as M) = some r)
    (hexec : p.tables.exec = Jvm.exec) (hbytes : c.code = rec.2.1) (hml : c.maxLocals = rec.2.2.1) (hnamed : s.methodNamed? rec.1 = some m) (hmeth : s.vm.method? m = some meth) (hret : meth.sig.returnType = rec.2.2.2.1) (hlk : meth.locks = false) (hw : ∀ w ∈ fm_TG, w.before args s = true) (htab : c.exceptionTable.toList = tableOf rec.2.2.2.2.1) (hP : fm_Pc sts ncs X B b aC D as M args s) :
    W p l e (fm_rm rec (fm_cn r.2 - fm_cn M) (fm_sn r.2 - fm_sn M)) s m args below meth c s.heap [] 0 0 (vx_MQ below (fm_Qc B b aC D r) (fm_XC B aC D r) args s (fm_cn r.2 - fm_cn M) (fm_sn r.2 - fm_sn M) (fm_A B)) (entryFrame m args rec.2.2.1) := by
  obtain ⟨rfl, hPs, hWd, hvok⟩ := hP
  obtain ⟨hM1, hM2, hM3, hM4, hM5, hM6⟩ := fm_mck_out (hAll mi rec hm)
  have C : fm_Cx p s m (as.map (fm_ren B b)).toArray meth c sts ncs X B b rec.2.2.1 aC D rec.2.1 rec.1.cls := ⟨hexec, hbytes, hml, findClass_of_methodNamed hnamed, hw, hPs, hlk⟩
  rw [hM6] at hrun
  rw [lg_entry_eq]
  have hS0 : va_S (fm_A B) s.heap s.heap [] := va_S.rf
  have hW := fm_walk (p := p) (l := l) (e := e) (R := fm_rm rec (fm_cn r.2 - fm_cn M) (fm_sn r.2 - fm_sn M)) (below := below) (M0 := M) (Q := vx_MQ below (fm_Qc B b aC D r) (fm_XC B aC D r) (as.map (fm_ren B b)).toArray s (fm_cn r.2 - fm_cn M) (fm_sn r.2 - fm_sn M) (fm_A B)) (r := r)
    hT hCl hNc hCa hAll hm hX hA C htab (fun z => (name_of_methodNamed hnamed hmeth).1.trans z) rfl rfl (Nat.le_refl _) (Nat.le_refl _)
    (fun pc ins len ann lo st M9 w g1 g2 g3 g4 => by
      obtain ⟨r1, r2⟩ := r
      dsimp only at g3 g4 ⊢
      subst g3
      exact sm_dn C hret g1 g2 g4 (Nat.le_refl _) (Nat.le_refl _))
    (fun pc ins len ann lo st M9 x g1 g2 g3 g4 g5 g6 g7 g8 g9 => by
      obtain ⟨r1, r2⟩ := r
      dsimp only at g3 g9 ⊢
      subst g3
      exact sm_throw C hl0 hTh hSt (fun x hx => (hM1 x hx).1) (by rw [htab, g4]; rfl) g1 g2 g9 g5 g6 (Nat.le_refl _) (Nat.le_refl _) (Nat.le_refl _) (Nat.le_refl _) g7 g8)
    (fun pc x H locs ls rest q9 ce g1 g2 g3 g4 g5 g6 g7 g8 => by
      obtain ⟨r1, r2⟩ := r
      dsimp only at g1 g4 ⊢
      subst g1
      refine sm_out C (fun z hz => ?_) rfl g4 g5 g6 g7 g8 (Nat.le_refl _) (Nat.le_refl _)
      rw [htab] at hz
      unfold tableOf at hz
      obtain ⟨z0, hz0, rfl⟩ := List.mem_map.mp hz
      exact fm_hby_at C hNc g2 (fm_hck_no _ _ hM2 g3 z0 hz0))
    (N + 1) (fm_entry rec.2.2.1 as M) (Nat.le_refl _) hrun (Nat.le_refl _) (Nat.le_refl _)
  have h0 := hW s.heap [] _ (fm_entry_LH (B := B) (b := b) (wd := rec.2.2.2.2.2.2.2.2) hlen hcat) ⟨fun i v hi => ?_, fun v hv => by cases hv⟩ hWd hS0
  · have e1 : fm_cn (fm_entry rec.2.2.1 as M).2.2.2 - fm_cn M = 0 := Nat.sub_self _
    have e2 : fm_sn (fm_entry rec.2.2.1 as M).2.2.2 - fm_sn M = 0 := Nat.sub_self _
    rw [e1, e2] at h0
    exact h0
  · have hm9 : some v ∈ (as.map some ++ List.replicate (rec.2.2.1 - as.length) none) := List.mem_of_getElem? hi
    rcases List.mem_append.mp hm9 with h9 | h9
    · obtain ⟨w, hw8, e9⟩ := List.mem_map.mp h9
      rw [← Option.some.inj e9]
      exact hvok w hw8
    · exact nomatch (List.mem_replicate.mp h9).2
theorem fm_main (hl0 : l.stackTraces = false) (hT : fm_TbOk T) (hCl : fm_CallOk T mss) (hTh : fm_ThOk T) (hSt : fm_StOk T sts) (hNc : fm_NcOk ncs) (hCa : fm_CaOk) (hAll : fm_All T mss P) (hX : P.2.2.2 = X) : ∀ N, fm_AA l sts ncs X B b aC D P mss N := by
  intro N
  induction N with
  | zero => intro mj rec as M r _ _ _ _ h; cases h
  | succ N ih =>
    intro mj rec as M r hm h0 hlen hcat hrun
    obtain ⟨hM1, hM2, hM3, hM4, hM5, hM6⟩ := fm_mck_out (hAll mj rec hm)
    unfold fm_Ct
    cases hh : rec.2.2.2.2.1 with
    | nil =>
      refine fx_ofW hM5 (fm_w_code hh) fun p e s m args below meth c s₁ BL hml ht hP => ?_
      have hat := atoms_spec (ws := fm_w rec) BL.pre
      exact fm_body hl0 hT hCl hTh hSt hNc hCa hAll hm hX ih hlen hcat hrun BL.exec BL.bytes hml BL.named BL.method BL.returns BL.notSynchronized (fun w hw => hat w (List.mem_cons_of_mem _ hw)) (by rw [hh]; exact List.eq_nil_iff_forall_not_mem.mpr ht) hP
    | cons q t =>
      have hwc : fm_w rec = Cond.codeWith rec.1 rec.2.1 rec.2.2.1 rec.2.2.2.1 (q :: t) :: fm_TG := by
        unfold fm_w fm_cw
        rw [hh]
      refine fx_ofWH hM5 hwc fun p e s m args below meth c s₁ BL hml hP => ?_
      have hat := atoms_spec (ws := fm_w rec) BL.pre
      exact fm_body hl0 hT hCl hTh hSt hNc hCa hAll hm hX ih hlen hcat hrun BL.exec BL.bytes hml BL.named BL.method BL.returns BL.notSynchronized (fun w hw => hat w (List.mem_cons_of_mem _ hw)) (by rw [hh]; exact vx_table (x := rec.1) BL (hat _ (by rw [hwc]; exact List.mem_cons_self))) hP
end FMS16
