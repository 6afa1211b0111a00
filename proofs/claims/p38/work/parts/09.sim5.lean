section FMS5
variable {p : Program} {l : Launch} {e : Env} {R : Room} {s : State} {m : MethodId} {args : Array Value} {below : List Frame} {meth : Method} {c : Code}
variable {sts : fm_St} {ncs : fm_Nc} {X : Nat × (Nat → Int32)} {B b nL : Nat} {wd : Bool} {aC : Nat → ClassId} {D : va_G} {M0 : fm_M} {Q : State → Prop} {cc : ByteArray} {own : String}
variable {pc : Nat} {lo : List (Option fm_V)} {st : List fm_V} {M : fm_M} {g : fm_F}
theorem fm_fields_set {N N' : fm_N} {cI k : Nat} {q q' : fm_Sc} {v : Value} (h1 : q'.1 = q.1) (h2 : q'.2.1 = q.2.1) (hk : k < q.2.1)
    (hv : fm_fv B N' cI ((fm_fks.getD q.1 []).getD k 9) k q'.2.2 = v) (hn : ∀ j, j ≠ k → ∀ fk, fm_fv B N' cI fk j q'.2.2 = fm_fv B N cI fk j q.2.2) : (fm_fields B N cI q).set k v = fm_fields B N' cI q' := by
  apply List.ext_getElem?
  intro j
  have l1 : (fm_fields B N cI q).length = q.2.1 := fm_fields_len
  have l2 : (fm_fields B N' cI q').length = q.2.1 := by rw [fm_fields_len, h2]
  by_cases hj : j < q.2.1
  · have r2 : (fm_fields B N' cI q')[j]? = some (fm_fv B N' cI ((fm_fks.getD q.1 []).getD j 9) j q'.2.2) := by
      rw [fm_fields_at (by rw [h2]; exact hj), h1]
    by_cases hjk : k = j
    · subst hjk
      rw [List.getElem?_set_self (by rw [l1]; exact hj), r2, hv]
    · rw [List.getElem?_set_ne hjk, fm_fields_at hj, r2, hn j (fun e => hjk e.symm)]
  · rw [List.getElem?_eq_none (by rw [List.length_set, l1]; omega), List.getElem?_eq_none (by rw [l2]; omega)]
/-- may this field be written here: the table's words, and for a final one that this is its class's constructor -/
def fm_fp (own : String) (cp ci k : Nat) (args : Array Value) (s : State) (meth : Method) : Prop :=
  ((fm_T ci k).2.2.2 = false ∧ fm_fl own cp ci k args s) ∨ ((fm_T ci k).2.2.2 = true ∧ (Cond.fieldLink own cp (fm_T ci k).1 (fm_T ci k).2.1 (fm_T ci k).2.2.1).before args s = true ∧ meth.name = "<init>" ∧ (fm_T ci k).1 = own)
/-- a value of a field's kind -/
def fm_fit (ty : FieldType) (fk : Nat) : Prop := match fk with
  | 0 => ty = .int
  | 1 => ty = .long
  | _ => (∃ n, ty = .object n) ∨ ∃ t, ty = .array t
theorem fm_fit_ref {ty : FieldType} {fk : Nat} (h : fm_fit ty (fk + 2)) (a : Nat) : narrow ty (.ref a) = .ref a ∧ fits ty (.ref a) = true := by
  rcases h with ⟨n, rfl⟩ | ⟨t, rfl⟩ <;> exact ⟨rfl, rfl⟩
/-- the row of putfield, for a field of a cell -/
theorem sm_putrow {ci k cp cI : Nat} {fs : List Value} {H : Heap} {locs : List Loc} {cells slots : Nat} {ls : Array Slot} {rest : List Value} {v : Value} (C : fm_Cx p s m args meth c sts ncs X B b nL aC D cc own) (hd : decode cc pc = .ok (.putfield cp, 3)) (hci : ci < 7) (hk : k < fm_n ci) (hf : fm_fp own cp ci k args s meth) (hw : fm_Wd B aC D M H) (hS : va_S (fm_A B) s.heap H locs)
    (he : (fm_ws B aC M)[cI]? = some (B + cI, .inr (ci, fs))) (hn : narrow (fm_ty ci k) v = v) (hfit : fits (fm_ty ci k) v = true) (hl : k < fs.length)
    (kk : ∀ (H1 : Heap) (locs1 : List Loc), va_P D fm_cls ((fm_ws B aC M).set cI (B + cI, .inr (ci, fs.set k v))) H1 → H1.size = H.size → va_S (fm_A B) s.heap H1 locs1 → (∀ a : Nat, a ≠ B + cI → H1[a]? = H[a]?) → W p l e R s m args below meth c H1 locs1 cells slots Q (F0 m (pc + 3) ls rest)) : W p l e R s m args below meth c H locs cells slots Q (F0 m pc ls (v :: .ref (B + cI) :: rest)) := by
  rcases hf with ⟨h1, h2⟩ | ⟨h1, h2, h3, h4⟩
  · exact fr_put C.1 C.2.1 C.2.2.2.2.1 (fm_in hci) (fm_ty ci) (fm_tyk hci) (fm_nmk hci) C.2.2.2.1 C.2.2.2.2.2.1.1 hw.1 (fm_ws_D B aC M) hS cI he (fm_cls_at hci) k hk h2 (fun _ hh => hh) h1 (fm_tyk hci k hk) hn hfit hl hd kk
  · exact fr_putF C.1 C.2.1 C.2.2.2.2.1 (fm_in hci) (fm_ty ci) (fm_tyk hci) (fm_nmk hci) C.2.2.2.1 C.2.2.2.2.2.1.1 hw.1 (fm_ws_D B aC M) hS cI he (fm_cls_at hci) k hk h2 (fun _ hh => hh) h1 h3 h4 (fm_tyk hci k hk) hn hfit hl hd kk
theorem fm_entO {N : fm_N} {cI : Nat} {q : fm_Sc} (hq : q.1 < 7) : fm_ent B aC N cI q = .inr (q.1, fm_fields B N cI q) := by
  unfold fm_ent
  rw [if_pos hq]
theorem sm_putfield {ci k fk cp : Nat} {v x : fm_V} {M' : fm_M} (C : fm_Cx p s m args meth c sts ncs X B b nL aC D cc own) (hd : decode cc pc = .ok (.putfield cp, 3)) (hfk : (fm_fks.getD ci []).getD k 9 = fk) (hci : ci < 7) (hk : k < fm_n ci) (hf : fm_fp own cp ci k args s meth) (hft : fm_fit (fm_ty ci k) fk) (h : fm_putf ci k fk v x M = some M') (kk : fm_WW p l e R s m args below meth c B b nL wd aC D M0 Q (pc + 3, lo, st, M')) : fm_WW p l e R s m args below meth c B b nL wd aC D M0 Q (pc, lo, x :: v :: st, M) := by
  intro H locs ls hl ho hw hS
  unfold fm_putf at h
  split at h
  · rename_i cI
    split at h
    · rename_i q hq
      cases hb : (Nat.beq q.1 ci && Nat.blt k q.2.1)
      · rw [hb, cond_false] at h; cases h
      · rw [hb, cond_true] at h
        simp only [Bool.and_eq_true] at hb
        have hqc := Nat.eq_of_beq_eq_true hb.1
        subst hqc
        have hk2 : k < q.2.1 := by simpa using hb.2
        obtain ⟨o1, o2⟩ := fm_obj_at hw hq hci
        have hsc := fm_scr_ne hq hw.2.1
        have hlen : k < (fm_fields B M.1 cI q).length := by rw [fm_fields_len]; exact hk2
        simp only [List.map_cons]
        rw [fm_ren_ref hsc]
        split at h
        · rename_i y
          cases h
          have hty : fm_ty q.1 k = .int := hft
          refine sm_putrow C hd hci hk hf hw hS o1 (v := .int y) (by rw [hty]; rfl) (by rw [hty]; rfl) hlen fun H1 locs1 hP1 hz1 hS1 hq1 => ?_
          refine kk H1 locs1 ls hl ho.tail.tail (hw.upd (M' := ((fm_uI M.1.1 cI k y, M.1.2), M.2)) hq rfl rfl (fun d hdn => ⟨fm_uI_ne _ _ _ hdn, rfl, rfl⟩) ?_ hz1 hq1) hS1
          rw [fm_entO hci, ← fm_fields_set (N := M.1) (N' := ((fm_uI M.1.1 cI k y, M.1.2), M.2).1) (q := q) (q' := q) (v := .int y) rfl rfl hk2 (by rw [hfk]; simp [fm_fv, fm_uI]) (fun j hj f9 => by unfold fm_fv; split <;> simp [fm_uI, hj])]
          exact hP1
        · rename_i y
          cases h
          have hty : fm_ty q.1 k = .long := hft
          refine sm_putrow C hd hci hk hf hw hS o1 (v := .long y) (by rw [hty]; rfl) (by rw [hty]; rfl) hlen fun H1 locs1 hP1 hz1 hS1 hq1 => ?_
          refine kk H1 locs1 ls hl ho.tail.tail (hw.upd (M' := ((M.1.1, fm_uI M.1.2.1 cI k y, M.1.2.2), M.2)) hq rfl rfl (fun d hdn => ⟨rfl, fm_uI_ne _ _ _ hdn, rfl⟩) ?_ hz1 hq1) hS1
          rw [fm_entO hci, ← fm_fields_set (N := M.1) (N' := ((M.1.1, fm_uI M.1.2.1 cI k y, M.1.2.2), M.2).1) (q := q) (q' := q) (v := .long y) rfl rfl hk2 (by rw [hfk]; simp [fm_fv, fm_uI]) (fun j hj f9 => by unfold fm_fv; split <;> simp [fm_uI, hj])]
          exact hP1
        · rename_i j
          cases hb2 : (Nat.blt j M.2.length && Nat.blt k q.2.2.length && (!(fm_pool M.2) || fm_pool (M.2.set cI (q.1, q.2.1, q.2.2.set k (some j)))))
          · rw [hb2, cond_false] at h; cases h
          · rw [hb2, cond_true] at h
            cases h
            simp only [Bool.and_eq_true] at hb2
            have hj : j < M.2.length := by simpa using hb2.1.1
            have hkr : k < q.2.2.length := by simpa using hb2.1.2
            have hpp : fm_pool M.2 = true → fm_pool (M.2.set cI (q.1, q.2.1, q.2.2.set k (some j))) = true := fun hp => by
              have h3 := hb2.2
              rw [hp] at h3
              simpa using h3
            have hjs : ¬ j = fm_scr := fun e9 => by
              have h1 : (999999 : Nat) < M.2.length := by rw [e9] at hj; exact hj
              have h2 : M.2.length ≤ 1000 := hw.2.1
              omega
            rw [fm_ren_ref hjs]
            obtain ⟨t1, t2⟩ := fm_fit_ref hft (B + j)
            refine sm_putrow C hd hci hk hf hw hS o1 (v := .ref (B + j)) t1 t2 hlen fun H1 locs1 hP1 hz1 hS1 hq1 => ?_
            obtain ⟨w1, w2, w3, w4, w5, w6, w7, w8⟩ := hw
            have hcl := fm_len_of hq
            have hl2 : (M.2.set cI (q.1, q.2.1, q.2.2.set k (some j))).length = M.2.length := List.length_set
            have hsum : fm_sn (M.1, M.2.set cI (q.1, q.2.1, q.2.2.set k (some j))) = fm_sn M := by
              unfold fm_sn
              have : (M.2.set cI (q.1, q.2.1, q.2.2.set k (some j))).map (fun z => z.2.1) = M.2.map (fun z => z.2.1) := by
                rw [List.map_set]
                apply List.ext_getElem?
                intro i
                by_cases hi : cI = i
                · subst hi
                  rw [List.getElem?_set_self (by simpa using hcl), List.getElem?_map, hq]
                  rfl
                · rw [List.getElem?_set_ne hi]
              rw [this]
            have hcn : fm_cn (M.1, M.2.set cI (q.1, q.2.1, q.2.2.set k (some j))) = fm_cn M := by
              unfold fm_cn
              rw [hl2]
            have hgo := kk H1 locs1 ls hl (ho.tail.tail.mono hpp) ⟨?_, by rw [hl2]; exact w2, by rw [hl2, hz1]; exact w3, by rw [hl2, hz1]; exact w4, ?_, ?_, by rw [hl2]; exact w7, w8.keep hl2 rfl (fun _ => rfl) hz1 (fun g _ => hq1 _ (by have h9 : M.2.length ≤ fm_L0 := w8.2.2.1; omega))⟩ hS1
            · rw [hsum, hcn] at hgo
              exact hgo
            · have e0 := fm_ws_set (B := B) (aC := aC) (M := M) (M' := (M.1, M.2.set cI (q.1, q.2.1, q.2.2.set k (some j)))) hcl rfl (fun d _ => ⟨rfl, rfl, rfl⟩)
              rw [← e0, fm_entO (q := (q.1, q.2.1, q.2.2.set k (some j))) hci, ← fm_fields_set (N := M.1) (N' := M.1) (q := q) (q' := (q.1, q.2.1, q.2.2.set k (some j))) (v := .ref (B + j)) rfl rfl hk2 (by rw [hfk]; simp [fm_fv, List.getD, List.getElem?_set_self hkr, va_rf]) (fun i hi f9 => by
                have hne : ¬ k = i := fun e9 => hi e9.symm
                unfold fm_fv
                split <;> simp [List.getD, List.getElem?_set_ne hne])]
              exact hP1
            · intro c9 q9 h9
              by_cases hc9 : cI = c9
              · subst hc9
                dsimp only at h9
                rw [List.getElem?_set_self hcl] at h9
                cases h9
                exact w5 cI q hq
              · dsimp only at h9
                rw [List.getElem?_set_ne hc9] at h9
                exact w5 c9 q9 h9
            · intro c9 q9 h9 k9 j9 hkj
              show j9 < (M.2.set cI (q.1, q.2.1, q.2.2.set k (some j))).length
              rw [hl2]
              by_cases hc9 : cI = c9
              · subst hc9
                dsimp only at h9
                rw [List.getElem?_set_self hcl] at h9
                cases h9
                dsimp only at hkj
                by_cases hk9 : k = k9
                · subst hk9
                  rw [List.getElem?_set_self hkr] at hkj
                  cases hkj
                  exact hj
                · rw [List.getElem?_set_ne hk9] at hkj
                  exact w6 cI q hq k9 j9 hkj
              · dsimp only at h9
                rw [List.getElem?_set_ne hc9] at h9
                exact w6 c9 q9 h9 k9 j9 hkj
        · cases h
    · cases h
  · rename_i t j
    cases hb : (Nat.beq t 0 && Nat.beq ci 4 && Nat.beq k 2 && fm_pool M.2)
    · rw [hb, cond_false] at h; cases h
    · rw [hb, cond_true] at h
      simp only [Bool.and_eq_true] at hb
      have ht := Nat.eq_of_beq_eq_true hb.1.1.1
      have hc4 := Nat.eq_of_beq_eq_true hb.1.1.2
      have hk2 := Nat.eq_of_beq_eq_true hb.1.2
      subst ht
      subst hc4
      subst hk2
      split at h
      · rename_i y
        cases h
        obtain ⟨p0, p1, p2⟩ := fm_pool_at hb.2 (fm_vok2 ho.tail.hd (by decide)).2.1
        obtain ⟨o1, o2⟩ := fm_obj_at hw p0 (show 4 < 7 by decide)
        have hfk0 : fk = 0 := by rw [← hfk]; rfl
        subst hfk0
        have hty : fm_ty 4 2 = .int := hft
        refine sm_putrow C hd hci hk hf hw hS o1 (v := .int y) (by rw [hty]; rfl) (by rw [hty]; rfl) (by rw [fm_fields_len]; exact (show 2 < 3 by decide)) fun H1 locs1 hP1 hz1 hS1 hq1 => ?_
        refine kk H1 locs1 ls hl ho.tail.tail (hw.upd (M' := ((fm_uI M.1.1 (fm_pc 0 j) 2 y, M.1.2), M.2)) p0 rfl rfl (fun d hdn => ⟨fm_uI_ne _ _ _ hdn, rfl, rfl⟩) ?_ hz1 hq1) hS1
        rw [fm_entO (q := (4, 3, [some (fm_pc 1 j), some (fm_pc 2 j), none])) (show 4 < 7 by decide), ← fm_fields_set (N := M.1) (N' := ((fm_uI M.1.1 (fm_pc 0 j) 2 y, M.1.2), M.2).1) (q := (4, 3, [some (fm_pc 1 j), some (fm_pc 2 j), none])) (q' := (4, 3, [some (fm_pc 1 j), some (fm_pc 2 j), none])) (k := 2) (v := .int y) rfl rfl (show 2 < 3 by decide) (by show fm_fv B _ _ 0 2 _ = _; simp [fm_fv, fm_uI]) (fun i hi f9 => by unfold fm_fv; split <;> simp [fm_uI, hi])]
        exact hP1
      · cases h
  · cases h
end FMS5
