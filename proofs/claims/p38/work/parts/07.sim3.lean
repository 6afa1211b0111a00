section FMS3
variable {p : Program} {l : Launch} {e : Env} {R : Room} {s : State} {m : MethodId} {args : Array Value} {below : List Frame} {meth : Method} {c : Code}
variable {sts : fm_St} {ncs : fm_Nc} {X : Nat × (Nat → Int32)} {B b nL : Nat} {wd : Bool} {aC : Nat → ClassId} {D : va_G} {M0 : fm_M} {Q : State → Prop} {cc : ByteArray} {own : String}
variable {pc : Nat} {lo : List (Option fm_V)} {st : List fm_V} {M : fm_M} {g : fm_F}
/-- a step that touches the stack alone -/
theorem sm_stack {nx : Nat} {s0 s1 : List fm_V} (hok : ∀ S, fm_ok S lo s0 → fm_ok S lo s1)
    (row : ∀ (H : Heap) (locs : List Loc) (cells slots : Nat) (ls : Array Slot), W p l e R s m args below meth c H locs cells slots Q (F0 m nx ls (s1.map (fm_ren B b))) → W p l e R s m args below meth c H locs cells slots Q (F0 m pc ls (s0.map (fm_ren B b))))
    (k : fm_WW p l e R s m args below meth c B b nL wd aC D M0 Q (nx, lo, s1, M)) : fm_WW p l e R s m args below meth c B b nL wd aC D M0 Q (pc, lo, s0, M) := by
  intro H locs ls hl ho hw hS
  exact row _ _ _ _ _ (k H locs ls hl (hok _ ho) hw hS)
theorem sm_bin_inv {nx : Nat} {op : Int32 → Int32 → Int32} (h : fm_bin nx lo st M op = .inl g) : ∃ x y r, st = .inl (.int y) :: .inl (.int x) :: r ∧ g = (nx, lo, .inl (.int (op x y)) :: r, M) := by
  unfold fm_bin at h
  split at h
  · rename_i y x r; cases h; exact ⟨x, y, r, rfl, rfl⟩
  · cases h
theorem sm_bin {nx : Nat} {op : Int32 → Int32 → Int32} (h : fm_bin nx lo st M op = .inl g)
    (row : ∀ (H : Heap) (locs : List Loc) (cells slots : Nat) (ls : Array Slot) (x y : Int32) (rest : List Value), W p l e R s m args below meth c H locs cells slots Q (F0 m nx ls (.int (op x y) :: rest)) → W p l e R s m args below meth c H locs cells slots Q (F0 m pc ls (.int y :: .int x :: rest)))
    (k : fm_WW p l e R s m args below meth c B b nL wd aC D M0 Q g) : fm_WW p l e R s m args below meth c B b nL wd aC D M0 Q (pc, lo, st, M) := by
  obtain ⟨x, y, r, rfl, rfl⟩ := sm_bin_inv h
  exact sm_stack (fun S ho => fm_ok.push (v := .inl (.int (op x y))) ho.tail.tail trivial) (fun H locs cells slots ls kk => row H locs cells slots ls x y _ kk) k
theorem sm_un {nx : Nat} {op : Int32 → fm_V} (h : fm_un nx lo st M op = .inl g) (hv : ∀ S x, fm_vok S (op x))
    (row : ∀ (H : Heap) (locs : List Loc) (cells slots : Nat) (ls : Array Slot) (x : Int32) (rest : List Value), W p l e R s m args below meth c H locs cells slots Q (F0 m nx ls (fm_ren B b (op x) :: rest)) → W p l e R s m args below meth c H locs cells slots Q (F0 m pc ls (.int x :: rest)))
    (k : fm_WW p l e R s m args below meth c B b nL wd aC D M0 Q g) : fm_WW p l e R s m args below meth c B b nL wd aC D M0 Q (pc, lo, st, M) := by
  unfold fm_un at h
  split at h
  · rename_i x r
    cases h
    exact sm_stack (fun S ho => ho.tail.push (hv _ _)) (fun H locs cells slots ls kk => row H locs cells slots ls x _ kk) k
  · cases h
/-- a branch on one int -/
theorem sm_if {tg nx : Nat} {cnd : Int32 → Prop} {d : ∀ x, Decidable (cnd x)} {q : fm_P} {g2 : fm_F} (h : fm_if tg nx lo st M cnd d = .inr (.inr (.inl (q, g, g2))))
    (row : ∀ (H : Heap) (locs : List Loc) (cells slots : Nat) (ls : Array Slot) (x : Int32) (rest : List Value), (cnd x → W p l e R s m args below meth c H locs cells slots Q (F0 m tg ls rest)) → (¬ cnd x → W p l e R s m args below meth c H locs cells slots Q (F0 m nx ls rest)) → W p l e R s m args below meth c H locs cells slots Q (F0 m pc ls (.int x :: rest)))
    (k1 : q.1 → fm_WW p l e R s m args below meth c B b nL wd aC D M0 Q g) (k2 : ¬ q.1 → fm_WW p l e R s m args below meth c B b nL wd aC D M0 Q g2) : fm_WW p l e R s m args below meth c B b nL wd aC D M0 Q (pc, lo, st, M) := by
  unfold fm_if at h
  split at h
  · rename_i x r
    cases h
    intro H locs ls hl ho hw hS
    exact row H locs _ _ ls x _ (fun hc => k1 hc H locs ls hl ho.tail hw hS) (fun hc => k2 hc H locs ls hl ho.tail hw hS)
  · cases h
theorem sm_icmp {tg nx : Nat} {cnd : Int32 → Int32 → Prop} {d : ∀ x y, Decidable (cnd x y)} {q : fm_P} {g2 : fm_F} (h : fm_icmp tg nx lo st M cnd d = .inr (.inr (.inl (q, g, g2))))
    (row : ∀ (H : Heap) (locs : List Loc) (cells slots : Nat) (ls : Array Slot) (x y : Int32) (rest : List Value), (cnd x y → W p l e R s m args below meth c H locs cells slots Q (F0 m tg ls rest)) → (¬ cnd x y → W p l e R s m args below meth c H locs cells slots Q (F0 m nx ls rest)) → W p l e R s m args below meth c H locs cells slots Q (F0 m pc ls (.int y :: .int x :: rest)))
    (k1 : q.1 → fm_WW p l e R s m args below meth c B b nL wd aC D M0 Q g) (k2 : ¬ q.1 → fm_WW p l e R s m args below meth c B b nL wd aC D M0 Q g2) : fm_WW p l e R s m args below meth c B b nL wd aC D M0 Q (pc, lo, st, M) := by
  unfold fm_icmp at h
  split at h
  · rename_i y x r
    cases h
    intro H locs ls hl ho hw hS
    exact row H locs _ _ ls x y _ (fun hc => k1 hc H locs ls hl ho.tail.tail hw hS) (fun hc => k2 hc H locs ls hl ho.tail.tail hw hS)
  · cases h
theorem sm_ifCond {cd : ClassFile.Cond} {off : Int} {tg : Nat} {q : fm_P} {g2 : fm_F} (C : fm_Cx p s m args meth c sts ncs X B b nL aC D cc own) (hd : decode cc pc = .ok (.ifCond cd off, 3)) (ht : (pc : Int) + off = (tg : Int))
    (h : fm_step X (pc, .ifCond cd off, 3, [tg]) lo st M = .inr (.inr (.inl (q, g, g2)))) (k1 : q.1 → fm_WW p l e R s m args below meth c B b nL wd aC D M0 Q g) (k2 : ¬ q.1 → fm_WW p l e R s m args below meth c B b nL wd aC D M0 Q g2) : fm_WW p l e R s m args below meth c B b nL wd aC D M0 Q (pc, lo, st, M) := by
  cases cd with
  | eq => exact sm_if (g2 := g2) h (fun H locs cells slots ls x rest a1 a2 => lv_if_eq C.1 C.2.1 hd ht a1 a2) k1 k2
  | ne => exact sm_if (g2 := g2) h (fun H locs cells slots ls x rest a1 a2 => lv_if_ne C.1 C.2.1 hd ht (fun hn => a2 hn) (fun hn => a1 hn)) k1 k2
  | lt => exact sm_if (g2 := g2) h (fun H locs cells slots ls x rest a1 a2 => lv_if_lt C.1 C.2.1 hd ht a1 a2) k1 k2
  | ge => exact sm_if (g2 := g2) h (fun H locs cells slots ls x rest a1 a2 => lv_if_ge C.1 C.2.1 hd ht a1 a2) k1 k2
  | gt => exact sm_if (g2 := g2) h (fun H locs cells slots ls x rest a1 a2 => lv_if_gt C.1 C.2.1 hd ht a1 a2) k1 k2
  | le => exact sm_if (g2 := g2) h (fun H locs cells slots ls x rest a1 a2 => lv_if_le C.1 C.2.1 hd ht a1 a2) k1 k2
theorem sm_ifIcmp {cd : ClassFile.Cond} {off : Int} {tg : Nat} {q : fm_P} {g2 : fm_F} (C : fm_Cx p s m args meth c sts ncs X B b nL aC D cc own) (hd : decode cc pc = .ok (.if_icmp cd off, 3)) (ht : (pc : Int) + off = (tg : Int))
    (h : fm_step X (pc, .if_icmp cd off, 3, [tg]) lo st M = .inr (.inr (.inl (q, g, g2)))) (k1 : q.1 → fm_WW p l e R s m args below meth c B b nL wd aC D M0 Q g) (k2 : ¬ q.1 → fm_WW p l e R s m args below meth c B b nL wd aC D M0 Q g2) : fm_WW p l e R s m args below meth c B b nL wd aC D M0 Q (pc, lo, st, M) := by
  cases cd with
  | eq => exact sm_icmp (g2 := g2) h (fun H locs cells slots ls x y rest a1 a2 => lv_icmp_eq C.1 C.2.1 hd ht a1 a2) k1 k2
  | ne => exact sm_icmp (g2 := g2) h (fun H locs cells slots ls x y rest a1 a2 => lv_icmp_ne C.1 C.2.1 hd ht (fun hn => a2 hn) (fun hn => a1 hn)) k1 k2
  | lt => exact sm_icmp (g2 := g2) h (fun H locs cells slots ls x y rest a1 a2 => lv_icmp_lt C.1 C.2.1 hd ht a1 a2) k1 k2
  | ge => exact sm_icmp (g2 := g2) h (fun H locs cells slots ls x y rest a1 a2 => lv_icmp_ge C.1 C.2.1 hd ht a1 a2) k1 k2
  | gt => exact sm_icmp (g2 := g2) h (fun H locs cells slots ls x y rest a1 a2 => lv_icmp_gt C.1 C.2.1 hd ht a1 a2) k1 k2
  | le => exact sm_icmp (g2 := g2) h (fun H locs cells slots ls x y rest a1 a2 => lv_icmp_le C.1 C.2.1 hd ht a1 a2) k1 k2
/-- an object's cell -/
theorem fm_obj_at {H : Heap} {cI : Nat} {q : fm_Sc} (hw : fm_Wd B aC D M H) (h : M.2[cI]? = some q) (hq : q.1 < 7) : (fm_ws B aC M)[cI]? = some (B + cI, .inr (q.1, fm_fields B M.1 cI q)) ∧ fm_fN[q.1]? = some q.2.1 := by
  refine ⟨?_, ?_⟩
  · rw [fm_ws_get h]
    unfold fm_ent
    rw [if_pos hq]
  · rcases hw.2.2.2.2.1 cI q h with h1 | h1
    · exact h1.2
    · omega
theorem fm_fields_at {N : fm_N} {cI k : Nat} {q : fm_Sc} (h : k < q.2.1) : (fm_fields B N cI q)[k]? = some (fm_fv B N cI ((fm_fks.getD q.1 []).getD k 9) k q.2.2) := by
  unfold fm_fields
  rw [List.getElem?_map, List.getElem?_range h]
  rfl
theorem fm_fields_len {N : fm_N} {cI : Nat} {q : fm_Sc} : (fm_fields B N cI q).length = q.2.1 := by
  simp [fm_fields]
theorem fm_scr_ne {S : List fm_Sc} {cI : Nat} {q : fm_Sc} (h : S[cI]? = some q) (hl : S.length ≤ 1000) : ¬ cI = fm_scr := fun e => by
  have hc : cI < S.length := (List.getElem?_eq_some_iff.mp h).1
  have h1 : (999999 : Nat) < S.length := by rw [e] at hc; exact hc
  omega
theorem fm_ren_ref {cI : Nat} (h : ¬ cI = fm_scr) : fm_ren B b (.inl (.ref cI)) = .ref (B + cI) := by
  show Value.ref (if cI = fm_scr then b else B + cI) = _
  rw [if_neg h]
theorem fm_len_of {S : List fm_Sc} {cI : Nat} {q : fm_Sc} (h : S[cI]? = some q) : cI < S.length := (List.getElem?_eq_some_iff.mp h).1
/-- what getfield reads -/
theorem fm_getf_at {H : Heap} {ci k fk : Nat} {v w : fm_V} (hw : fm_Wd B aC D M H) (hv : fm_vok M.2 v) (h : fm_getf ci k fk v M = some w) (hfk : (fm_fks.getD ci []).getD k 9 = fk) (hci : ci < 7) (hk : k < fm_n ci) : ∃ cI fs, fm_ren B b v = .ref (B + cI) ∧ (fm_ws B aC M)[cI]? = some (B + cI, .inr (ci, fs)) ∧ fs[k]? = some (fm_ren B b w) ∧ fm_vok M.2 w := by
  unfold fm_getf at h
  split at h
  · rename_i cI
    split at h
    · rename_i q hq
      cases hb : Nat.beq q.1 ci
      · rw [hb, cond_false] at h; cases h
      · rw [hb, cond_true] at h
        have hqc := Nat.eq_of_beq_eq_true hb
        subst hqc
        obtain ⟨o1, o2⟩ := fm_obj_at hw hq hci
        have hk2 : k < q.2.1 := by rw [← fm_fN_n o2]; exact hk
        have hsc := fm_scr_ne hq hw.2.1
        refine ⟨cI, _, fm_ren_ref hsc, o1, ?_, ?_⟩
        · rw [fm_fields_at hk2, hfk]
          congr 1
          unfold fm_fv
          match fk, h with
          | 0, h => cases h; rfl
          | 1, h => cases h; rfl
          | f + 2, h =>
            (try dsimp only at h)
            (try dsimp only)
            cases hr : q.2.2[k]? with
            | none => rw [hr] at h; cases h
            | some r =>
              rw [hr] at h
              cases h
              rw [List.getD, hr]
              cases r with
              | none => rfl
              | some j =>
                have hj : j < M.2.length := hw.2.2.2.2.2.1 cI q hq k j hr
                have hjs : ¬ j = fm_scr := fun e => by
                  have h1 : (999999 : Nat) < M.2.length := by rw [e] at hj; exact hj
                  have := hw.2.1
                  omega
                show va_rf (some (B + j)) = fm_ren B b (.inl (.ref j))
                rw [fm_ren_ref hjs]
                rfl
        · match fk, h with
          | 0, h => cases h; trivial
          | 1, h => cases h; trivial
          | f + 2, h =>
            (try dsimp only at h)
            cases hr : q.2.2[k]? with
            | none => rw [hr] at h; cases h
            | some r =>
              rw [hr] at h
              cases h
              cases r <;> trivial
    · cases h
  · rename_i t j
    cases hb : (Nat.beq t 0 && Nat.beq ci 4 && fm_pool M.2)
    · rw [hb, cond_false] at h; cases h
    · rw [hb, cond_true] at h
      simp only [Bool.and_eq_true] at hb
      have ht := Nat.eq_of_beq_eq_true hb.1.1
      have hc4 := Nat.eq_of_beq_eq_true hb.1.2
      subst ht
      subst hc4
      obtain ⟨p0, p1, p2⟩ := fm_pool_at hb.2 (fm_vok2 hv (by decide)).2.1
      obtain ⟨o1, o2⟩ := fm_obj_at hw p0 (show 4 < 7 by decide)
      have hfk4 : fm_fks.getD 4 [] = [2, 2, 0] := rfl
      refine ⟨fm_pc 0 j, _, rfl, o1, ?_, ?_⟩
      · match k, h with
        | 0, h => cases h; rw [fm_fields_at (show 0 < 3 by decide)]; rfl
        | 1, h => cases h; rw [fm_fields_at (show 1 < 3 by decide)]; rfl
        | 2, h => cases h; rw [fm_fields_at (show 2 < 3 by decide)]; rfl
        | k + 3, h => cases h
      · match k, h with
        | 0, h => cases h; exact Or.inr ⟨show 1 < 3 by decide, (fm_vok2 hv (by decide)).2.1, hb.2⟩
        | 1, h => cases h; exact Or.inr ⟨show 2 < 3 by decide, (fm_vok2 hv (by decide)).2.1, hb.2⟩
        | 2, h => cases h; trivial
        | k + 3, h => cases h
  · cases h
end FMS3
