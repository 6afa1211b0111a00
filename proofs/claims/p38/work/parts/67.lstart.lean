/-! the law's start: what the tables say of it -/
def gw_sts : fm_St := fm_T0.2.2.1.map (fun q => (q.1, q.2.2.1, q.2.2.2.2.2))
def gw_ncs : fm_Nc := (List.range 4).flatMap fun x => ((List.range 4).filter fun y => !(Nat.beq x y)).map fun y => (fm_ex x, fm_ex y)
theorem gw_St : fm_StOk fm_T0 gw_sts := fun q hq => List.mem_map.mpr ⟨q, hq, rfl⟩
theorem gw_Nc : fm_NcOk gw_ncs := fun x hx y hy hne => List.mem_flatMap.mpr ⟨x, List.mem_range.mpr hx, List.mem_map.mpr ⟨y, List.mem_filter.mpr ⟨List.mem_range.mpr hy, by
  cases h : Nat.beq x y
  · rfl
  · exact absurd (Nat.eq_of_beq_eq_true h).symm hne⟩, rfl⟩⟩
theorem gw_str : ∀ q ∈ gw_sts, q.1 = "Feederlight" ∧ (Cond.stringRef q.1 q.2.1 q.2.2) ∈ lw_tbl := by decide +kernel
theorem gw_not : ∀ q ∈ gw_ncs, (Cond.not (.castable q.1 q.2)) ∈ flatC (Jvm.Cond.and given_1 narrow_1) := by decide +kernel
theorem gw_us : (Cond.isRef (.static "java/lang/Throwable" "UNASSIGNED_STACK" "[Ljava/lang/StackTraceElement;")) ∈ flatC (Jvm.Cond.and given_1 narrow_1) := by decide +kernel
theorem gw_ss : (Cond.isRef (.static "java/lang/Throwable" "SUPPRESSED_SENTINEL" "Ljava/util/List;")) ∈ flatC (Jvm.Cond.and given_1 narrow_1) := by decide +kernel
theorem gw_inst : ∀ k, k < 7 → (Cond.instantiable (fm_C k) (fm_n k)) ∈ lw_tbl := by decide +kernel
theorem gw_mv {w : Cond} {A : Array Value} {s : State} (hm : fm_mv w = true) (h : w.before A s = true) : va_Nw w s := by
  cases w <;> first | exact va_tabs rfl rfl h | cases hm
theorem gw_arr {ty : FieldType} {A : Array Value} {s : State} (h : (Cond.arrayClass ty).before A s = true) : ∃ cA : ClassId, ArrOfT s cA ty ∧ s.vm.findClass ("[" ++ ty.toString) = some cA := by
  obtain ⟨cA, kA, comp, h1, h2, h3⟩ := Cond.arrayClass_spec h
  exact ⟨cA, fun n z => ⟨fun k h => (by cases h), kA, h2, comp, h3⟩, h1⟩
theorem gw_arrO {A : Array Value} {s : State} (h : (Cond.arrayOver (.object RX4)).before A s = true) : ∃ cA : ClassId, ArrOfT s cA (.object RX4) ∧ va_RA s cA (.object RX4) := by
  obtain ⟨comp, cA, kA, f4, -, f2, f3, f1⟩ := Cond.arrayOver_spec h
  exact ⟨cA, fun n z => ⟨fun k h => (by cases h), kA, f2, comp, f3⟩, kA, comp, f2, f3, f4, f1⟩
theorem gw_K {A : Array Value} {s : State} (hts : ∀ w ∈ lw_tbl, w.before A s = true) : ∃ (D : va_G) (aC : Nat → ClassId), va_K D fm_cls (fm_tys aC) s := by
  have hk : ∀ k : Nat, k < 7 → ∃ (cC : ClassId) (iS : Nat → Nat), u_Kn s (fm_C k) (fm_T k) (fm_n k) cC iS := fun k h => u_known (n := fm_n k) hts (fun w hw => (List.mem_filter.mp (fm_in h w hw)).1) (hts _ (gw_inst k h))
  obtain ⟨z0, z1, -⟩ := hk 0 (by omega)
  have hk2 : ∀ k : Nat, ∃ q : ClassId × (Nat → Nat), k < 7 → u_Kn s (fm_C k) (fm_T k) (fm_n k) q.1 q.2 := fun k => by
    by_cases h : k < 7
    · obtain ⟨cC, iS, h1⟩ := hk k h
      exact ⟨(cC, iS), fun _ => h1⟩
    · exact ⟨(z0, z1), fun z => absurd z h⟩
  obtain ⟨c0, a0, n0⟩ := gw_arr (hts (.arrayClass .int) (by decide +kernel))
  obtain ⟨c1, a1, n1⟩ := gw_arr (hts (.arrayClass .boolean) (by decide +kernel))
  obtain ⟨c4, a4, n4⟩ := gw_arrO (hts (.arrayOver (.object RX4)) (by decide +kernel))
  refine ⟨(fun k => (Classical.choose (hk2 k)).1, fun k => (Classical.choose (hk2 k)).2), fun i => match i with | 0 => c0 | 1 => c1 | 2 => c0 | 3 => c0 | _ => c4, fun c q hq => ?_, fun k q hq => ?_⟩
  · have hc : c < 7 := (List.getElem?_eq_some_iff.mp hq).1
    rw [fm_cls_at hc] at hq
    cases hq
    exact Classical.choose_spec (hk2 c) hc
  · match k, hq with
    | 0, hq => cases hq; exact ⟨a0, n0⟩
    | 1, hq => cases hq; exact ⟨a1, n1⟩
    | 2, hq => cases hq; exact ⟨a0, n0⟩
    | 3, hq => cases hq; exact ⟨a0, n0⟩
    | 4, hq => cases hq; exact ⟨a4, n4⟩
    | k + 5, hq => exact absurd (List.getElem?_eq_some_iff.mp hq).1 (by simp [fm_tys])
theorem gw_Ps {b L : Nat} {xs : Nat → Int32} {s : State} (hts : ∀ w ∈ lw_tbl, w.before #[Value.ref b] s = true) (hgv : (Jvm.Cond.and given_1 narrow_1).before #[Value.ref b] s = true) (hX : va_X b L xs s s.heap) (hbl : b < s.heap.size) : ∃ (D : va_G) (aC : Nat → ClassId), fm_Ps gw_sts gw_ncs (L, xs) s.heap.size b aC D s := by
  obtain ⟨D, aC, hK⟩ := gw_K hts
  have hfl := flat_of_before _ hgv
  have hA : ∀ a : Nat, a < s.heap.size → ¬ fm_A s.heap.size a := fun a h => Nat.not_le.mpr h
  have hF : s.vm.findClass "Feederlight" = some (D.1 5) := (hK.1 5 _ rfl).2.1
  refine ⟨D, aC, hK, fun w hw hm => gw_mv hm (hts w hw), fun q hq => ?_, fun q hq => va_Nc.of (hfl _ (gw_not q hq)), va_AO.of (hts (.arrayOver (.object RX4)) (by decide +kernel)), ?_, ?_, hX, hbl, Nat.le_refl _⟩
  · obtain ⟨h1, h2⟩ := gw_str q hq
    obtain ⟨-, -, -, sa, -, -, -, -, -, hev⟩ := Cond.stringRef_spec (by rw [h1]; exact hF) (hts _ h2)
    exact ⟨sa, vk_R.of (hts _ h2) hev⟩
  · exact vx_Zqof (hts (.laysStatic "java/lang/Throwable" "UNASSIGNED_STACK" "[Ljava/lang/StackTraceElement;") (by decide +kernel)) (hts (.initialized "java/lang/Throwable") (by decide +kernel)) (hfl _ gw_us) hA
  · exact vx_Zqof (hts (.laysStatic "java/lang/Throwable" "SUPPRESSED_SENTINEL" "Ljava/util/List;") (by decide +kernel)) (hts (.initialized "java/lang/Throwable") (by decide +kernel)) (hfl _ gw_ss) hA
/-- the step that answers 1 -/
theorem gw_one {X : Nat × (Nat → Int32)} {pc : Nat} {ins : Instr} {len : Nat} {ann : List Nat} {lo : List (Option fm_V)} {st : List fm_V} {M M' : fm_M}
    (h : (fm_step X (pc, ins, len, ann) lo st M = fm_dn (.inl (some (.inl (.int (nI 1))))) M') ∨ ∃ q : fm_P, q.1 ∧ fm_step X (pc, ins, len, ann) lo st M = .inr (.inr (.inr (.inr (.inr (.inr (.inl (q, .inl (some (.inl (.int (nI 1)))), M')))))))) : ins = .ireturn ∧ st = [.inl (.int (nI 1))] ∧ M = M' := by
  cases ins with
  | ireturn =>
    rcases h with h | ⟨q, hq, h⟩
    · dsimp only [fm_step] at h
      split at h
      · rename_i x
        cases h
        exact ⟨rfl, rfl, rfl⟩
      · cases h
      · cases h
    · dsimp only [fm_step] at h
      split at h
      · cases h
      · rename_i x
        cases h
        exact ⟨rfl, rfl, rfl⟩
      · cases h
  | lreturn =>
    exfalso
    rcases h with h | ⟨q, hq, h⟩ <;> dsimp only [fm_step] at h <;> split at h <;> cases h
  | areturn =>
    exfalso
    rcases h with h | ⟨q, hq, h⟩ <;> dsimp only [fm_step] at h <;> split at h <;> cases h
  | freturn =>
    exfalso
    rcases h with h | ⟨q, hq, h⟩ <;> dsimp only [fm_step] at h <;> split at h <;> cases h
  | dreturn =>
    exfalso
    rcases h with h | ⟨q, hq, h⟩ <;> dsimp only [fm_step] at h <;> split at h <;> cases h
  | return_ =>
    exfalso
    rcases h with h | ⟨q, hq, h⟩ <;> dsimp only [fm_step] at h <;> split at h <;> cases h
  | ifCond cd off =>
    exfalso
    rcases h with h | ⟨q, hq, h⟩ <;> dsimp only [fm_step] at h <;> split at h
    · cases cd <;> (unfold fm_if at h; simp only at h; (repeat' (split at h)) <;> cases h)
    · cases h
    · cases cd <;> (unfold fm_if at h; simp only at h; (repeat' (split at h)) <;> cases h)
    · cases h
  | if_icmp cd off =>
    exfalso
    rcases h with h | ⟨q, hq, h⟩ <;> dsimp only [fm_step] at h <;> split at h
    · cases cd <;> (unfold fm_icmp at h; simp only at h; (repeat' (split at h)) <;> cases h)
    · cases h
    · cases cd <;> (unfold fm_icmp at h; simp only at h; (repeat' (split at h)) <;> cases h)
    · cases h
  | _ =>
    exfalso
    rcases h with h | ⟨q, hq, h⟩
    · first
        | exact absurd (show (fm_no : fm_R) = fm_dn (.inl (some (.inl (.int (nI 1))))) M' from h) (fun h9 => nomatch h9)
        | ((simp only [fm_step, fm_ald, fm_callr, fm_callv, fm_calls, fm_load, fm_st, fm_bin, fm_un, Bool.cond_eq_ite] at h) <;> (repeat' (split at h)) <;> (cases h))
    · first
        | exact absurd (show (fm_no : fm_R) = _ from h) (fun h9 => nomatch h9)
        | ((simp only [fm_step, fm_ald, fm_callr, fm_callv, fm_calls, fm_load, fm_st, fm_bin, fm_un, Bool.cond_eq_ite] at h) <;> (repeat' (split at h)) <;> (cases h))
