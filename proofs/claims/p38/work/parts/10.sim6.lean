section FMS6
variable {p : Program} {l : Launch} {e : Env} {R : Room} {s : State} {m : MethodId} {args : Array Value} {below : List Frame} {meth : Method} {c : Code}
variable {sts : fm_St} {ncs : fm_Nc} {X : Nat × (Nat → Int32)} {B b nL : Nat} {wd : Bool} {aC : Nat → ClassId} {D : va_G} {M0 : fm_M} {Q : State → Prop} {cc : ByteArray} {own : String}
variable {pc : Nat} {lo : List (Option fm_V)} {st : List fm_V} {M : fm_M} {g : fm_F}
/-- a world with one more cell -/
theorem fm_Wd.app {H H1 : Heap} {q : fm_Sc} (hw : fm_Wd B aC D M H) (h0 : M.1.2.2.2 = 0) (hlt : M.2.length < fm_L0) (hq : fm_okq q) (hr : ∀ k j : Nat, q.2.2[k]? ≠ some (some j))
    (hP : va_P D fm_cls (fm_ws B aC M ++ [(H.size, fm_ent B aC M.1 M.2.length q)]) H1) (hz : H1.size = H.size + 1) : fm_Wd B aC D (M.1, M.2 ++ [q]) H1 := by
  obtain ⟨w1, w2, w3, w4, w5, w6, w7, w8⟩ := hw
  have hL9 : fm_L0 ≤ 900 := by decide
  have hs := w4 h0
  rw [hs] at hP
  rw [← fm_ws_app] at hP
  have hl : (M.2 ++ [q]).length = M.2.length + 1 := by simp
  refine ⟨hP, by rw [hl]; omega, by rw [hl, hz]; omega, fun _ => by rw [hl, hz, hs]; omega, fun c9 q9 h9 => ?_, fun c9 q9 h9 k9 j9 hk => ?_, fun c9 h9 i => w7 c9 (by rw [hl] at h9; dsimp only at h9; omega) i, ⟨by rw [hl]; dsimp only; omega, fun z => absurd z (by dsimp only; omega), by rw [hl]; omega, fun g hg => absurd (w8.2.2.2 g hg).1 (by omega)⟩⟩
  · dsimp only at h9
    by_cases hc : c9 < M.2.length
    · rw [List.getElem?_append_left hc] at h9
      exact w5 c9 q9 h9
    · rw [List.getElem?_append_right (by omega)] at h9
      have : c9 - M.2.length < 1 := (List.getElem?_eq_some_iff.mp h9).1
      rw [show c9 - M.2.length = 0 by omega] at h9
      cases h9
      exact hq
  · show j9 < (M.2 ++ [q]).length
    rw [hl]
    dsimp only at h9
    by_cases hc : c9 < M.2.length
    · rw [List.getElem?_append_left hc] at h9
      have := w6 c9 q9 h9 k9 j9 hk
      omega
    · rw [List.getElem?_append_right (by omega)] at h9
      have : c9 - M.2.length < 1 := (List.getElem?_eq_some_iff.mp h9).1
      rw [show c9 - M.2.length = 0 by omega] at h9
      cases h9
      exact absurd hk (hr k9 j9)
theorem fm_pool_app {S : List fm_Sc} {q : fm_Sc} (h : fm_pool S = true) : fm_pool (S ++ [q]) = true := by
  unfold fm_pool at h ⊢
  refine List.all_eq_true.mpr fun j hj => ?_
  have h1 := List.all_eq_true.mp h j hj
  unfold fm_poolRow at h1 ⊢
  simp only [Bool.and_eq_true, beq_iff_eq] at h1 ⊢
  have ap : ∀ (i : Nat) (z : fm_Sc), S[i]? = some z → (S ++ [q])[i]? = some z := fun i z hz => by
    rw [List.getElem?_append_left (fm_len_of hz)]; exact hz
  exact ⟨⟨ap _ _ h1.1.1, ap _ _ h1.1.2⟩, ap _ _ h1.2⟩
theorem fm_cn_app {q : fm_Sc} : fm_cn (M.1, M.2 ++ [q]) = fm_cn M + 1 := by
  unfold fm_cn
  simp only [List.length_append, List.length_cons, List.length_nil]
  omega
theorem fm_sn_app {q : fm_Sc} : fm_sn (M.1, M.2 ++ [q]) = fm_sn M + q.2.1 := by
  unfold fm_sn
  simp only [List.map_append, List.map_cons, List.map_nil, List.sum_append, List.sum_cons, List.sum_nil]
  omega
theorem fm_newc_inv {q : fm_Sc} {y : Nat × fm_M} (h : fm_newc q M = some y)   : M.1.2.2.2 = 0 ∧ M.2.length < fm_L0 ∧ y = (M.2.length, M.1, M.2 ++ [q]) := by
  unfold fm_newc at h
  cases hb : (Nat.blt M.2.length fm_L0 && Nat.beq M.1.2.2.2 0)
  · rw [hb, cond_false] at h; cases h
  · rw [hb, cond_true] at h
    cases h
    simp only [Bool.and_eq_true] at hb
    exact ⟨Nat.eq_of_beq_eq_true hb.2, by simpa using hb.1, rfl⟩
theorem fm_zero_fields {ci : Nat} {N : fm_N} {cI : Nat} (hci : ci < 7) (hz : ∀ i, N.1 cI i = 0 ∧ N.2.1 cI i = 0) (hft : ∀ k, k < fm_n ci → fm_fit (fm_ty ci k) ((fm_fks.getD ci []).getD k 9)) : ∀ j, j < fm_n ci → defaultValue (fm_ty ci j) = vp_V (fm_fields B N cI (ci, fm_n ci, List.replicate (fm_n ci) none)) j := by
  intro j hj
  unfold vp_V
  have hk := hft j hj
  rw [List.getD, fm_fields_at (q := (ci, fm_n ci, List.replicate (fm_n ci) none)) hj]
  dsimp only [Option.getD]
  unfold fm_fv
  generalize (fm_fks.getD ci []).getD j 9 = fk at hk
  match fk, hk with
  | 0, hk => rw [show fm_ty ci j = .int from hk, (hz j).1]; rfl
  | 1, hk => rw [show fm_ty ci j = .long from hk, (hz j).2]; rfl
  | f + 2, hk =>
    have hr : (List.replicate (fm_n ci) (none : Option Nat)).getD j none = none := by
      rw [List.getD, List.getElem?_replicate]
      split <;> rfl
    rw [hr]
    rcases hk with ⟨n, hn⟩ | ⟨t, ht⟩
    · rw [hn]; rfl
    · rw [ht]; rfl
theorem sm_new {ci n cp : Nat} {y : Nat × fm_M} (C : fm_Cx p s m args meth c sts ncs X B b nL aC D cc own) (hd : decode cc pc = .ok (.new cp, 3)) (hci : ci < 7) (hn : n = fm_n ci) (hw1 : (Cond.classLink own cp (fm_C ci)).before args s = true) (hw2 : (Cond.instantiable (fm_C ci) (fm_n ci)).before args s = true) (hw3 : (Cond.initialized (fm_C ci)).before args s = true) (hft : ∀ k, k < fm_n ci → fm_fit (fm_ty ci k) ((fm_fks.getD ci []).getD k 9))
    (h : fm_newc (ci, n, List.replicate n none) M = some y) (hc : fm_cn M + 1 - fm_cn M0 ≤ R.cells) (hs : fm_sn M + n - fm_sn M0 ≤ R.slots) (hm1 : fm_cn M0 ≤ fm_cn M) (hm2 : fm_sn M0 ≤ fm_sn M)
    (kk : fm_WW p l e R s m args below meth c B b nL wd aC D M0 Q (pc + 3, lo, .inl (.ref y.1) :: st, y.2)) : fm_WW p l e R s m args below meth c B b nL wd aC D M0 Q (pc, lo, st, M) := by
  subst hn
  obtain ⟨h0, h1, rfl⟩ := fm_newc_inv h
  intro H locs ls hl ho hw hS
  have hz7 := hw.2.2.2.2.2.2.1 M.2.length (by show M.2.length + M.1.2.2.2 ≤ M.2.length; omega)
  have hsz := hw.2.2.2.1 h0
  have hok : fm_okq (ci, fm_n ci, List.replicate (fm_n ci) none) := Or.inl ⟨hci, by
    show fm_fN[ci]? = some (fm_n ci)
    match ci, hci with
    | 0, _ => rfl
    | 1, _ => rfl
    | 2, _ => rfl
    | 3, _ => rfl
    | 4, _ => rfl
    | 5, _ => rfl
    | 6, _ => rfl
    | k + 7, h => omega⟩
  have hnr : ∀ k j : Nat, (List.replicate (fm_n ci) (none : Option Nat))[k]? ≠ some (some j) := fun k j hk => by
    rw [List.getElem?_replicate] at hk
    split at hk <;> cases hk
  have hcA : fm_cn M - fm_cn M0 + 1 ≤ R.cells := by omega
  have hsA : fm_sn M - fm_sn M0 + fm_n ci ≤ R.slots := by omega
  refine fr_new (C := fm_C ci) (T := fm_T ci) (N := fm_n ci) (ci := ci) C.1 C.2.1 C.2.2.2.2.1 (fm_in hci) (fm_ty ci) (fm_tyk hci) C.2.2.2.1 hw1 hw2 hw3 C.2.2.2.2.2.1.1 hw.1 hS (fm_cls_at hci) (fm_zero_fields (B := B) (cI := M.2.length) hci (fun i => ⟨(hz7 i).1, (hz7 i).2.1⟩) hft) hcA hsA hd fun H1 hP1 hz1 hS1 _ => ?_
  have hw' := hw.app (q := (ci, fm_n ci, List.replicate (fm_n ci) none)) h0 h1 hok hnr (by rw [fm_entO (q := (ci, fm_n ci, List.replicate (fm_n ci) none)) hci]; exact hP1) hz1
  have hg := kk H1 locs ls hl ((ho.mono fm_pool_app).push (v := .inl (.ref M.2.length)) trivial) hw' hS1
  have e1 : fm_cn M - fm_cn M0 + 1 = fm_cn M + 1 - fm_cn M0 := by omega
  have e2 : fm_sn M - fm_sn M0 + fm_n ci = fm_sn M + fm_n ci - fm_sn M0 := by omega
  have hsc : ¬ M.2.length = fm_scr := fun e9 => by
    have h2 : (999999 : Nat) < fm_L0 := by rw [e9] at h1; exact h1
    exact absurd h2 (by decide)
  rw [e1, e2, hsz, ← fm_ren_ref (b := b) hsc]
  dsimp only [List.map_cons] at hg
  rw [fm_cn_app, fm_sn_app] at hg
  exact hg
theorem fm_aC_at {k : Nat} {ty : FieldType} {U : State} (hK : va_K D fm_cls (fm_tys aC) U) (h : (fm_tys aC)[k]? = some (aC k, ty)) (hty : ∀ n, ty ≠ .object n) : U.vm.findClass ("[" ++ ty.toString) = some (aC k) := by
  have h1 := (hK.2 k _ h).2
  cases ty with
  | object n => exact absurd rfl (hty n)
  | _ => exact h1
theorem sm_newarr {q : fm_Sc} {y : Nat × fm_M} {nx : Nat} {n : Int32} (hq : q.2.1 = n.toNatClampNeg) (hok : fm_okq q) (hnr : ∀ k j : Nat, q.2.2[k]? ≠ some (some j)) (h : fm_newc q M = some y)
    (row : ∀ (H : Heap) (locs : List Loc) (ls : Array Slot) (rest : List Value), va_P D fm_cls (fm_ws B aC M) H → va_S (fm_A B) s.heap H locs → (∀ i, M.1.1 M.2.length i = 0 ∧ M.1.2.1 M.2.length i = 0 ∧ M.1.2.2.1 M.2.length i = 0) →
      (∀ H1 : Heap, va_P D fm_cls (fm_ws B aC M ++ [(H.size, fm_ent B aC M.1 M.2.length q)]) H1 → H1.size = H.size + 1 → va_S (fm_A B) s.heap H1 locs → W p l e R s m args below meth c H1 locs (fm_cn M - fm_cn M0 + 1) (fm_sn M - fm_sn M0 + n.toNatClampNeg) Q (F0 m nx ls (.ref H.size :: rest))) →
      W p l e R s m args below meth c H locs (fm_cn M - fm_cn M0) (fm_sn M - fm_sn M0) Q (F0 m pc ls (.int n :: rest)))
    (hm1 : fm_cn M0 ≤ fm_cn M) (hm2 : fm_sn M0 ≤ fm_sn M)
    (kk : fm_WW p l e R s m args below meth c B b nL wd aC D M0 Q (nx, lo, .inl (.ref y.1) :: st, y.2)) : fm_WW p l e R s m args below meth c B b nL wd aC D M0 Q (pc, lo, .inl (.int n) :: st, M) := by
  obtain ⟨h0, h1, rfl⟩ := fm_newc_inv h
  intro H locs ls hl ho hw hS
  have hsz := hw.2.2.2.1 h0
  refine row H locs ls _ hw.1 hS (hw.2.2.2.2.2.2.1 M.2.length (by show M.2.length + M.1.2.2.2 ≤ M.2.length; omega)) fun H1 hP1 hz1 hS1 => ?_
  have hw' := hw.app h0 h1 hok hnr hP1 hz1
  have hg := kk H1 locs ls hl ((ho.tail.mono fm_pool_app).push (v := .inl (.ref M.2.length)) trivial) hw' hS1
  have e1 : fm_cn M - fm_cn M0 + 1 = fm_cn M + 1 - fm_cn M0 := by omega
  have e2 : fm_sn M - fm_sn M0 + n.toNatClampNeg = fm_sn M + q.2.1 - fm_sn M0 := by omega
  have hsc : ¬ M.2.length = fm_scr := fun e9 => by
    have h2 : (999999 : Nat) < fm_L0 := by rw [e9] at h1; exact h1
    exact absurd h2 (by decide)
  rw [e1, e2, hsz, ← fm_ren_ref (b := b) hsc]
  dsimp only [List.map_cons] at hg
  rw [fm_cn_app, fm_sn_app] at hg
  exact hg
theorem fm_blank {α : Type} {f : Nat → α} {z : α} (h : ∀ i, f i = z) : f = fun _ => z := funext h
theorem sm_newarray {at9 : ArrayType} {kd : Nat} {n : Int32} {y : Nat × fm_M} (C : fm_Cx p s m args meth c sts ncs X B b nL aC D cc own) (hd : decode cc pc = .ok (.newarray at9, 2)) (hk : (at9 = .int ∧ kd = 10) ∨ (at9 = .boolean ∧ kd = 11)) (hwa : (Cond.arrayClass (newarray.typeOf at9)).before args s = true)
    (hn : ¬ n < 0) (hb : n.toNatClampNeg ≤ 1000) (h : fm_newc (kd, n.toNatClampNeg, []) M = some y) (hc : fm_cn M + 1 - fm_cn M0 ≤ R.cells) (hs : fm_sn M + n.toNatClampNeg - fm_sn M0 ≤ R.slots) (hm1 : fm_cn M0 ≤ fm_cn M) (hm2 : fm_sn M0 ≤ fm_sn M)
    (kk : fm_WW p l e R s m args below meth c B b nL wd aC D M0 Q (pc + 2, lo, .inl (.ref y.1) :: st, y.2)) : fm_WW p l e R s m args below meth c B b nL wd aC D M0 Q (pc, lo, .inl (.int n) :: st, M) := by
  have hK := C.2.2.2.2.2.1.1
  rcases hk with ⟨rfl, rfl⟩ | ⟨rfl, rfl⟩
  · refine sm_newarr rfl (Or.inr ⟨by show 9 < 10; decide, by show 10 < 15; decide⟩) (fun k j hk => by cases hk) h (fun H locs ls rest hP hS hz k1 => ?_) hm1 hm2 kk
    refine fr_newa (ty := .int) (a0 := (n.toNatClampNeg, .inl (M.1.1 M.2.length))) (N' := n.toNatClampNeg) C.1 C.2.1 hwa rfl hP hS (fm_aC_at (k := 0) hK rfl (fun n h => by cases h)) (fun cA => by rw [fm_blank (fun i => (hz i).1)]; rfl) hn rfl (by show n.toNatClampNeg * 4 ≤ 536870912; omega) (by omega) (by omega) hd (fun H1 a1 a2 a3 _ => k1 H1 a1 a2 a3)
  · refine sm_newarr rfl (Or.inr ⟨by show 9 < 11; decide, by show 11 < 15; decide⟩) (fun k j hk => by cases hk) h (fun H locs ls rest hP hS hz k1 => ?_) hm1 hm2 kk
    refine fr_newa (ty := .boolean) (a0 := (n.toNatClampNeg, .inl (M.1.1 M.2.length))) (N' := n.toNatClampNeg) C.1 C.2.1 hwa rfl hP hS (fm_aC_at (k := 1) hK rfl (fun n h => by cases h)) (fun cA => by rw [fm_blank (fun i => (hz i).1)]; rfl) hn rfl (by show n.toNatClampNeg * 1 ≤ 536870912; omega) (by omega) (by omega) hd (fun H1 a1 a2 a3 _ => k1 H1 a1 a2 a3)
theorem sm_anewarray {cp : Nat} {n : Int32} {y : Nat × fm_M} (C : fm_Cx p s m args meth c sts ncs X B b nL aC D cc own) (hd : decode cc pc = .ok (.anewarray cp, 3)) (hwc : (Cond.classLink own cp RX4).before args s = true)
    (hn : ¬ n < 0) (hb : n.toNatClampNeg ≤ 1000) (h : fm_newc (14, n.toNatClampNeg, List.replicate n.toNatClampNeg none) M = some y) (hc : fm_cn M + 1 - fm_cn M0 ≤ R.cells) (hs : fm_sn M + n.toNatClampNeg - fm_sn M0 ≤ R.slots) (hm1 : fm_cn M0 ≤ fm_cn M) (hm2 : fm_sn M0 ≤ fm_sn M)
    (kk : fm_WW p l e R s m args below meth c B b nL wd aC D M0 Q (pc + 3, lo, .inl (.ref y.1) :: st, y.2)) : fm_WW p l e R s m args below meth c B b nL wd aC D M0 Q (pc, lo, .inl (.int n) :: st, M) := by
  have hK := C.2.2.2.2.2.1.1
  have hAO := C.2.2.2.2.2.1.2.2.2.2.1
  have hnr : ∀ k j : Nat, (List.replicate n.toNatClampNeg (none : Option Nat))[k]? ≠ some (some j) := fun k j hk => by
    rw [List.getElem?_replicate] at hk
    split at hk <;> cases hk
  refine sm_newarr rfl (Or.inr ⟨by show 9 < 14; decide, by show 14 < 15; decide⟩) hnr h (fun H locs ls rest hP hS hz k1 => ?_) hm1 hm2 kk
  obtain ⟨kA, comp, k2, k3, k4, k5⟩ := (hK.2 4 _ rfl).2
  refine fr_newq C.1 C.2.1 C.2.2.2.1 hwc hAO hP hS k5 hn rfl (by omega) (by omega) (by omega) hd (fun i => ?_) (fun H1 a1 a2 a3 _ => k1 H1 a1 a2 a3)
  dsimp only
  have hr : (List.replicate n.toNatClampNeg (none : Option Nat)).getD i none = none := by
    rw [List.getD, List.getElem?_replicate]
    split <;> rfl
  rw [hr]
  rfl
/-- a late row is made -/
theorem sm_newL {n : Int32} (C : fm_Cx p s m args meth c sts ncs X B b nL aC D cc own) (hd : decode cc pc = .ok (.newarray .int, 2)) (hwa : (Cond.arrayClass (newarray.typeOf .int)).before args s = true) (hl0 : M.2.length = fm_L0) (hn : n = nI 20) (hc : fm_cn M + 1 - fm_cn M0 ≤ R.cells) (hs : fm_sn M + 20 - fm_sn M0 ≤ R.slots) (hm1 : fm_cn M0 ≤ fm_cn M) (hm2 : fm_sn M0 ≤ fm_sn M)
    (kk : fm_WW p l e R s m args below meth c B b nL wd aC D M0 Q (pc + 2, lo, .inr (3, M.1.2.2.2) :: st, ((fm_nw M.1.1 (fm_L0 + M.1.2.2.2), M.1.2.1, M.1.2.2.1, M.1.2.2.2 + 1), M.2))) : fm_WW p l e R s m args below meth c B b nL wd aC D M0 Q (pc, lo, .inl (.int n) :: st, M) := by
  subst hn
  have hK := C.2.2.2.2.2.1.1
  intro H locs ls hl ho hw hS
  obtain ⟨w1, w2, w3, w4, w5, w6, w7, w8, w9, w10, w11⟩ := hw
  have w3 : B + M.2.length ≤ H.size := w3
  have w8 : H.size = B + M.2.length + M.1.2.2.2 := w8
  have w9 : 0 < M.1.2.2.2 → M.2.length = fm_L0 := w9
  have w10 : M.2.length ≤ fm_L0 := w10
  refine fr_newa (ty := .int) (a0 := (20, .inl (fun _ => 0))) (N' := 20) C.1 C.2.1 hwa rfl w1 hS (fm_aC_at (k := 0) hK rfl (fun n h => by cases h)) (fun cA => rfl) (by decide) rfl (by show 20 * 4 ≤ 536870912; omega) (by show fm_cn M - fm_cn M0 + 1 ≤ R.cells; omega) (by show fm_sn M - fm_sn M0 + 20 ≤ R.slots; omega) hd fun H1 hP1 hz1 hS1 hq1 => ?_
  have e1 : fm_cn M - fm_cn M0 + 1 = fm_cn ((fm_nw M.1.1 (fm_L0 + M.1.2.2.2), M.1.2.1, M.1.2.2.1, M.1.2.2.2 + 1), M.2) - fm_cn M0 := by
    unfold fm_cn at hm1 ⊢
    dsimp only
    omega
  have e2 : fm_sn M - fm_sn M0 + 20 = fm_sn ((fm_nw M.1.1 (fm_L0 + M.1.2.2.2), M.1.2.1, M.1.2.2.1, M.1.2.2.2 + 1), M.2) - fm_sn M0 := by
    unfold fm_sn at hm2 ⊢
    dsimp only
    omega
  have hnw : ∀ c9, c9 ≠ fm_L0 + M.1.2.2.2 → fm_nw M.1.1 (fm_L0 + M.1.2.2.2) c9 = M.1.1 c9 := fun c9 hc9 => by
    funext i9
    unfold fm_nw
    rw [if_neg hc9]
  have hws : fm_ws B aC ((fm_nw M.1.1 (fm_L0 + M.1.2.2.2), M.1.2.1, M.1.2.2.1, M.1.2.2.2 + 1), M.2) = fm_ws B aC M := by
    unfold fm_ws
    refine List.map_congr_left fun c9 hc9 => ?_
    have hc9 : c9 < M.2.length := List.mem_range.mp hc9
    have e0 := hnw c9 (by omega)
    unfold fm_ent fm_fields fm_fv
    dsimp only
    rw [e0]
  have hg := kk H1 locs ls hl (fm_ok.push (v := .inr (3, M.1.2.2.2)) ho.tail (Or.inl rfl)) ⟨?_, w2, by dsimp only; omega, fun z => absurd z (Nat.succ_ne_zero _), w5, w6, fun d hd9 i9 => ?_, by dsimp only; omega, fun _ => hl0, w10, fun g9 hg9 => ?_⟩ hS1
  · rw [e1, e2]
    have e3 : H.size = B + (fm_L0 + M.1.2.2.2) := by omega
    rw [e3]
    exact hg
  · rw [hws]
    refine w1.kept fun k9 q9 h9 => hq1 _ ?_
    obtain ⟨a1, a2⟩ := fm_ws_at h9
    omega
  · dsimp only at hd9 ⊢
    rw [hnw d (by omega)]
    exact w7 d (by omega) i9
  · have hg9 : fm_nw M.1.1 (fm_L0 + M.1.2.2.2) (fm_L0 + g9) 5000 = nI 21 := hg9
    dsimp only
    by_cases hgg : g9 = M.1.2.2.2
    · subst hgg
      refine ⟨Nat.lt_succ_self _, ?_⟩
      have h0 := hP1 (fm_ws B aC M).length _ (by rw [List.getElem?_append_right (Nat.le_refl _), Nat.sub_self]; rfl)
      have e3 : H.size = B + (fm_L0 + M.1.2.2.2) := by omega
      rw [e3] at h0
      have h0 : H1[B + (fm_L0 + M.1.2.2.2)]? = some (arrV (aC 0) 20 (fun _ => .int 0)) := h0
      show H1[B + (fm_L0 + M.1.2.2.2)]? = some (arrV (aC 0) 20 (fun j => .int (fm_nw M.1.1 (fm_L0 + M.1.2.2.2) (fm_L0 + M.1.2.2.2) j)))
      rw [h0]
      unfold arrV
      congr 2
      refine Array.ext (by simp) fun j h1 h2 => ?_
      have hj : j < 20 := by simpa using h1
      simp only [Array.getElem_ofFn, fm_nw, if_pos]
      rw [if_neg (by omega)]
      rfl
    · rw [hnw _ (by omega)] at hg9 ⊢
      obtain ⟨k1, k2⟩ := w11 g9 hg9
      exact ⟨by omega, k2.kept (hq1 _ (by omega))⟩
theorem sm_aastore {j c0 : Nat} {i : Int32} {q q' : fm_Sc} (C : fm_Cx p s m args meth c sts ncs X B b nL aC D cc own) (hd : decode cc pc = .ok (.aastore, 1)) (h1 : M.2[c0]? = some q) (h2 : M.2[j]? = some q') (hq : q.1 = 14) (hq' : q'.1 = 4) (hi : i.toNatClampNeg < q.2.2.length) (hpp : fm_pool M.2 = true → fm_pool (M.2.set c0 (q.1, q.2.1, q.2.2.set i.toNatClampNeg (some j))) = true) (hin : vp_in i q.2.1)
    (kk : fm_WW p l e R s m args below meth c B b nL wd aC D M0 Q (pc + 1, lo, st, (M.1, M.2.set c0 (q.1, q.2.1, q.2.2.set i.toNatClampNeg (some j))))) : fm_WW p l e R s m args below meth c B b nL wd aC D M0 Q (pc, lo, .inl (.ref j) :: .inl (.int i) :: .inl (.ref c0) :: st, M) := by
  intro H locs ls hl ho hw hS
  simp only [List.map_cons]
  rw [fm_ren_ref (fm_scr_ne h1 hw.2.1), fm_ren_ref (fm_scr_ne h2 hw.2.1)]
  obtain ⟨qk, qn, qr⟩ := q
  dsimp only at hq
  subst hq
  have g1 := fm_ws_get (B := B) (aC := aC) h1
  obtain ⟨g2, -⟩ := fm_obj_at (B := B) (aC := aC) (D := D) hw h2 (by rw [hq']; decide)
  rw [hq'] at g2
  refine fr_astq C.1 C.2.1 C.2.2.2.2.2.1.1 hw.1 (fm_ws_D B aC M) hS c0 4 j 4 (f := fun i => (qr.getD i none).map (fun j => B + j)) g1 rfl g2 (r := (RX4, TX4, 3)) rfl hin hd fun H1 locs1 hP1 hz1 hS1 hq1 => ?_
  obtain ⟨w1, w2, w3, w4, w5, w6, w7, w8⟩ := hw
  have hcl := fm_len_of h1
  have hj := fm_len_of h2
  have hl2 : (M.2.set c0 (14, qn, qr.set i.toNatClampNeg (some j))).length = M.2.length := List.length_set
  have hcn : fm_cn (M.1, M.2.set c0 (14, qn, qr.set i.toNatClampNeg (some j))) = fm_cn M := by
    unfold fm_cn
    rw [hl2]
  have hsum : fm_sn (M.1, M.2.set c0 (14, qn, qr.set i.toNatClampNeg (some j))) = fm_sn M := by
    unfold fm_sn
    have : (M.2.set c0 (14, qn, qr.set i.toNatClampNeg (some j))).map (fun z => z.2.1) = M.2.map (fun z => z.2.1) := by
      rw [List.map_set]
      apply List.ext_getElem?
      intro i9
      by_cases hi9 : c0 = i9
      · subst hi9
        rw [List.getElem?_set_self (by simpa using hcl), List.getElem?_map, h1]
        rfl
      · rw [List.getElem?_set_ne hi9]
    rw [this]
  have hgo := kk H1 locs1 ls hl (ho.tail.tail.tail.mono hpp) ⟨?_, by rw [hl2]; exact w2, by rw [hl2, hz1]; exact w3, by rw [hl2, hz1]; exact w4, ?_, ?_, by rw [hl2]; exact w7, w8.keep hl2 rfl (fun _ => rfl) hz1 (fun g _ => hq1 _ (by have h9 : M.2.length ≤ fm_L0 := w8.2.2.1; omega))⟩ hS1
  · rw [hsum, hcn] at hgo
    exact hgo
  · have e0 := fm_ws_set (B := B) (aC := aC) (M := M) (M' := (M.1, M.2.set c0 (14, qn, qr.set i.toNatClampNeg (some j)))) hcl rfl (fun d _ => ⟨rfl, rfl, rfl⟩)
    rw [← e0]
    have e1 : fm_ent B aC M.1 c0 (14, qn, qr.set i.toNatClampNeg (some j)) = .inl (aC 4, qn, .inr (.inr (.inr (.inr (va_up (fun i => (qr.getD i none).map (fun j => B + j)) i.toNatClampNeg (some (B + j))))))) := by
      show (Sum.inl (aC 4, qn, Sum.inr (Sum.inr (Sum.inr (Sum.inr (fun i9 => ((qr.set i.toNatClampNeg (some j)).getD i9 none).map (fun j => B + j)))))) : va_E) = _
      congr 7
      funext i9
      unfold va_up
      by_cases hi9 : i9 = i.toNatClampNeg
      · subst hi9
        rw [if_pos rfl, List.getD, List.getElem?_set_self hi]
        rfl
      · rw [if_neg hi9]
        show (((qr.set i.toNatClampNeg (some j))[i9]?).getD none).map _ = ((qr[i9]?).getD none).map _
        rw [List.getElem?_set_ne (fun e9 => hi9 e9.symm)]
    dsimp only
    rw [e1]
    exact hP1
  · intro c9 q9 h9
    dsimp only at h9
    by_cases hc9 : c0 = c9
    · subst hc9
      rw [List.getElem?_set_self hcl] at h9
      cases h9
      exact Or.inr ⟨by show 9 < 14; decide, by show 14 < 15; decide⟩
    · rw [List.getElem?_set_ne hc9] at h9
      exact w5 c9 q9 h9
  · intro c9 q9 h9 k9 j9 hkj
    show j9 < (M.2.set c0 (14, qn, qr.set i.toNatClampNeg (some j))).length
    rw [hl2]
    dsimp only at h9
    by_cases hc9 : c0 = c9
    · subst hc9
      rw [List.getElem?_set_self hcl] at h9
      cases h9
      dsimp only at hkj
      by_cases hk9 : i.toNatClampNeg = k9
      · rw [← hk9, List.getElem?_set_self hi] at hkj
        cases hkj
        exact hj
      · rw [List.getElem?_set_ne hk9] at hkj
        exact w6 c0 _ h1 k9 j9 hkj
    · rw [List.getElem?_set_ne hc9] at h9
      exact w6 c9 q9 h9 k9 j9 hkj
end FMS6
