section FMS4
variable {p : Program} {l : Launch} {e : Env} {R : Room} {s : State} {m : MethodId} {args : Array Value} {below : List Frame} {meth : Method} {c : Code}
variable {sts : fm_St} {ncs : fm_Nc} {X : Nat × (Nat → Int32)} {B b nL : Nat} {wd : Bool} {aC : Nat → ClassId} {D : va_G} {M0 : fm_M} {Q : State → Prop} {cc : ByteArray} {own : String}
variable {pc : Nat} {lo : List (Option fm_V)} {st : List fm_V} {M : fm_M} {g : fm_F}
theorem fm_word {w : Cond} (C : fm_Cx p s m args meth c sts ncs X B b nL aC D cc own) (hw : w ∈ lw_tbl) (hg : goodWord w = true) : w.before args s = true := C.2.2.2.2.1 w (List.mem_filter.mpr ⟨hw, hg⟩)
theorem fm_wordN {w : Cond} (C : fm_Cx p s m args meth c sts ncs X B b nL aC D cc own) (hw : w ∈ lw_tbl) (hg : fm_mv w = true) (ho : w.onTables = true) : w.before args s = true := va_Nw.use ho (C.2.2.2.2.2.1.2.1 w hw hg)
theorem sm_ald_inv {kd nx : Nat} {G : Nat → Int32 → fm_V} {q : fm_P} (h : fm_ald kd G nx lo st M = .inr (.inl (q, g))) : ∃ i a r x, st = .inl (.int i) :: a :: r ∧ fm_arr a M.2 = some x ∧ x.2.1 = kd ∧ (q.1 → vp_in i x.2.2) ∧ g = (nx, lo, G x.1 i :: r, M) := by
  unfold fm_ald at h
  split at h
  · rename_i i a r
    split at h
    · rename_i x hx
      cases hb : Nat.beq x.2.1 kd
      · rw [hb, cond_false] at h; cases h
      · rw [hb, cond_true] at h
        cases h
        exact ⟨i, a, r, x, rfl, hx, Nat.eq_of_beq_eq_true hb, fun hq => hq, rfl⟩
    · cases h
  · cases h
theorem fm_arrE {H : Heap} {a : fm_V} {x : Nat × Nat × Nat} (hw : fm_Wd B aC D M H) (h : fm_arr a M.2 = some x) (hv : fm_vok M.2 a) (b : Nat) : ∃ rs, M.2[x.1]? = some (x.2.1, x.2.2, rs) ∧ fm_ren B b a = .ref (B + x.1) ∧ (fm_ws B aC M)[x.1]? = some (B + x.1, fm_ent B aC M.1 x.1 (x.2.1, x.2.2, rs)) := by
  obtain ⟨rs, h1, h2⟩ := fm_arr_at h hv hw.2.1 B b
  exact ⟨rs, h1, h2, fm_ws_get h1⟩
theorem sm_ald {kd nx : Nat} {G : Nat → Int32 → fm_V} {q : fm_P} (h : fm_ald kd G nx lo st M = .inr (.inl (q, g))) (hq : q.1) (hG : ∀ c i, fm_vok M.2 (G c i))
    (row : ∀ (H : Heap) (locs : List Loc) (cells slots : Nat) (ls : Array Slot) (i : Int32) (c0 n : Nat) (rs : List (Option Nat)) (rest : List Value), va_P D fm_cls (fm_ws B aC M) H → (fm_ws B aC M)[c0]? = some (B + c0, fm_ent B aC M.1 c0 (kd, n, rs)) → vp_in i n → W p l e R s m args below meth c H locs cells slots Q (F0 m nx ls (fm_ren B b (G c0 i) :: rest)) → W p l e R s m args below meth c H locs cells slots Q (F0 m pc ls (.int i :: .ref (B + c0) :: rest)))
    (k : fm_WW p l e R s m args below meth c B b nL wd aC D M0 Q g) : fm_WW p l e R s m args below meth c B b nL wd aC D M0 Q (pc, lo, st, M) := by
  obtain ⟨i, a, r, x, rfl, hx, hk, hin, rfl⟩ := sm_ald_inv h
  intro H locs ls hl ho hw hS
  obtain ⟨rs, h1, h2, h3⟩ := fm_arrE hw hx ho.tail.hd b
  rw [hk] at h3
  have hg := k H locs ls hl (ho.tail.tail.push (hG _ _)) hw hS
  simp only [List.map_cons]
  rw [h2]
  exact row H locs _ _ ls i x.1 x.2.2 rs _ hw.1 h3 (hin hq) hg
theorem sm_iaload {q : fm_P} (C : fm_Cx p s m args meth c sts ncs X B b nL aC D cc own) (hd : decode cc pc = .ok (.iaload, 1)) (h : fm_ald 10 (fun c i => .inl (.int (M.1.1 c i.toNatClampNeg))) (pc + 1) lo st M = .inr (.inl (q, g))) (hq : q.1) (k : fm_WW p l e R s m args below meth c B b nL wd aC D M0 Q g) : fm_WW p l e R s m args below meth c B b nL wd aC D M0 Q (pc, lo, st, M) :=
  sm_ald h hq (fun _ _ => trivial) (fun H locs cells slots ls i c0 n rs rest hP ha hin kk => va_iald C.1 C.2.1 C.2.2.2.2.2.1.1 hP c0 0 ha rfl hin hd kk) k
theorem sm_baload {q : fm_P} (C : fm_Cx p s m args meth c sts ncs X B b nL aC D cc own) (hd : decode cc pc = .ok (.baload, 1)) (h : fm_ald 11 (fun c i => .inl (.int (M.1.1 c i.toNatClampNeg))) (pc + 1) lo st M = .inr (.inl (q, g))) (hq : q.1) (k : fm_WW p l e R s m args below meth c B b nL wd aC D M0 Q g) : fm_WW p l e R s m args below meth c B b nL wd aC D M0 Q (pc, lo, st, M) :=
  sm_ald h hq (fun _ _ => trivial) (fun H locs cells slots ls i c0 n rs rest hP ha hin kk => va_zald C.1 C.2.1 C.2.2.2.2.2.1.1 hP c0 1 ha rfl hin hd kk) k
theorem fm_ren_scr : fm_ren B b (.inl (.ref fm_scr)) = .ref b := by
  show Value.ref (if fm_scr = fm_scr then b else B + fm_scr) = _
  rw [if_pos rfl]
/-- the script's ints and length -/
theorem sm_sload {i : Int32} (C : fm_Cx p s m args meth c sts ncs X B b nL aC D cc own) (hd : decode cc pc = .ok (.iaload, 1)) (hin : vp_in i X.1) (k : fm_WW p l e R s m args below meth c B b nL wd aC D M0 Q (pc + 1, lo, .inl (.int (X.2 i.toNatClampNeg)) :: st, M)) : fm_WW p l e R s m args below meth c B b nL wd aC D M0 Q (pc, lo, .inl (.int i) :: .inl (.ref fm_scr) :: st, M) := by
  intro H locs ls hl ho hw hS
  obtain ⟨h1, h2, h3, h4, h5, h6, h7, h8, h9, h10⟩ := C.2.2.2.2.2.1
  have hb1 : b < s.heap.size := by omega
  have hb2 : ¬ B ≤ b := by omega
  simp only [List.map_cons]
  rw [fm_ren_scr]
  exact va_sld C.1 C.2.1 h8 hb1 hb2 hS hin hd (k H locs ls hl (fm_ok.push (v := .inl (.int (X.2 i.toNatClampNeg))) ho.tail.tail trivial) hw hS)
theorem sm_slen (C : fm_Cx p s m args meth c sts ncs X B b nL aC D cc own) (hd : decode cc pc = .ok (.arraylength, 1)) (k : fm_WW p l e R s m args below meth c B b nL wd aC D M0 Q (pc + 1, lo, .inl (.int (nI X.1)) :: st, M)) : fm_WW p l e R s m args below meth c B b nL wd aC D M0 Q (pc, lo, .inl (.ref fm_scr) :: st, M) := by
  intro H locs ls hl ho hw hS
  obtain ⟨h1, h2, h3, h4, h5, h6, h7, h8, h9, h10⟩ := C.2.2.2.2.2.1
  have hb1 : b < s.heap.size := by omega
  have hb2 : ¬ B ≤ b := by omega
  simp only [List.map_cons]
  rw [fm_ren_scr]
  exact va_slen C.1 C.2.1 h8 hb1 hb2 hS hd (k H locs ls hl (fm_ok.push (v := .inl (.int (nI X.1))) ho.tail trivial) hw hS)
theorem fm_refs_at {i : Nat} (h : i < 12) : fm_poolRefs.getD i none = some (fm_pc 0 i) := by
  unfold fm_poolRefs
  rw [List.getD, List.getElem?_map, List.getElem?_range h]
  rfl
theorem sm_aaload {i : Int32} {c0 : Nat} (C : fm_Cx p s m args meth c sts ncs X B b nL aC D cc own) (hd : decode cc pc = .ok (.aaload, 1)) (hp : fm_pool M.2 = true) (hc : M.2[c0]? = some (14, 12, fm_poolRefs)) (hin : vp_in i 12) (k : fm_WW p l e R s m args below meth c B b nL wd aC D M0 Q (pc + 1, lo, .inr (0, i.toNatClampNeg) :: st, M)) : fm_WW p l e R s m args below meth c B b nL wd aC D M0 Q (pc, lo, .inl (.int i) :: .inl (.ref c0) :: st, M) := by
  intro H locs ls hl ho hw hS
  have hlt : i.toNatClampNeg < 12 := Nat.not_le.mp fun q => hin (Or.inr q)
  have hg := k H locs ls hl (fm_ok.push (v := .inr (0, i.toNatClampNeg)) ho.tail.tail (Or.inr ⟨show 0 < 3 by decide, hlt, hp⟩)) hw hS
  simp only [List.map_cons]
  rw [fm_ren_ref (fm_scr_ne hc hw.2.1)]
  refine va_aldq C.1 C.2.1 C.2.2.2.2.2.1.1 hw.1 c0 4 (fm_ws_get hc) rfl hin hd ?_
  dsimp only
  rw [fm_refs_at hlt]
  exact hg
/-- a world with one cell's numbers changed -/
theorem fm_Wd.upd {H H1 : Heap} {M' : fm_M} {cI : Nat} {q : fm_Sc} (hw : fm_Wd B aC D M H) (h : M.2[cI]? = some q) (hS : M'.2 = M.2) (hG : M'.1.2.2.2 = M.1.2.2.2) (hN : ∀ d, d ≠ cI → M'.1.1 d = M.1.1 d ∧ M'.1.2.1 d = M.1.2.1 d ∧ M'.1.2.2.1 d = M.1.2.2.1 d)
    (hP : va_P D fm_cls ((fm_ws B aC M).set cI (B + cI, fm_ent B aC M'.1 cI q)) H1) (hz : H1.size = H.size) (hoq : ∀ a : Nat, a ≠ B + cI → H1[a]? = H[a]?) : fm_Wd B aC D M' H1 := by
  obtain ⟨w1, w2, w3, w4, w5, w6, w7, w8⟩ := hw
  rw [fm_ws_same h hS hN] at hP
  have hl := fm_len_of h
  refine ⟨hP, by rw [hS]; exact w2, by rw [hS, hz]; exact w3, by rw [hS, hG, hz]; exact w4, by rw [hS]; exact w5, by rw [hS]; exact w6, fun d hd i => ?_, w8.keep (by rw [hS]) hG (fun g => (hN _ (by have h9 : M.2.length ≤ fm_L0 := w8.2.2.1; omega)).1) hz (fun g _ => hoq _ (by have h9 : M.2.length ≤ fm_L0 := w8.2.2.1; omega))⟩
  rw [hS, hG] at hd
  obtain ⟨e1, e2, e3⟩ := hN d (by omega)
  rw [e1, e2, e3]
  exact w7 d hd i
theorem fm_uI_self {α : Type} (f : Nat → Nat → α) (cI i : Nat) (v : α) : fm_uI f cI i v cI = fun j => if j = i then v else f cI j := by
  funext j
  simp [fm_uI]
theorem fm_uI_ne {α : Type} (f : Nat → Nat → α) {cI d : Nat} (i : Nat) (v : α) (h : d ≠ cI) : fm_uI f cI i v d = f d := by
  funext j
  simp [fm_uI, h]
theorem sm_iastore {i x : Int32} {a : fm_V} {y : Nat × Nat × Nat} (C : fm_Cx p s m args meth c sts ncs X B b nL aC D cc own) (hd : decode cc pc = .ok (.iastore, 1)) (hy : fm_arr a M.2 = some y) (hk : y.2.1 = 10) (hin : vp_in i y.2.2) (k : fm_WW p l e R s m args below meth c B b nL wd aC D M0 Q (pc + 1, lo, st, ((fm_uI M.1.1 y.1 i.toNatClampNeg x, M.1.2), M.2))) : fm_WW p l e R s m args below meth c B b nL wd aC D M0 Q (pc, lo, .inl (.int x) :: .inl (.int i) :: a :: st, M) := by
  intro H locs ls hl ho hw hS
  obtain ⟨rs, h1, h2, h3⟩ := fm_arrE hw hy ho.tail.tail.hd b
  rw [hk] at h1 h3
  simp only [List.map_cons]
  rw [h2]
  refine fr_iast C.1 C.2.1 C.2.2.2.2.2.1.1 hw.1 (fm_ws_D B aC M) hS y.1 0 h3 rfl hin hd fun H1 locs1 hP1 hz1 hS1 hq1 => ?_
  refine k H1 locs1 ls hl ho.tail.tail.tail (hw.upd (M' := ((fm_uI M.1.1 y.1 i.toNatClampNeg x, M.1.2), M.2)) h1 rfl rfl (fun d hdn => ⟨fm_uI_ne _ _ _ hdn, rfl, rfl⟩) ?_ hz1 hq1) hS1
  have e1 : fm_ent B aC ((fm_uI M.1.1 y.1 i.toNatClampNeg x, M.1.2), M.2).1 y.1 (10, y.2.2, rs) = .inl (aC 0, y.2.2, .inl (upd (M.1.1 y.1) i.toNatClampNeg x)) := by
    show (Sum.inl (aC 0, y.2.2, Sum.inl (fm_uI M.1.1 y.1 i.toNatClampNeg x y.1)) : va_E) = _
    rw [fm_uI_self]
    rfl
  rw [e1]
  exact hP1
/-- a late row's place is read -/
theorem sm_ialoadL {i : Int32} {gl : Nat} (C : fm_Cx p s m args meth c sts ncs X B b nL aC D cc own) (hd : decode cc pc = .ok (.iaload, 1)) (hm : fm_mk M.1.1 gl) (hin : vp_in i 20) (k : fm_WW p l e R s m args below meth c B b nL wd aC D M0 Q (pc + 1, lo, .inl (.int (M.1.1 (fm_L0 + gl) i.toNatClampNeg)) :: st, M)) : fm_WW p l e R s m args below meth c B b nL wd aC D M0 Q (pc, lo, .inl (.int i) :: .inr (3, gl) :: st, M) := by
  intro H locs ls hl ho hw hS
  obtain ⟨-, g2⟩ := hw.2.2.2.2.2.2.2.2.2.2 gl hm
  have hP : va_P D fm_cls [(B + (fm_L0 + gl), .inl (aC 0, 20, .inl (M.1.1 (fm_L0 + gl))))] H := fun k9 q9 h9 => by
    have hz : k9 < 1 := (List.getElem?_eq_some_iff.mp h9).1
    rw [show k9 = 0 by omega] at h9
    cases h9
    exact g2
  exact va_iald C.1 C.2.1 C.2.2.2.2.2.1.1 hP 0 0 rfl rfl hin hd (k H locs ls hl (fm_ok.push (v := .inl (.int (M.1.1 (fm_L0 + gl) i.toNatClampNeg))) ho.tail.tail trivial) hw hS)
theorem sm_iastoreL {i x : Int32} {gl : Nat} (C : fm_Cx p s m args meth c sts ncs X B b nL aC D cc own) (hd : decode cc pc = .ok (.iastore, 1)) (hm : fm_mk M.1.1 gl) (hin : vp_in i 20) (k : fm_WW p l e R s m args below meth c B b nL wd aC D M0 Q (pc + 1, lo, st, ((fm_uI M.1.1 (fm_L0 + gl) i.toNatClampNeg x, M.1.2), M.2))) : fm_WW p l e R s m args below meth c B b nL wd aC D M0 Q (pc, lo, .inl (.int x) :: .inl (.int i) :: .inr (3, gl) :: st, M) := by
  intro H locs ls hl ho hw hS
  have hlt : i.toNatClampNeg < 20 := Nat.not_le.mp fun q => hin (Or.inr q)
  obtain ⟨w1, w2, w3, w4, w5, w6, w7, w8, w9, w10, w11⟩ := hw
  obtain ⟨g1, g2⟩ := w11 gl hm
  have g1 : gl < M.1.2.2.2 := g1
  have w3 : B + M.2.length ≤ H.size := w3
  have w8 : H.size = B + M.2.length + M.1.2.2.2 := w8
  have w9 : 0 < M.1.2.2.2 → M.2.length = fm_L0 := w9
  have w10 : M.2.length ≤ fm_L0 := w10
  have hP : va_P D fm_cls [(B + (fm_L0 + gl), .inl (aC 0, 20, .inl (M.1.1 (fm_L0 + gl))))] H := fun k9 q9 h9 => by
    have hz : k9 < 1 := (List.getElem?_eq_some_iff.mp h9).1
    rw [show k9 = 0 by omega] at h9
    cases h9
    exact g2
  have hD : va_D (fm_A B) [(B + (fm_L0 + gl), (.inl (aC 0, 20, .inl (M.1.1 (fm_L0 + gl))) : va_E))] := by
    refine ⟨fun i9 j9 p9 q9 h1 h2 _ => ?_, fun k9 q9 h9 => ?_⟩
    · have z1 : i9 < 1 := (List.getElem?_eq_some_iff.mp h1).1
      have z2 : j9 < 1 := (List.getElem?_eq_some_iff.mp h2).1
      omega
    · have hz : k9 < 1 := (List.getElem?_eq_some_iff.mp h9).1
      rw [show k9 = 0 by omega] at h9
      cases h9
      show B ≤ B + (fm_L0 + gl)
      omega
  refine fr_iast C.1 C.2.1 C.2.2.2.2.2.1.1 hP hD hS 0 0 rfl rfl hin hd fun H1 locs1 hP1 hz1 hS1 hq1 => ?_
  have hws : fm_ws B aC ((fm_uI M.1.1 (fm_L0 + gl) i.toNatClampNeg x, M.1.2), M.2) = fm_ws B aC M := by
    unfold fm_ws
    refine List.map_congr_left fun c9 hc9 => ?_
    have hc9 : c9 < M.2.length := List.mem_range.mp hc9
    have e0 : fm_uI M.1.1 (fm_L0 + gl) i.toNatClampNeg x c9 = M.1.1 c9 := fm_uI_ne _ _ _ (by omega)
    unfold fm_ent fm_fields fm_fv
    dsimp only
    rw [e0]
  refine k H1 locs1 ls hl ho.tail.tail.tail ⟨?_, w2, by rw [hz1]; exact w3, by rw [hz1]; exact w4, w5, w6, fun d hd9 i9 => ?_, by rw [hz1]; exact w8, w9, w10, fun g9 hg9 => ?_⟩ hS1
  · rw [hws]
    refine w1.kept fun k9 q9 h9 => hq1 _ ?_
    obtain ⟨a1, a2⟩ := fm_ws_at h9
    omega
  · obtain ⟨e1, e2, e3⟩ := w7 d hd9 i9
    refine ⟨?_, e2, e3⟩
    have e0 : fm_uI M.1.1 (fm_L0 + gl) i.toNatClampNeg x d = M.1.1 d := fm_uI_ne _ _ _ (by
      have h5 : M.2.length + M.1.2.2.2 ≤ d := hd9
      have := w9 (by omega)
      omega)
    dsimp only
    rw [e0]
    exact e1
  · by_cases hgg : g9 = gl
    · subst hgg
      refine ⟨g1, ?_⟩
      have h0 := hP1 0 _ rfl
      dsimp only
      rw [fm_uI_self]
      exact h0
    · have e0 : fm_uI M.1.1 (fm_L0 + gl) i.toNatClampNeg x (fm_L0 + g9) = M.1.1 (fm_L0 + g9) := fm_uI_ne _ _ _ (by omega)
      have hg9 : fm_uI M.1.1 (fm_L0 + gl) i.toNatClampNeg x (fm_L0 + g9) 5000 = nI 21 := hg9
      rw [e0] at hg9
      obtain ⟨k1, k2⟩ := w11 g9 hg9
      refine ⟨k1, ?_⟩
      dsimp only
      rw [e0]
      exact k2.kept (hq1 _ (by show B + (fm_L0 + g9) ≠ B + (fm_L0 + gl); omega))
theorem sm_bastore {i x : Int32} {a : fm_V} {y : Nat × Nat × Nat} (C : fm_Cx p s m args meth c sts ncs X B b nL aC D cc own) (hd : decode cc pc = .ok (.bastore, 1)) (hy : fm_arr a M.2 = some y) (hk : y.2.1 = 11) (hin : vp_in i y.2.2) (k : fm_WW p l e R s m args below meth c B b nL wd aC D M0 Q (pc + 1, lo, st, ((fm_uI M.1.1 y.1 i.toNatClampNeg (fm_nb x), M.1.2), M.2))) : fm_WW p l e R s m args below meth c B b nL wd aC D M0 Q (pc, lo, .inl (.int x) :: .inl (.int i) :: a :: st, M) := by
  intro H locs ls hl ho hw hS
  obtain ⟨rs, h1, h2, h3⟩ := fm_arrE hw hy ho.tail.tail.hd b
  rw [hk] at h1 h3
  simp only [List.map_cons]
  rw [h2]
  refine fr_zast C.1 C.2.1 C.2.2.2.2.2.1.1 hw.1 (fm_ws_D B aC M) hS y.1 1 h3 rfl hin hd fun H1 locs1 hP1 hz1 hS1 hq1 => ?_
  refine k H1 locs1 ls hl ho.tail.tail.tail (hw.upd (M' := ((fm_uI M.1.1 y.1 i.toNatClampNeg (fm_nb x), M.1.2), M.2)) h1 rfl rfl (fun d hdn => ⟨fm_uI_ne _ _ _ hdn, rfl, rfl⟩) ?_ hz1 hq1) hS1
  have e1 : fm_ent B aC ((fm_uI M.1.1 y.1 i.toNatClampNeg (fm_nb x), M.1.2), M.2).1 y.1 (11, y.2.2, rs) = .inl (aC 1, y.2.2, .inl (upd (M.1.1 y.1) i.toNatClampNeg (vp_nar .boolean x))) := by
    show (Sum.inl (aC 1, y.2.2, Sum.inl (fm_uI M.1.1 y.1 i.toNatClampNeg (fm_nb x) y.1)) : va_E) = _
    rw [fm_uI_self]
    rfl
  rw [e1]
  exact hP1
/-- the words of a field's entry -/
def fm_fl (own : String) (cp ci k : Nat) (args : Array Value) (s : State) : Prop := (Cond.fieldLink own cp (fm_T ci k).1 (fm_T ci k).2.1 (fm_T ci k).2.2.1).before args s = true ∨ ∃ host, (Cond.fieldLinkNest own cp (fm_T ci k).1 (fm_T ci k).2.1 (fm_T ci k).2.2.1 host).before args s = true
theorem sm_getfield {ci k fk cp : Nat} {v w : fm_V} (C : fm_Cx p s m args meth c sts ncs X B b nL aC D cc own) (hd : decode cc pc = .ok (.getfield cp, 3)) (hfk : (fm_fks.getD ci []).getD k 9 = fk) (hci : ci < 7) (hk : k < fm_n ci) (hf : fm_fl own cp ci k args s) (h : fm_getf ci k fk v M = some w) (kk : fm_WW p l e R s m args below meth c B b nL wd aC D M0 Q (pc + 3, lo, w :: st, M)) : fm_WW p l e R s m args below meth c B b nL wd aC D M0 Q (pc, lo, v :: st, M) := by
  intro H locs ls hl ho hw hS
  obtain ⟨cI, fs, h1, h2, h3, h4⟩ := fm_getf_at (b := b) hw ho.hd h hfk hci hk
  have hg := kk H locs ls hl (ho.tail.push h4) hw hS
  simp only [List.map_cons]
  rw [h1]
  rcases hf with hf | ⟨host, hf⟩
  · exact va_get C.1 C.2.1 C.2.2.2.2.1 (fm_in hci) C.2.2.2.1 C.2.2.2.2.2.1.1 hw.1 cI h2 (fm_cls_at hci) k hk hf (fun _ hh => hh) h3 hd hg
  · exact va_getN C.1 C.2.1 C.2.2.2.2.1 (fm_in hci) C.2.2.2.1 C.2.2.2.2.2.1.1 hw.1 cI h2 (fm_cls_at hci) k hk hf (fun _ hh => hh) h3 hd hg
end FMS4
