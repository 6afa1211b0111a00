section FMS13
variable {p : Program} {l : Launch} {e : Env} {R : Room} {s : State} {m : MethodId} {args : Array Value} {below : List Frame} {meth : Method} {c : Code}
variable {sts : fm_St} {ncs : fm_Nc} {X : Nat × (Nat → Int32)} {B b nL : Nat} {wd ini : Bool} {aC : Nat → ClassId} {D : va_G} {M0 : fm_M} {Q : State → Prop} {cc : ByteArray} {own : String} {T : fm_Tb} {cl : List fm_En} {rt : Option FieldType} {mss : List fm_MR}
variable {pc : Nat} {lo : List (Option fm_V)} {st : List fm_V} {M : fm_M} {g : fm_F}
/-- from a call's run to the frame behind -/
theorem sm_called {r : fm_O × fm_M} {as rest : List fm_V} (hge : fm_ge M r.2) (hm1 : fm_cn M0 ≤ fm_cn M) (hm2 : fm_sn M0 ≤ fm_sn M) (hv : ∀ v, r.1 = .inl (some v) → fm_vok r.2.2 v)
    (hrest : ∀ S, fm_ok S lo st → fm_ok S lo rest)
    (run : ∀ (H : Heap) (locs : List Loc) (ls : Array Slot), fm_LH B b nL wd ls lo → fm_ok M.2 lo st → fm_Wd B aC D M H → va_S (fm_A B) s.heap H locs →
      vx_Run p l e R s m args below meth c H locs (fm_cn M - fm_cn M0) (fm_sn M - fm_sn M0) (fm_cn r.2 - fm_cn M) (fm_sn r.2 - fm_sn M) (F0 m pc ls (st.map (fm_ren B b))) (rest.map (fm_ren B b)) (fm_Qc B b aC D r (as.map (fm_ren B b)).toArray) (fm_XC B aC D r) (fm_A B))
    (kk : ∀ v, r.1 = .inl v → fm_WW p l e R s m args below meth c B b nL wd aC D M0 Q (fm_push v (pc + 3, lo, rest, M) r.2))
    (kx : ∀ x, r.1 = .inr x → ∀ (H : Heap) (locs : List Loc) (ls : Array Slot) (q9 : Addr) (ce : Cell), fm_LH B b nL wd ls lo → fm_ok r.2.2 lo rest → fm_Wd B aC D r.2 H → va_S (fm_A B) s.heap H locs → H[q9]? = some ce → ce.vm = .none → s.vm.findClass (fm_ex x) = some ce.cls →
      vx_W p l e R s m args below meth c H locs (fm_cn r.2 - fm_cn M0) (fm_sn r.2 - fm_sn M0) Q (F0 m pc ls (rest.map (fm_ren B b))) q9) :
    fm_WW p l e R s m args below meth c B b nL wd aC D M0 Q (pc, lo, st, M) := by
  intro H locs ls hl ho hw hS
  have e1 : fm_cn M - fm_cn M0 + (fm_cn r.2 - fm_cn M) = fm_cn r.2 - fm_cn M0 := by have := hge.2.1; omega
  have e2 : fm_sn M - fm_sn M0 + (fm_sn r.2 - fm_sn M) = fm_sn r.2 - fm_sn M0 := by have := hge.2.2; omega
  refine fm_after (run H locs ls hl ho hw hS) hS (fun v hvv H1 locs1 hw1 hS1 => ?_) (fun x hx H1 locs1 q9 ce hw1 hS1 h1 h2 h3 => ?_)
  · rw [e1, e2]
    have hg := kk v hvv H1 locs1 ls
    unfold fm_push at hg
    cases v with
    | none => exact hg hl ((hrest _ ho).mono hge.1) hw1 hS1
    | some w => exact hg hl (((hrest _ ho).mono hge.1).push (hv w hvv)) hw1 hS1
  · rw [e1, e2]
    exact kx x hx H1 locs1 ls q9 ce hl ((hrest _ ho).mono hge.1) hw1 hS1 h1 h2 h3
theorem sm_wsum {rest : List fm_V} {ls : Array Slot} {st0 : List Value} (h : fm_csum rest ≤ 8) : 2 * (F0 m pc ls st0).monitorRoom + ((rest.map (fm_ren B b)).map fun v => v.category).sum ≤ 8 := by
  rw [fm_csum_ren]
  have h0 : (F0 m pc ls st0).monitorRoom = 0 := rfl
  rw [h0]
  omega
set_option maxHeartbeats 4000000 in
/-- a call -/
theorem sm_call {ins : Instr} {len : Nat} {ann : List Nat} {mj rk : Nat} {as : List fm_V} {r : fm_O × fm_M} (C : fm_Cx p s m args meth c sts ncs X B b nL aC D cc own) (hCl : fm_CallOk T mss) (hd : decode cc pc = .ok (ins, len)) (hck : fm_ck T cl own wd ini rt (pc, ins, len, ann) = true) (hck2 : fm_ck2 mss R.frames R.locals (pc, ins, len, ann) = true)
    (h : fm_step X (pc, ins, len, ann) lo st M = fm_ca mj rk as g) (hrec : ∀ rec, mss[mj]? = some rec → 0 < mj → as.length ≤ rec.2.2.1 → (∀ v ∈ as, fm_cat v = 1) → fm_Ct l sts ncs X B b aC D rec as M r) (hge : fm_ge M r.2) (hv : ∀ v, r.1 = .inl (some v) → fm_vok r.2.2 v) (hc : fm_cn r.2 - fm_cn M0 ≤ R.cells) (hs : fm_sn r.2 - fm_sn M0 ≤ R.slots) (hm1 : fm_cn M0 ≤ fm_cn M) (hm2 : fm_sn M0 ≤ fm_sn M)
    (kk : ∀ v, r.1 = .inl v → fm_WW p l e R s m args below meth c B b nL wd aC D M0 Q (fm_push v g r.2))
    (kx : ∀ x, r.1 = .inr x → ∀ (H : Heap) (locs : List Loc) (ls : Array Slot) (q9 : Addr) (ce : Cell), fm_LH B b nL wd ls lo → fm_ok r.2.2 lo g.2.2.1 → fm_Wd B aC D r.2 H → va_S (fm_A B) s.heap H locs → H[q9]? = some ce → ce.vm = .none → s.vm.findClass (fm_ex x) = some ce.cls →
      vx_W p l e R s m args below meth c H locs (fm_cn r.2 - fm_cn M0) (fm_sn r.2 - fm_sn M0) Q (F0 m pc ls (g.2.2.1.map (fm_ren B b))) q9) :
    fm_WW p l e R s m args below meth c B b nL wd aC D M0 Q (pc, lo, st, M) := by
  have hcc : fm_cn M - fm_cn M0 + (fm_cn r.2 - fm_cn M) ≤ R.cells := by have := hge.2.1; omega
  have hss : fm_sn M - fm_sn M0 + (fm_sn r.2 - fm_sn M) ≤ R.slots := by have := hge.2.2; omega
  unfold fm_ck at hck
  simp only [Bool.and_eq_true] at hck
  obtain ⟨hlen, hck⟩ := hck
  have hlen := Nat.eq_of_beq_eq_true hlen
  cases ins with
  | invokevirtual cp =>
    have hl1 : len = 3 := hlen
    subst hl1
    dsimp only [fm_step] at h
    split at h
    · rename_i mj0 rk0 n j ci
      unfold fm_callv at h
      split at h
      · rename_i q hq
        cases hb : (Nat.ble (fm_csum q.2) 8 && q.1.all (fun v => Nat.beq (fm_cat v) 1) && fm_rcv ci q.1 M.2)
        · rw [hb, cond_false] at h; cases h
        · rw [hb, cond_true] at h
          cases h
          simp only [Bool.and_eq_true] at hb
          obtain ⟨⟨b1, b2⟩, b3⟩ := hb
          obtain ⟨tk, t1, t2, t3⟩ := fm_pop_inv n st [] q hq
          rw [List.append_nil] at t2
          dsimp only [fm_ck2] at hck2
          simp only [Bool.and_eq_true] at hck2
          obtain ⟨hmj, hck2⟩ := hck2
          split at hck2
          · rename_i rec hrc
            simp only [Bool.and_eq_true] at hck2
            obtain ⟨⟨⟨⟨⟨c1, c2⟩, c3⟩, c4⟩, c5⟩, c6⟩ := hck2
            have c1 := Nat.eq_of_beq_eq_true c1
            have c2 : n ≤ rec.2.2.1 := by simpa using c2
            have c3 : ci < 7 := by simpa using c3
            have c4 := of_decide_eq_true c4
            have c5 : rec.2.2.2.2.2.2.1 + 1 ≤ R.frames := by simpa using c5
            have c6 : 8 + (rec.2.2.1 + 11) + rec.2.2.2.2.2.2.2.1 ≤ R.locals := by simpa using c6
            have hlenA : q.1.length = n := by rw [t2, List.length_reverse]; exact t3
            have hcat : ∀ v ∈ q.1, fm_cat v = 1 := fun v hv => Nat.eq_of_beq_eq_true (List.all_eq_true.mp b2 v hv)
            have hct := hrec rec hrc (by simpa using hmj) (by rw [hlenA]; exact c2) hcat
            dsimp only at hck
            split at hck
            · rename_i q5 hq5
              simp only [Bool.and_eq_true] at hck
              obtain ⟨⟨⟨k1, k2⟩, k3⟩, k4⟩ := hck
              have k1 := of_decide_eq_true k1
              have k2 := Nat.eq_of_beq_eq_true k2
              have k3 := Nat.eq_of_beq_eq_true k3
              have k4 := Nat.eq_of_beq_eq_true k4
              obtain ⟨w1, w2, w3, w4, w5⟩ := hCl q5 (List.mem_of_getElem? hq5) rec (by rw [k3]; exact hrc)
              rw [k4] at w5
              obtain ⟨w5, w6, w7⟩ := w5
              obtain ⟨v0, as0, hqa⟩ : ∃ v0 as0, q.1 = v0 :: as0 := by
                cases hq1 : q.1 with
                | nil => rw [hq1] at hlenA; simp at hlenA; omega
                | cons v0 as0 => exact ⟨v0, as0, rfl⟩
              have hlen0 : as0.length = rec.2.2.2.2.2.1 := by rw [hqa] at hlenA; simp at hlenA; omega
              have hst : st = as0.reverse ++ v0 :: q.2 := by
                have : tk = q.1.reverse := by rw [t2, List.reverse_reverse]
                rw [t1, this, hqa]
                simp
              refine sm_called (as := q.1) (rest := q.2) hge hm1 hm2 hv (fun S ho => ⟨ho.1, fun v hv => ho.2 v (by rw [t1]; exact List.mem_append_right _ hv)⟩) (fun H locs ls hl ho hw hS => ?_) kk kx
              have hvas : ∀ v ∈ q.1, fm_vok M.2 v := fun v hv => ho.2 v (by rw [t1]; refine List.mem_append_left _ ?_; rw [t2] at hv; exact List.mem_reverse.mp hv)
              have hpre := fm_pre C hw hS hvas
              have hrcv := b3
              rw [hqa] at hrcv hpre
              obtain ⟨a0, ha0, hcell⟩ := fm_rcv_at C hw (hvas v0 (by rw [hqa]; exact List.mem_cons_self)) c3 hrcv
              rw [c4] at hcell
              simp only [List.map_cons] at hpre
              rw [ha0] at hpre
              have hgoal : (F0 m pc ls (st.map (fm_ren B b))).stack = (as0.map (fm_ren B b)).reverse ++ .ref a0 :: q.2.map (fm_ren B b) := by
                show st.map (fm_ren B b) = _
                rw [hst]
                simp [ha0]
              rw [hqa]
              simp only [List.map_cons]
              rw [ha0]
              rw [hqa] at hct
              have hct' : vx_Met l rec.1 (fm_w rec) (fm_rm rec (fm_cn r.2 - fm_cn M) (fm_sn r.2 - fm_sn M)) (fm_Pc sts ncs X B b aC D (v0 :: as0) M) (fm_Qc B b aC D r) (fm_XC B aC D r) (fm_cn r.2 - fm_cn M) (fm_sn r.2 - fm_sn M) (fm_A B) := hct
              have hS5 : CallFix p m c cc nL s args fm_TG own := ⟨C.1, C.2.1, C.2.2.1, C.2.2.2.1, C.2.2.2.2.1⟩
              cases hh5 : q5.2.2.2.2 with
              | none =>
                rw [hh5] at w4
                dsimp only at w4
                rw [k1, k2] at w4
                exact vx_runV (C := rec.1.cls) (n := rec.2.2.2.2.2.1) hS5 hct' ⟨callB_of _ C.2.2.2.2.1 (fm_w_good w1) (fm_w_code w7) rfl rfl (fm_word C w2 rfl) (fm_word C w4 rfl) w3 ⟨c5, c6⟩, fm_word C w5 rfl, fm_word C w6 rfl⟩ ⟨fm_Pc_blind, hcell, hpre⟩ rfl (by simpa using hlen0) hl.1 hgoal (sm_wsum (by simpa using b1)) hd ⟨hcc, hss⟩
              | some hst5 =>
                rw [hh5] at w4
                dsimp only at w4
                rw [k1, k2] at w4
                exact fx_runVN (C := rec.1.cls) (n := rec.2.2.2.2.2.1) hS5 hct' ⟨va_cnB _ C.2.2.2.2.1 (fm_w_good w1) (fm_w_code w7) rfl rfl (C.2.2.2.2.2.1.2.1 _ w4 rfl) (fm_word C w2 rfl) w3 ⟨c5, c6⟩, fm_word C w5 rfl, fm_word C w6 rfl⟩ ⟨fm_Pc_blind, hcell, hpre⟩ rfl (by simpa using hlen0) hl.1 hgoal (sm_wsum (by simpa using b1)) hd ⟨hcc, hss⟩
            · cases hck
          · cases hck2
      · cases h
    · cases h
  | invokestatic cp =>
    have hl1 : len = 3 := hlen
    subst hl1
    dsimp only [fm_step] at h
    split at h
    · rename_i mj0 rk0 n j
      unfold fm_callr at h
      split at h
      · rename_i q hq
        cases hb : (Nat.ble (fm_csum q.2) 8 && q.1.all (fun v => Nat.beq (fm_cat v) 1))
        · rw [hb, cond_false] at h; cases h
        · rw [hb, cond_true] at h
          cases h
          simp only [Bool.and_eq_true] at hb
          obtain ⟨b1, b2⟩ := hb
          obtain ⟨tk, t1, t2, t3⟩ := fm_pop_inv n st [] q hq
          rw [List.append_nil] at t2
          dsimp only [fm_ck2] at hck2
          simp only [Bool.and_eq_true] at hck2
          obtain ⟨hmj, hck2⟩ := hck2
          split at hck2
          · rename_i rec hrc
            simp only [Bool.and_eq_true] at hck2
            obtain ⟨⟨⟨c1, c2⟩, c5⟩, c6⟩ := hck2
            have c1 := Nat.eq_of_beq_eq_true c1
            have c2 : n ≤ rec.2.2.1 := by simpa using c2
            have c5 : rec.2.2.2.2.2.2.1 + 1 ≤ R.frames := by simpa using c5
            have c6 : 8 + (rec.2.2.1 + 11) + rec.2.2.2.2.2.2.2.1 ≤ R.locals := by simpa using c6
            have hlenA : q.1.length = n := by rw [t2, List.length_reverse]; exact t3
            have hcat : ∀ v ∈ q.1, fm_cat v = 1 := fun v hv => Nat.eq_of_beq_eq_true (List.all_eq_true.mp b2 v hv)
            have hct : vx_Met l rec.1 (fm_w rec) (fm_rm rec (fm_cn r.2 - fm_cn M) (fm_sn r.2 - fm_sn M)) (fm_Pc sts ncs X B b aC D q.1 M) (fm_Qc B b aC D r) (fm_XC B aC D r) (fm_cn r.2 - fm_cn M) (fm_sn r.2 - fm_sn M) (fm_A B) := hrec rec hrc (by simpa using hmj) (by rw [hlenA]; exact c2) hcat
            dsimp only at hck
            split at hck
            · rename_i q5 hq5
              simp only [Bool.and_eq_true] at hck
              obtain ⟨⟨⟨k1, k2⟩, k3⟩, k4⟩ := hck
              have k1 := of_decide_eq_true k1
              have k2 := Nat.eq_of_beq_eq_true k2
              have k3 := Nat.eq_of_beq_eq_true k3
              have k4 := Nat.eq_of_beq_eq_true k4
              obtain ⟨w1, w2, w3, w4, w5⟩ := hCl q5 (List.mem_of_getElem? hq5) rec (by rw [k3]; exact hrc)
              rw [k4] at w5
              obtain ⟨w5, w7⟩ := w5
              have hst : st = q.1.reverse ++ q.2 := by
                have : tk = q.1.reverse := by rw [t2, List.reverse_reverse]
                rw [t1, this]
              refine sm_called (as := q.1) (rest := q.2) hge hm1 hm2 hv (fun S ho => ⟨ho.1, fun v hv => ho.2 v (by rw [t1]; exact List.mem_append_right _ hv)⟩) (fun H locs ls hl ho hw hS => ?_) kk kx
              have hvas : ∀ v ∈ q.1, fm_vok M.2 v := fun v hv => ho.2 v (by rw [t1]; refine List.mem_append_left _ ?_; rw [t2] at hv; exact List.mem_reverse.mp hv)
              have hpre := fm_pre C hw hS hvas
              have hgoal : (F0 m pc ls (st.map (fm_ren B b))).stack = (q.1.map (fm_ren B b)).reverse ++ q.2.map (fm_ren B b) := by
                show st.map (fm_ren B b) = _
                rw [hst]
                simp
              have hn : (q.1.map (fm_ren B b)).length = rec.2.2.2.2.2.1 := by rw [List.length_map, hlenA]; exact c1.symm
              have hS5 : CallFix p m c cc nL s args fm_TG own := ⟨C.1, C.2.1, C.2.2.1, C.2.2.2.1, C.2.2.2.2.1⟩
              cases hh5 : q5.2.2.2.2 with
              | none =>
                rw [hh5] at w4
                dsimp only at w4
                rw [k1, k2] at w4
                cases hhh : rec.2.2.2.2.1 with
                | nil => exact vx_runS (n := rec.2.2.2.2.2.1) hS5 hct ⟨callB_of _ C.2.2.2.2.1 (fm_w_good w1) (fm_w_code hhh) rfl rfl (fm_word C w2 rfl) (fm_word C w4 rfl) w3 ⟨c5, c6⟩, fm_word C w5 rfl⟩ ⟨fm_Pc_blind, hpre⟩ rfl hn hl.1 hgoal (sm_wsum (by simpa using b1)) hd ⟨hcc, hss⟩
                | cons h0 t0 =>
                  have hwc : fm_w rec = Cond.codeWith rec.1 rec.2.1 rec.2.2.1 rec.2.2.2.1 (h0 :: t0) :: fm_TG := by
                    unfold fm_w fm_cw
                    rw [hhh]
                  have hwc1 : Cond.codeWith rec.1 rec.2.1 rec.2.2.1 rec.2.2.2.1 (h0 :: t0) ∈ fm_w rec := by rw [hwc]; exact List.mem_cons_self
                  have hgood := fm_w_good w1
                  refine vx_runSX (n := rec.2.2.2.2.2.1) (hh := h0 :: t0) hS5 hct ⟨⟨rfl, rfl, c5, c6, pay_in C.2.2.2.2.1 hgood, hwc1⟩, C.2.2.2.2.1 _ (hgood _ hwc1).1, fm_word C w2 rfl, ⟨w3.1, w3.2.1⟩, fun sig hsig => ?_, fm_word C w4 rfl, fm_word C w5 rfl⟩ ⟨fm_Pc_blind, hpre⟩ rfl hn hl.1 hgoal (sm_wsum (by simpa using b1)) hd ⟨hcc, hss⟩
                  have h2 := w3.2.2
                  rw [hsig] at h2
                  exact (Option.some.inj h2).symm
              | some hst5 =>
                rw [hh5] at w4
                dsimp only at w4
                rw [k1, k2] at w4
                have hhh : rec.2.2.2.2.1 = [] := w7.elim id (fun z => by rw [hh5] at z; cases z)
                exact fx_runSN (n := rec.2.2.2.2.2.1) hS5 hct ⟨va_cnB _ C.2.2.2.2.1 (fm_w_good w1) (fm_w_code hhh) rfl rfl (C.2.2.2.2.2.1.2.1 _ w4 rfl) (fm_word C w2 rfl) w3 ⟨c5, c6⟩, fm_word C w5 rfl⟩ ⟨fm_Pc_blind, hpre⟩ rfl hn hl.1 hgoal (sm_wsum (by simpa using b1)) hd ⟨hcc, hss⟩
            · cases hck
          · cases hck2
      · cases h
    · cases h
  | invokespecial cp =>
    have hl1 : len = 3 := hlen
    subst hl1
    dsimp only [fm_step] at h
    split at h
    · rename_i mj0 rk0 n j
      unfold fm_calls at h
      split at h
      · rename_i q hq
        cases hb : (Nat.ble (fm_csum q.2) 8 && q.1.all (fun v => Nat.beq (fm_cat v) 1) && fm_isA q.1.head?)
        · rw [hb, cond_false] at h; cases h
        · rw [hb, cond_true] at h
          cases h
          simp only [Bool.and_eq_true] at hb
          obtain ⟨⟨b1, b2⟩, b3⟩ := hb
          obtain ⟨tk, t1, t2, t3⟩ := fm_pop_inv n st [] q hq
          rw [List.append_nil] at t2
          dsimp only [fm_ck2] at hck2
          simp only [Bool.and_eq_true] at hck2
          obtain ⟨hmj, hck2⟩ := hck2
          split at hck2
          · rename_i rec hrc
            simp only [Bool.and_eq_true] at hck2
            obtain ⟨⟨⟨c1, c2⟩, c5⟩, c6⟩ := hck2
            have c1 := Nat.eq_of_beq_eq_true c1
            have c2 : n ≤ rec.2.2.1 := by simpa using c2
            have c5 : rec.2.2.2.2.2.2.1 + 1 ≤ R.frames := by simpa using c5
            have c6 : 8 + (rec.2.2.1 + 11) + rec.2.2.2.2.2.2.2.1 ≤ R.locals := by simpa using c6
            have hlenA : q.1.length = n := by rw [t2, List.length_reverse]; exact t3
            have hcat : ∀ v ∈ q.1, fm_cat v = 1 := fun v hv => Nat.eq_of_beq_eq_true (List.all_eq_true.mp b2 v hv)
            have hct := hrec rec hrc (by simpa using hmj) (by rw [hlenA]; exact c2) hcat
            dsimp only at hck
            split at hck
            · rename_i q5 hq5
              simp only [Bool.and_eq_true] at hck
              obtain ⟨⟨⟨k1, k2⟩, k3⟩, k4⟩ := hck
              have k1 := of_decide_eq_true k1
              have k2 := Nat.eq_of_beq_eq_true k2
              have k3 := Nat.eq_of_beq_eq_true k3
              have k4 := Nat.eq_of_beq_eq_true k4
              obtain ⟨w1, w2, w3, w4, w5⟩ := hCl q5 (List.mem_of_getElem? hq5) rec (by rw [k3]; exact hrc)
              rw [k4] at w5
              obtain ⟨w6, w5, w7, w8⟩ := w5
              obtain ⟨v0, as0, hqa⟩ : ∃ v0 as0, q.1 = v0 :: as0 := by
                cases hq1 : q.1 with
                | nil => rw [hq1] at hlenA; simp at hlenA; omega
                | cons v0 as0 => exact ⟨v0, as0, rfl⟩
              have hlen0 : as0.length = rec.2.2.2.2.2.1 := by rw [hqa] at hlenA; simp at hlenA; omega
              have hst : st = as0.reverse ++ v0 :: q.2 := by
                have : tk = q.1.reverse := by rw [t2, List.reverse_reverse]
                rw [t1, this, hqa]
                simp
              have hisA : fm_isA (some v0) = true := by rw [hqa] at b3; exact b3
              obtain ⟨-, a0, ha0⟩ := sm_isA (B := B) (b := b) hisA
              refine sm_called (as := q.1) (rest := q.2) hge hm1 hm2 hv (fun S ho => ⟨ho.1, fun v hv => ho.2 v (by rw [t1]; exact List.mem_append_right _ hv)⟩) (fun H locs ls hl ho hw hS => ?_) kk kx
              have hvas : ∀ v ∈ q.1, fm_vok M.2 v := fun v hv => ho.2 v (by rw [t1]; refine List.mem_append_left _ ?_; rw [t2] at hv; exact List.mem_reverse.mp hv)
              have hpre := fm_pre C hw hS hvas
              rw [hqa] at hpre
              simp only [List.map_cons] at hpre
              rw [ha0] at hpre
              have hgoal : (F0 m pc ls (st.map (fm_ren B b))).stack = (as0.map (fm_ren B b)).reverse ++ .ref a0 :: q.2.map (fm_ren B b) := by
                show st.map (fm_ren B b) = _
                rw [hst]
                simp [ha0]
              rw [hqa]
              simp only [List.map_cons]
              rw [ha0]
              rw [hqa] at hct
              have hct' : vx_Met l rec.1 (fm_w rec) (fm_rm rec (fm_cn r.2 - fm_cn M) (fm_sn r.2 - fm_sn M)) (fm_Pc sts ncs X B b aC D (v0 :: as0) M) (fm_Qc B b aC D r) (fm_XC B aC D r) (fm_cn r.2 - fm_cn M) (fm_sn r.2 - fm_sn M) (fm_A B) := hct
              have hS5 : CallFix p m c cc nL s args fm_TG own := ⟨C.1, C.2.1, C.2.2.1, C.2.2.2.1, C.2.2.2.2.1⟩
              have hwc := fm_w_code w7
              rw [w8] at hwc
              cases hh5 : q5.2.2.2.2 with
              | none =>
                rw [hh5] at w4
                dsimp only at w4
                rw [k1, k2] at w4
                exact fx_runI (n := rec.2.2.2.2.2.1) hS5 hct' ⟨callB_of _ C.2.2.2.2.1 (fm_w_good w1) hwc rfl rfl (fm_word C w2 rfl) (fm_word C w4 rfl) w3 ⟨c5, c6⟩, w6, fm_word C w5 rfl⟩ ⟨fm_Pc_blind, hpre⟩ rfl (by simpa using hlen0) hl.1 hgoal (sm_wsum (by simpa using b1)) hd ⟨hcc, hss⟩
              | some hst5 =>
                rw [hh5] at w4
                dsimp only at w4
                rw [k1, k2] at w4
                exact fx_runIN (n := rec.2.2.2.2.2.1) hS5 hct' ⟨va_cnB _ C.2.2.2.2.1 (fm_w_good w1) hwc rfl rfl (C.2.2.2.2.2.1.2.1 _ w4 rfl) (fm_word C w2 rfl) w3 ⟨c5, c6⟩, w6, fm_word C w5 rfl⟩ ⟨fm_Pc_blind, hpre⟩ rfl (by simpa using hlen0) hl.1 hgoal (sm_wsum (by simpa using b1)) hd ⟨hcc, hss⟩
            · cases hck
          · cases hck2
      · cases h
    · rename_i j
      split at h
      · rename_i c0 r0
        cases hb : Nat.ble (fm_csum r0) 8
        · rw [hb, cond_false] at h; cases h
        · rw [hb, cond_true] at h; cases h
      · cases h
    · cases h
  | ifCond cd off =>
    exfalso
    dsimp only [fm_step] at h
    split at h
    · cases cd <;> (unfold fm_if at h; simp only at h; (repeat' (split at h)) <;> cases h)
    · cases h
  | if_icmp cd off =>
    exfalso
    dsimp only [fm_step] at h
    split at h
    · cases cd <;> (unfold fm_icmp at h; simp only at h; (repeat' (split at h)) <;> cases h)
    · cases h
  | _ =>
    exfalso
    first
      | exact absurd (show (fm_no : fm_R) = fm_ca mj rk as g from h) (fun h9 => nomatch h9)
      | ((simp only [fm_step, fm_ald, fm_load, fm_st, fm_bin, fm_un, Bool.cond_eq_ite] at h) <;> (repeat' (split at h)) <;> (cases h))
end FMS13
