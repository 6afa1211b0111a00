/-! the walk of a frame, and every method's contract -/
/-- what is checked of a method, once and for all -/
def fm_dck (cc : ByteArray) (x : fm_En) : Bool := match decode cc x.1 with
  | .ok q => decide (q = (x.2.1, x.2.2.1))
  | _ => false
theorem fm_dck_ok {cc : ByteArray} {x : fm_En} (h : fm_dck cc x = true) : decode cc x.1 = .ok (x.2.1, x.2.2.1) := by
  unfold fm_dck at h
  split at h
  · rename_i q hq
    rw [hq, of_decide_eq_true h]
  · cases h
def fm_thr (x : fm_En) : Bool := match x.2.1, x.2.2.2 with
  | .new _, [1, _, _] => true
  | _, _ => false
def fm_mck (T : fm_Tb) (ms : List fm_MR) (cl : List fm_En) (hs : List fm_H) (nL : Nat) (rec : fm_MR) : Bool :=
  cl.all (fun x => fm_dck rec.2.1 x && fm_ck T cl rec.1.cls rec.2.2.2.2.2.2.2.2 (decide (rec.1.name = "<init>")) rec.2.2.2.1 x && fm_ck2 ms rec.2.2.2.2.2.2.1 rec.2.2.2.2.2.2.2.1 x) &&
  fm_hck rec.1.cls rec.2.2.2.2.1 hs && hs.all (fun h => fm_hst cl h && Nat.blt h.2.2.2.2.2 rec.2.2.1) && (hs.isEmpty || (!rec.2.2.2.2.2.2.2.2 && cl.all (fun x => !fm_thr x))) && plainFor rec.1 && Nat.beq nL rec.2.2.1
def fm_All (T : fm_Tb) (ms : List fm_MR) (P : fm_Pr) : Prop := ∀ mi rec, ms[mi]? = some rec → fm_mck T ms (P.1 mi) (P.2.1 mi) (P.2.2.1 mi) rec = true
theorem fm_mck_out {T : fm_Tb} {ms : List fm_MR} {cl : List fm_En} {hs : List fm_H} {nL : Nat} {rec : fm_MR} (h : fm_mck T ms cl hs nL rec = true) : (∀ x ∈ cl, decode rec.2.1 x.1 = .ok (x.2.1, x.2.2.1) ∧ fm_ck T cl rec.1.cls rec.2.2.2.2.2.2.2.2 (decide (rec.1.name = "<init>")) rec.2.2.2.1 x = true ∧ fm_ck2 ms rec.2.2.2.2.2.2.1 rec.2.2.2.2.2.2.2.1 x = true) ∧
    fm_hck rec.1.cls rec.2.2.2.2.1 hs = true ∧ (∀ h ∈ hs, fm_hst cl h = true ∧ h.2.2.2.2.2 < rec.2.2.1) ∧ (hs = [] ∨ (rec.2.2.2.2.2.2.2.2 = false ∧ ∀ x ∈ cl, fm_thr x = false)) ∧ plainFor rec.1 = true ∧ nL = rec.2.2.1 := by
  unfold fm_mck at h
  simp only [Bool.and_eq_true] at h
  obtain ⟨⟨⟨⟨⟨h1, h2⟩, h3⟩, h4⟩, h5⟩, h6⟩ := h
  refine ⟨fun x hx => ?_, h2, fun q hq => ?_, ?_, h5, Nat.eq_of_beq_eq_true h6⟩
  · have := List.all_eq_true.mp h1 x hx
    simp only [Bool.and_eq_true] at this
    exact ⟨fm_dck_ok this.1.1, this.1.2, this.2⟩
  · have := List.all_eq_true.mp h3 q hq
    simp only [Bool.and_eq_true] at this
    exact ⟨this.1, by simpa using this.2⟩
  · rcases Bool.or_eq_true_iff.mp h4 with h4 | h4
    · exact Or.inl (List.isEmpty_iff.mp h4)
    · simp only [Bool.and_eq_true] at h4
      refine Or.inr ⟨by simpa using h4.1, fun x hx => ?_⟩
      have := List.all_eq_true.mp h4.2 x hx
      simpa using this
theorem fm_ca_rec {ms : List fm_MR} {fr lc : Nat} {X : Nat × (Nat → Int32)} {pc len : Nat} {ins : Instr} {ann : List Nat} {lo : List (Option fm_V)} {st : List fm_V} {M : fm_M} {mj rk : Nat} {as : List fm_V} {g : fm_F} (hck2 : fm_ck2 ms fr lc (pc, ins, len, ann) = true) (h : fm_step X (pc, ins, len, ann) lo st M = fm_ca mj rk as g) : ∃ rec, ms[mj]? = some rec ∧ 0 < mj := by
  cases ins with
  | invokevirtual cp =>
    dsimp only [fm_step] at h
    split at h
    · rename_i n j ci
      unfold fm_callv at h
      split at h
      · rename_i q hq
        cases hb : (Nat.ble (fm_csum q.2) 8 && q.1.all (fun v => Nat.beq (fm_cat v) 1) && fm_rcv ci q.1 M.2)
        · rw [hb, cond_false] at h; cases h
        · rw [hb, cond_true] at h
          cases h
          dsimp only [fm_ck2] at hck2
          simp only [Bool.and_eq_true] at hck2
          obtain ⟨hmj, hck2⟩ := hck2
          split at hck2
          · rename_i rec hrc
            exact ⟨rec, hrc, by simpa using hmj⟩
          · cases hck2
      · cases h
    · cases h
  | invokestatic cp =>
    dsimp only [fm_step] at h
    split at h
    · rename_i n j
      unfold fm_callr at h
      split at h
      · rename_i q hq
        cases hb : (Nat.ble (fm_csum q.2) 8 && q.1.all (fun v => Nat.beq (fm_cat v) 1))
        · rw [hb, cond_false] at h; cases h
        · rw [hb, cond_true] at h
          cases h
          dsimp only [fm_ck2] at hck2
          simp only [Bool.and_eq_true] at hck2
          obtain ⟨hmj, hck2⟩ := hck2
          split at hck2
          · rename_i rec hrc
            exact ⟨rec, hrc, by simpa using hmj⟩
          · cases hck2
      · cases h
    · cases h
  | invokespecial cp =>
    dsimp only [fm_step] at h
    split at h
    · rename_i n j
      unfold fm_calls at h
      split at h
      · rename_i q hq
        cases hb : (Nat.ble (fm_csum q.2) 8 && q.1.all (fun v => Nat.beq (fm_cat v) 1) && fm_isA q.1.head?)
        · rw [hb, cond_false] at h; cases h
        · rw [hb, cond_true] at h
          cases h
          dsimp only [fm_ck2] at hck2
          simp only [Bool.and_eq_true] at hck2
          obtain ⟨hmj, hck2⟩ := hck2
          split at hck2
          · rename_i rec hrc
            exact ⟨rec, hrc, by simpa using hmj⟩
          · cases hck2
      · cases h
    · split at h
      · rename_i c0 r0
        cases hb : Nat.ble (fm_csum r0) 8
        · rw [hb, cond_false] at h; cases h
        · rw [hb, cond_true] at h; cases h
      · cases h
    · cases h
  | ifCond cd off =>
    exfalso
    dsimp only [fm_step] at h
    split at h
    · cases cd <;> (unfold fm_if at h; simp only at h; (repeat' (split at h)) <;> cases h)
    · cases h
  | if_icmp cd off =>
    exfalso
    dsimp only [fm_step] at h
    split at h
    · cases cd <;> (unfold fm_icmp at h; simp only at h; (repeat' (split at h)) <;> cases h)
    · cases h
  | _ =>
    exfalso
    first
      | exact absurd (show (fm_no : fm_R) = fm_ca mj rk as g from h) (fun h9 => nomatch h9)
      | ((simp only [fm_step, fm_ald, fm_load, fm_st, fm_bin, fm_un, Bool.cond_eq_ite] at h) <;> (repeat' (split at h)) <;> (cases h))
/-- how a run ends -/
def fm_nr (o : fm_O) : Prop := (∃ w : Option Value, o = .inl (w.map Sum.inl)) ∨ ∃ x, x < 4 ∧ o = .inr x
theorem fm_run_nice {P : fm_Pr} {T : fm_Tb} {ms : List fm_MR} (hAll : fm_All T ms P) : ∀ (n mi : Nat) (f : fm_F) (r : fm_O × fm_M) (rec : fm_MR), ms[mi]? = some rec → fm_run P n mi f = some r → fm_nr r.1 := by
  intro n
  induction n with
  | zero => intro mi f r rec _ h; cases h
  | succ n ih =>
    intro mi f r rec hm h
    have hM := (fm_mck_out (hAll mi rec hm)).1
    obtain ⟨pc, lo, st, M⟩ := f
    rw [fm_run] at h
    split at h
    · cases h
    · rename_i e he
      obtain ⟨he1, he2⟩ := fm_fetch_in he
      obtain ⟨pc', ins, len, ann⟩ := e
      obtain ⟨-, hck, hck2⟩ := hM _ he1
      generalize hst : fm_step P.2.2.2 (pc', ins, len, ann) lo st M = R0 at h
      rcases R0 with g | ⟨q, g⟩ | ⟨q, g, g2⟩ | ⟨mj, rk, as, g⟩ | ⟨o, M'⟩ | ⟨x, sl, d⟩ | ⟨q, o, M'⟩ | _
      · exact ih mi g r rec hm h
      · dsimp only at h
        by_cases hq : q.1
        · rw [if_pos hq] at h; exact ih mi g r rec hm h
        · rw [if_neg hq] at h; cases h
      · dsimp only at h
        by_cases hq : q.1
        · rw [if_pos hq] at h; exact ih mi g r rec hm h
        · rw [if_neg hq] at h; exact ih mi g2 r rec hm h
      · dsimp only at h
        obtain ⟨rec', hrc', h0⟩ := fm_ca_rec hck2 hst
        split at h
        · cases h
        · exact ih mi _ r rec hm h
        · rename_i x M1 hrun
          have hn := ih mj _ _ rec' hrc' hrun
          split at h
          · exact ih mi _ r rec hm h
          · cases h
            exact hn
      · dsimp only at h
        cases h
        rcases fm_step_dn hck (Or.inl hst) with ⟨w, hw⟩ | ⟨x, cp, j, h1, h2, -⟩
        · exact Or.inl ⟨w, hw⟩
        · exact Or.inr ⟨x, h1, h2⟩
      · exact ih mi _ r rec hm h
      · dsimp only at h
        by_cases hq : q.1
        · rw [if_pos hq] at h
          cases h
          rcases fm_step_dn hck (Or.inr ⟨q, hst⟩) with ⟨w, hw⟩ | ⟨x, cp, j, h1, h2, -⟩
          · exact Or.inl ⟨w, hw⟩
          · exact Or.inr ⟨x, h1, h2⟩
        · rw [if_neg hq] at h; cases h
      · cases h
/-- every method's contract, for runs of at most N steps -/
def fm_AA (l : Launch) (sts : fm_St) (ncs : fm_Nc) (X : Nat × (Nat → Int32)) (B b : Nat) (aC : Nat → ClassId) (D : va_G) (P : fm_Pr) (ms : List fm_MR) (N : Nat) : Prop := ∀ mj rec as M r, ms[mj]? = some rec → 0 < mj → as.length ≤ rec.2.2.1 → (∀ v ∈ as, fm_cat v = 1) → fm_run P N mj (fm_entry (P.2.2.1 mj) as M) = some r → fm_Ct l sts ncs X B b aC D rec as M r
section FMS15
variable {p : Program} {l : Launch} {e : Env} {R : Room} {s : State} {m : MethodId} {args : Array Value} {below : List Frame} {meth : Method} {c : Code}
variable {sts : fm_St} {ncs : fm_Nc} {X : Nat × (Nat → Int32)} {B b nL : Nat} {aC : Nat → ClassId} {D : va_G} {M0 : fm_M} {Q : State → Prop} {T : fm_Tb} {mss : List fm_MR} {P : fm_Pr}
set_option maxHeartbeats 4000000 in
theorem fm_walk {mi N : Nat} {rec : fm_MR} {r : fm_O × fm_M} (hT : fm_TbOk T) (hCl : fm_CallOk T mss) (hNc : fm_NcOk ncs) (hCa : fm_CaOk) (hAll : fm_All T mss P) (hm : mss[mi]? = some rec) (hX : P.2.2.2 = X) (hA : fm_AA l sts ncs X B b aC D P mss N) (C : fm_Cx p s m args meth c sts ncs X B b rec.2.2.1 aC D rec.2.1 rec.1.cls) (htab : c.exceptionTable.toList = tableOf rec.2.2.2.2.1)
    (hini : rec.1.name = "<init>" → meth.name = "<init>") (hR1 : R.frames = rec.2.2.2.2.2.2.1) (hR2 : R.locals = rec.2.2.2.2.2.2.2.1) (hrc : fm_cn r.2 - fm_cn M0 ≤ R.cells) (hrs : fm_sn r.2 - fm_sn M0 ≤ R.slots)
    (kret : ∀ (pc : Nat) (ins : Instr) (len : Nat) (ann : List Nat) (lo : List (Option fm_V)) (st : List fm_V) (M : fm_M) (w : Option fm_V), decode rec.2.1 pc = .ok (ins, len) → fm_ck T (P.1 mi) rec.1.cls rec.2.2.2.2.2.2.2.2 (decide (rec.1.name = "<init>")) rec.2.2.2.1 (pc, ins, len, ann) = true → r.1 = .inl w →
      ((fm_step X (pc, ins, len, ann) lo st M = fm_dn (.inl w) r.2) ∨ ∃ q : fm_P, q.1 ∧ fm_step X (pc, ins, len, ann) lo st M = .inr (.inr (.inr (.inr (.inr (.inr (.inl (q, .inl w, r.2)))))))) → fm_WW p l e R s m args below meth c B b rec.2.2.1 rec.2.2.2.2.2.2.2.2 aC D M0 Q (pc, lo, st, M))
    (kthr : ∀ (pc : Nat) (ins : Instr) (len : Nat) (ann : List Nat) (lo : List (Option fm_V)) (st : List fm_V) (M : fm_M) (x : Nat), decode rec.2.1 pc = .ok (ins, len) → fm_ck T (P.1 mi) rec.1.cls rec.2.2.2.2.2.2.2.2 (decide (rec.1.name = "<init>")) rec.2.2.2.1 (pc, ins, len, ann) = true → r.1 = .inr x → rec.2.2.2.2.1 = [] → 5 < R.frames → 90 ≤ R.locals → fm_cn M0 ≤ fm_cn M → fm_sn M0 ≤ fm_sn M →
      fm_step X (pc, ins, len, ann) lo st M = fm_dn (.inr x) r.2 → fm_WW p l e R s m args below meth c B b rec.2.2.1 rec.2.2.2.2.2.2.2.2 aC D M0 Q (pc, lo, st, M))
    (kout : ∀ (pc : Nat) (x : Nat) (H : Heap) (locs : List Loc) (ls : Array Slot) (rest : List Value) (q9 : Addr) (ce : Cell), r.1 = .inr x → x < 4 → fm_hnd (P.2.1 mi) pc x = none → fm_Wd B aC D r.2 H → va_S (fm_A B) s.heap H locs → H[q9]? = some ce → ce.vm = .none → s.vm.findClass (fm_ex x) = some ce.cls →
      vx_W p l e R s m args below meth c H locs (fm_cn r.2 - fm_cn M0) (fm_sn r.2 - fm_sn M0) Q (F0 m pc ls rest) q9) :
    ∀ (k : Nat) (f : fm_F), k ≤ N + 1 → fm_run P k mi f = some r → fm_cn M0 ≤ fm_cn f.2.2.2 → fm_sn M0 ≤ fm_sn f.2.2.2 → fm_WW p l e R s m args below meth c B b rec.2.2.1 rec.2.2.2.2.2.2.2.2 aC D M0 Q f := by
  obtain ⟨hM1, hM2, hM3, hM4, hM5, hM6⟩ := fm_mck_out (hAll mi rec hm)
  intro k
  induction k with
  | zero => intro f _ h; cases h
  | succ k ih =>
    intro f hk h hm1 hm2
    obtain ⟨pc, lo, st, M⟩ := f
    dsimp only at hm1 hm2
    rw [fm_run] at h
    split at h
    · cases h
    · rename_i e0 he
      obtain ⟨he1, he2⟩ := fm_fetch_in he
      obtain ⟨pc', ins, len, ann⟩ := e0
      have he2 : pc' = pc := he2
      subst he2
      obtain ⟨hd, hck, hck2⟩ := hM1 _ he1
      have hd : decode rec.2.1 pc' = .ok (ins, len) := hd
      have hini' : decide (rec.1.name = "<init>") = true → meth.name = "<init>" := fun z => hini (of_decide_eq_true z)
      have hge := fm_step_ge X (pc', ins, len, ann) lo st M
      generalize hst : fm_step P.2.2.2 (pc', ins, len, ann) lo st M = R0 at h
      rw [hX] at hst
      rw [hst] at hge
      rcases R0 with g | ⟨q, g⟩ | ⟨q, g, g2⟩ | ⟨mj, rk, as, g⟩ | ⟨o, M'⟩ | ⟨x, sl, d⟩ | ⟨q, o, M'⟩ | _
      · have hge : fm_ge M g.2.2.2 := hge
        have hr := fm_run_ge P k mi g r h
        have a1 := hge.2.1; have a2 := hge.2.2; have a3 := hr.2.1; have a4 := hr.2.2
        refine sm_go C hT hini' hd hck (fun cp j e1 e2 => ?_) hst (by omega) (by omega) hm1 hm2 (ih g (by omega) h (by omega) (by omega))
        subst e1; subst e2
        dsimp only [fm_ck2] at hck2
        simp only [Bool.and_eq_true] at hck2
        rw [hR1, hR2]
        exact ⟨by simpa using hck2.1, by simpa using hck2.2⟩
      · dsimp only at h
        by_cases hq : q.1
        · rw [if_pos hq] at h
          have hge : fm_ge M g.2.2.2 := hge
          have hr := fm_run_ge P k mi g r h
          have a1 := hge.2.1; have a2 := hge.2.2; have a3 := hr.2.1; have a4 := hr.2.2
          exact sm_gd C hT hd hck hst hq (by omega) (by omega) hm1 hm2 (ih g (by omega) h (by omega) (by omega))
        · rw [if_neg hq] at h; cases h
      · dsimp only at h
        have hge : fm_ge M g.2.2.2 ∧ fm_ge M g2.2.2.2 := hge
        obtain ⟨hg1, hg2⟩ := hge
        have a1 := hg1.2.1; have a2 := hg1.2.2; have a3 := hg2.2.1; have a4 := hg2.2.2
        by_cases hq : q.1
        · rw [if_pos hq] at h
          exact sm_br C hd hck hst (fun _ => ih g (by omega) h (by omega) (by omega)) (fun z => absurd hq z)
        · rw [if_neg hq] at h
          exact sm_br C hd hck hst (fun z => absurd z hq) (fun _ => ih g2 (by omega) h (by omega) (by omega))
      · dsimp only at h
        obtain ⟨rec', hrc', h0⟩ := fm_ca_rec hck2 hst
        obtain ⟨c1, c2, c3⟩ := fm_step_ca hst
        rw [c2] at h
        have hcall : ∀ r1 : fm_O × fm_M, fm_run P k mj (fm_entry (P.2.2.1 mj) as M) = some r1 → fm_ge M r1.2 ∧ fm_nr r1.1 ∧ (∀ v, r1.1 = .inl (some v) → fm_vok r1.2.2 v) ∧ (∀ rec, mss[mj]? = some rec → 0 < mj → as.length ≤ rec.2.2.1 → (∀ v ∈ as, fm_cat v = 1) → fm_Ct l sts ncs X B b aC D rec as M r1) := by
          intro r1 hr1
          have hn := fm_run_nice hAll k mj _ r1 rec' hrc' hr1
          refine ⟨fm_run_ge P k mj _ r1 hr1, hn, fun v hv => ?_, fun rec9 h1 h2 h3 h4 => hA mj rec9 as M r1 h1 h2 h3 h4 (fm_run_le P (by omega) hr1)⟩
          rcases hn with ⟨w, hw⟩ | ⟨x, -, hx⟩
          · rw [hw] at hv
            cases w with
            | none => cases hv
            | some w => cases hv; trivial
          · rw [hx] at hv; cases hv
        split at h
        · cases h
        · rename_i v M1 hrun
          obtain ⟨d1, d2, d3, d4⟩ := hcall _ hrun
          have hr := fm_run_ge P k mi _ r h
          have hpM : (fm_push v g M1).2.2.2 = M1 := by cases v <;> rfl
          rw [hpM] at hr
          have a1 := d1.2.1; have a2 := d1.2.2; have a3 := hr.2.1; have a4 := hr.2.2
          dsimp only at a1 a2
          refine sm_call C hCl hd hck (by rw [hR1, hR2]; exact hck2) hst d4 d1 d3 (by dsimp only; omega) (by dsimp only; omega) hm1 hm2 (fun v' hv' => ?_) (fun x hx => nomatch hx)
          cases hv'
          exact ih (fm_push v g M1) (by omega) h (by rw [hpM]; omega) (by rw [hpM]; omega)
        · rename_i x M1 hrun
          obtain ⟨d1, d2, d3, d4⟩ := hcall _ hrun
          have a1 := d1.2.1; have a2 := d1.2.2
          dsimp only at a1 a2
          have hx5 : x < 4 := by
            rcases d2 with ⟨w, hw⟩ | ⟨x', hx', he'⟩
            · cases hw
            · cases he'; exact hx'
          split at h
          · rename_i h1 hh1
            have hr := fm_run_ge P k mi _ r h
            have hr : fm_ge M1 r.2 := hr
            have a3 := hr.2.1; have a4 := hr.2.2
            refine sm_call C hCl hd hck (by rw [hR1, hR2]; exact hck2) hst d4 d1 d3 (by dsimp only; omega) (by dsimp only; omega) hm1 hm2 (fun v' hv' => nomatch hv') (fun x9 hx9 H locs ls q9 ce e1 e2 e3 e4 e5 e6 e7 => ?_)
            cases hx9
            have hwd : rec.2.2.2.2.2.2.2.2 = false := by
              rcases hM4 with z | z
              · rw [z] at hh1; cases hh1
              · exact z.1
            have hg := ih (fm_hfr h1 g.2.1 M1) (by omega) h (by show fm_cn M0 ≤ fm_cn M1; omega) (by show fm_sn M0 ≤ fm_sn M1; omega)
            rw [c1, hwd] at hg
            rw [hwd] at e1
            exact sm_catch C hNc hCa htab hM2 hM3 (fun x hx => (hM1 x hx).1) hh1 e1 e2 e3 e4 e5 e6 e7 hg
          · rename_i hh1
            cases h
            refine sm_call C hCl hd hck (by rw [hR1, hR2]; exact hck2) hst d4 d1 d3 (by dsimp only; exact hrc) (by dsimp only; exact hrs) hm1 hm2 (fun v' hv' => nomatch hv') (fun x9 hx9 H locs ls q9 ce e1 e2 e3 e4 e5 e6 e7 => ?_)
            cases hx9
            exact kout pc' x H locs ls _ q9 ce rfl hx5 hh1 e3 e4 e5 e6 e7
      · dsimp only at h
        cases h
        rcases fm_step_dn hck (Or.inl hst) with ⟨w, hw⟩ | ⟨x, cp, j, h1, h2, h3, h4⟩
        · subst hw
          exact kret pc' ins len ann lo st M _ hd hck rfl (Or.inl hst)
        · subst h2; subst h3; subst h4
          dsimp only [fm_ck2] at hck2
          simp only [Bool.and_eq_true] at hck2
          have hnil : rec.2.2.2.2.1 = [] := by
            rcases hM4 with z | z
            · rw [z] at hM2
              cases hh : rec.2.2.2.2.1 with
              | nil => rfl
              | cons a t => rw [hh] at hM2; cases hM2
            · exact nomatch (show true = false from z.2 _ he1)
          exact kthr pc' _ len _ lo st M x hd hck rfl hnil (by rw [hR1]; simpa using hck2.1) (by rw [hR2]; simpa using hck2.2) hm1 hm2 hst
      · have hge : fm_ge M (fm_sel x sl d).2.2.2 := hge
        have a1 := hge.2.1; have a2 := hge.2.2
        exact sm_sw C hd hck hst (ih _ (by omega) h (by omega) (by omega))
      · dsimp only at h
        by_cases hq : q.1
        · rw [if_pos hq] at h
          cases h
          rcases fm_step_dn hck (Or.inr ⟨q, hst⟩) with ⟨w, hw⟩ | ⟨x, cp, j, h1, h2, h3, h4⟩
          · subst hw
            exact kret pc' ins len ann lo st M _ hd hck rfl (Or.inr ⟨q, hq, hst⟩)
          · exfalso
            subst h2; subst h3; subst h4
            dsimp only [fm_step] at hst
            cases hb : (Nat.ble (fm_csum st) 8 && Nat.beq M.2.length fm_L0) <;> (simp only [hb] at hst; cases hst)
        · rw [if_neg hq] at h; cases h
      · cases h
end FMS15
