/-- a method's record: name, bytes, locals, answer, handlers, arguments told, frames, words of locals, wide locals -/
abbrev fm_MR : Type := MethodName × ByteArray × Nat × Option FieldType × List (Nat × Nat × Nat × Nat) × Nat × Nat × Nat × Bool
def fm_cw (r : fm_MR) : Cond := match r.2.2.2.2.1 with
  | [] => .code r.1 r.2.1 r.2.2.1 r.2.2.2.1
  | h :: t => .codeWith r.1 r.2.1 r.2.2.1 r.2.2.2.1 (h :: t)
def fm_w (r : fm_MR) : List Cond := fm_cw r :: fm_TG
def fm_rm (r : fm_MR) (mc ms : Nat) : Room := { frames := r.2.2.2.2.2.2.1, cells := mc, slots := ms, locals := r.2.2.2.2.2.2.2.1 }
/-- a method's contract: started with these arguments over M it ends as r says -/
def fm_Ct (l : Launch) (sts : fm_St) (ncs : fm_Nc) (X : Nat × (Nat → Int32)) (B b : Nat) (aC : Nat → ClassId) (D : va_G) (rec : fm_MR) (as : List fm_V) (M : fm_M) (r : fm_O × fm_M) : Prop :=
  vx_Met l rec.1 (fm_w rec) (fm_rm rec (fm_cn r.2 - fm_cn M) (fm_sn r.2 - fm_sn M)) (fm_Pc sts ncs X B b aC D as M) (fm_Qc B b aC D r) (fm_XC B aC D r) (fm_cn r.2 - fm_cn M) (fm_sn r.2 - fm_sn M) (fm_A B)
/-- what the tables say of the calls -/
def fm_CallOk (T : fm_Tb) (ms : List fm_MR) : Prop := ∀ q ∈ T.2.1, ∀ rec, ms[q.2.2.1]? = some rec →
  fm_cw rec ∈ lw_tbl ∧ (Cond.initialized rec.1.cls) ∈ lw_tbl ∧ (rec.1.cls ≠ "java/lang/invoke/MethodHandle" ∧ rec.1.cls ≠ "java/lang/invoke/VarHandle" ∧ (parseMethodDescriptor rec.1.desc).map (fun d => d.parameters.length) = some rec.2.2.2.2.2.1) ∧
  (match q.2.2.2.2 with
    | none => (Cond.methodLink q.1 q.2.1 rec.1) ∈ lw_tbl
    | some h => (Cond.methodLinkNest q.1 q.2.1 rec.1 h) ∈ lw_tbl) ∧
  (match q.2.2.2.1 with
    | 0 => (Cond.instanceMethod rec.1) ∈ lw_tbl ∧ (Cond.selects rec.1.cls rec.1 rec.1) ∈ lw_tbl ∧ rec.2.2.2.2.1 = []
    | 1 => (Cond.static rec.1) ∈ lw_tbl ∧ (rec.2.2.2.2.1 = [] ∨ q.2.2.2.2 = none)
    | _ => rec.1.name = "<init>" ∧ (Cond.instanceMethod rec.1) ∈ lw_tbl ∧ rec.2.2.2.2.1 = [] ∧ rec.2.2.2.1 = none)
/-- the room of a row: what it calls fits -/
def fm_ck2 (ms : List fm_MR) (fr lo : Nat) (e : fm_En) : Bool := match e.2.1 with
  | .invokevirtual _ => match e.2.2.2 with
    | [mj, _, n, _, ci] => Nat.blt 0 mj && (match ms[mj]? with
      | some r => Nat.beq (r.2.2.2.2.2.1 + 1) n && Nat.ble n r.2.2.1 && Nat.blt ci 7 && decide (fm_C ci = r.1.cls) && Nat.ble (r.2.2.2.2.2.2.1 + 1) fr && Nat.ble (8 + (r.2.2.1 + 11) + r.2.2.2.2.2.2.2.1) lo
      | none => false)
    | _ => true
  | .invokestatic _ => match e.2.2.2 with
    | [mj, _, n, _] => Nat.blt 0 mj && (match ms[mj]? with
      | some r => Nat.beq r.2.2.2.2.2.1 n && Nat.ble n r.2.2.1 && Nat.ble (r.2.2.2.2.2.2.1 + 1) fr && Nat.ble (8 + (r.2.2.1 + 11) + r.2.2.2.2.2.2.2.1) lo
      | none => false)
    | _ => true
  | .invokespecial _ => match e.2.2.2 with
    | [mj, _, n, _] => Nat.blt 0 mj && (match ms[mj]? with
      | some r => Nat.beq (r.2.2.2.2.2.1 + 1) n && Nat.ble n r.2.2.1 && Nat.ble (r.2.2.2.2.2.2.1 + 1) fr && Nat.ble (8 + (r.2.2.1 + 11) + r.2.2.2.2.2.2.2.1) lo
      | none => false)
    | _ => Nat.ble 1 fr && Nat.ble 20 lo
  | .new _ => match e.2.2.2 with
    | [1, _, _] => Nat.blt 5 fr && Nat.ble 90 lo
    | _ => true
  | _ => true
theorem fm_pop_inv : ∀ (n : Nat) (st acc : List fm_V) (q : List fm_V × List fm_V), fm_pop n st acc = some q → ∃ tk, st = tk ++ q.2 ∧ q.1 = tk.reverse ++ acc ∧ tk.length = n := by
  intro n
  induction n with
  | zero => intro st acc q h; cases h; exact ⟨[], rfl, rfl, rfl⟩
  | succ n ih =>
    intro st acc q h
    cases st with
    | nil => cases h
    | cons v r =>
      obtain ⟨tk, h1, h2, h3⟩ := ih r (v :: acc) q h
      exact ⟨v :: tk, by rw [h1]; rfl, by rw [h2]; simp, by simp [h3]⟩
section FMS12
variable {p : Program} {l : Launch} {e : Env} {R : Room} {s : State} {m : MethodId} {args : Array Value} {below : List Frame} {meth : Method} {c : Code}
variable {sts : fm_St} {ncs : fm_Nc} {X : Nat × (Nat → Int32)} {B b nL : Nat} {wd ini : Bool} {aC : Nat → ClassId} {D : va_G} {M0 : fm_M} {Q : State → Prop} {cc : ByteArray} {own : String} {T : fm_Tb} {cl : List fm_En} {rt : Option FieldType} {mss : List fm_MR}
variable {pc : Nat} {lo : List (Option fm_V)} {st : List fm_V} {M : fm_M} {g : fm_F}
/-- behind a call -/
theorem fm_after {r : fm_O × fm_M} {a : Array Value} {H : Heap} {locs : List Loc} {ls : Array Slot} {cells slots mc ms : Nat} {st0 rest : List Value} (hr : vx_Run p l e R s m args below meth c H locs cells slots mc ms (F0 m pc ls st0) rest (fm_Qc B b aC D r a) (fm_XC B aC D r) (fm_A B)) (hS : va_S (fm_A B) s.heap H locs)
    (kk : ∀ v, r.1 = .inl v → ∀ (H1 : Heap) (locs1 : List Loc), fm_Wd B aC D r.2 H1 → va_S (fm_A B) s.heap H1 locs1 → W p l e R s m args below meth c H1 locs1 (cells + mc) (slots + ms) Q (F0 m (pc + 3) ls ((v.map (fm_ren B b)).toList ++ rest)))
    (kx : ∀ x, r.1 = .inr x → ∀ (H1 : Heap) (locs1 : List Loc) (q9 : Addr) (ce : Cell), fm_Wd B aC D r.2 H1 → va_S (fm_A B) s.heap H1 locs1 → H1[q9]? = some ce → ce.vm = .none → s.vm.findClass (fm_ex x) = some ce.cls → vx_W p l e R s m args below meth c H1 locs1 (cells + mc) (slots + ms) Q (F0 m pc ls rest) q9) :
    W p l e R s m args below meth c H locs cells slots Q (F0 m pc ls st0) := by
  intro T0 hT0 X0
  rcases hr T0 hT0 X0 with ⟨v, st₀, t, T', L, h0, X', hL, e1, e2, hq, go⟩ | ⟨q, st₀, t, T', L, E, ce, h0, X', hL, e1, e2, hq, hce, hcv, hcl, go⟩
  · unfold fm_Qc at hq
    split at hq
    · rename_i w hw
      obtain ⟨hv, hwd, hF⟩ := hq
      have hv' := Outcome.returned.inj hv
      subst hv'
      obtain ⟨k1, k2, k3⟩ := vx_keep h0 e1 hS (fun q _ h => h) (fun q h => h) hL hF
      obtain ⟨t2, a1, b1⟩ := kk w hw T'.heap (locs ++ L) (by rw [e1]; exact hwd) k3 T' rfl X'
      exact ⟨t2, go t2 a1, b1⟩
    · exact hq.elim
  · unfold fm_XC at hq
    split at hq
    · exact hq.elim
    · rename_i x hx
      obtain ⟨hE, hwd, hF⟩ := hq
      subst hE
      obtain ⟨k1, k2, k3⟩ := vx_keep h0 e1 hS (fun q _ h => h) (fun q h => h) hL hF
      obtain ⟨t2, a1, b1⟩ := kx x hx T'.heap (locs ++ L) q ce (by rw [e1]; exact hwd) k3 (by rw [e1]; exact hce) hcv hcl T' rfl X'
      exact ⟨t2, go.trans a1, b1⟩
theorem fm_TG_in {w : Cond} (hw : w ∈ lw_tbl) (hg : goodWord w = true) : w ∈ fm_TG := List.mem_filter.mpr ⟨hw, hg⟩
theorem fm_TG_good : GoodIn fm_TG fm_TG := fun w hw => ⟨hw, good_of_word (List.mem_filter.mp hw).2⟩
theorem fm_w_good {rec : fm_MR} (h : fm_cw rec ∈ lw_tbl) : GoodIn fm_TG (fm_w rec) := by
  intro w hw
  rcases List.mem_cons.mp hw with rfl | hw
  · have hg : goodWord (fm_cw rec) = true := by
      unfold fm_cw
      split <;> rfl
    exact ⟨fm_TG_in h hg, good_of_word hg⟩
  · exact fm_TG_good w hw
theorem fm_w_code {rec : fm_MR} (h : rec.2.2.2.2.1 = []) : fm_w rec = Cond.code rec.1 rec.2.1 rec.2.2.1 rec.2.2.2.1 :: fm_TG := by
  unfold fm_w fm_cw
  rw [h]
/-- what the callee finds -/
theorem fm_pre {as : List fm_V} {H : Heap} {locs : List Loc} (C : fm_Cx p s m args meth c sts ncs X B b nL aC D cc own) (hw : fm_Wd B aC D M H) (hS : va_S (fm_A B) s.heap H locs) (hv : ∀ v ∈ as, fm_vok M.2 v) : ∀ U : State, U.heap = H → s.WarmedH U.vm → fm_Pc sts ncs X B b aC D as M (as.map (fm_ren B b)).toArray U := by
  intro U hU hW
  exact ⟨rfl, C.2.2.2.2.2.1.go hW (by rw [hU]; exact hS.1) (fun q h1 h2 => by rw [hU]; exact hS.2.1 q h1 h2), by rw [hU]; exact hw, hv⟩
/-- the receiver's cell -/
theorem fm_rcv_at {ci : Nat} {v : fm_V} {as : List fm_V} {H : Heap} (C : fm_Cx p s m args meth c sts ncs X B b nL aC D cc own) (hw : fm_Wd B aC D M H) (hv : fm_vok M.2 v) (hci : ci < 7) (h : fm_rcv ci (v :: as) M.2 = true) : ∃ a, fm_ren B b v = .ref a ∧ ∃ cellB : Cell, H[a]? = some cellB ∧ cellB.vm.isStatics = false ∧ s.vm.findClass (fm_C ci) = some cellB.cls := by
  have hK := C.2.2.2.2.2.1.1
  unfold fm_rcv at h
  split at h
  · rename_i c0 tl hcc
    cases hcc
    split at h
    · rename_i q hq
      have hqc := Nat.eq_of_beq_eq_true h
      subst hqc
      obtain ⟨o1, -⟩ := fm_obj_at (B := B) (aC := aC) (D := D) hw hq hci
      exact ⟨_, fm_ren_ref (fm_scr_ne hq hw.2.1), va_recv hK hw.1 (fm_cls_at hci) o1⟩
    · cases h
  · rename_i t j tl hcc
    cases hcc
    simp only [Bool.and_eq_true] at h
    have ht := Nat.eq_of_beq_eq_true h.1.1
    have hc4 := Nat.eq_of_beq_eq_true h.1.2
    subst ht
    subst hc4
    obtain ⟨p0, -, -⟩ := fm_pool_at h.2 (fm_vok2 hv (by decide)).2.1
    obtain ⟨o1, -⟩ := fm_obj_at (B := B) (aC := aC) (D := D) hw p0 (show 4 < 7 by decide)
    exact ⟨_, rfl, va_recv hK hw.1 (fm_cls_at (show 4 < 7 by decide)) o1⟩
  · cases h
/-- the first of a constructor's arguments -/
theorem fm_catA {v : fm_V} (h : fm_cat v = 1) : True := trivial
end FMS12
