/-! what the tables say of the throws -/
def fm_thB : List Cond → List Nat → Bool
  | [], _ => true
  | w :: r, i :: is => (!vx_no w || (fm_inT i w && (goodWord w || (fm_mv w && w.onTables)))) && fm_thB r is
  | _ :: _, [] => false
theorem fm_thB_ok : ∀ (l : List Cond) (is : List Nat), fm_thB l is = true → ∀ w ∈ l.filter vx_no, w ∈ lw_tbl ∧ (goodWord w || (fm_mv w && w.onTables)) = true := by
  intro l
  induction l with
  | nil => intro is _ w hw; cases hw
  | cons a r ih =>
    intro is h w hw
    cases is with
    | nil => cases h
    | cons i is =>
      unfold fm_thB at h
      rw [Bool.and_eq_true] at h
      obtain ⟨hw1, hw2⟩ := List.mem_filter.mp hw
      rcases List.mem_cons.mp hw1 with rfl | hw1
      · have h1 := h.1
        rw [hw2] at h1
        simp only [Bool.not_true, Bool.false_or, Bool.and_eq_true] at h1
        exact ⟨fm_inT_ok h1.1, h1.2⟩
      · exact ih is h.2 w (List.mem_filter.mpr ⟨hw1, hw2⟩)
def fm_thS (q : String × Nat × Nat × Nat × Nat × String) (i j : Nat) (is : List Nat) : Bool := fm_inT i (Cond.classLink q.1 q.2.1 (fm_ex q.2.2.2.2.1)) && fm_inT j (Cond.initialized (fm_ex q.2.2.2.2.1)) && fm_thB (vx_waX q.1 q.2.2.2.1 (fm_ex q.2.2.2.2.1) (fm_exI q.2.2.2.2.1) (fm_exB q.2.2.2.2.1) fm_exN) is
theorem fm_thS_ok {q : String × Nat × Nat × Nat × Nat × String} {i j : Nat} {is : List Nat} (h : fm_thS q i j is = true) : (Cond.classLink q.1 q.2.1 (fm_ex q.2.2.2.2.1)) ∈ lw_tbl ∧ (Cond.initialized (fm_ex q.2.2.2.2.1)) ∈ lw_tbl ∧ (∀ w ∈ vx_atX q.1 q.2.2.2.1 (fm_ex q.2.2.2.2.1) (fm_exI q.2.2.2.2.1) (fm_exB q.2.2.2.2.1) fm_exN, w ∈ lw_tbl ∧ (goodWord w || (fm_mv w && w.onTables)) = true) := by
  unfold fm_thS at h
  rw [Bool.and_eq_true, Bool.and_eq_true] at h
  exact ⟨fm_inT_ok h.1.1, fm_inT_ok h.1.2, fm_thB_ok _ _ h.2⟩
theorem fm_th0 : fm_thS ("Feederlight", 76, 78, 80, 2, "there are 12 nodes") 301 59 [52, 249, 202, 209, 212, 214, 250, 251, 195, 196, 194, 201, 210, 217, 243, 218, 244, 219, 245, 197, 0, 199, 0, 246, 192, 193, 216, 246, 312, 313, 314, 186, 237, 186, 187, 188, 189, 239, 189, 190, 191, 192, 241, 311, 302, 303, 304, 206, 305, 306, 307, 308, 309, 0, 0, 215, 247] = true := by decide +kernel
theorem fm_th1 : fm_thS ("Feederlight", 90, 92, 94, 1, "a tie links two nodes") 285 58 [52, 249, 202, 209, 212, 214, 250, 251, 195, 196, 194, 201, 210, 217, 243, 218, 244, 219, 245, 197, 0, 199, 0, 246, 192, 193, 216, 246, 296, 297, 298, 186, 237, 186, 187, 188, 189, 239, 189, 190, 191, 192, 241, 295, 286, 287, 288, 205, 289, 290, 291, 292, 293, 0, 0, 215, 247] = true := by decide +kernel
theorem fm_th2 : fm_thS ("Feederlight", 76, 98, 80, 2, "there are 4 ties") 301 59 [52, 249, 202, 209, 212, 214, 250, 251, 195, 196, 194, 201, 210, 217, 243, 218, 244, 219, 245, 197, 0, 199, 0, 246, 192, 193, 216, 246, 312, 313, 314, 186, 237, 186, 187, 188, 189, 239, 189, 190, 191, 192, 241, 311, 302, 303, 304, 206, 305, 306, 307, 308, 309, 0, 0, 215, 247] = true := by decide +kernel
theorem fm_th3 : fm_thS ("Feederlight", 76, 141, 80, 2, "node 0 has no cable") 301 59 [52, 249, 202, 209, 212, 214, 250, 251, 195, 196, 194, 201, 210, 217, 243, 218, 244, 219, 245, 197, 0, 199, 0, 246, 192, 193, 216, 246, 312, 313, 314, 186, 237, 186, 187, 188, 189, 239, 189, 190, 191, 192, 241, 311, 302, 303, 304, 206, 305, 306, 307, 308, 309, 0, 0, 215, 247] = true := by decide +kernel
theorem fm_th4 : fm_thS ("Feederlight", 76, 147, 80, 2, "the fuse is whole") 301 59 [52, 249, 202, 209, 212, 214, 250, 251, 195, 196, 194, 201, 210, 217, 243, 218, 244, 219, 245, 197, 0, 199, 0, 246, 192, 193, 216, 246, 312, 313, 314, 186, 237, 186, 187, 188, 189, 239, 189, 190, 191, 192, 241, 311, 302, 303, 304, 206, 305, 306, 307, 308, 309, 0, 0, 215, 247] = true := by decide +kernel
theorem fm_th5 : fm_thS ("Feederlight", 164, 166, 168, 3, "no such tie") 439 60 [52, 249, 202, 209, 212, 214, 250, 251, 195, 196, 194, 201, 210, 217, 243, 218, 244, 219, 245, 197, 0, 199, 0, 246, 192, 193, 216, 246, 450, 451, 452, 186, 237, 186, 187, 188, 189, 239, 189, 190, 191, 192, 241, 449, 440, 441, 442, 208, 443, 444, 445, 446, 447, 0, 0, 215, 247] = true := by decide +kernel
theorem fm_th6 : fm_thS ("Feederlight", 229, 231, 233, 0, "no such node") 268 55 [52, 249, 202, 209, 212, 214, 250, 251, 195, 196, 194, 201, 210, 217, 243, 218, 244, 219, 245, 197, 0, 199, 0, 246, 192, 193, 216, 246, 183, 184, 185, 186, 237, 186, 187, 188, 189, 239, 189, 190, 191, 192, 241, 278, 269, 270, 271, 207, 272, 273, 274, 275, 276, 0, 0, 215, 247] = true := by decide +kernel
theorem fm_th7 : fm_thS ("Feederlight", 90, 234, 94, 1, "out of range") 285 58 [52, 249, 202, 209, 212, 214, 250, 251, 195, 196, 194, 201, 210, 217, 243, 218, 244, 219, 245, 197, 0, 199, 0, 246, 192, 193, 216, 246, 296, 297, 298, 186, 237, 186, 187, 188, 189, 239, 189, 190, 191, 192, 241, 295, 286, 287, 288, 205, 289, 290, 291, 292, 293, 0, 0, 215, 247] = true := by decide +kernel
theorem fm_th8 : fm_thS ("Feederlight", 76, 236, 80, 2, "4 layers were added") 301 59 [52, 249, 202, 209, 212, 214, 250, 251, 195, 196, 194, 201, 210, 217, 243, 218, 244, 219, 245, 197, 0, 199, 0, 246, 192, 193, 216, 246, 312, 313, 314, 186, 237, 186, 187, 188, 189, 239, 189, 190, 191, 192, 241, 311, 302, 303, 304, 206, 305, 306, 307, 308, 309, 0, 0, 215, 247] = true := by decide +kernel
theorem fm_th9 : fm_thS ("Feederlight", 164, 238, 168, 3, "the node is not fed") 439 60 [52, 249, 202, 209, 212, 214, 250, 251, 195, 196, 194, 201, 210, 217, 243, 218, 244, 219, 245, 197, 0, 199, 0, 246, 192, 193, 216, 246, 450, 451, 452, 186, 237, 186, 187, 188, 189, 239, 189, 190, 191, 192, 241, 449, 440, 441, 442, 208, 443, 444, 445, 446, 447, 0, 0, 215, 247] = true := by decide +kernel
theorem fm_th10 : fm_thS ("Feederlight", 164, 240, 168, 3, "no node feeds node 0") 439 60 [52, 249, 202, 209, 212, 214, 250, 251, 195, 196, 194, 201, 210, 217, 243, 218, 244, 219, 245, 197, 0, 199, 0, 246, 192, 193, 216, 246, 450, 451, 452, 186, 237, 186, 187, 188, 189, 239, 189, 190, 191, 192, 241, 449, 440, 441, 442, 208, 443, 444, 445, 446, 447, 0, 0, 215, 247] = true := by decide +kernel
theorem fm_th11 : fm_thS ("Feederlight", 164, 141, 168, 3, "node 0 has no cable") 439 60 [52, 249, 202, 209, 212, 214, 250, 251, 195, 196, 194, 201, 210, 217, 243, 218, 244, 219, 245, 197, 0, 199, 0, 246, 192, 193, 216, 246, 450, 451, 452, 186, 237, 186, 187, 188, 189, 239, 189, 190, 191, 192, 241, 449, 440, 441, 442, 208, 443, 444, 445, 446, 447, 0, 0, 215, 247] = true := by decide +kernel
theorem fm_Th0 : fm_ThOk fm_T0 := List.forall_mem_cons.mpr ⟨fun _ => fm_thS_ok fm_th0, List.forall_mem_cons.mpr ⟨fun _ => fm_thS_ok fm_th1, List.forall_mem_cons.mpr ⟨fun _ => fm_thS_ok fm_th2, List.forall_mem_cons.mpr ⟨fun _ => fm_thS_ok fm_th3, List.forall_mem_cons.mpr ⟨fun _ => fm_thS_ok fm_th4, List.forall_mem_cons.mpr ⟨fun _ => fm_thS_ok fm_th5, List.forall_mem_cons.mpr ⟨fun _ => fm_thS_ok fm_th6, List.forall_mem_cons.mpr ⟨fun _ => fm_thS_ok fm_th7, List.forall_mem_cons.mpr ⟨fun _ => fm_thS_ok fm_th8, List.forall_mem_cons.mpr ⟨fun _ => fm_thS_ok fm_th9, List.forall_mem_cons.mpr ⟨fun _ => fm_thS_ok fm_th10, List.forall_mem_cons.mpr ⟨fun _ => fm_thS_ok fm_th11, fun _ h => absurd h List.not_mem_nil⟩⟩⟩⟩⟩⟩⟩⟩⟩⟩⟩⟩
