/-! what is checked of the tables: once and for all, by computing -/
abbrev fm_Pm (rec : fm_MR) : Prop := fm_cw rec ∈ lw_tbl ∧ Cond.initialized rec.1.cls ∈ lw_tbl ∧ (rec.1.cls ≠ "java/lang/invoke/MethodHandle" ∧ rec.1.cls ≠ "java/lang/invoke/VarHandle" ∧ (parseMethodDescriptor rec.1.desc).map (fun d => d.parameters.length) = some rec.2.2.2.2.2.1)
theorem fm_mA0 : ∀ rec ∈ [fm_m1, fm_m2, fm_m3, fm_m4, fm_m5, fm_m6, fm_m7, fm_m8, fm_m9, fm_m10, fm_m11, fm_m12, fm_m13, fm_m14, fm_m15], fm_Pm rec := List.forall_mem_cons.mpr ⟨fm_mw1, List.forall_mem_cons.mpr ⟨fm_mw2, List.forall_mem_cons.mpr ⟨fm_mw3, List.forall_mem_cons.mpr ⟨fm_mw4, List.forall_mem_cons.mpr ⟨fm_mw5, List.forall_mem_cons.mpr ⟨fm_mw6, List.forall_mem_cons.mpr ⟨fm_mw7, List.forall_mem_cons.mpr ⟨fm_mw8, List.forall_mem_cons.mpr ⟨fm_mw9, List.forall_mem_cons.mpr ⟨fm_mw10, List.forall_mem_cons.mpr ⟨fm_mw11, List.forall_mem_cons.mpr ⟨fm_mw12, List.forall_mem_cons.mpr ⟨fm_mw13, List.forall_mem_cons.mpr ⟨fm_mw14, List.forall_mem_cons.mpr ⟨fm_mw15, fun _ h => absurd h List.not_mem_nil⟩⟩⟩⟩⟩⟩⟩⟩⟩⟩⟩⟩⟩⟩⟩
theorem fm_mA1 : ∀ rec ∈ [fm_m16, fm_m17, fm_m18, fm_m19, fm_m20, fm_m21, fm_m22, fm_m23, fm_m24, fm_m25, fm_m26, fm_m27, fm_m28, fm_m29, fm_m30], fm_Pm rec := List.forall_mem_cons.mpr ⟨fm_mw16, List.forall_mem_cons.mpr ⟨fm_mw17, List.forall_mem_cons.mpr ⟨fm_mw18, List.forall_mem_cons.mpr ⟨fm_mw19, List.forall_mem_cons.mpr ⟨fm_mw20, List.forall_mem_cons.mpr ⟨fm_mw21, List.forall_mem_cons.mpr ⟨fm_mw22, List.forall_mem_cons.mpr ⟨fm_mw23, List.forall_mem_cons.mpr ⟨fm_mw24, List.forall_mem_cons.mpr ⟨fm_mw25, List.forall_mem_cons.mpr ⟨fm_mw26, List.forall_mem_cons.mpr ⟨fm_mw27, List.forall_mem_cons.mpr ⟨fm_mw28, List.forall_mem_cons.mpr ⟨fm_mw29, List.forall_mem_cons.mpr ⟨fm_mw30, fun _ h => absurd h List.not_mem_nil⟩⟩⟩⟩⟩⟩⟩⟩⟩⟩⟩⟩⟩⟩⟩
theorem fm_mA2 : ∀ rec ∈ [fm_m31, fm_m32, fm_m33, fm_m34, fm_m35, fm_m36, fm_m37, fm_m38, fm_m39, fm_m40, fm_m41, fm_m42, fm_m43, fm_m44, fm_m45], fm_Pm rec := List.forall_mem_cons.mpr ⟨fm_mw31, List.forall_mem_cons.mpr ⟨fm_mw32, List.forall_mem_cons.mpr ⟨fm_mw33, List.forall_mem_cons.mpr ⟨fm_mw34, List.forall_mem_cons.mpr ⟨fm_mw35, List.forall_mem_cons.mpr ⟨fm_mw36, List.forall_mem_cons.mpr ⟨fm_mw37, List.forall_mem_cons.mpr ⟨fm_mw38, List.forall_mem_cons.mpr ⟨fm_mw39, List.forall_mem_cons.mpr ⟨fm_mw40, List.forall_mem_cons.mpr ⟨fm_mw41, List.forall_mem_cons.mpr ⟨fm_mw42, List.forall_mem_cons.mpr ⟨fm_mw43, List.forall_mem_cons.mpr ⟨fm_mw44, List.forall_mem_cons.mpr ⟨fm_mw45, fun _ h => absurd h List.not_mem_nil⟩⟩⟩⟩⟩⟩⟩⟩⟩⟩⟩⟩⟩⟩⟩
theorem fm_mA3 : ∀ rec ∈ [fm_m46, fm_m47, fm_m48, fm_m49, fm_m50, fm_m51, fm_m52, fm_m53, fm_m54, fm_m55, fm_m56, fm_m57, fm_m58, fm_m59, fm_m60], fm_Pm rec := List.forall_mem_cons.mpr ⟨fm_mw46, List.forall_mem_cons.mpr ⟨fm_mw47, List.forall_mem_cons.mpr ⟨fm_mw48, List.forall_mem_cons.mpr ⟨fm_mw49, List.forall_mem_cons.mpr ⟨fm_mw50, List.forall_mem_cons.mpr ⟨fm_mw51, List.forall_mem_cons.mpr ⟨fm_mw52, List.forall_mem_cons.mpr ⟨fm_mw53, List.forall_mem_cons.mpr ⟨fm_mw54, List.forall_mem_cons.mpr ⟨fm_mw55, List.forall_mem_cons.mpr ⟨fm_mw56, List.forall_mem_cons.mpr ⟨fm_mw57, List.forall_mem_cons.mpr ⟨fm_mw58, List.forall_mem_cons.mpr ⟨fm_mw59, List.forall_mem_cons.mpr ⟨fm_mw60, fun _ h => absurd h List.not_mem_nil⟩⟩⟩⟩⟩⟩⟩⟩⟩⟩⟩⟩⟩⟩⟩
theorem fm_mA4 : ∀ rec ∈ [fm_m61, fm_m62, fm_m63, fm_m64, fm_m65, fm_m66, fm_m67, fm_m68, fm_m69, fm_m70, fm_m71, fm_m72, fm_m73, fm_m74, fm_m75], fm_Pm rec := List.forall_mem_cons.mpr ⟨fm_mw61, List.forall_mem_cons.mpr ⟨fm_mw62, List.forall_mem_cons.mpr ⟨fm_mw63, List.forall_mem_cons.mpr ⟨fm_mw64, List.forall_mem_cons.mpr ⟨fm_mw65, List.forall_mem_cons.mpr ⟨fm_mw66, List.forall_mem_cons.mpr ⟨fm_mw67, List.forall_mem_cons.mpr ⟨fm_mw68, List.forall_mem_cons.mpr ⟨fm_mw69, List.forall_mem_cons.mpr ⟨fm_mw70, List.forall_mem_cons.mpr ⟨fm_mw71, List.forall_mem_cons.mpr ⟨fm_mw72, List.forall_mem_cons.mpr ⟨fm_mw73, List.forall_mem_cons.mpr ⟨fm_mw74, List.forall_mem_cons.mpr ⟨fm_mw75, fun _ h => absurd h List.not_mem_nil⟩⟩⟩⟩⟩⟩⟩⟩⟩⟩⟩⟩⟩⟩⟩
theorem fm_mA5 : ∀ rec ∈ [fm_m76, fm_m77, fm_m78, fm_m79, fm_m80, fm_m81, fm_m82, fm_m83, fm_m84, fm_m85, fm_m86, fm_m87, fm_m88, fm_m89, fm_m90], fm_Pm rec := List.forall_mem_cons.mpr ⟨fm_mw76, List.forall_mem_cons.mpr ⟨fm_mw77, List.forall_mem_cons.mpr ⟨fm_mw78, List.forall_mem_cons.mpr ⟨fm_mw79, List.forall_mem_cons.mpr ⟨fm_mw80, List.forall_mem_cons.mpr ⟨fm_mw81, List.forall_mem_cons.mpr ⟨fm_mw82, List.forall_mem_cons.mpr ⟨fm_mw83, List.forall_mem_cons.mpr ⟨fm_mw84, List.forall_mem_cons.mpr ⟨fm_mw85, List.forall_mem_cons.mpr ⟨fm_mw86, List.forall_mem_cons.mpr ⟨fm_mw87, List.forall_mem_cons.mpr ⟨fm_mw88, List.forall_mem_cons.mpr ⟨fm_mw89, List.forall_mem_cons.mpr ⟨fm_mw90, fun _ h => absurd h List.not_mem_nil⟩⟩⟩⟩⟩⟩⟩⟩⟩⟩⟩⟩⟩⟩⟩
theorem fm_mA6 : ∀ rec ∈ [fm_m91, fm_m92, fm_m93, fm_m94, fm_m95, fm_m96, fm_m97, fm_m98, fm_m99, fm_m100, fm_m101, fm_m102, fm_m103, fm_m104, fm_m105], fm_Pm rec := List.forall_mem_cons.mpr ⟨fm_mw91, List.forall_mem_cons.mpr ⟨fm_mw92, List.forall_mem_cons.mpr ⟨fm_mw93, List.forall_mem_cons.mpr ⟨fm_mw94, List.forall_mem_cons.mpr ⟨fm_mw95, List.forall_mem_cons.mpr ⟨fm_mw96, List.forall_mem_cons.mpr ⟨fm_mw97, List.forall_mem_cons.mpr ⟨fm_mw98, List.forall_mem_cons.mpr ⟨fm_mw99, List.forall_mem_cons.mpr ⟨fm_mw100, List.forall_mem_cons.mpr ⟨fm_mw101, List.forall_mem_cons.mpr ⟨fm_mw102, List.forall_mem_cons.mpr ⟨fm_mw103, List.forall_mem_cons.mpr ⟨fm_mw104, List.forall_mem_cons.mpr ⟨fm_mw105, fun _ h => absurd h List.not_mem_nil⟩⟩⟩⟩⟩⟩⟩⟩⟩⟩⟩⟩⟩⟩⟩
theorem fm_mA7 : ∀ rec ∈ [fm_m106, fm_m107, fm_m108, fm_m109, fm_m110, fm_m111, fm_m112, fm_m113, fm_m114, fm_m115, fm_m116, fm_m117, fm_m118, fm_m119, fm_m120], fm_Pm rec := List.forall_mem_cons.mpr ⟨fm_mw106, List.forall_mem_cons.mpr ⟨fm_mw107, List.forall_mem_cons.mpr ⟨fm_mw108, List.forall_mem_cons.mpr ⟨fm_mw109, List.forall_mem_cons.mpr ⟨fm_mw110, List.forall_mem_cons.mpr ⟨fm_mw111, List.forall_mem_cons.mpr ⟨fm_mw112, List.forall_mem_cons.mpr ⟨fm_mw113, List.forall_mem_cons.mpr ⟨fm_mw114, List.forall_mem_cons.mpr ⟨fm_mw115, List.forall_mem_cons.mpr ⟨fm_mw116, List.forall_mem_cons.mpr ⟨fm_mw117, List.forall_mem_cons.mpr ⟨fm_mw118, List.forall_mem_cons.mpr ⟨fm_mw119, List.forall_mem_cons.mpr ⟨fm_mw120, fun _ h => absurd h List.not_mem_nil⟩⟩⟩⟩⟩⟩⟩⟩⟩⟩⟩⟩⟩⟩⟩
theorem fm_mA8 : ∀ rec ∈ [fm_m121, fm_m122, fm_m123, fm_m124, fm_m125, fm_m126, fm_m127, fm_m128, fm_m129, fm_m130, fm_m131, fm_m132, fm_m133, fm_m134, fm_m135], fm_Pm rec := List.forall_mem_cons.mpr ⟨fm_mw121, List.forall_mem_cons.mpr ⟨fm_mw122, List.forall_mem_cons.mpr ⟨fm_mw123, List.forall_mem_cons.mpr ⟨fm_mw124, List.forall_mem_cons.mpr ⟨fm_mw125, List.forall_mem_cons.mpr ⟨fm_mw126, List.forall_mem_cons.mpr ⟨fm_mw127, List.forall_mem_cons.mpr ⟨fm_mw128, List.forall_mem_cons.mpr ⟨fm_mw129, List.forall_mem_cons.mpr ⟨fm_mw130, List.forall_mem_cons.mpr ⟨fm_mw131, List.forall_mem_cons.mpr ⟨fm_mw132, List.forall_mem_cons.mpr ⟨fm_mw133, List.forall_mem_cons.mpr ⟨fm_mw134, List.forall_mem_cons.mpr ⟨fm_mw135, fun _ h => absurd h List.not_mem_nil⟩⟩⟩⟩⟩⟩⟩⟩⟩⟩⟩⟩⟩⟩⟩
theorem fm_mA9 : ∀ rec ∈ [fm_m136, fm_m137, fm_m138, fm_m139, fm_m140, fm_m141, fm_m142, fm_m143, fm_m144, fm_m145, fm_m146, fm_m147, fm_m148, fm_m149, fm_m150], fm_Pm rec := List.forall_mem_cons.mpr ⟨fm_mw136, List.forall_mem_cons.mpr ⟨fm_mw137, List.forall_mem_cons.mpr ⟨fm_mw138, List.forall_mem_cons.mpr ⟨fm_mw139, List.forall_mem_cons.mpr ⟨fm_mw140, List.forall_mem_cons.mpr ⟨fm_mw141, List.forall_mem_cons.mpr ⟨fm_mw142, List.forall_mem_cons.mpr ⟨fm_mw143, List.forall_mem_cons.mpr ⟨fm_mw144, List.forall_mem_cons.mpr ⟨fm_mw145, List.forall_mem_cons.mpr ⟨fm_mw146, List.forall_mem_cons.mpr ⟨fm_mw147, List.forall_mem_cons.mpr ⟨fm_mw148, List.forall_mem_cons.mpr ⟨fm_mw149, List.forall_mem_cons.mpr ⟨fm_mw150, fun _ h => absurd h List.not_mem_nil⟩⟩⟩⟩⟩⟩⟩⟩⟩⟩⟩⟩⟩⟩⟩
theorem fm_mA10 : ∀ rec ∈ [fm_m151, fm_m152, fm_m153, fm_m154, fm_m155, fm_m156, fm_m157, fm_m158, fm_m159, fm_m160, fm_m161, fm_m162, fm_m163, fm_m164, fm_m165], fm_Pm rec := List.forall_mem_cons.mpr ⟨fm_mw151, List.forall_mem_cons.mpr ⟨fm_mw152, List.forall_mem_cons.mpr ⟨fm_mw153, List.forall_mem_cons.mpr ⟨fm_mw154, List.forall_mem_cons.mpr ⟨fm_mw155, List.forall_mem_cons.mpr ⟨fm_mw156, List.forall_mem_cons.mpr ⟨fm_mw157, List.forall_mem_cons.mpr ⟨fm_mw158, List.forall_mem_cons.mpr ⟨fm_mw159, List.forall_mem_cons.mpr ⟨fm_mw160, List.forall_mem_cons.mpr ⟨fm_mw161, List.forall_mem_cons.mpr ⟨fm_mw162, List.forall_mem_cons.mpr ⟨fm_mw163, List.forall_mem_cons.mpr ⟨fm_mw164, List.forall_mem_cons.mpr ⟨fm_mw165, fun _ h => absurd h List.not_mem_nil⟩⟩⟩⟩⟩⟩⟩⟩⟩⟩⟩⟩⟩⟩⟩
theorem fm_mA11 : ∀ rec ∈ [fm_m166, fm_m167, fm_m168, fm_m169, fm_m170, fm_m171], fm_Pm rec := List.forall_mem_cons.mpr ⟨fm_mw166, List.forall_mem_cons.mpr ⟨fm_mw167, List.forall_mem_cons.mpr ⟨fm_mw168, List.forall_mem_cons.mpr ⟨fm_mw169, List.forall_mem_cons.mpr ⟨fm_mw170, List.forall_mem_cons.mpr ⟨fm_mw171, fun _ h => absurd h List.not_mem_nil⟩⟩⟩⟩⟩⟩
theorem fm_mA : ∀ rec ∈ [fm_m1, fm_m2, fm_m3, fm_m4, fm_m5, fm_m6, fm_m7, fm_m8, fm_m9, fm_m10, fm_m11, fm_m12, fm_m13, fm_m14, fm_m15] ++ ([fm_m16, fm_m17, fm_m18, fm_m19, fm_m20, fm_m21, fm_m22, fm_m23, fm_m24, fm_m25, fm_m26, fm_m27, fm_m28, fm_m29, fm_m30] ++ ([fm_m31, fm_m32, fm_m33, fm_m34, fm_m35, fm_m36, fm_m37, fm_m38, fm_m39, fm_m40, fm_m41, fm_m42, fm_m43, fm_m44, fm_m45] ++ ([fm_m46, fm_m47, fm_m48, fm_m49, fm_m50, fm_m51, fm_m52, fm_m53, fm_m54, fm_m55, fm_m56, fm_m57, fm_m58, fm_m59, fm_m60] ++ ([fm_m61, fm_m62, fm_m63, fm_m64, fm_m65, fm_m66, fm_m67, fm_m68, fm_m69, fm_m70, fm_m71, fm_m72, fm_m73, fm_m74, fm_m75] ++ ([fm_m76, fm_m77, fm_m78, fm_m79, fm_m80, fm_m81, fm_m82, fm_m83, fm_m84, fm_m85, fm_m86, fm_m87, fm_m88, fm_m89, fm_m90] ++ ([fm_m91, fm_m92, fm_m93, fm_m94, fm_m95, fm_m96, fm_m97, fm_m98, fm_m99, fm_m100, fm_m101, fm_m102, fm_m103, fm_m104, fm_m105] ++ ([fm_m106, fm_m107, fm_m108, fm_m109, fm_m110, fm_m111, fm_m112, fm_m113, fm_m114, fm_m115, fm_m116, fm_m117, fm_m118, fm_m119, fm_m120] ++ ([fm_m121, fm_m122, fm_m123, fm_m124, fm_m125, fm_m126, fm_m127, fm_m128, fm_m129, fm_m130, fm_m131, fm_m132, fm_m133, fm_m134, fm_m135] ++ ([fm_m136, fm_m137, fm_m138, fm_m139, fm_m140, fm_m141, fm_m142, fm_m143, fm_m144, fm_m145, fm_m146, fm_m147, fm_m148, fm_m149, fm_m150] ++ ([fm_m151, fm_m152, fm_m153, fm_m154, fm_m155, fm_m156, fm_m157, fm_m158, fm_m159, fm_m160, fm_m161, fm_m162, fm_m163, fm_m164, fm_m165] ++ ([fm_m166, fm_m167, fm_m168, fm_m169, fm_m170, fm_m171]))))))))))), fm_Pm rec := List.forall_mem_append.mpr ⟨fm_mA0, List.forall_mem_append.mpr ⟨fm_mA1, List.forall_mem_append.mpr ⟨fm_mA2, List.forall_mem_append.mpr ⟨fm_mA3, List.forall_mem_append.mpr ⟨fm_mA4, List.forall_mem_append.mpr ⟨fm_mA5, List.forall_mem_append.mpr ⟨fm_mA6, List.forall_mem_append.mpr ⟨fm_mA7, List.forall_mem_append.mpr ⟨fm_mA8, List.forall_mem_append.mpr ⟨fm_mA9, List.forall_mem_append.mpr ⟨fm_mA10, fm_mA11⟩⟩⟩⟩⟩⟩⟩⟩⟩⟩⟩
theorem fm_mAt {i : Nat} {rec : fm_MR} (h0 : 0 < i) (h : fm_ms[i]? = some rec) : fm_Pm rec := by
  refine fm_mA rec ?_
  cases i with
  | zero => cases h0
  | succ i => exact List.mem_of_getElem? (i := i) h
def fm_cB (z : (String × Nat × Nat × Nat × Option String) × List Nat) : Bool := Nat.blt 0 z.1.2.2.1 && (match fm_ms[z.1.2.2.1]? with
  | some r9 => (match z.1.2.2.2.2 with
      | none => fm_inT (z.2.getD 0 0) (Cond.methodLink z.1.1 z.1.2.1 r9.1)
      | some h => fm_inT (z.2.getD 0 0) (Cond.methodLinkNest z.1.1 z.1.2.1 r9.1 h)) &&
    (match z.1.2.2.2.1 with
      | 0 => fm_inT (z.2.getD 1 0) (Cond.instanceMethod r9.1) && fm_inT (z.2.getD 2 0) (Cond.selects r9.1.cls r9.1 r9.1) && r9.2.2.2.2.1.isEmpty
      | 1 => fm_inT (z.2.getD 1 0) (Cond.static r9.1) && (r9.2.2.2.2.1.isEmpty || z.1.2.2.2.2.isNone)
      | _ => decide (r9.1.name = "<init>") && fm_inT (z.2.getD 1 0) (Cond.instanceMethod r9.1) && r9.2.2.2.2.1.isEmpty && r9.2.2.2.1.isNone)
  | none => false)
theorem fm_cBA : fm_tI.all fm_cB = true := by decide +kernel
theorem fm_Cl0 : fm_CallOk fm_T0 fm_ms := by
  intro q hq rec hrec
  obtain ⟨z, hz, rfl⟩ := List.mem_map.mp (show q ∈ fm_tI.map Prod.fst from hq)
  have h := List.all_eq_true.mp fm_cBA z hz
  unfold fm_cB at h
  simp only [Bool.and_eq_true] at h
  obtain ⟨h0, h⟩ := h
  rw [hrec] at h
  simp only [Bool.and_eq_true] at h
  obtain ⟨h1, h2⟩ := h
  obtain ⟨m1, m2, m3⟩ := fm_mAt (by simpa using h0) hrec
  obtain ⟨⟨z1, z2, z3, z4, z5⟩, ix⟩ := z
  dsimp only at h1 h2 hrec ⊢
  refine ⟨m1, m2, m3, ?_, ?_⟩
  · cases z5 with
    | none => exact fm_inT_ok h1
    | some hst => exact fm_inT_ok h1
  · match z4, h2 with
    | 0, h2 =>
      simp only [Bool.and_eq_true] at h2
      exact ⟨fm_inT_ok h2.1.1, fm_inT_ok h2.1.2, List.isEmpty_iff.mp h2.2⟩
    | 1, h2 =>
      simp only [Bool.and_eq_true, Bool.or_eq_true] at h2
      exact ⟨fm_inT_ok h2.1, h2.2.elim (fun y => Or.inl (List.isEmpty_iff.mp y)) (fun y => Or.inr (Option.isNone_iff_eq_none.mp y))⟩
    | (_ + 2), h2 =>
      simp only [Bool.and_eq_true] at h2
      exact ⟨of_decide_eq_true h2.1.1.1, fm_inT_ok h2.1.1.2, List.isEmpty_iff.mp h2.1.2, Option.isNone_iff_eq_none.mp h2.2⟩
theorem fm_tFA : fm_tF.all (fun z => fm_inT z.2 (fm_fw z.1)) = true := by decide +kernel
theorem fm_Tb0 : fm_TbOk fm_T0 := by
  refine ⟨fun q hq => ?_, by decide +kernel, by decide +kernel, by decide +kernel, by decide +kernel, by decide +kernel, by decide +kernel, by decide +kernel, by decide +kernel, by decide +kernel, by decide +kernel⟩
  obtain ⟨z, hz, rfl⟩ := List.mem_map.mp (show q ∈ fm_tF.map Prod.fst from hq)
  exact fm_inT_ok (List.all_eq_true.mp fm_tFA z hz)
theorem fm_Th0 : fm_ThOk fm_T0 := by
  unfold fm_ThOk
  decide +kernel
theorem fm_Ca0 : fm_CaOk := by
  unfold fm_CaOk
  decide +kernel
def fm_mckI (i : Nat) : Bool := match fm_ms[i]? with
  | some r9 => fm_mck fm_T0 fm_ms (fm_codes.getD i []) (fm_hnds.getD i []) (fm_maxL.getD i 0) r9
  | none => true
theorem fm_mk0 : (List.range' 0 9).all fm_mckI = true := by decide +kernel
theorem fm_mk1 : (List.range' 9 9).all fm_mckI = true := by decide +kernel
theorem fm_mk2 : (List.range' 18 9).all fm_mckI = true := by decide +kernel
theorem fm_mk3 : (List.range' 27 9).all fm_mckI = true := by decide +kernel
theorem fm_mk4 : (List.range' 36 9).all fm_mckI = true := by decide +kernel
theorem fm_mk5 : (List.range' 45 9).all fm_mckI = true := by decide +kernel
theorem fm_mk6 : (List.range' 54 9).all fm_mckI = true := by decide +kernel
theorem fm_mk7 : (List.range' 63 9).all fm_mckI = true := by decide +kernel
theorem fm_mk8 : (List.range' 72 9).all fm_mckI = true := by decide +kernel
theorem fm_mk9 : (List.range' 81 9).all fm_mckI = true := by decide +kernel
theorem fm_mk10 : (List.range' 90 9).all fm_mckI = true := by decide +kernel
theorem fm_mk11 : (List.range' 99 9).all fm_mckI = true := by decide +kernel
theorem fm_mk12 : (List.range' 108 9).all fm_mckI = true := by decide +kernel
theorem fm_mk13 : (List.range' 117 9).all fm_mckI = true := by decide +kernel
theorem fm_mk14 : (List.range' 126 9).all fm_mckI = true := by decide +kernel
theorem fm_mk15 : (List.range' 135 9).all fm_mckI = true := by decide +kernel
theorem fm_mk16 : (List.range' 144 9).all fm_mckI = true := by decide +kernel
theorem fm_mk17 : (List.range' 153 9).all fm_mckI = true := by decide +kernel
theorem fm_mk18 : (List.range' 162 9).all fm_mckI = true := by decide +kernel
theorem fm_mk19 : (List.range' 171 9).all fm_mckI = true := by decide +kernel
theorem fm_mkA {i : Nat} (hi : i < 172) : fm_mckI i = true := by
  by_cases h0 : i < 9
  · exact List.all_eq_true.mp fm_mk0 i (List.mem_range'_1.mpr ⟨by omega, by omega⟩)
  by_cases h1 : i < 18
  · exact List.all_eq_true.mp fm_mk1 i (List.mem_range'_1.mpr ⟨by omega, by omega⟩)
  by_cases h2 : i < 27
  · exact List.all_eq_true.mp fm_mk2 i (List.mem_range'_1.mpr ⟨by omega, by omega⟩)
  by_cases h3 : i < 36
  · exact List.all_eq_true.mp fm_mk3 i (List.mem_range'_1.mpr ⟨by omega, by omega⟩)
  by_cases h4 : i < 45
  · exact List.all_eq_true.mp fm_mk4 i (List.mem_range'_1.mpr ⟨by omega, by omega⟩)
  by_cases h5 : i < 54
  · exact List.all_eq_true.mp fm_mk5 i (List.mem_range'_1.mpr ⟨by omega, by omega⟩)
  by_cases h6 : i < 63
  · exact List.all_eq_true.mp fm_mk6 i (List.mem_range'_1.mpr ⟨by omega, by omega⟩)
  by_cases h7 : i < 72
  · exact List.all_eq_true.mp fm_mk7 i (List.mem_range'_1.mpr ⟨by omega, by omega⟩)
  by_cases h8 : i < 81
  · exact List.all_eq_true.mp fm_mk8 i (List.mem_range'_1.mpr ⟨by omega, by omega⟩)
  by_cases h9 : i < 90
  · exact List.all_eq_true.mp fm_mk9 i (List.mem_range'_1.mpr ⟨by omega, by omega⟩)
  by_cases h10 : i < 99
  · exact List.all_eq_true.mp fm_mk10 i (List.mem_range'_1.mpr ⟨by omega, by omega⟩)
  by_cases h11 : i < 108
  · exact List.all_eq_true.mp fm_mk11 i (List.mem_range'_1.mpr ⟨by omega, by omega⟩)
  by_cases h12 : i < 117
  · exact List.all_eq_true.mp fm_mk12 i (List.mem_range'_1.mpr ⟨by omega, by omega⟩)
  by_cases h13 : i < 126
  · exact List.all_eq_true.mp fm_mk13 i (List.mem_range'_1.mpr ⟨by omega, by omega⟩)
  by_cases h14 : i < 135
  · exact List.all_eq_true.mp fm_mk14 i (List.mem_range'_1.mpr ⟨by omega, by omega⟩)
  by_cases h15 : i < 144
  · exact List.all_eq_true.mp fm_mk15 i (List.mem_range'_1.mpr ⟨by omega, by omega⟩)
  by_cases h16 : i < 153
  · exact List.all_eq_true.mp fm_mk16 i (List.mem_range'_1.mpr ⟨by omega, by omega⟩)
  by_cases h17 : i < 162
  · exact List.all_eq_true.mp fm_mk17 i (List.mem_range'_1.mpr ⟨by omega, by omega⟩)
  by_cases h18 : i < 171
  · exact List.all_eq_true.mp fm_mk18 i (List.mem_range'_1.mpr ⟨by omega, by omega⟩)
  by_cases h19 : i < 180
  · exact List.all_eq_true.mp fm_mk19 i (List.mem_range'_1.mpr ⟨by omega, by omega⟩)
  omega
theorem fm_All0 (X : Nat × (Nat → Int32)) : fm_All fm_T0 fm_ms (fm_PP X) := by
  intro mi rec h
  have hlt : mi < 172 := (List.getElem?_eq_some_iff.mp h).1
  have hk := fm_mkA hlt
  unfold fm_mckI at hk
  rw [h] at hk
  exact hk
