/-! what is checked of the tables: once and for all, by computing -/
abbrev fm_Pm (rec : fm_MR) : Prop := fm_cw rec ∈ lw_tbl ∧ Cond.initialized rec.1.cls ∈ lw_tbl ∧ (rec.1.cls ≠ "java/lang/invoke/MethodHandle" ∧ rec.1.cls ≠ "java/lang/invoke/VarHandle" ∧ (parseMethodDescriptor rec.1.desc).map (fun d => d.parameters.length) = some rec.2.2.2.2.2.1)
theorem fm_mA0 : ∀ rec ∈ [fm_m1, fm_m2, fm_m3, fm_m4, fm_m5, fm_m6, fm_m7, fm_m8, fm_m9, fm_m10, fm_m11, fm_m12, fm_m13, fm_m14, fm_m15], fm_Pm rec := List.forall_mem_cons.mpr ⟨fm_mw1, List.forall_mem_cons.mpr ⟨fm_mw2, List.forall_mem_cons.mpr ⟨fm_mw3, List.forall_mem_cons.mpr ⟨fm_mw4, List.forall_mem_cons.mpr ⟨fm_mw5, List.forall_mem_cons.mpr ⟨fm_mw6, List.forall_mem_cons.mpr ⟨fm_mw7, List.forall_mem_cons.mpr ⟨fm_mw8, List.forall_mem_cons.mpr ⟨fm_mw9, List.forall_mem_cons.mpr ⟨fm_mw10, List.forall_mem_cons.mpr ⟨fm_mw11, List.forall_mem_cons.mpr ⟨fm_mw12, List.forall_mem_cons.mpr ⟨fm_mw13, List.forall_mem_cons.mpr ⟨fm_mw14, List.forall_mem_cons.mpr ⟨fm_mw15, fun _ h => absurd h List.not_mem_nil⟩⟩⟩⟩⟩⟩⟩⟩⟩⟩⟩⟩⟩⟩⟩
theorem fm_mA1 : ∀ rec ∈ [fm_m16, fm_m17, fm_m18, fm_m19, fm_m20, fm_m21, fm_m22, fm_m23, fm_m24, fm_m25, fm_m26, fm_m27, fm_m28, fm_m29, fm_m30], fm_Pm rec := List.forall_mem_cons.mpr ⟨fm_mw16, List.forall_mem_cons.mpr ⟨fm_mw17, List.forall_mem_cons.mpr ⟨fm_mw18, List.forall_mem_cons.mpr ⟨fm_mw19, List.forall_mem_cons.mpr ⟨fm_mw20, List.forall_mem_cons.mpr ⟨fm_mw21, List.forall_mem_cons.mpr ⟨fm_mw22, List.forall_mem_cons.mpr ⟨fm_mw23, List.forall_mem_cons.mpr ⟨fm_mw24, List.forall_mem_cons.mpr ⟨fm_mw25, List.forall_mem_cons.mpr ⟨fm_mw26, List.forall_mem_cons.mpr ⟨fm_mw27, List.forall_mem_cons.mpr ⟨fm_mw28, List.forall_mem_cons.mpr ⟨fm_mw29, List.forall_mem_cons.mpr ⟨fm_mw30, fun _ h => absurd h List.not_mem_nil⟩⟩⟩⟩⟩⟩⟩⟩⟩⟩⟩⟩⟩⟩⟩
theorem fm_mA2 : ∀ rec ∈ [fm_m31, fm_m32, fm_m33, fm_m34, fm_m35, fm_m36, fm_m37, fm_m38, fm_m39, fm_m40, fm_m41, fm_m42, fm_m43, fm_m44, fm_m45], fm_Pm rec := List.forall_mem_cons.mpr ⟨fm_mw31, List.forall_mem_cons.mpr ⟨fm_mw32, List.forall_mem_cons.mpr ⟨fm_mw33, List.forall_mem_cons.mpr ⟨fm_mw34, List.forall_mem_cons.mpr ⟨fm_mw35, List.forall_mem_cons.mpr ⟨fm_mw36, List.forall_mem_cons.mpr ⟨fm_mw37, List.forall_mem_cons.mpr ⟨fm_mw38, List.forall_mem_cons.mpr ⟨fm_mw39, List.forall_mem_cons.mpr ⟨fm_mw40, List.forall_mem_cons.mpr ⟨fm_mw41, List.forall_mem_cons.mpr ⟨fm_mw42, List.forall_mem_cons.mpr ⟨fm_mw43, List.forall_mem_cons.mpr ⟨fm_mw44, List.forall_mem_cons.mpr ⟨fm_mw45, fun _ h => absurd h List.not_mem_nil⟩⟩⟩⟩⟩⟩⟩⟩⟩⟩⟩⟩⟩⟩⟩
theorem fm_mA3 : ∀ rec ∈ [fm_m46, fm_m47, fm_m48, fm_m49, fm_m50, fm_m51, fm_m52, fm_m53, fm_m54, fm_m55, fm_m56, fm_m57, fm_m58, fm_m59, fm_m60], fm_Pm rec := List.forall_mem_cons.mpr ⟨fm_mw46, List.forall_mem_cons.mpr ⟨fm_mw47, List.forall_mem_cons.mpr ⟨fm_mw48, List.forall_mem_cons.mpr ⟨fm_mw49, List.forall_mem_cons.mpr ⟨fm_mw50, List.forall_mem_cons.mpr ⟨fm_mw51, List.forall_mem_cons.mpr ⟨fm_mw52, List.forall_mem_cons.mpr ⟨fm_mw53, List.forall_mem_cons.mpr ⟨fm_mw54, List.forall_mem_cons.mpr ⟨fm_mw55, List.forall_mem_cons.mpr ⟨fm_mw56, List.forall_mem_cons.mpr ⟨fm_mw57, List.forall_mem_cons.mpr ⟨fm_mw58, List.forall_mem_cons.mpr ⟨fm_mw59, List.forall_mem_cons.mpr ⟨fm_mw60, fun _ h => absurd h List.not_mem_nil⟩⟩⟩⟩⟩⟩⟩⟩⟩⟩⟩⟩⟩⟩⟩
theorem fm_mA4 : ∀ rec ∈ [fm_m61, fm_m62, fm_m63, fm_m64, fm_m65, fm_m66, fm_m67, fm_m68, fm_m69, fm_m70, fm_m71, fm_m72, fm_m73, fm_m74, fm_m75], fm_Pm rec := List.forall_mem_cons.mpr ⟨fm_mw61, List.forall_mem_cons.mpr ⟨fm_mw62, List.forall_mem_cons.mpr ⟨fm_mw63, List.forall_mem_cons.mpr ⟨fm_mw64, List.forall_mem_cons.mpr ⟨fm_mw65, List.forall_mem_cons.mpr ⟨fm_mw66, List.forall_mem_cons.mpr ⟨fm_mw67, List.forall_mem_cons.mpr ⟨fm_mw68, List.forall_mem_cons.mpr ⟨fm_mw69, List.forall_mem_cons.mpr ⟨fm_mw70, List.forall_mem_cons.mpr ⟨fm_mw71, List.forall_mem_cons.mpr ⟨fm_mw72, List.forall_mem_cons.mpr ⟨fm_mw73, List.forall_mem_cons.mpr ⟨fm_mw74, List.forall_mem_cons.mpr ⟨fm_mw75, fun _ h => absurd h List.not_mem_nil⟩⟩⟩⟩⟩⟩⟩⟩⟩⟩⟩⟩⟩⟩⟩
theorem fm_mA5 : ∀ rec ∈ [fm_m76, fm_m77, fm_m78, fm_m79, fm_m80, fm_m81, fm_m82, fm_m83, fm_m84, fm_m85, fm_m86, fm_m87, fm_m88, fm_m89, fm_m90], fm_Pm rec := List.forall_mem_cons.mpr ⟨fm_mw76, List.forall_mem_cons.mpr ⟨fm_mw77, List.forall_mem_cons.mpr ⟨fm_mw78, List.forall_mem_cons.mpr ⟨fm_mw79, List.forall_mem_cons.mpr ⟨fm_mw80, List.forall_mem_cons.mpr ⟨fm_mw81, List.forall_mem_cons.mpr ⟨fm_mw82, List.forall_mem_cons.mpr ⟨fm_mw83, List.forall_mem_cons.mpr ⟨fm_mw84, List.forall_mem_cons.mpr ⟨fm_mw85, List.forall_mem_cons.mpr ⟨fm_mw86, List.forall_mem_cons.mpr ⟨fm_mw87, List.forall_mem_cons.mpr ⟨fm_mw88, List.forall_mem_cons.mpr ⟨fm_mw89, List.forall_mem_cons.mpr ⟨fm_mw90, fun _ h => absurd h List.not_mem_nil⟩⟩⟩⟩⟩⟩⟩⟩⟩⟩⟩⟩⟩⟩⟩
theorem fm_mA6 : ∀ rec ∈ [fm_m91, fm_m92, fm_m93, fm_m94, fm_m95, fm_m96, fm_m97, fm_m98, fm_m99, fm_m100, fm_m101, fm_m102, fm_m103, fm_m104, fm_m105], fm_Pm rec := List.forall_mem_cons.mpr ⟨fm_mw91, List.forall_mem_cons.mpr ⟨fm_mw92, List.forall_mem_cons.mpr ⟨fm_mw93, List.forall_mem_cons.mpr ⟨fm_mw94, List.forall_mem_cons.mpr ⟨fm_mw95, List.forall_mem_cons.mpr ⟨fm_mw96, List.forall_mem_cons.mpr ⟨fm_mw97, List.forall_mem_cons.mpr ⟨fm_mw98, List.forall_mem_cons.mpr ⟨fm_mw99, List.forall_mem_cons.mpr ⟨fm_mw100, List.forall_mem_cons.mpr ⟨fm_mw101, List.forall_mem_cons.mpr ⟨fm_mw102, List.forall_mem_cons.mpr ⟨fm_mw103, List.forall_mem_cons.mpr ⟨fm_mw104, List.forall_mem_cons.mpr ⟨fm_mw105, fun _ h => absurd h List.not_mem_nil⟩⟩⟩⟩⟩⟩⟩⟩⟩⟩⟩⟩⟩⟩⟩
theorem fm_mA7 : ∀ rec ∈ [fm_m106, fm_m107, fm_m108, fm_m109, fm_m110, fm_m111, fm_m112, fm_m113, fm_m114, fm_m115, fm_m116, fm_m117, fm_m118, fm_m119, fm_m120], fm_Pm rec := List.forall_mem_cons.mpr ⟨fm_mw106, List.forall_mem_cons.mpr ⟨fm_mw107, List.forall_mem_cons.mpr ⟨fm_mw108, List.forall_mem_cons.mpr ⟨fm_mw109, List.forall_mem_cons.mpr ⟨fm_mw110, List.forall_mem_cons.mpr ⟨fm_mw111, List.forall_mem_cons.mpr ⟨fm_mw112, List.forall_mem_cons.mpr ⟨fm_mw113, List.forall_mem_cons.mpr ⟨fm_mw114, List.forall_mem_cons.mpr ⟨fm_mw115, List.forall_mem_cons.mpr ⟨fm_mw116, List.forall_mem_cons.mpr ⟨fm_mw117, List.forall_mem_cons.mpr ⟨fm_mw118, List.forall_mem_cons.mpr ⟨fm_mw119, List.forall_mem_cons.mpr ⟨fm_mw120, fun _ h => absurd h List.not_mem_nil⟩⟩⟩⟩⟩⟩⟩⟩⟩⟩⟩⟩⟩⟩⟩
theorem fm_mA8 : ∀ rec ∈ [fm_m121, fm_m122, fm_m123, fm_m124, fm_m125, fm_m126, fm_m127, fm_m128, fm_m129, fm_m130, fm_m131, fm_m132, fm_m133, fm_m134, fm_m135], fm_Pm rec := List.forall_mem_cons.mpr ⟨fm_mw121, List.forall_mem_cons.mpr ⟨fm_mw122, List.forall_mem_cons.mpr ⟨fm_mw123, List.forall_mem_cons.mpr ⟨fm_mw124, List.forall_mem_cons.mpr ⟨fm_mw125, List.forall_mem_cons.mpr ⟨fm_mw126, List.forall_mem_cons.mpr ⟨fm_mw127, List.forall_mem_cons.mpr ⟨fm_mw128, List.forall_mem_cons.mpr ⟨fm_mw129, List.forall_mem_cons.mpr ⟨fm_mw130, List.forall_mem_cons.mpr ⟨fm_mw131, List.forall_mem_cons.mpr ⟨fm_mw132, List.forall_mem_cons.mpr ⟨fm_mw133, List.forall_mem_cons.mpr ⟨fm_mw134, List.forall_mem_cons.mpr ⟨fm_mw135, fun _ h => absurd h List.not_mem_nil⟩⟩⟩⟩⟩⟩⟩⟩⟩⟩⟩⟩⟩⟩⟩
theorem fm_mA9 : ∀ rec ∈ [fm_m136, fm_m137, fm_m138, fm_m139, fm_m140, fm_m141, fm_m142, fm_m143, fm_m144, fm_m145, fm_m146, fm_m147, fm_m148, fm_m149, fm_m150], fm_Pm rec := List.forall_mem_cons.mpr ⟨fm_mw136, List.forall_mem_cons.mpr ⟨fm_mw137, List.forall_mem_cons.mpr ⟨fm_mw138, List.forall_mem_cons.mpr ⟨fm_mw139, List.forall_mem_cons.mpr ⟨fm_mw140, List.forall_mem_cons.mpr ⟨fm_mw141, List.forall_mem_cons.mpr ⟨fm_mw142, List.forall_mem_cons.mpr ⟨fm_mw143, List.forall_mem_cons.mpr ⟨fm_mw144, List.forall_mem_cons.mpr ⟨fm_mw145, List.forall_mem_cons.mpr ⟨fm_mw146, List.forall_mem_cons.mpr ⟨fm_mw147, List.forall_mem_cons.mpr ⟨fm_mw148, List.forall_mem_cons.mpr ⟨fm_mw149, List.forall_mem_cons.mpr ⟨fm_mw150, fun _ h => absurd h List.not_mem_nil⟩⟩⟩⟩⟩⟩⟩⟩⟩⟩⟩⟩⟩⟩⟩
theorem fm_mA10 : ∀ rec ∈ [fm_m151, fm_m152, fm_m153, fm_m154, fm_m155, fm_m156, fm_m157, fm_m158, fm_m159, fm_m160, fm_m161, fm_m162, fm_m163, fm_m164, fm_m165], fm_Pm rec := List.forall_mem_cons.mpr ⟨fm_mw151, List.forall_mem_cons.mpr ⟨fm_mw152, List.forall_mem_cons.mpr ⟨fm_mw153, List.forall_mem_cons.mpr ⟨fm_mw154, List.forall_mem_cons.mpr ⟨fm_mw155, List.forall_mem_cons.mpr ⟨fm_mw156, List.forall_mem_cons.mpr ⟨fm_mw157, List.forall_mem_cons.mpr ⟨fm_mw158, List.forall_mem_cons.mpr ⟨fm_mw159, List.forall_mem_cons.mpr ⟨fm_mw160, List.forall_mem_cons.mpr ⟨fm_mw161, List.forall_mem_cons.mpr ⟨fm_mw162, List.forall_mem_cons.mpr ⟨fm_mw163, List.forall_mem_cons.mpr ⟨fm_mw164, List.forall_mem_cons.mpr ⟨fm_mw165, fun _ h => absurd h List.not_mem_nil⟩⟩⟩⟩⟩⟩⟩⟩⟩⟩⟩⟩⟩⟩⟩
theorem fm_mA11 : ∀ rec ∈ [fm_m166, fm_m167, fm_m168, fm_m169, fm_m170, fm_m171, fm_m172, fm_m173, fm_m174, fm_m175, fm_m176, fm_m177, fm_m178, fm_m179, fm_m180], fm_Pm rec := List.forall_mem_cons.mpr ⟨fm_mw166, List.forall_mem_cons.mpr ⟨fm_mw167, List.forall_mem_cons.mpr ⟨fm_mw168, List.forall_mem_cons.mpr ⟨fm_mw169, List.forall_mem_cons.mpr ⟨fm_mw170, List.forall_mem_cons.mpr ⟨fm_mw171, List.forall_mem_cons.mpr ⟨fm_mw172, List.forall_mem_cons.mpr ⟨fm_mw173, List.forall_mem_cons.mpr ⟨fm_mw174, List.forall_mem_cons.mpr ⟨fm_mw175, List.forall_mem_cons.mpr ⟨fm_mw176, List.forall_mem_cons.mpr ⟨fm_mw177, List.forall_mem_cons.mpr ⟨fm_mw178, List.forall_mem_cons.mpr ⟨fm_mw179, List.forall_mem_cons.mpr ⟨fm_mw180, fun _ h => absurd h List.not_mem_nil⟩⟩⟩⟩⟩⟩⟩⟩⟩⟩⟩⟩⟩⟩⟩
theorem fm_mA12 : ∀ rec ∈ [fm_m181, fm_m182, fm_m183, fm_m184, fm_m185, fm_m186, fm_m187, fm_m188, fm_m189, fm_m190, fm_m191, fm_m192, fm_m193, fm_m194, fm_m195], fm_Pm rec := List.forall_mem_cons.mpr ⟨fm_mw181, List.forall_mem_cons.mpr ⟨fm_mw182, List.forall_mem_cons.mpr ⟨fm_mw183, List.forall_mem_cons.mpr ⟨fm_mw184, List.forall_mem_cons.mpr ⟨fm_mw185, List.forall_mem_cons.mpr ⟨fm_mw186, List.forall_mem_cons.mpr ⟨fm_mw187, List.forall_mem_cons.mpr ⟨fm_mw188, List.forall_mem_cons.mpr ⟨fm_mw189, List.forall_mem_cons.mpr ⟨fm_mw190, List.forall_mem_cons.mpr ⟨fm_mw191, List.forall_mem_cons.mpr ⟨fm_mw192, List.forall_mem_cons.mpr ⟨fm_mw193, List.forall_mem_cons.mpr ⟨fm_mw194, List.forall_mem_cons.mpr ⟨fm_mw195, fun _ h => absurd h List.not_mem_nil⟩⟩⟩⟩⟩⟩⟩⟩⟩⟩⟩⟩⟩⟩⟩
theorem fm_mA13 : ∀ rec ∈ [fm_m196, fm_m197, fm_m198, fm_m199, fm_m200, fm_m201, fm_m202, fm_m203, fm_m204, fm_m205, fm_m206, fm_m207, fm_m208, fm_m209, fm_m210], fm_Pm rec := List.forall_mem_cons.mpr ⟨fm_mw196, List.forall_mem_cons.mpr ⟨fm_mw197, List.forall_mem_cons.mpr ⟨fm_mw198, List.forall_mem_cons.mpr ⟨fm_mw199, List.forall_mem_cons.mpr ⟨fm_mw200, List.forall_mem_cons.mpr ⟨fm_mw201, List.forall_mem_cons.mpr ⟨fm_mw202, List.forall_mem_cons.mpr ⟨fm_mw203, List.forall_mem_cons.mpr ⟨fm_mw204, List.forall_mem_cons.mpr ⟨fm_mw205, List.forall_mem_cons.mpr ⟨fm_mw206, List.forall_mem_cons.mpr ⟨fm_mw207, List.forall_mem_cons.mpr ⟨fm_mw208, List.forall_mem_cons.mpr ⟨fm_mw209, List.forall_mem_cons.mpr ⟨fm_mw210, fun _ h => absurd h List.not_mem_nil⟩⟩⟩⟩⟩⟩⟩⟩⟩⟩⟩⟩⟩⟩⟩
theorem fm_mA14 : ∀ rec ∈ [fm_m211, fm_m212, fm_m213, fm_m214, fm_m215, fm_m216, fm_m217, fm_m218, fm_m219, fm_m220, fm_m221, fm_m222, fm_m223, fm_m224, fm_m225], fm_Pm rec := List.forall_mem_cons.mpr ⟨fm_mw211, List.forall_mem_cons.mpr ⟨fm_mw212, List.forall_mem_cons.mpr ⟨fm_mw213, List.forall_mem_cons.mpr ⟨fm_mw214, List.forall_mem_cons.mpr ⟨fm_mw215, List.forall_mem_cons.mpr ⟨fm_mw216, List.forall_mem_cons.mpr ⟨fm_mw217, List.forall_mem_cons.mpr ⟨fm_mw218, List.forall_mem_cons.mpr ⟨fm_mw219, List.forall_mem_cons.mpr ⟨fm_mw220, List.forall_mem_cons.mpr ⟨fm_mw221, List.forall_mem_cons.mpr ⟨fm_mw222, List.forall_mem_cons.mpr ⟨fm_mw223, List.forall_mem_cons.mpr ⟨fm_mw224, List.forall_mem_cons.mpr ⟨fm_mw225, fun _ h => absurd h List.not_mem_nil⟩⟩⟩⟩⟩⟩⟩⟩⟩⟩⟩⟩⟩⟩⟩
theorem fm_mA15 : ∀ rec ∈ [fm_m226, fm_m227, fm_m228, fm_m229, fm_m230, fm_m231, fm_m232, fm_m233, fm_m234, fm_m235, fm_m236, fm_m237, fm_m238, fm_m239, fm_m240], fm_Pm rec := List.forall_mem_cons.mpr ⟨fm_mw226, List.forall_mem_cons.mpr ⟨fm_mw227, List.forall_mem_cons.mpr ⟨fm_mw228, List.forall_mem_cons.mpr ⟨fm_mw229, List.forall_mem_cons.mpr ⟨fm_mw230, List.forall_mem_cons.mpr ⟨fm_mw231, List.forall_mem_cons.mpr ⟨fm_mw232, List.forall_mem_cons.mpr ⟨fm_mw233, List.forall_mem_cons.mpr ⟨fm_mw234, List.forall_mem_cons.mpr ⟨fm_mw235, List.forall_mem_cons.mpr ⟨fm_mw236, List.forall_mem_cons.mpr ⟨fm_mw237, List.forall_mem_cons.mpr ⟨fm_mw238, List.forall_mem_cons.mpr ⟨fm_mw239, List.forall_mem_cons.mpr ⟨fm_mw240, fun _ h => absurd h List.not_mem_nil⟩⟩⟩⟩⟩⟩⟩⟩⟩⟩⟩⟩⟩⟩⟩
theorem fm_mA16 : ∀ rec ∈ [fm_m241], fm_Pm rec := List.forall_mem_cons.mpr ⟨fm_mw241, fun _ h => absurd h List.not_mem_nil⟩
theorem fm_mA : ∀ rec ∈ [fm_m1, fm_m2, fm_m3, fm_m4, fm_m5, fm_m6, fm_m7, fm_m8, fm_m9, fm_m10, fm_m11, fm_m12, fm_m13, fm_m14, fm_m15] ++ ([fm_m16, fm_m17, fm_m18, fm_m19, fm_m20, fm_m21, fm_m22, fm_m23, fm_m24, fm_m25, fm_m26, fm_m27, fm_m28, fm_m29, fm_m30] ++ ([fm_m31, fm_m32, fm_m33, fm_m34, fm_m35, fm_m36, fm_m37, fm_m38, fm_m39, fm_m40, fm_m41, fm_m42, fm_m43, fm_m44, fm_m45] ++ ([fm_m46, fm_m47, fm_m48, fm_m49, fm_m50, fm_m51, fm_m52, fm_m53, fm_m54, fm_m55, fm_m56, fm_m57, fm_m58, fm_m59, fm_m60] ++ ([fm_m61, fm_m62, fm_m63, fm_m64, fm_m65, fm_m66, fm_m67, fm_m68, fm_m69, fm_m70, fm_m71, fm_m72, fm_m73, fm_m74, fm_m75] ++ ([fm_m76, fm_m77, fm_m78, fm_m79, fm_m80, fm_m81, fm_m82, fm_m83, fm_m84, fm_m85, fm_m86, fm_m87, fm_m88, fm_m89, fm_m90] ++ ([fm_m91, fm_m92, fm_m93, fm_m94, fm_m95, fm_m96, fm_m97, fm_m98, fm_m99, fm_m100, fm_m101, fm_m102, fm_m103, fm_m104, fm_m105] ++ ([fm_m106, fm_m107, fm_m108, fm_m109, fm_m110, fm_m111, fm_m112, fm_m113, fm_m114, fm_m115, fm_m116, fm_m117, fm_m118, fm_m119, fm_m120] ++ ([fm_m121, fm_m122, fm_m123, fm_m124, fm_m125, fm_m126, fm_m127, fm_m128, fm_m129, fm_m130, fm_m131, fm_m132, fm_m133, fm_m134, fm_m135] ++ ([fm_m136, fm_m137, fm_m138, fm_m139, fm_m140, fm_m141, fm_m142, fm_m143, fm_m144, fm_m145, fm_m146, fm_m147, fm_m148, fm_m149, fm_m150] ++ ([fm_m151, fm_m152, fm_m153, fm_m154, fm_m155, fm_m156, fm_m157, fm_m158, fm_m159, fm_m160, fm_m161, fm_m162, fm_m163, fm_m164, fm_m165] ++ ([fm_m166, fm_m167, fm_m168, fm_m169, fm_m170, fm_m171, fm_m172, fm_m173, fm_m174, fm_m175, fm_m176, fm_m177, fm_m178, fm_m179, fm_m180] ++ ([fm_m181, fm_m182, fm_m183, fm_m184, fm_m185, fm_m186, fm_m187, fm_m188, fm_m189, fm_m190, fm_m191, fm_m192, fm_m193, fm_m194, fm_m195] ++ ([fm_m196, fm_m197, fm_m198, fm_m199, fm_m200, fm_m201, fm_m202, fm_m203, fm_m204, fm_m205, fm_m206, fm_m207, fm_m208, fm_m209, fm_m210] ++ ([fm_m211, fm_m212, fm_m213, fm_m214, fm_m215, fm_m216, fm_m217, fm_m218, fm_m219, fm_m220, fm_m221, fm_m222, fm_m223, fm_m224, fm_m225] ++ ([fm_m226, fm_m227, fm_m228, fm_m229, fm_m230, fm_m231, fm_m232, fm_m233, fm_m234, fm_m235, fm_m236, fm_m237, fm_m238, fm_m239, fm_m240] ++ ([fm_m241])))))))))))))))), fm_Pm rec := List.forall_mem_append.mpr ⟨fm_mA0, List.forall_mem_append.mpr ⟨fm_mA1, List.forall_mem_append.mpr ⟨fm_mA2, List.forall_mem_append.mpr ⟨fm_mA3, List.forall_mem_append.mpr ⟨fm_mA4, List.forall_mem_append.mpr ⟨fm_mA5, List.forall_mem_append.mpr ⟨fm_mA6, List.forall_mem_append.mpr ⟨fm_mA7, List.forall_mem_append.mpr ⟨fm_mA8, List.forall_mem_append.mpr ⟨fm_mA9, List.forall_mem_append.mpr ⟨fm_mA10, List.forall_mem_append.mpr ⟨fm_mA11, List.forall_mem_append.mpr ⟨fm_mA12, List.forall_mem_append.mpr ⟨fm_mA13, List.forall_mem_append.mpr ⟨fm_mA14, List.forall_mem_append.mpr ⟨fm_mA15, fm_mA16⟩⟩⟩⟩⟩⟩⟩⟩⟩⟩⟩⟩⟩⟩⟩⟩
theorem fm_mAt {i : Nat} {rec : fm_MR} (h0 : 0 < i) (h : fm_ms[i]? = some rec) : fm_Pm rec := by
  refine fm_mA rec ?_
  cases i with
  | zero => cases h0
  | succ i => exact List.mem_of_getElem? (i := i) h
def fm_cB (z : (String × Nat × Nat × Nat × Option String) × List Nat) : Bool := Nat.blt 0 z.1.2.2.1 && (match fm_ms[z.1.2.2.1]? with
  | some r9 => (match z.1.2.2.2.2 with
      | none => fm_inT (z.2.getD 0 0) (Cond.methodLink z.1.1 z.1.2.1 r9.1)
      | some h => fm_inT (z.2.getD 0 0) (Cond.methodLinkNest z.1.1 z.1.2.1 r9.1 h)) &&
    (match z.1.2.2.2.1 with
      | 0 => fm_inT (z.2.getD 1 0) (Cond.instanceMethod r9.1) && fm_inT (z.2.getD 2 0) (Cond.selects r9.1.cls r9.1 r9.1) && r9.2.2.2.2.1.isEmpty
      | 1 => fm_inT (z.2.getD 1 0) (Cond.static r9.1) && (r9.2.2.2.2.1.isEmpty || z.1.2.2.2.2.isNone)
      | _ => decide (r9.1.name = "<init>") && fm_inT (z.2.getD 1 0) (Cond.instanceMethod r9.1) && r9.2.2.2.2.1.isEmpty && r9.2.2.2.1.isNone)
  | none => false)
theorem fm_cBA : fm_tI.all fm_cB = true := by decide +kernel
theorem fm_Cl0 : fm_CallOk fm_T0 fm_ms := by
  intro q hq rec hrec
  obtain ⟨z, hz, rfl⟩ := List.mem_map.mp (show q ∈ fm_tI.map Prod.fst from hq)
  have h := List.all_eq_true.mp fm_cBA z hz
  unfold fm_cB at h
  simp only [Bool.and_eq_true] at h
  obtain ⟨h0, h⟩ := h
  rw [hrec] at h
  simp only [Bool.and_eq_true] at h
  obtain ⟨h1, h2⟩ := h
  obtain ⟨m1, m2, m3⟩ := fm_mAt (by simpa using h0) hrec
  obtain ⟨⟨z1, z2, z3, z4, z5⟩, ix⟩ := z
  dsimp only at h1 h2 hrec ⊢
  refine ⟨m1, m2, m3, ?_, ?_⟩
  · cases z5 with
    | none => exact fm_inT_ok h1
    | some hst => exact fm_inT_ok h1
  · match z4, h2 with
    | 0, h2 =>
      simp only [Bool.and_eq_true] at h2
      exact ⟨fm_inT_ok h2.1.1, fm_inT_ok h2.1.2, List.isEmpty_iff.mp h2.2⟩
    | 1, h2 =>
      simp only [Bool.and_eq_true, Bool.or_eq_true] at h2
      exact ⟨fm_inT_ok h2.1, h2.2.elim (fun y => Or.inl (List.isEmpty_iff.mp y)) (fun y => Or.inr (Option.isNone_iff_eq_none.mp y))⟩
    | (_ + 2), h2 =>
      simp only [Bool.and_eq_true] at h2
      exact ⟨of_decide_eq_true h2.1.1.1, fm_inT_ok h2.1.1.2, List.isEmpty_iff.mp h2.1.2, Option.isNone_iff_eq_none.mp h2.2⟩
theorem fm_tFA : fm_tF.all (fun z => fm_inT z.2 (fm_fw z.1)) = true := by decide +kernel
theorem fm_Tb0 : fm_TbOk fm_T0 := by
  refine ⟨fun q hq => ?_, by decide +kernel, by decide +kernel, by decide +kernel, by decide +kernel, by decide +kernel, by decide +kernel, by decide +kernel, by decide +kernel, by decide +kernel, by decide +kernel⟩
  obtain ⟨z, hz, rfl⟩ := List.mem_map.mp (show q ∈ fm_tF.map Prod.fst from hq)
  exact fm_inT_ok (List.all_eq_true.mp fm_tFA z hz)
theorem fm_Ca0 : fm_CaOk := by
  unfold fm_CaOk
  decide +kernel
def fm_mckI (i : Nat) : Bool := match fm_ms[i]? with
  | some r9 => fm_mck fm_T0 fm_ms (fm_codes.getD i []) (fm_hnds.getD i []) (fm_maxL.getD i 0) r9
  | none => true
def fm_row0 (x : fm_En) : Bool := fm_dck fm_m0.2.1 x && fm_ck fm_T0 fm_c0 fm_m0.1.cls fm_m0.2.2.2.2.2.2.2.2 (decide (fm_m0.1.name = "<init>")) fm_m0.2.2.2.1 x && fm_ck2 fm_ms fm_m0.2.2.2.2.2.2.1 fm_m0.2.2.2.2.2.2.2.1 x
theorem fm_r0_0 : ((fm_c0.drop 0).take 25).all fm_row0 = true := by decide +kernel
theorem fm_r0_1 : ((fm_c0.drop 25).take 25).all fm_row0 = true := by decide +kernel
theorem fm_r0_2 : ((fm_c0.drop 50).take 25).all fm_row0 = true := by decide +kernel
theorem fm_r0_3 : ((fm_c0.drop 75).take 25).all fm_row0 = true := by decide +kernel
theorem fm_r0_4 : ((fm_c0.drop 100).take 25).all fm_row0 = true := by decide +kernel
theorem fm_r0_5 : ((fm_c0.drop 125).take 25).all fm_row0 = true := by decide +kernel
theorem fm_r0_6 : ((fm_c0.drop 150).take 25).all fm_row0 = true := by decide +kernel
theorem fm_all_ch {α : Type} (f : α → Bool) (n : Nat) (l : List α) (h : ∀ k, ((l.drop (k * n)).take n).all f = true) (hn : 0 < n) : l.all f = true := by
  refine List.all_eq_true.mpr fun x hx => ?_
  obtain ⟨i, hi⟩ := List.mem_iff_getElem?.mp hx
  refine List.all_eq_true.mp (h (i / n)) x (List.mem_of_getElem? (i := i % n) ?_)
  rw [List.getElem?_take, if_pos (Nat.mod_lt _ hn), List.getElem?_drop, Nat.div_add_mod' i n]
  exact hi
theorem fm_c0_len : fm_c0.length = 174 := by decide +kernel
theorem fm_r0 : fm_c0.all fm_row0 = true := by
  refine fm_all_ch fm_row0 25 fm_c0 (fun k => ?_) (by decide)
  match k with
  | 0 => exact fm_r0_0
  | 1 => exact fm_r0_1
  | 2 => exact fm_r0_2
  | 3 => exact fm_r0_3
  | 4 => exact fm_r0_4
  | 5 => exact fm_r0_5
  | 6 => exact fm_r0_6
  | k + 7 =>
    rw [List.drop_eq_nil_of_le (by rw [fm_c0_len]; omega)]
    rfl
theorem fm_mk0 : fm_mck fm_T0 fm_ms fm_c0 fm_h0 4 fm_m0 = true := by
  unfold fm_mck
  simp only [Bool.and_eq_true]
  exact ⟨⟨⟨⟨⟨fm_r0, by decide +kernel⟩, by decide +kernel⟩, by decide +kernel⟩, by decide +kernel⟩, by decide +kernel⟩
theorem fm_mk1 : [1, 2, 3, 4, 5, 6, 7, 8, 9].all fm_mckI = true := by decide +kernel
theorem fm_mk2 : [10, 11, 12, 13, 14, 15, 16, 17, 18].all fm_mckI = true := by decide +kernel
theorem fm_mk3 : [19, 20, 21, 22, 23, 24, 25, 26, 27].all fm_mckI = true := by decide +kernel
theorem fm_mk4 : [28, 29, 30, 31, 32, 33, 34, 35, 36].all fm_mckI = true := by decide +kernel
theorem fm_mk5 : [37, 38, 39, 40, 41, 42, 43, 44, 45].all fm_mckI = true := by decide +kernel
theorem fm_mk6 : [46, 47, 48, 49, 50, 51, 52, 53, 54].all fm_mckI = true := by decide +kernel
theorem fm_mk7 : [55, 56, 57, 58, 59, 60, 61, 62, 63].all fm_mckI = true := by decide +kernel
theorem fm_mk8 : [64, 65, 66, 67, 68, 69, 70, 71, 72].all fm_mckI = true := by decide +kernel
theorem fm_mk9 : [73, 74, 75, 76, 77, 78, 79, 80, 81].all fm_mckI = true := by decide +kernel
theorem fm_mk10 : [82, 83, 84, 85, 86, 87, 88, 89, 90].all fm_mckI = true := by decide +kernel
theorem fm_mk11 : [91, 92, 93, 94, 95, 96, 97, 98, 99].all fm_mckI = true := by decide +kernel
theorem fm_mk12 : [100, 101, 102, 103, 104, 105, 106, 107, 108].all fm_mckI = true := by decide +kernel
theorem fm_mk13 : [109, 110, 111, 112, 113, 114, 115, 116, 117].all fm_mckI = true := by decide +kernel
theorem fm_mk14 : [118, 119, 120, 121, 122, 123, 124, 125, 126].all fm_mckI = true := by decide +kernel
theorem fm_mk15 : [127, 128, 129, 130, 131, 132, 133, 134, 135].all fm_mckI = true := by decide +kernel
theorem fm_mk16 : [136, 137, 138, 139, 140, 141, 142, 143, 144].all fm_mckI = true := by decide +kernel
theorem fm_mk17 : [145, 146, 147, 148, 149, 150, 151, 152, 153].all fm_mckI = true := by decide +kernel
theorem fm_mk18 : [154, 155, 156, 157, 158, 159, 160, 161, 162].all fm_mckI = true := by decide +kernel
theorem fm_mk19 : [163, 164, 165, 166, 167, 168, 169, 170, 171].all fm_mckI = true := by decide +kernel
theorem fm_mk20 : [172, 173, 174, 175, 176, 177, 178, 179, 180].all fm_mckI = true := by decide +kernel
theorem fm_mk21 : [181, 182, 183, 184, 185, 186, 187, 188, 189].all fm_mckI = true := by decide +kernel
theorem fm_mk22 : [190, 191, 192, 193, 194, 195, 196, 197, 198].all fm_mckI = true := by decide +kernel
theorem fm_mk23 : [199, 200, 201, 202, 203, 204, 205, 206, 207].all fm_mckI = true := by decide +kernel
theorem fm_mk24 : [208, 209, 210, 211, 212, 213, 214, 215, 216].all fm_mckI = true := by decide +kernel
theorem fm_mk25 : [217, 218, 219, 220, 221, 222, 223, 224, 225].all fm_mckI = true := by decide +kernel
theorem fm_mk26 : [226, 227, 228, 229, 230, 231, 232, 233, 234].all fm_mckI = true := by decide +kernel
theorem fm_mk27 : [235, 236, 237, 238, 239, 240, 241].all fm_mckI = true := by decide +kernel
theorem fm_mkA {i : Nat} (hi : i < 242) : fm_mckI i = true := by
  match i, hi with
  | 0, _ => exact fm_mk0
  | 1, _ => exact List.all_eq_true.mp fm_mk1 1 (by decide)
  | 2, _ => exact List.all_eq_true.mp fm_mk1 2 (by decide)
  | 3, _ => exact List.all_eq_true.mp fm_mk1 3 (by decide)
  | 4, _ => exact List.all_eq_true.mp fm_mk1 4 (by decide)
  | 5, _ => exact List.all_eq_true.mp fm_mk1 5 (by decide)
  | 6, _ => exact List.all_eq_true.mp fm_mk1 6 (by decide)
  | 7, _ => exact List.all_eq_true.mp fm_mk1 7 (by decide)
  | 8, _ => exact List.all_eq_true.mp fm_mk1 8 (by decide)
  | 9, _ => exact List.all_eq_true.mp fm_mk1 9 (by decide)
  | 10, _ => exact List.all_eq_true.mp fm_mk2 10 (by decide)
  | 11, _ => exact List.all_eq_true.mp fm_mk2 11 (by decide)
  | 12, _ => exact List.all_eq_true.mp fm_mk2 12 (by decide)
  | 13, _ => exact List.all_eq_true.mp fm_mk2 13 (by decide)
  | 14, _ => exact List.all_eq_true.mp fm_mk2 14 (by decide)
  | 15, _ => exact List.all_eq_true.mp fm_mk2 15 (by decide)
  | 16, _ => exact List.all_eq_true.mp fm_mk2 16 (by decide)
  | 17, _ => exact List.all_eq_true.mp fm_mk2 17 (by decide)
  | 18, _ => exact List.all_eq_true.mp fm_mk2 18 (by decide)
  | 19, _ => exact List.all_eq_true.mp fm_mk3 19 (by decide)
  | 20, _ => exact List.all_eq_true.mp fm_mk3 20 (by decide)
  | 21, _ => exact List.all_eq_true.mp fm_mk3 21 (by decide)
  | 22, _ => exact List.all_eq_true.mp fm_mk3 22 (by decide)
  | 23, _ => exact List.all_eq_true.mp fm_mk3 23 (by decide)
  | 24, _ => exact List.all_eq_true.mp fm_mk3 24 (by decide)
  | 25, _ => exact List.all_eq_true.mp fm_mk3 25 (by decide)
  | 26, _ => exact List.all_eq_true.mp fm_mk3 26 (by decide)
  | 27, _ => exact List.all_eq_true.mp fm_mk3 27 (by decide)
  | 28, _ => exact List.all_eq_true.mp fm_mk4 28 (by decide)
  | 29, _ => exact List.all_eq_true.mp fm_mk4 29 (by decide)
  | 30, _ => exact List.all_eq_true.mp fm_mk4 30 (by decide)
  | 31, _ => exact List.all_eq_true.mp fm_mk4 31 (by decide)
  | 32, _ => exact List.all_eq_true.mp fm_mk4 32 (by decide)
  | 33, _ => exact List.all_eq_true.mp fm_mk4 33 (by decide)
  | 34, _ => exact List.all_eq_true.mp fm_mk4 34 (by decide)
  | 35, _ => exact List.all_eq_true.mp fm_mk4 35 (by decide)
  | 36, _ => exact List.all_eq_true.mp fm_mk4 36 (by decide)
  | 37, _ => exact List.all_eq_true.mp fm_mk5 37 (by decide)
  | 38, _ => exact List.all_eq_true.mp fm_mk5 38 (by decide)
  | 39, _ => exact List.all_eq_true.mp fm_mk5 39 (by decide)
  | 40, _ => exact List.all_eq_true.mp fm_mk5 40 (by decide)
  | 41, _ => exact List.all_eq_true.mp fm_mk5 41 (by decide)
  | 42, _ => exact List.all_eq_true.mp fm_mk5 42 (by decide)
  | 43, _ => exact List.all_eq_true.mp fm_mk5 43 (by decide)
  | 44, _ => exact List.all_eq_true.mp fm_mk5 44 (by decide)
  | 45, _ => exact List.all_eq_true.mp fm_mk5 45 (by decide)
  | 46, _ => exact List.all_eq_true.mp fm_mk6 46 (by decide)
  | 47, _ => exact List.all_eq_true.mp fm_mk6 47 (by decide)
  | 48, _ => exact List.all_eq_true.mp fm_mk6 48 (by decide)
  | 49, _ => exact List.all_eq_true.mp fm_mk6 49 (by decide)
  | 50, _ => exact List.all_eq_true.mp fm_mk6 50 (by decide)
  | 51, _ => exact List.all_eq_true.mp fm_mk6 51 (by decide)
  | 52, _ => exact List.all_eq_true.mp fm_mk6 52 (by decide)
  | 53, _ => exact List.all_eq_true.mp fm_mk6 53 (by decide)
  | 54, _ => exact List.all_eq_true.mp fm_mk6 54 (by decide)
  | 55, _ => exact List.all_eq_true.mp fm_mk7 55 (by decide)
  | 56, _ => exact List.all_eq_true.mp fm_mk7 56 (by decide)
  | 57, _ => exact List.all_eq_true.mp fm_mk7 57 (by decide)
  | 58, _ => exact List.all_eq_true.mp fm_mk7 58 (by decide)
  | 59, _ => exact List.all_eq_true.mp fm_mk7 59 (by decide)
  | 60, _ => exact List.all_eq_true.mp fm_mk7 60 (by decide)
  | 61, _ => exact List.all_eq_true.mp fm_mk7 61 (by decide)
  | 62, _ => exact List.all_eq_true.mp fm_mk7 62 (by decide)
  | 63, _ => exact List.all_eq_true.mp fm_mk7 63 (by decide)
  | 64, _ => exact List.all_eq_true.mp fm_mk8 64 (by decide)
  | 65, _ => exact List.all_eq_true.mp fm_mk8 65 (by decide)
  | 66, _ => exact List.all_eq_true.mp fm_mk8 66 (by decide)
  | 67, _ => exact List.all_eq_true.mp fm_mk8 67 (by decide)
  | 68, _ => exact List.all_eq_true.mp fm_mk8 68 (by decide)
  | 69, _ => exact List.all_eq_true.mp fm_mk8 69 (by decide)
  | 70, _ => exact List.all_eq_true.mp fm_mk8 70 (by decide)
  | 71, _ => exact List.all_eq_true.mp fm_mk8 71 (by decide)
  | 72, _ => exact List.all_eq_true.mp fm_mk8 72 (by decide)
  | 73, _ => exact List.all_eq_true.mp fm_mk9 73 (by decide)
  | 74, _ => exact List.all_eq_true.mp fm_mk9 74 (by decide)
  | 75, _ => exact List.all_eq_true.mp fm_mk9 75 (by decide)
  | 76, _ => exact List.all_eq_true.mp fm_mk9 76 (by decide)
  | 77, _ => exact List.all_eq_true.mp fm_mk9 77 (by decide)
  | 78, _ => exact List.all_eq_true.mp fm_mk9 78 (by decide)
  | 79, _ => exact List.all_eq_true.mp fm_mk9 79 (by decide)
  | 80, _ => exact List.all_eq_true.mp fm_mk9 80 (by decide)
  | 81, _ => exact List.all_eq_true.mp fm_mk9 81 (by decide)
  | 82, _ => exact List.all_eq_true.mp fm_mk10 82 (by decide)
  | 83, _ => exact List.all_eq_true.mp fm_mk10 83 (by decide)
  | 84, _ => exact List.all_eq_true.mp fm_mk10 84 (by decide)
  | 85, _ => exact List.all_eq_true.mp fm_mk10 85 (by decide)
  | 86, _ => exact List.all_eq_true.mp fm_mk10 86 (by decide)
  | 87, _ => exact List.all_eq_true.mp fm_mk10 87 (by decide)
  | 88, _ => exact List.all_eq_true.mp fm_mk10 88 (by decide)
  | 89, _ => exact List.all_eq_true.mp fm_mk10 89 (by decide)
  | 90, _ => exact List.all_eq_true.mp fm_mk10 90 (by decide)
  | 91, _ => exact List.all_eq_true.mp fm_mk11 91 (by decide)
  | 92, _ => exact List.all_eq_true.mp fm_mk11 92 (by decide)
  | 93, _ => exact List.all_eq_true.mp fm_mk11 93 (by decide)
  | 94, _ => exact List.all_eq_true.mp fm_mk11 94 (by decide)
  | 95, _ => exact List.all_eq_true.mp fm_mk11 95 (by decide)
  | 96, _ => exact List.all_eq_true.mp fm_mk11 96 (by decide)
  | 97, _ => exact List.all_eq_true.mp fm_mk11 97 (by decide)
  | 98, _ => exact List.all_eq_true.mp fm_mk11 98 (by decide)
  | 99, _ => exact List.all_eq_true.mp fm_mk11 99 (by decide)
  | 100, _ => exact List.all_eq_true.mp fm_mk12 100 (by decide)
  | 101, _ => exact List.all_eq_true.mp fm_mk12 101 (by decide)
  | 102, _ => exact List.all_eq_true.mp fm_mk12 102 (by decide)
  | 103, _ => exact List.all_eq_true.mp fm_mk12 103 (by decide)
  | 104, _ => exact List.all_eq_true.mp fm_mk12 104 (by decide)
  | 105, _ => exact List.all_eq_true.mp fm_mk12 105 (by decide)
  | 106, _ => exact List.all_eq_true.mp fm_mk12 106 (by decide)
  | 107, _ => exact List.all_eq_true.mp fm_mk12 107 (by decide)
  | 108, _ => exact List.all_eq_true.mp fm_mk12 108 (by decide)
  | 109, _ => exact List.all_eq_true.mp fm_mk13 109 (by decide)
  | 110, _ => exact List.all_eq_true.mp fm_mk13 110 (by decide)
  | 111, _ => exact List.all_eq_true.mp fm_mk13 111 (by decide)
  | 112, _ => exact List.all_eq_true.mp fm_mk13 112 (by decide)
  | 113, _ => exact List.all_eq_true.mp fm_mk13 113 (by decide)
  | 114, _ => exact List.all_eq_true.mp fm_mk13 114 (by decide)
  | 115, _ => exact List.all_eq_true.mp fm_mk13 115 (by decide)
  | 116, _ => exact List.all_eq_true.mp fm_mk13 116 (by decide)
  | 117, _ => exact List.all_eq_true.mp fm_mk13 117 (by decide)
  | 118, _ => exact List.all_eq_true.mp fm_mk14 118 (by decide)
  | 119, _ => exact List.all_eq_true.mp fm_mk14 119 (by decide)
  | 120, _ => exact List.all_eq_true.mp fm_mk14 120 (by decide)
  | 121, _ => exact List.all_eq_true.mp fm_mk14 121 (by decide)
  | 122, _ => exact List.all_eq_true.mp fm_mk14 122 (by decide)
  | 123, _ => exact List.all_eq_true.mp fm_mk14 123 (by decide)
  | 124, _ => exact List.all_eq_true.mp fm_mk14 124 (by decide)
  | 125, _ => exact List.all_eq_true.mp fm_mk14 125 (by decide)
  | 126, _ => exact List.all_eq_true.mp fm_mk14 126 (by decide)
  | 127, _ => exact List.all_eq_true.mp fm_mk15 127 (by decide)
  | 128, _ => exact List.all_eq_true.mp fm_mk15 128 (by decide)
  | 129, _ => exact List.all_eq_true.mp fm_mk15 129 (by decide)
  | 130, _ => exact List.all_eq_true.mp fm_mk15 130 (by decide)
  | 131, _ => exact List.all_eq_true.mp fm_mk15 131 (by decide)
  | 132, _ => exact List.all_eq_true.mp fm_mk15 132 (by decide)
  | 133, _ => exact List.all_eq_true.mp fm_mk15 133 (by decide)
  | 134, _ => exact List.all_eq_true.mp fm_mk15 134 (by decide)
  | 135, _ => exact List.all_eq_true.mp fm_mk15 135 (by decide)
  | 136, _ => exact List.all_eq_true.mp fm_mk16 136 (by decide)
  | 137, _ => exact List.all_eq_true.mp fm_mk16 137 (by decide)
  | 138, _ => exact List.all_eq_true.mp fm_mk16 138 (by decide)
  | 139, _ => exact List.all_eq_true.mp fm_mk16 139 (by decide)
  | 140, _ => exact List.all_eq_true.mp fm_mk16 140 (by decide)
  | 141, _ => exact List.all_eq_true.mp fm_mk16 141 (by decide)
  | 142, _ => exact List.all_eq_true.mp fm_mk16 142 (by decide)
  | 143, _ => exact List.all_eq_true.mp fm_mk16 143 (by decide)
  | 144, _ => exact List.all_eq_true.mp fm_mk16 144 (by decide)
  | 145, _ => exact List.all_eq_true.mp fm_mk17 145 (by decide)
  | 146, _ => exact List.all_eq_true.mp fm_mk17 146 (by decide)
  | 147, _ => exact List.all_eq_true.mp fm_mk17 147 (by decide)
  | 148, _ => exact List.all_eq_true.mp fm_mk17 148 (by decide)
  | 149, _ => exact List.all_eq_true.mp fm_mk17 149 (by decide)
  | 150, _ => exact List.all_eq_true.mp fm_mk17 150 (by decide)
  | 151, _ => exact List.all_eq_true.mp fm_mk17 151 (by decide)
  | 152, _ => exact List.all_eq_true.mp fm_mk17 152 (by decide)
  | 153, _ => exact List.all_eq_true.mp fm_mk17 153 (by decide)
  | 154, _ => exact List.all_eq_true.mp fm_mk18 154 (by decide)
  | 155, _ => exact List.all_eq_true.mp fm_mk18 155 (by decide)
  | 156, _ => exact List.all_eq_true.mp fm_mk18 156 (by decide)
  | 157, _ => exact List.all_eq_true.mp fm_mk18 157 (by decide)
  | 158, _ => exact List.all_eq_true.mp fm_mk18 158 (by decide)
  | 159, _ => exact List.all_eq_true.mp fm_mk18 159 (by decide)
  | 160, _ => exact List.all_eq_true.mp fm_mk18 160 (by decide)
  | 161, _ => exact List.all_eq_true.mp fm_mk18 161 (by decide)
  | 162, _ => exact List.all_eq_true.mp fm_mk18 162 (by decide)
  | 163, _ => exact List.all_eq_true.mp fm_mk19 163 (by decide)
  | 164, _ => exact List.all_eq_true.mp fm_mk19 164 (by decide)
  | 165, _ => exact List.all_eq_true.mp fm_mk19 165 (by decide)
  | 166, _ => exact List.all_eq_true.mp fm_mk19 166 (by decide)
  | 167, _ => exact List.all_eq_true.mp fm_mk19 167 (by decide)
  | 168, _ => exact List.all_eq_true.mp fm_mk19 168 (by decide)
  | 169, _ => exact List.all_eq_true.mp fm_mk19 169 (by decide)
  | 170, _ => exact List.all_eq_true.mp fm_mk19 170 (by decide)
  | 171, _ => exact List.all_eq_true.mp fm_mk19 171 (by decide)
  | 172, _ => exact List.all_eq_true.mp fm_mk20 172 (by decide)
  | 173, _ => exact List.all_eq_true.mp fm_mk20 173 (by decide)
  | 174, _ => exact List.all_eq_true.mp fm_mk20 174 (by decide)
  | 175, _ => exact List.all_eq_true.mp fm_mk20 175 (by decide)
  | 176, _ => exact List.all_eq_true.mp fm_mk20 176 (by decide)
  | 177, _ => exact List.all_eq_true.mp fm_mk20 177 (by decide)
  | 178, _ => exact List.all_eq_true.mp fm_mk20 178 (by decide)
  | 179, _ => exact List.all_eq_true.mp fm_mk20 179 (by decide)
  | 180, _ => exact List.all_eq_true.mp fm_mk20 180 (by decide)
  | 181, _ => exact List.all_eq_true.mp fm_mk21 181 (by decide)
  | 182, _ => exact List.all_eq_true.mp fm_mk21 182 (by decide)
  | 183, _ => exact List.all_eq_true.mp fm_mk21 183 (by decide)
  | 184, _ => exact List.all_eq_true.mp fm_mk21 184 (by decide)
  | 185, _ => exact List.all_eq_true.mp fm_mk21 185 (by decide)
  | 186, _ => exact List.all_eq_true.mp fm_mk21 186 (by decide)
  | 187, _ => exact List.all_eq_true.mp fm_mk21 187 (by decide)
  | 188, _ => exact List.all_eq_true.mp fm_mk21 188 (by decide)
  | 189, _ => exact List.all_eq_true.mp fm_mk21 189 (by decide)
  | 190, _ => exact List.all_eq_true.mp fm_mk22 190 (by decide)
  | 191, _ => exact List.all_eq_true.mp fm_mk22 191 (by decide)
  | 192, _ => exact List.all_eq_true.mp fm_mk22 192 (by decide)
  | 193, _ => exact List.all_eq_true.mp fm_mk22 193 (by decide)
  | 194, _ => exact List.all_eq_true.mp fm_mk22 194 (by decide)
  | 195, _ => exact List.all_eq_true.mp fm_mk22 195 (by decide)
  | 196, _ => exact List.all_eq_true.mp fm_mk22 196 (by decide)
  | 197, _ => exact List.all_eq_true.mp fm_mk22 197 (by decide)
  | 198, _ => exact List.all_eq_true.mp fm_mk22 198 (by decide)
  | 199, _ => exact List.all_eq_true.mp fm_mk23 199 (by decide)
  | 200, _ => exact List.all_eq_true.mp fm_mk23 200 (by decide)
  | 201, _ => exact List.all_eq_true.mp fm_mk23 201 (by decide)
  | 202, _ => exact List.all_eq_true.mp fm_mk23 202 (by decide)
  | 203, _ => exact List.all_eq_true.mp fm_mk23 203 (by decide)
  | 204, _ => exact List.all_eq_true.mp fm_mk23 204 (by decide)
  | 205, _ => exact List.all_eq_true.mp fm_mk23 205 (by decide)
  | 206, _ => exact List.all_eq_true.mp fm_mk23 206 (by decide)
  | 207, _ => exact List.all_eq_true.mp fm_mk23 207 (by decide)
  | 208, _ => exact List.all_eq_true.mp fm_mk24 208 (by decide)
  | 209, _ => exact List.all_eq_true.mp fm_mk24 209 (by decide)
  | 210, _ => exact List.all_eq_true.mp fm_mk24 210 (by decide)
  | 211, _ => exact List.all_eq_true.mp fm_mk24 211 (by decide)
  | 212, _ => exact List.all_eq_true.mp fm_mk24 212 (by decide)
  | 213, _ => exact List.all_eq_true.mp fm_mk24 213 (by decide)
  | 214, _ => exact List.all_eq_true.mp fm_mk24 214 (by decide)
  | 215, _ => exact List.all_eq_true.mp fm_mk24 215 (by decide)
  | 216, _ => exact List.all_eq_true.mp fm_mk24 216 (by decide)
  | 217, _ => exact List.all_eq_true.mp fm_mk25 217 (by decide)
  | 218, _ => exact List.all_eq_true.mp fm_mk25 218 (by decide)
  | 219, _ => exact List.all_eq_true.mp fm_mk25 219 (by decide)
  | 220, _ => exact List.all_eq_true.mp fm_mk25 220 (by decide)
  | 221, _ => exact List.all_eq_true.mp fm_mk25 221 (by decide)
  | 222, _ => exact List.all_eq_true.mp fm_mk25 222 (by decide)
  | 223, _ => exact List.all_eq_true.mp fm_mk25 223 (by decide)
  | 224, _ => exact List.all_eq_true.mp fm_mk25 224 (by decide)
  | 225, _ => exact List.all_eq_true.mp fm_mk25 225 (by decide)
  | 226, _ => exact List.all_eq_true.mp fm_mk26 226 (by decide)
  | 227, _ => exact List.all_eq_true.mp fm_mk26 227 (by decide)
  | 228, _ => exact List.all_eq_true.mp fm_mk26 228 (by decide)
  | 229, _ => exact List.all_eq_true.mp fm_mk26 229 (by decide)
  | 230, _ => exact List.all_eq_true.mp fm_mk26 230 (by decide)
  | 231, _ => exact List.all_eq_true.mp fm_mk26 231 (by decide)
  | 232, _ => exact List.all_eq_true.mp fm_mk26 232 (by decide)
  | 233, _ => exact List.all_eq_true.mp fm_mk26 233 (by decide)
  | 234, _ => exact List.all_eq_true.mp fm_mk26 234 (by decide)
  | 235, _ => exact List.all_eq_true.mp fm_mk27 235 (by decide)
  | 236, _ => exact List.all_eq_true.mp fm_mk27 236 (by decide)
  | 237, _ => exact List.all_eq_true.mp fm_mk27 237 (by decide)
  | 238, _ => exact List.all_eq_true.mp fm_mk27 238 (by decide)
  | 239, _ => exact List.all_eq_true.mp fm_mk27 239 (by decide)
  | 240, _ => exact List.all_eq_true.mp fm_mk27 240 (by decide)
  | 241, _ => exact List.all_eq_true.mp fm_mk27 241 (by decide)
  | i + 242, h => omega
theorem fm_All0 (X : Nat × (Nat → Int32)) : fm_All fm_T0 fm_ms (fm_PP X) := by
  intro mi rec h
  have hlt : mi < 242 := (List.getElem?_eq_some_iff.mp h).1
  have hk := fm_mkA hlt
  unfold fm_mckI at hk
  rw [h] at hk
  exact hk
