/-! what is checked of the large methods -/
def fm_row0 (x : fm_En) : Bool := fm_dck fm_m0.2.1 x && fm_ck fm_T0 fm_c0 fm_m0.1.cls fm_m0.2.2.2.2.2.2.2.2 (decide (fm_m0.1.name = "<init>")) fm_m0.2.2.2.1 x && fm_ck2 fm_ms fm_m0.2.2.2.2.2.2.1 fm_m0.2.2.2.2.2.2.2.1 x
theorem fm_r0_0 : ((fm_c0.drop 0).take 20).all fm_row0 = true := by decide +kernel
theorem fm_r0_1 : ((fm_c0.drop 20).take 20).all fm_row0 = true := by decide +kernel
theorem fm_r0_2 : ((fm_c0.drop 40).take 20).all fm_row0 = true := by decide +kernel
theorem fm_r0_3 : ((fm_c0.drop 60).take 20).all fm_row0 = true := by decide +kernel
theorem fm_r0_4 : ((fm_c0.drop 80).take 20).all fm_row0 = true := by decide +kernel
theorem fm_r0_5 : ((fm_c0.drop 100).take 20).all fm_row0 = true := by decide +kernel
theorem fm_r0_6 : ((fm_c0.drop 120).take 20).all fm_row0 = true := by decide +kernel
theorem fm_r0_7 : ((fm_c0.drop 140).take 20).all fm_row0 = true := by decide +kernel
theorem fm_r0_8 : ((fm_c0.drop 160).take 20).all fm_row0 = true := by decide +kernel
theorem fm_c0_len : fm_c0.length = 174 := by decide +kernel
theorem fm_r0 : fm_c0.all fm_row0 = true := by
  refine fm_all_ch fm_row0 20 fm_c0 (fun k => ?_) (by decide)
  match k with
  | 0 => exact fm_r0_0
  | 1 => exact fm_r0_1
  | 2 => exact fm_r0_2
  | 3 => exact fm_r0_3
  | 4 => exact fm_r0_4
  | 5 => exact fm_r0_5
  | 6 => exact fm_r0_6
  | 7 => exact fm_r0_7
  | 8 => exact fm_r0_8
  | k + 9 =>
    rw [List.drop_eq_nil_of_le (by rw [fm_c0_len]; omega)]
    rfl
theorem fm_mk_0 : fm_mck fm_T0 fm_ms fm_c0 fm_h0 4 fm_m0 = true := by
  unfold fm_mck
  simp only [Bool.and_eq_true]
  exact ⟨⟨⟨⟨⟨fm_r0, by decide +kernel⟩, by decide +kernel⟩, by decide +kernel⟩, by decide +kernel⟩, by decide +kernel⟩
def fm_row131 (x : fm_En) : Bool := fm_dck fm_m131.2.1 x && fm_ck fm_T0 fm_c131 fm_m131.1.cls fm_m131.2.2.2.2.2.2.2.2 (decide (fm_m131.1.name = "<init>")) fm_m131.2.2.2.1 x && fm_ck2 fm_ms fm_m131.2.2.2.2.2.2.1 fm_m131.2.2.2.2.2.2.2.1 x
theorem fm_r131_0 : ((fm_c131.drop 0).take 20).all fm_row131 = true := by decide +kernel
theorem fm_r131_1 : ((fm_c131.drop 20).take 20).all fm_row131 = true := by decide +kernel
theorem fm_r131_2 : ((fm_c131.drop 40).take 20).all fm_row131 = true := by decide +kernel
theorem fm_r131_3 : ((fm_c131.drop 60).take 20).all fm_row131 = true := by decide +kernel
theorem fm_r131_4 : ((fm_c131.drop 80).take 20).all fm_row131 = true := by decide +kernel
theorem fm_r131_5 : ((fm_c131.drop 100).take 20).all fm_row131 = true := by decide +kernel
theorem fm_c131_len : fm_c131.length = 101 := by decide +kernel
theorem fm_r131 : fm_c131.all fm_row131 = true := by
  refine fm_all_ch fm_row131 20 fm_c131 (fun k => ?_) (by decide)
  match k with
  | 0 => exact fm_r131_0
  | 1 => exact fm_r131_1
  | 2 => exact fm_r131_2
  | 3 => exact fm_r131_3
  | 4 => exact fm_r131_4
  | 5 => exact fm_r131_5
  | k + 6 =>
    rw [List.drop_eq_nil_of_le (by rw [fm_c131_len]; omega)]
    rfl
theorem fm_mk_131 : fm_mck fm_T0 fm_ms fm_c131 fm_h131 7 fm_m131 = true := by
  unfold fm_mck
  simp only [Bool.and_eq_true]
  exact ⟨⟨⟨⟨⟨fm_r131, by decide +kernel⟩, by decide +kernel⟩, by decide +kernel⟩, by decide +kernel⟩, by decide +kernel⟩
def fm_row192 (x : fm_En) : Bool := fm_dck fm_m192.2.1 x && fm_ck fm_T0 fm_c192 fm_m192.1.cls fm_m192.2.2.2.2.2.2.2.2 (decide (fm_m192.1.name = "<init>")) fm_m192.2.2.2.1 x && fm_ck2 fm_ms fm_m192.2.2.2.2.2.2.1 fm_m192.2.2.2.2.2.2.2.1 x
theorem fm_r192_0 : ((fm_c192.drop 0).take 20).all fm_row192 = true := by decide +kernel
theorem fm_r192_1 : ((fm_c192.drop 20).take 20).all fm_row192 = true := by decide +kernel
theorem fm_r192_2 : ((fm_c192.drop 40).take 20).all fm_row192 = true := by decide +kernel
theorem fm_r192_3 : ((fm_c192.drop 60).take 20).all fm_row192 = true := by decide +kernel
theorem fm_r192_4 : ((fm_c192.drop 80).take 20).all fm_row192 = true := by decide +kernel
theorem fm_r192_5 : ((fm_c192.drop 100).take 20).all fm_row192 = true := by decide +kernel
theorem fm_c192_len : fm_c192.length = 111 := by decide +kernel
theorem fm_r192 : fm_c192.all fm_row192 = true := by
  refine fm_all_ch fm_row192 20 fm_c192 (fun k => ?_) (by decide)
  match k with
  | 0 => exact fm_r192_0
  | 1 => exact fm_r192_1
  | 2 => exact fm_r192_2
  | 3 => exact fm_r192_3
  | 4 => exact fm_r192_4
  | 5 => exact fm_r192_5
  | k + 6 =>
    rw [List.drop_eq_nil_of_le (by rw [fm_c192_len]; omega)]
    rfl
theorem fm_mk_192 : fm_mck fm_T0 fm_ms fm_c192 fm_h192 5 fm_m192 = true := by
  unfold fm_mck
  simp only [Bool.and_eq_true]
  exact ⟨⟨⟨⟨⟨fm_r192, by decide +kernel⟩, by decide +kernel⟩, by decide +kernel⟩, by decide +kernel⟩, by decide +kernel⟩
def fm_row193 (x : fm_En) : Bool := fm_dck fm_m193.2.1 x && fm_ck fm_T0 fm_c193 fm_m193.1.cls fm_m193.2.2.2.2.2.2.2.2 (decide (fm_m193.1.name = "<init>")) fm_m193.2.2.2.1 x && fm_ck2 fm_ms fm_m193.2.2.2.2.2.2.1 fm_m193.2.2.2.2.2.2.2.1 x
theorem fm_r193_0 : ((fm_c193.drop 0).take 20).all fm_row193 = true := by decide +kernel
theorem fm_r193_1 : ((fm_c193.drop 20).take 20).all fm_row193 = true := by decide +kernel
theorem fm_r193_2 : ((fm_c193.drop 40).take 20).all fm_row193 = true := by decide +kernel
theorem fm_r193_3 : ((fm_c193.drop 60).take 20).all fm_row193 = true := by decide +kernel
theorem fm_r193_4 : ((fm_c193.drop 80).take 20).all fm_row193 = true := by decide +kernel
theorem fm_r193_5 : ((fm_c193.drop 100).take 20).all fm_row193 = true := by decide +kernel
theorem fm_c193_len : fm_c193.length = 101 := by decide +kernel
theorem fm_r193 : fm_c193.all fm_row193 = true := by
  refine fm_all_ch fm_row193 20 fm_c193 (fun k => ?_) (by decide)
  match k with
  | 0 => exact fm_r193_0
  | 1 => exact fm_r193_1
  | 2 => exact fm_r193_2
  | 3 => exact fm_r193_3
  | 4 => exact fm_r193_4
  | 5 => exact fm_r193_5
  | k + 6 =>
    rw [List.drop_eq_nil_of_le (by rw [fm_c193_len]; omega)]
    rfl
theorem fm_mk_193 : fm_mck fm_T0 fm_ms fm_c193 fm_h193 7 fm_m193 = true := by
  unfold fm_mck
  simp only [Bool.and_eq_true]
  exact ⟨⟨⟨⟨⟨fm_r193, by decide +kernel⟩, by decide +kernel⟩, by decide +kernel⟩, by decide +kernel⟩, by decide +kernel⟩
def fm_row194 (x : fm_En) : Bool := fm_dck fm_m194.2.1 x && fm_ck fm_T0 fm_c194 fm_m194.1.cls fm_m194.2.2.2.2.2.2.2.2 (decide (fm_m194.1.name = "<init>")) fm_m194.2.2.2.1 x && fm_ck2 fm_ms fm_m194.2.2.2.2.2.2.1 fm_m194.2.2.2.2.2.2.2.1 x
theorem fm_r194_0 : ((fm_c194.drop 0).take 20).all fm_row194 = true := by decide +kernel
theorem fm_r194_1 : ((fm_c194.drop 20).take 20).all fm_row194 = true := by decide +kernel
theorem fm_r194_2 : ((fm_c194.drop 40).take 20).all fm_row194 = true := by decide +kernel
theorem fm_r194_3 : ((fm_c194.drop 60).take 20).all fm_row194 = true := by decide +kernel
theorem fm_r194_4 : ((fm_c194.drop 80).take 20).all fm_row194 = true := by decide +kernel
theorem fm_r194_5 : ((fm_c194.drop 100).take 20).all fm_row194 = true := by decide +kernel
theorem fm_c194_len : fm_c194.length = 114 := by decide +kernel
theorem fm_r194 : fm_c194.all fm_row194 = true := by
  refine fm_all_ch fm_row194 20 fm_c194 (fun k => ?_) (by decide)
  match k with
  | 0 => exact fm_r194_0
  | 1 => exact fm_r194_1
  | 2 => exact fm_r194_2
  | 3 => exact fm_r194_3
  | 4 => exact fm_r194_4
  | 5 => exact fm_r194_5
  | k + 6 =>
    rw [List.drop_eq_nil_of_le (by rw [fm_c194_len]; omega)]
    rfl
theorem fm_mk_194 : fm_mck fm_T0 fm_ms fm_c194 fm_h194 6 fm_m194 = true := by
  unfold fm_mck
  simp only [Bool.and_eq_true]
  exact ⟨⟨⟨⟨⟨fm_r194, by decide +kernel⟩, by decide +kernel⟩, by decide +kernel⟩, by decide +kernel⟩, by decide +kernel⟩
def fm_row195 (x : fm_En) : Bool := fm_dck fm_m195.2.1 x && fm_ck fm_T0 fm_c195 fm_m195.1.cls fm_m195.2.2.2.2.2.2.2.2 (decide (fm_m195.1.name = "<init>")) fm_m195.2.2.2.1 x && fm_ck2 fm_ms fm_m195.2.2.2.2.2.2.1 fm_m195.2.2.2.2.2.2.2.1 x
theorem fm_r195_0 : ((fm_c195.drop 0).take 20).all fm_row195 = true := by decide +kernel
theorem fm_r195_1 : ((fm_c195.drop 20).take 20).all fm_row195 = true := by decide +kernel
theorem fm_r195_2 : ((fm_c195.drop 40).take 20).all fm_row195 = true := by decide +kernel
theorem fm_r195_3 : ((fm_c195.drop 60).take 20).all fm_row195 = true := by decide +kernel
theorem fm_r195_4 : ((fm_c195.drop 80).take 20).all fm_row195 = true := by decide +kernel
theorem fm_r195_5 : ((fm_c195.drop 100).take 20).all fm_row195 = true := by decide +kernel
theorem fm_r195_6 : ((fm_c195.drop 120).take 20).all fm_row195 = true := by decide +kernel
theorem fm_c195_len : fm_c195.length = 138 := by decide +kernel
theorem fm_r195 : fm_c195.all fm_row195 = true := by
  refine fm_all_ch fm_row195 20 fm_c195 (fun k => ?_) (by decide)
  match k with
  | 0 => exact fm_r195_0
  | 1 => exact fm_r195_1
  | 2 => exact fm_r195_2
  | 3 => exact fm_r195_3
  | 4 => exact fm_r195_4
  | 5 => exact fm_r195_5
  | 6 => exact fm_r195_6
  | k + 7 =>
    rw [List.drop_eq_nil_of_le (by rw [fm_c195_len]; omega)]
    rfl
theorem fm_mk_195 : fm_mck fm_T0 fm_ms fm_c195 fm_h195 5 fm_m195 = true := by
  unfold fm_mck
  simp only [Bool.and_eq_true]
  exact ⟨⟨⟨⟨⟨fm_r195, by decide +kernel⟩, by decide +kernel⟩, by decide +kernel⟩, by decide +kernel⟩, by decide +kernel⟩
def fm_row199 (x : fm_En) : Bool := fm_dck fm_m199.2.1 x && fm_ck fm_T0 fm_c199 fm_m199.1.cls fm_m199.2.2.2.2.2.2.2.2 (decide (fm_m199.1.name = "<init>")) fm_m199.2.2.2.1 x && fm_ck2 fm_ms fm_m199.2.2.2.2.2.2.1 fm_m199.2.2.2.2.2.2.2.1 x
theorem fm_r199_0 : ((fm_c199.drop 0).take 20).all fm_row199 = true := by decide +kernel
theorem fm_r199_1 : ((fm_c199.drop 20).take 20).all fm_row199 = true := by decide +kernel
theorem fm_r199_2 : ((fm_c199.drop 40).take 20).all fm_row199 = true := by decide +kernel
theorem fm_r199_3 : ((fm_c199.drop 60).take 20).all fm_row199 = true := by decide +kernel
theorem fm_r199_4 : ((fm_c199.drop 80).take 20).all fm_row199 = true := by decide +kernel
theorem fm_r199_5 : ((fm_c199.drop 100).take 20).all fm_row199 = true := by decide +kernel
theorem fm_r199_6 : ((fm_c199.drop 120).take 20).all fm_row199 = true := by decide +kernel
theorem fm_r199_7 : ((fm_c199.drop 140).take 20).all fm_row199 = true := by decide +kernel
theorem fm_r199_8 : ((fm_c199.drop 160).take 20).all fm_row199 = true := by decide +kernel
theorem fm_r199_9 : ((fm_c199.drop 180).take 20).all fm_row199 = true := by decide +kernel
theorem fm_r199_10 : ((fm_c199.drop 200).take 20).all fm_row199 = true := by decide +kernel
theorem fm_c199_len : fm_c199.length = 219 := by decide +kernel
theorem fm_r199 : fm_c199.all fm_row199 = true := by
  refine fm_all_ch fm_row199 20 fm_c199 (fun k => ?_) (by decide)
  match k with
  | 0 => exact fm_r199_0
  | 1 => exact fm_r199_1
  | 2 => exact fm_r199_2
  | 3 => exact fm_r199_3
  | 4 => exact fm_r199_4
  | 5 => exact fm_r199_5
  | 6 => exact fm_r199_6
  | 7 => exact fm_r199_7
  | 8 => exact fm_r199_8
  | 9 => exact fm_r199_9
  | 10 => exact fm_r199_10
  | k + 11 =>
    rw [List.drop_eq_nil_of_le (by rw [fm_c199_len]; omega)]
    rfl
theorem fm_mk_199 : fm_mck fm_T0 fm_ms fm_c199 fm_h199 6 fm_m199 = true := by
  unfold fm_mck
  simp only [Bool.and_eq_true]
  exact ⟨⟨⟨⟨⟨fm_r199, by decide +kernel⟩, by decide +kernel⟩, by decide +kernel⟩, by decide +kernel⟩, by decide +kernel⟩
def fm_row201 (x : fm_En) : Bool := fm_dck fm_m201.2.1 x && fm_ck fm_T0 fm_c201 fm_m201.1.cls fm_m201.2.2.2.2.2.2.2.2 (decide (fm_m201.1.name = "<init>")) fm_m201.2.2.2.1 x && fm_ck2 fm_ms fm_m201.2.2.2.2.2.2.1 fm_m201.2.2.2.2.2.2.2.1 x
theorem fm_r201_0 : ((fm_c201.drop 0).take 20).all fm_row201 = true := by decide +kernel
theorem fm_r201_1 : ((fm_c201.drop 20).take 20).all fm_row201 = true := by decide +kernel
theorem fm_r201_2 : ((fm_c201.drop 40).take 20).all fm_row201 = true := by decide +kernel
theorem fm_r201_3 : ((fm_c201.drop 60).take 20).all fm_row201 = true := by decide +kernel
theorem fm_r201_4 : ((fm_c201.drop 80).take 20).all fm_row201 = true := by decide +kernel
theorem fm_r201_5 : ((fm_c201.drop 100).take 20).all fm_row201 = true := by decide +kernel
theorem fm_r201_6 : ((fm_c201.drop 120).take 20).all fm_row201 = true := by decide +kernel
theorem fm_r201_7 : ((fm_c201.drop 140).take 20).all fm_row201 = true := by decide +kernel
theorem fm_r201_8 : ((fm_c201.drop 160).take 20).all fm_row201 = true := by decide +kernel
theorem fm_r201_9 : ((fm_c201.drop 180).take 20).all fm_row201 = true := by decide +kernel
theorem fm_r201_10 : ((fm_c201.drop 200).take 20).all fm_row201 = true := by decide +kernel
theorem fm_r201_11 : ((fm_c201.drop 220).take 20).all fm_row201 = true := by decide +kernel
theorem fm_r201_12 : ((fm_c201.drop 240).take 20).all fm_row201 = true := by decide +kernel
theorem fm_r201_13 : ((fm_c201.drop 260).take 20).all fm_row201 = true := by decide +kernel
theorem fm_r201_14 : ((fm_c201.drop 280).take 20).all fm_row201 = true := by decide +kernel
theorem fm_r201_15 : ((fm_c201.drop 300).take 20).all fm_row201 = true := by decide +kernel
theorem fm_r201_16 : ((fm_c201.drop 320).take 20).all fm_row201 = true := by decide +kernel
theorem fm_r201_17 : ((fm_c201.drop 340).take 20).all fm_row201 = true := by decide +kernel
theorem fm_c201_len : fm_c201.length = 346 := by decide +kernel
theorem fm_r201 : fm_c201.all fm_row201 = true := by
  refine fm_all_ch fm_row201 20 fm_c201 (fun k => ?_) (by decide)
  match k with
  | 0 => exact fm_r201_0
  | 1 => exact fm_r201_1
  | 2 => exact fm_r201_2
  | 3 => exact fm_r201_3
  | 4 => exact fm_r201_4
  | 5 => exact fm_r201_5
  | 6 => exact fm_r201_6
  | 7 => exact fm_r201_7
  | 8 => exact fm_r201_8
  | 9 => exact fm_r201_9
  | 10 => exact fm_r201_10
  | 11 => exact fm_r201_11
  | 12 => exact fm_r201_12
  | 13 => exact fm_r201_13
  | 14 => exact fm_r201_14
  | 15 => exact fm_r201_15
  | 16 => exact fm_r201_16
  | 17 => exact fm_r201_17
  | k + 18 =>
    rw [List.drop_eq_nil_of_le (by rw [fm_c201_len]; omega)]
    rfl
theorem fm_mk_201 : fm_mck fm_T0 fm_ms fm_c201 fm_h201 8 fm_m201 = true := by
  unfold fm_mck
  simp only [Bool.and_eq_true]
  exact ⟨⟨⟨⟨⟨fm_r201, by decide +kernel⟩, by decide +kernel⟩, by decide +kernel⟩, by decide +kernel⟩, by decide +kernel⟩
def fm_row203 (x : fm_En) : Bool := fm_dck fm_m203.2.1 x && fm_ck fm_T0 fm_c203 fm_m203.1.cls fm_m203.2.2.2.2.2.2.2.2 (decide (fm_m203.1.name = "<init>")) fm_m203.2.2.2.1 x && fm_ck2 fm_ms fm_m203.2.2.2.2.2.2.1 fm_m203.2.2.2.2.2.2.2.1 x
theorem fm_r203_0 : ((fm_c203.drop 0).take 20).all fm_row203 = true := by decide +kernel
theorem fm_r203_1 : ((fm_c203.drop 20).take 20).all fm_row203 = true := by decide +kernel
theorem fm_r203_2 : ((fm_c203.drop 40).take 20).all fm_row203 = true := by decide +kernel
theorem fm_r203_3 : ((fm_c203.drop 60).take 20).all fm_row203 = true := by decide +kernel
theorem fm_r203_4 : ((fm_c203.drop 80).take 20).all fm_row203 = true := by decide +kernel
theorem fm_r203_5 : ((fm_c203.drop 100).take 20).all fm_row203 = true := by decide +kernel
theorem fm_r203_6 : ((fm_c203.drop 120).take 20).all fm_row203 = true := by decide +kernel
theorem fm_r203_7 : ((fm_c203.drop 140).take 20).all fm_row203 = true := by decide +kernel
theorem fm_r203_8 : ((fm_c203.drop 160).take 20).all fm_row203 = true := by decide +kernel
theorem fm_c203_len : fm_c203.length = 175 := by decide +kernel
theorem fm_r203 : fm_c203.all fm_row203 = true := by
  refine fm_all_ch fm_row203 20 fm_c203 (fun k => ?_) (by decide)
  match k with
  | 0 => exact fm_r203_0
  | 1 => exact fm_r203_1
  | 2 => exact fm_r203_2
  | 3 => exact fm_r203_3
  | 4 => exact fm_r203_4
  | 5 => exact fm_r203_5
  | 6 => exact fm_r203_6
  | 7 => exact fm_r203_7
  | 8 => exact fm_r203_8
  | k + 9 =>
    rw [List.drop_eq_nil_of_le (by rw [fm_c203_len]; omega)]
    rfl
theorem fm_mk_203 : fm_mck fm_T0 fm_ms fm_c203 fm_h203 8 fm_m203 = true := by
  unfold fm_mck
  simp only [Bool.and_eq_true]
  exact ⟨⟨⟨⟨⟨fm_r203, by decide +kernel⟩, by decide +kernel⟩, by decide +kernel⟩, by decide +kernel⟩, by decide +kernel⟩
