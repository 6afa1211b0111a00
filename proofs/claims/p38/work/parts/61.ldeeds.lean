/-! the law: every deed is answered as the net says -/
section LDA
variable {X : Nat × (Nat → Int32)} {N : fm_N} {A : fg_A} {o : Nat → Nat} {fc M mi : Nat} {K : Int32 → fm_N → Prop} {X' : Nat → fm_N → Prop} {Q : fm_O → fm_M → Prop}
/-- the class's minutes after the net's -/
theorem lp_201p (hI : fj_I N A o fc M mi) {mm : Nat} (h1 : 1 ≤ mm) (h5 : mm ≤ 5) (hmi : mi + 5 ≤ 900) {o2 o3 o4 : Option fm_V} (H : ∀ N' A' o' fc' M', fj_I N' A' o' fc' M' (mi + 5) → N'.2.2.2 ≤ N.2.2.2 + 5 → K (nI 1) N') :
    fm_Ev (fm_PP X) 201 (556, [some (.inl (.ref 1)), some (.inl (.ref 0)), o2, o3, o4, some (.inl (.int (N.1 0 6))), some (.inl (.int (nI mm))), some (.inl (.int (nI 0)))], [], (N, fm_SH)) (fm_Qi fm_SH K X') := by
  refine lp_556 (by omega) mm 0 N N M mi rfl hI.2.1 hI.K hI.2.2 (by omega) (fun N2 R2 M2 b b1 b2 b3 b4 => ?_)
  have ic2 := b3.ic hI.1
  refine sw_182 ic2 h1 (by omega) (fun C A' o' fc' M' b' c1 c2 => ?_)
  have eG2 : fk_gG N2 = fk_gG N := b3.E.gG
  obtain ⟨q1, q2, q3⟩ := fl_ch_mh mm N N2 A o fc M R2 M2 b C A' o' fc' M' b' b1 c2 b3.E ic2
  subst q1
  obtain ⟨f1, f2, f3⟩ := fk_mh_fr mm N2 A o fc M C A' o' fc' M2 b' c2 (by rw [eG2]; exact hI.2.2)
  have e0 : C.1 0 = N2.1 0 := f1.1 0 rfl
  have hT : fl_T C C M2 (mi + mm) := fl_T_0 (q2.T b2) e0
  have hI2 : fj_I C A' o' fc' M2 (mi + 5) := fj_I.mo ⟨c1, hT, f3⟩ (by omega) (by omega)
  refine ⟨fz_in (by omega) (by omega), fj_yes ?_ (H _ _ _ _ _ hI2 ?_)⟩
  · rw [fz_t (by omega), e0, b4, q3, nI_0, Int32.zero_add, Int32.add_comm, Int32.add_sub_cancel]
  · rw [show C.2.2 = N2.2.2 from f1.2.2, b3.2.2.2]
    omega
theorem lp_201m (hI : fj_I N A o fc M mi) (hmi : mi + 5 ≤ 900) (H : ∀ N' A' o' fc' M', fj_I N' A' o' fc' M' (mi + 5) → N'.2.2.2 ≤ N.2.2.2 + 5 → K (nI 1) N') {B B0 R R0 : Prop} (hB : B := by first | exact Or.inr rfl | exact Or.inr trivial) (hR : R := by first | exact rfl | exact trivial) {E1 E2 E3 : Nat → fm_N → Prop} :
    fm_Ci (fm_PP X) 12 [.inl (.ref 1)] (N, fm_SH) (fun r6 N5 => fm_Ci (fm_PP X) 199 [.inl (.ref 0)] (N5, fm_SH) (fun r8 N7 => fm_Ci (fm_PP X) 200 [.inl (.int r8)] (N7, fm_SH) (fun r10 N9 => ((r6 = r10 → (B ∧ (R ∧ K (nI 1) N9))) ∧ (¬ (r6 = r10) → (B0 ∧ (R0 ∧ K (nI 0) N9))))) E1) E2) E3 := by
  refine fe_12 X N _ _ (sp_48 hI.1 (fun N1 A1 o1 fc1 M1 a1 a2 a3 => sp_128 a1.2.1 (fun M2 b1 b2 => ?_)))
  rw [a1.2.2.2.2.2.1, fb_and]
  refine sp_168 (fb_and_lt a1.2.2.2.2.2.2.1) ⟨rfl, ?_⟩
  have e0 : N1.1 0 = N.1 0 := a2.1.1 0 rfl
  have hM12 : M1 &&& M2 = M1 := Nat.eq_of_testBit_eq fun i => by
    rw [Nat.testBit_and, b2]
    cases h : M1.testBit i
    · rfl
    · rw [(a3 i h).1]; rfl
  rw [hM12]
  refine sp_199 (fl_T_0 hI.2.1 e0) hI.K hI.2.2 (by omega) (fun N' A' o' fc' S c1 c2 c3 c4 c5 c6 c7 c8 c9 => ?_)
  obtain ⟨q1, q2⟩ := fl_E_cm (fl_E.rf N) hI.1.1.2.2.2.2.1 c1 hI.1.2.2.1 c2 hI.1.2.1.2.2.2.2.1 c5 a2
  subst q1
  have eG1 : fk_gG N' = fk_gG N1 := c8.E.gG
  have hT : fl_T N' N' S (mi + 1) := (q2.tr c8.E).T c6
  have hI2 : fj_I N' A1 o1 fc1 S (mi + 5) := fj_I.mo ⟨c8.ic a1, hT, fun i hi => by rw [eG1, a2.n]; exact c4 i hi⟩ (by omega) (by omega)
  refine sp_200 c3 (fj_yes rfl (H _ _ _ _ _ hI2 ?_) hB hR)
  rw [c8.2.2.2, show N1.2.2 = N.2.2 from a2.1.2.2]
  omega
set_option maxHeartbeats 4000000 in
theorem sp_201 (hI : fj_I N A o fc M mi) (hX : X.1 < 2147483640) {i : Nat} (hi : i < 10000) (hmi : mi + 5 ≤ 900) (H : ∀ N' A' o' fc' M', fj_I N' A' o' fc' M' (mi + 5) → N'.2.2.2 ≤ N.2.2.2 + 5 → K (nI 1) N') : fm_Ci (fm_PP X) 201 [.inl (.ref 1), .inl (.ref 0), .inl (.ref 999999), .inl (.int (nI i))] (N, fm_SH) K X' := by
  have h0 := hI.2.1.2.1.1
  have h8 := hI.2.1.2.1.2.2.1
  have hn := hI.1.1.1
  have n1 := hI.1.1.2.2.2.2.1.1
  obtain ⟨⟨k1, k2, k3, k4⟩, -, h3, -, -, -, -⟩ := id hI.2.1
  have hM := hI.1.2.2.2.2.2.2.1
  have h21 := hI.1.2.2.2.2.2.1
  have H0 : ∀ N' A' o' fc' M', fj_I N' A' o' fc' M' mi → N'.2.2.2 ≤ N.2.2.2 + 1 → K (nI 1) N' := fun N' A' o' fc' M' a b => H N' A' o' fc' M' (a.mo (by omega) (by omega)) (by omega)
  generalize hnn : fg_n (fk_gG N) = n at h0 h8 hn n1
  refine fe_201 X _ N K X' ?_
  rw [nI_add i 1, fz_t (by omega : (0 : Nat) < 2147483648), h0]
  refine ⟨fz_in (by omega) (by omega), sp_191 hX (by omega) (by omega) (by omega) (fun u hu => sp_191 hX (by omega) (by omega) (by omega) (fun d hd => ?_))⟩
  have hu8 : u < 8 := by omega
  obtain ⟨j1, j2, j3⟩ := k3 u hu8
  obtain ⟨i1, i2, i3, -⟩ := h3 u hu8
  obtain ⟨L, l1, l2, l3, l4, l5⟩ := k4 u hu8
  -- loads
  have load : ∀ y, y < 201 → fm_Ci (fm_PP X) 176 [.inl (.ref 1), .inl (.int (nI u)), .inl (.int (nI y))] ((fm_uI N.1 0 (70 + u) (nI y), N.2), fm_SH) (fun r129 N128 => ((r129 = N.1 0 (70 + u) → (((nI 1) = nI 0 ∨ (nI 1) = nI 1) ∧ (fm_SH = fm_SH ∧ K (nI 1) N128))) ∧ (¬ (r129 = N.1 0 (70 + u)) → (((nI 0) = nI 0 ∨ (nI 0) = nI 1) ∧ (fm_SH = fm_SH ∧ K (nI 0) N128))))) (fun e N' => (fm_SH = fm_SH ∧ X' e N')) := fun y hy => by
    have r := fj_rgI (a := 0) (b := 200) (q := y) (by omega) (by omega) (by omega)
    refine sw_176 (n := n) (by simp (disch := omega) only [fz_ne]; exact hn) (by omega) hu r ?_
    refine fj_yes ?_ (H0 _ _ _ _ _ (fj_load hI hu8 (fj_rg_bd (a := 0) (b := 200) r (by decide) (by decide))) (Nat.le_succ _))
    simp (disch := omega) only [fz_ne]
    exact j2.symm
  have char : ∀ y, y < 65 → fm_Ci (fm_PP X) 177 [.inl (.ref 1), .inl (.int (nI u)), .inl (.int (nI y))] ((fm_uI (fm_uI N.1 0 (90 + u) (nI y)) 0 (170 + u) (nI 0), N.2), fm_SH) (fun r91 N90 => (fm_inb (nI 110 + nI u) 500 ∧ ((r91 = N90.1 0 (nI 110 + nI u).toNatClampNeg → (((nI 1) = nI 0 ∨ (nI 1) = nI 1) ∧ (fm_SH = fm_SH ∧ K (nI 1) N90))) ∧ (¬ (r91 = N90.1 0 (nI 110 + nI u).toNatClampNeg) → (((nI 0) = nI 0 ∨ (nI 0) = nI 1) ∧ (fm_SH = fm_SH ∧ K (nI 0) N90)))))) (fun e N' => (fm_SH = fm_SH ∧ X' e N')) := fun y hy => by
    have r := fj_rgI (a := 0) (b := 64) (q := y) (by omega) (by omega) (by omega)
    refine sw_177 (n := n) (M := M) (by simp (disch := omega) only [fz_ne]; exact hn) (by omega) hu r (by simp (disch := omega) only [fz_ne]; exact h21) hM ?_
    rw [nI_add, fz_t (by omega)]
    refine ⟨fz_in (by omega) (by omega), fj_yes ?_ (H0 _ _ _ _ _ (fj_char hI hu8 (fj_rg_bd (a := 0) (b := 64) r (by decide) (by decide))) (Nat.le_succ _))⟩
    simp (disch := omega) only [fz_an, fz_ne]
    exact i1.symm
  have base : ∀ y, 2000 ≤ y → y ≤ 2600 → fm_Ci (fm_PP X) 175 [.inl (.ref 1), .inl (.int (nI y))] ((fm_uI N.1 0 2 (nI y), N.2), fm_SH) (fun r45 N44 => ((r45 = N.1 0 2 → (((nI 1) = nI 0 ∨ (nI 1) = nI 1) ∧ (fm_SH = fm_SH ∧ K (nI 1) N44))) ∧ (¬ (r45 = N.1 0 2) → (((nI 0) = nI 0 ∨ (nI 0) = nI 1) ∧ (fm_SH = fm_SH ∧ K (nI 0) N44))))) (fun e N' => (fm_SH = fm_SH ∧ X' e N')) := fun y hy1 hy2 => by
    refine sw_175 (fj_rgI hy1 hy2 (by omega)) (fj_yes ?_ (H0 _ _ _ _ _ (fj_base hI) (Nat.le_succ _)))
    simp (disch := omega) only [fz_ne]
    exact k1.symm
  have b5 := fz_in (a := 5) (n := 500) (by omega) (by omega)
  have ib : ∀ c, c < 492 → fm_inb (nI c + nI u) 500 := fun c hc => by rw [nI_add]; exact fz_in (by omega) (by omega)
  have it : ∀ c, c < 492 → (nI c + nI u).toNatClampNeg = c + u := fun c hc => by rw [nI_add, fz_t (by omega)]
  refine ⟨fun _ => sp_192 hI hX (by omega) (fun N' A' o' fc' a b => ⟨Or.inr rfl, rfl, H0 _ _ _ _ _ a b⟩), fun _ => ⟨fun _ => sp_193 hI hX (by omega) (fun N' A' o' fc' a b => ⟨Or.inr rfl, rfl, H0 _ _ _ _ _ a b⟩), fun _ => ⟨fun _ => ?_, fun _ => ⟨fun _ => ?_, fun _ => ⟨fun _ => ?_, fun _ => ⟨fun _ => ?_, fun _ => ⟨fun _ => ?_, fun _ => ⟨fun _ => ?_, fun _ => ⟨fun _ => ?_, fun _ => ⟨fun _ => ?_, fun _ => ⟨fun _ => ?_, fun _ => ?_⟩⟩⟩⟩⟩⟩⟩⟩⟩⟩⟩
  · refine ⟨ib 70 (by omega), ?_⟩
    rw [it 70 (by omega), nI_add i 2, nI_add i 3]
    refine sp_191 hX (by omega) (by omega) (by omega) (fun p hp => ⟨fun _ => sp_191 hX (by omega) (by omega) (by omega) (fun q hq => ⟨ib 70 (by omega), ib 70 (by omega), ?_⟩), fun _ => sp_191 hX (by omega) (by omega) (by omega) (fun q hq => ⟨ib 70 (by omega), ib 70 (by omega), ?_⟩)⟩)
    · rw [fz_ae]; exact load q hq
    · rw [fz_ae]; exact load q (by omega)
  · refine ⟨ib 70 (by omega), ?_⟩
    rw [it 70 (by omega), nI_add i 2, nI_add i 3]
    refine sp_191 hX (by omega) (by omega) (by omega) (fun p hp => ⟨fun _ => sp_191 hX (by omega) (by omega) (by omega) (fun q hq => ⟨ib 70 (by omega), ib 70 (by omega), ?_⟩), fun _ => sp_191 hX (by omega) (by omega) (by omega) (fun q hq => ⟨ib 70 (by omega), ib 70 (by omega), ?_⟩)⟩)
    · rw [fz_ae]; exact load q hq
    · rw [fz_ae]; exact load q (by omega)
  · rw [it 90 (by omega), it 170 (by omega), nI_add i 2, nI_add i 3]
    refine sp_191 hX (by omega) (by omega) (by omega) (fun p hp => ⟨fun _ => ⟨ib 90 (by omega), ib 170 (by omega), ib 90 (by omega), ?_⟩, fun _ => sp_191 hX (by omega) (by omega) (by omega) (fun q hq => ⟨ib 90 (by omega), ib 170 (by omega), ib 90 (by omega), ?_⟩)⟩)
    · rw [fz_an _ _ _ _ (by omega), fz_ae]; exact char 0 (by omega)
    · rw [fz_an _ _ _ _ (by omega), fz_ae]; exact char q hq
  · refine ⟨fz_in (by omega) (by omega), ?_⟩
    rw [fz_t (by omega : (3 : Nat) < 2147483648), nI_add i 2]
    refine sp_191 hX (by omega) (by omega) (by omega) (fun q hq => ⟨fz_in (by omega) (by omega), fz_in (by omega) (by omega), ?_⟩)
    rw [fz_ae]
    have r := fj_rgI (a := 0) (b := 100) (q := q) (by omega) (by omega) (by omega)
    refine sw_178 r (fj_yes ?_ (H0 _ _ _ _ _ (fj_sun hI (fj_rg_bd (a := 0) (b := 100) r (by decide) (by decide))) (Nat.le_succ _)))
    simp (disch := omega) only [fz_ne]
    exact k2.symm
  · refine ⟨ib 210 (by omega), ?_⟩
    rw [it 190 (by omega), it 210 (by omega), nI_add i 2]
    refine sp_191 hX (by omega) (by omega) (by omega) (fun q hq => ⟨ib 190 (by omega), ib 210 (by omega), ib 190 (by omega), ?_⟩)
    rw [fz_an _ _ _ _ (by omega), fz_ae]
    have r := fj_rgI (a := 0) (b := 200) (q := q) (by omega) (by omega) (by omega)
    have p0 : fm_pc 0 u ≠ 0 := fj_pb (by omega) (by omega) (Or.inl (by omega))
    refine sw_179 (n := n) (by simp (disch := omega) only [fz_ne]; exact hn) (by omega) hu r (fj_yes ?_ (H0 _ _ _ _ _ (fj_roof hI hu8 (fj_rg_bd (a := 0) (b := 200) r (by decide) (by decide))) (Nat.le_succ _)))
    dsimp only
    rw [fz_ne _ _ p0, fz_ne _ _ p0, l2, l3, nI_add]
  · rw [nI_add i 2, nI_add i 3]
    exact sp_191 hX (by omega) (by omega) (by omega) (fun p hp => sp_191 hX (by omega) (by omega) (by omega) (fun q hq => sp_202 hI (by rw [hnn]; exact hu) hp hq (fun N' A' o' fc' a b => ⟨Or.inr rfl, rfl, H0 _ _ _ _ _ a b⟩)))
  · refine ⟨fz_in (by omega) (by omega), ?_⟩
    rw [fz_t (by omega : (2 : Nat) < 2147483648), nI_add i 2, nI_add i 3]
    refine sp_191 hX (by omega) (by omega) (by omega) (fun p hp => ⟨fun _ => sp_191 hX (by omega) (by omega) (by omega) (fun q hq => ⟨fz_in (by omega) (by omega), fz_in (by omega) (by omega), ?_⟩), fun _ => sp_191 hX (by omega) (by omega) (by omega) (fun q hq => ⟨fz_in (by omega) (by omega), fz_in (by omega) (by omega), ?_⟩)⟩)
    · rw [fz_ae, nI_add]; exact base _ (by omega) (by omega)
    · rw [fz_ae, nI_add]; exact base _ (by omega) (by omega)
  · have c := fl_Gc_of hI.1.1 hI.2.1.2.1
    have no : (u = 0 ∨ N.1 9 u = nI 0) → fm_Ci (fm_PP X) 183 [.inl (.ref 1), .inl (.int (nI u))] (N, fm_SH) (fun r22 N21 => ((r22 = (nI 4294067294) → (((nI 1) = nI 0 ∨ (nI 1) = nI 1) ∧ (fm_SH = fm_SH ∧ K (nI 1) N21))) ∧ (¬ (r22 = (nI 4294067294)) → (((nI 0) = nI 0 ∨ (nI 0) = nI 1) ∧ (fm_SH = fm_SH ∧ K (nI 0) N21))))) (fun e N' => (fm_SH = fm_SH ∧ X' e N')) := fun h => sw_183z hn (by omega) hu h (fj_yes rfl (H0 _ _ _ _ _ hI.g (Nat.le_refl _)))
    rw [it 150 (by omega), it 130 (by omega)]
    refine ⟨fun z => no (Or.inl ((nI_eq (by omega) (by omega)).mp z)), fun z => ⟨ib 150 (by omega), fun y => no (Or.inr ?_), fun y => ⟨ib 150 (by omega), ib 130 (by omega), ?_⟩⟩⟩
    · rw [← (c.2.2.1 u hu8).2.1]; exact y
    · exact lp_201f hI (by rw [hnn]; exact hu) (fun e => z (by rw [e])) y (fun N' A' o' fc' a b => H0 _ _ _ _ _ a (by omega))
  · refine ⟨fz_in (by omega) (by omega), ?_⟩
    rw [fz_t (by omega : (6 : Nat) < 2147483648), nI_add i 2]
    refine sp_191 hX (by omega) (by omega) (by omega) (fun q hq => ?_)
    rw [nI_add]
    exact lp_201p hI (by omega) (by omega) hmi H
  · exact lp_201m hI hmi H
end LDA
