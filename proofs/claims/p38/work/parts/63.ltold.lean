/-! the law: the class tells what the net tells -/
/-- a memory with another count of garbage -/
def fj_w (N : fm_N) (g : Nat) : fm_N := (N.1, N.2.1, N.2.2.1, g)
theorem fj_fc {x : UInt32} (h : FP.Core.fIsNaN x = false) : Op.cmpValue (FP.fcmp x x) .l = nI 0 := by
  rw [show FP.fcmp x x = some .eq from FP.Core.fcmp_self ((FP.Core.notNaN_iff32 x).mp h)]
  rfl
section LTD
variable {X : Nat × (Nat → Int32)} {N : fm_N} {A : fg_A} {o : Nat → Nat} {fc M mi n t S B : Nat} {K : Int32 → fm_N → Prop} {X' : Nat → fm_N → Prop} {Q : fm_O → fm_M → Prop}
/-- what the net and the class hold of the feeding while they are compared -/
def fj_C (N : fm_N) (A : fg_A) (n t M S : Nat) : Prop := (N.1 0 0 = nI n ∧ N.1 0 1 = nI t ∧ N.1 4 8 = nI n ∧ N.1 4 9 = nI t ∧ 1 ≤ n ∧ n ≤ 8 ∧ t ≤ 4) ∧ (N.1 21 4 = nI M ∧ M < 4096 ∧ S < 4096 ∧ ∀ i, i < n → S.testBit i = (fg_F A i && M.testBit i)) ∧
  (∀ i, i < n → (N.1 0 (400 + i) = fz_b (fg_F A i) ∧ N.1 13 i = fz_b (fg_F A i)) ∧ (fg_F A i = true → i ≠ 0 → N.1 0 (420 + i) = N.1 14 i) ∧ N.1 0 (110 + i) = N.1 23 i ∧ N.1 0 (130 + i) = N.1 8 i ∧ N.1 0 (150 + i) = N.1 9 i ∧ ∃ b, N.1 9 i = fz_b b) ∧
  ∀ q, q < t → N.1 0 (480 + q) = fz_b (fg_K A q) ∧ N.1 18 q = fz_b (fg_K A q)
theorem fj_C.w {g : Nat} (h : fj_C N A n t M S) : fj_C (fj_w N g) A n t M S := h
/-- ties, and what is told of the whole -/
theorem lp_213 (c : fj_C N A n t M S) (h4 : N.1 0 4 = N.1 1 9) (h5 : ∃ v, N.1 0 5 = nI v ∧ N.2.1 1 10 = lN v ∧ v < 2147483648) (h37 : N.1 3 7 = nI (fg_cn (fg_F A) n)) {g : Nat}
    (kk : Q (.inl (some (.inl (.int (nI 1))))) (fj_w N (g + 1), fm_SH)) :
    ∀ m q (o3 o5 o6 o7 : Option fm_V), t - q = m → q ≤ t →
    fm_Ev (fm_PP X) 203 (213, [some (.inl (.ref 1)), some (.inl (.ref 0)), some (.inl (.int (nI (fg_cn (fg_F A) n)))), o3, some (.inl (.int (nI q))), o5, o6, o7], [], (fj_w N g, fm_SH)) Q := by
  obtain ⟨⟨c1, c2, c3, c4, n1, n8, t4⟩, -, -, c5⟩ := id c
  have e1 : ∀ g, (fj_w N g).1 = N.1 := fun g => rfl
  intro m
  induction m with
  | zero =>
    intro q o3 o5 o6 o7 hm hq
    refine fb_203_213 X _ _ _ _ _ _ _ Q ?_
    rw [e1, fz_t (by omega : (1 : Nat) < 2147483648), c2, fz_le (by omega) (by omega)]
    refine ⟨fz_in (by omega) (by omega), fun _ => fe_15 X _ _ _ ⟨rfl, fz_in (by omega) (by omega), fun _ => fe_31 X _ _ _ ⟨rfl, fz_in (by omega) (by omega), fun _ => fe_32 X _ _ _ ⟨rfl, fz_in (by omega) (by omega), fun _ => ?_, fun z => absurd ?_ z⟩, fun z => absurd ?_ z⟩, fun z => absurd ?_ z⟩, fun z => absurd (by omega) z⟩
    · have h8 : N.1 4 8 ≠ 0 := fun z => absurd ((nI_eq (a := n) (b := 0) (by omega) (by omega)).mp (c3.symm.trans z)) (by omega)
      have hq := fj_fq (a := N.1 3 7) h8
      refine fe_33 X _ _ _ ⟨fj_fle hq, rfl, fz_in (by omega) (by omega), ?_, ?_, ?_⟩
      · rw [e1, fz_t (by omega : (0 : Nat) < 2147483648), c1, ← c3, ← h37]
        exact fj_fle hq
      · intro _
        refine ⟨fz_in (by omega) (by omega), ?_⟩
        rw [e1, c2]
        exact sw_189n (t := t) c4 t4 (fun ⟨u, hu, he⟩ => by have := (nI_eq (by omega) (by omega)).mp he; omega) ⟨fun _ => ⟨Or.inr rfl, kk⟩, fun z => absurd rfl z⟩
      · intro z
        refine absurd ?_ z
        rw [e1, fz_t (by omega : (0 : Nat) < 2147483648), c1, ← c3, ← h37]
        exact fj_fc hq
    · obtain ⟨v, v1, v2, v3⟩ := h5
      rw [show (fj_w N g).2.1 1 10 = lN v from v2, e1, fz_t (by omega : (5 : Nat) < 2147483648), v1, nI_l (by omega)]
      unfold lg_cmp
      simp
      rfl
    · rw [e1, fz_t (by omega : (4 : Nat) < 2147483648)]; exact h4.symm
    · rw [e1, fz_t (by omega : (0 : Nat) < 2147483648)]; exact c3.trans c1.symm
  | succ m ih =>
    intro q o3 o5 o6 o7 hm hq
    obtain ⟨d1, d2⟩ := c5 q (by omega)
    refine fb_203_213 X _ _ _ _ _ _ _ Q ?_
    rw [e1, fz_t (by omega : (1 : Nat) < 2147483648), c2, fz_le (by omega) (by omega), nI_add, nI_add, fz_t (by omega : 480 + q < 2147483648)]
    refine ⟨fz_in (by omega) (by omega), fun z => absurd z (by omega), fun _ => sw_189 (t := t) c4 t4 (by omega) d2 ⟨fz_in (by omega) (by omega), fun _ => ih (q + 1) _ _ _ _ (by omega) (by omega), fun z => absurd d1.symm z⟩⟩
/-- node by node -/
theorem lp_203 (c : fj_C N A n t M S)
    (k2 : ∀ g (o5 o6 o7 : Option fm_V), g ≤ B + 3 * n → fm_Ev (fm_PP X) 203 (213, [some (.inl (.ref 1)), some (.inl (.ref 0)), some (.inl (.int (nI (fg_cn (fg_F A) n)))), some (.inl (.int (nI S))), some (.inl (.int (nI 0))), o5, o6, o7], [], (fj_w N g, fm_SH)) Q) :
    ∀ m k g (o5 o6 o7 : Option fm_V), n - k = m → k ≤ n → g ≤ B + 3 * k →
    fm_Ev (fm_PP X) 203 (14, [some (.inl (.ref 1)), some (.inl (.ref 0)), some (.inl (.int (nI (fg_cn (fg_F A) k)))), some (.inl (.int (nI S))), some (.inl (.int (nI k))), o5, o6, o7], [], (fj_w N g, fm_SH)) Q := by
  obtain ⟨⟨c1, c2, c3, c4, n1, n8, t4⟩, ⟨cM, cM2, cS, cB⟩, c5, -⟩ := id c
  have e1 : ∀ g, (fj_w N g).1 = N.1 := fun g => rfl
  intro m
  induction m with
  | zero =>
    intro k g o5 o6 o7 hm hk hg
    have e : k = n := by omega
    subst e
    refine fb_203_14 X _ _ _ _ _ _ _ Q ?_
    rw [e1, fz_t (by omega : (0 : Nat) < 2147483648), c1, fz_le (by omega) (by omega)]
    exact ⟨fz_in (by omega) (by omega), fun _ => k2 g _ _ _ hg, fun z => absurd (Nat.le_refl _) z⟩
  | succ m ih =>
    intro k g o5 o6 o7 hm hk hg
    have hkn : k < n := by omega
    obtain ⟨⟨d1, d2⟩, d3, d4, d5, d6, b, d7⟩ := c5 k hkn
    have i4 : fm_inb (nI 400 + nI k) 500 := by rw [nI_add]; exact fz_in (by omega) (by omega)
    have t4' : (nI 400 + nI k).toNatClampNeg = 400 + k := by rw [nI_add, fz_t (by omega)]
    have ecn : nI (fg_cn (fg_F A) k) + fz_b (fg_F A k) = nI (fg_cn (fg_F A) (k + 1)) := by
      show _ = nI (fg_cn (fg_F A) k + (if fg_F A k = true then 1 else 0))
      rw [← nI_add]
      cases fg_F A k <;> rfl
    -- heat and fuse
    have fin : ∀ g (o5 o6 : Option fm_V), g ≤ B + 3 * k + 1 → fm_Ev (fm_PP X) 203 (143, [some (.inl (.ref 1)), some (.inl (.ref 0)), some (.inl (.int (nI (fg_cn (fg_F A) (k + 1))))), some (.inl (.int (nI S))), some (.inl (.int (nI k))), o5, o6, some (.inl (.int (nI 1)))], [], (fj_w N g, fm_SH)) Q := fun g o5 o6 hg => by
      refine fb_203_143 X _ _ _ _ _ _ _ Q ⟨fun z => absurd z fj_n1, fun _ => ?_⟩
      by_cases k0 : k = 0
      · subst k0
        refine sw_186z (n := n) c3 (by omega) (by omega) ⟨fun _ => ⟨fun _ => sw_190z (n := n) c3 (by omega) (by omega) ⟨fun _ => ⟨fun _ => ?_, fun z => absurd rfl z⟩, fun z => absurd rfl z⟩, fun z => absurd rfl z⟩, fun z => absurd rfl z⟩
        rw [nI_add]
        exact ih (0 + 1) (g + 1 + 1) _ _ _ (by omega) (by omega) (by omega)
      · have k0' : ¬ nI k = nI 0 := fun z => k0 ((nI_eq (by omega) (by omega)).mp z)
        have i1 : fm_inb (nI 130 + nI k) 500 := by rw [nI_add]; exact fz_in (by omega) (by omega)
        have i2 : fm_inb (nI 150 + nI k) 500 := by rw [nI_add]; exact fz_in (by omega) (by omega)
        have t1 : (nI 130 + nI k).toNatClampNeg = 130 + k := by rw [nI_add, fz_t (by omega)]
        have t2 : (nI 150 + nI k).toNatClampNeg = 150 + k := by rw [nI_add, fz_t (by omega)]
        refine sw_186 (n := n) c3 (by omega) hkn k0 ⟨fun z => absurd z k0', fun _ => ⟨i1, fun _ => sw_190 (n := n) c3 (by omega) hkn k0 d7 ⟨fun z => absurd z k0', fun _ => ⟨i2, fun _ => ?_, fun z => absurd ?_ z⟩⟩, fun z => absurd ?_ z⟩⟩
        · rw [nI_add]
          exact ih (k + 1) g _ _ _ (by omega) (by omega) (by omega)
        · rw [e1, t2, d6, d7]
        · rw [e1, t1]; exact d5.symm
    -- who feeds it
    have mid : ∀ (x6 : Int32) (o5 o7 : Option fm_V), ((k = 0 ∨ fg_F A k = false) ∧ x6 = nI 4294067294) ∨ (k ≠ 0 ∧ fg_F A k = true ∧ x6 = N.1 0 (420 + k)) → fm_Ev (fm_PP X) 203 (77, [some (.inl (.ref 1)), some (.inl (.ref 0)), some (.inl (.int (nI (fg_cn (fg_F A) (k + 1))))), some (.inl (.int (nI S))), some (.inl (.int (nI k))), o5, some (.inl (.int x6)), o7], [], (fj_w N g, fm_SH)) Q := fun x6 o5 o7 hx => by
      have rest : ∀ g', g' ≤ B + 3 * k + 1 → fm_Ci (fm_PP X) 188 [.inl (.ref 1), .inl (.int (nI k))] (fj_w N g', fm_SH) (fun r6 N5 => ((r6 = ((nI S >>> (nI k &&& 31)) &&& (nI 1)) → fm_Ci (fm_PP X) 185 [.inl (.ref 1), .inl (.int (nI k))] (N5, fm_SH) (fun r8 N7 => (fm_inb ((nI 110) + nI k) 500 ∧ ((r8 = (N7.1 0 (((nI 110) + nI k).toNatClampNeg)) → fm_Ev (fm_PP X) 203 (143, [some (.inl (.ref 1)), some (.inl (.ref 0)), some (.inl (.int (nI (fg_cn (fg_F A) (k + 1))))), some (.inl (.int (nI S))), some (.inl (.int (nI k))), o5, some (.inl (.int x6)), some (.inl (.int (nI 1)))], [], (N7, fm_SH)) Q) ∧ (¬ (r8 = (N7.1 0 (((nI 110) + nI k).toNatClampNeg))) → fm_Ev (fm_PP X) 203 (143, [some (.inl (.ref 1)), some (.inl (.ref 0)), some (.inl (.int (nI (fg_cn (fg_F A) (k + 1))))), some (.inl (.int (nI S))), some (.inl (.int (nI k))), o5, some (.inl (.int x6)), some (.inl (.int (nI 0)))], [], (N7, fm_SH)) Q)))) (fun e10 N9 => Q (.inr e10) (N9, fm_SH))) ∧ (¬ (r6 = ((nI S >>> (nI k &&& 31)) &&& (nI 1))) → fm_Ev (fm_PP X) 203 (143, [some (.inl (.ref 1)), some (.inl (.ref 0)), some (.inl (.int (nI (fg_cn (fg_F A) (k + 1))))), some (.inl (.int (nI S))), some (.inl (.int (nI k))), o5, some (.inl (.int x6)), some (.inl (.int (nI 0)))], [], (N5, fm_SH)) Q))) (fun e12 N11 => Q (.inr e12) (N11, fm_SH)) := fun g' hg' => by
        refine sw_188 (n := n) (A := A) (M := M) c3 (by omega) hkn d2 cM cM2 ⟨fun _ => sw_185 (n := n) c3 (by omega) hkn ⟨by rw [nI_add]; exact fz_in (by omega) (by omega), fun _ => fin g' _ _ hg', fun z => absurd ?_ z⟩, fun z => absurd ?_ z⟩
        · rw [nI_add, fz_t (by omega)]; exact d4.symm
        · rw [fz_bit cS (by omega), cB k hkn]
      refine fb_203_77 X _ _ _ _ _ _ _ Q (sw_187 (n := n) c3 (by omega) hkn d2 ⟨i4, fun _ => ?_, fun z => absurd (by rw [e1, t4']; exact d1.symm) z⟩)
      rcases hx with ⟨h1, h2⟩ | ⟨h0, h1, h2⟩
      · refine sw_184u (n := n) c3 (by omega) hkn (h1.imp_right fun z => by rw [e1, d2, z]; rfl) ⟨fun _ => rest (g + 1) (by omega), fun z => absurd h2.symm z⟩
      · refine sw_184 (n := n) c3 (by omega) hkn h0 (by rw [e1, d2, h1]; rfl) ⟨fun _ => rest g (by omega), fun z => absurd ?_ z⟩
        rw [h2, e1]
        exact (d3 h1 h0).symm
    have at41 : ∀ (o6 o7 : Option fm_V), fm_Ev (fm_PP X) 203 (41, [some (.inl (.ref 1)), some (.inl (.ref 0)), some (.inl (.int (nI (fg_cn (fg_F A) k)))), some (.inl (.int (nI S))), some (.inl (.int (nI k))), some (.inl (.int (fz_b (fg_F A k)))), o6, o7], [], (fj_w N g, fm_SH)) Q := fun o6 o7 => by
      refine fb_203_41 X _ _ _ _ _ _ _ Q ?_
      rw [e1, t4', d1, ecn, fz_be, nI_add 420 k, fz_t (by omega : 420 + k < 2147483648)]
      refine ⟨i4, fun z => mid _ _ _ (Or.inl ⟨Or.inl ((nI_eq (by omega) (by omega)).mp z), rfl⟩), fun z => ⟨fun y => mid _ _ _ (Or.inl ⟨Or.inr y, rfl⟩), fun y => ⟨fz_in (by omega) (by omega), mid _ _ _ (Or.inr ⟨fun w => z (by rw [w]), (Bool.not_eq_false _).mp y, rfl⟩)⟩⟩⟩
    refine fb_203_14 X _ _ _ _ _ _ _ Q ?_
    rw [e1, fz_t (by omega : (0 : Nat) < 2147483648), c1, fz_le (by omega) (by omega), t4', d1, fz_b1e]
    refine ⟨fz_in (by omega) (by omega), fun z => absurd z (by omega), fun _ => ⟨i4, fun z => ?_, fun z => ?_⟩⟩
    · have h := at41 o6 o7
      rw [z] at h
      exact h
    · have h := at41 o6 o7
      rw [(Bool.not_eq_true _).mp z] at h
      exact h
theorem sp_203 (hI : fj_I N A o fc M mi) (H : ∀ N', fj_I N' A o fc M mi → N'.2.2.2 ≤ N.2.2.2 + 25 → K (nI 1) N') : fm_Ci (fm_PP X) 203 [.inl (.ref 1), .inl (.ref 0)] (N, fm_SH) K X' := by
  obtain ⟨ic, hT, hb⟩ := id hI
  obtain ⟨hG, hS, hFin, -, -, h21, hM, -⟩ := id ic
  have c := fl_Gc_of hG hT.2.1
  have h8 := hT.2.1.2.2.1
  refine fe_203 X N K X' (sp_195 hT.2.1 hT.2.2.2.1 (fun N1 A1 a1 a2 a3 a4 => ?_))
  have uq := fg_Fin_uniq hG.2.2.2.2.1 a4 hFin
  have hn0 : N1.1 0 0 = nI (fg_n (fk_gG N)) := by rw [a1.2.1 0 (by omega)]; exact hT.2.1.1
  refine sp_197 (n := fg_n (fk_gG N)) (M := M) (F := fg_F A1) hn0 h8 (fun i hi => by rw [a1.2.1 (170 + i) (by omega)]; exact (hT.2.2.1 i hi).2.2.1) a2.1 (fun S s1 s2 => ?_)
  have e1 : ∀ q, q ≠ 0 → N1.1 q = N.1 q := a1.1
  have cc : fj_C N1 A (fg_n (fk_gG N)) (fg_t (fk_gG N)) M S := by
    refine ⟨⟨hn0, by rw [a1.2.1 1 (by omega)]; exact hT.2.1.2.1, by rw [e1 4 (by omega)]; exact hG.1, by rw [e1 4 (by omega)]; exact hG.2.1, hG.2.2.2.2.1.1, h8, hG.2.2.2.1⟩, ⟨by rw [e1 21 (by omega)]; exact h21, hM, s1, fun i hi => ?_⟩, fun i hi => ⟨⟨?_, ?_⟩, fun hF h0 => ?_, ?_, ?_, ?_, ?_⟩, fun q hq => ⟨?_, ?_⟩⟩
    · have := s2 i
      rw [uq.1] at this
      cases h1 : S.testBit i <;> cases h2 : fg_F A i <;> cases h3 : M.testBit i <;> simp [h1, h2, h3, hi] at this ⊢
    · rw [a2.1 i (by omega), uq.1]
    · rw [e1 13 (by omega)]; exact (hS.1 i (by omega)).1
    · have hF1 : fg_F A1 i = true := by rw [uq.1]; exact hF
      rw [(a2.2.1 i (by omega) hF1).1 h0, e1 14 (by omega), (hS.1 i (by omega)).2.1, (uq.2.2.2.2 i hF1).1]
    · rw [a1.2.1 (110 + i) (by omega), e1 23 (by omega)]; exact (hT.2.2.1 i (by omega)).1
    · rw [a1.2.1 (130 + i) (by omega), e1 8 (by omega)]; exact (hT.2.2.1 i (by omega)).2.1
    · rw [a1.2.1 (150 + i) (by omega), e1 9 (by omega)]; exact (c.2.2.1 i (by omega)).2.1
    · rw [e1 9 (by omega)]; exact ⟨_, (hG.2.2.2.2.2.1 i (by omega)).2.1⟩
    · rw [a2.2.2 q (by have := hG.2.2.2.1; omega), uq.2.2.2.1]
    · rw [e1 18 (by omega)]; exact hS.2.1 q (by have := hG.2.2.2.1; omega)
  have hAn := fj_An hG hFin
  have h37 : N1.1 3 7 = nI (fg_cn (fg_F A) (fg_n (fk_gG N))) := by
    rw [e1 3 (by omega), hS.2.2.1, hS.2.2.2.2.2, fg_cn_more (n := fg_n (fk_gG N)) 12 (by omega) (fun i h1 h2 => Bool.eq_false_iff.mpr fun z => by have := hAn i z; omega)]
  have hI1 : fj_I N1 A o fc M mi := (fj_q.L a1).I hI (fun i hi hin => by
    rw [a2.1 i hi, show fg_F A1 i = false from Bool.eq_false_iff.mpr fun z => by rw [uq.1] at z; have := hAn i z; omega]
    rfl)
  have e22 : N1.2.2.2 = N.2.2.2 := by rw [a1.2.2]
  have hfin : ∀ g, g ≤ N.2.2.2 + 3 * fg_n (fk_gG N) → K (nI 1) (fj_w N1 (g + 1)) := fun g hg => by
    have q : fj_q 25 N1 (fj_w N1 (g + 1)) := ⟨fun _ _ _ => rfl, fun _ _ => rfl, rfl, rfl, by show g + 1 ≤ _; omega⟩
    refine H _ (q.I0 hI1 rfl) (by show g + 1 ≤ _; omega)
  have h45 : ∃ v, N1.1 0 5 = nI v ∧ N1.2.1 1 10 = lN v ∧ v < 2147483648 := by
    obtain ⟨v, v1, v2, v3⟩ := hT.2.2.2.2.2.1
    have := hT.2.2.2.2.2.2
    exact ⟨v, by rw [a1.2.1 5 (by omega)]; exact v1, by rw [a1.2.2]; exact v2, by omega⟩
  have h44 : N1.1 0 4 = N1.1 1 9 := by rw [a1.2.1 4 (by omega), e1 1 (by omega)]; exact hT.2.2.2.2.1
  have start := lp_203 (X := X) (Q := fm_Qi fm_SH K X') (B := N.2.2.2) cc (fun g o5 o6 o7 hg => lp_213 cc h44 h45 h37 ⟨rfl, hfin g hg⟩ _ 0 _ _ _ _ rfl (Nat.zero_le _)) _ 0 N1.2.2.2 none none none rfl (Nat.zero_le _) (by omega)
  exact start
end LTD
