/-! the law's invariant after the grid is changed -/
abbrev fj_gc : List Nat := [3, 4, 5, 6, 7, 8, 9, 10, 11]
abbrev fj_fc : List Nat := [2, 12, 13, 14, 15, 16, 17, 63, 64, 65, 66, 70, 71, 78, 79, 80]
theorem fj_regrid {N N1 N2 : fm_N} {A A' : fg_A} {o o' : Nat → Nat} {fc fc' M : Nat} (hI : fj_I N A o fc M) (hG1 : fk_G N1 (fk_gG N1)) (hle : fg_n (fk_gG N) ≤ fg_n (fk_gG N1)) (hF1 : fx_F fj_gc N N1) (hF2 : fx_F fj_fc N1 N2) (hS : fk_S N2 A' o' fc') (hFin : fg_Fin (fk_gG N1) A')
    (hrt : ∀ i, i < 12 → fz_bd 0 400 (N1.1 6 i)) (hh : ∀ i, fz_bd 0 10000 (N1.1 7 i)) (h25 : N2.1 63 25 = N1.1 3 8) (h26 : N2.1 63 26 = N1.1 3 9) (h63 : ∀ i, i ≠ 25 → i ≠ 26 → N2.1 63 i = N1.1 63 i)
    (h64 : N2.1 64 = N1.1 4) (h65 : N2.1 65 = N1.1 5) (h66 : N2.1 66 = N1.1 6) (h70 : N2.1 70 = N1.1 7) (h71 : ∀ i, i < 12 → N2.1 71 i = N1.1 8 i) (h78 : N2.1 78 = N1.1 9) (h79 : N2.1 79 = N1.1 10) (h80 : N2.1 80 = N1.1 11) : fj_I N2 A' o' fc' M := by
  obtain ⟨⟨c25, c26, c27, c28, c29, c32⟩, ⟨c64, c65, c66, c67, c68, c69, c70⟩, c71, c72, ⟨c78, c79, c80⟩, cR⟩ := hI.2.1
  obtain ⟨⟨_, _, _, hR, hr, h4, hM, _⟩, _, hn⟩ := hI
  have e1 := hF1.1
  have e2 := hF2.1
  have eG : fk_gG N2 = fk_gG N1 := fk_gG_same (e2 3 rfl) (e2 4 rfl) (e2 5 rfl) (e2 9 rfl) (e2 10 rfl) (e2 11 rfl) (fun i => by rw [e2 7 rfl])
  have hp1 := fj_hp fj_gc (by intro c h1 h2; simp; omega)
  have hp2 := fj_hp fj_fc (by intro c h1 h2; simp; omega)
  refine ⟨⟨?_, hS, ?_, (hR.fr hF1 hp1).fr hF2 hp2, ⟨fun i hi => ?_, ?_, fun j hj k hk => ?_⟩, ?_, hM, fun i => ?_⟩, ⟨⟨?_, ?_, ?_, ?_, ?_, ?_⟩, ⟨?_, ?_, ?_, ?_, ?_, ?_, ?_⟩, fun i hi => ?_, fun i hi => ?_, ⟨?_, ?_, ?_⟩, fun j hj => ?_⟩, fun i hi => ?_⟩
  · rw [eG]; exact hG1.fr hF2 ⟨rfl, rfl, rfl, rfl, rfl, rfl, rfl⟩
  · rw [eG]; exact hFin
  · rw [e2 61 rfl, e1 61 rfl, e2 21 rfl, e1 21 rfl, e2 6 rfl]
    exact ⟨(hr.1 i hi).1, (hr.1 i hi).2.1, hrt i hi⟩
  · rw [e2 0 rfl, e1 0 rfl]; exact hr.2.1
  · rw [e2 _ (hp2 j hj).2.2, e1 _ (hp1 j hj).2.2]; exact hr.2.2 j hj k hk
  · rw [e2 20 rfl, e1 20 rfl]; exact h4
  · rw [e2 7 rfl]; exact hh i
  · rw [h25, e2 3 rfl]
  · rw [h26, e2 3 rfl]
  · rw [h63 27 (by decide) (by decide), e1 63 rfl, e2 0 rfl, e1 0 rfl]; exact c27
  · rw [h63 28 (by decide) (by decide), e1 63 rfl, e2 0 rfl, e1 0 rfl]; exact c28
  · rw [h63 29 (by decide) (by decide), e1 63 rfl, e2 0 rfl, e1 0 rfl]; exact c29
  · rw [hF2.2, hF1.2]; exact c32
  · rw [h64, e2 4 rfl]
  · rw [h65, e2 5 rfl]
  · rw [h66, e2 6 rfl]
  · rw [e2 67 rfl, e1 67 rfl, e2 61 rfl, e1 61 rfl]; exact c67
  · rw [e2 68 rfl, e1 68 rfl, e2 21 rfl, e1 21 rfl]; exact c68
  · rw [e2 69 rfl, e1 69 rfl, e2 22 rfl, e1 22 rfl]; exact c69
  · rw [h70, e2 7 rfl]
  · rw [h71 i hi, e2 8 rfl]
  · rw [e2 72 rfl, e1 72 rfl]; exact c72 i hi
  · rw [h78, e2 9 rfl]
  · rw [h79, e2 10 rfl]
  · rw [h80, e2 11 rfl]
  · rw [e2 _ (hp2 j hj).1, e1 _ (hp1 j hj).1, e2 _ (hp2 j hj).2.1, e1 _ (hp1 j hj).2.1, e2 _ (hp2 j hj).2.2, e1 _ (hp1 j hj).2.2, e2 75 rfl, e1 75 rfl, e2 76 rfl, e1 76 rfl, e2 77 rfl, e1 77 rfl, e2 81 rfl, e1 81 rfl]
    exact cR j hj
  · rw [eG]; exact Nat.lt_of_lt_of_le (hn i hi) hle
theorem fj_A0 {N : fm_N} {A : fg_A} {o : Nat → Nat} {fc M : Nat} (hI : fj_I N A o fc M) : fg_D A 0 = 0 ∧ fg_C A 0 = 0 ∧ fg_S A 0 = 0 := by
  obtain ⟨kk, hRe, -⟩ := hI.1.2.2.1
  exact fg_Re_0 hI.1.1.2.2.2.2.1 kk A hRe
theorem fj_An {N : fm_N} {A : fg_A} {G : fg_G} (hG : fk_G N G) (h : fg_Fin G A) : ∀ u, fg_F A u = true → u < fg_n G := by
  obtain ⟨kk, hRe, -⟩ := h
  exact (fg_Re_Fu hG.2.2.2.2.1 kk A hRe).1.1.2.2.2.2.2.2.2.2
section FJG
variable {X : Nat × (Nat → Int32)} {N : fm_N} {Q : fm_O → fm_M → Prop} {X' : Nat → fm_N → Prop} {A : fg_A} {G : fg_G}
theorem lp_89 {n : Nat} (hn : n ≤ 12) (h25 : N.1 63 25 = nI n) (h74 : ∀ i, i < n → N.1 74 i = fz_b (fg_F A i)) (kk : Q (.inl (some (.inl (.int (nI (fg_cn (fg_F A) n)))))) (N, fm_SH)) :
    ∀ m k, n - k = m → k ≤ n → fm_Ev (fm_PP X) 89 (8, [some (.inl (.ref 63)), some (.inl (.int (nI (fg_cn (fg_F A) k)))), some (.inl (.int (nI k)))], [], (N, fm_SH)) Q := by
  intro m
  induction m with
  | zero =>
    intro k hm hk
    refine fb_89_8 X _ _ N Q ?_
    rw [h25, fz_le (by omega) (by omega)]
    have e : k = n := by omega
    subst e
    exact ⟨fun _ => kk, fun z => absurd (Nat.le_refl _) z⟩
  | succ m ih =>
    intro k hm hk
    refine fb_89_8 X _ _ N Q ?_
    rw [h25, fz_le (by omega) (by omega), fz_t (by omega : k < 2147483648), h74 k (by omega), fz_be, nI_add, nI_add, nI_add]
    refine ⟨fun z => absurd z (by omega), fun _ => ⟨fz_in (by omega) (by omega), fun z => ?_, fun z => ?_⟩⟩
    · have := ih (k + 1) (by omega) (by omega)
      rw [show fg_cn (fg_F A) (k + 1) = fg_cn (fg_F A) k + 0 by show fg_cn (fg_F A) k + (if fg_F A k = true then 1 else 0) = _; rw [if_neg (by rw [z]; decide)]] at this
      exact this
    · have := ih (k + 1) (by omega) (by omega)
      rw [show fg_cn (fg_F A) (k + 1) = fg_cn (fg_F A) k + 1 by show fg_cn (fg_F A) k + (if fg_F A k = true then 1 else 0) = _; rw [if_pos (by simpa using z)]] at this
      exact this
theorem sp_89 {Ki : Int32 → fm_N → Prop} (hG : fn_G N G) (hA : fg_Fin G A) (kk : ∀ N', fx_F fn_fs N N' → Ki (nI (fg_cn (fg_F A) (fg_n G))) N') : fm_Ci (fm_PP X) 89 [.inl (.ref 63)] (N, fm_SH) Ki X' := by
  refine fe_89 X N Ki X' (sp_80 hG hA (fun N1 a1 a2 => ?_))
  have h25 : N1.1 63 25 = nI (fg_n G) := by rw [a1.1 63 rfl]; exact hG.1
  exact lp_89 hG.2.2.1 h25 (fun i hi => (a2.1 i hi).1) ⟨rfl, kk N1 a1⟩ _ 0 rfl (Nat.zero_le _)
end FJG
