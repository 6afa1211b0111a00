/-! the law: its loop -/
section FJ0
variable {X : Nat × (Nat → Int32)} {Q : fm_O → fm_M → Prop}
theorem lp_0 (hX : X.1 < 2147483640) (kk : ∀ N', 4 * N'.2.2.2 ≤ X.1 → Q (.inl (some (.inl (.int (nI 1))))) (N', fm_SH)) :
    ∀ m i (N : fm_N) (o6 o7 o8 o9 : Option fm_V) (A : fg_A) (o : Nat → Nat) (fc M : Nat), X.1 - 4 * i ≤ m → 4 * i ≤ X.1 → fj_I N A o fc M → N.2.2.2 ≤ i →
    fm_Ev (fm_PP X) 0 (28, [some (.inl (.ref 999999)), some (.inl (.ref 0)), some (.inl (.ref 63)), some (.inl (.ref 89)), some (.inl (.ref 90)), some (.inl (.int (nI (4 * i)))), o6, o7, o8, o9], [], (N, fm_SH)) Q := by
  intro m
  induction m with
  | zero =>
    intro i N o6 o7 o8 o9 A o fc M hm hi hI hg
    refine fb_0_28 X _ _ _ _ _ N Q ⟨fun _ => ⟨Or.inr rfl, kk N (by omega)⟩, fun z => absurd ?_ z⟩
    have e : (nI X.1 - nI 4).toInt = (nI X.1).toInt - (nI 4).toInt := Jvm.Kit.i32_sub (by rw [fz_nI (by omega), fz_nI (by omega)]; omega) (by rw [fz_nI (by omega), fz_nI (by omega)]; omega)
    rw [fz_ltI, e, fz_nI (by omega), fz_nI (by omega), fz_nI (by omega)]
    omega
  | succ m ih =>
    intro i N o6 o7 o8 o9 A o fc M hm hi hI hg
    have e : (nI X.1 - nI 4).toInt = (nI X.1).toInt - (nI 4).toInt := Jvm.Kit.i32_sub (by rw [fz_nI (by omega), fz_nI (by omega)]; omega) (by rw [fz_nI (by omega), fz_nI (by omega)]; omega)
    refine fb_0_28 X _ _ _ _ _ N Q ⟨fun _ => ⟨Or.inr rfl, kk N (by omega)⟩, fun z => ?_⟩
    have h4 : 4 * i + 4 ≤ X.1 := by
      rw [fz_ltI, e, fz_nI (by omega), fz_nI (by omega), fz_nI (by omega)] at z
      omega
    have h1 : fm_inb (nI (4 * i) + nI 1) X.1 := by rw [nI_add]; exact fz_in (by omega) (by omega)
    have h2 : fm_inb (nI (4 * i) + nI 2) X.1 := by rw [nI_add]; exact fz_in (by omega) (by omega)
    have h3 : fm_inb (nI (4 * i) + nI 3) X.1 := by rw [nI_add]; exact fz_in (by omega) (by omega)
    have H : fj_H X (nI (4 * i)) (N.2.2.2 + 1) Q := fun N' p6 p7 p8 p9 A' o' fc' M' hI' hg' => by
      refine fb_0_1965 X _ _ _ _ _ N' Q ?_
      rw [nI_add]
      exact ih (i + 1) N' p6 p7 p8 p9 A' o' fc' M' (by omega) (by omega) hI' (by omega)
    exact ⟨fz_in (by omega) (by omega), ⟨fun _ => lw_200 hI h1 h2 h3 H, fun _ => ⟨fun _ => lw_280 hI h1 h2 h3 H, fun _ => ⟨fun _ => lw_360 hI h1 H, fun _ => ⟨fun _ => lw_416 hI h1 h2 H, fun _ => ⟨fun _ => lw_484 hI h1 h2 H, fun _ => ⟨fun _ => lw_552 hI h1 H, fun _ => ⟨fun _ => lw_608 hI h1 h2 H, fun _ => ⟨fun _ => lw_676 hI h1 h2 H, fun _ => ⟨fun _ => lw_744 hI h1 h2 H, fun _ => ⟨fun _ => lw_812 hI h1 h2 H, fun _ => ⟨fun _ => lw_880 hI H, fun _ => ⟨fun _ => lw_893 hI h1 H, fun _ => ⟨fun _ => lw_949 hI h1 H, fun _ => ⟨fun _ => lw_1005 hI H, fun _ => ⟨fun _ => lw_1018 hI h1 H, fun _ => ⟨fun _ => lw_1081 hI h1 H, fun _ => ⟨fun _ => lw_1137 hI h1 H, fun _ => ⟨fun _ => lw_1200 hI h1 H, fun _ => ⟨fun _ => lw_1256 hI h1 H, fun _ => ⟨fun _ => lw_1312 hI h1 H, fun _ => ⟨fun _ => lw_1368 hI H, fun _ => ⟨fun _ => lw_1381 hI H, fun _ => ⟨fun _ => lw_1394 hI h1 H, fun _ => ⟨fun _ => lw_1457 hI h1 H, fun _ => ⟨fun _ => lw_1513 hI h1 H, fun _ => ⟨fun _ => lw_1569 hI H, fun _ => ⟨fun _ => lw_1613 hI H, fun _ => ⟨fun _ => lw_1657 hI h1 H, fun _ => ⟨fun _ => lw_1713 hI h1 H, fun _ => ⟨fun _ => lw_1776 hI H, fun _ => ⟨fun _ => lw_1789 hI H, fun _ => ⟨fun _ => lw_1803 hI H, fun _ => ⟨fun _ => lw_1846 hI H, fun _ => ⟨fun _ => lw_1887 hI H, fun _ => ⟨fun _ => lw_1952 hI H, fun _ => H N _ _ _ _ A o fc M hI (Nat.le_succ _)⟩⟩⟩⟩⟩⟩⟩⟩⟩⟩⟩⟩⟩⟩⟩⟩⟩⟩⟩⟩⟩⟩⟩⟩⟩⟩⟩⟩⟩⟩⟩⟩⟩⟩⟩⟩
end FJ0
