/-! ===== the other calls; a turn of the law's loop; its start ===== -/
section REST
variable {xs : Nat → Int32} {L j : Nat} {μ : Mm}
theorem st_begin (hI : Inv μ) : ∃ μ', L_law_j156 xs L (nI (6 * j)) μ = some μ' ∧ Inv μ' := by
  obtain ⟨T, N, f, hC, hM, hv, hTc, hTm⟩ := hI
  obtain ⟨r, e, ν1, rfl, c1, f1⟩ := begin_eq hC
  obtain ⟨ν, e2, i1, f2⟩ := beginM_eq (MI_C hM f1)
  unfold L_law_j156
  rw [e, bn_eq, e2, bn_eq, if_pos rfl]
  exact ⟨ν, rfl, reT T, N, f, CI_N c1 f2, i1, hv, TXc_N (TXc_C hTc f1) f2, TXm_N (TXm_C hTm f1) f2⟩
theorem st_append (h : CK L j) (hI : Inv μ) : ∃ μ', L_law_j685 xs L (nI (6 * j)) μ = some μ' ∧ Inv μ' := by
  obtain ⟨T, N, f, hC, hM, hv, hTc, hTm⟩ := hI
  unfold L_law_j685 L_append
  simp only [ck1 h]
  generalize (xs ((nI (6 * j) + 1) : Int32).toNatClampNeg) = x
  obtain ⟨ν1, e1, t1, f1⟩ := append_eq hv hTc x
  have hL := fr12_L f1
  rw [e1, bn_eq]
  cases hz : sApp N x with
  | inl E =>
    obtain ⟨g1, g2⟩ := ch_AS (E_app hz)
    obtain ⟨w, ν, e4, i1, t4, f4, hz4⟩ := appendM_eq (MI_L hM hL) hv (TXm_L hTm hL) x
    rw [hz] at hz4
    have hz' : ν.1 45 0 = nI (cAS E) := hz4
    rw [thr_l, g1, bn_eq, e4, bn_eq, cmp_yes hz' (fun q => absurd q g2)]
    exact ⟨ν, rfl, T, _, _, CI_B (CI_12 hC f1) f4, i1, TXv_ap hv x, TXc_B t1 f4, t4⟩
  | inr v =>
    obtain ⟨w, ν, e4, i1, t4, f4, hz4⟩ := appendM_eq (MI_O (MI_L hM hL) v.toInt64) hv (TXm_O (TXm_L hTm hL) v.toInt64) x
    rw [hz] at hz4
    obtain ⟨z1, z2⟩ : ν.1 45 0 = 0 ∧ w = v := hz4
    subst z2
    rw [thr_r, bn_eq, e4, bn_eq, cmp_yes z1 (fun _ => by unfold mOut; rw [f4.1]; rfl)]
    exact ⟨ν, rfl, T, _, _, CI_B (CI_O (CI_12 hC f1) _) f4, i1, TXv_ap hv x, TXc_B (TXc_O t1 _) f4, t4⟩
theorem st_clear (hI : Inv μ) : ∃ μ', L_law_j741 xs L (nI (6 * j)) μ = some μ' ∧ Inv μ' := by
  obtain ⟨T, N, f, hC, hM, hv, hTc, hTm⟩ := hI
  have f1 : fr (fun p => p = 1 ∨ p = 2) μ (setI μ 1 1 0) := ⟨rfl, fun p hp => setI_n _ _ _ (fun z => hp (Or.inl z))⟩
  have hL := fr12_L f1
  obtain ⟨ν, e2, i1, t2, f2⟩ := clearBufferM_eq (MI_L hM hL) (TXm_L hTm hL)
  unfold L_law_j741 X3_clearBuffer
  rw [hTc.1, bd_eq, bd_eq, bn_eq, e2, bn_eq, if_pos rfl]
  exact ⟨ν, rfl, T, 0, f, CI_B (CI_12 hC f1) f2, i1, ⟨Nat.zero_le _, fun k hk => absurd hk (Nat.not_lt_zero k)⟩, TXc_B ⟨setI_same _ _ _ _, fun k hk => absurd hk (Nat.not_lt_zero k)⟩ f2, t2⟩
theorem st_first (hI : Inv μ) : ∃ μ', L_law_j754 xs L (nI (6 * j)) μ = some μ' ∧ Inv μ' := by
  obtain ⟨T, N, f, hC, hM, hv, hTc, hTm⟩ := hI
  obtain ⟨ν, e2, i1, t2, f2⟩ := firstErrorM_eq hM hTm hv
  unfold L_law_j754 X3_firstError
  rw [firstWrong_eq hv hTc, bi_eq, bi_eq, e2, bn_eq, if_pos rfl]
  exact ⟨ν, rfl, T, N, f, CI_B hC f2, i1, hv, TXc_B hTc f2, t2⟩
theorem st_load (hI : Inv μ) : ∃ μ', L_law_j767 xs L (nI (6 * j)) μ = some μ' ∧ Inv μ' := by
  obtain ⟨T, N, f, hC, hM, hv, hTc, hTm⟩ := hI
  obtain ⟨z, ν1, -, -, -, -, e1, -, -, -, -, -, -, hL, -, hE, -⟩ := load_rel hC hTc hM hTm hv
  have hvN : ∀ {N'}, N' ≤ N → TXv N' f := fun hle => ⟨Nat.le_trans hle hv.1, fun k hk => hv.2 k (Nat.lt_of_lt_of_le hk hle)⟩
  unfold L_law_j767 L_load
  rw [e1, bn_eq]
  cases z with
  | inl E =>
    obtain ⟨g1, g2⟩ := ch_AS (hE E rfl)
    obtain ⟨z2, ν2, w, ν, T', N', e2, e4, c2, t2, i4, t4, hle, -, f4, -, hz4⟩ := load_rel hC hTc (MI_L hM hL) (TXm_L hTm hL) hv
    have ee := Option.some.inj (e1.symm.trans e2)
    have ez : z2 = .inl E := (congrArg Prod.fst ee).symm
    have en : ν2 = ν1 := (congrArg Prod.snd ee).symm
    subst en
    rw [ez] at hz4
    have hz' : ν.1 45 0 = nI (cAS E) := hz4
    rw [thr_l, g1, bn_eq, e4, bn_eq, cmp_yes hz' (fun q => absurd q g2)]
    exact ⟨ν, rfl, T', N', f, CI_B c2 f4, i4, hvN hle, TXc_B t2 f4, t4⟩
  | inr v =>
    obtain ⟨z2, ν2, w, ν, T', N', e2, e4, c2, t2, i4, t4, hle, -, f4, -, hz4⟩ := load_rel hC hTc (MI_O (MI_L hM hL) v.toInt64) (TXm_O (TXm_L hTm hL) v.toInt64) hv
    have ee := Option.some.inj (e1.symm.trans e2)
    have ez : z2 = .inr v := (congrArg Prod.fst ee).symm
    have en : ν2 = ν1 := (congrArg Prod.snd ee).symm
    subst en
    rw [ez] at hz4
    obtain ⟨z1, z3⟩ : ν.1 45 0 = 0 ∧ w = v := hz4
    subst z3
    rw [thr_r, bn_eq, e4, bn_eq, cmp_yes z1 (fun _ => by unfold mOut; rw [f4.1]; rfl)]
    exact ⟨ν, rfl, T', N', f, CI_B (CI_O c2 _) f4, i4, hvN hle, TXc_B (TXc_O t2 _) f4, t4⟩
theorem st_share (hI : Inv μ) : ∃ μ', L_law_j1655 xs L (nI (6 * j)) μ = some μ' ∧ Inv μ' := by
  obtain ⟨T, N, f, hC, hM, hv, hTc, hTm⟩ := hI
  obtain ⟨ν, e2, i1, f2⟩ := shareM_eq hM
  have hU := hC.2.1.1.1.2.2.2.1
  have hs := stC_le T 0
  have hcmp : Op.cmpValue (FP.dcmp (shD T) (shD T)) .l = 0 := by
    unfold shD
    by_cases q : tU T = 0
    · rw [if_pos q]; exact one_tab
    · rw [if_neg q]
      rcases shv_tab (tU T) (by omega) (stC T 0) (by omega) with z | ⟨z1, z2⟩
      · exact absurd z q
      · exact z2
  unfold L_law_j1655
  rw [share_eq hC, bi_eq, e2, bn_eq, if_pos hcmp]
  exact ⟨ν, rfl, T, N, f, CI_N hC f2, i1, hv, TXc_N hTc f2, TXm_N hTm f2⟩
theorem st_digest (hI : Inv μ) : ∃ μ', L_law_j1696 xs L (nI (6 * j)) μ = some μ' ∧ Inv μ' := by
  obtain ⟨T, N, f, hC, hM, hv, hTc, hTm⟩ := hI
  obtain ⟨r, e, ν1, rfl, c1, f1⟩ := digest_eq hv hTc hC
  obtain ⟨r2, e2, ν, rfl, i1, f2⟩ := digestM_eq hv (TXm_C hTm f1) (MI_C hM f1)
  unfold L_law_j1696
  rw [e, bn_eq, thr_r, e2, bn_eq, if_pos ((lg_cmp_eq _ _).mpr rfl)]
  exact ⟨ν, rfl, T, N, f, CI_D c1 f2, i1, hv, TXc_D (TXc_C hTc f1) f2, TXm_D (TXm_C hTm f1) f2⟩
end REST
theorem step_all (xs : Nat → Int32) (L j : Nat) (μ : Mm) (hL : L ≤ 3072) (hI : Inv μ) (hj : 6 * j + 6 ≤ L) : ∃ μ', L_step xs L (nI (6 * j)) μ = some μ' ∧ Inv μ' := by
  have h : CK L j := ⟨hj, hL⟩
  unfold L_step
  rw [ck_nI (by omega) (by omega)]
  generalize (xs (nI (6 * j) : Int32).toNatClampNeg) &&& 31 = op
  by_cases c0 : op = 0
  · rw [if_pos c0]; exact st_begin hI
  rw [if_neg c0]
  by_cases c1 : op = 1
  · rw [if_pos c1]; exact st_addScope h hI
  rw [if_neg c1]
  by_cases c2 : op = 2
  · rw [if_pos c2]; exact st_declare h hI
  rw [if_neg c2]
  by_cases c3 : op = 3
  · rw [if_pos c3]; exact st_importOne h hI
  rw [if_neg c3]
  by_cases c4 : op = 4
  · rw [if_pos c4]; exact st_importAll h hI
  rw [if_neg c4]
  by_cases c5 : op = 5
  · rw [if_pos c5]; exact st_use h hI
  rw [if_neg c5]
  by_cases c6 : op = 6
  · rw [if_pos c6]; exact st_remove h hI
  rw [if_neg c6]
  by_cases c7 : op = 7
  · rw [if_pos c7]; exact st_append h hI
  rw [if_neg c7]
  by_cases c8 : op = 8
  · rw [if_pos c8]; exact st_clear hI
  rw [if_neg c8]
  by_cases c9 : op = 9
  · rw [if_pos c9]; exact st_first hI
  rw [if_neg c9]
  by_cases c10 : op = 10
  · rw [if_pos c10]; exact st_load hI
  rw [if_neg c10]
  by_cases c11 : op = 11
  · rw [if_pos c11]; exact st_resolve h hI
  rw [if_neg c11]
  by_cases c12 : op = 12
  · rw [if_pos c12]; exact st_candidate h hI
  rw [if_neg c12]
  by_cases c13 : op = 13
  · rw [if_pos c13]; exact st_offers h hI
  rw [if_neg c13]
  by_cases c14 : op = 14
  · rw [if_pos c14]; exact st_visible h hI
  rw [if_neg c14]
  by_cases c15 : op = 15
  · rw [if_pos c15]; exact st_rename h hI
  rw [if_neg c15]
  by_cases c16 : op = 16
  · rw [if_pos c16]; exact st_ifRenamed h hI
  rw [if_neg c16]
  by_cases c17 : op = 17
  · rw [if_pos c17]; exact st_freeName h hI
  rw [if_neg c17]
  by_cases c18 : op = 18
  · rw [if_pos c18]; exact st_count h hI
  rw [if_neg c18]
  by_cases c19 : op = 19
  · rw [if_pos c19]; exact st_declaration h hI
  rw [if_neg c19]
  by_cases c20 : op = 20
  · rw [if_pos c20]; exact st_imported h hI
  rw [if_neg c20]
  by_cases c21 : op = 21
  · rw [if_pos c21]; exact st_used h hI
  rw [if_neg c21]
  by_cases c22 : op = 22
  · rw [if_pos c22]; exact st_parent h hI
  rw [if_neg c22]
  by_cases c23 : op = 23
  · rw [if_pos c23]; exact st_share hI
  rw [if_neg c23]
  by_cases c24 : op = 24
  · rw [if_pos c24]; exact st_digest hI
  rw [if_neg c24]
  exact ⟨μ, rfl, hI⟩
/-! the start -/
theorem VT0 : VT T0 := by
  refine ⟨⟨Nat.le_refl _, (by decide : 1 ≤ 16), rfl, fun s h1 h2 => ?_⟩, ⟨Nat.zero_le _, fun d hd => absurd hd (Nat.not_lt_zero _), fun d e hd => absurd hd (Nat.not_lt_zero _)⟩, ⟨Nat.zero_le _, fun i hi => absurd hi (Nat.not_lt_zero _)⟩, ⟨Nat.zero_le _, fun u hu => absurd hu (Nat.not_lt_zero _)⟩⟩
  have h3 : s < 1 := h2
  omega
theorem off0 : IsOff T0 (fun _ _ => 0) := by
  refine ⟨fun _ _ _ _ => (by decide : 0 < 2 ^ 30), fun s n _ _ => ?_, fun i hi => absurd hi (Nat.not_lt_zero _), fun Y _ _ s n _ _ => msub_0⟩
  have e : baseM T0 s n = 0 := rfl
  rw [e]
  exact msub_rfl
theorem Inv0 : Inv μ0 := by
  have hoff := offOf_off off0
  have hz : ∀ s n, s < 16 → n < 26 → offOf T0 s n = 0 := fun s n hs hn => (offOf_eq off0 hs hn).symm
  have hlay : ∀ s n j, layM T0 (offOf T0) s n j = 0 := fun s n j => by
    unfold layM
    by_cases q : j = 0
    · rw [if_pos q]; rfl
    · rw [if_neg q]; rfl
  refine ⟨T0, 0, fun _ => 0, ⟨⟨Or.inl rfl, Or.inr rfl, (by decide : (3 : Nat) ≠ 24)⟩, ⟨⟨VT0, ?_, fun s n hs hn => ?_, hoff.1⟩, hoff⟩, fun i hi => absurd hi (Nat.not_lt_zero _)⟩, ⟨VT0, ?_, Or.inl rfl⟩, ⟨Nat.zero_le _, fun k hk => absurd hk (Nat.not_lt_zero k)⟩, ⟨rfl, fun k hk => absurd hk (Nat.not_lt_zero k)⟩, ⟨rfl, fun k hk => absurd hk (Nat.not_lt_zero k)⟩⟩
  · refine ⟨⟨rfl, rfl, rfl, rfl⟩, fun s hs => ?_, fun d hd => absurd hd (Nat.not_lt_zero _), fun i hi => absurd hi (Nat.not_lt_zero _), fun u hu => absurd hu (Nat.not_lt_zero _)⟩
    have hs' : s < 1 := hs
    have e : s = 0 := by omega
    subst e
    rfl
  · rw [hz s n hs hn, hlay, hlay, hlay]
    exact ⟨rfl, rfl, rfl, rfl⟩
  · refine ⟨⟨rfl, rfl, rfl, rfl⟩, fun s hs => ?_, fun d hd => absurd hd (Nat.not_lt_zero _), fun i hi => absurd hi (Nat.not_lt_zero _), fun u hu => absurd hu (Nat.not_lt_zero _)⟩
    have hs' : s < 1 := hs
    have e : s = 0 := by omega
    subst e
    rfl
