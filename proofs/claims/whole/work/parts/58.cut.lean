/-! ===== the model: copies, cuts, other outcomes ===== -/
def frW (μ ν : Mm) : Prop := ν.2 = μ.2 ∧ (∀ p, ¬ ((45 ≤ p ∧ p ≤ 48) ∨ (50 ≤ p ∧ p ≤ 53)) → ν.1 p = μ.1 p) ∧ ∀ j, j ≠ 4 → j ≠ 7 → ν.1 45 j = μ.1 45 j
theorem frW_refl {μ : Mm} : frW μ μ := ⟨rfl, fun _ _ => rfl, fun _ _ _ => rfl⟩
theorem frW_tr {μ ν ξ : Mm} (h : frW μ ν) (k : frW ν ξ) : frW μ ξ := ⟨k.1.trans h.1, fun p hp => (k.2.1 p hp).trans (h.2.1 p hp), fun j h1 h2 => (k.2.2 j h1 h2).trans (h.2.2 j h1 h2)⟩
theorem frS_W {μ ν : Mm} (h : frS μ ν) : frW μ ν := ⟨h.1, fun p hp => h.2.1 p (by omega), h.2.2⟩
theorem frW_put {μ ν : Mm} (h : frW μ ν) {a k : Nat} {v : Int32} (ha : (45 ≤ a ∧ a ≤ 48) ∨ (50 ≤ a ∧ a ≤ 53)) (hk : a = 45 → k = 4 ∨ k = 7) : frW μ (setI ν a k v) := by
  refine ⟨h.1, fun p hp => ?_, fun j h1 h2 => ?_⟩
  · rw [setI_n _ _ _ (by omega)]; exact h.2.1 p hp
  · rw [sg, if_neg (by omega)]; exact h.2.2 j h1 h2
theorem copy_eq {a1 a2 : Nat} (h1 : alen a1 = 290) (h2 : alen a2 = 290) (hne : a1 ≠ a2) (h45 : a1 ≠ 45 ∧ a2 ≠ 45) (μ : Mm) : ∃ ν, X4_copy a1 a2 μ = some ν ∧ ((∀ j, j < 290 → ν.1 a2 j = μ.1 a1 j) ∧ (∀ p, p ≠ a2 → p ≠ 45 → ν.1 p = μ.1 p) ∧ ν.1 45 4 = 0 ∧ (∀ j, j ≠ 4 → ν.1 45 j = μ.1 45 j) ∧ ν.2 = μ.2) := by
  unfold X4_copy
  refine it1m _ (fun m u3 ν => ∃ c, c + m = 290 ∧ u3 = nI c ∧ (∀ j, j < c → ν.1 a2 j = μ.1 a1 j) ∧ (∀ p, p ≠ a2 → ν.1 p = μ.1 p) ∧ ν.2 = μ.2) ?_ big 290 _ μ (by decide) ⟨0, rfl, rfl, fun j hj => absurd hj (Nat.not_lt_zero j), fun _ _ => rfl, rfl⟩
  rintro k m u3 ν ⟨c, hm, rfl, hc, hk, h2'⟩ ih
  unfold X4_copy_l2
  rw [show (290 : Int32) = nI 290 from rfl, ifLe (by decide) (by omega)]
  by_cases q : 290 ≤ c
  · rw [if_pos q, bd_eq]
    refine ⟨_, rfl, fun j hj => ?_, fun p hp h5 => ?_, setI_same _ _ _ _, fun j hj => ?_, h2'⟩
    · rw [setI_n _ _ _ h45.2]; exact hc j (by omega)
    · rw [setI_n _ _ _ h5]; exact hk p hp
    · rw [setI_ne _ _ _ _ hj, hk 45 (fun e => h45.2 e.symm)]
  · rw [if_neg q, h1, h2, ck_nI (by omega) (by decide), ck_nI (by omega) (by decide), nI_clamp (by omega), bd_eq, nI_1]
    refine ih (m - 1) _ _ (by omega) ⟨c + 1, by omega, rfl, fun j hj => ?_, fun p hp => ?_, h2'⟩
    · rw [setI_at]
      by_cases e : j = c
      · rw [if_pos e, e, hk a1 hne]
      · rw [if_neg e]; exact hc j (by omega)
    · rw [setI_n _ _ _ hp]; exact hk p hp
theorem cut_eq {b w k f N : Nat} (hw : 1 ≤ w) (hkN : k < N) (hb : b + w * N ≤ 290) (hf : f < b) {μ : Mm} (hz : μ.1 46 f = nI N) : ∃ ν, X4_cut (nI b) (nI w) (nI k) (nI f) μ = some ν ∧ (ν.1 46 f = nI (N - 1) ∧ (∀ j, b + w * k ≤ j → j < b + w * (N - 1) → ν.1 46 j = μ.1 46 (j + w)) ∧ (∀ j, j ≠ f → j < b + w * k ∨ b + w * (N - 1) ≤ j → ν.1 46 j = μ.1 46 j) ∧ (∀ p, p ≠ 46 → p ≠ 45 → ν.1 p = μ.1 p) ∧ ν.1 45 4 = 0 ∧ (∀ j, j ≠ 4 → ν.1 45 j = μ.1 45 j) ∧ ν.2 = μ.2) := by
  have hN1 : w * (N - 1) + w = w * N := by rw [← Nat.mul_succ]; congr 1; omega
  have hkl : w * k ≤ w * (N - 1) := Nat.mul_le_mul_left w (by omega)
  unfold X4_cut
  rw [ck_nI (by omega) (by decide), ck_nI (by omega) (by decide), nI_clamp (by omega), hz, show (1 : Int32) = nI 1 from rfl, nI_sb (by omega), bd_eq, pk_mul, nI_add, bd_eq]
  refine it1m _ (fun m u5 ν => ∃ c, c + m = b + w * (N - 1) ∧ b + w * k ≤ c ∧ u5 = nI c ∧ ν.1 46 f = nI (N - 1) ∧ (∀ j, b + w * k ≤ j → j < c → ν.1 46 j = μ.1 46 (j + w)) ∧ (∀ j, j ≠ f → j < b + w * k ∨ c ≤ j → ν.1 46 j = μ.1 46 j) ∧ (∀ p, p ≠ 46 → ν.1 p = μ.1 p) ∧ ν.2 = μ.2) ?_ big (b + w * (N - 1) - (b + w * k)) _ _ (by unfold big; omega) ⟨b + w * k, by omega, Nat.le_refl _, rfl, setI_same _ _ _ _, fun j h1 h2 => by omega, fun j h1 _ => setI_ne _ _ _ _ h1, fun p hp => setI_n _ _ _ hp, rfl⟩
  rintro k18 m u5 ν ⟨c, hm, hc, rfl, g1, g2, g3, g4, g5⟩ ih
  unfold X4_cut_l18
  rw [ck_nI (by omega) (by decide), nI_clamp (by omega), g1, pk_mul, nI_add, ifLe (by omega) (by omega)]
  by_cases q : b + w * (N - 1) ≤ c
  · have e : c = b + w * (N - 1) := by omega
    subst e
    rw [if_pos q, bd_eq]
    refine ⟨_, rfl, ?_, fun j h1 h2 => ?_, fun j h1 h2 => ?_, fun p h1 h2 => ?_, setI_same _ _ _ _, fun j hj => ?_, g5⟩
    · rw [setI_n _ _ _ (by decide)]; exact g1
    · rw [setI_n _ _ _ (by decide)]; exact g2 j h1 h2
    · rw [setI_n _ _ _ (by decide)]; exact g3 j h1 h2
    · rw [setI_n _ _ _ h2]; exact g4 p h1
    · rw [setI_ne _ _ _ _ hj, g4 45 (by decide)]
  · rw [if_neg q, nI_add, ck_nI (by omega) (by decide), ck_nI (by omega) (by decide), nI_clamp (by omega), nI_clamp (by omega), bd_eq, nI_1, g3 (c + w) (by omega) (by omega)]
    refine ih (m - 1) _ _ (by omega) ⟨c + 1, by omega, by omega, rfl, ?_, fun j h1 h2 => ?_, fun j h1 h2 => ?_, fun p hp => ?_, g5⟩
    · rw [setI_ne _ _ _ _ (by omega)]; exact g1
    · rw [setI_at]
      by_cases e : j = c
      · rw [if_pos e, e]
      · rw [if_neg e]; exact g2 j h1 (by omega)
    · rw [setI_ne _ _ _ _ (by omega)]; exact g3 j h1 (by omega)
    · rw [setI_n _ _ _ hp]; exact g4 p hp
theorem MF_ext {μ ν : Mm} {T : TT} (hV : VT T) (h : MF μ T) (e : ∀ j, j < 290 → ν.1 46 j = μ.1 46 j) : MF ν T := by
  have h16 := hV.1.2.1
  have hD := hV.2.1.1
  have hI := hV.2.2.1.1
  have hU := hV.2.2.2.1
  obtain ⟨⟨c1, c2, c3, c4⟩, hs, hd, hi, hu⟩ := h
  refine ⟨⟨?_, ?_, ?_, ?_⟩, fun s h1 => ?_, fun d h1 => ?_, fun i h1 => ?_, fun u h1 => ?_⟩
  · rw [e _ (by decide)]; exact c1
  · rw [e _ (by decide)]; exact c2
  · rw [e _ (by decide)]; exact c3
  · rw [e _ (by decide)]; exact c4
  · rw [e _ (by omega)]; exact hs s h1
  · rw [e _ (by omega), e _ (by omega), e _ (by omega)]; exact hd d h1
  · rw [e _ (by omega), e _ (by omega), e _ (by omega), e _ (by omega), e _ (by omega), e _ (by omega)]; exact hi i h1
  · rw [e _ (by omega), e _ (by omega)]; exact hu u h1
theorem cutI_eq {μ : Mm} {T : TT} (hV : VT T) (hM : MF μ T) {i : Nat} (hi : i < tI T) : ∃ ν, X4_cut 110 6 (nI i) 2 μ = some ν ∧ (MI ν (delI T i) ∧ (∀ p, p ≠ 46 → p ≠ 45 → ν.1 p = μ.1 p) ∧ (∀ j, j ≠ 4 → ν.1 45 j = μ.1 45 j) ∧ ν.2 = μ.2) := by
  have h16 := hV.1.2.1
  have hD := hV.2.1.1
  have hI := hV.2.2.1.1
  obtain ⟨ν, e, g1, g2, g3, g4, g5, g6, g7⟩ := cut_eq (b := 110) (w := 6) (k := i) (f := 2) (N := tI T) (by decide) hi (by omega) (by decide) hM.1.2.2.1
  refine ⟨ν, e, ⟨VT_delI hV hi, ?_, Or.inl g5⟩, g4, g6, g7⟩
  obtain ⟨⟨c1, c2, c3, c4⟩, hs, hd, hii, hu⟩ := hM
  refine ⟨⟨?_, ?_, ?_, ?_⟩, fun s h1 => ?_, fun d h1 => ?_, fun k h1 => ?_, fun u h1 => ?_⟩
  · rw [g3 _ (by decide) (by omega)]; exact c1
  · rw [g3 _ (by decide) (by omega)]; exact c2
  · exact g1
  · rw [g3 _ (by decide) (by omega)]; exact c4
  · have h1' : s < tS T := h1
    rw [g3 _ (by omega) (by omega)]; exact hs s h1
  · have h1' : d < tD T := h1
    rw [g3 _ (by omega) (by omega), g3 _ (by omega) (by omega), g3 _ (by omega) (by omega)]; exact hd d h1
  · have h1' : k < tI T - 1 := h1
    unfold iTo iFr iSr iLo iEx iPs
    rw [delI_row]
    unfold shf
    by_cases q : k < i
    · rw [if_pos q, g3 _ (by omega) (by omega), g3 _ (by omega) (by omega), g3 _ (by omega) (by omega), g3 _ (by omega) (by omega), g3 _ (by omega) (by omega), g3 _ (by omega) (by omega)]
      exact hii k (by omega)
    · rw [if_neg q, g2 _ (by omega) (by omega), g2 _ (by omega) (by omega), g2 _ (by omega) (by omega), g2 _ (by omega) (by omega), g2 _ (by omega) (by omega), g2 _ (by omega) (by omega)]
      have z := hii (k + 1) (by omega)
      rw [show 110 + 6 * (k + 1) = 110 + 6 * k + 6 by omega] at z
      rw [show 110 + 6 * k + 1 + 6 = 110 + 6 * k + 6 + 1 by omega, show 110 + 6 * k + 2 + 6 = 110 + 6 * k + 6 + 2 by omega, show 110 + 6 * k + 3 + 6 = 110 + 6 * k + 6 + 3 by omega, show 110 + 6 * k + 4 + 6 = 110 + 6 * k + 6 + 4 by omega, show 110 + 6 * k + 5 + 6 = 110 + 6 * k + 6 + 5 by omega]
      exact z
  · have h1' : u < tU T := h1
    rw [g3 _ (by omega) (by omega), g3 _ (by omega) (by omega)]; exact hu u h1
/-- the outcomes as they were -/
def wasO (ν : Mm) (N : Nat) (f : Nat → Int32) : Prop := ∀ u, u < N → ν.1 53 u = f u
theorem layOutcomes_eq {μ : Mm} {T : TT} (h : MI μ T) : ∃ ν, X4_layOutcomes μ = some ν ∧ (MI ν T ∧ frW μ ν ∧ wasO ν (tU T) (fun u => nI (outU T (offOf T) u)) ∧ ∀ j, ν.1 46 j = μ.1 46 j) := by
  have hU := h.1.2.2.2.1
  unfold X4_layOutcomes
  refine it1m _ (fun m u1 ν => ∃ u, u + m = tU T ∧ u1 = nI u ∧ MI ν T ∧ frW μ ν ∧ wasO ν u (fun u => nI (outU T (offOf T) u)) ∧ ∀ j, ν.1 46 j = μ.1 46 j) ?_ big (tU T) _ μ (by unfold big; omega) ⟨0, by omega, rfl, h, frW_refl, fun u hu => absurd hu (Nat.not_lt_zero u), fun _ => rfl⟩
  rintro k m u1 ν ⟨u, hm, rfl, hI, hf, hw, h46⟩ ih
  unfold X4_layOutcomes_l2
  rw [show (3 : Int32) = nI 3 from rfl, ck_nI (by decide) (by decide), nI_clamp (by decide), hI.2.1.1.2.2.2, ifLe (by omega) (by omega)]
  by_cases q : tU T ≤ u
  · rw [if_pos q]
    exact ⟨ν, rfl, hI, hf, fun v hv => hw v (by omega), h46⟩
  · obtain ⟨r, e, ν', rfl, l, f⟩ := outcomeOf_eq hI (u := u) (by omega)
    rw [if_neg q, e, bn_eq, ck_nI (by omega) (by decide), nI_clamp (by omega), bd_eq, nI_1]
    refine ih (m - 1) _ _ (by omega) ⟨u + 1, by omega, rfl, MI_put (ML_MI l) (by omega), frW_put (frW_tr hf (frS_W f)) (by omega) (by omega), fun v hv => ?_, fun j => ?_⟩
    · rw [setI_at]
      by_cases e2 : v = u
      · rw [if_pos e2, e2]
      · rw [if_neg e2, f.2.1 53 (by omega)]; exact hw v (by omega)
    · rw [setI_n _ _ _ (by decide), f.2.1 46 (by omega)]; exact h46 j
theorem otherOutcomes_eq {μ : Mm} {T : TT} (h : MI μ T) {f : Nat → Int32} (hw : wasO μ (tU T) f) (c : Nat → Nat) (hc : ∀ u, u < tU T → (if nI (outU T (offOf T) u) = f u then (0 : Int32) else 1) = nI (c u)) : ∃ r, X4_otherOutcomes μ = some r ∧ (∃ ν, r = (nI (fb_sm c (tU T)), ν) ∧ SS μ T ν) := by
  have hU := h.1.2.2.2.1
  refine cntM _ (SS μ T) (by omega) (fun k acc ν hS => ?_) (fun k acc i ν hi hS => ?_) ⟨h, frS_refl⟩
  · unfold X4_otherOutcomes_l4
    rw [show (3 : Int32) = nI 3 from rfl, ck_nI (by decide) (by decide), nI_clamp (by decide), hS.1.2.1.1.2.2.2, ifLe (by omega) (by omega), if_pos (Nat.le_refl _)]
  · obtain ⟨r, e, ν', rfl, l, g⟩ := outcomeOf_eq hS.1 hi
    refine ⟨ν', ⟨ML_MI l, frS_tr hS.2 g⟩, ?_⟩
    unfold X4_otherOutcomes_l4
    rw [show (3 : Int32) = nI 3 from rfl, ck_nI (by decide) (by decide), nI_clamp (by decide), hS.1.2.1.1.2.2.2, ifLe (by omega) (by omega), if_neg (by omega), e, bn_eq, ck_nI (by omega) (by decide), nI_clamp (by omega), g.2.1 53 (by omega), hS.2.2.1 53 (by omega), hw i hi, hc i hi, nI_add, bd_eq, nI_1]
theorem MI_off {μ : Mm} {T : TT} (h : MI μ T) : IsOff T (offOf T) := by
  obtain ⟨ν, -, l, -⟩ := layM_eq h
  exact l.2.2.2.2
theorem without_eq {μ : Mm} {T : TT} (h : MI μ T) {i : Nat} (hi : i < tI T) : ∃ r, X4_without (nI i) μ = some r ∧ (∃ ν, r = (nI (loss T i), ν) ∧ MI ν T ∧ frW μ ν) := by
  obtain ⟨ν1, e1, i1, f1, w1, z1⟩ := layOutcomes_eq h
  obtain ⟨ν2, e2, a2, b2, c2, d2, g2⟩ := copy_eq (a1 := 46) (a2 := 47) (by decide) (by decide) (by decide) (by decide) ν1
  have M2 : MF ν2 T := MF_same i1.2.1 (b2 46 (by decide) (by decide))
  obtain ⟨ν3, e3, i3, b3, d3, g3⟩ := cutI_eq h.1 M2 hi
  have hc : ∀ u, u < tU (delI T i) → (if nI (outU (delI T i) (offOf (delI T i)) u) = nI (outU T (offOf T) u) then (0 : Int32) else 1) = nI (@ite _ (outU T (offOf T) u = outU (delI T i) (offOf (delI T i)) u) (Nat.decEq _ _) 0 1) := fun u hu => by
    rw [ifEq (lt31 (outU_lt i3.1 (MI_off i3).1 hu)) (lt31 (outU_lt h.1 (MI_off h).1 hu))]
    by_cases q : outU T (offOf T) u = outU (delI T i) (offOf (delI T i)) u
    · rw [if_pos q, if_pos q.symm]; rfl
    · rw [if_neg q, if_neg (fun z => q z.symm)]; rfl
  obtain ⟨r, e4, ν4, rfl, i4, f4⟩ := otherOutcomes_eq i3 (f := fun u => nI (outU T (offOf T) u)) (fun u hu => by rw [b3 53 (by decide) (by decide), b2 53 (by decide) (by decide)]; exact w1 u hu) (fun u => @ite _ (outU T (offOf T) u = outU (delI T i) (offOf (delI T i)) u) (Nat.decEq _ _) 0 1) hc
  · obtain ⟨ν5, e5, a5, b5, c5, d5, g5⟩ := copy_eq (a1 := 47) (a2 := 46) (by decide) (by decide) (by decide) (by decide) ν4
    unfold X4_without
    rw [e1, bi_eq, e2, bi_eq, e3, bi_eq, e4, bn_eq, e5, bi_eq]
    refine ⟨_, rfl, ν5, rfl, ⟨h.1, MF_ext h.1 h.2.1 (fun j hj => ?_), Or.inl c5⟩, ?_, fun p hp => ?_, fun j h1 h2 => ?_⟩
    · rw [a5 j hj, f4.2.1 47 (by omega), b3 47 (by decide) (by decide), a2 j hj, z1 j]
    · rw [g5, f4.1, g3, g2, f1.1]
    · rw [b5 p (by omega) (by omega), f4.2.1 p (by omega), b3 p (by omega) (by omega), b2 p (by omega) (by omega), f1.2.1 p hp]
    · rw [d5 j h1, f4.2.2 j h1 h2, d3 j h1, d2 j h1, f1.2.2 j h1 h2]
