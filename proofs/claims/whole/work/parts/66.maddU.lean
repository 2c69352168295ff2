/-! ===== the model adds a use ===== -/
theorem laid_row {μ : Mm} {T T' : TT} (h : laid μ T) (h0 : tD T' = tD T) (h1 : T'.2.2.1 = T.2.2.1) (h2 : tI T' = tI T) (h3 : T'.2.2.2.1 = T.2.2.2.1) : laid μ T' := by
  have hX : IsOff T' (offOf T) := (off_row h0 h1 h2 h3 _).mpr h.2.2
  exact ⟨h.1, fun s n hs hn => by rw [h.2.1 s n hs hn, offOf_eq hX hs hn], offOf_off hX⟩
theorem useM_eq {μ : Mm} {T : TT} (h : MI μ T) (x y : Int32) : ∃ r, X4_use x y μ = some r ∧ MR μ (rfU T x y) (if rfU T x y = 0 then nI (tU T) else 0) (sUse T x y).2 r := by
  have hV := h.1
  have hM := h.2.1
  have h16 := hV.1.2.1
  have hU := hV.2.2.2.1
  have no : ∀ {k}, rfU T x y = k → k ≠ 0 → ∃ r, some ((0 : Int32), setI μ 45 0 (nI k)) = some r ∧ MR μ (rfU T x y) (if rfU T x y = 0 then nI (tU T) else 0) (sUse T x y).2 r := by
    intro k e hk
    have e1 : (sUse T x y).2 = T := by unfold sUse refu; rw [if_neg (by omega)]
    rw [e, e1, if_neg hk]
    exact MR_no h
  unfold X4_use X4_use_j40
  rw [isScope_eq hV hM, bi_eq, isNameM_eq, bi_eq]
  by_cases q : inb x (tS T) = true
  · rw [if_pos q, if_neg one0]
    by_cases qy : inb y 26 = true
    · obtain ⟨q3, q4⟩ := inb_cl q (by omega)
      obtain ⟨q5, q6⟩ := inb_cl qy (by omega)
      rw [if_pos qy, if_neg one0, show (3 : Int32) = nI 3 from rfl, ck_nI (by decide) (by decide), nI_clamp (by decide), hM.1.2.2.2, show (30 : Int32) = nI 30 from rfl, ifEq (by omega) (by decide), bd_eq, setI_same]
      by_cases q2 : tU T < 30
      · have e0 : rfU T x y = 0 := by unfold rfU; rw [if_pos q, if_pos qy, if_pos q2]
        have e1 : (sUse T x y).2 = addU T (x.toNatClampNeg, y.toNatClampNeg) := by unfold sUse refu; rw [if_pos e0]
        have c1 : (setI μ 45 0 0).1 46 3 = nI (tU T) := by rw [setI_n _ _ _ (by decide)]; exact hM.1.2.2.2
        have c2 : (setI (setI μ 45 0 0) 46 (230 + 2 * tU T) x).1 46 3 = nI (tU T) := by rw [sg, if_neg (by omega)]; exact c1
        have c3 : (setI (setI (setI μ 45 0 0) 46 (230 + 2 * tU T) x) 46 (230 + 2 * tU T + 1) y).1 46 3 = nI (tU T) := by rw [sg, if_neg (by omega)]; exact c2
        rw [if_neg (show ¬ tU T = 30 by omega), if_pos (show (0 : Int32) ≤ 0 by decide), ck_nI (by decide) (by decide), c1, show (230 : Int32) = nI 230 from rfl, show (2 : Int32) = nI 2 from rfl, pk_mul, nI_add, ck_nI (by omega) (by decide), nI_clamp (by omega), bd_eq, ck_nI (by decide) (by decide), c2, pk_mul, nI_add, nI_1, ck_nI (by omega) (by decide), nI_clamp (by omega), bd_eq, ck_nI (by decide) (by decide), ck_nI (by decide) (by decide), c3, nI_1, bd_eq, ck_nI (by decide) (by decide), setI_same, show (1 : Int32) = nI 1 from rfl, nI_sb (by omega), Nat.add_sub_cancel, e0, e1, if_pos rfl]
        have hMF := MF_addU hV (MI_wrong h 0).2.1 q2 x.toNatClampNeg y.toNatClampNeg
        rw [← q4, ← q6] at hMF
        have hlaid : (setI μ 45 0 0).1 45 4 = 0 ∨ laid (setI μ 45 0 0) T := (MI_wrong h 0).2.2
        refine ⟨_, rfl, _, rfl, ⟨VT_addU hV q3 q5 q2, hMF, ?_⟩, ?_, frN_put (frN_put (frN_put (frN_put frN_refl (by omega)) (by omega)) (by omega)) (by omega)⟩
        · rcases hlaid with z | z
          · refine Or.inl ?_
            simp (disch := omega) only [sg, if_neg]
            rw [sg, if_neg (by omega)] at z
            exact z
          · exact Or.inr (laid_row (laid_put (laid_put (laid_put z (by omega)) (by omega)) (by omega)) rfl rfl rfl rfl)
        · simp (disch := omega) only [sg, if_neg, if_pos]
          rfl
      · have e0 : rfU T x y = 3 := by unfold rfU; rw [if_pos q, if_pos qy, if_neg q2]
        rw [if_pos (show tU T = 30 by omega), if_neg (show ¬ nI 3 ≤ (0 : Int32) by decide)]
        exact no e0 (by decide)
    · have e0 : rfU T x y = 2 := by unfold rfU; rw [if_pos q, if_neg qy]
      rw [if_neg qy, if_pos zero0, bd_eq, setI_same, if_neg (by decide)]
      exact no e0 (by decide)
  · have e0 : rfU T x y = 1 := by unfold rfU; rw [if_neg q]
    rw [if_neg q, if_pos zero0, bd_eq, setI_same, if_neg (by decide)]
    exact no e0 (by decide)
