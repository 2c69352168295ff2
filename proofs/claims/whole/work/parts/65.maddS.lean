/-! ===== the model adds a scope ===== -/
def wS (k : Nat) : Nat := if k = 3 then 2 else k
theorem addScopeM_eq {μ : Mm} {T : TT} (h : MI μ T) (x : Int32) : ∃ r, X4_addScope x μ = some r ∧ MR μ (wS (rfS T x)) (if rfS T x = 0 then nI (tS T) else 0) (sAddS T x).2 r := by
  have hV := h.1
  have hM := h.2.1
  have h16 := hV.1.2.1
  unfold X4_addScope X4_addScope_j29
  rw [isScope_eq hV hM, bi_eq]
  by_cases q : inb x (tS T) = true
  · obtain ⟨q3, q4⟩ := inb_cl q (by omega)
    rw [if_pos q, if_neg one0, show (0 : Int32) = nI 0 from rfl, ck_nI (by decide) (by decide), nI_clamp (by decide), hM.1.1, show (16 : Int32) = nI 16 from rfl, ifEq (by omega) (by decide), bd_eq, setI_same]
    by_cases q2 : tS T < 16
    · have e0 : rfS T x = 0 := by unfold rfS; rw [if_pos q, if_pos q2]
      have e1 : (sAddS T x).2 = addS T x.toNatClampNeg := by unfold sAddS refu; rw [if_pos e0]
      have c1 : (setI μ 45 0 (nI 0)).1 46 0 = nI (tS T) := by rw [setI_n _ _ _ (by decide)]; exact hM.1.1
      rw [if_neg (show ¬ tS T = 16 by omega), if_pos (show nI 0 ≤ nI 0 by decide), ck_nI (by decide) (by decide), c1, show (4 : Int32) = nI 4 from rfl, nI_add, ck_nI (by omega) (by decide), nI_clamp (by omega), bd_eq, ck_nI (by decide) (by decide), ck_nI (by decide) (by decide), sg, if_neg (by omega), c1, nI_1, bd_eq, bd_eq, ck_nI (by decide) (by decide), setI_n _ _ _ (show 46 ≠ 45 by decide), setI_same, show (1 : Int32) = nI 1 from rfl, nI_sb (by omega), Nat.add_sub_cancel, e0, e1, if_pos rfl]
      have hMF := MF_addS hV (MI_wrong h (nI 0)).2.1 q2 x.toNatClampNeg
      rw [← q4] at hMF
      refine ⟨_, rfl, _, rfl, ⟨VT_addS hV q3 q2, MF_same hMF (setI_n _ _ _ (by decide)), Or.inl (setI_same _ _ _ _)⟩, ?_, frN_put (frN_put (frN_put (frN_put frN_refl (by omega)) (by omega)) (by omega)) (by omega)⟩
      simp (disch := omega) only [sg, if_neg, if_pos]
      rfl
    · have e0 : rfS T x = 3 := by unfold rfS; rw [if_pos q, if_neg q2]
      have e1 : (sAddS T x).2 = T := by unfold sAddS refu; rw [if_neg (by omega)]
      rw [if_pos (show tS T = 16 by omega), if_neg (show ¬ (2 : Int32) ≤ nI 0 by decide), e0, e1]
      exact MR_no h (w := 2)
  · have e0 : rfS T x = 1 := by unfold rfS; rw [if_neg q]
    have e1 : (sAddS T x).2 = T := by unfold sAddS refu; rw [if_neg (by omega)]
    rw [if_neg q, if_pos zero0, bd_eq, setI_same, if_neg (by decide), e0, e1]
    exact MR_no h (w := 1)
