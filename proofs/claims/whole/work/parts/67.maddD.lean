/-! ===== the model adds a declaration, an import ===== -/
theorem declareM_eq {μ : Mm} {T : TT} (h : MI μ T) (x y p : Int32) : ∃ r, X4_declare x y p μ = some r ∧ MR μ (rfD T x y) (if rfD T x y = 0 then nI (tD T) else 0) (sDecl T x y p).2 r := by
  have hV := h.1
  have hM := h.2.1
  have h16 := hV.1.2.1
  have hD := hV.2.1.1
  have no : ∀ {k}, rfD T x y = k → k ≠ 0 → ∃ r, some ((0 : Int32), setI μ 45 0 (nI k)) = some r ∧ MR μ (rfD T x y) (if rfD T x y = 0 then nI (tD T) else 0) (sDecl T x y p).2 r := by
    intro k e hk
    have e1 : (sDecl T x y p).2 = T := by unfold sDecl refu; rw [if_neg (by omega)]
    rw [e, e1, if_neg hk]
    exact MR_no h
  unfold X4_declare X4_declare_j30 X4_declare_j50
  rw [isScope_eq hV hM, bi_eq, isNameM_eq, bi_eq]
  by_cases q : inb x (tS T) = true
  · rw [if_pos q, if_neg one0]
    by_cases qy : inb y 26 = true
    · obtain ⟨q3, q4⟩ := inb_cl q (by omega)
      obtain ⟨q5, q6⟩ := inb_cl qy (by omega)
      rw [if_pos qy, if_neg one0]
      have hdi := declaredIn_eq hM hV (s := x.toNatClampNeg) (n := y.toNatClampNeg) (by omega) (by omega)
      rw [← q4, ← q6] at hdi
      rw [hdi, bi_eq]
      cases hd : dOf T x.toNatClampNeg y.toNatClampNeg with
      | some d =>
        have := (dOf_some hd).1
        have e0 : rfD T x y = 2 := by unfold rfD; rw [if_pos q, if_pos qy, if_neg (by rw [hd]; exact fun z => by cases z)]
        rw [show enc (some d) = nI d from rfl, if_neg (nI_ne_m1 (by omega)), bd_eq, setI_same, if_neg (by decide)]
        exact no e0 (by decide)
      | none =>
        rw [if_pos (show enc none = -1 from rfl), show ck (1 : Int32) 290 = ck (nI 1) 290 from rfl, ck_nI (by decide) (by decide), show (1 : Int32).toNatClampNeg = 1 from rfl, hM.1.2.1, show (30 : Int32) = nI 30 from rfl, ifEq (by omega) (by decide), bd_eq, setI_same]
        by_cases q2 : tD T < 30
        · have e0 : rfD T x y = 0 := by unfold rfD; rw [if_pos q, if_pos qy, if_pos hd, if_pos q2]
          have e1 : (sDecl T x y p).2 = addD T (x.toNatClampNeg, y.toNatClampNeg, b1 p) := by unfold sDecl refu; rw [if_pos e0]
          have c1 : (setI μ 45 0 0).1 46 1 = nI (tD T) := by rw [setI_n _ _ _ (by decide)]; exact hM.1.2.1
          have c2 : (setI (setI (setI (setI μ 45 0 0) 46 (20 + 3 * tD T) x) 46 (20 + 3 * tD T + 1) y) 46 (20 + 3 * tD T + 2) (nI (b1 p))).1 46 1 = nI (tD T) := by simp (disch := omega) only [sg, if_neg]; exact hM.1.2.1
          rw [if_neg (show ¬ tD T = 30 by omega), if_pos (show (0 : Int32) ≤ 0 by decide), ck_nI (by decide) (by decide), c1, bd_eq, show (20 : Int32) = nI 20 from rfl, show (3 : Int32) = nI 3 from rfl, pk_mul, nI_add, ck_nI (by omega) (by decide), nI_clamp (by omega), bd_eq, nI_1, ck_nI (by omega) (by decide), nI_clamp (by omega), bd_eq, show (2 : Int32) = nI 2 from rfl, nI_add, ck_nI (by omega) (by decide), nI_clamp (by omega), b1_eq, bd_eq, ck_nI (by decide) (by decide), ck_nI (by decide) (by decide), c2, nI_1, bd_eq, bd_eq, e0, e1, if_pos rfl]
          have hMF := MF_addD hV (MI_wrong h 0).2.1 q2 x.toNatClampNeg y.toNatClampNeg (b1 p)
          rw [← q4, ← q6] at hMF
          refine ⟨_, rfl, _, rfl, ⟨VT_addD hV q3 q5 (b1_le p) hd q2, MF_same hMF (setI_n _ _ _ (by decide)), Or.inl (setI_same _ _ _ _)⟩, ?_, frN_put (frN_put (frN_put (frN_put (frN_put (frN_put frN_refl (by omega)) (by omega)) (by omega)) (by omega)) (by omega)) (by omega)⟩
          simp (disch := omega) only [sg, if_neg, if_pos]
          rfl
        · have e0 : rfD T x y = 3 := by unfold rfD; rw [if_pos q, if_pos qy, if_pos hd, if_neg q2]
          rw [if_pos (show tD T = 30 by omega), if_neg (show ¬ (3 : Int32) ≤ (0 : Int32) by decide)]
          exact no e0 (by decide)
    · have e0 : rfD T x y = 2 := by unfold rfD; rw [if_pos q, if_neg qy]
      rw [if_neg qy, if_pos zero0, bd_eq, setI_same, if_neg (by decide)]
      exact no e0 (by decide)
  · have e0 : rfD T x y = 1 := by unfold rfD; rw [if_neg q]
    rw [if_neg q, if_pos zero0, bd_eq, setI_same, if_neg (by decide)]
    exact no e0 (by decide)
