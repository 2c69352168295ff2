/-! ===== the model removes ===== -/
theorem delD_row (T : TT) (i j : Nat) : (delD T i).2.2.1 j = shf T.2.2.1 i j := rfl
theorem delU_row (T : TT) (i j : Nat) : (delU T i).2.2.2.2 j = shf T.2.2.2.2 i j := rfl
theorem cutD_eq {μ : Mm} {T : TT} (hV : VT T) (hM : MF μ T) {i : Nat} (hi : i < tD T) : ∃ ν, X4_cut 20 3 (nI i) 1 μ = some ν ∧ (MI ν (delD T i) ∧ (∀ p, p ≠ 46 → p ≠ 45 → ν.1 p = μ.1 p) ∧ (∀ j, j ≠ 4 → ν.1 45 j = μ.1 45 j) ∧ ν.2 = μ.2) := by
  have h16 := hV.1.2.1
  have hD := hV.2.1.1
  have hI := hV.2.2.1.1
  have hU := hV.2.2.2.1
  obtain ⟨ν, e, g1, g2, g3, g4, g5, g6, g7⟩ := cut_eq (b := 20) (w := 3) (k := i) (f := 1) (N := tD T) (by decide) hi (by omega) (by decide) hM.1.2.1
  refine ⟨ν, e, ⟨VT_delD hV hi, ?_, Or.inl g5⟩, g4, g6, g7⟩
  obtain ⟨⟨c1, c2, c3, c4⟩, hs, hd, hii, hu⟩ := hM
  refine ⟨⟨?_, ?_, ?_, ?_⟩, fun s h1 => ?_, fun k h1 => ?_, fun d h1 => ?_, fun u h1 => ?_⟩
  · rw [g3 _ (by decide) (by omega)]; exact c1
  · exact g1
  · rw [g3 _ (by decide) (by omega)]; exact c3
  · rw [g3 _ (by decide) (by omega)]; exact c4
  · have h1' : s < tS T := h1
    rw [g3 _ (by omega) (by omega)]; exact hs s h1
  · have h1' : k < tD T - 1 := h1
    unfold dSc dNm dPb
    rw [delD_row]
    unfold shf
    by_cases q : k < i
    · rw [if_pos q, g3 _ (by omega) (by omega), g3 _ (by omega) (by omega), g3 _ (by omega) (by omega)]
      exact hd k (by omega)
    · rw [if_neg q, g2 _ (by omega) (by omega), g2 _ (by omega) (by omega), g2 _ (by omega) (by omega)]
      have z := hd (k + 1) (by omega)
      rw [show 20 + 3 * (k + 1) = 20 + 3 * k + 3 by omega] at z
      rw [show 20 + 3 * k + 1 + 3 = 20 + 3 * k + 3 + 1 by omega, show 20 + 3 * k + 2 + 3 = 20 + 3 * k + 3 + 2 by omega]
      exact z
  · have h1' : d < tI T := h1
    rw [g3 _ (by omega) (by omega), g3 _ (by omega) (by omega), g3 _ (by omega) (by omega), g3 _ (by omega) (by omega), g3 _ (by omega) (by omega), g3 _ (by omega) (by omega)]; exact hii d h1
  · have h1' : u < tU T := h1
    rw [g3 _ (by omega) (by omega), g3 _ (by omega) (by omega)]; exact hu u h1
theorem cutU_eq {μ : Mm} {T : TT} (hV : VT T) (hM : MF μ T) {i : Nat} (hi : i < tU T) : ∃ ν, X4_cut 230 2 (nI i) 3 μ = some ν ∧ (MI ν (delU T i) ∧ (∀ p, p ≠ 46 → p ≠ 45 → ν.1 p = μ.1 p) ∧ (∀ j, j ≠ 4 → ν.1 45 j = μ.1 45 j) ∧ ν.2 = μ.2) := by
  have h16 := hV.1.2.1
  have hD := hV.2.1.1
  have hI := hV.2.2.1.1
  have hU := hV.2.2.2.1
  obtain ⟨ν, e, g1, g2, g3, g4, g5, g6, g7⟩ := cut_eq (b := 230) (w := 2) (k := i) (f := 3) (N := tU T) (by decide) hi (by omega) (by decide) hM.1.2.2.2
  refine ⟨ν, e, ⟨VT_delU hV hi, ?_, Or.inl g5⟩, g4, g6, g7⟩
  obtain ⟨⟨c1, c2, c3, c4⟩, hs, hd, hii, hu⟩ := hM
  refine ⟨⟨?_, ?_, ?_, ?_⟩, fun s h1 => ?_, fun d h1 => ?_, fun d h1 => ?_, fun k h1 => ?_⟩
  · rw [g3 _ (by decide) (by omega)]; exact c1
  · rw [g3 _ (by decide) (by omega)]; exact c2
  · rw [g3 _ (by decide) (by omega)]; exact c3
  · exact g1
  · have h1' : s < tS T := h1
    rw [g3 _ (by omega) (by omega)]; exact hs s h1
  · have h1' : d < tD T := h1
    rw [g3 _ (by omega) (by omega), g3 _ (by omega) (by omega), g3 _ (by omega) (by omega)]; exact hd d h1
  · have h1' : d < tI T := h1
    rw [g3 _ (by omega) (by omega), g3 _ (by omega) (by omega), g3 _ (by omega) (by omega), g3 _ (by omega) (by omega), g3 _ (by omega) (by omega), g3 _ (by omega) (by omega)]; exact hii d h1
  · have h1' : k < tU T - 1 := h1
    unfold uSc uNm
    rw [delU_row]
    unfold shf
    by_cases q : k < i
    · rw [if_pos q, g3 _ (by omega) (by omega), g3 _ (by omega) (by omega)]
      exact hu k (by omega)
    · rw [if_neg q, g2 _ (by omega) (by omega), g2 _ (by omega) (by omega)]
      have z := hu (k + 1) (by omega)
      rw [show 230 + 2 * (k + 1) = 230 + 2 * k + 2 by omega] at z
      rw [show 230 + 2 * k + 1 + 2 = 230 + 2 * k + 2 + 1 by omega]
      exact z
