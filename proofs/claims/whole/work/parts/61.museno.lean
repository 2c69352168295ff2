/-! ===== the model's use: its state ===== -/
section MU
variable {μ : Mm} {T : TT}
theorem outcomeOf_ly (h : MI μ T) {u : Nat} (hu : u < tU T) : ∃ r, X4_outcomeOf (nI u) μ = some r ∧ (∃ ν, r = (nI (outU T (offOf T) u), ν) ∧ ML ν T ∧ frS μ ν ∧ LyS ν (lays T (offOf T) (uSc T u) (uNm T u))) := by
  obtain ⟨v1, v2⟩ := h.1.2.2.2.2 u hu
  obtain ⟨ν, e, l, f, hLS⟩ := layLayers_eq h v1 v2
  have hlen := len_lays (X := offOf T) h.1 (s := uSc T u) (n := uNm T u)
  unfold X4_outcomeOf X4_outcome
  rw [useScope_eq h.2.1 h.1 hu, bi_eq, useName_eq h.2.1 h.1 hu, bi_eq, e, bi_eq, hLS.1, show (0 : Int32) = nI 0 from rfl, ifEq (by omega) (by decide)]
  have ho : outU T (offOf T) u = match (lays T (offOf T) (uSc T u) (uNm T u))[0]? with
    | none => 0
    | some t => t.1 := hd_get _
  cases hc : lays T (offOf T) (uSc T u) (uNm T u) with
  | nil =>
    rw [hc] at ho hLS
    rw [if_pos (show ([] : List (Nat × Nat × Nat)).length = 0 from rfl), bn_eq, ho]
    exact ⟨_, rfl, ν, rfl, l, f, hLS⟩
  | cons t ts =>
    rw [hc] at ho hLS
    rw [if_neg (show ¬ (t :: ts).length = 0 from fun z => by cases z), ck_nI (by decide) (by decide), nI_clamp (by decide), (hLS.2 0 t rfl).1, bn_eq, ho]
    exact ⟨_, rfl, ν, rfl, l, f, hLS⟩
theorem useNow_eq (h : MI μ T) {u : Nat} (hu : u < tU T) {y : Int32} (hy : inb y 4 = true) : ∃ r, X4_useNow (nI u) y μ = some r ∧ (∃ ν, r = (usdV T u y, ν) ∧ SwW μ T ν) := by
  have hU := h.1.2.2.2.1
  obtain ⟨j, hj, rfl⟩ := inb_of hy (by decide)
  have hX := MI_off h
  have hlt := outU_lt h.1 hX.1 hu
  unfold X4_useNow usdV
  have hcase : j = 0 ∨ j = 1 ∨ j = 2 ∨ j = 3 := by omega
  rcases hcase with rfl | rfl | rfl | rfl
  · rw [if_neg (by decide), if_pos (by decide), show (230 : Int32) = nI 230 from rfl, show (2 : Int32) = nI 2 from rfl, pk_mul, nI_add, nI_add, ck_nI (by omega) (by decide), nI_clamp (by omega), Nat.add_zero, (h.2.1.2.2.2.2 u hu).1]
    exact ⟨_, rfl, μ, rfl, h, frW_refl⟩
  · rw [if_neg (by decide), if_neg (by decide), if_pos (by decide), show (230 : Int32) = nI 230 from rfl, show (2 : Int32) = nI 2 from rfl, pk_mul, nI_add, nI_add, ck_nI (by omega) (by decide), nI_clamp (by omega), (h.2.1.2.2.2.2 u hu).2]
    exact ⟨_, rfl, μ, rfl, h, frW_refl⟩
  · obtain ⟨r, e, ν, rfl, l, f, hLS⟩ := outcomeOf_ly h hu
    rw [if_pos (by decide), e, bn_eq, if_pos (by decide), if_neg (by decide), if_neg (by decide), if_pos (by decide), onlyM_eq hlt, bi_eq]
    exact ⟨_, rfl, ν, rfl, ML_MI l, frS_W f⟩
  · obtain ⟨r, e, ν, rfl, l, f, hLS⟩ := outcomeOf_ly h hu
    have hp := popc_le (outU T (offOf T) u)
    have fin : ∀ v, v = nI (stU T (offOf T) u) → ∃ r, some (v, ν) = some r ∧ (∃ ν, r = (nI (stU T (offOf T) u), ν) ∧ SwW μ T ν) := by
      rintro v rfl
      exact ⟨_, rfl, ν, rfl, ML_MI l, frS_W f⟩
    rw [if_pos (by decide), e, bn_eq, if_neg (show ¬ nI 3 = (2 : Int32) by decide), if_neg (show ¬ nI 3 = (0 : Int32) by decide), if_neg (show ¬ nI 3 = (1 : Int32) by decide), if_neg (show ¬ nI 3 = (2 : Int32) by decide), bits_eq (lt31 hlt), bi_eq, show (1 : Int32) = nI 1 from rfl, ifEq (by omega) (by decide), show (0 : Int32) = nI 0 from rfl, ifEq (lt31 hlt) (by decide)]
    by_cases q : popc (outU T (offOf T) u) = 1
    · rw [if_pos q]
      exact fin _ (by unfold stU; rw [if_neg (by omega), q])
    · rw [if_neg q]
      by_cases q0 : outU T (offOf T) u = 0
      · rw [if_pos q0]
        exact fin _ (by unfold stU; rw [(popc_zero hlt).mpr q0]; rfl)
      · rw [if_neg q0]
        have h2 : 2 ≤ popc (outU T (offOf T) u) := by
          have : popc (outU T (offOf T) u) ≠ 0 := fun z => q0 ((popc_zero hlt).mp z)
          omega
        have ho : outU T (offOf T) u = match (lays T (offOf T) (uSc T u) (uNm T u))[0]? with
          | none => 0
          | some t => t.1 := hd_get _
        cases hc : (lays T (offOf T) (uSc T u) (uNm T u))[0]? with
        | none => rw [hc] at ho; exact absurd ho q0
        | some t =>
          rw [hc] at ho
          have ho' : outU T (offOf T) u = t.1 := ho
          obtain ⟨p, w1, w2, w3, w4, w5⟩ := mem_lays hc
          have hsrt : srt (lays T (offOf T) (uSc T u) (uNm T u)) = t.2.1 := by
            cases hl : lays T (offOf T) (uSc T u) (uNm T u) with
            | nil => rw [hl] at hc; cases hc
            | cons a as =>
              rw [hl] at hc
              injection hc with hc
              subst hc
              rfl
          have hne : t.2.1 ≠ 0 := fun z => by
            rw [ho', w4, z] at h2
            have e1 : layM T (offOf T) p (uNm T u) 0 = om (dOf T p (uNm T u)) := rfl
            rw [e1] at h2
            cases hd : dOf T p (uNm T u) with
            | none => rw [hd] at h2; exact absurd h2 (by show ¬ 2 ≤ popc 0; decide)
            | some d =>
              rw [hd] at h2
              have := (dOf_some hd).1
              have := h.1.2.1.1
              have h3 : 2 ≤ popc (2 ^ d) := h2
              rw [(popc_pow d (by omega)).1] at h3
              omega
          rw [ck_nI (by decide) (by decide), nI_clamp (by decide), (hLS.2 0 t hc).2.1, nI_add]
          refine fin _ ?_
          unfold stU
          rw [if_pos h2, hsrt]
          have : t.2.1 = 1 ∨ t.2.1 = 2 := by omega
          rcases this with z | z
          · rw [z]; rfl
          · rw [z]; rfl
end MU
