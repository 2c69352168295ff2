/-! ===== the model's declaration, imported, used ===== -/
theorem onlyM_eq {m : Nat} (hm : m < 2 ^ 30) : X4_only (nI m) = some (enc (only m)) := by
  unfold X4_only only
  have hp := popc_le m
  rw [bits_eq (lt31 hm), bi_eq, show (1 : Int32) = nI 1 from rfl, ifEq (by omega) (by decide)]
  by_cases h : popc m = 1
  · obtain ⟨d, hd, rfl⟩ := popc_one hm h
    rw [if_pos h, if_pos h, lowest_eq hd, bi_eq, (popc_pow d hd).2]
    rfl
  · rw [if_neg h, if_neg h]
    rfl
noncomputable def dclV (T : TT) (j : Nat) (y : Int32) : Int32 := if y = 0 then nI (dSc T j) else if y = 1 then nI (dNm T j) else if y = 2 then nI (dPb T j) else if y = 3 then nI (useR T j) else if y = 4 then nI (offS T (offOf T) j) else nI (seeR T j)
noncomputable def imdV (T : TT) (j : Nat) (y : Int32) : Int32 := if y = 0 then nI (iTo T j) else if y = 1 then nI (iFr T j) else if y = 2 then enc (iSr T j) else if y = 3 then enc (iLo T j) else if y = 4 then nI (iEx T j) else if y = 5 then nI (iPs T j) else if y = 6 then nI (prs T (offOf T) j) else nI (loss T j)
noncomputable def usdV (T : TT) (j : Nat) (y : Int32) : Int32 := if y = 0 then nI (uSc T j) else if y = 1 then nI (uNm T j) else if y = 2 then enc (only (outU T (offOf T) j)) else nI (stU T (offOf T) j)
section MW
variable {μ : Mm} {T : TT}
theorem declarationNow_eq (h : MI μ T) {d : Nat} (hd : d < tD T) {y : Int32} (hy : inb y 6 = true) : ∃ r, X4_declarationNow (nI d) y μ = some r ∧ (∃ ν, r = (dclV T d y, ν) ∧ SwW μ T ν) := by
  have hD := h.1.2.1.1
  obtain ⟨j, hj, rfl⟩ := inb_of hy (by decide)
  unfold X4_declarationNow dclV
  have hcase : j = 0 ∨ j = 1 ∨ j = 2 ∨ j = 3 ∨ j = 4 ∨ j = 5 := by omega
  rcases hcase with rfl | rfl | rfl | rfl | rfl | rfl
  · rw [if_neg (by decide), if_pos (by decide), show X4_of (nI d) (nI 0) μ = _ from of0 h.2.1 h.1 hd, bi_eq]
    exact ⟨_, rfl, μ, rfl, h, frW_refl⟩
  · rw [if_neg (by decide), if_neg (by decide), if_pos (by decide), show X4_of (nI d) (nI 1) μ = _ from of1 h.2.1 h.1 hd, bi_eq]
    exact ⟨_, rfl, μ, rfl, h, frW_refl⟩
  · rw [if_neg (by decide), if_neg (by decide), if_neg (by decide), if_pos (by decide), show X4_of (nI d) (nI 2) μ = _ from of2 h.2.1 h.1 hd, bi_eq]
    exact ⟨_, rfl, μ, rfl, h, frW_refl⟩
  · obtain ⟨r, e, ν, rfl, l⟩ := usesOf_eq h (d := d) (by omega)
    rw [if_pos (by decide), if_pos (by decide), e, bn_eq]
    exact ⟨_, rfl, ν, rfl, SS_Sw l⟩
  · obtain ⟨r, e, ν, rfl, l⟩ := offering_eq h (d := d) (by omega)
    rw [if_pos (by decide), if_neg (by decide), if_pos (by decide), e, bn_eq]
    exact ⟨_, rfl, ν, rfl, SS_Sw l⟩
  · obtain ⟨r, e, ν, rfl, l⟩ := reaching_eq h hd
    rw [if_pos (by decide), if_neg (by decide), if_neg (by decide), e, bn_eq]
    exact ⟨_, rfl, ν, rfl, SS_Sw l⟩
theorem importNow_eq (h : MI μ T) {i : Nat} (hi : i < tI T) {y : Int32} (hy : inb y 8 = true) : ∃ r, X4_importNow (nI i) y μ = some r ∧ (∃ ν, r = (imdV T i y, ν) ∧ SwW μ T ν) := by
  obtain ⟨j, hj, rfl⟩ := inb_of hy (by decide)
  unfold X4_importNow imdV
  have low6 : ∀ k v, X4_at (nI i) (nI k) μ = some v → ∃ r, ((X4_at (nI i) (nI k) μ).bind fun q8 => some (q8, μ)) = some r ∧ (∃ ν, r = (v, ν) ∧ SwW μ T ν) := fun k v e => by
    rw [e, bi_eq]
    exact ⟨_, rfl, μ, rfl, h, frW_refl⟩
  have hcase : j = 0 ∨ j = 1 ∨ j = 2 ∨ j = 3 ∨ j = 4 ∨ j = 5 ∨ j = 6 ∨ j = 7 := by omega
  rcases hcase with rfl | rfl | rfl | rfl | rfl | rfl | rfl | rfl
  · exact low6 0 _ (at0 h.2.1 h.1 hi)
  · exact low6 1 _ (at1 h.2.1 h.1 hi)
  · exact low6 2 _ (at2 h.2.1 h.1 hi)
  · exact low6 3 _ (at3 h.2.1 h.1 hi)
  · exact low6 4 _ (at4 h.2.1 h.1 hi)
  · exact low6 5 _ (at5 h.2.1 h.1 hi)
  · obtain ⟨r, e, ν, rfl, l⟩ := pairsOf_eq h hi
    rw [if_pos (by decide), if_pos (by decide), e, bn_eq]
    exact ⟨_, rfl, ν, rfl, SS_Sw l⟩
  · obtain ⟨r, e, ν, rfl, l⟩ := without_eq h hi
    rw [if_pos (by decide), if_neg (by decide), e, bn_eq]
    exact ⟨_, rfl, ν, rfl, l⟩
end MW
