/-! ===== the model's count ===== -/
def SwW (μ : Mm) (T : TT) (ν : Mm) : Prop := MI ν T ∧ frW μ ν
theorem SS_Sw {μ ν : Mm} {T : TT} (h : SS μ T ν) : SwW μ T ν := ⟨h.1, frS_W h.2⟩
section MN
variable {μ : Mm} {T : TT}
theorem needless0_eq (h : MI μ T) : ∃ r, X4_needless 0 μ = some r ∧ (∃ ν, r = (nI (needless T), ν) ∧ SwW μ T ν) := by
  have hI := h.1.2.2.1.1
  have hU := h.1.2.2.2.1
  refine cntM _ (SwW μ T) (by omega) (fun k acc ν hS => ?_) (fun k acc i ν hi hS => ?_) ⟨h, frW_refl⟩
  · unfold X4_needless_l4
    rw [show (2 : Int32) = nI 2 from rfl, ck_nI (by decide) (by decide), nI_clamp (by decide), hS.1.2.1.1.2.2.1, ifLe (by omega) (by omega), if_pos (Nat.le_refl _)]
  · obtain ⟨r, e, ν', rfl, l, f⟩ := without_eq hS.1 hi
    have hl := loss_le T i
    refine ⟨ν', ⟨l, frW_tr hS.2 f⟩, ?_⟩
    unfold X4_needless_l4
    rw [show (2 : Int32) = nI 2 from rfl, ck_nI (by decide) (by decide), nI_clamp (by decide), hS.1.2.1.1.2.2.1, ifLe (by omega) (by omega), if_neg (by omega), if_pos rfl, e, bn_eq, show (0 : Int32) = nI 0 from rfl, ifEq (by omega) (by decide), show (if loss T i = 0 then (1 : Int32) else nI 0) = nI (if loss T i = 0 then 1 else 0) from ite10, nI_add, bd_eq, nI_1]
theorem needless1_eq (h : MI μ T) : ∃ r, X4_needless 1 μ = some r ∧ (∃ ν, r = (nI (vain T), ν) ∧ SwW μ T ν) := by
  have hI := h.1.2.2.1.1
  refine cntM _ (SwW μ T) (by omega) (fun k acc ν hS => ?_) (fun k acc i ν hi hS => ?_) ⟨h, frW_refl⟩
  · unfold X4_needless_l4
    rw [show (2 : Int32) = nI 2 from rfl, ck_nI (by decide) (by decide), nI_clamp (by decide), hS.1.2.1.1.2.2.1, ifLe (by omega) (by omega), if_pos (Nat.le_refl _)]
  · by_cases q : (iSr T i).isSome = true
    · obtain ⟨r, e, ν', rfl, l⟩ := pairsOf_eq hS.1 hi
      have hl := prs_le (T := T) (MI_off h).1 i
      refine ⟨ν', ⟨l.1, frW_tr hS.2 (frS_W l.2)⟩, ?_⟩
      unfold X4_needless_l4
      rw [show (2 : Int32) = nI 2 from rfl, ck_nI (by decide) (by decide), nI_clamp (by decide), hS.1.2.1.1.2.2.1, ifLe (by omega) (by omega), if_neg (by omega), if_neg (show ¬ (1 : Int32) = 0 by decide), isSingle_eq hS.1.2.1 h.1 hi, bi_eq, if_pos q, if_neg one0, e, bn_eq, show (0 : Int32) = nI 0 from rfl, ifEq (by omega) (by decide), show (if prs T (offOf T) i = 0 then (1 : Int32) else nI 0) = nI (if prs T (offOf T) i = 0 then 1 else 0) from ite10, nI_add, bd_eq, nI_1]
      by_cases q2 : prs T (offOf T) i = 0
      · rw [if_pos q2, if_pos ⟨q, q2⟩]
      · rw [if_neg q2, if_neg (fun z => q2 z.2)]
    · refine ⟨ν, hS, ?_⟩
      unfold X4_needless_l4 X4_needless_j50
      rw [show (2 : Int32) = nI 2 from rfl, ck_nI (by decide) (by decide), nI_clamp (by decide), hS.1.2.1.1.2.2.1, ifLe (by omega) (by omega), if_neg (by omega), if_neg (show ¬ (1 : Int32) = 0 by decide), isSingle_eq hS.1.2.1 h.1 hi, bi_eq, if_neg q, if_pos zero0, bd_eq, if_neg (fun z => q z.1), nI_1, show nI acc + 0 = nI (acc + 0) from nI_add acc 0]
theorem allPairs_eq (h : MI μ T) : ∃ r, X4_allPairs μ = some r ∧ (∃ ν, r = (nI (pairs T (offOf T)), ν) ∧ SS μ T ν) := by
  obtain ⟨ν0, e0, l0, f0⟩ := layM_eq h
  unfold X4_allPairs
  rw [e0, bi_eq]
  obtain ⟨r, e, ν, er, l, f⟩ := cntM (F := X4_allPairs_l8) (bot := fun _ _ _ => none) (N := 416) (fun c => popc (offOf T (c / 26) (c % 26))) (fun ν => ML ν T ∧ frS μ ν) (by decide) (fun k acc ν hS => by
    unfold X4_allPairs_l8
    rw [if_pos (by decide)]) (fun k acc c ν hc hS => by
    refine ⟨ν, hS, ?_⟩
    have hcell := hS.1.2.2.2.1 (c / 26) (c % 26) (by omega) (by omega)
    rw [show 26 * (c / 26) + c % 26 = c by omega] at hcell
    unfold X4_allPairs_l8
    rw [show (416 : Int32) = nI 416 from rfl, ifLe (by decide) (by omega), if_neg (by omega), ck_nI hc (by decide), nI_clamp (by omega), hcell, bits_eq (lt31 (hS.1.2.2.2.2.1 _ _ (by omega) (by omega))), bi_eq, nI_add, bd_eq, nI_1]) (μ := ν0) ⟨l0, f0⟩
  rw [pairs_all h.1 (MI_off h)] at er
  exact ⟨r, e, ν, er, ML_MI l, f⟩
theorem counted_eq (h : MI μ T) {x : Int32} (hx : inb x 11 = true) : ∃ r, X4_counted x μ = some r ∧ (∃ ν, r = (cntV T x, ν) ∧ SwW μ T ν) := by
  unfold X4_counted cntV
  obtain ⟨j, hj, rfl⟩ := inb_of hx (by decide)
  have hM := h.2.1.1
  have low4 : ∀ v, μ.1 46 j = v → j < 11 → ∃ r, (ck (nI j) 290 <| some ((μ.1 46 (nI j : Int32).toNatClampNeg), μ)) = some r ∧ (∃ ν, r = (v, ν) ∧ SwW μ T ν) := fun v hv hj => by
    rw [ck_nI (by omega) (by decide), nI_clamp (by omega), hv]
    exact ⟨_, rfl, μ, rfl, h, frW_refl⟩
  have hcase : j = 0 ∨ j = 1 ∨ j = 2 ∨ j = 3 ∨ j = 4 ∨ j = 5 ∨ j = 6 ∨ j = 7 ∨ j = 8 ∨ j = 9 ∨ j = 10 := by omega
  rcases hcase with rfl | rfl | rfl | rfl | rfl | rfl | rfl | rfl | rfl | rfl | rfl
  · exact low4 _ hM.1 (by decide)
  · exact low4 _ hM.2.1 (by decide)
  · exact low4 _ hM.2.2.1 (by decide)
  · exact low4 _ hM.2.2.2 (by decide)
  · obtain ⟨r, e, ν, rfl, l⟩ := usesWith_eq h (a := 1) (b := 1) (by decide) (by decide)
    rw [stC_0] at *
    rw [if_pos (by decide), show X4_usesWith 1 1 μ = _ from e, bn_eq]
    exact ⟨_, rfl, ν, rfl, SS_Sw l⟩
  · obtain ⟨r, e, ν, rfl, l⟩ := usesWith_eq h (a := 2) (b := 30) (by decide) (by decide)
    rw [stC_23] at *
    rw [if_neg (by decide), if_pos (by decide), show X4_usesWith 2 30 μ = _ from e, bn_eq]
    exact ⟨_, rfl, ν, rfl, SS_Sw l⟩
  · obtain ⟨r, e, ν, rfl, l⟩ := unused_eq h
    rw [if_neg (by decide), if_neg (by decide), if_pos (by decide), e, bn_eq, ← unused_same h.1 (MI_off h)]
    exact ⟨_, rfl, ν, rfl, SS_Sw l⟩
  · obtain ⟨r, e, ν, rfl, l⟩ := needless0_eq h
    rw [if_neg (by decide), if_neg (by decide), if_neg (by decide), if_pos (by decide), e, bn_eq]
    exact ⟨_, rfl, ν, rfl, l⟩
  · obtain ⟨r, e, ν, rfl, l⟩ := needless1_eq h
    rw [if_neg (by decide), if_neg (by decide), if_neg (by decide), if_neg (by decide), if_pos (by decide), e, bn_eq]
    exact ⟨_, rfl, ν, rfl, l⟩
  · rw [if_neg (by decide), if_neg (by decide), if_neg (by decide), if_neg (by decide), if_neg (by decide), if_pos (by decide), deepest_eq h.2.1 h.1, bi_eq]
    exact ⟨_, rfl, μ, rfl, h, frW_refl⟩
  · obtain ⟨r, e, ν, rfl, l⟩ := allPairs_eq h
    rw [if_neg (by decide), if_neg (by decide), if_neg (by decide), if_neg (by decide), if_neg (by decide), if_neg (by decide), if_pos (by decide), e, bn_eq]
    exact ⟨_, rfl, ν, rfl, SS_Sw l⟩
end MN
