/-! ===== the model counts: scopes, names, depth ===== -/
section MD
variable {μ : Mm} {T : TT}
theorem reaching_eq (h : MI μ T) {d : Nat} (hd : d < tD T) : ∃ r, X4_reaching (nI d) μ = some r ∧ (∃ ν, r = (nI (seeR T d), ν) ∧ SS μ T ν) := by
  have h16 := h.1.1.2.1
  have hD := h.1.2.1.1
  have hn := (h.1.2.1.2.1 d hd).2.1
  refine cntM _ (SS μ T) (by omega) (fun k acc ν hS => ?_) (fun k acc i ν hi hS => ?_) ⟨h, frS_refl⟩
  · unfold X4_reaching_l4
    rw [show (0 : Int32) = nI 0 from rfl, ck_nI (by decide) (by decide), nI_clamp (by decide), hS.1.2.1.1.1, ifLe (by omega) (by omega), if_pos (Nat.le_refl _)]
  · obtain ⟨r, e, ν', rfl, l, f⟩ := outcomeM_eq hS.1 hi hn
    refine ⟨ν', ⟨ML_MI l, frS_tr hS.2 f⟩, ?_⟩
    unfold X4_reaching_l4
    rw [show (0 : Int32) = nI 0 from rfl, ck_nI (by decide) (by decide), nI_clamp (by decide), hS.1.2.1.1.1, ifLe (by omega) (by omega), if_neg (by omega), of1 hS.1.2.1 h.1 hd, bi_eq, e, bn_eq, one_pow (by omega), ifEq (lt31 (outc_lt h.1 l.2.2.2.2.1 hn)) (lt31 (pow_lt (by omega))), show (if outc T (offOf T) i (dNm T d) = 2 ^ d then (1 : Int32) else nI 0) = nI (if outc T (offOf T) i (dNm T d) = 2 ^ d then 1 else 0) from ite10, nI_add, bd_eq, nI_1]
theorem offering_eq (h : MI μ T) {d : Nat} (hd : d < 30) : ∃ r, X4_offering (nI d) μ = some r ∧ (∃ ν, r = (nI (offS T (offOf T) d), ν) ∧ SS μ T ν) := by
  have h16 := h.1.1.2.1
  obtain ⟨ν0, e0, l0, f0⟩ := layM_eq h
  unfold X4_offering
  rw [e0, bi_eq]
  obtain ⟨r, e, ν, er, l, f⟩ := cntM (F := X4_offering_l8 (nI d)) (bot := fun _ _ _ => none) (N := tS T) (fun s => ((orI (offOf T s) 26).testBit d).toNat) (fun ν => ML ν T ∧ frS μ ν) (by omega) (fun k acc ν hS => by
    unfold X4_offering_l8
    rw [show (0 : Int32) = nI 0 from rfl, ck_nI (by decide) (by decide), nI_clamp (by decide), hS.1.2.1.1.1, ifLe (by omega) (by omega), if_pos (Nat.le_refl _)]) (fun k acc s ν hs hS => by
    refine ⟨ν, hS, ?_⟩
    have hXB := hS.1.2.2.2.2.1
    unfold X4_offering_l8
    rw [show (0 : Int32) = nI 0 from rfl, ck_nI (by decide) (by decide), nI_clamp (by decide), hS.1.2.1.1.1, ifLe (by omega) (by omega), if_neg (by omega)]
    refine iq4m _ (fun m u2 u3 u4 u5 ξ => ∃ n, n + m = 26 ∧ u2 = nI acc ∧ u3 = nI s ∧ u4 = nI (orI (offOf T s) n) ∧ u5 = nI n ∧ ξ = ν) ?_ big 26 _ _ _ _ ν (by decide) ⟨0, rfl, rfl, rfl, rfl, rfl, rfl⟩
    rintro kk m u2 u3 u4 u5 ξ ⟨n, hm, rfl, rfl, rfl, rfl, rfl⟩ ih
    unfold X4_offering_l24
    rw [show (26 : Int32) = nI 26 from rfl, ifLe (by decide) (by omega)]
    by_cases q : 26 ≤ n
    · have : n = 26 := by omega
      subst this
      rw [if_pos q, bd_eq, shr1 (lt31 (orX_lt hXB (by omega) 26 (by omega))) (by omega), nI_add, nI_1]
    · rw [if_neg q, offer_eq hS.1.2.2.2.1 (by omega) (by omega), bi_eq, or_nI, bd_eq, nI_1]
      exact ih (m - 1) _ _ _ _ _ (by omega) ⟨n + 1, by omega, rfl, rfl, rfl, rfl, rfl⟩) (μ := ν0) ⟨l0, f0⟩
  exact ⟨r, e, ν, er, ML_MI l, f⟩
theorem seen_eq (h : MI μ T) {s : Nat} (hs : s < tS T) (b : Int32) : ∃ r, X4_seen (nI s) b μ = some r ∧ (∃ ν, r = (nI (visM T s b), ν) ∧ SS μ T ν) := by
  unfold X4_seen
  refine it2m _ (fun m u3 u4 ν => ∃ n, n + m = 26 ∧ u3 = nI (orI (fun n => if (if b = 0 then popc (outc T (offOf T) s n) = 1 else 1 < popc (outc T (offOf T) s n)) then 2 ^ n else 0) n) ∧ u4 = nI n ∧ SS μ T ν) ?_ big 26 _ _ μ (by decide) ⟨0, rfl, rfl, rfl, h, frS_refl⟩
  rintro kk m u3 u4 ν ⟨n, hm, rfl, rfl, hS⟩ ih
  unfold X4_seen_l5
  rw [show (26 : Int32) = nI 26 from rfl, ifLe (by decide) (by omega)]
  by_cases q : 26 ≤ n
  · rw [if_pos q, show n = 26 by omega]
    exact ⟨_, rfl, ν, rfl, hS⟩
  · obtain ⟨r, e, ν', rfl, l, f⟩ := outcomeM_eq hS.1 hs (n := n) (by omega)
    have hp := popc_le (outc T (offOf T) s n)
    rw [if_neg q, e, bn_eq, bits_eq (lt31 (outc_lt h.1 l.2.2.2.2.1 (by omega))), bi_eq, one_pow (by omega), show (1 : Int32) = nI 1 from rfl, ifEq (by omega) (by decide), ifLe (by omega) (by decide), nI_add, bd_eq]
    refine ih (m - 1) _ _ _ (by omega) ⟨n + 1, by omega, ?_, rfl, ML_MI l, frS_tr hS.2 f⟩
    show _ = nI (_ ||| (if _ then _ else _))
    rw [← or_nI]
    congr 1
    by_cases qb : b = 0
    · simp only [if_pos qb]
      rw [show (0 : Int32) = nI 0 from rfl, ite_nI]
    · simp only [if_neg qb]
      by_cases q3 : popc (outc T (offOf T) s n) ≤ 1
      · rw [if_pos q3, if_neg (by omega)]; rfl
      · rw [if_neg q3, if_pos (by omega)]
theorem lowest_eq {d : Nat} (hd : d < 30) : X4_lowest (nI (2 ^ d)) = some (nI d) := by
  unfold X4_lowest
  refine iq1 _ (fun m u1 => ∃ k, k + m = d ∧ u1 = nI k) ?_ big d _ (by unfold big; omega) ⟨0, by omega, rfl⟩
  rintro kk m u1 ⟨k, hm, rfl⟩ ih
  unfold X4_lowest_l2
  rw [bitZ (lt31 (pow_lt hd)) (by omega), pw_bit, nI_1]
  by_cases q : d = k
  · rw [decide_eq_true q, if_neg (by decide), q]
  · rw [decide_eq_false q, if_pos rfl]
    exact ih (m - 1) _ (by omega) ⟨k + 1, by omega, rfl⟩
theorem depth_eq (hM : MF μ T) (hV : VT T) {s : Nat} (hs : s < tS T) : X4_depth (nI s) μ = some (nI (dep T s)) := by
  have h16 := hV.1.2.1
  unfold X4_depth
  have key : ∀ k p, p < tS T → p < k → dO T k (some p) = 1 + dO T (k - 1) (tPar T p) := fun k p _ hk => by
    obtain ⟨k, rfl⟩ : ∃ k', k = k' + 1 := ⟨k - 1, by omega⟩
    rfl
  refine iq2 _ (fun m u2 u3 => ∃ c k p, m = p ∧ u2 = nI c ∧ u3 = nI p ∧ p < tS T ∧ p ≤ k ∧ k ≤ 16 ∧ c + k ≤ 16 ∧ dep T s = c + dO T k (tPar T p)) ?_ big s _ _ (by unfold big; omega) ⟨0, 16, s, rfl, rfl, rfl, hs, by omega, Nat.le_refl _, by omega, by rw [Nat.zero_add]; rfl⟩
  rintro kk m u2 u3 ⟨c, k, p, rfl, rfl, rfl, hp, hpk, hk, hck, hd⟩ ih
  unfold X4_depth_l4
  rw [show (0 : Int32) = nI 0 from rfl, ifLe (by omega) (by decide)]
  by_cases q : m ≤ 0
  · have e : m = 0 := by omega
    subst e
    rw [if_pos q, hd, hV.1.2.2.1]
    cases k <;> rfl
  · obtain ⟨p', h1, h2⟩ := hV.1.2.2.2 m (by omega) hp
    rw [h2, key k p' (by omega) (by omega)] at hd
    rw [if_neg q, show (4 : Int32) = nI 4 from rfl, nI_add, ck_nI (by omega) (by decide), bd_eq, nI_clamp (by omega), hM.2.1 m hp, h2, nI_1]
    exact ih p' _ _ h1 ⟨c + 1, k - 1, p', rfl, rfl, rfl, by omega, by omega, by omega, by omega, by omega⟩
theorem deepest_eq (hM : MF μ T) (hV : VT T) : X4_deepest μ = some (nI (deep T)) := by
  have h16 := hV.1.2.1
  refine fold_loop (F := X4_deepest_l4 μ) (bot := fun _ _ => none) (N := tS T) (fun s g => if g < dep T s then dep T s else g) nI (fun _ g => g ≤ 16) (by omega) 0 (by decide) (fun k acc hacc => ?_) (fun k acc i hi hacc => ?_)
  · unfold X4_deepest_l4
    rw [show (0 : Int32) = nI 0 from rfl, ck_nI (by decide) (by decide), nI_clamp (by decide), hM.1.1, ifLe (by omega) (by omega), if_pos (Nat.le_refl _)]
  · have hd : dep T i ≤ 16 := dO_le T 16 _
    refine ⟨by split <;> omega, ?_⟩
    unfold X4_deepest_l4
    rw [show (0 : Int32) = nI 0 from rfl, ck_nI (by decide) (by decide), nI_clamp (by decide), hM.1.1, ifLe (by omega) (by omega), if_neg (by omega), depth_eq hM hV hi, bi_eq, ifLe (by omega) (by omega), bi_eq, nI_1]
    by_cases q : dep T i ≤ acc
    · rw [if_pos q, if_neg (by omega)]
    · rw [if_neg q, if_pos (by omega)]
end MD
