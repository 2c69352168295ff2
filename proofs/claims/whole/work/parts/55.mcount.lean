/-! ===== the model counts ===== -/
theorem cntM {F : (Int32 → Int32 → Mm → Option (Int32 × Mm)) → Int32 → Int32 → Mm → Option (Int32 × Mm)} {bot : Int32 → Int32 → Mm → Option (Int32 × Mm)} {N : Nat} (f : Nat → Nat) (S : Mm → Prop) (hN : N < 9000) (he : ∀ k acc ν, S ν → F k (nI acc) (nI N) ν = some (nI acc, ν)) (hs : ∀ k acc i ν, i < N → S ν → ∃ ν', S ν' ∧ F k (nI acc) (nI i) ν = k (nI (acc + f i)) (nI (i + 1)) ν') {μ : Mm} (h0 : S μ) : ∃ r, itr F bot big 0 0 μ = some r ∧ (∃ ν, r = (nI (fb_sm f N), ν) ∧ S ν) := by
  refine it2m _ (fun m u1 u2 ν => ∃ i, i + m = N ∧ u1 = nI (fb_sm f i) ∧ u2 = nI i ∧ S ν) ?_ big N _ _ μ (by unfold big; omega) ⟨0, by omega, rfl, rfl, h0⟩
  rintro k m u1 u2 ν ⟨i, hm, rfl, rfl, hS⟩ ih
  by_cases q : i = N
  · subst q
    rw [he _ _ _ hS]
    exact ⟨_, rfl, ν, rfl, hS⟩
  · obtain ⟨ν', hS', e⟩ := hs k (fb_sm f i) i ν (by omega) hS
    rw [e]
    exact ih (m - 1) _ _ _ (by omega) ⟨i + 1, by omega, rfl, rfl, hS'⟩
def SS (μ : Mm) (T : TT) (ν : Mm) : Prop := MI ν T ∧ frS μ ν
theorem within_eq (x : Int32) {a b : Nat} (ha : a < 2 ^ 31) (hb : b < 2 ^ 31) {v : Nat} (hv : v < 2 ^ 31) (hx : x = nI v) : X4_within x (nI a) (nI b) = some (nI (if a ≤ v ∧ v ≤ b then 1 else 0)) := by
  subst hx
  unfold X4_within
  rw [ifLt hv ha, ifLt hb hv]
  by_cases q1 : v < a
  · rw [if_pos q1, if_neg (by omega)]; rfl
  · rw [if_neg q1]
    by_cases q2 : b < v
    · rw [if_pos q2, if_neg (by omega)]; rfl
    · rw [if_neg q2, if_pos (by omega)]; rfl
section MC
variable {μ : Mm} {T : TT}
theorem usesWith_eq (h : MI μ T) {a b : Nat} (ha : a < 31) (hb : b < 31) : ∃ r, X4_usesWith (nI a) (nI b) μ = some r ∧ (∃ ν, r = (nI (fb_sm (fun u => if a ≤ popc (outU T (offOf T) u) ∧ popc (outU T (offOf T) u) ≤ b then 1 else 0) (tU T)), ν) ∧ SS μ T ν) := by
  have hU := h.1.2.2.2.1
  refine cntM _ (SS μ T) (by omega) (fun k acc ν hS => ?_) (fun k acc i ν hi hS => ?_) ⟨h, frS_refl⟩
  · unfold X4_usesWith_l5
    rw [show (3 : Int32) = nI 3 from rfl, ck_nI (by decide) (by decide), nI_clamp (by decide), hS.1.2.1.1.2.2.2, ifLe (by omega) (by omega), if_pos (Nat.le_refl _)]
  · obtain ⟨r, e, ν', rfl, l, f⟩ := outcomeOf_eq hS.1 hi
    have hp := popc_le (outU T (offOf T) i)
    refine ⟨ν', ⟨ML_MI l, frS_tr hS.2 f⟩, ?_⟩
    unfold X4_usesWith_l5
    rw [show (3 : Int32) = nI 3 from rfl, ck_nI (by decide) (by decide), nI_clamp (by decide), hS.1.2.1.1.2.2.2, ifLe (by omega) (by omega), if_neg (by omega), e, bn_eq, bits_eq (lt31 (outU_lt h.1 l.2.2.2.2.1 hi)), bi_eq, within_eq _ (by omega) (by omega) (v := popc (outU T (offOf T) i)) (by omega) rfl, bi_eq, nI_1]
    by_cases q : a ≤ popc (outU T (offOf T) i) ∧ popc (outU T (offOf T) i) ≤ b
    · rw [if_pos q, if_neg one0, bd_eq, nI_1]
    · rw [if_neg q, if_pos zero0, bd_eq, show nI acc + 0 = nI (acc + 0) from nI_add acc 0]
theorem usesOf_eq (h : MI μ T) {d : Nat} (hd : d < 30) : ∃ r, X4_usesOf (nI d) μ = some r ∧ (∃ ν, r = (nI (useR T d), ν) ∧ SS μ T ν) := by
  have hU := h.1.2.2.2.1
  refine cntM _ (SS μ T) (by omega) (fun k acc ν hS => ?_) (fun k acc i ν hi hS => ?_) ⟨h, frS_refl⟩
  · unfold X4_usesOf_l4
    rw [show (3 : Int32) = nI 3 from rfl, ck_nI (by decide) (by decide), nI_clamp (by decide), hS.1.2.1.1.2.2.2, ifLe (by omega) (by omega), if_pos (Nat.le_refl _)]
  · obtain ⟨r, e, ν', rfl, l, f⟩ := outcomeOf_eq hS.1 hi
    refine ⟨ν', ⟨ML_MI l, frS_tr hS.2 f⟩, ?_⟩
    unfold X4_usesOf_l4
    rw [show (3 : Int32) = nI 3 from rfl, ck_nI (by decide) (by decide), nI_clamp (by decide), hS.1.2.1.1.2.2.2, ifLe (by omega) (by omega), if_neg (by omega), e, bn_eq, one_pow hd, ifEq (lt31 (outU_lt h.1 l.2.2.2.2.1 hi)) (lt31 (pow_lt hd)), ite10, nI_add, bd_eq, nI_1]
theorem useR_le (T : TT) (d : Nat) : useR T d ≤ tU T := by
  have h := fb_sm_le (f := fun u => if outU T (offOf T) u = 2 ^ d then 1 else 0) (g := fun _ => 1) (n := tU T) (fun k _ => by show (if _ then _ else _) ≤ 1; split <;> omega)
  rw [fb_sm_const] at h
  unfold useR
  omega
theorem unused_eq (h : MI μ T) : ∃ r, X4_unused μ = some r ∧ (∃ ν, r = (nI (fb_sm (fun d => if useR T d = 0 then 1 else 0) (tD T)), ν) ∧ SS μ T ν) := by
  have hD := h.1.2.1.1
  have hU := h.1.2.2.2.1
  refine cntM _ (SS μ T) (by omega) (fun k acc ν hS => ?_) (fun k acc i ν hi hS => ?_) ⟨h, frS_refl⟩
  · unfold X4_unused_l4
    rw [show (1 : Int32) = nI 1 from rfl, ck_nI (by decide) (by decide), nI_clamp (by decide), hS.1.2.1.1.2.1, ifLe (by omega) (by omega), if_pos (Nat.le_refl _)]
  · obtain ⟨r, e, ν', rfl, l, f⟩ := usesOf_eq hS.1 (d := i) (by omega)
    refine ⟨ν', ⟨l, frS_tr hS.2 f⟩, ?_⟩
    have hle := useR_le T i
    unfold X4_unused_l4
    rw [show (1 : Int32) = nI 1 from rfl, ck_nI (by decide) (by decide), nI_clamp (by decide), hS.1.2.1.1.2.1, ifLe (by omega) (by omega), if_neg (by omega), e, bn_eq, show (0 : Int32) = nI 0 from rfl, ifEq (by omega) (by decide), ite_nI, nI_add, bd_eq, nI_add]
theorem pairsOf_eq (h : MI μ T) {i : Nat} (hi : i < tI T) : ∃ r, X4_pairsOf (nI i) μ = some r ∧ (∃ ν, r = (nI (prs T (offOf T) i), ν) ∧ SS μ T ν) := by
  obtain ⟨ν0, e0, l0, f0⟩ := layM_eq h
  unfold X4_pairsOf
  rw [e0, bi_eq]
  obtain ⟨r, e, ν, er, l, f⟩ := cntM (F := X4_pairsOf_l8 (nI i)) (bot := fun _ _ _ => none) (N := 26) (fun n => popc (broM T (offOf T) i n)) (fun ν => ML ν T ∧ frS μ ν) (by decide) (fun k acc ν hS => by
    unfold X4_pairsOf_l8
    rw [if_pos (by decide)]) (fun k acc n ν hn hS => by
    refine ⟨ν, hS, ?_⟩
    unfold X4_pairsOf_l8
    rw [show (26 : Int32) = nI 26 from rfl, ifLe (by decide) (by omega), if_neg (by omega), brought_eq hS.1.2.1 hS.1.1 hS.1.2.2.2.1 hi hn, bi_eq, bits_eq (lt31 (broM_lt hS.1.1 hS.1.2.2.2.2.1 hi hn)), bi_eq, nI_add, bd_eq, nI_1]) (μ := ν0) ⟨l0, f0⟩
  exact ⟨r, e, ν, er, ML_MI l, f⟩
end MC
