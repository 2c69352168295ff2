/-! ===== the model's layers, outcomes ===== -/
def LyS (ν : Mm) (l : List (Nat × Nat × Nat)) : Prop := ν.1 45 7 = nI l.length ∧ ∀ i t, l[i]? = some t → ν.1 50 i = nI t.1 ∧ ν.1 51 i = nI t.2.1 ∧ ν.1 52 i = nI t.2.2
theorem LyS_step {ν : Mm} {l : List (Nat × Nat × Nat)} {x j st : Nat} (h : LyS ν l) : LyS (setI (setI (setI (setI ν 50 l.length (nI x)) 51 l.length (nI j)) 52 l.length (nI st)) 45 7 (nI (l.length + (if x = 0 then 0 else 1)))) (l ++ (if x = 0 then [] else [(x, j, st)])) := by
  refine ⟨?_, fun i t ht => ?_⟩
  · rw [setI_same, List.length_append]
    by_cases q : x = 0
    · rw [if_pos q, if_pos q]; rfl
    · rw [if_neg q, if_neg q]; rfl
  · simp (disch := omega) only [sg, if_neg]
    rcases Nat.lt_trichotomy i l.length with q | q | q
    · rw [List.getElem?_append_left q] at ht
      simp (disch := omega) only [if_neg]
      exact h.2 i t ht
    · subst q
      rw [List.getElem?_append_right (Nat.le_refl _), Nat.sub_self] at ht
      by_cases q0 : x = 0
      · rw [if_pos q0] at ht; cases ht
      · rw [if_neg q0] at ht
        injection ht with ht
        subst ht
        simp (disch := omega) only [if_pos]
        exact ⟨rfl, rfl, rfl⟩
    · rw [List.getElem?_append_right (by omega)] at ht
      by_cases q0 : x = 0
      · rw [if_pos q0] at ht; cases ht
      · rw [if_neg q0, List.getElem?_eq_none (by show 1 ≤ i - l.length; omega)] at ht
        cases ht
theorem layLayers_eq {μ : Mm} {T : TT} (h : MI μ T) {s n : Nat} (hs : s < tS T) (hn : n < 26) : ∃ ν, X4_layLayers (nI s) (nI n) μ = some ν ∧ (ML ν T ∧ frS μ ν ∧ LyS ν (lays T (offOf T) s n)) := by
  have hV := h.1
  have h16 := hV.1.2.1
  obtain ⟨ν0, e0, l0, f0⟩ := layM_eq h
  unfold X4_layLayers
  rw [e0, bi_eq, bd_eq]
  refine it2m _ (fun m u3 u4 ξ => ∃ (k st : Nat) (o : Option Nat) (l : List (Nat × Nat × Nat)), m = k ∧ st + k = 16 ∧ u3 = nI st ∧ u4 = enc o ∧ (∀ p, o = some p → p < tS T ∧ p < k) ∧ l ++ remL T (offOf T) n k o st 0 = lays T (offOf T) s n ∧ l.length ≤ 3 * st ∧ ML ξ T ∧ frS μ ξ ∧ LyS ξ l) ?_ big 16 _ _ (setI ν0 45 7 0) (by decide) ⟨16, 0, some s, [], rfl, rfl, rfl, rfl, fun p hp => by injection hp with e; omega, by rw [lays_rem]; rfl, Nat.zero_le _, ML_put l0 (by omega), frS_put f0 (by omega), by rw [setI_same]; rfl, fun i t ht => by cases ht⟩
  rintro k14 m u3 u4 ξ ⟨k, st, o, l, rfl, hk, rfl, rfl, ho, hl, hll, hML, hf, hLS⟩ ih
  unfold X4_layLayers_l14
  cases o with
  | none =>
    rw [if_pos (show enc none = -1 from rfl)]
    refine ⟨ξ, rfl, hML, hf, ?_⟩
    rw [← hl, show remL T (offOf T) n m none st 0 = [] by cases m <;> rfl, List.append_nil]
    exact hLS
  | some p =>
    obtain ⟨hp, hpk⟩ := ho p rfl
    obtain ⟨k, rfl⟩ : ∃ k', m = k' + 1 := ⟨m - 1, by omega⟩
    rw [show enc (some p) = nI p from rfl, if_neg (nI_ne_m1 (by omega))]
    refine it3m _ (fun m' w3 w4 w5 ξ => ∃ (j : Nat) (l : List (Nat × Nat × Nat)), j + m' = 3 ∧ w3 = nI st ∧ w4 = nI p ∧ w5 = nI j ∧ l ++ (if j = 3 then remL T (offOf T) n k (tPar T p) (st + 1) 0 else remL T (offOf T) n (k + 1) (some p) st j) = lays T (offOf T) s n ∧ l.length ≤ 3 * st + j ∧ ML ξ T ∧ frS μ ξ ∧ LyS ξ l) ?_ big 3 _ _ _ ξ (by decide) ⟨0, l, rfl, rfl, rfl, rfl, hl, by omega, hML, hf, hLS⟩
    rintro k23 m' w3 w4 w5 ξ ⟨j, l, hj, rfl, rfl, rfl, hl, hll, hML, hf, hLS⟩ ih2
    unfold X4_layLayers_l23
    rw [show (3 : Int32) = nI 3 from rfl, ifLe (by decide) (by omega)]
    by_cases q : 3 ≤ j
    · have ej : j = 3 := by omega
      subst ej
      rw [if_pos rfl] at hl
      rw [if_pos q, show (4 : Int32) = nI 4 from rfl, nI_add, ck_nI (by omega) (by decide), bd_eq, nI_clamp (by omega), hML.2.1.2.1 p hp, nI_1]
      exact ih k _ _ _ (by omega) ⟨k, st + 1, tPar T p, l, rfl, by omega, rfl, rfl, fun p' hp' => ⟨par_t hV.1 hp hp', by have := par_lt hV.1 hp hp'; omega⟩, hl, by omega, hML, hf, hLS⟩
    · have hlt := layM_lt hV hML.2.2.2.2.1 p hn j
      rw [if_neg (by omega), remL_s (by omega)] at hl
      rw [if_neg q, layer_eq hML hp hn (by omega), bi_eq, hLS.1, ck_nI (by omega) (by decide), nI_clamp (by omega), bd_eq]
      have c1 : (setI ξ 50 l.length (nI (layM T (offOf T) p n j))).1 45 7 = nI l.length := by rw [setI_n _ _ _ (by decide)]; exact hLS.1
      rw [c1, ck_nI (by omega) (by decide), nI_clamp (by omega), bd_eq]
      have c2 : (setI (setI ξ 50 l.length (nI (layM T (offOf T) p n j))) 51 l.length (nI j)).1 45 7 = nI l.length := by rw [setI_n _ _ _ (by decide)]; exact c1
      rw [c2, ck_nI (by omega) (by decide), nI_clamp (by omega), bd_eq]
      have c3 : (setI (setI (setI ξ 50 l.length (nI (layM T (offOf T) p n j))) 51 l.length (nI j)) 52 l.length (nI st)).1 45 7 = nI l.length := by rw [setI_n _ _ _ (by decide)]; exact c2
      rw [c3, show (0 : Int32) = nI 0 from rfl, ifEq (lt31 hlt) (by decide), show (if layM T (offOf T) p n j = 0 then nI 0 else (1 : Int32)) = nI (if layM T (offOf T) p n j = 0 then 0 else 1) from ite01, nI_add, bd_eq, nI_1]
      refine ih2 (m' - 1) _ _ _ _ (by omega) ⟨j + 1, l ++ lyr T (offOf T) p n st j, by omega, rfl, rfl, rfl, ?_, ?_, ML_put (ML_put (ML_put (ML_put hML (by omega)) (by omega)) (by omega)) (by omega), frS_put (frS_put (frS_put (frS_put hf (by omega)) (by omega)) (by omega)) (by omega), ?_⟩
      · rw [List.append_assoc, ← hl]
        congr 2
        by_cases q2 : j = 2
        · rw [if_pos q2, if_pos (by omega)]
        · rw [if_neg q2, if_neg (by omega)]
      · rw [List.length_append]
        have : (lyr T (offOf T) p n st j).length ≤ 1 := by
          unfold lyr
          split
          · exact Nat.zero_le _
          · exact Nat.le_refl _
        omega
      · exact LyS_step hLS
theorem hd_get (l : List (Nat × Nat × Nat)) : hd1 l = match l[0]? with
  | none => 0
  | some t => t.1 := by cases l <;> rfl
theorem outcomeM_eq {μ : Mm} {T : TT} (h : MI μ T) {s n : Nat} (hs : s < tS T) (hn : n < 26) : ∃ r, X4_outcome (nI s) (nI n) μ = some r ∧ (∃ ν, r = (nI (outc T (offOf T) s n), ν) ∧ ML ν T ∧ frS μ ν) := by
  obtain ⟨ν, e, l, f, hLS⟩ := layLayers_eq h hs hn
  have hlen := len_lays (X := offOf T) h.1 (s := s) (n := n)
  unfold X4_outcome
  rw [e, bi_eq, hLS.1, show (0 : Int32) = nI 0 from rfl, ifEq (by omega) (by decide)]
  have ho : outc T (offOf T) s n = match (lays T (offOf T) s n)[0]? with
    | none => 0
    | some t => t.1 := hd_get _
  cases hc : lays T (offOf T) s n with
  | nil =>
    rw [hc] at ho
    rw [if_pos (show ([] : List (Nat × Nat × Nat)).length = 0 from rfl), ho]
    exact ⟨_, rfl, ν, rfl, l, f⟩
  | cons t ts =>
    rw [hc] at ho
    rw [if_neg (show ¬ (t :: ts).length = 0 from fun z => by cases z), ck_nI (by decide) (by decide), nI_clamp (by decide), (hLS.2 0 t (by rw [hc]; rfl)).1, ho]
    exact ⟨_, rfl, ν, rfl, l, f⟩
theorem outcomeOf_eq {μ : Mm} {T : TT} (h : MI μ T) {u : Nat} (hu : u < tU T) : ∃ r, X4_outcomeOf (nI u) μ = some r ∧ (∃ ν, r = (nI (outU T (offOf T) u), ν) ∧ ML ν T ∧ frS μ ν) := by
  obtain ⟨v1, v2⟩ := h.1.2.2.2.2 u hu
  obtain ⟨r, e, ν, rfl, l, f⟩ := outcomeM_eq h v1 v2
  unfold X4_outcomeOf
  rw [useScope_eq h.2.1 h.1 hu, bi_eq, useName_eq h.2.1 h.1 hu, bi_eq, e, bn_eq]
  exact ⟨_, rfl, ν, rfl, l, f⟩
