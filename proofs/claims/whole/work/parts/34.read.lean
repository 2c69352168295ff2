/-! ===== places of layers, how many, one of them ===== -/
def lyr (T : TT) (X : OX) (s n st j : Nat) : List (Nat × Nat × Nat) := if layM T X s n j = 0 then [] else [(layM T X s n j, j, st)]
theorem lay3_lyr {T : TT} {X : OX} {s n st : Nat} : lay3 T X s n st = lyr T X s n st 0 ++ (lyr T X s n st 1 ++ lyr T X s n st 2) := rfl
def remL (T : TT) (X : OX) (n k : Nat) (o : Option Nat) (st j : Nat) : List (Nat × Nat × Nat) := match k, o with
  | k + 1, some p => (if j = 0 then lyr T X p n st 0 else []) ++ ((if j ≤ 1 then lyr T X p n st 1 else []) ++ (lyr T X p n st 2 ++ (match tPar T p with
    | none => []
    | some p' => chn T X n k p' (st + 1))))
  | _, _ => []
theorem remL_0 {T : TT} {X : OX} {n k st : Nat} {o : Option Nat} : remL T X n k o st 0 = (match o with
    | none => []
    | some p => chn T X n k p st) := by
  cases k with
  | zero => cases o <;> rfl
  | succ k =>
    cases o with
    | none => rfl
    | some p =>
      show _ ++ (_ ++ (_ ++ _)) = lay3 T X p n st ++ _
      rw [lay3_lyr, List.append_assoc, List.append_assoc]
      rfl
theorem remL_s {T : TT} {X : OX} {n k st p j : Nat} (hj : j < 3) : remL T X n (k + 1) (some p) st j = lyr T X p n st j ++ (if j = 2 then remL T X n k (tPar T p) (st + 1) 0 else remL T X n (k + 1) (some p) st (j + 1)) := by
  rcases (show j = 0 ∨ j = 1 ∨ j = 2 by omega) with rfl | rfl | rfl
  · rfl
  · rfl
  · rw [if_pos rfl, remL_0]
    rfl
theorem lays_rem {T : TT} {X : OX} {s n : Nat} : lays T X s n = remL T X n 16 (some s) 0 0 := by rw [remL_0]; rfl
def plI (x : Option (Nat × Nat × Nat)) : Int32 := match x with
  | none => -1
  | some y => nI (3 * y.2.2 + y.2.1)
section RE
variable {μ : Mm} {a : Nat} {T : TT} {X : OX}
theorem ofSort_eq (h : FS μ a T X) {s n j : Nat} (hs : s < 16) (hn : n < 26) (hj : j < 3) : X1_ofSort (a + 14) (nI j) (nI (s * 26 + n)) μ = some (nI (layM T X s n j)) := by
  have hc : s * 26 + n < 416 := by omega
  obtain ⟨-, c2, c3, c4⟩ := h.2.2.1 s n hs hn
  unfold X1_ofSort
  rw [lit_n 0, lit_n 1, ifEq (by omega) (by decide), ifEq (by omega) (by decide), ck_nI hc (by decide), ck_nI hc (by decide), ck_nI hc (by decide), nI_clamp (by omega), c2, c3, c4]
  rcases (show j = 0 ∨ j = 1 ∨ j = 2 by omega) with rfl | rfl | rfl <;> rfl
theorem placeOfLayer_eq (h : FS μ a T X) {s n l : Nat} (hs : s < tS T) (hn : n < 26) (hl : l < 2 ^ 31) : X0_placeOfLayer a (nI s) (nI n) (nI l) μ = some (plI (lays T X s n)[l]?) := by
  unfold X0_placeOfLayer
  refine ex_eq (it3 (fun r => r = plI (lays T X s n)[l]?) (fun m v4 v5 v6 => ∃ (k st j b : Nat) (o : Option Nat), v6 = nI (3 * st + j) ∧ j < 3 ∧ st + k = 16 ∧ (k = 0 → j = 0) ∧ m + (3 * st + j) = 48 ∧ v5 = enc o ∧ (∀ p, o = some p → p < tS T) ∧ v4 = nI b ∧ b ≤ l ∧ (lays T X s n)[l]? = (remL T X n k o st j)[l - b]?) ?_ big 48 0 (nI s) 0 (by decide) ⟨16, 0, 0, 0, some s, rfl, by decide, rfl, (fun h => by cases h), rfl, rfl, (fun p q => by cases q; exact hs), rfl, Nat.zero_le _, by rw [lays_rem]; rfl⟩)
  rintro kk m v4 v5 v6 ⟨k, st, j, b, o, rfl, hj, hk, hkj, hm, rfl, ho, rfl, hb, he⟩ ih
  unfold X0_placeOfLayer_l9
  rw [lit_n 48, ifLe (by decide) (by omega)]
  by_cases q : 48 ≤ 3 * st + j
  · have : k = 0 := by omega
    subst this
    rw [if_pos q]
    refine ⟨_, rfl, ?_⟩
    rw [he]
    cases o <;> rfl
  rw [if_neg q]
  cases o with
  | none =>
    rw [if_pos (show enc none = -1 from rfl)]
    refine ⟨_, rfl, ?_⟩
    rw [he]
    cases k <;> rfl
  | some p =>
    have hp := ho p rfl
    have hp16 := h.s16 hp
    rw [show enc (some p) = nI p from rfl, if_neg (nI_ne_m1 (by omega)), rem3 (by omega), cell_nI, show (3 * st + j) % 3 = j by omega, ofSort_eq h hp16 hn hj, bi_eq, lit_n 0, ifEq (Nat.lt_trans (h.lt hn j) (by decide)) (by decide)]
    obtain ⟨k, rfl⟩ : ∃ k', k = k' + 1 := ⟨k - 1, by omega⟩
    rw [remL_s hj] at he
    have next : ∀ b', b' ≤ l → (lays T X s n)[l]? = (if j = 2 then remL T X n k (tPar T p) (st + 1) 0 else remL T X n (k + 1) (some p) st (j + 1))[l - b']? → ∃ r, X0_placeOfLayer_j55 a (nI s) (nI n) (nI l) μ kk (nI b') (nI p) (nI (3 * st + j)) = some r ∧ r = plI (lays T X s n)[l]? := by
      intro b' hb' he'
      unfold X0_placeOfLayer_j55
      rw [rem3 (by omega), show (3 * st + j) % 3 = j by omega, lit_n 2, ifEq (by omega) (by decide), nI_1]
      by_cases q2 : j = 2
      · rw [if_pos q2, ck_nI hp16 (by decide), bd_eq, nI_clamp (by omega), h.2.1.2.1 p hp]
        rw [if_pos q2] at he'
        exact ih (m - 1) _ _ _ (by omega) ⟨k, st + 1, 0, b', tPar T p, by rw [show 3 * st + j + 1 = 3 * (st + 1) + 0 by omega], by decide, by omega, fun _ => rfl, by omega, rfl, fun p' hp' => par_t h.1.1 hp hp', rfl, hb', he'⟩
      · rw [if_neg q2]
        rw [if_neg q2] at he'
        exact ih (m - 1) _ _ _ (by omega) ⟨k + 1, st, j + 1, b', some p, rfl, by omega, by omega, fun h => by omega, by omega, rfl, ho, rfl, hb', he'⟩
    by_cases q0 : layM T X p n j = 0
    · rw [if_pos q0]
      refine next b hb ?_
      rw [he]
      unfold lyr
      rw [if_pos q0]
      rfl
    · rw [if_neg q0, ifEq (by omega) hl]
      have hly : lyr T X p n st j = [(layM T X p n j, j, st)] := by unfold lyr; rw [if_neg q0]
      rw [hly] at he
      by_cases q1 : b = l
      · subst q1
        rw [if_pos rfl]
        refine ⟨_, rfl, ?_⟩
        rw [he, Nat.sub_self]
        rfl
      · rw [if_neg q1, nI_1]
        refine next (b + 1) (by omega) ?_
        rw [he, show l - b = (l - (b + 1)) + 1 by omega]
        rfl
theorem layersOf_eq (h : FS μ a T X) {s n : Nat} (hs : s < tS T) (hn : n < 26) : X0_layersOf a (nI s) (nI n) μ = some (nI (lays T X s n).length) := by
  unfold X0_layersOf
  refine ex_eq (it3 (fun r => r = nI (lays T X s n).length) (fun m v3 v4 v5 => ∃ (k st j b : Nat) (o : Option Nat), v5 = nI (3 * st + j) ∧ j < 3 ∧ st + k = 16 ∧ (k = 0 → j = 0) ∧ m + (3 * st + j) = 48 ∧ v4 = enc o ∧ (∀ p, o = some p → p < tS T) ∧ v3 = nI b ∧ (lays T X s n).length = b + (remL T X n k o st j).length) ?_ big 48 0 (nI s) 0 (by decide) ⟨16, 0, 0, 0, some s, rfl, by decide, rfl, (fun h => by cases h), rfl, rfl, (fun p q => by cases q; exact hs), rfl, by rw [lays_rem, Nat.zero_add]⟩)
  rintro kk m v4 v5 v6 ⟨k, st, j, b, o, rfl, hj, hk, hkj, hm, rfl, ho, rfl, he⟩ ih
  unfold X0_layersOf_l8
  rw [lit_n 48, ifLe (by decide) (by omega)]
  by_cases q : 48 ≤ 3 * st + j
  · have : k = 0 := by omega
    subst this
    rw [if_pos q]
    refine ⟨_, rfl, ?_⟩
    rw [he]
    cases o <;> rfl
  rw [if_neg q]
  cases o with
  | none =>
    rw [if_pos (show enc none = -1 from rfl)]
    refine ⟨_, rfl, ?_⟩
    rw [he]
    cases k <;> rfl
  | some p =>
    have hp := ho p rfl
    have hp16 := h.s16 hp
    rw [show enc (some p) = nI p from rfl, if_neg (nI_ne_m1 (by omega)), rem3 (by omega), cell_nI, show (3 * st + j) % 3 = j by omega, ofSort_eq h hp16 hn hj, bi_eq, lit_n 0, ifEq (Nat.lt_trans (h.lt hn j) (by decide)) (by decide)]
    obtain ⟨k, rfl⟩ : ∃ k', k = k' + 1 := ⟨k - 1, by omega⟩
    rw [remL_s hj, List.length_append] at he
    rw [show (if layM T X p n j = 0 then nI 0 else (1 : Int32)) = nI (lyr T X p n st j).length by
      unfold lyr
      by_cases q0 : layM T X p n j = 0
      · rw [if_pos q0, if_pos q0]; rfl
      · rw [if_neg q0, if_neg q0]; rfl, nI_add, bd_eq, lit_n 2, ifEq (by omega) (by decide), nI_1]
    by_cases q2 : j = 2
    · rw [if_pos q2, ck_nI hp16 (by decide), bd_eq, nI_clamp (by omega), h.2.1.2.1 p hp]
      rw [if_pos q2] at he
      exact ih (m - 1) _ _ _ (by omega) ⟨k, st + 1, 0, _, tPar T p, by rw [show 3 * st + j + 1 = 3 * (st + 1) + 0 by omega], by decide, by omega, fun _ => rfl, by omega, rfl, fun p' hp' => par_t h.1.1 hp hp', rfl, by omega⟩
    · rw [if_neg q2]
      rw [if_neg q2] at he
      exact ih (m - 1) _ _ _ (by omega) ⟨k + 1, st, j + 1, _, some p, rfl, by omega, by omega, fun h => by omega, by omega, rfl, ho, rfl, by omega⟩
end RE
