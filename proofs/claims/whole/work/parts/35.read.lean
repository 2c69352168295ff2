/-! ===== one layer, its declarations, and the counts ===== -/
def anc (T : TT) : Nat → Nat → Option Nat
  | 0, s => some s
  | k + 1, s => match tPar T s with
    | none => none
    | some p => anc T k p
theorem mem_lyr {T : TT} {X : OX} {s n st j : Nat} {x : Nat × Nat × Nat} (h : x ∈ lyr T X s n st j) : x = (layM T X s n j, j, st) ∧ layM T X s n j ≠ 0 := by
  unfold lyr at h
  by_cases q : layM T X s n j = 0
  · rw [if_pos q] at h; cases h
  · rw [if_neg q] at h
    exact ⟨List.mem_singleton.mp h, q⟩
theorem mem_chn {T : TT} {X : OX} {n : Nat} {x : Nat × Nat × Nat} : ∀ {k s st : Nat}, x ∈ chn T X n k s st → ∃ t p, x.2.2 = st + t ∧ anc T t s = some p ∧ x.1 = layM T X p n x.2.1 ∧ x.2.1 < 3 ∧ x.1 ≠ 0 ∧ t < k
  | 0, _, _, h => by cases h
  | k + 1, s, st, h => by
    have h' : x ∈ lay3 T X s n st ++ (match tPar T s with
      | none => []
      | some p => chn T X n k p (st + 1)) := h
    rcases List.mem_append.mp h' with h1 | h1
    · rw [lay3_lyr] at h1
      have : ∃ j, j < 3 ∧ x ∈ lyr T X s n st j := by
        rcases List.mem_append.mp h1 with h2 | h2
        · exact ⟨0, by decide, h2⟩
        · rcases List.mem_append.mp h2 with h3 | h3
          · exact ⟨1, by decide, h3⟩
          · exact ⟨2, by decide, h3⟩
      obtain ⟨j, hj, hx⟩ := this
      obtain ⟨rfl, hne⟩ := mem_lyr hx
      exact ⟨0, s, rfl, rfl, rfl, hj, hne, Nat.succ_pos _⟩
    · cases hp : tPar T s with
      | none => rw [hp] at h1; cases h1
      | some p =>
        rw [hp] at h1
        obtain ⟨t, q, e1, e2, e3, e4, e5, e6⟩ := mem_chn h1
        refine ⟨t + 1, q, by omega, ?_, e3, e4, e5, by omega⟩
        show (match tPar T s with
          | none => none
          | some p => anc T t p) = some q
        rw [hp]
        exact e2
theorem anc_lt {T : TT} (h : VS T) : ∀ {t s p : Nat}, s < tS T → anc T t s = some p → p < tS T
  | 0, s, p, hs, h2 => by cases h2; exact hs
  | t + 1, s, p, hs, h2 => by
    have h3 : (match tPar T s with
          | none => none
          | some p => anc T t p) = some p := h2
    cases hp : tPar T s with
    | none => rw [hp] at h3; cases h3
    | some q => rw [hp] at h3; exact anc_lt h (par_t h hs hp) h3
theorem popc_pow : ∀ d, d < 30 → popc (2 ^ d) = 1 ∧ popc (2 ^ d - 1) = d := by decide +kernel
theorem popc_zero {m : Nat} (hm : m < 2 ^ 30) : popc m = 0 ↔ m = 0 := by
  constructor
  · intro h
    apply Nat.eq_of_testBit_eq
    intro i
    rw [Nat.zero_testBit]
    by_cases q : i < 30
    · exact fb_ct_zero.mp h i q
    · exact Nat.testBit_lt_two_pow (Nat.lt_of_lt_of_le hm (Nat.pow_le_pow_right (by decide) (by omega)))
  · rintro rfl
    exact fb_ct_zero.mpr (fun k _ => Nat.zero_testBit k)
theorem popc_one {m : Nat} (hm : m < 2 ^ 30) (h : popc m = 1) : ∃ d, d < 30 ∧ m = 2 ^ d := by
  obtain ⟨d, hd, hb⟩ := fb_ct_pos.mp (show 0 < fb_ct (fun d => m.testBit d) 30 by show 0 < popc m; omega)
  refine ⟨d, hd, Nat.eq_of_testBit_eq fun i => ?_⟩
  have hu : fb_ct (fun k => if k = d then false else m.testBit k) 30 + 1 = fb_ct (fun d => m.testBit d) 30 + 0 := by
    have h9 := fb_ct_upd (fun d => m.testBit d) false hd
    rw [if_pos hb, if_neg (by decide)] at h9
    exact h9
  have h1 : fb_ct (fun k => if k = d then false else m.testBit k) 30 = 0 := by
    have h8 : fb_ct (fun d => m.testBit d) 30 = 1 := h
    omega
  rw [Nat.testBit_two_pow]
  by_cases q : i < 30
  · have h2 := fb_ct_zero.mp h1 i q
    by_cases e : i = d
    · subst e
      rw [hb, decide_eq_true rfl]
    · rw [if_neg e] at h2
      rw [h2, decide_eq_false (fun z => e z.symm)]
  · rw [Nat.testBit_lt_two_pow (Nat.lt_of_lt_of_le hm (Nat.pow_le_pow_right (by decide) (by omega))), decide_eq_false (by omega)]
def only (m : Nat) : Option Nat := if popc m = 1 then some (popc (m - 1)) else none
theorem onlyOne_eq {m : Nat} (hm : m < 2 ^ 30) : X3_onlyOne (nI m) = some (enc (only m)) := by
  unfold X3_onlyOne only
  have hp := popc_le m
  rw [bitCount_eq hm, bi_eq, lit_n 1, ifEq (by omega) (by decide)]
  by_cases h : popc m = 1
  · rw [if_pos h, if_pos h, pk_sub (show 1 ≤ m by
      rcases Nat.eq_zero_or_pos m with q | q
      · rw [(popc_zero hm).mpr q] at h; omega
      · exact q), bitCount_eq (by omega)]
    rfl
  · rw [if_neg h, if_neg h]
    rfl
def nthB (m i : Nat) : Nat → Option Nat
  | 0 => none
  | k + 1 => if m.testBit k = true ∧ fb_ct (fun d => m.testBit d) k = i then some k else nthB m i k
theorem nthB_some {m i d : Nat} : ∀ {k : Nat}, nthB m i k = some d → d < k ∧ m.testBit d = true ∧ fb_ct (fun d => m.testBit d) d = i
  | 0, h => by cases h
  | k + 1, h => by
    unfold nthB at h
    by_cases q : m.testBit k = true ∧ fb_ct (fun d => m.testBit d) k = i
    · rw [if_pos q] at h
      cases h
      exact ⟨Nat.lt_succ_self _, q⟩
    · rw [if_neg q] at h
      have := nthB_some h
      exact ⟨by omega, this.2⟩
theorem nthB_none {m i : Nat} : ∀ {k : Nat}, nthB m i k = none ↔ ∀ d, d < k → ¬ (m.testBit d = true ∧ fb_ct (fun d => m.testBit d) d = i)
  | 0 => ⟨fun _ d h => by omega, fun _ => rfl⟩
  | k + 1 => by
    unfold nthB
    by_cases q : m.testBit k = true ∧ fb_ct (fun d => m.testBit d) k = i
    · rw [if_pos q]
      exact ⟨fun h => (by cases h), fun h => absurd q (h k (Nat.lt_succ_self _))⟩
    · rw [if_neg q, nthB_none]
      exact ⟨fun h d hd => by
        by_cases e : d = k
        · subst e; exact q
        · exact h d (by omega), fun h d hd => h d (by omega)⟩
theorem nthB_is {m i d k : Nat} (hd : d < k) (h1 : m.testBit d = true) (h2 : fb_ct (fun d => m.testBit d) d = i) : nthB m i k = some d := by
  cases h : nthB m i k with
  | none => exact absurd ⟨h1, h2⟩ (nthB_none.mp h d hd)
  | some e =>
    obtain ⟨-, g1, g2⟩ := nthB_some h
    rw [fb_ct_kth_one g1 h1 (by rw [g2, h2])]
/-- the mask's i-th declaration, i any int -/
def nthI (m : Nat) (x : Int32) : Option Nat := if x < 0 then none else nthB m x.toNatClampNeg 30
theorem nthOf_eq {m : Nat} (hm : m < 2 ^ 30) (x : Int32) : X3_nthOf (nI m) x = some (enc (nthI m x)) := by
  unfold X3_nthOf
  refine ex_eq (it2 (fun r => r = enc (nthI m x)) (fun t v2 v3 => ∃ k, k + t = 30 ∧ v3 = nI k ∧ v2 = nI (fb_ct (fun d => m.testBit d) k) ∧ ∀ d, d < k → m.testBit d = true → ¬ nI (fb_ct (fun d => m.testBit d) d) = x) ?_ big 30 0 0 (by decide) ⟨0, rfl, rfl, rfl, fun d h => by omega⟩)
  rintro kk t v2 v3 ⟨k, hk, rfl, rfl, hb⟩ ih
  have hle : fb_ct (fun d => m.testBit d) k ≤ k := fb_ct_le _ k
  unfold X3_nthOf_l4
  rw [lit_n 30, ifLe (by decide) (by omega)]
  by_cases q : 30 ≤ k
  · have : k = 30 := by omega
    subst this
    rw [if_pos q]
    refine ⟨_, rfl, ?_⟩
    have hn : nthI m x = none := by
      unfold nthI
      by_cases h0 : x < 0
      · rw [if_pos h0]
      · rw [if_neg h0]
        obtain ⟨j, hj, rfl⟩ := nI_of h0
        rw [nI_clamp hj]
        refine nthB_none.mpr (fun d hd hh => hb d hd hh.1 (by rw [hh.2]))
    rw [hn]
    rfl
  · rw [if_neg q, shr1 (by omega) (by omega), lit_n 0, ifEq (by cases m.testBit k <;> decide) (by decide), nI_1, nI_1]
    cases hbk : m.testBit k with
    | false =>
      rw [if_pos (show false.toNat = 0 from rfl)]
      refine ih (t - 1) _ _ (by omega) ⟨k + 1, by omega, rfl, by rw [ct_bool, hbk]; rfl, fun d hd h1 => ?_⟩
      by_cases e : d = k
      · subst e; rw [hbk] at h1; cases h1
      · exact hb d (by omega) h1
    | true =>
      rw [if_neg (show ¬ true.toNat = 0 by decide)]
      by_cases e1 : nI (fb_ct (fun d => m.testBit d) k) = x
      · rw [if_pos e1]
        refine ⟨_, rfl, ?_⟩
        subst e1
        unfold nthI
        rw [if_neg (nI_pos (by omega)), nI_clamp (by omega), nthB_is (by omega) hbk rfl]
        rfl
      · rw [if_neg e1]
        refine ih (t - 1) _ _ (by omega) ⟨k + 1, by omega, rfl, by rw [ct_bool, hbk]; rfl, fun d hd h1 => ?_⟩
        by_cases e : d = k
        · subst e; exact e1
        · exact hb d (by omega) h1
section RF
variable {μ : Mm} {a : Nat} {T : TT} {X : OX}
theorem layerAt_eq (h : FS μ a T X) {s n st j p : Nat} (hs : s < tS T) (hn : n < 26) (hj : j < 3) (hst : st < 16) (hp : anc T st s = some p) : X0_layerAt a (nI s) (nI n) (nI (3 * st + j)) μ = some (nI (layM T X p n j)) := by
  unfold X0_layerAt
  refine ex_eq (it2 (fun r => r = nI (layM T X p n j)) (fun m v4 v5 => ∃ q, m ≤ st ∧ v5 = nI (st - m) ∧ v4 = nI q ∧ q < tS T ∧ anc T m q = some p) ?_ big st (nI s) 0 (by unfold big; omega) ⟨s, Nat.le_refl _, by rw [Nat.sub_self]; rfl, rfl, hs, hp⟩)
  rintro kk m v4 v5 ⟨q, hm, rfl, rfl, hq, ha⟩ ih
  have hq16 := h.s16 hq
  unfold X0_layerAt_l6
  rw [div3 (by omega), show (3 * st + j) / 3 = st by omega, ifLe (by omega) (by omega)]
  cases m with
  | zero =>
    cases ha
    rw [if_pos (by omega)]
    unfold X0_layerAt_j35
    rw [if_neg (nI_ne_m1 (by omega)), rem3 (by omega), cell_nI, show (3 * st + j) % 3 = j by omega, ofSort_eq h hq16 hn hj]
    exact ⟨_, rfl, rfl⟩
  | succ m =>
    rw [if_neg (by omega), if_neg (nI_ne_m1 (by omega)), ck_nI hq16 (by decide), bd_eq, nI_clamp (by omega), h.2.1.2.1 q hq, nI_1]
    have h3 : (match tPar T q with
          | none => none
          | some p => anc T m p) = some p := ha
    cases hp' : tPar T q with
    | none => rw [hp'] at h3; cases h3
    | some q' =>
      rw [hp'] at h3
      exact ih m _ _ (by omega) ⟨q', by omega, by rw [show st - (m + 1) + 1 = st - m by omega], rfl, par_t h.1.1 hq hp', h3⟩
def srt (l : List (Nat × Nat × Nat)) : Nat := match l with
  | [] => 0
  | x :: _ => x.2.1
def stU (T : TT) (X : OX) (u : Nat) : Nat := if 2 ≤ popc (outU T X u) then (if srt (lays T X (uSc T u) (uNm T u)) = 1 then 2 else 3) else 1 - popc (outU T X u)
theorem outc_lt (hV : VT T) (hX : XB X) {s n : Nat} (hn : n < 26) : outc T X s n < 2 ^ 30 := by
  unfold outc
  cases hl : lays T X s n with
  | nil => decide
  | cons x l =>
    obtain ⟨t, p, -, -, e3, -⟩ := mem_chn (show x ∈ chn T X n 16 s 0 by show x ∈ lays T X s n; rw [hl]; exact List.mem_cons_self)
    show x.1 < _
    rw [e3]
    exact layM_lt hV hX p hn _
theorem outU_lt (hV : VT T) (hX : XB X) {u : Nat} (hu : u < tU T) : outU T X u < 2 ^ 30 := outc_lt hV hX (hV.2.2.2.2 u hu).2
theorem stateOfUse_eq (h : FS μ a T X) {u : Nat} (hu : u < tU T) : X0_stateOfUse a (nI u) μ = some (nI (stU T X u)) := by
  have hu30 : u < 30 := Nat.lt_of_lt_of_le hu h.1.2.2.2.1
  obtain ⟨h1, h2⟩ := h.1.2.2.2.2 u hu
  obtain ⟨c1, c2⟩ := h.2.1.2.2.2.2 u hu
  have hlt := outU_lt h.1 h.2.2.2 hu
  have hp := popc_le (outU T X u)
  unfold X0_stateOfUse stU
  rw [outcome_eq h hu, bi_eq, bitCount_eq hlt, bi_eq, lit_n 2, ifLe (by decide) (by omega)]
  by_cases q : 2 ≤ popc (outU T X u)
  · rw [if_pos q, if_pos q, ck_nI hu30 (by decide), ck_nI hu30 (by decide), nI_clamp (by omega), c1, c2, show (0 : Int32) = nI 0 from rfl, placeOfLayer_eq h h1 h2 (by decide), bi_eq]
    cases hl : lays T X (uSc T u) (uNm T u) with
    | nil =>
      exfalso
      have : outU T X u = 0 := by unfold outU outc; rw [hl]; rfl
      rw [this] at q
      exact absurd q (by decide)
    | cons x l =>
      obtain ⟨t, p, e1, -, -, e4, -, e6⟩ := mem_chn (show x ∈ chn T X (uNm T u) 16 (uSc T u) 0 by show x ∈ lays T X _ _; rw [hl]; exact List.mem_cons_self)
      show some (if nI (3 * x.2.2 + x.2.1) - nI (3 * x.2.2 + x.2.1) / 3 * 3 = 1 then nI 2 else 3) = _
      rw [rem3 (by omega), show (3 * x.2.2 + x.2.1) % 3 = x.2.1 by omega, lit_n 1, lit_n 3, ifEq (by omega) (by decide), ite_nI]
      rfl
  · rw [if_neg q, if_neg q, lit_n 1, pk_sub (by omega)]
end RF
