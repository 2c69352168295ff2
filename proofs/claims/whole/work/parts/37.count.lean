/-! ===== depth, pairs, refusals ===== -/
def dO (T : TT) : Nat → Option Nat → Nat
  | 0, _ => 0
  | _ + 1, none => 0
  | k + 1, some p => 1 + dO T k (tPar T p)
def dep (T : TT) (s : Nat) : Nat := dO T 16 (tPar T s)
theorem dO_le (T : TT) : ∀ (k : Nat) (o : Option Nat), dO T k o ≤ k
  | 0, _ => Nat.le_refl _
  | k + 1, none => Nat.zero_le _
  | k + 1, some p => by
    have := dO_le T k (tPar T p)
    show 1 + dO T k (tPar T p) ≤ k + 1
    omega
def deep (T : TT) : Nat := foldN (fun s g => if g < dep T s then dep T s else g) (tS T) 0
def pairs (T : TT) (X : OX) : Nat := fb_sm (fun c => popc (X (c / 26) (c % 26))) (tS T * 26)
def offS (T : TT) (X : OX) (d : Nat) : Nat := fb_sm (fun s => ((orI (X s) 26).testBit d).toNat) (tS T)
theorem dOf_none {T : TT} {s n : Nat} : dOf T s n = none ↔ ∀ d, d < tD T → ¬ (dSc T d = s ∧ dNm T d = n) := dIn_none
section RH
variable {μ : Mm} {a : Nat} {T : TT} {X : OX}
theorem greatestDepth_eq (hV : VT T) (hC : CF μ a T) : X0_greatestDepth a μ = some (nI (deep T)) := by
  have hS := hV.1.2.1
  refine fold_loop (F := X0_greatestDepth_l4 a μ) (bot := fun _ _ => none) (N := tS T) (fun s g => if g < dep T s then dep T s else g) nI (fun _ g => g ≤ 16) (by omega) 0 (by decide) (fun k acc hacc => ?_) (fun k acc i hi hacc => ?_)
  · unfold X0_greatestDepth_l4
    rw [hC.1.1, ifLe (by omega) (by omega), if_pos (Nat.le_refl _)]
  · have hd : dep T i ≤ 16 := dO_le T 16 _
    refine ⟨by split <;> omega, ?_⟩
    unfold X0_greatestDepth_l4
    rw [hC.1.1, ifLe (by omega) (by omega), if_neg (by omega), ck_nI (by omega) (by decide), bd_eq, nI_clamp (by omega), hC.2.1 i hi]
    refine iq4 _ (fun m u1 u2 u3 u4 => ∃ o, m ≤ 16 ∧ u1 = nI acc ∧ u2 = nI i ∧ u3 = enc o ∧ u4 = nI (16 - m) ∧ (∀ p, o = some p → p < tS T) ∧ dep T i = 16 - m + dO T m o) ?_ big 16 _ _ _ _ (by decide) ⟨tPar T i, Nat.le_refl _, rfl, rfl, rfl, rfl, fun p hp => par_t hV.1 hi hp, by rw [Nat.sub_self, Nat.zero_add]; rfl⟩
    rintro kk m u1 u2 u3 u4 ⟨o, hm, rfl, rfl, rfl, rfl, ho, he⟩ ih
    have fin : dep T i = 16 - m → X0_greatestDepth_j47 a μ k (nI acc) (nI i) (nI (16 - m)) = k (nI (if acc < dep T i then dep T i else acc)) (nI (i + 1)) := by
      intro e
      unfold X0_greatestDepth_j47
      rw [bd_eq, ← e, ifLt (by omega) (by omega), ite_nI, nI_1]
    unfold X0_greatestDepth_l22
    rw [lit_n 16, ifLe (by decide) (by omega)]
    cases m with
    | zero =>
      rw [if_pos (by omega)]
      exact fin (by rw [he]; rfl)
    | succ m =>
      rw [if_neg (by omega)]
      cases o with
      | none =>
        rw [if_pos (show enc none = -1 from rfl)]
        exact fin (by rw [he]; rfl)
      | some p =>
        have hp := ho p rfl
        rw [show enc (some p) = nI p from rfl, if_neg (nI_ne_m1 (by omega)), ck_nI (by omega) (by decide), bd_eq, nI_clamp (by omega), hC.2.1 p hp, nI_1]
        refine ih m _ _ _ _ (by omega) ⟨tPar T p, by omega, rfl, rfl, rfl, by rw [show 16 - (m + 1) + 1 = 16 - m by omega], fun p' hp' => par_t hV.1 hp hp', ?_⟩
        have he' : dep T i = 16 - (m + 1) + (1 + dO T m (tPar T p)) := he
        omega
theorem pairsOffered_eq (h : FS μ a T X) : X0_pairsOffered a μ = some (nI (pairs T X)) := by
  have hS := h.1.1.2.1
  refine cnt_loop _ (by omega) (fun k acc => ?_) (fun k acc i hi => ?_)
  · unfold X0_pairsOffered_l4
    rw [h.2.1.1.1, lit_n 26, pk_mul, ifLe (by omega) (by omega), if_pos (Nat.le_refl _)]
  · unfold X0_pairsOffered_l4
    have hc := (h.2.2.1 (i / 26) (i % 26) (by omega) (by omega)).1
    rw [show i / 26 * 26 + i % 26 = i by omega] at hc
    rw [h.2.1.1.1, lit_n 26, pk_mul, ifLe (by omega) (by omega), if_neg (by omega), ck_nI (by omega) (by decide), nI_clamp (by omega), hc, bitCount_eq (h.2.2.2 _ _ (by omega) (by omega)), bi_eq, bd_eq, nI_add, nI_1]
theorem orX_lt (hX : XB X) {s : Nat} (hs : s < 16) : ∀ n, n ≤ 26 → orI (X s) n < 2 ^ 30 := fun n hn => orI_lt (fun i hi => hX s i hs (by omega))
theorem scopesThatOffer_eq (h : FS μ a T X) {d : Nat} (hd : d < 30) : X0_scopesThatOffer a (nI d) μ = some (nI (offS T X d)) := by
  have hS := h.1.1.2.1
  refine cnt_loop _ (by omega) (fun k acc => ?_) (fun k acc i hi => ?_)
  · unfold X0_scopesThatOffer_l4
    rw [h.2.1.1.1, ifLe (by omega) (by omega), if_pos (Nat.le_refl _)]
  · unfold X0_scopesThatOffer_l4
    have hi16 := h.s16 hi
    rw [h.2.1.1.1, ifLe (by omega) (by omega), if_neg (by omega)]
    refine iq4 _ (fun m u2 u3 u4 u5 => ∃ n, n + m = 26 ∧ u2 = nI acc ∧ u3 = nI i ∧ u4 = nI (orI (X i) n) ∧ u5 = nI n) ?_ big 26 _ _ _ _ (by decide) ⟨0, rfl, rfl, rfl, rfl, rfl⟩
    rintro kk m u2 u3 u4 u5 ⟨n, hm, rfl, rfl, rfl, rfl⟩ ih
    unfold X0_scopesThatOffer_l18
    rw [lit_n 26, ifLe (by decide) (by omega)]
    by_cases q : 26 ≤ n
    · have : n = 26 := by omega
      subst this
      rw [if_pos q, bd_eq, shr1 (lt31 (orX_lt h.2.2.2 hi16 26 (by omega))) (by omega), nI_add, nI_1]
    · rw [if_neg q, pk_mul, nI_add, ck_nI (by omega) (by decide), bd_eq, nI_clamp (by omega), (h.2.2.1 i n hi16 (by omega)).1, or_nI, nI_1]
      exact ih (m - 1) _ _ _ _ (by omega) ⟨n + 1, by omega, rfl, rfl, rfl, rfl⟩
theorem declares_eq (hV : VT T) (hC : CF μ a T) {s n : Nat} (hs : s < 2 ^ 31) (hn : n < 2 ^ 31) : X0_declares a (nI s) (nI n) μ = some (nI (if dOf T s n = none then 0 else 1)) := by
  have hD := hV.2.1.1
  refine iq1 _ (fun m u3 => ∃ k, k + m = tD T ∧ u3 = nI k ∧ ∀ d, d < k → ¬ (dSc T d = s ∧ dNm T d = n)) ?_ big (tD T) 0 (by unfold big; omega) ⟨0, by omega, rfl, fun d h => by omega⟩
  rintro kk m u3 ⟨k, hk, rfl, hb⟩ ih
  unfold X0_declares_l2
  rw [hC.1.2.1, ifLe (by omega) (by omega)]
  by_cases q : tD T ≤ k
  · have e : k = tD T := by omega
    rw [if_pos q, if_pos (dOf_none.mpr (fun d hd => hb d (by omega)))]
    rfl
  · have hk' : k < tD T := by omega
    obtain ⟨c1, c2, -⟩ := hC.2.2.1 k hk'
    obtain ⟨v1, v2, -⟩ := hV.2.1.2.1 k hk'
    have := hV.1.2.1
    rw [if_neg q, ck_nI (by omega) (by decide), ck_nI (by omega) (by decide), nI_clamp (by omega), c1, c2, ifEq (by omega) hs, ifEq (by omega) hn, nI_1]
    have next : ¬ (dSc T k = s ∧ dNm T k = n) → kk (nI (k + 1)) = some (nI (if dOf T s n = none then 0 else 1)) := fun hne => ih (m - 1) _ (by omega) ⟨k + 1, by omega, rfl, fun d hd => by
      by_cases e : d = k
      · subst e; exact hne
      · exact hb d (by omega)⟩
    by_cases e1 : dSc T k = s
    · rw [if_pos e1]
      by_cases e2 : dNm T k = n
      · rw [if_pos e2, if_neg (fun h9 : dOf T s n = none => absurd ⟨e1, e2⟩ (dOf_none.mp h9 k hk'))]
        rfl
      · rw [if_neg e2]
        exact next (fun h9 => e2 h9.2)
    · rw [if_neg e1]
      exact next (fun h9 => e1 h9.1)
/-- an int that is a number below n -/
def inN (x : Int32) (n : Nat) : Bool := inb x n
theorem inb_nI {j n : Nat} (hj : j < 2 ^ 31) : inb (nI j) n = decide (j < n) := by
  unfold inb
  rw [nI_toInt hj]
  by_cases h : j < n
  · rw [decide_eq_true h, decide_eq_true (by omega), decide_eq_true (by omega)]; rfl
  · rw [decide_eq_false h, decide_eq_false (show ¬ ((j : Int) < (n : Int)) by omega), Bool.and_false]
theorem inb_of {x : Int32} {n : Nat} (h : inb x n = true) (hn : n < 2 ^ 31) : ∃ j, j < n ∧ x = nI j := by
  unfold inb at h
  rw [Bool.and_eq_true, decide_eq_true_eq, decide_eq_true_eq] at h
  exact vp_in_of (vp_in_iff.mpr h) hn
theorem inb_neg {x : Int32} {n : Nat} (h : x < 0) : inb x n = false := by
  unfold inb
  rw [Int32.lt_iff_toInt_lt] at h
  have h0 : (0 : Int32).toInt = 0 := by decide
  rw [decide_eq_false (by omega), Bool.false_and]
theorem inb_ge {x : Int32} {n : Nat} (hn : n < 2 ^ 31) (h : nI n ≤ x) : inb x n = false := by
  unfold inb
  rw [Int32.le_iff_toInt_le, nI_toInt hn] at h
  rw [decide_eq_false (show ¬ x.toInt < n by omega), Bool.and_false]
theorem inb_in {x : Int32} {n : Nat} (hn : n < 2 ^ 31) (h0 : ¬ x < 0) (h : ¬ nI n ≤ x) : inb x n = true := by
  unfold inb
  rw [Int32.le_iff_toInt_le, nI_toInt hn] at h
  rw [Int32.lt_iff_toInt_lt] at h0
  have h1 : (0 : Int32).toInt = 0 := by decide
  rw [decide_eq_true (by omega), decide_eq_true (by omega)]
  rfl
theorem hasScope_eq (hV : VT T) (hC : CF μ a T) (x : Int32) : X0_hasScope a x μ = some (nI (if inb x (tS T) = true then 1 else 0)) := by
  have hS := hV.1.2.1
  unfold X0_hasScope X0_hasScope_j16
  rw [hC.1.1]
  by_cases h : x < 0
  · rw [if_pos h, if_neg (by rw [inb_neg h]; decide)]
    rfl
  · rw [if_neg h]
    by_cases h2 : nI (tS T) ≤ x
    · rw [if_pos h2, if_neg (by rw [inb_ge (by omega) h2]; decide)]; rfl
    · rw [if_neg h2, if_pos (inb_in (by omega) h h2)]; rfl
theorem isName_eq (x : Int32) : X3_isName x = some (nI (if inb x 26 = true then 1 else 0)) := by
  unfold X3_isName
  by_cases h : x < 0
  · rw [if_pos h, if_neg (by rw [inb_neg h]; decide)]
    rfl
  · rw [if_neg h]
    by_cases h2 : (26 : Int32) ≤ x
    · rw [if_pos h2, if_neg (by rw [inb_ge (n := 26) (by decide) h2]; decide)]; rfl
    · rw [if_neg h2, if_pos (inb_in (n := 26) (by decide) h h2)]; rfl
theorem followsRenaming_eq (h : FS μ a T X) {u d : Nat} (hu : u < tU T) (hd : d < tD T) : X0_followsRenaming a (nI u) (nI d) μ = some (nI (if uNm T u = dNm T d ∧ outU T X u = 2 ^ d then 1 else 0)) := by
  have hu30 : u < 30 := Nat.lt_of_lt_of_le hu h.1.2.2.2.1
  have hd30 : d < 30 := Nat.lt_of_lt_of_le hd h.1.2.1.1
  have h2 := (h.1.2.2.2.2 u hu).2
  have h3 := (h.1.2.1.2.1 d hd).2.1
  unfold X0_followsRenaming X0_followsRenaming_j30
  rw [ck_nI hu30 (by decide), ck_nI hd30 (by decide), nI_clamp (by omega), nI_clamp (by omega), (h.2.1.2.2.2.2 u hu).2, (h.2.1.2.2.1 d hd).2.1, ifEq (by omega) (by omega), outcome_eq h hu, bi_eq, one_pow hd30, ifEq (lt31 (outU_lt h.1 h.2.2.2 hu)) (lt31 (pow_lt hd30))]
  by_cases q : uNm T u = dNm T d
  · rw [if_pos q]
    by_cases q2 : outU T X u = 2 ^ d
    · rw [if_pos q2, if_pos ⟨q, q2⟩]; rfl
    · rw [if_neg q2, if_neg (fun z => q2 z.2)]; rfl
  · rw [if_neg q, if_neg (fun z => q z.1)]; rfl
end RH
