/-! ===== an item is added, by both sides alike ===== -/
def cdA (f : Nat → Nat) (N j : Nat) : Nat := if j < N then f j else 0
theorem cdA_in {f : Nat → Nat} {N j : Nat} (h : j < N) : cdA f N j = f j := if_pos h
def ends (f : Nat → Nat) (N e : Nat) : Prop := e = N ∨ (e < N ∧ f e = 44)
theorem cdA_end {f : Nat → Nat} {N e : Nat} (h : ends f N e) : cdA f N e = 0 ∨ cdA f N e = 44 := by
  unfold cdA
  rcases h with h | ⟨h1, h2⟩
  · rw [if_neg (by omega)]; exact Or.inl rfl
  · rw [if_pos h1]; exact Or.inr h2
section CIt
variable {μ : Mm} {N : Nat} {f : Nat → Nat}
theorem codeAt_eq (hN : N ≤ 50) (hT : TXc μ N f) {j : Nat} (hj : j < 2 ^ 31) : X2_codeAt (nI j) μ = some (nI (cdA f N j)) := by
  unfold X2_codeAt X2_codeAt_j21 cdA
  rw [if_neg (nI_pos hj), hT.1, ifLe (by omega) hj]
  by_cases q : N ≤ j
  · rw [if_pos q, if_neg (by omega)]; rfl
  · rw [if_neg q, if_pos (by omega), ck_nI (by omega) (by decide), nI_clamp hj, hT.2 j (by omega)]
theorem exceptedFrom_eq (hN : N ≤ 50) (hT : TXc μ N f) {b e : Nat} (hbe : b ≤ e) (heN : e ≤ N) (he : ends f N e) (hall : ∀ j, b ≤ j → j < e → ltl (f j) = true) : X2_exceptedFrom (nI b) μ = some (nI (exM f b (e - b))) := by
  unfold X2_exceptedFrom
  refine iq2 _ (fun m v2 v3 => ∃ k, b ≤ k ∧ k + m = e ∧ v2 = nI (exM f b (k - b)) ∧ v3 = nI k) ?_ big (e - b) _ _ (by unfold big; omega) ⟨b, Nat.le_refl _, by omega, by rw [Nat.sub_self]; rfl, rfl⟩
  rintro kk m v2 v3 ⟨k, hk, hm, rfl, rfl⟩ ih
  unfold X2_exceptedFrom_l4
  rw [hT.1, ifLe (by omega) (by omega)]
  by_cases q : N ≤ k
  · rw [if_pos q, show k = e by omega]
  · rw [if_neg q, codeAt_eq hN hT (by omega), bi_eq, cdA_in (by omega), bi_eq]
    by_cases q2 : k = e
    · rcases he with h | ⟨h1, h2⟩
      · omega
      · rw [q2, h2, if_pos (by decide)]
    · have hl := hall k hk (by omega)
      have hh := ltl_of hl
      rw [if_neg (show ¬ (nI (f k) : Int32) < 97 from fun z => by have := (nI_ltI (a := f k) (b := 97) (by omega) (by decide)).mp z; omega), sub97 hl, one_pow (by omega), or_nI, bd_eq, nI_1]
      refine ih (m - 1) _ _ (by omega) ⟨k + 1, by omega, by omega, ?_, rfl⟩
      rw [show k + 1 - b = k - b + 1 by omega]
      show _ = nI (orI (fun j => 2 ^ (f (b + j) - 97)) (k - b) ||| 2 ^ (f (b + (k - b)) - 97))
      rw [show b + (k - b) = k by omega]
      rfl
end CIt
theorem exM_lt {f : Nat → Nat} {b : Nat} : ∀ {m : Nat}, (∀ j, b ≤ j → j < b + m → ltl (f j) = true) → exM f b m < 2 ^ 26
  | 0, _ => by show 0 < 2 ^ 26; decide
  | m + 1, h => by
    show orI (fun j => 2 ^ (f (b + j) - 97)) m ||| 2 ^ (f (b + m) - 97) < 2 ^ 26
    have h1 := exM_lt (f := f) (b := b) (m := m) (fun j h1 h2 => h j h1 (by omega))
    have h2 := ltl_of (h (b + m) (by omega) (by omega))
    exact Nat.or_lt_two_pow h1 (pow_lt (by omega))
theorem rfI_t {T : TT} {x y : Int32} {q : Prop} [Decidable q] (h : q) : rfI T x y q = rfI T x y True := by
  unfold rfI
  rw [if_pos h, if_pos trivial]
theorem b1_n {p : Nat} (h : p ≤ 1) : b1 (nI p) = p := by
  have : p = 0 ∨ p = 1 := by omega
  rcases this with rfl | rfl
  · rfl
  · rfl
/-- the facts behind an import that is added if it may be -/
def impT (T : TT) (x y : Int32) (r : RwI) : TT := if rfI T x y True = 0 then addI T r else T
theorem sImpA_2 {T : TT} {a b v p : Nat} (ha : a < 127) (hb : b < 127) (hv : v < 2 ^ 26) (hp : p ≤ 1) : rfI T (nI a) (nI b) (inb (nI v) (2 ^ 26) = true) = rfI T (nI a) (nI b) True ∧ (sImpA T (nI a) (nI b) (nI v) (nI p)).2 = impT T (nI a) (nI b) (a, b, none, none, v, p) := by
  have hq : inb (nI v) (2 ^ 26) = true := by rw [inb_nI (by omega), decide_eq_true hv]
  refine ⟨rfI_t hq, ?_⟩
  unfold sImpA refu impT
  rw [rfI_t hq, nI_clamp (by omega), nI_clamp (by omega), nI_clamp (by omega), b1_n hp]
  by_cases q : rfI T (nI a) (nI b) True = 0
  · rw [if_pos q, if_pos q]
  · rw [if_neg q, if_neg q]
theorem sImp1_2 {T : TT} {a b s l p : Nat} (ha : a < 127) (hb : b < 127) (hs : s < 26) (hl : l < 26) (hp : p ≤ 1) : rfI T (nI a) (nI b) (inb (nI s) 26 = true ∧ inb (nI l) 26 = true) = rfI T (nI a) (nI b) True ∧ (sImp1 T (nI a) (nI b) (nI s) (nI l) (nI p)).2 = impT T (nI a) (nI b) (a, b, some s, some l, 0, p) := by
  have hq : inb (nI s) 26 = true ∧ inb (nI l) 26 = true := by rw [inb_nI (by omega), inb_nI (by omega), decide_eq_true hs, decide_eq_true hl]; exact ⟨rfl, rfl⟩
  refine ⟨rfI_t hq, ?_⟩
  unfold sImp1 refu impT
  rw [rfI_t hq, nI_clamp (by omega), nI_clamp (by omega), nI_clamp (by omega), nI_clamp (by omega), b1_n hp]
  by_cases q : rfI T (nI a) (nI b) True = 0
  · rw [if_pos q, if_pos q]
  · rw [if_neg q, if_neg q]
/-- the component adds the item at a -/
def PI (N : Nat) (f : Nat → Nat) (T : TT) (a k : Nat) (T' : TT) : Prop := ∀ μ a0, isF a0 → CF μ a0 T → TXc μ N f → ∃ ν, X2_putItem a0 (nI a) μ = some (nI k, ν) ∧ CF ν a0 T' ∧ fr (isRw a0) μ ν
section PIs
variable {N : Nat} {f : Nat → Nat} {T : TT} {a : Nat}
theorem PI_scope (hN : N ≤ 50) (hV : VT T) (hsc : scl (f a) = true) (h1 : f (a + 1) = 94) (hin : a + 1 < N) : PI N f T a (rfS T (nI (f a - 65))) (sAddS T (nI (f a - 65))).2 := by
  intro μ a0 ha hC hT
  have hh := scl_of hsc
  unfold X2_putItem X2_putItem_j86
  rw [codeAt_eq hN hT (by omega), bi_eq, cdA_in (by omega), sub65 hsc, bd_eq, nI_1, codeAt_eq hN hT (by omega), bi_eq, cdA_in hin, h1, show (2 : Int32) = nI 2 from rfl, nI_add, codeAt_eq hN hT (by omega), bi_eq, bd_eq, if_neg (by decide), if_pos (by decide), refusalOfScope_eq hV hC, bi_eq]
  have hle := rfS_le T (nI (f a - 65))
  by_cases q : rfS T (nI (f a - 65)) = 0
  · obtain ⟨q1, q2⟩ := rfS_0 q
    obtain ⟨ν, e, c, fr'⟩ := putScope_eq hC q2 (f a - 65)
    have e1 : (sAddS T (nI (f a - 65))).2 = addS T (f a - 65) := by unfold sAddS refu; rw [if_pos q, nI_clamp (by omega)]
    rw [q, if_pos zero0, if_pos (by decide), e, bn_eq, e1]
    exact ⟨ν, rfl, c, fr'⟩
  · have e1 : (sAddS T (nI (f a - 65))).2 = T := by unfold sAddS refu; rw [if_neg q]
    rw [if_neg (show ¬ (nI (rfS T (nI (f a - 65))) : Int32) = 0 from fun z => q ((nI_eq (b := 0) (by omega) (by decide)).mp z)), e1]
    exact ⟨μ, rfl, hC, fr_refl⟩
theorem PI_use (hN : N ≤ 50) (hV : VT T) (hsc : scl (f a) = true) (h1 : f (a + 1) = 63) (hl : ltl (f (a + 2)) = true) (hin : a + 2 < N) : PI N f T a (rfU T (nI (f a - 65)) (nI (f (a + 2) - 97))) (sUse T (nI (f a - 65)) (nI (f (a + 2) - 97))).2 := by
  intro μ a0 ha hC hT
  have hh := scl_of hsc
  have hh2 := ltl_of hl
  unfold X2_putItem X2_putItem_j86
  rw [codeAt_eq hN hT (by omega), bi_eq, cdA_in (by omega), sub65 hsc, bd_eq, nI_1, codeAt_eq hN hT (by omega), bi_eq, cdA_in (by omega), h1, show (2 : Int32) = nI 2 from rfl, nI_add, codeAt_eq hN hT (by omega), bi_eq, cdA_in hin, sub97 hl, bd_eq, if_neg (by decide), if_neg (by decide), if_pos (by decide), refusalOfUse_eq hV hC, bi_eq]
  have hle := rfU_le T (nI (f a - 65)) (nI (f (a + 2) - 97))
  by_cases q : rfU T (nI (f a - 65)) (nI (f (a + 2) - 97)) = 0
  · obtain ⟨q1, q2, q3⟩ := rfU_0 q
    obtain ⟨ν, e, c, fr'⟩ := putUse_eq hC q3 (f a - 65) (f (a + 2) - 97)
    have e1 : (sUse T (nI (f a - 65)) (nI (f (a + 2) - 97))).2 = addU T (f a - 65, f (a + 2) - 97) := by unfold sUse refu; rw [if_pos q, nI_clamp (by omega), nI_clamp (by omega)]
    rw [q, if_pos zero0, if_neg (by decide), if_pos (by decide), e, bn_eq, e1]
    exact ⟨ν, rfl, c, fr'⟩
  · have e1 : (sUse T (nI (f a - 65)) (nI (f (a + 2) - 97))).2 = T := by unfold sUse refu; rw [if_neg q]
    rw [if_neg (show ¬ (nI (rfU T (nI (f a - 65)) (nI (f (a + 2) - 97))) : Int32) = 0 from fun z => q ((nI_eq (b := 0) (by omega) (by decide)).mp z)), e1]
    exact ⟨μ, rfl, hC, fr_refl⟩
theorem PI_decl (hN : N ≤ 50) (hV : VT T) (hsc : scl (f a) = true) (h1 : f (a + 1) = 46 ∨ f (a + 1) = 45) (hl : ltl (f (a + 2)) = true) (hin : a + 2 < N) : PI N f T a (rfD T (nI (f a - 65)) (nI (f (a + 2) - 97))) (sDecl T (nI (f a - 65)) (nI (f (a + 2) - 97)) (if (nI (f (a + 1)) : Int32) = 46 then 1 else 0)).2 := by
  intro μ a0 ha hC hT
  have hh := scl_of hsc
  have hh2 := ltl_of hl
  unfold X2_putItem X2_putItem_j86
  rw [codeAt_eq hN hT (by omega), bi_eq, cdA_in (by omega), sub65 hsc, bd_eq, nI_1, codeAt_eq hN hT (by omega), bi_eq, cdA_in (by omega), show (2 : Int32) = nI 2 from rfl, nI_add, codeAt_eq hN hT (by omega), bi_eq, cdA_in hin, sub97 hl, bd_eq, if_neg (by rcases h1 with z | z <;> rw [z] <;> decide), if_neg (by rcases h1 with z | z <;> rw [z] <;> decide), if_neg (by rcases h1 with z | z <;> rw [z] <;> decide), refusalOfDeclaration_eq hV hC, bi_eq]
  have hle := rfD_le T (nI (f a - 65)) (nI (f (a + 2) - 97))
  by_cases q : rfD T (nI (f a - 65)) (nI (f (a + 2) - 97)) = 0
  · obtain ⟨q1, q2, q3, q4⟩ := rfD_0 q
    obtain ⟨ν, e, c, fr'⟩ := putDeclaration_eq hC q4 (f a - 65) (f (a + 2) - 97) (b1 (if (nI (f (a + 1)) : Int32) = 46 then 1 else 0))
    have e1 : (sDecl T (nI (f a - 65)) (nI (f (a + 2) - 97)) (if (nI (f (a + 1)) : Int32) = 46 then 1 else 0)).2 = addD T (f a - 65, f (a + 2) - 97, b1 (if (nI (f (a + 1)) : Int32) = 46 then 1 else 0)) := by unfold sDecl refu; rw [if_pos q, nI_clamp (by omega), nI_clamp (by omega)]
    have e2 : (if (nI (f (a + 1)) : Int32) = 46 then (1 : Int32) else 0) = nI (b1 (if (nI (f (a + 1)) : Int32) = 46 then 1 else 0)) := by rcases h1 with z | z <;> rw [z] <;> decide
    rw [← e2] at e
    rw [q, if_pos zero0, if_neg (by rcases h1 with z | z <;> rw [z] <;> decide), if_neg (by rcases h1 with z | z <;> rw [z] <;> decide), e, bn_eq, e1]
    exact ⟨ν, rfl, c, fr'⟩
  · have e1 : (sDecl T (nI (f a - 65)) (nI (f (a + 2) - 97)) (if (nI (f (a + 1)) : Int32) = 46 then 1 else 0)).2 = T := by unfold sDecl refu; rw [if_neg q]
    rw [if_neg (show ¬ (nI (rfD T (nI (f a - 65)) (nI (f (a + 2) - 97))) : Int32) = 0 from fun z => q ((nI_eq (b := 0) (by omega) (by decide)).mp z)), e1]
    exact ⟨μ, rfl, hC, fr_refl⟩
/-- the four forms of an import: the row that is added -/
theorem PI_imp (hN : N ≤ 50) (hV : VT T) {p : Nat} (hsc : scl (f a) = true) (h1 : f (a + 1) = 60) (hp : (p = 0 ∧ f (a + 2) ≠ 60) ∨ (p = 1 ∧ f (a + 2) = 60)) (hsc2 : scl (f (a + 2 + p)) = true) (hin : a + 2 + p < N) (h127 : f (a + 2) < 127) {r0 : RwI} (hr1 : r0.1 = f a - 65) (hr2 : r0.2.1 = f (a + 2 + p) - 65) (hr6 : r0.2.2.2.2.2 = p)
    (hform : (cdA f N (a + 3 + p) < 127 ∧ cdA f N (a + 3 + p) ≠ 46 ∧ cdA f N (a + 3 + p) ≠ 47 ∧ r0.2.2.1 = none ∧ r0.2.2.2.1 = none ∧ r0.2.2.2.2.1 = 0) ∨ (cdA f N (a + 3 + p) = 47 ∧ r0.2.2.1 = none ∧ r0.2.2.2.1 = none ∧ ∃ e, a + 4 + p ≤ e ∧ e ≤ N ∧ ends f N e ∧ (∀ j, a + 4 + p ≤ j → j < e → ltl (f j) = true) ∧ r0.2.2.2.2.1 = exM f (a + 4 + p) (e - (a + 4 + p)))
      ∨ (cdA f N (a + 3 + p) = 46 ∧ a + 4 + p < N ∧ ltl (f (a + 4 + p)) = true ∧ r0.2.2.1 = some (f (a + 4 + p) - 97) ∧ r0.2.2.2.2.1 = 0 ∧ ((cdA f N (a + 5 + p) < 127 ∧ cdA f N (a + 5 + p) ≠ 61 ∧ r0.2.2.2.1 = some (f (a + 4 + p) - 97)) ∨ (cdA f N (a + 5 + p) = 61 ∧ a + 6 + p < N ∧ ltl (f (a + 6 + p)) = true ∧ r0.2.2.2.1 = some (f (a + 6 + p) - 97))))) :
    PI N f T a (rfI T (nI (f a - 65)) (nI (f (a + 2 + p) - 65)) True) (impT T (nI (f a - 65)) (nI (f (a + 2 + p) - 65)) r0) := by
  intro μ a0 ha hC hT
  have hh := scl_of hsc
  have hh2 := scl_of hsc2
  have hx3 : (if (nI (f (a + 2)) : Int32) = 60 then (1 : Int32) else 0) = nI p := by
    rcases hp with ⟨rfl, z⟩ | ⟨rfl, z⟩
    · rw [if_neg (show ¬ (nI (f (a + 2)) : Int32) = 60 from ne_e (c := 60) z h127 (by decide))]; rfl
    · rw [z, if_pos (by decide)]; rfl
  have hle := rfI_le T (nI (f a - 65)) (nI (f (a + 2 + p) - 65)) True
  unfold X2_putItem
  rw [codeAt_eq hN hT (by omega), bi_eq, cdA_in (by omega), sub65 hsc, bd_eq, nI_1, codeAt_eq hN hT (by omega), bi_eq, cdA_in (by omega), h1, show (2 : Int32) = nI 2 from rfl, nI_add, codeAt_eq hN hT (by omega), bi_eq, bd_eq, if_pos (by decide), bn_id]
  unfold X2_putImportItem
  rw [codeAt_eq hN hT (by omega), bi_eq, cdA_in (by omega), hx3, bd_eq, nI_add, bd_eq, codeAt_eq hN hT (by omega), bi_eq, cdA_in hin, sub65 hsc2, bd_eq, refusalOfImport_eq (f := True) (v := 1) hV hC _ _ rfl, bi_eq]
  unfold impT
  by_cases q : rfI T (nI (f a - 65)) (nI (f (a + 2 + p) - 65)) True = 0
  · obtain ⟨-, -, -, -, q5⟩ := rfI_0 q
    obtain ⟨ν, e, c, fr'⟩ := putImport_eq hC q5 r0
    rw [hr1, hr2, hr6] at e
    rw [q, if_pos zero0, if_pos rfl, nI_1, show a + 2 + p + 1 = a + 3 + p by omega, codeAt_eq hN hT (by omega), bi_eq]
    rcases hform with ⟨g1, g2, g3, g4, g5, g6⟩ | ⟨g1, g4, g5, ee, g2, g3, g7, g8, g6⟩ | ⟨g1, g2, g3, g4, g5, g6⟩
    · unfold X2_putImportItem_j152
      rw [g4, g5, g6] at e
      rw [if_neg (show ¬ (nI (cdA f N (a + 3 + p)) : Int32) = 46 from ne_e (c := 46) g2 g1 (by decide)), bi_eq, if_neg (show ¬ (nI (cdA f N (a + 3 + p)) : Int32) = 47 from ne_e (c := 47) g3 g1 (by decide)), show X0_putImport a0 (nI (f a - 65)) (nI (f (a + 2 + p) - 65)) (-1) (-1) 0 (nI p) μ = _ from e, bn_eq]
      exact ⟨ν, rfl, c, fr'⟩
    · unfold X2_putImportItem_j152
      rw [g4, g5, g6] at e
      rw [g1, if_neg (by decide), bi_eq, if_pos (by decide), show (2 : Int32) = nI 2 from rfl, nI_add, show a + 2 + p + 2 = a + 4 + p by omega, exceptedFrom_eq hN hT g2 g3 g7 g8, bi_eq, show X0_putImport a0 (nI (f a - 65)) (nI (f (a + 2 + p) - 65)) (-1) (-1) (nI (exM f (a + 4 + p) (ee - (a + 4 + p)))) (nI p) μ = _ from e, bn_eq]
      exact ⟨ν, rfl, c, fr'⟩
    · unfold X2_putImportItem_j107
      rw [g4, g5] at e
      rw [g1, if_pos (by decide), show (2 : Int32) = nI 2 from rfl, nI_add, show a + 2 + p + 2 = a + 4 + p by omega, codeAt_eq hN hT (by omega), bi_eq, cdA_in g2, sub97 g3, bd_eq, show (3 : Int32) = nI 3 from rfl, nI_add, show a + 2 + p + 3 = a + 5 + p by omega, codeAt_eq hN hT (by omega), bi_eq]
      rcases g6 with ⟨k1, k2, k3⟩ | ⟨k1, k2, k3, k4⟩
      · rw [k3] at e
        rw [if_neg (show ¬ (nI (cdA f N (a + 5 + p)) : Int32) = 61 from ne_e (c := 61) k2 k1 (by decide)), show X0_putImport a0 (nI (f a - 65)) (nI (f (a + 2 + p) - 65)) (nI (f (a + 4 + p) - 97)) (nI (f (a + 4 + p) - 97)) 0 (nI p) μ = _ from e, bn_eq]
        exact ⟨ν, rfl, c, fr'⟩
      · rw [k4] at e
        rw [k1, if_pos (by decide), show (4 : Int32) = nI 4 from rfl, nI_add, show a + 2 + p + 4 = a + 6 + p by omega, codeAt_eq hN hT (by omega), bi_eq, cdA_in k2, sub97 k3, show X0_putImport a0 (nI (f a - 65)) (nI (f (a + 2 + p) - 65)) (nI (f (a + 4 + p) - 97)) (nI (f (a + 6 + p) - 97)) 0 (nI p) μ = _ from e, bn_eq]
        exact ⟨ν, rfl, c, fr'⟩
  · rw [if_neg q, if_neg (show ¬ (nI (rfI T (nI (f a - 65)) (nI (f (a + 2 + p) - 65)) True) : Int32) = 0 from fun z => q ((nI_eq (b := 0) (by omega) (by decide)).mp z))]
    exact ⟨μ, rfl, hC, fr_refl⟩
end PIs
