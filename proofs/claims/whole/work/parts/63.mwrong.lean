/-! ===== what the model refuses ===== -/
theorem within0 (x : Int32) {n : Nat} (hn : n < 2 ^ 31) : X4_within x 0 (nI n - 1) = some (nI (if inb x n = true then 1 else 0)) := by
  unfold X4_within
  by_cases h0 : x < 0
  · rw [if_pos h0, inb_neg h0]; rfl
  · rw [if_neg h0]
    obtain ⟨c1, c2⟩ := nonneg_of h0
    generalize x.toNatClampNeg = j at c1 c2
    subst c2
    rw [inb_nI c1]
    cases n with
    | zero =>
      rw [if_pos, decide_eq_false (by omega)]
      · rfl
      · rw [show nI 0 - 1 = (-1 : Int32) from rfl, Int32.lt_iff_toInt_lt, nI_toInt c1]
        have : (-1 : Int32).toInt = -1 := by decide
        omega
    | succ n =>
      rw [show (1 : Int32) = nI 1 from rfl, nI_sb (by omega), Nat.add_sub_cancel, ifLt (by omega) c1]
      by_cases q : n < j
      · rw [if_pos q, decide_eq_false (by omega)]; rfl
      · rw [if_neg q, decide_eq_true (by omega)]; rfl
theorem rz01 {β : Type} {c : Prop} [Decidable c] {k : Option β} : rz (nI (if c then 1 else 0)) k = k := by
  refine rz_eq ?_
  split
  · exact Or.inr rfl
  · exact Or.inl rfl
section MWr
variable {μ : Mm} {T : TT}
theorem isScope_eq (hV : VT T) (hM : MF μ T) (x : Int32) : X4_isScope x μ = some (nI (if inb x (tS T) = true then 1 else 0)) := by
  have h16 := hV.1.2.1
  unfold X4_isScope
  rw [show (0 : Int32) = nI 0 from rfl, ck_nI (by decide) (by decide), nI_clamp (by decide), hM.1.1, show X4_within x (nI 0) (nI (tS T) - 1) = _ from within0 x (by omega), bi_eq, rz01]
theorem isDeclaration_eq (hV : VT T) (hM : MF μ T) (x : Int32) : X4_isDeclaration x μ = some (nI (if inb x (tD T) = true then 1 else 0)) := by
  have h16 := hV.2.1.1
  unfold X4_isDeclaration
  rw [show ck (1 : Int32) 290 = ck (nI 1) 290 from rfl, ck_nI (by decide) (by decide), show (1 : Int32).toNatClampNeg = 1 from rfl, hM.1.2.1, within0 x (by omega), bi_eq, rz01]
theorem isNameM_eq (x : Int32) : X4_isName x = some (nI (if inb x 26 = true then 1 else 0)) := by
  unfold X4_isName
  rw [show (25 : Int32) = nI 26 - 1 from rfl, within0 x (by decide), bi_eq, rz01]
theorem wrongImport_eq (hV : VT T) (hM : MF μ T) (x y : Int32) {f : Prop} [Decidable f] {v : Int32} (hv : v = nI (if f then 1 else 0)) : X4_wrongImport x y v μ = some (nI (rfI T x y f)) := by
  have h30 := hV.2.2.1.1
  subst hv
  unfold X4_wrongImport X4_wrongImport_j16 X4_wrongImport_j29 rfI
  rw [isScope_eq hV hM, bi_eq, isScope_eq hV hM, bi_eq]
  by_cases q : inb x (tS T) = true
  · rw [if_pos q, if_neg one0, if_pos q]
    by_cases q3 : inb y (tS T) = true
    · rw [if_pos q3, if_neg one0, if_pos q3]
      by_cases q4 : x = y
      · rw [if_pos q4, if_pos q4]; rfl
      · rw [if_neg q4, if_neg q4]
        by_cases q5 : f
        · rw [if_pos q5, if_neg one0, if_pos q5, show (2 : Int32) = nI 2 from rfl, ck_nI (by decide) (by decide), nI_clamp (by decide), hM.1.2.2.1, show (20 : Int32) = nI 20 from rfl, ifEq (by omega) (by decide)]
          by_cases q2 : tI T < 20
          · rw [if_neg (by omega), if_pos q2]; rfl
          · rw [if_pos (by omega), if_neg q2]; rfl
        · rw [if_neg q5, if_pos zero0, if_neg q5]; rfl
    · rw [if_neg q3, if_pos zero0, if_neg q3]; rfl
  · rw [if_neg q, if_pos zero0, if_neg q]; rfl
end MWr
