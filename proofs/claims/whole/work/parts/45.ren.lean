/-! ===== refusals, renaming ===== -/
def rfS (T : TT) (x : Int32) : Nat := if inb x (tS T) = true then (if tS T < 16 then 0 else 3) else 1
def rfU (T : TT) (x y : Int32) : Nat := if inb x (tS T) = true then (if inb y 26 = true then (if tU T < 30 then 0 else 3) else 2) else 1
def rfI (T : TT) (x y : Int32) (f : Prop) [Decidable f] : Nat := if inb x (tS T) = true then (if inb y (tS T) = true then (if x = y then 2 else if f then (if tI T < 20 then 0 else 3) else 2) else 1) else 1
def rfD (T : TT) (x y : Int32) : Nat := if inb x (tS T) = true then (if inb y 26 = true then (if dOf T x.toNatClampNeg y.toNatClampNeg = none then (if tD T < 30 then 0 else 3) else 2) else 2) else 1
section RF
variable {μ : Mm} {a : Nat} {T : TT}
theorem one0 : ¬ (nI 1 = 0) := by decide
theorem zero0 : (nI 0 : Int32) = 0 := by decide
theorem refusalOfScope_eq (hV : VT T) (hC : CF μ a T) (x : Int32) : X0_refusalOfScope a x μ = some (nI (rfS T x)) := by
  have h16 := hV.1.2.1
  unfold X0_refusalOfScope rfS
  rw [hasScope_eq hV hC, bi_eq, hC.1.1, lit_n 16, ifLt (by omega) (by decide)]
  by_cases q : inb x (tS T) = true
  · rw [if_pos q, if_neg one0, if_pos q]
    by_cases q2 : tS T < 16
    · rw [if_pos q2, if_pos q2]; rfl
    · rw [if_neg q2, if_neg q2]; rfl
  · rw [if_neg q, if_pos zero0, if_neg q]; rfl
theorem refusalOfUse_eq (hV : VT T) (hC : CF μ a T) (x y : Int32) : X0_refusalOfUse a x y μ = some (nI (rfU T x y)) := by
  have h30 := hV.2.2.2.1
  unfold X0_refusalOfUse rfU
  rw [hasScope_eq hV hC, bi_eq, isName_eq, bi_eq, hC.1.2.2.2, lit_n 30, ifLt (by omega) (by decide)]
  by_cases q : inb x (tS T) = true
  · rw [if_pos q, if_neg one0, if_pos q]
    by_cases q3 : inb y 26 = true
    · rw [if_pos q3, if_neg one0, if_pos q3]
      by_cases q2 : tU T < 30
      · rw [if_pos q2, if_pos q2]; rfl
      · rw [if_neg q2, if_neg q2]; rfl
    · rw [if_neg q3, if_pos zero0, if_neg q3]; rfl
  · rw [if_neg q, if_pos zero0, if_neg q]; rfl
theorem refusalOfDeclaration_eq (hV : VT T) (hC : CF μ a T) (x y : Int32) : X0_refusalOfDeclaration a x y μ = some (nI (rfD T x y)) := by
  have h30 := hV.2.1.1
  have h16 := hV.1.2.1
  unfold X0_refusalOfDeclaration rfD
  rw [hasScope_eq hV hC, bi_eq, isName_eq, bi_eq, hC.1.2.1, lit_n 30, ifLt (by omega) (by decide)]
  by_cases q : inb x (tS T) = true
  · rw [if_pos q, if_neg one0, if_pos q]
    by_cases q3 : inb y 26 = true
    · rw [if_pos q3, if_neg one0, if_pos q3]
      obtain ⟨s, hs, rfl⟩ := inb_of q (by omega)
      obtain ⟨n, hn, rfl⟩ := inb_of q3 (by decide)
      rw [declares_eq hV hC (by omega) (by omega), bi_eq, nI_clamp (by omega), nI_clamp (by omega)]
      by_cases q4 : dOf T s n = none
      · rw [if_pos q4, if_pos zero0, if_pos q4]
        by_cases q2 : tD T < 30
        · rw [if_pos q2, if_pos q2]; rfl
        · rw [if_neg q2, if_neg q2]; rfl
      · rw [if_neg q4, if_neg one0, if_neg q4]; rfl
    · rw [if_neg q3, if_pos zero0, if_neg q3]; rfl
  · rw [if_neg q, if_pos zero0, if_neg q]; rfl
theorem refusalOfImport_eq (hV : VT T) (hC : CF μ a T) (x y : Int32) {f : Prop} [Decidable f] {v : Int32} (hv : v = nI (if f then 1 else 0)) : X0_refusalOfImport a x y v μ = some (nI (rfI T x y f)) := by
  have h30 := hV.2.2.1.1
  subst hv
  unfold X0_refusalOfImport rfI
  rw [hasScope_eq hV hC, bi_eq, hasScope_eq hV hC, bi_eq, hC.1.2.2.1, lit_n 20, ifLt (by omega) (by decide)]
  by_cases q : inb x (tS T) = true
  · rw [if_pos q, if_neg one0, if_pos q]
    by_cases q3 : inb y (tS T) = true
    · rw [if_pos q3, if_neg one0, if_pos q3]
      by_cases q4 : x = y
      · rw [if_pos q4, if_pos q4]; rfl
      · rw [if_neg q4, if_neg q4]
        by_cases q5 : f
        · rw [if_pos q5, if_neg one0, if_pos q5]
          by_cases q2 : tI T < 20
          · rw [if_pos q2, if_pos q2]; rfl
          · rw [if_neg q2, if_neg q2]; rfl
        · rw [if_neg q5, if_pos zero0, if_neg q5]; rfl
    · rw [if_neg q3, if_pos zero0, if_neg q3]; rfl
  · rw [if_neg q, if_pos zero0, if_neg q]; rfl
end RF
/-! renaming -/
def rnI (T : TT) (X : OX) (d n i : Nat) : RwI := if (X (iFr T i) (dNm T d)).testBit d = true ∧ iSr T i = some (dNm T d) then (iTo T i, iFr T i, some n, (if iLo T i = some (dNm T d) then some n else iLo T i), iEx T i, iPs T i)
  else if (X (iFr T i) (dNm T d)).testBit d = true ∧ (iEx T i).testBit (dNm T d) = true then (iTo T i, iFr T i, iSr T i, iLo T i, iEx T i ||| 2 ^ n, iPs T i) else T.2.2.2.1 i
def rnU (T : TT) (X : OX) (d n u : Nat) : Nat × Nat := if uNm T u = dNm T d ∧ outU T X u = 2 ^ d then (uSc T u, n) else T.2.2.2.2 u
def ren (T : TT) (X : OX) (d n : Nat) : TT := (T.1, T.2.1, pt T.2.2.1 d (dSc T d, n, dPb T d), rnI T X d n, rnU T X d n)
theorem VT_ren {T : TT} {X : OX} (h : VT T) {d n : Nat} (hd : d < tD T) (hn : n < 26) (hno : dOf T (dSc T d) n = none) : VT (ren T X d n) := by
  obtain ⟨h1, ⟨d1, d2, d3⟩, ⟨i1, i2⟩, u1, u2⟩ := h
  have hno' := dOf_none.mp hno
  refine ⟨h1, ⟨d1, fun e he => ?_, fun e e' he he' => ?_⟩, ⟨i1, fun i hi => ?_⟩, u1, fun u hu => ?_⟩
  · have he2 : e < tD T := he
    show (pt T.2.2.1 d (dSc T d, n, dPb T d) e).1 < tS T ∧ (pt T.2.2.1 d (dSc T d, n, dPb T d) e).2.1 < 26 ∧ (pt T.2.2.1 d (dSc T d, n, dPb T d) e).2.2 ≤ 1
    by_cases q : e = d
    · subst q; rw [pt_at]; exact ⟨(d2 e hd).1, hn, (d2 e hd).2.2⟩
    · rw [pt_ne _ _ q]; exact d2 e he2
  · have he2 : e < tD T := he
    have he3 : e' < tD T := he'
    show (pt T.2.2.1 d (dSc T d, n, dPb T d) e).1 = (pt T.2.2.1 d (dSc T d, n, dPb T d) e').1 → (pt T.2.2.1 d (dSc T d, n, dPb T d) e).2.1 = (pt T.2.2.1 d (dSc T d, n, dPb T d) e').2.1 → e = e'
    by_cases q : e = d
    · by_cases q2 : e' = d
      · intro _ _; omega
      · rw [q, pt_at, pt_ne _ _ q2]
        intro z1 z2
        exact absurd ⟨z1.symm, z2.symm⟩ (hno' e' he3)
    · by_cases q2 : e' = d
      · rw [q2, pt_at, pt_ne _ _ q]
        intro z1 z2
        exact absurd ⟨z1, z2⟩ (hno' e he2)
      · rw [pt_ne _ _ q, pt_ne _ _ q2]
        exact d3 e e' he2 he3
  · have hi2 : i < tI T := hi
    have z := i2 i hi2
    show okI T (rnI T X d n i)
    unfold rnI
    split
    · rename_i hh
      refine ⟨z.1, z.2.1, z.2.2.1, z.2.2.2.1, Or.inr ?_⟩
      rcases z.2.2.2.2 with ⟨e1, -⟩ | ⟨a', b', ha', hb', e1, e2, e3⟩
      · rw [e1] at hh; cases hh.2
      · by_cases q : iLo T i = some (dNm T d)
        · exact ⟨n, n, hn, hn, rfl, if_pos q, e3⟩
        · exact ⟨n, b', hn, hb', rfl, (if_neg q).trans e2, e3⟩
    · split
      · rename_i hh
        refine ⟨z.1, z.2.1, z.2.2.1, z.2.2.2.1, Or.inl ?_⟩
        rcases z.2.2.2.2 with ⟨e1, e2, e3⟩ | ⟨a', b', ha', hb', e1, e2, e3⟩
        · exact ⟨e1, e2, Nat.or_lt_two_pow e3 (pow_lt hn)⟩
        · rw [e3, Nat.zero_testBit] at hh; cases hh.2
      · exact z
  · have hu2 : u < tU T := hu
    show (rnU T X d n u).1 < tS T ∧ (rnU T X d n u).2 < 26
    unfold rnU
    split
    · exact ⟨(u2 u hu2).1, hn⟩
    · exact u2 u hu2
/-- the rows while a renaming goes on: imports below i, uses below u, the declaration if b -/
def rnT (T : TT) (X : OX) (d n i u : Nat) (b : Bool) : TT := (T.1, T.2.1, (if b = true then pt T.2.2.1 d (dSc T d, n, dPb T d) else T.2.2.1), (fun j => if j < i then rnI T X d n j else T.2.2.2.1 j), fun j => if j < u then rnU T X d n j else T.2.2.2.2 j)
theorem CF_ext {μ : Mm} {a : Nat} {T T' : TT} (h : CF μ a T) (e0 : T'.1 = T.1) (e1 : T'.2.1 = T.2.1) (e2 : ∀ d, d < tD T → T'.2.2.1 d = T.2.2.1 d) (e3 : ∀ i, i < tI T → T'.2.2.2.1 i = T.2.2.2.1 i) (e4 : ∀ u, u < tU T → T'.2.2.2.2 u = T.2.2.2.2 u) : CF μ a T' := by
  unfold CF tS tD tI tU tPar dSc dNm dPb iTo iFr iSr iLo iEx iPs uSc uNm at h ⊢
  rw [e0, e1]
  refine ⟨h.1, h.2.1, fun d hd => ?_, fun i hi => ?_, fun u hu => ?_⟩
  · rw [e2 d hd]; exact h.2.2.1 d hd
  · rw [e3 i hi]; exact h.2.2.2.1 i hi
  · rw [e4 u hu]; exact h.2.2.2.2 u hu
