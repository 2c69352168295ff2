/-! ===== the component's changing methods ===== -/
abbrev Rz : Type := (String ⊕ Int32) × TT
def refu (T : TT) (k : Nat) (n : Nat) (T' : TT) : Rz := if k = 0 then (.inr (nI n), T') else (.inl (xN k), T)
def b1 (p : Int32) : Nat := if p = 0 then 0 else 1
theorem b1_eq (p : Int32) : (if p = 0 then (0 : Int32) else 1) = nI (b1 p) := by unfold b1; rw [ite01]
theorem b1_le (p : Int32) : b1 p ≤ 1 := by unfold b1; split <;> omega
def sAddS (T : TT) (x : Int32) : Rz := refu T (rfS T x) (tS T) (addS T x.toNatClampNeg)
def sDecl (T : TT) (x y p : Int32) : Rz := refu T (rfD T x y) (tD T) (addD T (x.toNatClampNeg, y.toNatClampNeg, b1 p))
def sUse (T : TT) (x y : Int32) : Rz := refu T (rfU T x y) (tU T) (addU T (x.toNatClampNeg, y.toNatClampNeg))
def sImp1 (T : TT) (x y s l p : Int32) : Rz := refu T (rfI T x y (inb s 26 = true ∧ inb l 26 = true)) (tI T) (addI T (x.toNatClampNeg, y.toNatClampNeg, some s.toNatClampNeg, some l.toNatClampNeg, 0, b1 p))
def sImpA (T : TT) (x y e p : Int32) : Rz := refu T (rfI T x y (inb e (2 ^ 26) = true)) (tI T) (addI T (x.toNatClampNeg, y.toNatClampNeg, none, none, e.toNatClampNeg, b1 p))
theorem inb_cl {x : Int32} {n : Nat} (h : inb x n = true) (hn : n < 2 ^ 31) : x.toNatClampNeg < n ∧ x = nI x.toNatClampNeg := by
  obtain ⟨j, hj, rfl⟩ := inb_of h hn
  rw [nI_clamp (by omega)]
  exact ⟨hj, rfl⟩
theorem rfS_le (T : TT) (x : Int32) : rfS T x ≤ 3 := by unfold rfS; repeat' split <;> try omega
theorem rfU_le (T : TT) (x y : Int32) : rfU T x y ≤ 3 := by unfold rfU; repeat' split <;> try omega
theorem rfD_le (T : TT) (x y : Int32) : rfD T x y ≤ 3 := by unfold rfD; repeat' split <;> try omega
theorem rfI_le (T : TT) (x y : Int32) (f : Prop) [Decidable f] : rfI T x y f ≤ 3 := by unfold rfI; repeat' split <;> try omega
theorem rfS_0 {T : TT} {x : Int32} (h : rfS T x = 0) : inb x (tS T) = true ∧ tS T < 16 := by
  unfold rfS at h
  repeat' split at h
  all_goals first | omega | (constructor <;> assumption)
theorem rfU_0 {T : TT} {x y : Int32} (h : rfU T x y = 0) : inb x (tS T) = true ∧ inb y 26 = true ∧ tU T < 30 := by
  unfold rfU at h
  repeat' split at h
  all_goals first | omega | (refine ⟨?_, ?_, ?_⟩ <;> assumption)
theorem rfD_0 {T : TT} {x y : Int32} (h : rfD T x y = 0) : inb x (tS T) = true ∧ inb y 26 = true ∧ dOf T x.toNatClampNeg y.toNatClampNeg = none ∧ tD T < 30 := by
  unfold rfD at h
  repeat' split at h
  all_goals first | omega | (refine ⟨?_, ?_, ?_, ?_⟩ <;> assumption)
theorem rfI_0 {T : TT} {x y : Int32} {f : Prop} [Decidable f] (h : rfI T x y f = 0) : inb x (tS T) = true ∧ inb y (tS T) = true ∧ x ≠ y ∧ f ∧ tI T < 20 := by
  unfold rfI at h
  repeat' split at h
  all_goals first | omega | (refine ⟨?_, ?_, ?_, ?_, ?_⟩ <;> assumption)
section W
variable {μ : Mm} {T : TT}
theorem WR_no (h : CI μ T) {k n : Nat} {T' : TT} (hk : ¬ k = 0) : ∃ r, some ((Sum.inl (xN k) : String ⊕ Int32), μ) = some r ∧ WR μ (refu T k n T') r := ⟨_, rfl, μ, by unfold refu; rw [if_neg hk], by unfold refu; rw [if_neg hk]; exact h, frC_refl⟩
theorem WR_yes {ν : Mm} {k n : Nat} {T' : TT} (hk : k = 0) (hc : CI ν T') (hf : frC μ ν) : ∃ r, some ((Sum.inr (nI n) : String ⊕ Int32), ν) = some r ∧ WR μ (refu T k n T') r := ⟨_, rfl, ν, by unfold refu; rw [if_pos hk], by unfold refu; rw [if_pos hk]; exact hc, hf⟩
theorem begin_eq (h : CI μ T) : ∃ r, X3_begin μ = some r ∧ WI μ (tS T, reT T) r := by
  have hF := h.2.1.1
  obtain ⟨ν, e, c, f⟩ := reset_eq hF.1 hF.2.1
  obtain ⟨ξ, e2, c2, f2⟩ := now_settle h f (VT_reT hF.1) c
  unfold X3_begin
  rw [bd_eq, hF.2.1.1.1, e, bi_eq, e2, bi_eq]
  exact ⟨_, rfl, ξ, rfl, c2, f2⟩
theorem addScope_eq (h : CI μ T) (x : Int32) : ∃ r, X3_addScope x μ = some r ∧ WR μ (sAddS T x) r := by
  have hF := h.2.1.1
  unfold X3_addScope sAddS
  rw [refusalOfScope_eq hF.1 hF.2.1, bi_eq, throw_eq (rfS_le T x), bi_eq]
  by_cases q : rfS T x = 0
  · obtain ⟨q1, q2⟩ := rfS_0 q
    obtain ⟨q3, q4⟩ := inb_cl q1 (by omega)
    obtain ⟨ν, e, c, f⟩ := putScope_eq hF.2.1 q2 x.toNatClampNeg
    obtain ⟨ξ, e2, c2, f2⟩ := now_settle h f (VT_addS hF.1 q3 q2) c
    rw [← q4] at e
    rw [if_pos q, thr_r, e, bn_eq, e2, bi_eq]
    exact WR_yes q c2 f2
  · rw [if_neg q, thr_l]
    exact WR_no h q
theorem declare_eq (h : CI μ T) (x y p : Int32) : ∃ r, X3_declare x y p μ = some r ∧ WR μ (sDecl T x y p) r := by
  have hF := h.2.1.1
  have h16 := hF.1.1.2.1
  unfold X3_declare sDecl
  rw [refusalOfDeclaration_eq hF.1 hF.2.1, bi_eq, throw_eq (rfD_le T x y), bi_eq]
  by_cases q : rfD T x y = 0
  · obtain ⟨q1, q2, q5, q6⟩ := rfD_0 q
    obtain ⟨q3, q4⟩ := inb_cl q1 (by omega)
    obtain ⟨q7, q8⟩ := inb_cl q2 (by decide)
    obtain ⟨ν, e, c, f⟩ := putDeclaration_eq hF.2.1 q6 x.toNatClampNeg y.toNatClampNeg (b1 p)
    obtain ⟨ξ, e2, c2, f2⟩ := now_settle h f (VT_addD hF.1 q3 q7 (b1_le p) q5 q6) c
    rw [← q4, ← q8] at e
    rw [if_pos q, thr_r, b1_eq, e, bn_eq, e2, bi_eq]
    exact WR_yes q c2 f2
  · rw [if_neg q, thr_l]
    exact WR_no h q
theorem use_eq (h : CI μ T) (x y : Int32) : ∃ r, X3_use x y μ = some r ∧ WR μ (sUse T x y) r := by
  have hF := h.2.1.1
  have h16 := hF.1.1.2.1
  unfold X3_use sUse
  rw [refusalOfUse_eq hF.1 hF.2.1, bi_eq, throw_eq (rfU_le T x y), bi_eq]
  by_cases q : rfU T x y = 0
  · obtain ⟨q1, q2, q6⟩ := rfU_0 q
    obtain ⟨q3, q4⟩ := inb_cl q1 (by omega)
    obtain ⟨q7, q8⟩ := inb_cl q2 (by decide)
    obtain ⟨ν, e, c, f⟩ := putUse_eq hF.2.1 q6 x.toNatClampNeg y.toNatClampNeg
    obtain ⟨ξ, e2, c2, f2⟩ := now_settle h f (VT_addU hF.1 q3 q7 q6) c
    rw [← q4, ← q8] at e
    rw [if_pos q, thr_r, e, bn_eq, e2, bi_eq]
    exact WR_yes q c2 f2
  · rw [if_neg q, thr_l]
    exact WR_no h q
/-- the part of both imports that is the same -/
theorem import_tail (h : CI μ T) {x y v1 v2 v3 p : Int32} {r0 : RwI} {k : Nat} (hk : k ≤ 3) (h0 : k = 0 → okI T r0 ∧ tI T < 20 ∧ x = nI r0.1 ∧ y = nI r0.2.1 ∧ v1 = enc r0.2.2.1 ∧ v2 = enc r0.2.2.2.1 ∧ v3 = nI r0.2.2.2.2.1 ∧ b1 p = r0.2.2.2.2.2) : ∃ r, ((X3_throwIfRefused (nI k)).bind fun y7 => thr y7 (fun E6 => some (.inl E6, μ)) fun _ => bn (X0_putImport (mNow μ) x y v1 v2 v3 (if p = 0 then (0 : Int32) else 1) μ) fun q10 μ11 => (X0_settle (mNow μ11) μ11).bind fun μ15 => some (.inr q10, μ15)) = some r ∧ WR μ (refu T k (tI T) (addI T r0)) r := by
  have hF := h.2.1.1
  rw [throw_eq hk, bi_eq]
  by_cases q : k = 0
  · obtain ⟨g1, g2, rfl, rfl, rfl, rfl, rfl, g3⟩ := h0 q
    obtain ⟨ν, e, c, f⟩ := putImport_eq hF.2.1 g2 r0
    obtain ⟨ξ, e2, c2, f2⟩ := now_settle h f (VT_addI hF.1 g1 g2) c
    rw [if_pos q, thr_r, b1_eq, g3, e, bn_eq, e2, bi_eq]
    exact WR_yes q c2 f2
  · rw [if_neg q, thr_l]
    exact WR_no h q
theorem importAll_eq (h : CI μ T) (x y v p : Int32) : ∃ r, X3_importAll x y v p μ = some r ∧ WR μ (sImpA T x y v p) r := by
  have hF := h.2.1.1
  have h16 := hF.1.1.2.1
  unfold X3_importAll sImpA
  rw [refusalOfImport_eq (f := inb v (2 ^ 26) = true) hF.1 hF.2.1 x y, bi_eq]
  · refine import_tail h (rfI_le T x y _) (fun q => ?_)
    obtain ⟨q1, q2, q3, q4, q5⟩ := rfI_0 q
    obtain ⟨a1, a2⟩ := inb_cl q1 (by omega)
    obtain ⟨b1', b2⟩ := inb_cl q2 (by omega)
    obtain ⟨c1, c2⟩ := inb_cl q4 (by decide)
    exact ⟨⟨a1, b1', fun e => q3 (by rw [a2, b2]; exact congrArg nI e), b1_le p, Or.inl ⟨rfl, rfl, c1⟩⟩, q5, a2, b2, rfl, rfl, c2, rfl⟩
  · by_cases h0 : v < 0
    · rw [if_pos h0, inb_neg h0]; rfl
    · have e26 : (67108864 : Int32) = nI (2 ^ 26) := (lit_n 67108864).trans (congrArg nI (by decide))
      rw [if_neg h0, e26]
      by_cases h1 : nI (2 ^ 26) ≤ v
      · rw [if_pos h1, inb_ge (by decide) h1, if_neg (by decide)]; rfl
      · rw [if_neg h1, inb_in (by decide) h0 h1, if_pos rfl]; rfl
theorem importOne_eq (h : CI μ T) (x y s l p : Int32) : ∃ r, X3_importOne x y s l p μ = some r ∧ WR μ (sImp1 T x y s l p) r := by
  have hF := h.2.1.1
  have h16 := hF.1.1.2.1
  have tail : ∃ r, ((X3_throwIfRefused (nI (rfI T x y (inb s 26 = true ∧ inb l 26 = true)))).bind fun y7 => thr y7 (fun E6 => some (.inl E6, μ)) fun _ => bn (X0_putImport (mNow μ) x y s l 0 (if p = 0 then (0 : Int32) else 1) μ) fun q10 μ11 => (X0_settle (mNow μ11) μ11).bind fun μ15 => some (.inr q10, μ15)) = some r ∧ WR μ (sImp1 T x y s l p) r := by
    refine import_tail h (rfI_le T x y _) (fun q => ?_)
    obtain ⟨q1, q2, q3, q4, q5⟩ := rfI_0 q
    obtain ⟨a1, a2⟩ := inb_cl q1 (by omega)
    obtain ⟨b1', b2⟩ := inb_cl q2 (by omega)
    obtain ⟨c1, c2⟩ := inb_cl q4.1 (by decide)
    obtain ⟨d1, d2⟩ := inb_cl q4.2 (by decide)
    exact ⟨⟨a1, b1', fun e => q3 (by rw [a2, b2]; exact congrArg nI e), b1_le p, Or.inr ⟨_, _, c1, d1, rfl, rfl, rfl⟩⟩, q5, a2, b2, c2, d2, rfl, rfl⟩
  unfold X3_importOne
  rw [isName_eq, bi_eq]
  by_cases qs : inb s 26 = true
  · rw [if_pos qs, if_neg one0, isName_eq, bi_eq, refusalOfImport_eq (f := inb s 26 = true ∧ inb l 26 = true) hF.1 hF.2.1 x y, bi_eq]
    · exact tail
    · by_cases ql : inb l 26 = true
      · rw [if_pos ql, if_neg one0, if_pos ⟨qs, ql⟩]; rfl
      · rw [if_neg ql, if_pos zero0, if_neg (fun z => ql z.2)]; rfl
  · rw [if_neg qs, if_pos zero0]
    unfold X3_importOne_j25 X3_importOne_j26
    rw [refusalOfImport_eq (f := inb s 26 = true ∧ inb l 26 = true) hF.1 hF.2.1 x y, bi_eq]
    · exact tail
    · rw [if_neg (fun z => qs z.1)]; rfl
/-! removing -/
noncomputable def sRem (T : TT) (x y : Int32) : Rz := if inb x 3 = true then
    (if x = 0 then (if inb y (tD T) = true then (.inr (nI (fb_sm (chD T y.toNatClampNeg) (tU T))), delD T y.toNatClampNeg) else (.inl xI, T))
    else if x = 1 then (if inb y (tI T) = true then (.inr (nI (loss T y.toNatClampNeg)), delI T y.toNatClampNeg) else (.inl xI, T))
    else (if inb y (tU T) = true then (.inr 0, delU T y.toNatClampNeg) else (.inl xI, T))) else (.inl xA, T)
theorem remove_eq (h : CI μ T) (x y : Int32) : ∃ r, X3_remove x y μ = some r ∧ WR μ (sRem T x y) r := by
  have hF := h.2.1.1
  have hD := hF.1.2.1.1
  have hI := hF.1.2.2.1.1
  have hU := hF.1.2.2.2.1
  unfold X3_remove sRem
  rw [lit_n 3, needBelow_eq x (by decide), bi_eq]
  by_cases q : inb x 3 = true
  · rw [if_pos q, if_pos q, thr_r, hF.2.1.1.2.1, hF.2.1.1.2.2.1, hF.2.1.1.2.2.2]
    unfold X3_remove_j42
    by_cases x0 : x = 0
    · rw [if_pos x0, if_pos x0, if_pos x0, needIndex_eq y (by omega), bi_eq]
      by_cases qy : inb y (tD T) = true
      · obtain ⟨a1, a2⟩ := inb_cl qy (by omega)
        obtain ⟨r, e, ν, rfl, c, f⟩ := removeDeclaration_eq h a1
        rw [← a2] at e
        rw [if_pos qy, if_pos qy, thr_r, e, bn_eq]
        exact ⟨_, rfl, ν, rfl, c, f⟩
      · rw [if_neg qy, if_neg qy, thr_l]
        exact ⟨_, rfl, μ, rfl, h, frC_refl⟩
    · by_cases x1 : x = 1
      · rw [if_neg x0, if_pos x1, if_neg x0, if_pos x1, if_neg x0, if_pos x1, needIndex_eq y (by omega), bi_eq]
        by_cases qy : inb y (tI T) = true
        · obtain ⟨a1, a2⟩ := inb_cl qy (by omega)
          obtain ⟨r, e, ν, rfl, c, f⟩ := removeImport_eq h a1
          rw [← a2] at e
          rw [if_pos qy, if_pos qy, thr_r, e, bn_eq]
          exact ⟨_, rfl, ν, rfl, c, f⟩
        · rw [if_neg qy, if_neg qy, thr_l]
          exact ⟨_, rfl, μ, rfl, h, frC_refl⟩
      · rw [if_neg x0, if_neg x1, if_neg x0, if_neg x1, if_neg x0, if_neg x1, needIndex_eq y (by omega), bi_eq]
        by_cases qy : inb y (tU T) = true
        · obtain ⟨a1, a2⟩ := inb_cl qy (by omega)
          obtain ⟨ν, e, c, f⟩ := dropUse_eq h.1.1 hF.1 hF.2.1 a1
          obtain ⟨ξ, e2, c2, f2⟩ := now_settle h f (VT_delU hF.1 a1) c
          rw [← a2] at e
          rw [if_pos qy, if_pos qy, thr_r, e, bi_eq, e2, bi_eq]
          exact ⟨_, rfl, ξ, rfl, c2, f2⟩
        · rw [if_neg qy, if_neg qy, thr_l]
          exact ⟨_, rfl, μ, rfl, h, frC_refl⟩
  · rw [if_neg q, if_neg q, thr_l]
    exact ⟨_, rfl, μ, rfl, h, frC_refl⟩
/-! renaming -/
noncomputable def sRen (T : TT) (x y : Int32) : Rz := if inb x (tD T) = true then (if inb y 26 = true then (.inr (nI (rsn T x.toNatClampNeg y.toNatClampNeg)), if rsn T x.toNatClampNeg y.toNatClampNeg = 0 then renO T x.toNatClampNeg y.toNatClampNeg else T) else (.inl xA, T)) else (.inl xI, T)
theorem rsn_le (T : TT) (d n : Nat) : rsn T d n ≤ 3 := by unfold rsn; repeat' split <;> try omega
theorem rename_eq (h : CI μ T) (x y : Int32) : ∃ r, X3_rename x y μ = some r ∧ WR μ (sRen T x y) r := by
  have hF := h.2.1.1
  have hD := hF.1.2.1.1
  unfold X3_rename sRen
  rw [hF.2.1.1.2.1, needIndex_eq x (by omega), bi_eq, lit_n 26, needBelow_eq y (by decide), bi_eq]
  by_cases qx : inb x (tD T) = true
  · rw [if_pos qx, if_pos qx, thr_r]
    by_cases qy : inb y 26 = true
    · obtain ⟨a1, a2⟩ := inb_cl qx (by omega)
      obtain ⟨b1', b2⟩ := inb_cl qy (by omega)
      obtain ⟨r, e, ν, rfl, c1, c2, c3, c4⟩ := reasonAgainst_eq h a1 b1'
      rw [← a2, ← b2] at e
      have hle := rsn_le T x.toNatClampNeg y.toNatClampNeg
      rw [if_pos qy, if_pos qy, thr_r, e, bn_eq, lit_n 0, ifEq (by omega) (by decide)]
      by_cases q : rsn T x.toNatClampNeg y.toNatClampNeg = 0
      · obtain ⟨-, d2, d3⟩ := c4 (by omega)
        obtain ⟨ξ, e2, x2, x3⟩ := exchange_eq c1 d2 d3
        rw [if_pos q, if_pos q, e2, bi_eq]
        exact ⟨_, rfl, ξ, rfl, x2, frC_tr c2 x3⟩
      · rw [if_neg q, if_neg q]
        exact ⟨_, rfl, ν, rfl, c1, c2⟩
    · rw [if_neg qy, if_neg qy, thr_l]
      exact ⟨_, rfl, μ, rfl, h, frC_refl⟩
  · rw [if_neg qx, if_neg qx, thr_l]
    exact ⟨_, rfl, μ, rfl, h, frC_refl⟩
noncomputable def sIfR (T : TT) (x y z : Int32) : String ⊕ Int32 := if inb x (tD T) = true then (if inb y 26 = true then (if inb z 3 = true then
    (if z = 2 then .inr (nI (utr T x.toNatClampNeg)) else if z = 0 then .inr (nI (rsn T x.toNatClampNeg y.toNatClampNeg))
    else if rsn T x.toNatClampNeg y.toNatClampNeg = 2 then .inr (enc (fstR T x.toNatClampNeg y.toNatClampNeg true)) else if rsn T x.toNatClampNeg y.toNatClampNeg = 3 then .inr (enc (fstR T x.toNatClampNeg y.toNatClampNeg false)) else .inr (-1)) else .inl xA) else .inl xA) else .inl xI
theorem ifRenamed_eq (h : CI μ T) (x y z : Int32) : ∃ r, X3_ifRenamed x y z μ = some r ∧ WR μ (sIfR T x y z, T) r := by
  have hF := h.2.1.1
  have hD := hF.1.2.1.1
  unfold X3_ifRenamed sIfR
  rw [hF.2.1.1.2.1, needIndex_eq x (by omega), bi_eq, lit_n 26, needBelow_eq y (by decide), bi_eq, lit_n 3, needBelow_eq z (by decide), bi_eq]
  by_cases qx : inb x (tD T) = true
  · rw [if_pos qx, if_pos qx, thr_r]
    by_cases qy : inb y 26 = true
    · rw [if_pos qy, if_pos qy, thr_r]
      by_cases qz : inb z 3 = true
      · rw [if_pos qz, if_pos qz, thr_r]
        obtain ⟨a1, a2⟩ := inb_cl qx (by omega)
        obtain ⟨b1', b2⟩ := inb_cl qy (by omega)
        by_cases z2 : z = 2
        · have eu := usesToRename_eq h a1
          rw [← a2] at eu
          rw [if_pos z2, if_pos z2, eu, bi_eq]
          exact ⟨_, rfl, μ, rfl, h, frC_refl⟩
        · obtain ⟨r, e, ν, rfl, c1, c2, c3, c4⟩ := reasonAgainst_eq h a1 b1'
          rw [← a2, ← b2] at e
          have hle := rsn_le T x.toNatClampNeg y.toNatClampNeg
          rw [if_neg z2, if_neg z2, e, bn_eq]
          by_cases z0 : z = 0
          · rw [if_pos z0, if_pos z0]
            exact ⟨_, rfl, ν, rfl, c1, c2⟩
          · rw [if_neg z0, if_neg z0, lit_n 2, ifEq (by omega) (by decide), show (nI 3 : Int32) = nI 3 from rfl, ifEq (by omega) (by decide)]
            unfold X3_ifRenamed_j60
            have fc : rsn T x.toNatClampNeg y.toNatClampNeg ≠ 1 → ∀ b : Bool, X3_firstChanged x (nI b.toNat) ν = some (enc (fstR T x.toNatClampNeg y.toNatClampNeg b)) := fun hne b => by
              have := firstChanged_eq (d := x.toNatClampNeg) (T' := renO T x.toNatClampNeg y.toNatClampNeg) c1.2.1.1 (c4 hne).2.1.1 rfl (by omega) b
              rw [← a2] at this
              exact this
            by_cases r2 : rsn T x.toNatClampNeg y.toNatClampNeg = 2
            · have f := fc (by omega) true
              rw [if_pos r2, if_pos r2, r2, lit_n 2, if_pos rfl, show (1 : Int32) = nI true.toNat from rfl, f, bi_eq]
              exact ⟨_, rfl, ν, rfl, c1, c2⟩
            · rw [if_neg r2, if_neg r2]
              by_cases r3 : rsn T x.toNatClampNeg y.toNatClampNeg = 3
              · have f := fc (by omega) false
                rw [if_pos r3, if_pos r3, r3, if_neg (by decide), show (0 : Int32) = nI false.toNat from rfl, f, bi_eq]
                exact ⟨_, rfl, ν, rfl, c1, c2⟩
              · rw [if_neg r3, if_neg r3]
                exact ⟨_, rfl, ν, rfl, c1, c2⟩
      · rw [if_neg qz, if_neg qz, thr_l]
        exact ⟨_, rfl, μ, rfl, h, frC_refl⟩
    · rw [if_neg qy, if_neg qy, thr_l]
      exact ⟨_, rfl, μ, rfl, h, frC_refl⟩
  · rw [if_neg qx, if_neg qx, thr_l]
    exact ⟨_, rfl, μ, rfl, h, frC_refl⟩
noncomputable def sFree (T : TT) (x : Int32) : String ⊕ Int32 := if inb x (tD T) = true then .inr (enc (low (fun n => rsn T x.toNatClampNeg n == 0) 26 0)) else .inl xI
theorem freeName_eq (h : CI μ T) (x : Int32) : ∃ r, X3_freeName x μ = some r ∧ WR μ (sFree T x, T) r := by
  have hF := h.2.1.1
  have hD := hF.1.2.1.1
  unfold X3_freeName sFree
  rw [hF.2.1.1.2.1, needIndex_eq x (by omega), bi_eq]
  by_cases qx : inb x (tD T) = true
  · rw [if_pos qx, if_pos qx, thr_r]
    obtain ⟨a1, a2⟩ := inb_cl qx (by omega)
    refine it1m _ (fun m u2 ν => ∃ n, n + m = 26 ∧ u2 = nI n ∧ CI ν T ∧ frC μ ν ∧ low (fun n => rsn T x.toNatClampNeg n == 0) 26 0 = low (fun n => rsn T x.toNatClampNeg n == 0) m n) ?_ big 26 _ μ (by decide) ⟨0, rfl, rfl, h, frC_refl, rfl⟩
    rintro kk m u2 ν ⟨n, hm, rfl, hc, hf, he⟩ ih
    unfold X3_freeName_l13
    rw [lit_n 26, ifLe (by decide) (by omega)]
    cases m with
    | zero =>
      rw [if_pos (by omega), he]
      exact ⟨_, rfl, ν, rfl, hc, hf⟩
    | succ m =>
      obtain ⟨r, e, ξ, rfl, c1, c2, c3, c4⟩ := reasonAgainst_eq hc a1 (n := n) (by omega)
      rw [← a2] at e
      have hle := rsn_le T x.toNatClampNeg n
      have el : low (fun n => rsn T x.toNatClampNeg n == 0) (m + 1) n = if (rsn T x.toNatClampNeg n == 0) = true then some n else low (fun n => rsn T x.toNatClampNeg n == 0) m (n + 1) := rfl
      rw [if_neg (by omega), e, bn_eq, lit_n 0, ifEq (by omega) (by decide), nI_1]
      by_cases q : rsn T x.toNatClampNeg n = 0
      · rw [if_pos q, he, el, if_pos (by rw [q]; rfl)]
        exact ⟨_, rfl, ξ, rfl, c1, frC_tr hf c2⟩
      · rw [if_neg q]
        refine ih m _ _ (by omega) ⟨n + 1, by omega, rfl, c1, frC_tr hf c2, ?_⟩
        rw [he, el, if_neg (by rw [beq_iff_eq]; exact q)]
  · rw [if_neg qx, if_neg qx, thr_l]
    exact ⟨_, rfl, μ, rfl, h, frC_refl⟩
end W
