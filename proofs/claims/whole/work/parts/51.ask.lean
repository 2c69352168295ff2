/-! ===== the component's asking methods ===== -/
noncomputable def stC (T : TT) (k : Nat) : Nat := fb_sm (fun u => if stU T (offOf T) u = k then 1 else 0) (tU T)
noncomputable def vain (T : TT) : Nat := fb_sm (fun i => if (iSr T i).isSome = true ∧ prs T (offOf T) i = 0 then 1 else 0) (tI T)
noncomputable def useR (T : TT) (d : Nat) : Nat := fb_sm (fun u => if outU T (offOf T) u = 2 ^ d then 1 else 0) (tU T)
noncomputable def seeR (T : TT) (d : Nat) : Nat := fb_sm (fun s => if outc T (offOf T) s (dNm T d) = 2 ^ d then 1 else 0) (tS T)
noncomputable def visM (T : TT) (s : Nat) (b : Int32) : Nat := orI (fun n => if (if b = 0 then popc (outc T (offOf T) s n) = 1 else 1 < popc (outc T (offOf T) s n)) then 2 ^ n else 0) 26
section RQ
variable {μ : Mm} {T : TT}

noncomputable def sPar (T : TT) (x : Int32) : String ⊕ Int32 := if inb x (tS T) = true then .inr (enc (tPar T x.toNatClampNeg)) else .inl xI
theorem parent_eq (h : CI μ T) (x : Int32) : X3_parent x μ = some (sPar T x) := by
  have hF := h.2.1.1
  have h16 := hF.1.1.2.1
  unfold X3_parent sPar
  rw [hF.2.1.1.1, needIndex_eq x (by omega), bi_eq]
  by_cases qx : inb x (tS T) = true
  · obtain ⟨a1, a2⟩ := inb_cl qx (by omega)
    rw [if_pos qx, if_pos qx, thr_r]
    generalize x.toNatClampNeg = j at a1 a2
    subst a2
    rw [ck_nI (by omega) (by decide), hF.2.1.2.1 j a1]
  · rw [if_neg qx, if_neg qx, thr_l]
noncomputable def sDcl (T : TT) (x y : Int32) : String ⊕ Int32 := if inb x (tD T) = true then (if inb y 6 = true then .inr (if y = 0 then nI (dSc T x.toNatClampNeg) else if y = 1 then nI (dNm T x.toNatClampNeg) else if y = 2 then nI (dPb T x.toNatClampNeg) else if y = 3 then nI (useR T x.toNatClampNeg) else if y = 4 then nI (offS T (offOf T) x.toNatClampNeg) else nI (seeR T x.toNatClampNeg)) else .inl xA) else .inl xI
theorem declaration_eq (h : CI μ T) (x y : Int32) : X3_declaration x y μ = some (sDcl T x y) := by
  have hF := h.2.1.1
  have hV := hF.1
  have h16 := hV.1.2.1
  have hD := hV.2.1.1
  have hI := hV.2.2.1.1
  have hU := hV.2.2.2.1
  unfold X3_declaration sDcl
  rw [hF.2.1.1.2.1, needIndex_eq x (by omega), bi_eq, lit_n 6, needBelow_eq y (by decide), bi_eq]
  by_cases qx : inb x (tD T) = true
  · obtain ⟨a1, a2⟩ := inb_cl qx (by omega)
    rw [if_pos qx, if_pos qx, thr_r]
    by_cases qy : inb y 6 = true
    · rw [if_pos qy, if_pos qy, thr_r]
      generalize x.toNatClampNeg = j at a1 a2
      subst a2
      by_cases y0 : y = 0
      · rw [if_pos y0, if_pos y0, ck_nI (by omega) (by decide), (hF.2.1.2.2.1 j a1).1]
      rw [if_neg y0, if_neg y0]
      by_cases y1 : y = 1
      · rw [if_pos y1, if_pos y1, ck_nI (by omega) (by decide), (hF.2.1.2.2.1 j a1).2.1]
      rw [if_neg y1, if_neg y1]
      by_cases y2 : y = 2
      · rw [if_pos y2, if_pos y2, ck_nI (by omega) (by decide), (hF.2.1.2.2.1 j a1).2.2]
      rw [if_neg y2, if_neg y2]
      by_cases y3 : y = 3
      · rw [if_pos y3, if_pos y3, usesResolvedTo_eq hF (by omega), bi_eq, useR]
      rw [if_neg y3, if_neg y3]
      by_cases y4 : y = 4
      · rw [if_pos y4, if_pos y4, scopesThatOffer_eq hF (by omega), bi_eq]
      rw [if_neg y4, if_neg y4]
      rw [scopesThatSee_eq hF a1, bi_eq, seeR]
    · rw [if_neg qy, if_neg qy, thr_l]
  · rw [if_neg qx, if_neg qx, thr_l]
noncomputable def sUsd (T : TT) (x y : Int32) : String ⊕ Int32 := if inb x (tU T) = true then (if inb y 4 = true then .inr (if y = 0 then nI (uSc T x.toNatClampNeg) else if y = 1 then nI (uNm T x.toNatClampNeg) else if y = 2 then enc (only (outU T (offOf T) x.toNatClampNeg)) else nI (stU T (offOf T) x.toNatClampNeg)) else .inl xA) else .inl xI
theorem used_eq (h : CI μ T) (x y : Int32) : X3_used x y μ = some (sUsd T x y) := by
  have hF := h.2.1.1
  have hV := hF.1
  have h16 := hV.1.2.1
  have hD := hV.2.1.1
  have hI := hV.2.2.1.1
  have hU := hV.2.2.2.1
  unfold X3_used sUsd
  rw [hF.2.1.1.2.2.2, needIndex_eq x (by omega), bi_eq, lit_n 4, needBelow_eq y (by decide), bi_eq]
  by_cases qx : inb x (tU T) = true
  · obtain ⟨a1, a2⟩ := inb_cl qx (by omega)
    rw [if_pos qx, if_pos qx, thr_r]
    by_cases qy : inb y 4 = true
    · rw [if_pos qy, if_pos qy, thr_r]
      generalize x.toNatClampNeg = j at a1 a2
      subst a2
      by_cases y0 : y = 0
      · rw [if_pos y0, if_pos y0, ck_nI (by omega) (by decide), (hF.2.1.2.2.2.2 j a1).1]
      rw [if_neg y0, if_neg y0]
      by_cases y1 : y = 1
      · rw [if_pos y1, if_pos y1, ck_nI (by omega) (by decide), (hF.2.1.2.2.2.2 j a1).2]
      rw [if_neg y1, if_neg y1]
      by_cases y2 : y = 2
      · rw [if_pos y2, if_pos y2, outcome_eq hF a1, bi_eq, onlyOne_eq (outU_lt hV hF.2.2.2 a1), bi_eq]
      rw [if_neg y2, if_neg y2]
      rw [stateOfUse_eq hF a1, bi_eq]
    · rw [if_neg qy, if_neg qy, thr_l]
  · rw [if_neg qx, if_neg qx, thr_l]
noncomputable def sImd (T : TT) (x y : Int32) : String ⊕ Int32 := if inb x (tI T) = true then (if inb y 8 = true then .inr (if y = 0 then nI (iTo T x.toNatClampNeg) else if y = 1 then nI (iFr T x.toNatClampNeg) else if y = 2 then enc (iSr T x.toNatClampNeg) else if y = 3 then enc (iLo T x.toNatClampNeg) else if y = 4 then nI (iEx T x.toNatClampNeg) else if y = 5 then nI (iPs T x.toNatClampNeg) else if y = 6 then nI (prs T (offOf T) x.toNatClampNeg) else nI (loss T x.toNatClampNeg)) else .inl xA) else .inl xI
theorem imported_eq (h : CI μ T) (x y : Int32) : ∃ r, X3_imported x y μ = some r ∧ WR μ (sImd T x y, T) r := by
  have hF := h.2.1.1
  have hV := hF.1
  have h16 := hV.1.2.1
  have hD := hV.2.1.1
  have hI := hV.2.2.1.1
  have hU := hV.2.2.2.1
  unfold X3_imported sImd
  rw [hF.2.1.1.2.2.1, needIndex_eq x (by omega), bi_eq, lit_n 8, needBelow_eq y (by decide), bi_eq]
  by_cases qx : inb x (tI T) = true
  · obtain ⟨a1, a2⟩ := inb_cl qx (by omega)
    rw [if_pos qx, if_pos qx, thr_r]
    by_cases qy : inb y 8 = true
    · rw [if_pos qy, if_pos qy, thr_r]
      generalize x.toNatClampNeg = j at a1 a2
      subst a2
      by_cases y0 : y = 0
      · rw [if_pos y0, if_pos y0, ck_nI (by omega) (by decide), (hF.2.1.2.2.2.1 j a1).1]
        exact ⟨_, rfl, μ, rfl, h, frC_refl⟩
      rw [if_neg y0, if_neg y0]
      by_cases y1 : y = 1
      · rw [if_pos y1, if_pos y1, ck_nI (by omega) (by decide), (hF.2.1.2.2.2.1 j a1).2.1]
        exact ⟨_, rfl, μ, rfl, h, frC_refl⟩
      rw [if_neg y1, if_neg y1]
      by_cases y2 : y = 2
      · rw [if_pos y2, if_pos y2, ck_nI (by omega) (by decide), (hF.2.1.2.2.2.1 j a1).2.2.1]
        exact ⟨_, rfl, μ, rfl, h, frC_refl⟩
      rw [if_neg y2, if_neg y2]
      by_cases y3 : y = 3
      · rw [if_pos y3, if_pos y3, ck_nI (by omega) (by decide), (hF.2.1.2.2.2.1 j a1).2.2.2.1]
        exact ⟨_, rfl, μ, rfl, h, frC_refl⟩
      rw [if_neg y3, if_neg y3]
      by_cases y4 : y = 4
      · rw [if_pos y4, if_pos y4, ck_nI (by omega) (by decide), (hF.2.1.2.2.2.1 j a1).2.2.2.2.1]
        exact ⟨_, rfl, μ, rfl, h, frC_refl⟩
      rw [if_neg y4, if_neg y4]
      by_cases y5 : y = 5
      · rw [if_pos y5, if_pos y5, ck_nI (by omega) (by decide), (hF.2.1.2.2.2.1 j a1).2.2.2.2.2]
        exact ⟨_, rfl, μ, rfl, h, frC_refl⟩
      rw [if_neg y5, if_neg y5]
      by_cases y6 : y = 6
      · rw [if_pos y6, if_pos y6, pairsBrought_eq hF a1, bi_eq]
        exact ⟨_, rfl, μ, rfl, h, frC_refl⟩
      rw [if_neg y6, if_neg y6]
      
      obtain ⟨r, e, ν, rfl, c, f⟩ := lossWithout_eq h a1
      rw [e, bn_eq]
      exact ⟨_, rfl, ν, rfl, c, f⟩
    · rw [if_neg qy, if_neg qy, thr_l]
      exact ⟨_, rfl, μ, rfl, h, frC_refl⟩
  · rw [if_neg qx, if_neg qx, thr_l]
    exact ⟨_, rfl, μ, rfl, h, frC_refl⟩
noncomputable def cntV (T : TT) (x : Int32) : Int32 := if x = 0 then nI (tS T) else if x = 1 then nI (tD T) else if x = 2 then nI (tI T) else if x = 3 then nI (tU T) else if x = 4 then nI (stC T 0) else if x = 5 then nI (stC T 2 + stC T 3) else if x = 6 then nI (tD T) - nI (popc (reach T (offOf T))) else if x = 7 then nI (needless T) else if x = 8 then nI (vain T) else if x = 9 then nI (deep T) else nI (pairs T (offOf T))
noncomputable def sCnt (T : TT) (x : Int32) : String ⊕ Int32 := if inb x 11 = true then .inr (cntV T x) else .inl xA
theorem count_eq (h : CI μ T) (x : Int32) : ∃ r, X3_count x μ = some r ∧ WR μ (sCnt T x, T) r := by
  have hF := h.2.1.1
  have hV := hF.1
  unfold X3_count sCnt cntV
  rw [lit_n 11, needBelow_eq x (by decide), bi_eq]
  by_cases qx : inb x 11 = true
  · rw [if_pos qx, if_pos qx, thr_r]
    by_cases y0 : x = 0
    · rw [if_pos y0, if_pos y0, hF.2.1.1.1]
      exact ⟨_, rfl, μ, rfl, h, frC_refl⟩
    rw [if_neg y0, if_neg y0]
    by_cases y1 : x = 1
    · rw [if_pos y1, if_pos y1, hF.2.1.1.2.1]
      exact ⟨_, rfl, μ, rfl, h, frC_refl⟩
    rw [if_neg y1, if_neg y1]
    by_cases y2 : x = 2
    · rw [if_pos y2, if_pos y2, hF.2.1.1.2.2.1]
      exact ⟨_, rfl, μ, rfl, h, frC_refl⟩
    rw [if_neg y2, if_neg y2]
    by_cases y3 : x = 3
    · rw [if_pos y3, if_pos y3, hF.2.1.1.2.2.2]
      exact ⟨_, rfl, μ, rfl, h, frC_refl⟩
    rw [if_neg y3, if_neg y3]
    by_cases y4 : x = 4
    · rw [if_pos y4, if_pos y4, show (0 : Int32) = nI 0 from rfl, usesInState_eq hF (by decide), bi_eq, stC]
      exact ⟨_, rfl, μ, rfl, h, frC_refl⟩
    rw [if_neg y4, if_neg y4]
    by_cases y5 : x = 5
    · rw [if_pos y5, if_pos y5, show (2 : Int32) = nI 2 from rfl, usesInState_eq hF (by decide), bi_eq, show (3 : Int32) = nI 3 from rfl, usesInState_eq hF (by decide), bi_eq, nI_add, stC, stC]
      exact ⟨_, rfl, μ, rfl, h, frC_refl⟩
    rw [if_neg y5, if_neg y5]
    by_cases y6 : x = 6
    · rw [if_pos y6, if_pos y6, unusedDeclarations_eq hF, bi_eq]
      exact ⟨_, rfl, μ, rfl, h, frC_refl⟩
    rw [if_neg y6, if_neg y6]
    by_cases y7 : x = 7
    · obtain ⟨r, e, ν, rfl, c, f⟩ := importsWithoutLoss_eq h
      rw [if_pos y7, if_pos y7, e, bn_eq]
      exact ⟨_, rfl, ν, rfl, c, f⟩
    rw [if_neg y7, if_neg y7]
    by_cases y8 : x = 8
    · rw [if_pos y8, if_pos y8, vainSingleImports_eq hF, bi_eq, vain]
      exact ⟨_, rfl, μ, rfl, h, frC_refl⟩
    rw [if_neg y8, if_neg y8]
    by_cases y9 : x = 9
    · rw [if_pos y9, if_pos y9, greatestDepth_eq hV hF.2.1, bi_eq]
      exact ⟨_, rfl, μ, rfl, h, frC_refl⟩
    rw [if_neg y9, if_neg y9]
    rw [pairsOffered_eq hF, bi_eq]
    exact ⟨_, rfl, μ, rfl, h, frC_refl⟩
  · rw [if_neg qx, if_neg qx, thr_l]
    exact ⟨_, rfl, μ, rfl, h, frC_refl⟩
noncomputable def sOff (T : TT) (x y : Int32) : String ⊕ Int32 := if inb x (tS T) = true then (if inb y 26 = true then .inr (nI (popc (offOf T x.toNatClampNeg y.toNatClampNeg))) else .inl xA) else .inl xI
theorem offers_eq (h : CI μ T) (x y : Int32) : X3_offers x y μ = some (sOff T x y) := by
  have hF := h.2.1.1
  have h16 := hF.1.1.2.1
  unfold X3_offers sOff
  rw [hF.2.1.1.1, needIndex_eq x (by omega), bi_eq]
  by_cases qx : inb x (tS T) = true
  · obtain ⟨a1, a2⟩ := inb_cl qx (by omega)
    rw [if_pos qx, if_pos qx, thr_r, show X3_needBelow y 26 = _ from needBelow_eq y (n := 26) (by decide), bi_eq]
    by_cases qy : inb y 26 = true
    · obtain ⟨b1', b2⟩ := inb_cl qy (by omega)
      rw [if_pos qy, if_pos qy, thr_r]
      generalize x.toNatClampNeg = j at a1 a2
      generalize y.toNatClampNeg = n at b1' b2
      subst a2
      subst b2
      rw [cell_nI, ck_nI (by omega) (by decide), nI_clamp (by omega), (hF.2.2.1 j n (by omega) b1').1, bitCount_eq (hF.2.2.2 j n (by omega) b1'), bi_eq]
    · rw [if_neg qy, if_neg qy, thr_l]
  · rw [if_neg qx, if_neg qx, thr_l]
noncomputable def sVis (T : TT) (x b : Int32) : String ⊕ Int32 := if inb x (tS T) = true then .inr (nI (visM T x.toNatClampNeg b)) else .inl xI
theorem visible_eq (h : CI μ T) (x b : Int32) : X3_visible x b μ = some (sVis T x b) := by
  have hF := h.2.1.1
  have h16 := hF.1.1.2.1
  unfold X3_visible sVis
  rw [hF.2.1.1.1, needIndex_eq x (by omega), bi_eq]
  by_cases qx : inb x (tS T) = true
  · obtain ⟨a1, a2⟩ := inb_cl qx (by omega)
    rw [if_pos qx, if_pos qx, thr_r]
    generalize x.toNatClampNeg = j at a1 a2
    subst a2
    refine iq2 _ (fun m u3 u4 => ∃ n, n + m = 26 ∧ u3 = nI (orI (fun n => if (if b = 0 then popc (outc T (offOf T) j n) = 1 else 1 < popc (outc T (offOf T) j n)) then 2 ^ n else 0) n) ∧ u4 = nI n) ?_ big 26 _ _ (by decide) ⟨0, rfl, rfl, rfl⟩
    rintro kk m u3 u4 ⟨n, hm, rfl, rfl⟩ ih
    unfold X3_visible_l16 X3_visible_j57
    rw [show (26 : Int32) = nI 26 from rfl, ifLe (by decide) (by omega)]
    by_cases q : 26 ≤ n
    · rw [if_pos q, show n = 26 by omega]
      rfl
    · have hl := outc_lt hF.1 hF.2.2.2 (s := j) (n := n) (by omega)
      have hp := popc_le (outc T (offOf T) j n)
      have step : ∀ (c : Prop) [Decidable c], (c ↔ (if b = 0 then popc (outc T (offOf T) j n) = 1 else 1 < popc (outc T (offOf T) j n))) → (if c then kk (nI (orI (fun n => if (if b = 0 then popc (outc T (offOf T) j n) = 1 else 1 < popc (outc T (offOf T) j n)) then 2 ^ n else 0) n ||| 2 ^ n)) (nI (n + 1)) else kk (nI (orI (fun n => if (if b = 0 then popc (outc T (offOf T) j n) = 1 else 1 < popc (outc T (offOf T) j n)) then 2 ^ n else 0) n)) (nI (n + 1))) = some (.inr (nI (visM T j b))) := by
        intro c dc hc
        by_cases q2 : c
        · rw [if_pos q2]
          refine ih (m - 1) _ _ (by omega) ⟨n + 1, by omega, ?_, rfl⟩
          show _ = nI (_ ||| (if _ then _ else _))
          rw [if_pos (hc.mp q2)]
        · rw [if_neg q2]
          refine ih (m - 1) _ _ (by omega) ⟨n + 1, by omega, ?_, rfl⟩
          show _ = nI (_ ||| (if _ then _ else _))
          rw [if_neg (fun z => q2 (hc.mpr z)), Nat.or_zero]
      rw [if_neg q, firstLayer_eq hF a1 (by omega), bi_eq, bitCount_eq hl, bi_eq, one_pow (by omega), or_nI, bd_eq, nI_1, show (1 : Int32) = nI 1 from rfl, ifEq (by omega) (by decide), ifLe (by omega) (by decide)]
      by_cases qb : b = 0
      · rw [if_pos qb]
        exact step _ (by rw [if_pos qb])
      · rw [if_neg qb]
        have := step (1 < popc (outc T (offOf T) j n)) (by rw [if_neg qb])
        by_cases q3 : popc (outc T (offOf T) j n) ≤ 1
        · rw [if_pos q3]
          rw [if_neg (by omega)] at this
          exact this
        · rw [if_neg q3]
          rw [if_pos (by omega)] at this
          exact this
  · rw [if_neg qx, if_neg qx, thr_l]
theorem len_chn {T : TT} {X : OX} {n : Nat} : ∀ (k s st : Nat), (chn T X n k s st).length ≤ 3 * k
  | 0, _, _ => Nat.le_refl _
  | k + 1, s, st => by
    show (lay3 T X s n st ++ _).length ≤ _
    rw [List.length_append]
    have h1 : (lay3 T X s n st).length ≤ 3 := by
      have e : ∀ (c : Prop) [Decidable c] (t : Nat × Nat × Nat), (if c then ([] : List (Nat × Nat × Nat)) else [t]).length ≤ 1 := by
        intro c _ t
        split
        · exact Nat.zero_le _
        · exact Nat.le_refl _
      unfold lay3
      rw [List.length_append, List.length_append]
      have e0 := e (layM T X s n 0 = 0) (layM T X s n 0, 0, st)
      have e1 := e (layM T X s n 1 = 0) (layM T X s n 1, 1, st)
      have e2 := e (layM T X s n 2 = 0) (layM T X s n 2, 2, st)
      omega
    cases tPar T s with
    | none => show _ + 0 ≤ _; omega
    | some p => have := len_chn (T := T) (X := X) (n := n) k p (st + 1); show _ + (chn T X n k p (st + 1)).length ≤ _; omega
theorem len_lays {T : TT} {X : OX} (_ : VT T) {s n : Nat} : (lays T X s n).length ≤ 48 := len_chn 16 s 0
def lay0 (l : List (Nat × Nat × Nat)) (f : Nat × Nat × Nat → Nat) : Int32 := match l[0]? with
  | none => -1
  | some t => nI (f t)
noncomputable def sRes (T : TT) (x y z : Int32) : String ⊕ Int32 := if inb x (tS T) = true then (if inb y 26 = true then (if inb z 5 = true then .inr (if z = 0 then enc (only (outc T (offOf T) x.toNatClampNeg y.toNatClampNeg)) else if z = 1 then nI (popc (outc T (offOf T) x.toNatClampNeg y.toNatClampNeg)) else if z = 2 then lay0 (lays T (offOf T) x.toNatClampNeg y.toNatClampNeg) (fun t => t.2.1) else if z = 3 then lay0 (lays T (offOf T) x.toNatClampNeg y.toNatClampNeg) (fun t => t.2.2) else nI ((lays T (offOf T) x.toNatClampNeg y.toNatClampNeg).length - 1)) else .inl xA) else .inl xA) else .inl xI
theorem mem_lays {T : TT} {X : OX} {s n i : Nat} {t : Nat × Nat × Nat} (h : (lays T X s n)[i]? = some t) : ∃ p, t.2.2 < 16 ∧ t.2.1 < 3 ∧ anc T t.2.2 s = some p ∧ t.1 = layM T X p n t.2.1 ∧ t.1 ≠ 0 := by
  obtain ⟨e, p, h1, h2, h3, h4, h5, h6⟩ := mem_chn (List.mem_of_getElem? h)
  rw [Nat.zero_add] at h1
  exact ⟨p, by omega, h4, by rw [h1]; exact h2, h3, h5⟩
theorem resolve_eq (h : CI μ T) (x y z : Int32) : X3_resolve x y z μ = some (sRes T x y z) := by
  have hF := h.2.1.1
  have h16 := hF.1.1.2.1
  unfold X3_resolve sRes
  rw [hF.2.1.1.1, needIndex_eq x (by omega), bi_eq]
  by_cases qx : inb x (tS T) = true
  · obtain ⟨a1, a2⟩ := inb_cl qx (by omega)
    rw [if_pos qx, if_pos qx, thr_r, show X3_needBelow y 26 = _ from needBelow_eq y (n := 26) (by decide), bi_eq]
    by_cases qy : inb y 26 = true
    · obtain ⟨b1', b2⟩ := inb_cl qy (by omega)
      rw [if_pos qy, if_pos qy, thr_r, show X3_needBelow z 5 = _ from needBelow_eq z (n := 5) (by decide), bi_eq]
      by_cases qz : inb z 5 = true
      · rw [if_pos qz, if_pos qz, thr_r]
        generalize x.toNatClampNeg = j at a1 a2
        generalize y.toNatClampNeg = n at b1' b2
        subst a2
        subst b2
        have hl := outc_lt hF.1 hF.2.2.2 (s := j) b1'
        have hpl := placeOfLayer_eq hF a1 b1' (l := 0) (by decide)
        rw [show nI 0 = (0 : Int32) from rfl] at hpl
        rw [hpl, bi_eq]
        by_cases z0 : z = 0
        · rw [if_pos z0, if_pos z0, firstLayer_eq hF a1 b1', bi_eq, onlyOne_eq hl, bi_eq]
        rw [if_neg z0, if_neg z0]
        by_cases z1 : z = 1
        · rw [if_pos z1, if_pos z1, firstLayer_eq hF a1 b1', bi_eq, bitCount_eq hl, bi_eq]
        rw [if_neg z1, if_neg z1]
        have hpp : ∀ t, (lays T (offOf T) j n)[0]? = some t → t.2.2 < 16 ∧ t.2.1 < 3 := fun t ht => by
          obtain ⟨p, w1, w2, -⟩ := mem_lays ht
          exact ⟨w1, w2⟩
        by_cases z2 : z = 2
        · rw [if_pos z2, if_pos z2]
          unfold lay0
          cases hc : (lays T (offOf T) j n)[0]? with
          | none => rfl
          | some t =>
            obtain ⟨w1, w2⟩ := hpp t hc
            rw [show plI (some t) = nI (3 * t.2.2 + t.2.1) from rfl, if_neg (nI_ne_m1 (by omega)), rem3 (by omega), show (3 * t.2.2 + t.2.1) % 3 = t.2.1 by omega]
        rw [if_neg z2, if_neg z2]
        by_cases z3 : z = 3
        · rw [if_pos z3, if_pos z3]
          unfold lay0
          cases hc : (lays T (offOf T) j n)[0]? with
          | none => rfl
          | some t =>
            obtain ⟨w1, w2⟩ := hpp t hc
            rw [show plI (some t) = nI (3 * t.2.2 + t.2.1) from rfl, if_neg (nI_ne_m1 (by omega)), div3 (by omega), show (3 * t.2.2 + t.2.1) / 3 = t.2.2 by omega]
        rw [if_neg z3, if_neg z3, layersOf_eq hF a1 b1', bi_eq]
        cases hc : (lays T (offOf T) j n).length with
        | zero => rfl
        | succ k =>
          have hk : k < 2 ^ 31 := by
            have := len_lays hF.1 (X := offOf T) (s := j) (n := n)
            omega
          rw [show (1 : Int32) = nI 1 from rfl, nI_sb (by omega), Nat.add_sub_cancel, show (0 : Int32) = nI 0 from rfl, ifLt (by decide) hk]
          by_cases q : 0 < k
          · rw [if_pos q]
          · rw [if_neg q, show k = 0 by omega]
      · rw [if_neg qz, if_neg qz, thr_l]
    · rw [if_neg qy, if_neg qy, thr_l]
  · rw [if_neg qx, if_neg qx, thr_l]
noncomputable def sCan (T : TT) (x y l i : Int32) : String ⊕ Int32 := if inb x (tS T) = true then (if inb y 26 = true then .inr (if l < 0 then -1 else match (lays T (offOf T) x.toNatClampNeg y.toNatClampNeg)[l.toNatClampNeg]? with
    | none => -1
    | some t => enc (nthI t.1 i)) else .inl xA) else .inl xI
theorem nonneg_of {l : Int32} (h : ¬ l < 0) : l.toNatClampNeg < 2 ^ 31 ∧ l = nI l.toNatClampNeg := by
  have : inb l (2 ^ 31 - 1) = true ∨ l = nI (2 ^ 31 - 1) := by
    by_cases q : nI (2 ^ 31 - 1) ≤ l
    · refine Or.inr ?_
      have h1 : l.toInt ≤ 2 ^ 31 - 1 := by have := Int32.toInt_lt l; omega
      have h2 : (nI (2 ^ 31 - 1)).toInt ≤ l.toInt := Int32.le_iff_toInt_le.mp q
      rw [nI_toInt (by decide)] at h2
      exact Int32.toInt_inj.mp (by rw [nI_toInt (by decide)]; omega)
    · exact Or.inl (inb_in (by decide) h q)
  rcases this with q | q
  · obtain ⟨w1, w2⟩ := inb_cl q (by decide)
    exact ⟨by omega, w2⟩
  · rw [q, nI_clamp (by decide)]
    exact ⟨by decide, rfl⟩
theorem candidate_eq (h : CI μ T) (x y l i : Int32) : X3_candidate x y l i μ = some (sCan T x y l i) := by
  have hF := h.2.1.1
  have h16 := hF.1.1.2.1
  unfold X3_candidate sCan X3_candidate_j35
  rw [hF.2.1.1.1, needIndex_eq x (by omega), bi_eq]
  by_cases qx : inb x (tS T) = true
  · obtain ⟨a1, a2⟩ := inb_cl qx (by omega)
    rw [if_pos qx, if_pos qx, thr_r, show X3_needBelow y 26 = _ from needBelow_eq y (n := 26) (by decide), bi_eq]
    by_cases qy : inb y 26 = true
    · obtain ⟨b1', b2⟩ := inb_cl qy (by omega)
      rw [if_pos qy, if_pos qy, thr_r]
      generalize x.toNatClampNeg = j at a1 a2
      generalize y.toNatClampNeg = n at b1' b2
      subst a2
      subst b2
      by_cases ql : l < 0
      · rw [if_pos ql, if_neg (Int32.not_le.mpr ql), if_pos rfl]
      · obtain ⟨c1, c2⟩ := nonneg_of ql
        rw [if_neg ql, if_pos (Int32.not_lt.mp ql)]
        generalize l.toNatClampNeg = k at c1 c2
        subst c2
        rw [placeOfLayer_eq hF a1 b1' c1, bi_eq]
        cases hc : (lays T (offOf T) j n)[k]? with
        | none => rfl
        | some t =>
          obtain ⟨p, w1, w2, w3, w4, w5⟩ := mem_lays hc
          rw [show plI (some t) = nI (3 * t.2.2 + t.2.1) from rfl, if_neg (nI_ne_m1 (by omega)), layerAt_eq hF a1 b1' w2 w1 w3, bi_eq, nthOf_eq (hF.lt b1' t.2.1), bi_eq, ← w4]
    · rw [if_neg qy, if_neg qy, thr_l]
  · rw [if_neg qx, if_neg qx, thr_l]
end RQ
