/-! ===== the model's asking methods ===== -/
noncomputable def rslV (T : TT) (s n : Nat) (z : Int32) : Int32 := if z = 0 then enc (only (outc T (offOf T) s n)) else if z = 1 then nI (popc (outc T (offOf T) s n)) else if z = 2 then lay0 (lays T (offOf T) s n) (fun t => t.2.1) else if z = 3 then lay0 (lays T (offOf T) s n) (fun t => t.2.2) else nI ((lays T (offOf T) s n).length - 1)
noncomputable def canV (T : TT) (s n : Nat) (l i : Int32) : Int32 := if l < 0 then -1 else match (lays T (offOf T) s n)[l.toNatClampNeg]? with
    | none => -1
    | some t => enc (nthI t.1 i)
theorem nthB_more {m i a : Nat} (h : ∀ d, a ≤ d → m.testBit d = false) : ∀ {b : Nat}, a ≤ b → nthB m i b = nthB m i a
  | 0, hb => by rw [show a = 0 by omega]
  | b + 1, hb => by
    by_cases q : a = b + 1
    · rw [q]
    · have e : nthB m i (b + 1) = if m.testBit b = true ∧ fb_ct (fun d => m.testBit d) b = i then some b else nthB m i b := rfl
      rw [e, if_neg (fun z => by rw [h b (by omega)] at z; cases z.1)]
      exact nthB_more h (by omega)
theorem sub0 {k c : Nat} (hk : k < 2 ^ 31) (hc : c < 2 ^ 31) : (nI k - nI c = 0) ↔ k = c := by
  constructor
  · intro h
    have h2 : nI k - nI c + nI c = 0 + nI c := by rw [h]
    rw [Int32.sub_add_cancel, Int32.zero_add] at h2
    exact (nI_eq hk hc).mp h2
  · rintro rfl
    exact Int32.sub_self _
theorem sub_step (k c : Nat) : nI k - nI c + (-1) = nI k - nI (c + 1) := by
  rw [← nI_1, ← Int32.sub_sub, Int32.sub_eq_add_neg (nI k - nI c) 1]
section MQ
variable {μ : Mm} {T : TT}
theorem resolved_eq (h : MI μ T) {s n : Nat} (hs : s < tS T) (hn : n < 26) {z : Int32} (hz : inb z 5 = true) : ∃ r, X4_resolved (nI s) (nI n) z μ = some r ∧ (∃ ν, r = (rslV T s n z, ν) ∧ MI ν T ∧ frZ μ ν) := by
  obtain ⟨ν, e, l, f, hLS⟩ := layLayers_eq h hs hn
  have hlen := len_lays (X := offOf T) h.1 (s := s) (n := n)
  have fin : ∀ v, v = rslV T s n z → ∃ r, some (v, ν) = some r ∧ (∃ ν, r = (rslV T s n z, ν) ∧ MI ν T ∧ frZ μ ν) := by
    rintro v rfl
    exact ⟨_, rfl, ν, rfl, ML_MI l, frW_Z (frS_W f)⟩
  have ho : outc T (offOf T) s n = match (lays T (offOf T) s n)[0]? with
    | none => 0
    | some t => t.1 := hd_get _
  unfold X4_resolved
  rw [e, bi_eq]
  obtain ⟨j, hj, rfl⟩ := inb_of hz (by decide)
  have hcase : j = 0 ∨ j = 1 ∨ j = 2 ∨ j = 3 ∨ j = 4 := by omega
  cases hc : lays T (offOf T) s n with
  | nil =>
    rw [hc] at ho hLS
    have ho' : outc T (offOf T) s n = 0 := ho
    have e7 : ν.1 45 7 = 0 := hLS.1
    rw [e7]
    rcases hcase with rfl | rfl | rfl | rfl | rfl
    · rw [if_pos (by decide), if_pos rfl]
      refine fin _ ?_
      unfold rslV
      rw [if_pos (by decide), ho']
      unfold only
      rw [if_neg (by decide)]
      rfl
    · rw [if_neg (by decide), if_pos (by decide), if_pos rfl]
      refine fin _ ?_
      unfold rslV
      rw [if_neg (by decide), if_pos (by decide), ho']
      decide
    · rw [if_neg (by decide), if_neg (by decide), if_pos (by decide), if_pos rfl]
      refine fin _ ?_
      unfold rslV
      rw [if_neg (by decide), if_neg (by decide), if_pos (by decide), hc]
      rfl
    · rw [if_neg (by decide), if_neg (by decide), if_neg (by decide), if_pos (by decide), if_pos rfl]
      refine fin _ ?_
      unfold rslV
      rw [if_neg (by decide), if_neg (by decide), if_neg (by decide), if_pos (by decide), hc]
      rfl
    · rw [if_neg (by decide), if_neg (by decide), if_neg (by decide), if_neg (by decide), if_pos rfl]
      refine fin _ ?_
      unfold rslV
      rw [if_neg (by decide), if_neg (by decide), if_neg (by decide), if_neg (by decide), hc]
      rfl
  | cons t ts =>
    obtain ⟨p, w1, w2, w3, w4, w5⟩ := mem_lays (T := T) (X := offOf T) (s := s) (n := n) (i := 0) (t := t) (by rw [hc]; rfl)
    have hlt : t.1 < 2 ^ 30 := by rw [w4]; exact layM_lt h.1 (MI_off h).1 p hn _
    rw [hc] at ho hLS hlen
    have ho' : outc T (offOf T) s n = t.1 := ho
    have e7 : ν.1 45 7 = nI (ts.length + 1) := hLS.1
    have hl48 : ts.length + 1 ≤ 48 := hlen
    have ne0 : ¬ (nI (ts.length + 1) : Int32) = 0 := fun z => by
      have := (nI_eq (a := ts.length + 1) (b := 0) (by omega) (by decide)).mp z
      omega
    obtain ⟨g1, g2, g3⟩ := hLS.2 0 t rfl
    rw [e7]
    rcases hcase with rfl | rfl | rfl | rfl | rfl
    · rw [if_pos (by decide), if_neg ne0, show ck (0 : Int32) 48 = ck (nI 0) 48 from rfl, ck_nI (by decide) (by decide), show (0 : Int32).toNatClampNeg = 0 from rfl, g1, onlyM_eq hlt, bi_eq]
      refine fin _ ?_
      unfold rslV
      rw [if_pos (by decide), ho']
    · rw [if_neg (by decide), if_pos (by decide), if_neg ne0, show ck (0 : Int32) 48 = ck (nI 0) 48 from rfl, ck_nI (by decide) (by decide), show (0 : Int32).toNatClampNeg = 0 from rfl, g1, bits_eq (lt31 hlt), bi_eq]
      refine fin _ ?_
      unfold rslV
      rw [if_neg (by decide), if_pos (by decide), ho']
    · rw [if_neg (by decide), if_neg (by decide), if_pos (by decide), if_neg ne0, show ck (0 : Int32) 48 = ck (nI 0) 48 from rfl, ck_nI (by decide) (by decide), show (0 : Int32).toNatClampNeg = 0 from rfl, g2]
      refine fin _ ?_
      unfold rslV
      rw [if_neg (by decide), if_neg (by decide), if_pos (by decide), hc]
      rfl
    · rw [if_neg (by decide), if_neg (by decide), if_neg (by decide), if_pos (by decide), if_neg ne0, show ck (0 : Int32) 48 = ck (nI 0) 48 from rfl, ck_nI (by decide) (by decide), show (0 : Int32).toNatClampNeg = 0 from rfl, g3]
      refine fin _ ?_
      unfold rslV
      rw [if_neg (by decide), if_neg (by decide), if_neg (by decide), if_pos (by decide), hc]
      rfl
    · rw [if_neg (by decide), if_neg (by decide), if_neg (by decide), if_neg (by decide), if_neg ne0]
      refine fin _ ?_
      unfold rslV
      rw [if_neg (by decide), if_neg (by decide), if_neg (by decide), if_neg (by decide), hc, show (1 : Int32) = nI 1 from rfl, nI_sb (by omega)]
      rfl
theorem candidateOf_eq (h : MI μ T) {s n : Nat} (hs : s < tS T) (hn : n < 26) (l i : Int32) : ∃ r, X4_candidateOf (nI s) (nI n) l i μ = some r ∧ (∃ ν, r = (canV T s n l i, ν) ∧ MI ν T ∧ frZ μ ν) := by
  obtain ⟨ν, e, l0, f, hLS⟩ := layLayers_eq h hs hn
  have hlen := len_lays (X := offOf T) h.1 (s := s) (n := n)
  have hD := h.1.2.1.1
  have fin : ∀ v, v = canV T s n l i → ∃ r, some (v, ν) = some r ∧ (∃ ν, r = (canV T s n l i, ν) ∧ MI ν T ∧ frZ μ ν) := by
    rintro v rfl
    exact ⟨_, rfl, ν, rfl, ML_MI l0, frW_Z (frS_W f)⟩
  unfold X4_candidateOf
  rw [e, bi_eq, hLS.1, within0 l (by omega), bi_eq]
  by_cases q : inb l (lays T (offOf T) s n).length = true
  · obtain ⟨k, hk, rfl⟩ := inb_of q (by omega)
    rw [if_pos q, if_neg one0]
    have hg : (lays T (offOf T) s n)[k]? = some ((lays T (offOf T) s n)[k]) := List.getElem?_eq_getElem hk
    generalize (lays T (offOf T) s n)[k] = t at hg
    obtain ⟨p, w1, w2, w3, w4, w5⟩ := mem_lays hg
    have hlt : t.1 < 2 ^ 30 := by rw [w4]; exact layM_lt h.1 (MI_off h).1 p hn _
    have hmask : ∀ d, tD T ≤ d → t.1.testBit d = false := fun d hd => by
      cases hb : t.1.testBit d with
      | false => rfl
      | true =>
        rw [w4] at hb
        have := lay_mask h.1 (MI_off h) p hn _ d hb
        unfold dMask at this
        rw [Nat.testBit_two_pow_sub_one, decide_eq_true_eq] at this
        omega
    have ev : canV T s n (nI k) i = enc (nthI t.1 i) := by
      unfold canV
      rw [if_neg (nI_pos (by omega)), nI_clamp (by omega), hg]
    by_cases qi : i < 0
    · rw [if_neg (Int32.not_le.mpr qi)]
      refine fin _ ?_
      rw [ev]
      unfold nthI
      rw [if_pos qi]
      rfl
    · rw [if_pos (Int32.not_lt.mp qi)]
      obtain ⟨c1, c2⟩ := nonneg_of qi
      generalize i.toNatClampNeg = a at c1 c2
      subst c2
      have ev2 : canV T s n (nI k) (nI a) = enc (nthB t.1 a (tD T)) := by
        rw [ev]
        unfold nthI
        rw [if_neg qi, nI_clamp c1, nthB_more hmask hD]
      refine it3m _ (fun m v5 v6 v7 ξ => ∃ d, d + m = tD T ∧ v5 = nI a - nI (fb_ct (fun d => t.1.testBit d) d) ∧ v6 = enc (nthB t.1 a d) ∧ v7 = nI d ∧ ξ = ν) ?_ big (tD T) _ _ _ ν (by unfold big; omega) ⟨0, by omega, by rw [show nI (fb_ct (fun d => t.1.testBit d) 0) = 0 from rfl, Int32.sub_zero], rfl, rfl, rfl⟩
      rintro kk m v5 v6 v7 ξ ⟨d, hm, rfl, rfl, rfl, rfl⟩ ih
      have hle : fb_ct (fun d => t.1.testBit d) d ≤ d := fb_ct_le _ d
      unfold X4_candidateOf_l37
      rw [show ck (1 : Int32) 290 = ck (nI 1) 290 from rfl, ck_nI (by decide) (by decide), show (1 : Int32).toNatClampNeg = 1 from rfl, l0.2.1.1.2.1, ifLe (by omega) (by omega)]
      by_cases q2 : tD T ≤ d
      · rw [if_pos q2]
        refine fin _ ?_
        rw [ev2, show d = tD T by omega]
      · have en : nthB t.1 a (d + 1) = if t.1.testBit d = true ∧ fb_ct (fun d => t.1.testBit d) d = a then some d else nthB t.1 a d := rfl
        rw [if_neg q2, ck_nI (by omega) (by decide), nI_clamp (by omega), (hLS.2 k t hg).1, bit1 (lt31 hlt) (by omega), nI_1]
        by_cases q3 : t.1.testBit d = true
        · rw [if_pos q3, sub_step, bd_eq]
          refine ih (m - 1) _ _ _ _ (by omega) ⟨d + 1, by omega, by rw [ct_bool, q3]; rfl, ?_, rfl, rfl⟩
          rw [en]
          by_cases q4 : fb_ct (fun d => t.1.testBit d) d = a
          · rw [if_pos ((sub0 c1 (by omega)).mpr q4.symm), if_pos ⟨q3, q4⟩]
            rfl
          · rw [if_neg (fun z => q4 ((sub0 c1 (by omega)).mp z).symm), if_neg (fun z => q4 z.2)]
        · rw [if_neg q3]
          refine ih (m - 1) _ _ _ _ (by omega) ⟨d + 1, by omega, ?_, ?_, rfl, rfl⟩
          · rw [ct_bool, show t.1.testBit d = false by revert q3; cases t.1.testBit d <;> simp]
            rfl
          · rw [en, if_neg (fun z => q3 z.1)]
  · rw [if_neg q, if_pos zero0]
    refine fin _ ?_
    unfold canV
    by_cases ql : l < 0
    · rw [if_pos ql]
    · rw [if_neg ql]
      obtain ⟨c1, c2⟩ := nonneg_of ql
      generalize l.toNatClampNeg = k at c1 c2
      subst c2
      rw [inb_nI c1, decide_eq_true_eq] at q
      rw [List.getElem?_eq_none (by omega)]
theorem visibleM_eq (h : MI μ T) (x b : Int32) : ∃ r, X4_visible x b μ = some r ∧ MA μ cIAS (sVis T x b, T) r := by
  have h16 := h.1.1.2.1
  unfold X4_visible sVis
  rw [isScope_eq h.1 h.2.1, bi_eq]
  by_cases q : inb x (tS T) = true
  · obtain ⟨a1, a2⟩ := inb_cl q (by omega)
    rw [if_pos q, if_pos q]
    refine gd_yes h (by decide) (fun μ' h' => ?_)
    obtain ⟨r, e, ν, rfl, l⟩ := seen_eq h' a1 b
    rw [← a2] at e
    rw [bn_id]
    exact ⟨_, e, ν, rfl, SsZ l⟩
  · rw [if_neg q, if_neg q]
    exact gd_no h (k := 1) (by decide) (by decide) n1le _
theorem declarationM_eq (h : MI μ T) (x y : Int32) : ∃ r, X4_declaration x y μ = some r ∧ MA μ cIAS (sDcl T x y, T) r := by
  have hD := h.1.2.1.1
  unfold X4_declaration X4_declaration_j27 sDcl
  rw [isDeclaration_eq h.1 h.2.1, bi_eq]
  by_cases q : inb x (tD T) = true
  · obtain ⟨a1, a2⟩ := inb_cl q (by omega)
    rw [if_pos q, if_pos q, if_neg one0, show X4_within y 0 5 = _ from within0 y (n := 6) (by decide), bi_eq]
    by_cases qy : inb y 6 = true
    · rw [if_pos qy, if_pos qy]
      refine gd_yes h (by decide) (fun μ' h' => ?_)
      obtain ⟨r, e, ν, rfl, l⟩ := declarationNow_eq h' a1 qy
      rw [← a2] at e
      rw [bn_id]
      exact ⟨_, e, ν, rfl, SwZ l⟩
    · rw [if_neg qy, if_neg qy]
      exact gd_no h (k := 2) (by decide) (by decide) n2le _
  · rw [if_neg q, if_neg q, if_pos zero0]
    exact gd_no h (k := 1) (by decide) (by decide) n1le _
theorem importedM_eq (h : MI μ T) (x y : Int32) : ∃ r, X4_imported x y μ = some r ∧ MA μ cIAS (sImd T x y, T) r := by
  have hI := h.1.2.2.1.1
  unfold X4_imported X4_imported_j36 sImd
  rw [show ck (2 : Int32) 290 = ck (nI 2) 290 from rfl, ck_nI (by decide) (by decide), show (2 : Int32).toNatClampNeg = 2 from rfl, h.2.1.1.2.2.1, within0 x (by omega), bi_eq]
  by_cases q : inb x (tI T) = true
  · obtain ⟨a1, a2⟩ := inb_cl q (by omega)
    rw [if_pos q, if_pos q, if_neg one0, show X4_within y 0 7 = _ from within0 y (n := 8) (by decide), bi_eq]
    by_cases qy : inb y 8 = true
    · rw [if_pos qy, if_pos qy]
      refine gd_yes h (by decide) (fun μ' h' => ?_)
      obtain ⟨r, e, ν, rfl, l⟩ := importNow_eq h' a1 qy
      rw [← a2] at e
      rw [bn_id]
      exact ⟨_, e, ν, rfl, SwZ l⟩
    · rw [if_neg qy, if_neg qy]
      exact gd_no h (k := 2) (by decide) (by decide) n2le _
  · rw [if_neg q, if_neg q, if_pos zero0]
    exact gd_no h (k := 1) (by decide) (by decide) n1le _
theorem usedM_eq (h : MI μ T) (x y : Int32) : ∃ r, X4_used x y μ = some r ∧ MA μ cIAS (sUsd T x y, T) r := by
  have hU := h.1.2.2.2.1
  unfold X4_used X4_used_j35 sUsd
  rw [show ck (3 : Int32) 290 = ck (nI 3) 290 from rfl, ck_nI (by decide) (by decide), show (3 : Int32).toNatClampNeg = 3 from rfl, h.2.1.1.2.2.2, within0 x (by omega), bi_eq]
  by_cases q : inb x (tU T) = true
  · obtain ⟨a1, a2⟩ := inb_cl q (by omega)
    rw [if_pos q, if_pos q, if_neg one0, show X4_within y 0 3 = _ from within0 y (n := 4) (by decide), bi_eq]
    by_cases qy : inb y 4 = true
    · rw [if_pos qy, if_pos qy]
      refine gd_yes h (by decide) (fun μ' h' => ?_)
      obtain ⟨r, e, ν, rfl, l⟩ := useNow_eq h' a1 qy
      rw [← a2] at e
      rw [bn_id]
      exact ⟨_, e, ν, rfl, SwZ l⟩
    · rw [if_neg qy, if_neg qy]
      exact gd_no h (k := 2) (by decide) (by decide) n2le _
  · rw [if_neg q, if_neg q, if_pos zero0]
    exact gd_no h (k := 1) (by decide) (by decide) n1le _
theorem countM_eq (h : MI μ T) (x : Int32) : ∃ r, X4_count x μ = some r ∧ MA μ cAI (sCnt T x, T) r := by
  unfold X4_count sCnt
  rw [show X4_within x 0 10 = _ from within0 x (n := 11) (by decide), bi_eq]
  by_cases q : inb x 11 = true
  · rw [if_pos q, if_pos q]
    refine gd_yes h (by decide) (fun μ' h' => ?_)
    obtain ⟨r, e, ν, rfl, l⟩ := counted_eq h' q
    rw [bn_id]
    exact ⟨_, e, ν, rfl, SwZ l⟩
  · rw [if_neg q, if_neg q]
    exact gd_no h (k := 1) (by decide) (by decide) n1le _
theorem parentM_eq (h : MI μ T) (x : Int32) : ∃ r, X4_parent x μ = some r ∧ MA μ cIAS (sPar T x, T) r := by
  have h16 := h.1.1.2.1
  unfold X4_parent sPar
  rw [isScope_eq h.1 h.2.1, bi_eq]
  by_cases q : inb x (tS T) = true
  · obtain ⟨a1, a2⟩ := inb_cl q (by omega)
    rw [if_pos q, if_pos q]
    refine gd_yes h (by decide) (fun μ' h' => ?_)
    generalize x.toNatClampNeg = j at a1 a2
    subst a2
    rw [show (4 : Int32) + nI j = nI (4 + j) from nI_add 4 j, ck_nI (by omega) (by decide), nI_clamp (by omega), h'.2.1.2.1 j a1]
    exact ⟨_, rfl, μ', rfl, h', frZ_refl⟩
  · rw [if_neg q, if_neg q]
    exact gd_no h (k := 1) (by decide) (by decide) n1le _
theorem offersM_eq (h : MI μ T) (x y : Int32) : ∃ r, X4_offers x y μ = some r ∧ MA μ cIAS (sOff T x y, T) r := by
  have h16 := h.1.1.2.1
  unfold X4_offers X4_offers_j25 sOff
  rw [isScope_eq h.1 h.2.1, bi_eq]
  by_cases q : inb x (tS T) = true
  · obtain ⟨a1, a2⟩ := inb_cl q (by omega)
    rw [if_pos q, if_pos q, if_neg one0, isNameM_eq, bi_eq]
    by_cases qy : inb y 26 = true
    · obtain ⟨b1', b2⟩ := inb_cl qy (by omega)
      rw [if_pos qy, if_pos qy]
      refine gd_yes h (by decide) (fun μ' h' => ?_)
      obtain ⟨ν, e, l, f⟩ := layM_eq h'
      generalize x.toNatClampNeg = j at a1 a2
      generalize y.toNatClampNeg = n at b1' b2
      subst a2
      subst b2
      rw [e, bi_eq, offer_eq l.2.2.2.1 (by omega) b1', bi_eq, bits_eq (lt31 (l.2.2.2.2.1 _ _ (by omega) b1')), bi_eq]
      exact ⟨_, rfl, ν, rfl, ML_MI l, frW_Z (frS_W f)⟩
    · rw [if_neg qy, if_neg qy]
      exact gd_no h (k := 2) (by decide) (by decide) n2le _
  · rw [if_neg q, if_neg q, if_pos zero0]
    exact gd_no h (k := 1) (by decide) (by decide) n1le _
theorem resolveM_eq (h : MI μ T) (x y z : Int32) : ∃ r, X4_resolve x y z μ = some r ∧ MA μ cIAS (sRes T x y z, T) r := by
  have h16 := h.1.1.2.1
  unfold X4_resolve X4_resolve_j33 X4_resolve_j34 sRes
  rw [isScope_eq h.1 h.2.1, bi_eq]
  by_cases q : inb x (tS T) = true
  · obtain ⟨a1, a2⟩ := inb_cl q (by omega)
    rw [if_pos q, if_pos q, if_neg one0, isNameM_eq, bi_eq]
    by_cases qy : inb y 26 = true
    · obtain ⟨b1', b2⟩ := inb_cl qy (by omega)
      rw [if_pos qy, if_pos qy, if_neg one0, show X4_within z 0 4 = _ from within0 z (n := 5) (by decide), bi_eq]
      by_cases qz : inb z 5 = true
      · rw [if_pos qz, if_pos qz]
        refine gd_yes h (by decide) (fun μ' h' => ?_)
        obtain ⟨r, e, ν, rfl, i1, f1⟩ := resolved_eq h' a1 b1' qz
        rw [← a2, ← b2] at e
        rw [bn_id]
        exact ⟨_, e, ν, rfl, i1, f1⟩
      · rw [if_neg qz, if_neg qz]
        exact gd_no h (k := 2) (by decide) (by decide) n2le _
    · rw [if_neg qy, if_neg qy, if_pos zero0]
      exact gd_no h (k := 2) (by decide) (by decide) n2le _
  · rw [if_neg q, if_neg q, if_pos zero0]
    exact gd_no h (k := 1) (by decide) (by decide) n1le _
theorem candidateM_eq (h : MI μ T) (x y l i : Int32) : ∃ r, X4_candidate x y l i μ = some r ∧ MA μ cIAS (sCan T x y l i, T) r := by
  have h16 := h.1.1.2.1
  unfold X4_candidate X4_candidate_j25 sCan
  rw [isScope_eq h.1 h.2.1, bi_eq]
  by_cases q : inb x (tS T) = true
  · obtain ⟨a1, a2⟩ := inb_cl q (by omega)
    rw [if_pos q, if_pos q, if_neg one0, isNameM_eq, bi_eq]
    by_cases qy : inb y 26 = true
    · obtain ⟨b1', b2⟩ := inb_cl qy (by omega)
      rw [if_pos qy, if_pos qy]
      refine gd_yes h (by decide) (fun μ' h' => ?_)
      obtain ⟨r, e, ν, rfl, i1, f1⟩ := candidateOf_eq h' a1 b1' l i
      rw [← a2, ← b2] at e
      rw [bn_id]
      exact ⟨_, e, ν, rfl, i1, f1⟩
    · rw [if_neg qy, if_neg qy]
      exact gd_no h (k := 2) (by decide) (by decide) n2le _
  · rw [if_neg q, if_neg q, if_pos zero0]
    exact gd_no h (k := 1) (by decide) (by decide) n1le _
end MQ
