/-! ===== the model renames: its row ===== -/
theorem isSingle_raw {ν : Mm} {i : Nat} {o : Option Nat} (hi : i < 20) (hz : ν.1 46 (110 + 6 * i + 2) = enc o) (ho : ∀ x, o = some x → x < 2 ^ 31) : X4_isSingle (nI i) ν = some (nI (if o.isSome = true then 1 else 0)) := by
  unfold X4_isSingle
  rw [show X4_at (nI i) 2 ν = _ from at_eq (j := 2) hi (by decide), bi_eq, hz]
  cases o with
  | none => rfl
  | some a => rw [show enc (some a) = nI a from rfl, if_neg (nI_ne_m1 (ho a rfl))]; rfl
theorem useName_raw {ν : Mm} {u : Nat} (hu : u < 30) : X4_useName (nI u) ν = some (ν.1 46 (230 + 2 * u + 1)) := by
  unfold X4_useName
  rw [lit_n 230, lit_n 2, pk_mul, nI_add, nI_1, ck_nI (by omega) (by decide), nI_clamp (by omega)]
def bdT (T : TT) : Prop := tS T ≤ 16 ∧ tD T ≤ 30 ∧ tI T ≤ 20 ∧ tU T ≤ 30
theorem VT_bd {T : TT} (h : VT T) : bdT T := ⟨h.1.2.1, h.2.1.1, h.2.2.1.1, h.2.2.2.1⟩
theorem MF_extT {μ : Mm} {T T' : TT} (h : MF μ T) (e0 : T'.1 = T.1) (e1 : T'.2.1 = T.2.1) (e2 : ∀ d, d < tD T → T'.2.2.1 d = T.2.2.1 d) (e3 : ∀ i, i < tI T → T'.2.2.2.1 i = T.2.2.2.1 i) (e4 : ∀ u, u < tU T → T'.2.2.2.2 u = T.2.2.2.2 u) : MF μ T' := by
  unfold MF tS tD tI tU tPar dSc dNm dPb iTo iFr iSr iLo iEx iPs uSc uNm at h ⊢
  rw [e0, e1]
  refine ⟨h.1, h.2.1, fun d hd => ?_, fun i hi => ?_, fun u hu => ?_⟩
  · rw [e2 d hd]; exact h.2.2.1 d hd
  · rw [e3 i hi]; exact h.2.2.2.1 i hi
  · rw [e4 u hu]; exact h.2.2.2.2 u hu
theorem MF_impI {ν ν' : Mm} {i : Nat} {T1 T2 : TT} (hb : bdT T1) (hi9 : i < tI T1) (h : MF ν T1) (e0 : T2.1 = T1.1) (e1 : T2.2.1 = T1.2.1) (e2 : T2.2.2.1 = T1.2.2.1) (e4 : T2.2.2.2.2 = T1.2.2.2.2) (hg : ∀ j, j ≠ i → T2.2.2.2.1 j = T1.2.2.2.1 j) (hv : ∀ j, ¬ (110 + 6 * i ≤ j ∧ j < 110 + 6 * i + 6) → ν'.1 46 j = ν.1 46 j)
    (hr : ν'.1 46 (110 + 6 * i) = nI (iTo T2 i) ∧ ν'.1 46 (110 + 6 * i + 1) = nI (iFr T2 i) ∧ ν'.1 46 (110 + 6 * i + 2) = enc (iSr T2 i) ∧ ν'.1 46 (110 + 6 * i + 3) = enc (iLo T2 i) ∧ ν'.1 46 (110 + 6 * i + 4) = nI (iEx T2 i) ∧ ν'.1 46 (110 + 6 * i + 5) = nI (iPs T2 i)) : MF ν' T2 := by
  obtain ⟨b1, b2, b3, b4⟩ := hb
  obtain ⟨⟨c1, c2, c3, c4⟩, hs, hd, hi, hu⟩ := h
  unfold tS tD tI tU tPar dSc dNm dPb iTo iFr iSr iLo iEx iPs uSc uNm at *
  refine ⟨⟨?_, ?_, ?_, ?_⟩, fun s h1 => ?_, fun d h1 => ?_, fun j h1 => ?_, fun u h1 => ?_⟩
  · rw [hv _ (by omega), c1]; unfold tS; rw [e0]
  · rw [hv _ (by omega), c2]; unfold tD; rw [e0]
  · rw [hv _ (by omega), c3]; unfold tI; rw [e0]
  · rw [hv _ (by omega), c4]; unfold tU; rw [e0]
  · unfold tS at h1; rw [e0] at h1
    rw [hv _ (by omega), hs s h1]; unfold tPar; rw [e1]
  · unfold tD at h1; rw [e0] at h1
    rw [hv _ (by omega), hv _ (by omega), hv _ (by omega)]; unfold dSc dNm dPb; rw [e2]; exact hd d h1
  · unfold tI at h1; rw [e0] at h1
    by_cases q : j = i
    · subst q; exact hr
    · rw [hv _ (by omega), hv _ (by omega), hv _ (by omega), hv _ (by omega), hv _ (by omega), hv _ (by omega)]
      unfold iTo iFr iSr iLo iEx iPs
      rw [hg j q]
      exact hi j h1
  · unfold tU at h1; rw [e0] at h1
    rw [hv _ (by omega), hv _ (by omega)]; unfold uSc uNm; rw [e4]; exact hu u h1
theorem MF_useI {ν ν' : Mm} {i : Nat} {T1 T2 : TT} (hb : bdT T1) (h : MF ν T1) (e0 : T2.1 = T1.1) (e1 : T2.2.1 = T1.2.1) (e2 : T2.2.2.1 = T1.2.2.1) (e4 : T2.2.2.2.1 = T1.2.2.2.1) (hg : ∀ j, j ≠ i → T2.2.2.2.2 j = T1.2.2.2.2 j) (hv : ∀ j, ¬ (230 + 2 * i ≤ j ∧ j < 230 + 2 * i + 2) → ν'.1 46 j = ν.1 46 j)
    (hr : ν'.1 46 (230 + 2 * i) = nI (uSc T2 i) ∧ ν'.1 46 (230 + 2 * i + 1) = nI (uNm T2 i)) : MF ν' T2 := by
  obtain ⟨b1, b2, b3, b4⟩ := hb
  obtain ⟨⟨c1, c2, c3, c4⟩, hs, hd, hi, hu⟩ := h
  unfold tS tD tI tU tPar dSc dNm dPb iTo iFr iSr iLo iEx iPs uSc uNm at *
  refine ⟨⟨?_, ?_, ?_, ?_⟩, fun s h1 => ?_, fun d h1 => ?_, fun j h1 => ?_, fun u h1 => ?_⟩
  · rw [hv _ (by omega), c1]; unfold tS; rw [e0]
  · rw [hv _ (by omega), c2]; unfold tD; rw [e0]
  · rw [hv _ (by omega), c3]; unfold tI; rw [e0]
  · rw [hv _ (by omega), c4]; unfold tU; rw [e0]
  · unfold tS at h1; rw [e0] at h1
    rw [hv _ (by omega), hs s h1]; unfold tPar; rw [e1]
  · unfold tD at h1; rw [e0] at h1
    rw [hv _ (by omega), hv _ (by omega), hv _ (by omega)]; unfold dSc dNm dPb; rw [e2]; exact hd d h1
  · unfold tI at h1; rw [e0] at h1
    rw [hv _ (by omega), hv _ (by omega), hv _ (by omega), hv _ (by omega), hv _ (by omega), hv _ (by omega)]
    unfold iTo iFr iSr iLo iEx iPs
    rw [e4]
    exact hi j h1
  · unfold tU at h1; rw [e0] at h1
    by_cases q : u = i
    · subst q; exact hr
    · rw [hv _ (by omega), hv _ (by omega)]; unfold uSc uNm; rw [hg u q]; exact hu u h1
theorem MF_decI {ν ν' : Mm} {i : Nat} {T1 T2 : TT} (hb : bdT T1) (hi9 : i < tD T1) (h : MF ν T1) (e0 : T2.1 = T1.1) (e1 : T2.2.1 = T1.2.1) (hg : ∀ j, j ≠ i → T2.2.2.1 j = T1.2.2.1 j) (e3 : ∀ i, i < tI T1 → T2.2.2.2.1 i = T1.2.2.2.1 i) (e4 : ∀ u, u < tU T1 → T2.2.2.2.2 u = T1.2.2.2.2 u) (hv : ∀ j, ¬ (20 + 3 * i ≤ j ∧ j < 20 + 3 * i + 3) → ν'.1 46 j = ν.1 46 j)
    (hr : ν'.1 46 (20 + 3 * i) = nI (dSc T2 i) ∧ ν'.1 46 (20 + 3 * i + 1) = nI (dNm T2 i) ∧ ν'.1 46 (20 + 3 * i + 2) = nI (dPb T2 i)) : MF ν' T2 := by
  obtain ⟨b1, b2, b3, b4⟩ := hb
  obtain ⟨⟨c1, c2, c3, c4⟩, hs, hd, hi, hu⟩ := h
  unfold tS tD tI tU tPar dSc dNm dPb iTo iFr iSr iLo iEx iPs uSc uNm at *
  refine ⟨⟨?_, ?_, ?_, ?_⟩, fun s h1 => ?_, fun d h1 => ?_, fun j h1 => ?_, fun u h1 => ?_⟩
  · rw [hv _ (by omega), c1]; unfold tS; rw [e0]
  · rw [hv _ (by omega), c2]; unfold tD; rw [e0]
  · rw [hv _ (by omega), c3]; unfold tI; rw [e0]
  · rw [hv _ (by omega), c4]; unfold tU; rw [e0]
  · unfold tS at h1; rw [e0] at h1
    rw [hv _ (by omega), hs s h1]; unfold tPar; rw [e1]
  · unfold tD at h1; rw [e0] at h1
    by_cases q : d = i
    · subst q; exact hr
    · rw [hv _ (by omega), hv _ (by omega), hv _ (by omega)]; unfold dSc dNm dPb; rw [hg d q]; exact hd d h1
  · unfold tI at h1; rw [e0] at h1
    rw [hv _ (by omega), hv _ (by omega), hv _ (by omega), hv _ (by omega), hv _ (by omega), hv _ (by omega)]
    unfold iTo iFr iSr iLo iEx iPs
    rw [e3 j h1]
    exact hi j h1
  · unfold tU at h1; rw [e0] at h1
    rw [hv _ (by omega), hv _ (by omega)]; unfold uSc uNm; rw [e4 u h1]; exact hu u h1
/-- while names change: the row, and no more -/
def frA (μ ν : Mm) : Prop := frW μ ν ∧ ν.1 47 = μ.1 47 ∧ ν.1 53 = μ.1 53
theorem frA_put {μ ν : Mm} (h : frA μ ν) {k : Nat} {v : Int32} : frA μ (setI ν 46 k v) := ⟨frW_put h.1 (by omega) (by omega), by rw [setI_n _ _ _ (by decide)]; exact h.2.1, by rw [setI_n _ _ _ (by decide)]; exact h.2.2⟩
theorem offM_put {ν : Mm} {X : OX} (h : offM ν X) {k : Nat} {v : Int32} : offM (setI ν 46 k v) X := fun s n hs hn => by rw [setI_n _ _ _ (by decide)]; exact h s n hs hn
theorem changeNamesM_eq {μ : Mm} {T : TT} (h : MI μ T) {d n : Nat} (hd : d < tD T) (hn : n < 26) (hno : dOf T (dSc T d) n = none) (hw : wasO μ (tU T) (fun u => nI (outU T (offOf T) u))) : ∃ ν, X4_changeNames (nI d) (nI n) μ = some ν ∧ (MI ν (renO T d n) ∧ frA μ ν) := by
  have hV := h.1
  have h16 := hV.1.2.1
  have hD := hV.2.1.1
  have hI := hV.2.2.1.1
  have hU := hV.2.2.2.1
  have hbd := VT_bd hV
  have hold := (hV.2.1.2.1 d hd).2.1
  have hXB := (MI_off h).1
  obtain ⟨ν0, e0, l0, f0⟩ := layM_eq h
  unfold renO
  generalize hX : offOf T = X at *
  have hO0 : offM ν0 X := by have := l0.2.2.2.1; rw [hX] at this; exact this
  unfold X4_changeNames
  rw [e0, bi_eq, of1 l0.2.1 hV hd, bi_eq]
  refine it2m _ (fun m u3 u4 ν => ∃ i, i + m = tI T ∧ u3 = nI (dNm T d) ∧ u4 = nI i ∧ MF ν (rnT T X d n i 0 false) ∧ offM ν X ∧ frA μ ν) ?_ big (tI T) _ _ ν0 (by unfold big; omega) ⟨0, by omega, rfl, rfl, MF_extT l0.2.1 rfl rfl (fun _ _ => rfl) (fun i _ => if_neg (t := rnI T X d n i) (Nat.not_lt_zero i)) (fun u _ => if_neg (t := rnU T X d n u) (Nat.not_lt_zero u)), hO0, frS_W f0, f0.2.1 47 (by decide), f0.2.1 53 (by decide)⟩
  rintro k14 m u3 u4 ν ⟨i, hm, rfl, rfl, hMi, hO, hf⟩ ih
  unfold X4_changeNames_l14
  rw [show ck (2 : Int32) 290 = ck (nI 2) 290 from rfl, ck_nI (by decide) (by decide), show (2 : Int32).toNatClampNeg = 2 from rfl, hMi.1.2.2.1, show tI (rnT T X d n i 0 false) = tI T from rfl, ifLe (by omega) (by omega)]
  by_cases q : tI T ≤ i
  · have ei : i = tI T := by omega
    subst ei
    rw [if_pos q]
    refine it2m _ (fun m u3 u4 ξ => ∃ u, u + m = tU T ∧ u3 = nI (dNm T d) ∧ u4 = nI u ∧ MF ξ (rnT T X d n (tI T) u false) ∧ frA μ ξ) ?_ big (tU T) _ _ ν (by unfold big; omega) ⟨0, by omega, rfl, rfl, hMi, hf⟩
    rintro k188 m' u3 u4 ξ ⟨u, hm', rfl, rfl, hMu, hfu⟩ ih2
    unfold X4_changeNames_l188
    rw [show ck (3 : Int32) 290 = ck (nI 3) 290 from rfl, ck_nI (by decide) (by decide), show (3 : Int32).toNatClampNeg = 3 from rfl, hMu.1.2.2.2, show tU (rnT T X d n (tI T) u false) = tU T from rfl, ifLe (by omega) (by omega)]
    by_cases q2 : tU T ≤ u
    · rw [if_pos q2, show (20 : Int32) = nI 20 from rfl, show (3 : Int32) = nI 3 from rfl, pk_mul, nI_add, nI_1, ck_nI (by omega) (by decide), bd_eq, bd_eq, nI_clamp (by omega)]
      refine ⟨_, rfl, ⟨VT_ren hV hd hn hno, ?_, Or.inl (setI_same _ _ _ _)⟩, frW_put (frA_put hfu).1 (by omega) (by omega), by rw [setI_n _ _ _ (by decide)]; exact (frA_put hfu).2.1, by rw [setI_n _ _ _ (by decide)]; exact (frA_put hfu).2.2⟩
      refine MF_same ?_ (setI_n _ _ _ (by decide))
      refine MF_decI (i := d) (T1 := rnT T X d n (tI T) u false) hbd hd hMu rfl rfl (fun j hj => pt_ne _ _ hj) (fun j hj => ?_) (fun j hj => ?_) (fun j hj => by rw [setI_ne _ _ _ _ (by omega)]) ?_
      · exact (if_pos (t := rnI T X d n j) hj).symm
      · have hj' : j < tU T := hj
        exact (if_pos (t := rnU T X d n j) (show j < u by omega)).symm
      · have z := hMu.2.2.1 d hd
        unfold dSc dNm dPb at z ⊢
        rw [show (ren T X d n).2.2.1 d = (dSc T d, n, dPb T d) from pt_at _ _ _]
        simp (disch := omega) only [sg, if_neg, if_pos]
        exact ⟨z.1, rfl, z.2.2⟩
    · have hu : u < tU T := by omega
      have r0 : (rnT T X d n (tI T) u false).2.2.2.2 u = T.2.2.2.2 u := if_neg (Nat.lt_irrefl u)
      have r1 : (rnT T X d n (tI T) (u + 1) false).2.2.2.2 u = rnU T X d n u := if_pos (Nat.lt_succ_self u)
      have ro : ∀ j, j ≠ u → (rnT T X d n (tI T) (u + 1) false).2.2.2.2 j = (rnT T X d n (tI T) u false).2.2.2.2 j := fun j hj => by
        show (if j < u + 1 then _ else _) = if j < u then _ else _
        by_cases z : j < u
        · rw [if_pos z, if_pos (by omega)]
        · rw [if_neg z, if_neg (by omega)]
      have z := hMu.2.2.2.2 u hu
      unfold uSc uNm at z
      rw [r0] at z
      have z2 : ξ.1 46 (230 + 2 * u + 1) = nI (uNm T u) := z.2
      have hlt := outU_lt hV hXB hu
      have hwu : ξ.1 53 u = nI (outU T X u) := by rw [hfu.2.2]; exact hw u hu
      have hun := (hV.2.2.2.2 u hu).2
      have fin : ∀ w, w = nI (rnU T X d n u).2 → ∃ r, X4_changeNames_j258 (nI d) (nI n) k188 (nI (dNm T d)) (nI u) w (230 + (2 * nI u) + 1) 46 ξ = some r ∧ (MI r (ren T X d n) ∧ frA μ r) := by
        rintro w rfl
        unfold X4_changeNames_j258
        rw [show alen 46 = 290 from rfl, show (230 : Int32) = nI 230 from rfl, show (2 : Int32) = nI 2 from rfl, pk_mul, nI_add, nI_1, nI_1, ck_nI (by omega) (by decide), bd_eq, nI_clamp (by omega)]
        refine ih2 (m' - 1) _ _ _ (by omega) ⟨u + 1, by omega, rfl, rfl, MF_useI (i := u) (T1 := rnT T X d n (tI T) u false) hbd hMu rfl rfl rfl rfl ro (fun j hj => by rw [setI_ne _ _ _ _ (by omega)]) ?_, frA_put hfu⟩
        unfold uSc uNm
        rw [r1, setI_ne _ _ _ _ (by omega), setI_same]
        refine ⟨?_, rfl⟩
        rw [z.1]
        unfold rnU
        split
        · rfl
        · rfl
      have e1 : (nI d : Int32) = nI d := rfl
      rw [if_neg q2, useName_raw (by omega), bi_eq, z2, bi_eq, ifEq (by omega) (by omega)]
      by_cases q3 : uNm T u = dNm T d
      · rw [if_pos q3, ck_nI (by omega) (by decide), nI_clamp (by omega), hwu, one_pow (by omega), ifEq (lt31 hlt) (lt31 (pow_lt (by omega))), bd_eq]
        by_cases q4 : outU T X u = 2 ^ d
        · rw [if_pos q4, if_neg (show ¬ (1 : Int32) = 0 by decide)]
          exact fin _ (by unfold rnU; rw [if_pos ⟨q3, q4⟩])
        · rw [if_neg q4, if_pos rfl]
          exact fin _ (by unfold rnU; rw [if_neg (fun w => q4 w.2)]; rfl)
      · rw [if_neg q3]
        unfold X4_changeNames_j226 X4_changeNames_j227
        rw [if_pos rfl, useName_raw (by omega), bi_eq, z2]
        exact fin _ (by unfold rnU; rw [if_neg (fun w => q3 w.1)]; rfl)
  · have hi : i < tI T := by omega
    have r0 : (rnT T X d n i 0 false).2.2.2.1 i = T.2.2.2.1 i := if_neg (Nat.lt_irrefl i)
    have r1 : (rnT T X d n (i + 1) 0 false).2.2.2.1 i = rnI T X d n i := if_pos (Nat.lt_succ_self i)
    have ro : ∀ j, j ≠ i → (rnT T X d n (i + 1) 0 false).2.2.2.1 j = (rnT T X d n i 0 false).2.2.2.1 j := fun j hj => by
      show (if j < i + 1 then _ else _) = if j < i then _ else _
      by_cases z : j < i
      · rw [if_pos z, if_pos (by omega)]
      · rw [if_neg z, if_neg (by omega)]
    have z := hMi.2.2.2.1 i hi
    unfold iTo iFr iSr iLo iEx iPs at z
    rw [r0] at z
    obtain ⟨z1, z2, z3, z4, z5, z6⟩ := z
    have y2 : ν.1 46 (110 + 6 * i + 1) = nI (iFr T i) := z2
    have y3 : ν.1 46 (110 + 6 * i + 2) = enc (iSr T i) := z3
    have y4 : ν.1 46 (110 + 6 * i + 3) = enc (iLo T i) := z4
    have y5 : ν.1 46 (110 + 6 * i + 4) = nI (iEx T i) := z5
    obtain ⟨v1, v2, v3, v4, v5⟩ := hV.2.2.1.2 i hi
    have hsr : ∀ x, iSr T i = some x → x < 2 ^ 31 := fun x hx => by
      rcases v5 with ⟨e1, -⟩ | ⟨a', b', ha', hb', e1, e2, e3⟩
      · rw [e1] at hx; cases hx
      · rw [e1] at hx; injection hx with w; omega
    have hlo : ∀ x, iLo T i = some x → x < 2 ^ 31 := fun x hx => by
      rcases v5 with ⟨-, e1, -⟩ | ⟨a', b', ha', hb', e1, e2, e3⟩
      · rw [e1] at hx; cases hx
      · rw [e2] at hx; injection hx with w; omega
    have hXlt := lt31 (hXB (iFr T i) (dNm T d) (by omega) hold)
    have keep : rnI T X d n i = T.2.2.2.1 i → ∃ r, k14 (nI (dNm T d)) (nI (i + 1)) ν = some r ∧ (MI r (ren T X d n) ∧ frA μ r) := fun er => ih (m - 1) _ _ _ (by omega) ⟨i + 1, by omega, rfl, rfl, MF_impI (i := i) (T1 := rnT T X d n i 0 false) hbd hi hMi rfl rfl rfl rfl ro (fun _ _ => rfl) (by
      unfold iTo iFr iSr iLo iEx iPs
      rw [r1, er]
      exact ⟨z1, z2, z3, z4, z5, z6⟩), hO, hf⟩
    rw [if_neg q, show X4_at (nI i) 1 ν = _ from at_eq (j := 1) (by omega) (by decide), bi_eq, y2, offer_eq hO (by omega) hold, bi_eq, bit1 hXlt (by omega), bd_eq, show (110 : Int32) = nI 110 from rfl, show (6 : Int32) = nI 6 from rfl, pk_mul, nI_add, bd_eq]
    cases hb : (X (iFr T i) (dNm T d)).testBit d with
    | false =>
      rw [if_neg (show ¬ false = true by decide), if_pos rfl]
      unfold X4_changeNames_j135
      rw [if_pos rfl, nI_1]
      refine keep ?_
      unfold rnI
      rw [if_neg (fun w => by rw [hb] at w; cases w.1), if_neg (fun w => by rw [hb] at w; cases w.1)]
    | true =>
      rw [if_pos rfl, if_neg (show ¬ (1 : Int32) = 0 by decide), isSingle_raw (by omega) y3 hsr, bi_eq]
      rcases v5 with ⟨e1, e2, e3⟩ | ⟨a', b', ha', hb', e1, e2, e3⟩
      · rw [e1, if_neg (show ¬ (none : Option Nat).isSome = true by decide), if_pos zero0]
        unfold X4_changeNames_j135
        rw [if_neg (show ¬ (1 : Int32) = 0 by decide), isSingle_raw (by omega) y3 hsr, bi_eq, e1, if_neg (show ¬ (none : Option Nat).isSome = true by decide), if_pos zero0, show X4_at (nI i) 4 ν = _ from at_eq (j := 4) (by omega) (by decide), bi_eq, y5, bit1 (by omega) (by omega), nI_1]
        by_cases q2 : (iEx T i).testBit (dNm T d) = true
        · have ern : rnI T X d n i = (iTo T i, iFr T i, iSr T i, iLo T i, iEx T i ||| 2 ^ n, iPs T i) := by
            unfold rnI
            rw [if_neg (fun w => by rw [e1] at w; cases w.2), if_pos ⟨hb, q2⟩]
          rw [if_pos q2, show (4 : Int32) = nI 4 from rfl, nI_add, ck_nI (by omega) (by decide), ck_nI (by omega) (by decide), nI_clamp (by omega), y5, one_pow (by omega), or_nI, bd_eq]
          refine ih (m - 1) _ _ _ (by omega) ⟨i + 1, by omega, rfl, rfl, MF_impI (i := i) (T1 := rnT T X d n i 0 false) hbd hi hMi rfl rfl rfl rfl ro (fun j hj => by rw [setI_ne _ _ _ _ (by omega)]) ?_, offM_put hO, frA_put hf⟩
          unfold iTo iFr iSr iLo iEx iPs
          rw [r1, ern]
          simp (disch := omega) only [sg, if_neg, if_pos]
          exact ⟨z1, z2, z3, z4, rfl, z6⟩
        · rw [if_neg q2]
          refine keep ?_
          unfold rnI
          rw [if_neg (fun w => by rw [e1] at w; cases w.2), if_neg (fun w => q2 w.2)]
      · rw [e1, if_pos (show (some a').isSome = true from rfl), if_neg one0, show X4_at (nI i) 2 ν = _ from at_eq (j := 2) (by omega) (by decide), bi_eq, y3, e1, show enc (some a') = nI a' from rfl, ifEq (by omega) (by omega)]
        by_cases q2 : a' = dNm T d
        · have ern : rnI T X d n i = (iTo T i, iFr T i, some n, (if iLo T i = some (dNm T d) then some n else iLo T i), iEx T i, iPs T i) := by
            unfold rnI
            rw [if_pos ⟨hb, by rw [e1, q2]⟩]
          have done : ∀ w, w = enc (if iLo T i = some (dNm T d) then some n else iLo T i) → ∃ r, X4_changeNames_j131 (nI d) (nI n) k14 (nI (dNm T d)) (nI i) w (nI (110 + 6 * i + 3)) 46 (setI ν 46 (110 + 6 * i + 2) (nI n)) = some r ∧ (MI r (ren T X d n) ∧ frA μ r) := by
            rintro w rfl
            unfold X4_changeNames_j131
            rw [show alen 46 = 290 from rfl, ck_nI (by omega) (by decide), bd_eq, nI_clamp (by omega), nI_1]
            refine ih (m - 1) _ _ _ (by omega) ⟨i + 1, by omega, rfl, rfl, MF_impI (i := i) (T1 := rnT T X d n i 0 false) hbd hi hMi rfl rfl rfl rfl ro (fun j hj => by rw [setI_ne _ _ _ _ (by omega), setI_ne _ _ _ _ (by omega)]) ?_, offM_put (offM_put hO), frA_put (frA_put hf)⟩
            unfold iTo iFr iSr iLo iEx iPs
            rw [r1, ern]
            simp (disch := omega) only [sg, if_neg, if_pos]
            exact ⟨z1, z2, rfl, rfl, z5, z6⟩
          rw [if_pos q2, show (2 : Int32) = nI 2 from rfl, show (3 : Int32) = nI 3 from rfl, nI_add, nI_add, ck_nI (by omega) (by decide), bd_eq, ck_nI (by omega) (by decide), nI_clamp (by omega), nI_clamp (by omega), setI_ne _ _ _ _ (by omega), y4, ifEnc hlo (by omega), ck_nI (by omega) (by decide)]
          by_cases q3 : iLo T i = some (dNm T d)
          · rw [if_pos q3]
            exact done _ (by rw [if_pos q3]; rfl)
          · rw [if_neg q3]
            exact done _ (by rw [if_neg q3])
        · rw [if_neg q2]
          unfold X4_changeNames_j135
          rw [if_neg (show ¬ (1 : Int32) = 0 by decide), isSingle_raw (by omega) y3 hsr, bi_eq, e1, if_pos (show (some a').isSome = true from rfl), if_neg one0, nI_1]
          refine keep ?_
          unfold rnI
          rw [if_neg (fun w => q2 (by have := w.2; rw [e1] at this; injection this)), if_neg (fun w => by have := w.2; rw [e3, Nat.zero_testBit] at this; cases this)]
