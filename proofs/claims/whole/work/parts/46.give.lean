/-! ===== renaming: the component's rows ===== -/
theorem FS_same {μ ν : Mm} {a : Nat} {T : TT} {X : OX} (h : FS μ a T X) (hf : ∀ p, a ≤ p → p ≤ a + 12 → ν.1 p = μ.1 p) (hg : ∀ p, a + 15 ≤ p → p ≤ a + 20 → ν.1 p = μ.1 p) : FS ν a T X := by
  refine ⟨h.1, CF_same h.2.1 hf, fun s n hs hn => ?_, h.2.2.2⟩
  rw [hg (a + 14 + 1) (by omega) (by omega), hg (a + 14 + 2) (by omega) (by omega), hg (a + 14 + 3) (by omega) (by omega), hg (a + 14 + 4) (by omega) (by omega)]
  exact h.2.2.1 s n hs hn
theorem ifEnc {α : Type} {s t : α} {o : Option Nat} {m : Nat} (ho : ∀ x, o = some x → x < 2 ^ 31) (hm : m < 2 ^ 31) : (if enc o = nI m then s else t) = if o = some m then s else t := by
  cases o with
  | none => rw [if_neg (show ¬ enc none = nI m from fun z => nI_ne_m1 hm z.symm), if_neg (fun z => by cases z)]
  | some x =>
    rw [show enc (some x) = nI x from rfl, ifEq (ho x rfl) hm]
    by_cases q : x = m
    · rw [if_pos q, if_pos (by rw [q])]
    · rw [if_neg q, if_neg (fun z => q (by injection z))]
theorem CF_impI {ν ν' : Mm} {a i : Nat} {T1 T2 : TT} (h : CF ν a T1) (e0 : T2.1 = T1.1) (e1 : T2.2.1 = T1.2.1) (e2 : T2.2.2.1 = T1.2.2.1) (e4 : T2.2.2.2.2 = T1.2.2.2.2) (hg : ∀ j, j ≠ i → T2.2.2.2.1 j = T1.2.2.2.1 j) (hv : ∀ p j, ¬ (a + 5 ≤ p ∧ p ≤ a + 10 ∧ j = i) → ν'.1 p j = ν.1 p j)
    (hr : ν'.1 (a + 5) i = nI (iTo T2 i) ∧ ν'.1 (a + 6) i = nI (iFr T2 i) ∧ ν'.1 (a + 7) i = enc (iSr T2 i) ∧ ν'.1 (a + 8) i = enc (iLo T2 i) ∧ ν'.1 (a + 9) i = nI (iEx T2 i) ∧ ν'.1 (a + 10) i = nI (iPs T2 i)) : CF ν' a T2 := by
  obtain ⟨⟨c1, c2, c3, c4⟩, hs, hd, hi, hu⟩ := h
  unfold tS tD tI tU tPar dSc dNm dPb iTo iFr iSr iLo iEx iPs uSc uNm at *
  refine ⟨⟨?_, ?_, ?_, ?_⟩, fun s h1 => ?_, fun d h1 => ?_, fun j h1 => ?_, fun u h1 => ?_⟩
  · rw [hv _ _ (by omega), c1]; unfold tS; rw [e0]
  · rw [hv _ _ (by omega), c2]; unfold tD; rw [e0]
  · rw [hv _ _ (by omega), c3]; unfold tI; rw [e0]
  · rw [hv _ _ (by omega), c4]; unfold tU; rw [e0]
  · unfold tS at h1; rw [e0] at h1
    rw [hv _ _ (by omega), hs s h1]; unfold tPar; rw [e1]
  · unfold tD at h1; rw [e0] at h1
    rw [hv _ _ (by omega), hv _ _ (by omega), hv _ _ (by omega)]; unfold dSc dNm dPb; rw [e2]; exact hd d h1
  · unfold tI at h1; rw [e0] at h1
    by_cases q : j = i
    · subst q; exact hr
    · rw [hv _ _ (by omega), hv _ _ (by omega), hv _ _ (by omega), hv _ _ (by omega), hv _ _ (by omega), hv _ _ (by omega)]
      unfold iTo iFr iSr iLo iEx iPs
      rw [hg j q]
      exact hi j h1
  · unfold tU at h1; rw [e0] at h1
    rw [hv _ _ (by omega), hv _ _ (by omega)]; unfold uSc uNm; rw [e4]; exact hu u h1
theorem CF_useI {ν ν' : Mm} {a i : Nat} {T1 T2 : TT} (h : CF ν a T1) (e0 : T2.1 = T1.1) (e1 : T2.2.1 = T1.2.1) (e2 : T2.2.2.1 = T1.2.2.1) (e4 : T2.2.2.2.1 = T1.2.2.2.1) (hg : ∀ j, j ≠ i → T2.2.2.2.2 j = T1.2.2.2.2 j) (hv : ∀ p j, ¬ (a + 11 ≤ p ∧ p ≤ a + 12 ∧ j = i) → ν'.1 p j = ν.1 p j)
    (hr : ν'.1 (a + 11) i = nI (uSc T2 i) ∧ ν'.1 (a + 12) i = nI (uNm T2 i)) : CF ν' a T2 := by
  obtain ⟨⟨c1, c2, c3, c4⟩, hs, hd, hi, hu⟩ := h
  unfold tS tD tI tU tPar dSc dNm dPb iTo iFr iSr iLo iEx iPs uSc uNm at *
  refine ⟨⟨?_, ?_, ?_, ?_⟩, fun s h1 => ?_, fun d h1 => ?_, fun j h1 => ?_, fun u h1 => ?_⟩
  · rw [hv _ _ (by omega), c1]; unfold tS; rw [e0]
  · rw [hv _ _ (by omega), c2]; unfold tD; rw [e0]
  · rw [hv _ _ (by omega), c3]; unfold tI; rw [e0]
  · rw [hv _ _ (by omega), c4]; unfold tU; rw [e0]
  · unfold tS at h1; rw [e0] at h1
    rw [hv _ _ (by omega), hs s h1]; unfold tPar; rw [e1]
  · unfold tD at h1; rw [e0] at h1
    rw [hv _ _ (by omega), hv _ _ (by omega), hv _ _ (by omega)]; unfold dSc dNm dPb; rw [e2]; exact hd d h1
  · unfold tI at h1; rw [e0] at h1
    rw [hv _ _ (by omega), hv _ _ (by omega), hv _ _ (by omega), hv _ _ (by omega), hv _ _ (by omega), hv _ _ (by omega)]
    unfold iTo iFr iSr iLo iEx iPs
    rw [e4]
    exact hi j h1
  · unfold tU at h1; rw [e0] at h1
    by_cases q : u = i
    · subst q; exact hr
    · rw [hv _ _ (by omega), hv _ _ (by omega)]; unfold uSc uNm; rw [hg u q]; exact hu u h1
theorem giveName_eq {μ : Mm} {a0 a3 : Nat} {T : TT} {X : OX} (ha : isF a0) (hap : a0 + 21 ≤ a3 ∨ a3 + 21 ≤ a0) (hF : FS μ a3 T X) (hC : CF μ a0 T) {d n : Nat} (hd : d < tD T) (hn : n < 26) : ∃ ν, X0_giveName a0 (nI d) (nI n) a3 μ = some ν ∧ (CF ν a0 (ren T X d n) ∧ fr (isRw a0) μ ν) := by
  have hV := hF.1
  have h16 := hV.1.2.1
  have hD := hV.2.1.1
  have hI := hV.2.2.1.1
  have hU := hV.2.2.2.1
  have hold := (hV.2.1.2.1 d hd).2.1
  have al8 : alen (a0 + 8) = 20 := (alR ha).2.2.2.2.2.2.1
  unfold X0_giveName
  rw [ck_nI (by omega) (by decide), bd_eq, nI_clamp (by omega), (hC.2.2.1 d hd).2.1]
  refine it2m _ (fun m u4 u5 ν => ∃ i, i + m = tI T ∧ u4 = nI (dNm T d) ∧ u5 = nI i ∧ CF ν a0 (rnT T X d n i 0 false) ∧ fr (isRw a0) μ ν) ?_ big (tI T) _ _ μ (by unfold big; omega) ⟨0, by omega, rfl, rfl, CF_ext hC rfl rfl (fun _ _ => rfl) (fun i _ => if_neg (t := rnI T X d n i) (Nat.not_lt_zero i)) (fun u _ => if_neg (t := rnU T X d n u) (Nat.not_lt_zero u)), fr_refl⟩
  rintro k11 m u4 u5 ν ⟨i, hm, rfl, rfl, hCi, hf⟩ ih
  have hFν : FS ν a3 T X := FS_same hF (fun p h1 h2 => hf.2 p (by unfold isRw; omega)) (fun p h1 h2 => hf.2 p (by unfold isRw; omega))
  unfold X0_giveName_l11
  rw [hCi.1.2.2.1, show tI (rnT T X d n i 0 false) = tI T from rfl, ifLe (by omega) (by omega)]
  by_cases q : tI T ≤ i
  · have ei : i = tI T := by omega
    subst ei
    rw [if_pos q]
    refine it1m _ (fun m u5 ξ => ∃ u, u + m = tU T ∧ u5 = nI u ∧ CF ξ a0 (rnT T X d n (tI T) u false) ∧ fr (isRw a0) μ ξ) ?_ big (tU T) _ ν (by unfold big; omega) ⟨0, by omega, rfl, hCi, hf⟩
    rintro k155 m' u5 ξ ⟨u, hm', rfl, hCu, hfu⟩ ih2
    have hFξ : FS ξ a3 T X := FS_same hF (fun p h1 h2 => hfu.2 p (by unfold isRw; omega)) (fun p h1 h2 => hfu.2 p (by unfold isRw; omega))
    unfold X0_giveName_l155
    rw [hCu.1.2.2.2, show tU (rnT T X d n (tI T) u false) = tU T from rfl, ifLe (by omega) (by omega)]
    by_cases q2 : tU T ≤ u
    · rw [if_pos q2, ck_nI (by omega) (by decide), bd_eq, nI_clamp (by omega)]
      refine ⟨_, rfl, ?_, fr_setI hfu (by unfold isRw; omega)⟩
      obtain ⟨⟨c1, c2, c3, c4⟩, ks, kd, ki, ku⟩ := hCu
      refine ⟨⟨?_, ?_, ?_, ?_⟩, fun s h1 => ?_, fun e h1 => ?_, fun i h1 => ?_, fun v h1 => ?_⟩
      · rw [sg, if_neg (by omega)]; exact c1
      · rw [sg, if_neg (by omega)]; exact c2
      · rw [sg, if_neg (by omega)]; exact c3
      · rw [sg, if_neg (by omega)]; exact c4
      · rw [sg, if_neg (by omega)]; exact ks s h1
      · have h2 : e < tD T := h1
        have z := kd e h2
        show _ = nI (pt T.2.2.1 d (dSc T d, n, dPb T d) e).1 ∧ _ = nI (pt T.2.2.1 d (dSc T d, n, dPb T d) e).2.1 ∧ _ = nI (pt T.2.2.1 d (dSc T d, n, dPb T d) e).2.2
        by_cases q3 : e = d
        · subst q3
          rw [pt_at]
          simp (disch := omega) only [sg, if_neg, if_pos]
          exact ⟨z.1, rfl, z.2.2⟩
        · rw [pt_ne _ _ q3]
          simp (disch := omega) only [sg, if_neg]
          exact z
      · have h2 : i < tI T := h1
        have z := ki i h2
        unfold iTo iFr iSr iLo iEx iPs at z ⊢
        rw [show (rnT T X d n (tI T) u false).2.2.2.1 i = (ren T X d n).2.2.2.1 i from if_pos h2] at z
        simp (disch := omega) only [sg, if_neg]
        exact z
      · have h2 : v < tU T := h1
        have z := ku v h2
        unfold uSc uNm at z ⊢
        rw [show (rnT T X d n (tI T) u false).2.2.2.2 v = (ren T X d n).2.2.2.2 v from if_pos (by omega)] at z
        simp (disch := omega) only [sg, if_neg]
        exact z
    · have hu : u < tU T := by omega
      have e0 : (rnT T X d n (tI T) u false).2.2.2.2 u = T.2.2.2.2 u := if_neg (Nat.lt_irrefl u)
      have e1 : (rnT T X d n (tI T) (u + 1) false).2.2.2.2 u = rnU T X d n u := if_pos (Nat.lt_succ_self u)
      have eo : ∀ j, j ≠ u → (rnT T X d n (tI T) (u + 1) false).2.2.2.2 j = (rnT T X d n (tI T) u false).2.2.2.2 j := fun j hj => by
        show (if j < u + 1 then _ else _) = if j < u then _ else _
        by_cases z : j < u
        · rw [if_pos z, if_pos (by omega)]
        · rw [if_neg z, if_neg (by omega)]
      have z := hCu.2.2.2.2 u hu
      unfold uSc uNm at z
      rw [e0] at z
      rw [if_neg q2, followsRenaming_eq hFξ hu hd, bi_eq, nI_1]
      by_cases q3 : uNm T u = dNm T d ∧ outU T X u = 2 ^ d
      · rw [if_pos q3, if_neg one0, ck_nI (by omega) (by decide), bd_eq, nI_clamp (by omega)]
        refine ih2 (m' - 1) _ _ (by omega) ⟨u + 1, by omega, rfl, CF_useI (i := u) hCu rfl rfl rfl rfl eo (fun p j hp => by rw [sg, if_neg (by omega)]) ?_, fr_setI hfu (by unfold isRw; omega)⟩
        unfold uSc uNm
        rw [e1, sg, if_neg (by omega), sg, if_pos ⟨rfl, rfl⟩]
        unfold rnU
        rw [if_pos q3]
        exact ⟨z.1, rfl⟩
      · rw [if_neg q3, if_pos zero0]
        refine ih2 (m' - 1) _ _ (by omega) ⟨u + 1, by omega, rfl, CF_useI (i := u) hCu rfl rfl rfl rfl eo (fun p j hp => rfl) ?_, hfu⟩
        unfold uSc uNm
        rw [e1]
        unfold rnU
        rw [if_neg q3]
        exact z
  · have hi : i < tI T := by omega
    have e0 : (rnT T X d n i 0 false).2.2.2.1 i = T.2.2.2.1 i := if_neg (Nat.lt_irrefl i)
    have e1 : (rnT T X d n (i + 1) 0 false).2.2.2.1 i = rnI T X d n i := if_pos (Nat.lt_succ_self i)
    have eo : ∀ j, j ≠ i → (rnT T X d n (i + 1) 0 false).2.2.2.1 j = (rnT T X d n i 0 false).2.2.2.1 j := fun j hj => by
      show (if j < i + 1 then _ else _) = if j < i then _ else _
      by_cases z : j < i
      · rw [if_pos z, if_pos (by omega)]
      · rw [if_neg z, if_neg (by omega)]
    have z := hCi.2.2.2.1 i hi
    unfold iTo iFr iSr iLo iEx iPs at z
    rw [e0] at z
    obtain ⟨z1, z2, z3, z4, z5, z6⟩ := z
    obtain ⟨v1, v2, v3, v4, v5⟩ := hV.2.2.1.2 i hi
    have hsr : ∀ x, iSr T i = some x → x < 2 ^ 31 := fun x hx => by
      rcases v5 with ⟨e1, -⟩ | ⟨a', b', ha', hb', e1, e2, e3⟩
      · rw [e1] at hx; cases hx
      · rw [e1] at hx; injection hx with w; omega
    have hlo : ∀ x, iLo T i = some x → x < 2 ^ 31 := fun x hx => by
      rcases v5 with ⟨-, e1, -⟩ | ⟨a', b', ha', hb', e1, e2, e3⟩
      · rw [e1] at hx; cases hx
      · rw [e2] at hx; injection hx with w; omega
    have hex : iEx T i < 2 ^ 31 := by
      rcases v5 with ⟨-, -, e1⟩ | ⟨a', b', ha', hb', e1, e2, e3⟩
      · omega
      · omega
    have hoff := (hFν.2.2.1 (iFr T i) (dNm T d) (by omega) hold).1
    have hXlt := lt31 (hFν.2.2.2 (iFr T i) (dNm T d) (by omega) hold)
    have keep : rnI T X d n i = T.2.2.2.1 i → ∃ r, k11 (nI (dNm T d)) (nI (i + 1)) ν = some r ∧ (CF r a0 (ren T X d n) ∧ fr (isRw a0) μ r) := fun er => ih (m - 1) _ _ _ (by omega) ⟨i + 1, by omega, rfl, rfl, CF_impI (i := i) hCi rfl rfl rfl rfl eo (fun _ _ _ => rfl) (by
      unfold iTo iFr iSr iLo iEx iPs
      rw [e1, er]
      exact ⟨z1, z2, z3, z4, z5, z6⟩), hf⟩
    rw [if_neg q, ck_nI (by omega) (by decide), nI_clamp (by omega), z2, show ((T.2.2.2.1 i).2.1) = iFr T i from rfl, cell_nI, ck_nI (by omega) (by decide), nI_clamp (by omega), hoff, bitZ hXlt (by omega), bd_eq]
    cases hb : (X (iFr T i) (dNm T d)).testBit d with
    | false =>
      rw [if_pos rfl, if_pos rfl]
      unfold X0_giveName_j113
      rw [if_pos rfl, nI_1]
      refine keep ?_
      unfold rnI
      rw [if_neg (fun w => by rw [hb] at w; cases w.1), if_neg (fun w => by rw [hb] at w; cases w.1)]
    | true =>
      rw [if_neg (show ¬ true = false by decide), if_neg (show ¬ (1 : Int32) = 0 by decide), ck_nI (by omega) (by decide), z3, show (T.2.2.2.1 i).2.2.1 = iSr T i from rfl, ifEnc hsr (by omega)]
      by_cases q2 : iSr T i = some (dNm T d)
      · have ern : rnI T X d n i = (iTo T i, iFr T i, some n, (if iLo T i = some (dNm T d) then some n else iLo T i), iEx T i, iPs T i) := by
          unfold rnI
          rw [if_pos ⟨hb, q2⟩]
        have done : ∀ w, w = enc (if iLo T i = some (dNm T d) then some n else iLo T i) → ∃ r, X0_giveName_j109 a0 (nI d) (nI n) a3 k11 (nI (dNm T d)) (nI i) w (nI i) (a0 + 8) (setI ν (a0 + 7) i (nI n)) = some r ∧ (CF r a0 (ren T X d n) ∧ fr (isRw a0) μ r) := by
          rintro w rfl
          unfold X0_giveName_j109
          rw [al8, ck_nI (by omega) (by decide), bd_eq, nI_clamp (by omega), nI_1]
          refine ih (m - 1) _ _ _ (by omega) ⟨i + 1, by omega, rfl, rfl, CF_impI (i := i) hCi rfl rfl rfl rfl eo (fun p j hp => by rw [sg, if_neg (by omega), sg, if_neg (by omega)]) ?_, fr_setI (fr_setI hf (by unfold isRw; omega)) (by unfold isRw; omega)⟩
          unfold iTo iFr iSr iLo iEx iPs
          rw [e1, ern]
          simp (disch := omega) only [sg, if_neg, if_pos]
          exact ⟨z1, z2, rfl, rfl, z5, z6⟩
        rw [if_pos q2, ck_nI (by omega) (by decide), bd_eq, ck_nI (by omega) (by decide), setI_n _ _ _ (show a0 + 8 ≠ a0 + 7 by omega), z4, show (T.2.2.2.1 i).2.2.2.1 = iLo T i from rfl, ifEnc hlo (by omega), ck_nI (by omega) (by decide)]
        by_cases q3 : iLo T i = some (dNm T d)
        · rw [if_pos q3]
          exact done _ (by rw [if_pos q3]; rfl)
        · rw [if_neg q3]
          exact done _ (by rw [if_neg q3])
      · rw [if_neg q2]
        unfold X0_giveName_j113
        rw [if_neg (by decide), ck_nI (by omega) (by decide), nI_clamp (by omega), z5, show (T.2.2.2.1 i).2.2.2.2.1 = iEx T i from rfl, bitZ hex (by omega), nI_1]
        cases hx : (iEx T i).testBit (dNm T d) with
        | false =>
          rw [if_pos rfl]
          refine keep ?_
          unfold rnI
          rw [if_neg (fun w => q2 w.2), if_neg (fun w => by rw [hx] at w; cases w.2)]
        | true =>
          have ern : rnI T X d n i = (iTo T i, iFr T i, iSr T i, iLo T i, iEx T i ||| 2 ^ n, iPs T i) := by
            unfold rnI
            rw [if_neg (fun w => q2 w.2), if_pos ⟨hb, hx⟩]
          rw [if_neg (by decide), ck_nI (by omega) (by decide), ck_nI (by omega) (by decide), one_pow (by omega), or_nI, bd_eq]
          refine ih (m - 1) _ _ _ (by omega) ⟨i + 1, by omega, rfl, rfl, CF_impI (i := i) hCi rfl rfl rfl rfl eo (fun p j hp => by rw [sg, if_neg (by omega)]) ?_, fr_setI hf (by unfold isRw; omega)⟩
          unfold iTo iFr iSr iLo iEx iPs
          rw [e1, ern]
          simp (disch := omega) only [sg, if_neg, if_pos]
          exact ⟨z1, z2, z3, z4, rfl, z6⟩
