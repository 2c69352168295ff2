/-! ===== load, firstError, clearBuffer, begin ===== -/
def frL (μ ν : Mm) : Prop := ν.2.2 = μ.2.2 ∧ ∀ p, 45 ≤ p → ν.1 p = μ.1 p
theorem frC_L {μ ν : Mm} (h : frC μ ν) : frL μ ν := ⟨h.1, fun p hp => h.2 p (by unfold isC; omega)⟩
theorem TXc_C {μ ν : Mm} {N : Nat} {f : Nat → Nat} (h : TXc μ N f) (k : frC μ ν) : TXc ν N f := ⟨by rw [k.2 1 (by unfold isC; omega)]; exact h.1, fun j hj => by rw [k.2 2 (by unfold isC; omega)]; exact h.2 j hj⟩
theorem isRw_C' {a : Nat} (ha : isF a) : ∀ p, isRw a p → isC p := isRw_C ha
/-- the component's half -/
theorem load_c {μ : Mm} {T : TT} {N : Nat} {f : Nat → Nat} (hC : CI μ T) (hTc : TXc μ N f) (hv : TXv N f) (hcm : cmpl f N = true) : ∃ ν1, X0_copyFrom (mOth μ) (mNow μ) μ = some ν1 ∧ CF ν1 (mOth μ) T ∧ TXc ν1 N f ∧ (∀ vc νc, X2_putItems (mOth μ) ν1 = some (vc, νc) → fr (isRw (mOth μ)) ν1 νc → (vc = -1 → X3_load μ = some (.inl xS, νc) ∧ CI νc T ∧ TXc νc N f ∧ frL μ νc) ∧ (∀ it T', it ≤ 51 → vc = nI it → VT T' → CF νc (mOth μ) T' → ∃ ν, X3_load μ = some (.inr (nI it), ν) ∧ CI ν T' ∧ TXc ν 0 f ∧ frL μ ν)) := by
  have hF := hC.2.1.1
  have hap := apart hC.1.1 hC.1.2.1 hC.1.2.2
  obtain ⟨ν1, e1, c1, f1⟩ := copyFrom_eq (a0 := mOth μ) (a1 := mNow μ) (by omega) hF.1 hF.2.1
  have hl : ∀ k : Option ((String ⊕ Int32) × Mm), (bn (X2_putItems (mOth ν1) ν1) fun q10 μ11 => (if q10 = (-1) then some (.inl xS, μ11) else ((X0_settle (mOth μ11) μ11).bind fun μ15 => (X3_exchange μ15).bind fun μ18 => bd (setI μ18 1 1 0) fun μ19 => some (.inr q10, μ19)))) = k → X3_load μ = k := fun k h => by
    unfold X3_load
    rw [isComplete_eq hv hTc, bi_eq, if_pos hcm, if_neg one0, e1, bi_eq]
    exact h
  refine ⟨ν1, e1, c1, TXc_rw hC.1.2.1 hTc f1, fun vc νc h1 h2 => ⟨fun hvc => ?_, fun it T' hit hvc hV' hC' => ?_⟩⟩
  · have hf := fr_tr f1 h2
    refine ⟨hl _ ?_, CI_same hC (by rw [hf.1]) (fun p q1 q2 => hf.2 p (by unfold isRw; omega)), TXc_rw hC.1.2.1 hTc hf, frC_L (fr_frC hf (isRw_C hC.1.2.1))⟩
    rw [oth_eq f1.1, h1, bn_eq, if_pos hvc]
  · have hf := fr_tr f1 h2
    obtain ⟨ξ, e3, x1, x2, x3, x4, x5⟩ := oth_settle hC hf hV' hC'
    have ho : mOth ξ = mOth μ := oth_eq x5
    obtain ⟨ν, e4, y1, y2⟩ := exchange_eq x3 (by rw [ho]; exact x1) (by rw [ho]; exact x2)
    have hfc := frC_tr x4 y2
    have hTν := TXc_C hTc hfc
    refine ⟨setI ν 1 1 0, hl _ ?_, CI_same y1 rfl (fun p q1 q2 => setI_n _ _ _ (by have := y1.1.1; rcases this with z | z <;> omega)), ⟨setI_same _ _ _ _, fun j hj => absurd hj (Nat.not_lt_zero j)⟩, ?_⟩
    · rw [oth_eq f1.1, h1, bn_eq, if_neg (by rw [hvc]; exact nI_ne_m1 (by omega)), e3, bi_eq, e4, bi_eq, bd_eq, hvc]
    · refine ⟨hfc.1, fun p hp => ?_⟩
      rw [setI_n _ _ _ (by omega)]
      exact (frC_L hfc).2 p hp
theorem cmpl_some {f : Nat → Nat} {N s : Nat} (h : fsG f N 0 0 = some s) : cmpl f N = cE s := by unfold cmpl; rw [h]
theorem cmpl_none {f : Nat → Nat} {N : Nat} (h : fsG f N 0 0 = none) : cmpl f N = false := by unfold cmpl; rw [h]
/-- the model's load, once the text is known to be complete -/
theorem load_m {μ' μ23 : Mm} (h : ∃ ν3, X4_read 0 μ' = some (ν3.1 45 5, ν3) ∧ (∃ q, X4_canEnd ν3 = some q ∧ ¬ q = 0) ∧ μ23 = setI ν3 45 0 0) : X4_load μ' = ((X4_copy 46 47 μ23).bind fun μ26 => bn (X4_read 1 μ26) fun q28 μ29 => (X4_endItem μ29).bind fun μ32 => (if (μ32.1 45 21) = 0 then (bd (setI μ32 45 0 0) fun μ33 => bd (setI μ33 45 5 0) fun μ34 => some ((μ34.1 45 22), μ34)) else ((X4_copy 47 46 μ32).bind fun μ37 => bd (setI μ37 45 0 2) fun μ38 => some (0, μ38)))) := by
  obtain ⟨ν3, e1, ⟨q, e2, hq⟩, rfl⟩ := h
  unfold X4_load
  rw [e1, bn_eq, if_pos rfl, e2, bi_eq, if_neg hq, bd_eq, if_neg (by decide), bd_eq, setI_same, if_pos (by decide)]
theorem inl_S {E : String} (h : (Sum.inl xS : String ⊕ Int32) = .inl E) : E = xA ∨ E = xS := Or.inr (Sum.inl.inj h).symm
theorem inl_A {E : String} (h : (Sum.inl xA : String ⊕ Int32) = .inl E) : E = xA ∨ E = xS := Or.inl (Sum.inl.inj h).symm
theorem load_rel {μ μ' : Mm} {T : TT} {N : Nat} {f : Nat → Nat} (hC : CI μ T) (hTc : TXc μ N f) (hM : MI μ' T) (hTm : TXm μ' N f) (hv : TXv N f) : ∃ z ν w ν' T' N', X3_load μ = some (z, ν) ∧ X4_load μ' = some (w, ν') ∧ CI ν T' ∧ TXc ν N' f ∧ MI ν' T' ∧ TXm ν' N' f ∧ N' ≤ N ∧ frL μ ν ∧ frB μ' ν' ∧ (∀ E, z = .inl E → E = xA ∨ E = xS) ∧ match z with
  | .inl E => ν'.1 45 0 = nI (cAS E)
  | .inr v => ν'.1 45 0 = 0 ∧ w = v := by
  have hN := hv.1
  obtain ⟨ν3, r1, r2, r3⟩ := read0_eq hv hTm
  have hT3 := TXm_Q hTm r2
  have hM3 := MI_Q hM r2
  have tx0 : ∀ s0, TXm (setI ν3 45 0 s0) N f := fun s0 => ⟨by rw [setI_ne _ _ _ _ (by decide)]; exact hT3.1, fun k hk => by rw [setI_n _ _ _ (by decide)]; exact hT3.2 k hk⟩
  have fb0 : ∀ s0, frB μ' (setI ν3 45 0 s0) := fun s0 => ⟨r2.1, fun p hp => by rw [setI_n _ _ _ (by omega)]; exact r2.2.1 p (by omega)⟩
  have hfle := fwG_le f N 0 0
  have hfs := fwG_fsG f N 0 0
  rw [Nat.zero_add] at hfle hfs
  by_cases hcm : cmpl f N = true
  · -- complete
    obtain ⟨s', hs'⟩ : ∃ s', fsG f N 0 0 = some s' := by
      cases hq : fsG f N 0 0 with
      | none => rw [cmpl_none hq] at hcm; cases hcm
      | some s' => exact ⟨s', rfl⟩
    have hce : cE s' = true := by rw [← cmpl_some hs']; exact hcm
    obtain ⟨st1, st2⟩ := r3 s' hs'
    have hfw : fwG f N 0 0 = N := hfs.mpr (by rw [hs']; rfl)
    rw [hfw, ← hT3.1] at r1
    have hlm := load_m (μ' := μ') (μ23 := setI ν3 45 0 0) ⟨ν3, r1, ⟨_, canEnd_eq st2 st1, by rw [if_pos hce]; exact one0⟩, rfl⟩
    obtain ⟨ν1, e1, c1, c2, c3⟩ := load_c hC hTc hv hcm
    obtain ⟨ν26, k1, k2, k3, k4, k5, k6⟩ := copy_eq (a1 := 46) (a2 := 47) (by decide) (by decide) (by decide) (by decide) (setI ν3 45 0 0)
    have hM26 : MI ν26 T := ⟨hM.1, MF_same (MI_wrong hM3 0).2.1 (k3 46 (by decide) (by decide)), Or.inl k4⟩
    have hT26 : TXm ν26 N f := ⟨by rw [k5 5 (by decide)]; exact (tx0 0).1, fun j hj => by rw [k3 49 (by decide) (by decide)]; exact (tx0 0).2 j hj⟩
    have hB26 : frB μ' ν26 := ⟨k6.trans (fb0 0).1, fun p hp => by rw [k3 p (by omega) (by omega)]; exact (fb0 0).2 p hp⟩
    obtain ⟨μr, hμr⟩ : ∃ μr, μr = setI (setI (setI (setI ν26 45 12 0) 45 22 0) 45 20 1) 45 21 0 := ⟨_, rfl⟩
    have hQ : frQ ν26 μr := by rw [hμr]; exact frQ_put (frQ_put (frQ_put (frQ_put ⟨rfl, fun _ _ => rfl, fun _ _ => rfl⟩ (by omega)) (by omega)) (by omega)) (by omega)
    obtain ⟨vc, νc, vm, νm, νm', i1, i2, i3, i4, i5, i6⟩ := load_sim hv hC.1.2.1 1 N 0 0 0 0 T big ν1 μr (by omega) (by unfold big; omega) (by decide) ⟨s', hs', hce⟩ c1 c2 (MI_Q hM26 hQ) (TXm_Q hT26 hQ) (by rw [hμr, s1 _ (by decide), s1 _ (by decide), s1 _ (by decide), setI_same]; rfl) rfl (by rw [hμr, s1 _ (by decide), setI_same]) (by rw [hμr, setI_same]) (by rw [hμr, s1 _ (by decide), s1 _ (by decide), setI_same]; rfl) (Nat.le_refl _) (Nat.le_refl _)
    have hread : X4_read 1 ν26 = some (vm, νm) := by
      unfold X4_read
      rw [bd_eq, bd_eq, rz1, bd_eq, bd_eq, ← hμr]
      exact i2
    have hput : X2_putItems (mOth μ) ν1 = some (vc, νc) := i1
    obtain ⟨p1, p2⟩ := c3 vc νc hput i4
    have hBm : frB μ' νm' := ⟨i5.1.trans (hQ.1.trans hB26.1), fun p hp => by rw [i5.2.1 p (Or.inl hp), hQ.2.1 p (by omega)]; exact hB26.2 p hp⟩
    rw [k1, bi_eq, hread, bn_eq, i3, bi_eq] at hlm
    rcases i6 with ⟨it, T', j1, j2, j3, j4, j5, j6⟩ | ⟨j1, j2⟩
    · obtain ⟨ν, o1, o2, o3, o4⟩ := p2 it T' j1 j2 j4.1 j3
      rw [if_pos j5, bd_eq, bd_eq] at hlm
      refine ⟨_, ν, _, _, T', 0, o1, hlm, o2, o3, MI_put (MI_wrong j4 0) (by omega), ⟨setI_same _ _ _ _, fun j hj => absurd hj (Nat.not_lt_zero j)⟩, Nat.zero_le _, o4, ⟨hBm.1, fun p hp => by rw [setI_n _ _ _ (by omega), setI_n _ _ _ (by omega)]; exact hBm.2 p hp⟩, (fun E h => by cases h), ?_, ?_⟩
      · rw [s1 _ (by decide), setI_same]
      · rw [s2 _ (by decide) (by decide)]; exact j6
    · obtain ⟨o1, o2, o3, o4⟩ := p1 j1
      obtain ⟨ν37, l1, l2, l3, l4, l5, l6⟩ := copy_eq (a1 := 47) (a2 := 46) (by decide) (by decide) (by decide) (by decide) νm'
      rw [if_neg (by rw [j2]; decide), l1, bi_eq, bd_eq] at hlm
      have hM37 : MI ν37 T := ⟨hM.1, MF_ext hM.1 (MI_wrong hM3 0).2.1 (fun j hj => by rw [l2 j hj, i5.2.1 47 (by omega), hQ.2.1 47 (by decide)]; exact k2 j hj), Or.inl l4⟩
      refine ⟨.inl xS, νc, _, _, T, N, o1, hlm, o2, o3, MI_wrong hM37 _, ⟨?_, fun j hj => ?_⟩, Nat.le_refl _, o4, ⟨l6.trans hBm.1, fun p hp => ?_⟩, (fun E h => inl_S h), ?_⟩
      · rw [s1 _ (by decide), l5 5 (by decide), i5.2.2, hQ.2.2 5 (by omega)]; exact hT26.1
      · rw [setI_n _ _ _ (by decide), l3 49 (by decide) (by decide), i5.2.1 49 (by omega), hQ.2.1 49 (by decide)]; exact hT26.2 j hj
      · rw [setI_n _ _ _ (by omega), l3 p (by omega) (by omega)]; exact hBm.2 p hp
      · show (setI ν37 45 0 2).1 45 0 = nI (cAS xS)
        rw [setI_same]
        decide
  · -- not complete
    have hc : X3_load μ = some (.inl xA, μ) := by
      unfold X3_load
      rw [isComplete_eq hv hTc, bi_eq, if_neg hcm, if_pos zero0]
    have hm : X4_load μ' = some (0, setI ν3 45 0 1) := by
      unfold X4_load X4_load_j23 X4_load_j24
      rw [r1, bn_eq, hT3.1, ifEq (by omega) (by omega)]
      by_cases q : fwG f N 0 0 = N
      · have hsome := hfs.mp q
        cases hq : fsG f N 0 0 with
        | none => rw [hq] at hsome; cases hsome
        | some s' =>
          obtain ⟨st1, st2⟩ := r3 s' hq
          have hce : ¬ cE s' = true := by rw [← cmpl_some hq]; exact hcm
          rw [if_pos q, canEnd_eq st2 st1, bi_eq, if_neg hce, if_pos zero0, bd_eq, if_pos rfl, bd_eq, setI_same, if_neg (by decide)]
      · rw [if_neg q, if_pos rfl, bd_eq, setI_same, if_neg (by decide)]
    exact ⟨.inl xA, μ, _, _, T, N, hc, hm, hC, hTc, MI_wrong hM3 _, tx0 _, Nat.le_refl _, ⟨rfl, fun _ _ => rfl⟩, fb0 _, (fun E h => inl_A h), by show (setI ν3 45 0 1).1 45 0 = nI (cAS xA); rw [setI_same]; decide⟩
section TB
variable {μ : Mm} {T : TT} {N : Nat} {f : Nat → Nat}
theorem firstErrorM_eq (hM : MI μ T) (hT : TXm μ N f) (hv : TXv N f) : ∃ ν, X4_firstError μ = some (nI (fwG f N 0 0), ν) ∧ MI ν T ∧ TXm ν N f ∧ frB μ ν := by
  have hT0 : TXm (setI μ 45 0 0) N f := ⟨by rw [setI_ne _ _ _ _ (by decide)]; exact hT.1, fun k hk => by rw [setI_n _ _ _ (by decide)]; exact hT.2 k hk⟩
  obtain ⟨ν, r1, r2, r3⟩ := read0_eq hv hT0
  unfold X4_firstError
  rw [bd_eq, r1, bn_eq]
  exact ⟨ν, rfl, MI_Q (MI_wrong hM 0) r2, TXm_Q hT0 r2, r2.1, fun p hp => by rw [r2.2.1 p (by omega), setI_n _ _ _ (by omega)]⟩
theorem clearBufferM_eq (hM : MI μ T) (hT : TXm μ N f) : ∃ ν, X4_clearBuffer μ = some (nI N, ν) ∧ MI ν T ∧ TXm ν 0 f ∧ frB μ ν := by
  unfold X4_clearBuffer
  rw [bd_eq, s1 _ (show 5 ≠ 0 by decide), hT.1, bd_eq, bd_eq]
  exact ⟨_, rfl, MI_put (MI_wrong hM 0) (by omega), ⟨setI_same _ _ _ _, fun j hj => absurd hj (Nat.not_lt_zero j)⟩, rfl, fun p hp => by rw [setI_n _ _ _ (by omega), setI_n _ _ _ (by omega)]⟩
theorem freshM_eq (hV : VT T) : ∃ ν, X4_fresh μ = some ν ∧ (MI ν (reT T) ∧ frN μ ν ∧ ν.1 45 0 = μ.1 45 0) := by
  unfold X4_fresh
  refine it1m _ (fun m v1 ν => ∃ c, c + m = 290 ∧ v1 = nI c ∧ (∀ j, j < c → ν.1 46 j = 0) ∧ (∀ p, p ≠ 46 → ν.1 p = μ.1 p) ∧ ν.2 = μ.2) ?_ big 290 _ μ (by decide) ⟨0, rfl, rfl, fun j hj => absurd hj (Nat.not_lt_zero j), fun _ _ => rfl, rfl⟩
  rintro k2 m v1 ν ⟨c, hm, rfl, h1, h2, h3⟩ ih
  unfold X4_fresh_l2
  rw [show (290 : Int32) = nI 290 from rfl, ifLe (by decide) (by omega)]
  by_cases q : 290 ≤ c
  · rw [if_pos q, show ck (0 : Int32) 290 = ck (nI 0) 290 from rfl, ck_nI (by decide) (by decide), show (0 : Int32).toNatClampNeg = 0 from rfl, bd_eq, show ck (4 : Int32) 290 = ck (nI 4) 290 from rfl, ck_nI (by decide) (by decide), show (4 : Int32).toNatClampNeg = 4 from rfl, bd_eq, bd_eq]
    refine ⟨_, rfl, ⟨VT_reT hV, ⟨⟨?_, ?_, ?_, ?_⟩, fun s hs => ?_, fun d hd => absurd hd (Nat.not_lt_zero _), fun i hi => absurd hi (Nat.not_lt_zero _), fun u hu => absurd hu (Nat.not_lt_zero _)⟩, Or.inl (setI_same _ _ _ _)⟩, ⟨h3, fun p hp => ?_, ?_⟩, ?_⟩
    · rw [setI_n _ _ _ (by decide), setI_ne _ _ _ _ (by decide), setI_same]; rfl
    · rw [setI_n _ _ _ (by decide), setI_ne _ _ _ _ (by decide), setI_ne _ _ _ _ (by decide), h1 1 (by omega)]; rfl
    · rw [setI_n _ _ _ (by decide), setI_ne _ _ _ _ (by decide), setI_ne _ _ _ _ (by decide), h1 2 (by omega)]; rfl
    · rw [setI_n _ _ _ (by decide), setI_ne _ _ _ _ (by decide), setI_ne _ _ _ _ (by decide), h1 3 (by omega)]; rfl
    · have hs' : s < 1 := hs
      have e : s = 0 := by omega
      subst e
      rw [setI_n _ _ _ (by decide), show 4 + 0 = 4 from rfl, setI_same, show tPar (reT T) 0 = none from hV.1.2.2.1]
      rfl
    · rw [setI_n _ _ _ (by omega), setI_n _ _ _ (by omega), setI_n _ _ _ (by omega)]; exact h2 p (by omega)
    · rw [s1 _ (by decide), setI_n _ _ _ (by decide), setI_n _ _ _ (by decide), h2 45 (by decide)]
    · rw [s1 _ (by decide), setI_n _ _ _ (by decide), setI_n _ _ _ (by decide), h2 45 (by decide)]
  · rw [if_neg q, ck_nI (by omega) (by decide), nI_clamp (by omega), bd_eq, nI_1]
    refine ih (m - 1) _ _ (by omega) ⟨c + 1, by omega, rfl, fun j hj => ?_, fun p hp => ?_, h3⟩
    · rw [setI_at]
      by_cases e : j = c
      · rw [if_pos e]
      · rw [if_neg e]; exact h1 j (by omega)
    · rw [setI_n _ _ _ hp]; exact h2 p hp
theorem beginM_eq (hM : MI μ T) : ∃ ν, X4_begin μ = some (nI (tS T), ν) ∧ MI ν (reT T) ∧ frN μ ν := by
  obtain ⟨ν, e, i1, f1, -⟩ := freshM_eq (μ := setI μ 45 0 0) hM.1
  unfold X4_begin
  rw [bd_eq, show ck (0 : Int32) 290 = ck (nI 0) 290 from rfl, ck_nI (by decide) (by decide), show (0 : Int32).toNatClampNeg = 0 from rfl, setI_n _ _ _ (show 46 ≠ 45 by decide), hM.2.1.1.1, bd_eq, e, bi_eq]
  exact ⟨ν, rfl, i1, frN_tr (frN_put frN_refl (by omega)) f1⟩
end TB
