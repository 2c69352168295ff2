/-! ===== the model removes: how many uses have another outcome ===== -/
theorem lowered_eq {m d : Nat} (hd : d < 30) (hm : m < 2 ^ 30) : X4_lowered (nI m) (nI d) = some (if m.testBit d = true then -1 else nI (drp d m)) := by
  unfold X4_lowered
  rw [bit1 (lt31 hm) (by omega)]
  by_cases q : m.testBit d = true
  · rw [if_pos q, if_pos q]
  · have hle : m / 2 ^ (d + 1) * 2 ^ d < 2 ^ 32 := Nat.lt_of_le_of_lt (Nat.le_trans (Nat.mul_le_mul_left _ (Nat.pow_le_pow_right (by decide) (Nat.le_succ d))) (Nat.div_mul_le_self m _)) (Nat.lt_trans hm (by decide))
    rw [if_neg q, if_neg q, one_pow hd, show (1 : Int32) = nI 1 from rfl, nI_sb (Nat.two_pow_pos d), fa_and, bd_eq, nI_add, shr0 (lt31 hm) (by omega), pk_shlN (nI d &&& 31) d (s_l d (by omega)) hle, or_nI, Nat.and_two_pow_sub_one_eq_mod]
    rfl
theorem layM_row {T T' : TT} (h0 : tD T' = tD T) (h1 : T'.2.2.1 = T.2.2.1) (h2 : tI T' = tI T) (h3 : T'.2.2.2.1 = T.2.2.2.1) (X : OX) (s n j : Nat) : layM T' X s n j = layM T X s n j := by
  unfold layM
  by_cases q : j = 0
  · rw [if_pos q, if_pos q]
    unfold ownM
    rw [dOf_row h0 h1]
  · rw [if_neg q, if_neg q, h2]
    refine orI_cong (fun i _ => ?_)
    have e : T'.2.2.2.1 i = T.2.2.2.1 i := by rw [h3]
    rw [bro_row e]
    unfold iTo isSg iSr
    rw [e]
theorem out_delU {T : TT} (hV : VT T) (hX : IsOff T (offOf T)) {i u v : Nat} (hi : i < tU T) (hr : (delU T i).2.2.2.2 u = T.2.2.2.2 v) (hn : uNm T v < 26) : outU (delU T i) (offOf (delU T i)) u = outU T (offOf T) v := by
  have hX' : IsOff (delU T i) (offOf T) := (off_row (T := T) (T' := delU T i) rfl rfl rfl rfl _).mpr hX
  have e1 : uSc (delU T i) u = uSc T v := by unfold uSc; rw [hr]
  have e2 : uNm (delU T i) u = uNm T v := by unfold uNm; rw [hr]
  have e3 : ∀ s j, layM (delU T i) (offOf (delU T i)) s (uNm T v) j = layM T (offOf T) s (uNm T v) j := fun s j => by
    rw [← layM_row (T := T) (T' := delU T i) rfl rfl rfl rfl]
    exact layM_congr (VT_delU hV hi) (fun s n hs hn => (offOf_eq hX' hs hn).symm) hn j
  unfold outU outc lays
  rw [e1, e2, chn_congr (T := delU T i) (T' := T) e3 rfl]
def frZ (μ ν : Mm) : Prop := frN μ ν ∧ ν.1 45 0 = μ.1 45 0
theorem frZ_refl {μ : Mm} : frZ μ μ := ⟨frN_refl, rfl⟩
theorem frZ_tr {μ ν ξ : Mm} (h : frZ μ ν) (k : frZ ν ξ) : frZ μ ξ := ⟨frN_tr h.1 k.1, k.2.trans h.2⟩
theorem frW_Z {μ ν : Mm} (h : frW μ ν) : frZ μ ν := ⟨frW_N h, h.2.2 0 (by decide) (by decide)⟩
theorem frW_cut {μ ν ξ ζ : Mm} (hf : frW μ ν) (b3 : ∀ p, p ≠ 46 → p ≠ 45 → ξ.1 p = ν.1 p) (d3 : ∀ j, j ≠ 4 → ξ.1 45 j = ν.1 45 j) (g3 : ξ.2 = ν.2) (f4 : frS ξ ζ) : frW μ ζ :=
  ⟨f4.1.trans (g3.trans hf.1), fun p hp => by rw [f4.2.1 p (by omega), b3 p (by omega) (by omega)]; exact hf.2.1 p hp, fun j h1 h2 => by rw [f4.2.2 j h1 h2, d3 j h1]; exact hf.2.2 j h1 h2⟩
noncomputable def lwr (T : TT) (d v : Nat) : Int32 := if (outU T (offOf T) v).testBit d = true then -1 else nI (drp d (outU T (offOf T) v))
section MRm
variable {μ : Mm} {T : TT}
theorem removes0_eq (h : MI μ T) {d : Nat} (hd : d < tD T) : ∃ r, X4_removes 0 (nI d) μ = some r ∧ (∃ ν, r = (nI (fb_sm (chD T d) (tU T)), ν) ∧ MI ν (delD T d) ∧ frW μ ν) := by
  have hU := h.1.2.2.2.1
  have hD := h.1.2.1.1
  obtain ⟨ν1, e1, i1, f1, w1, z1⟩ := layOutcomes_eq h
  unfold X4_removes
  rw [e1, bi_eq, if_pos rfl]
  refine it1m _ (fun m u3 ν => ∃ u, u + m = tU T ∧ u3 = nI u ∧ MI ν T ∧ frW μ ν ∧ (∀ v, v < u → ν.1 53 v = lwr T d v) ∧ (∀ v, u ≤ v → v < tU T → ν.1 53 v = nI (outU T (offOf T) v))) ?_ big (tU T) _ ν1 (by unfold big; omega) ⟨0, by omega, rfl, i1, f1, fun v hv => absurd hv (Nat.not_lt_zero v), fun v _ hv => w1 v hv⟩
  rintro k m u3 ν ⟨u, hm, rfl, hI, hf, hw, hw2⟩ ih
  unfold X4_removes_l10
  rw [show (3 : Int32) = nI 3 from rfl, ck_nI (by decide) (by decide), nI_clamp (by decide), hI.2.1.1.2.2.2, ifLe (by omega) (by omega)]
  by_cases q : tU T ≤ u
  · obtain ⟨ν3, e3, i3, b3, d3, g3⟩ := cutD_eq h.1 hI.2.1 hd
    have hc : ∀ v, v < tU (delD T d) → (if nI (outU (delD T d) (offOf (delD T d)) v) = lwr T d v then (0 : Int32) else 1) = nI (chD T d v) := fun v hv => by
      have hv' : v < tU T := hv
      have l1 := outU_lt h.1 (MI_off h).1 hv'
      have l2 := outU_lt i3.1 (MI_off i3).1 hv
      unfold chD lwr
      by_cases qb : (outU T (offOf T) v).testBit d = true
      · rw [if_pos qb, if_pos qb, if_neg (nI_ne_m1 (lt31 l2))]; rfl
      · rw [if_neg qb, if_neg qb, ifEq (lt31 l2) (lt31 (drp_lt l1))]
        by_cases q2 : drp d (outU T (offOf T) v) = outU (delD T d) (offOf (delD T d)) v
        · rw [if_pos q2, if_pos q2.symm]; rfl
        · rw [if_neg q2, if_neg (fun z => q2 z.symm)]; rfl
    obtain ⟨r, e4, ν4, rfl, i4, f4⟩ := otherOutcomes_eq i3 (f := lwr T d) (fun v hv => by rw [b3 53 (by decide) (by decide)]; exact hw v (by have : v < tU T := hv; omega)) (chD T d) hc
    unfold X4_removes_j116
    rw [if_pos q, show X4_cut 20 (nI 3) (nI d) 1 ν = _ from e3, bi_eq, e4, bn_eq]
    exact ⟨_, rfl, ν4, rfl, i4, frW_cut hf b3 d3 g3 f4⟩
  · have hu : u < tU T := by omega
    have l1 := outU_lt h.1 (MI_off h).1 hu
    rw [if_neg q, ck_nI (by omega) (by decide), nI_clamp (by omega), hw2 u (Nat.le_refl _) hu, lowered_eq (by omega) l1, bi_eq, ck_nI (by omega) (by decide), bd_eq, nI_1]
    refine ih (m - 1) _ _ (by omega) ⟨u + 1, by omega, rfl, MI_put hI (by omega), frW_put hf (by omega) (by omega), fun v hv => ?_, fun v h1 h2 => ?_⟩
    · rw [setI_at]
      by_cases e : v = u
      · rw [if_pos e, e]; rfl
      · rw [if_neg e]; exact hw v (by omega)
    · rw [setI_at, if_neg (by omega)]; exact hw2 v (by omega) h2
theorem removes1_eq (h : MI μ T) {i : Nat} (hi : i < tI T) : ∃ r, X4_removes 1 (nI i) μ = some r ∧ (∃ ν, r = (nI (loss T i), ν) ∧ MI ν (delI T i) ∧ frW μ ν) := by
  obtain ⟨ν1, e1, i1, f1, w1, z1⟩ := layOutcomes_eq h
  obtain ⟨ν3, e3, i3, b3, d3, g3⟩ := cutI_eq h.1 i1.2.1 hi
  have hc : ∀ u, u < tU (delI T i) → (if nI (outU (delI T i) (offOf (delI T i)) u) = nI (outU T (offOf T) u) then (0 : Int32) else 1) = nI (@ite _ (outU T (offOf T) u = outU (delI T i) (offOf (delI T i)) u) (Nat.decEq _ _) 0 1) := fun u hu => by
    rw [ifEq (lt31 (outU_lt i3.1 (MI_off i3).1 hu)) (lt31 (outU_lt h.1 (MI_off h).1 hu))]
    by_cases q : outU T (offOf T) u = outU (delI T i) (offOf (delI T i)) u
    · rw [if_pos q, if_pos q.symm]; rfl
    · rw [if_neg q, if_neg (fun z => q z.symm)]; rfl
  obtain ⟨r, e4, ν4, rfl, i4, f4⟩ := otherOutcomes_eq i3 (f := fun u => nI (outU T (offOf T) u)) (fun u hu => by rw [b3 53 (by decide) (by decide)]; exact w1 u hu) (fun u => @ite _ (outU T (offOf T) u = outU (delI T i) (offOf (delI T i)) u) (Nat.decEq _ _) 0 1) hc
  unfold X4_removes X4_removes_j116
  rw [e1, bi_eq, if_neg (by decide), if_pos rfl, e3, bi_eq, e4, bn_eq]
  exact ⟨_, rfl, ν4, rfl, i4, frW_cut f1 b3 d3 g3 f4⟩
theorem removes2_eq (h : MI μ T) {i : Nat} (hi : i < tU T) : ∃ r, X4_removes 2 (nI i) μ = some r ∧ (∃ ν, r = (nI 0, ν) ∧ MI ν (delU T i) ∧ frW μ ν) := by
  have hU := h.1.2.2.2.1
  obtain ⟨ν1, e1, i1, f1, w1, z1⟩ := layOutcomes_eq h
  unfold X4_removes
  rw [e1, bi_eq, if_neg (by decide), if_neg (by decide)]
  refine it1m _ (fun m u3 ν => ∃ u, u + m = tU T - 1 ∧ i ≤ u ∧ u3 = nI u ∧ MI ν T ∧ frW μ ν ∧ (∀ v, v < u → ν.1 53 v = nI (outU T (offOf T) (if v < i then v else v + 1))) ∧ (∀ v, u ≤ v → v < tU T → ν.1 53 v = nI (outU T (offOf T) v))) ?_ big (tU T - 1 - i) _ ν1 (by unfold big; omega) ⟨i, by omega, Nat.le_refl _, rfl, i1, f1, fun v hv => by rw [if_pos hv]; exact w1 v (by omega), fun v _ hv => w1 v hv⟩
  rintro k m u3 ν ⟨u, hm, hiu, rfl, hI, hf, hw, hw2⟩ ih
  unfold X4_removes_l74
  rw [show (3 : Int32) = nI 3 from rfl, ck_nI (by decide) (by decide), nI_clamp (by decide), hI.2.1.1.2.2.2, show (1 : Int32) = nI 1 from rfl, nI_sb (by omega), ifLe (by omega) (by omega)]
  by_cases q : tU T - 1 ≤ u
  · obtain ⟨ν3, e3, i3, b3, d3, g3⟩ := cutU_eq h.1 hI.2.1 hi
    have hc : ∀ v, v < tU (delU T i) → (if nI (outU (delU T i) (offOf (delU T i)) v) = nI (outU T (offOf T) (if v < i then v else v + 1)) then (0 : Int32) else 1) = nI ((fun _ => 0) v) := fun v hv => by
      have hv' : v < tU T - 1 := hv
      rw [out_delU h.1 (MI_off h) hi (v := if v < i then v else v + 1), if_pos rfl]
      · rfl
      · rw [delU_row]
        unfold shf
        by_cases q2 : v < i
        · rw [if_pos q2, if_pos q2]
        · rw [if_neg q2, if_neg q2]
      · exact (h.1.2.2.2.2 _ (by split <;> omega)).2
    obtain ⟨r, e4, ν4, rfl, i4, f4⟩ := otherOutcomes_eq i3 (f := fun v => nI (outU T (offOf T) (if v < i then v else v + 1))) (fun v hv => by rw [b3 53 (by decide) (by decide)]; exact hw v (by have : v < tU T - 1 := hv; omega)) (fun _ => 0) hc
    unfold X4_removes_j116
    rw [if_pos q, show X4_cut 230 2 (nI i) (nI 3) ν = _ from e3, bi_eq, e4, bn_eq, fb_sm_const, Nat.mul_zero]
    exact ⟨_, rfl, ν4, rfl, i4, frW_cut hf b3 d3 g3 f4⟩
  · have hu : u + 1 < tU T := by omega
    rw [if_neg q, nI_add, ck_nI (by omega) (by decide), ck_nI (by omega) (by decide), nI_clamp (by omega), nI_clamp (by omega), hw2 (u + 1) (by omega) hu, bd_eq]
    refine ih (m - 1) _ _ (by omega) ⟨u + 1, by omega, by omega, rfl, MI_put hI (by omega), frW_put hf (by omega) (by omega), fun v hv => ?_, fun v h1 h2 => ?_⟩
    · rw [setI_at]
      by_cases e : v = u
      · rw [if_pos e, e, if_neg (by omega)]
      · rw [if_neg e]; exact hw v (by omega)
    · rw [setI_at, if_neg (by omega)]; exact hw2 v (by omega) h2
end MRm
/-! ===== the model's answers, held against the same words ===== -/
/-- what the law's try calls a refusal -/
def cIAS (E : String) : Nat := if E = xI then 1 else if E = xA then 2 else 3
def cIS (E : String) : Nat := if E = xI then 1 else 2
def cAI (E : String) : Nat := if E = xA then 1 else 2
def MA (μ : Mm) (c : String → Nat) (z : (String ⊕ Int32) × TT) (r : Int32 × Mm) : Prop := ∃ ν w, r = (w, ν) ∧ MI ν z.2 ∧ frN μ ν ∧ match z.1 with
  | .inl E => ν.1 45 0 = nI (c E)
  | .inr v => ν.1 45 0 = 0 ∧ w = v
theorem MA_inl {μ ν : Mm} {c : String → Nat} {E : String} {T : TT} {w : Int32} (h1 : MI ν T) (h2 : frN μ ν) (h3 : ν.1 45 0 = nI (c E)) : MA μ c (.inl E, T) (w, ν) := ⟨ν, w, rfl, h1, h2, h3⟩
theorem MA_inr {μ ν : Mm} {c : String → Nat} {v : Int32} {T : TT} (h1 : MI ν T) (h2 : frN μ ν) (h3 : ν.1 45 0 = 0) : MA μ c (.inr v, T) (v, ν) := ⟨ν, v, rfl, h1, h2, h3, rfl⟩
/-- refused -/
theorem gd_no {μ : Mm} {T : TT} (h : MI μ T) {c : String → Nat} {E : String} {s0 : Int32} {k : Nat} (hk : c E = k) (hs : s0 = nI k) (hn : ¬ nI k ≤ (0 : Int32)) (F : Mm → Option (Int32 × Mm)) : ∃ r, (bd (setI μ 45 0 s0) fun μ6 => (if (μ6.1 45 0) ≤ 0 then F μ6 else some (0, μ6))) = some r ∧ MA μ c (.inl E, T) r := by
  subst hs
  rw [bd_eq, setI_same, if_neg hn]
  exact ⟨_, rfl, MA_inl (MI_wrong h _) (frN_put frN_refl (by omega)) (by rw [setI_same, hk])⟩
/-- done -/
theorem gd_yes {μ : Mm} {T : TT} {T' : TT} (h : MI μ T) {c : String → Nat} {v : Int32} {s0 : Int32} (hs : s0 = 0) {F : Mm → Option (Int32 × Mm)} (hF : ∀ μ', MI μ' T → ∃ r, F μ' = some r ∧ (∃ ν, r = (v, ν) ∧ MI ν T' ∧ frZ μ' ν)) : ∃ r, (bd (setI μ 45 0 s0) fun μ6 => (if (μ6.1 45 0) ≤ 0 then F μ6 else some (0, μ6))) = some r ∧ MA μ c (.inr v, T') r := by
  subst hs
  rw [bd_eq, setI_same, if_pos (by decide)]
  obtain ⟨r, e, ν, rfl, i1, f1⟩ := hF _ (MI_wrong h 0)
  exact ⟨_, e, MA_inr i1 (frN_tr (frN_put frN_refl (by omega)) f1.1) (by rw [f1.2, setI_same])⟩
theorem bn_id {x : Option (Int32 × Mm)} : (bn x fun q μ => some (q, μ)) = x := by
  match x with
  | some (v, μ) => rfl
  | none => rfl
theorem n1le : ¬ (nI 1 ≤ (0 : Int32)) := by decide
theorem n2le : ¬ (nI 2 ≤ (0 : Int32)) := by decide
theorem SwZ {μ ν : Mm} {T : TT} (h : SwW μ T ν) : MI ν T ∧ frZ μ ν := ⟨h.1, frW_Z h.2⟩
theorem SsZ {μ ν : Mm} {T : TT} (h : SS μ T ν) : MI ν T ∧ frZ μ ν := SwZ (SS_Sw h)
theorem removeM_eq {μ : Mm} {T : TT} (h : MI μ T) (x y : Int32) : ∃ r, X4_remove x y μ = some r ∧ MA μ cAI (sRem T x y) r := by
  have hM := h.2.1.1
  have hD := h.1.2.1.1
  have hI := h.1.2.2.1.1
  have hU := h.1.2.2.2.1
  unfold X4_remove X4_remove_j37 sRem
  rw [show (2 : Int32) = nI 3 - 1 from rfl, within0 x (by decide), bi_eq]
  by_cases q : inb x 3 = true
  · rw [if_pos q, if_pos q, if_neg one0]
    obtain ⟨j, hj, rfl⟩ := inb_of q (by decide)
    rw [show (1 : Int32) + nI j = nI (1 + j) from nI_add 1 j, ck_nI (by omega) (by decide), nI_clamp (by omega)]
    have hcase : j = 0 ∨ j = 1 ∨ j = 2 := by omega
    rcases hcase with rfl | rfl | rfl
    · rw [show μ.1 46 (1 + 0) = nI (tD T) from hM.2.1, within0 y (by omega), bi_eq, if_pos (show (nI 0 : Int32) = 0 from rfl)]
      by_cases qy : inb y (tD T) = true
      · obtain ⟨a1, a2⟩ := inb_cl qy (by omega)
        rw [if_pos qy, if_pos qy]
        refine gd_yes h (by decide) (fun μ' h' => ?_)
        obtain ⟨r, e, ν, rfl, i1, f1⟩ := removes0_eq h' a1
        rw [← a2] at e
        rw [bn_id]
        exact ⟨_, e, ν, rfl, i1, frW_Z f1⟩
      · rw [if_neg qy, if_neg qy]
        exact gd_no h (k := 2) (by decide) (by decide) n2le _
    · rw [show μ.1 46 (1 + 1) = nI (tI T) from hM.2.2.1, within0 y (by omega), bi_eq, if_neg (show ¬ (nI 1 : Int32) = 0 by decide), if_pos (show (nI 1 : Int32) = 1 from rfl)]
      by_cases qy : inb y (tI T) = true
      · obtain ⟨a1, a2⟩ := inb_cl qy (by omega)
        rw [if_pos qy, if_pos qy]
        refine gd_yes h (by decide) (fun μ' h' => ?_)
        obtain ⟨r, e, ν, rfl, i1, f1⟩ := removes1_eq h' a1
        rw [← a2] at e
        rw [bn_id]
        exact ⟨_, e, ν, rfl, i1, frW_Z f1⟩
      · rw [if_neg qy, if_neg qy]
        exact gd_no h (k := 2) (by decide) (by decide) n2le _
    · rw [show μ.1 46 (1 + 2) = nI (tU T) from hM.2.2.2, within0 y (by omega), bi_eq, if_neg (show ¬ (nI 2 : Int32) = 0 by decide), if_neg (show ¬ (nI 2 : Int32) = 1 by decide)]
      by_cases qy : inb y (tU T) = true
      · obtain ⟨a1, a2⟩ := inb_cl qy (by omega)
        rw [if_pos qy, if_pos qy]
        refine gd_yes h (by decide) (fun μ' h' => ?_)
        obtain ⟨r, e, ν, rfl, i1, f1⟩ := removes2_eq h' a1
        rw [← a2] at e
        rw [bn_id]
        exact ⟨_, e, ν, rfl, i1, frW_Z f1⟩
      · rw [if_neg qy, if_neg qy]
        exact gd_no h (k := 2) (by decide) (by decide) n2le _
  · rw [if_neg q, if_neg q, if_pos zero0]
    exact gd_no h (k := 1) (by decide) (by decide) n1le _
