/-! ===== the model lays its pairs ===== -/
/-- only scratch rows may have changed -/
def frS (μ ν : Mm) : Prop := ν.2 = μ.2 ∧ (∀ p, ¬ (p = 45 ∨ p = 48 ∨ p = 50 ∨ p = 51 ∨ p = 52) → ν.1 p = μ.1 p) ∧ ∀ j, j ≠ 4 → j ≠ 7 → ν.1 45 j = μ.1 45 j
theorem frS_refl {μ : Mm} : frS μ μ := ⟨rfl, fun _ _ => rfl, fun _ _ _ => rfl⟩
theorem frS_tr {μ ν ξ : Mm} (h : frS μ ν) (k : frS ν ξ) : frS μ ξ := ⟨k.1.trans h.1, fun p hp => (k.2.1 p hp).trans (h.2.1 p hp), fun j h1 h2 => (k.2.2 j h1 h2).trans (h.2.2 j h1 h2)⟩
theorem frS_put {μ ν : Mm} (h : frS μ ν) {a k : Nat} {v : Int32} (ha : a = 48 ∨ a = 50 ∨ a = 51 ∨ a = 52 ∨ (a = 45 ∧ (k = 4 ∨ k = 7))) : frS μ (setI ν a k v) := by
  refine ⟨h.1, fun p hp => ?_, fun j h1 h2 => ?_⟩
  · rw [setI_n _ _ _ (by omega)]; exact h.2.1 p hp
  · rw [sg, if_neg (by omega)]; exact h.2.2 j h1 h2
theorem fr48_S {μ ν : Mm} (h : fr48 μ ν) : frS μ ν := ⟨h.1, fun p hp => h.2 p (by omega), fun j _ _ => by rw [h.2 45 (by decide)]⟩
theorem frS_MF {μ ν : Mm} {T : TT} (h : frS μ ν) (hM : MF μ T) : MF ν T := MF_same hM (h.2.1 46 (by omega))
theorem lay91_eq {μ : Mm} {T : TT} {X : OX} (hV : VT T) (hM : MF μ T) (h1 : XB X) (h2 : based T X) (h3 : leastI T X) (hO : offM μ X) : ∃ ν, itr (X4_lay_l91) (fun _ _ => none) big 1 μ = some ν ∧ (laid ν T ∧ frS μ ν) := by
  refine it1m _ (fun m u1 ν => ∃ g X, u1 = nI g ∧ g ≤ 1 ∧ m = (if g = 0 then 0 else 12481 - tot X) ∧ XB X ∧ based T X ∧ leastI T X ∧ (g = 0 → closed T X) ∧ offM ν X ∧ frS μ ν) ?_ big (12481 - tot X) _ μ (by unfold big; omega) ⟨1, X, rfl, by decide, rfl, h1, h2, h3, (fun z => by cases z), hO, frS_refl⟩
  rintro k91 m u1 ν ⟨g, Y, rfl, hg, rfl, y1, y2, y3, y4, yO, yf⟩ ih
  unfold X4_lay_l91
  rw [show (0 : Int32) = nI 0 from rfl, ifEq (by omega) (by decide)]
  by_cases q : g = 0
  · have hoff : IsOff T Y := ⟨y1, y2, y4 q, y3⟩
    rw [if_pos q, bd_eq]
    refine ⟨_, rfl, ⟨setI_same _ _ _ _, fun s n hs hn => ?_, offOf_off hoff⟩, frS_put yf (by omega)⟩
    rw [setI_n _ _ _ (by decide), yO s n hs hn, offOf_eq hoff hs hn]
  · have htl := tot_le Y
    obtain ⟨r, e, g', ν', Y', rfl, ⟨r1, r2, r3, r4, r5, r6, r7⟩, hO', hf'⟩ := passOnM_eq hV (frS_MF yf hM) y1 y2 y3 yO
    have htl' := tot_le Y'
    rw [if_neg q, e, bn_eq]
    refine ih (if g' = 0 then 0 else 12481 - tot Y') _ _ ?_ ⟨g', Y', rfl, r4, rfl, r1, r2, r3, fun z j hj => (r5 z).2 j hj, hO', frS_tr yf (fr48_S hf')⟩
    rw [if_neg q]
    by_cases q2 : g' = 0
    · rw [if_pos q2]; omega
    · rw [if_neg q2]
      have := r6 q2
      omega
theorem lay32_eq {μ : Mm} {T : TT} (hV : VT T) (hM : MF μ T) (hO : offM μ (fun _ _ => 0)) : ∃ ν, itr (X4_lay_l32) (fun _ _ => none) big 0 μ = some ν ∧ (laid ν T ∧ frS μ ν) := by
  have h16 := hV.1.2.1
  have hD := hV.2.1.1
  refine it1m _ (fun m u1 ν => ∃ d, d + m = tD T ∧ u1 = nI d ∧ offM ν (bsI T d) ∧ frS μ ν) ?_ big (tD T) _ μ (by unfold big; omega) ⟨0, by omega, rfl, hO, frS_refl⟩
  rintro k32 m u1 ν ⟨d, hm, rfl, hOd, hf⟩ ih
  have hMν := frS_MF hf hM
  unfold X4_lay_l32
  rw [show (1 : Int32) = nI 1 from rfl, ck_nI (by decide) (by decide), nI_clamp (by decide), hMν.1.2.1, ifLe (by omega) (by omega)]
  by_cases q : tD T ≤ d
  · have e : d = tD T := by omega
    subst e
    rw [if_pos q]
    have hB : XB (baseM T) := fun s n hs hn => by
      unfold baseM
      cases hd : dOf T s n with
      | none => show 0 < 2 ^ 30; decide
      | some d =>
        show (if dPb T d = 1 then 2 ^ d else 0) < 2 ^ 30
        have := (dOf_some hd).1
        exact ite_lt30 (pow_lt (by omega))
    obtain ⟨ν', e1, e2, e3⟩ := lay91_eq (X := baseM T) hV hMν hB (fun s n _ _ => msub_rfl) (fun Y hb _ => hb) hOd
    exact ⟨ν', e1, e2, frS_tr hf e3⟩
  · have hd : d < tD T := by omega
    obtain ⟨v1, v2, v3⟩ := hV.2.1.2.1 d hd
    have hnone : dIn T (dSc T d) (dNm T d) d = none := dIn_none.mpr (fun e he hh => by
      have := hV.2.1.2.2 e d (by omega) hd hh.1 hh.2
      omega)
    have hcell : ν.1 48 (26 * dSc T d + dNm T d) = nI 0 := by
      rw [hOd _ _ (by omega) v2]
      unfold bsI
      rw [hnone]
    rw [if_neg q, of0 hMν hV hd, bi_eq, show (nI 1 : Int32) = 1 from rfl, of1 hMν hV hd, bi_eq, show (26 : Int32) = nI 26 from rfl, pk_mul, nI_add, ck_nI (by omega) (by decide), of2 hMν hV hd, bi_eq, ck_nI (by omega) (by decide), nI_clamp (by omega), hcell, show (1 : Int32) <<< (nI d &&& 31) = nI (2 ^ d) from one_pow (by omega), show (if nI (dPb T d) = (1 : Int32) then nI (2 ^ d) else 0) = nI (if dPb T d = 1 then 2 ^ d else 0) by rw [show (1 : Int32) = nI 1 from rfl, ifEq (by omega) (by decide), show (0 : Int32) = nI 0 from rfl, ite_nI], or_nI, Nat.zero_or, bd_eq, nI_1]
    refine ih (m - 1) _ _ (by omega) ⟨d + 1, by omega, rfl, fun s n hs hn => ?_, frS_put hf (by omega)⟩
    rw [setI_at]
    unfold bsI
    rw [dIn_new]
    by_cases e : dSc T d = s ∧ dNm T d = n
    · rw [if_pos e, if_pos (by omega)]
    · rw [if_neg e, if_neg (by omega), hOd s n hs hn]
      rfl
theorem lay_eq {μ : Mm} {T : TT} (hV : VT T) (hM : MF μ T) (hl : μ.1 45 4 = 0 ∨ laid μ T) : ∃ ν, X4_lay μ = some ν ∧ (laid ν T ∧ frS μ ν) := by
  unfold X4_lay
  rcases hl with hl | hl
  · rw [if_pos hl]
    refine it1m _ (fun m u1 ν => ∃ c, c + m = 416 ∧ u1 = nI c ∧ (∀ j, j < c → ν.1 48 j = nI 0) ∧ frS μ ν) ?_ big 416 _ μ (by decide) ⟨0, by omega, rfl, fun j hj => absurd hj (Nat.not_lt_zero j), frS_refl⟩
    rintro k10 m u1 ν ⟨c, hm, rfl, hz, hf⟩ ih
    unfold X4_lay_l10
    rw [show (416 : Int32) = nI 416 from rfl, ifLe (by decide) (by omega)]
    by_cases q : 416 ≤ c
    · rw [if_pos q]
      obtain ⟨ν', e1, e2, e3⟩ := lay32_eq hV (frS_MF hf hM) (fun s n hs hn => hz _ (by omega))
      exact ⟨ν', e1, e2, frS_tr hf e3⟩
    · rw [if_neg q, ck_nI (by omega) (by decide), bd_eq, nI_clamp (by omega), nI_1]
      refine ih (m - 1) _ _ (by omega) ⟨c + 1, by omega, rfl, fun j hj => ?_, frS_put hf (by omega)⟩
      rw [setI_at]
      by_cases e : j = c
      · rw [if_pos e]; rfl
      · rw [if_neg e]; exact hz j (by omega)
  · rw [hl.1, if_neg (by decide)]
    exact ⟨μ, rfl, hl, frS_refl⟩
/-- the model's invariant -/
def MI (μ : Mm) (T : TT) : Prop := VT T ∧ MF μ T ∧ (μ.1 45 4 = 0 ∨ laid μ T)
/-- asked: the pairs lie there -/
def ML (μ : Mm) (T : TT) : Prop := VT T ∧ MF μ T ∧ laid μ T
theorem ML_MI {μ : Mm} {T : TT} (h : ML μ T) : MI μ T := ⟨h.1, h.2.1, Or.inr h.2.2⟩
theorem layM_eq {μ : Mm} {T : TT} (h : MI μ T) : ∃ ν, X4_lay μ = some ν ∧ (ML ν T ∧ frS μ ν) := by
  obtain ⟨ν, e, l, f⟩ := lay_eq h.1 h.2.1 h.2.2
  exact ⟨ν, e, ⟨h.1, frS_MF f h.2.1, l⟩, f⟩
theorem laid_put {μ : Mm} {T : TT} (h : laid μ T) {a k : Nat} {v : Int32} (ha : a ≠ 48 ∧ ¬ (a = 45 ∧ k = 4)) : laid (setI μ a k v) T := by
  refine ⟨?_, fun s n hs hn => ?_, h.2.2⟩
  · rw [sg, if_neg (by omega)]; exact h.1
  · rw [sg, if_neg (by omega)]; exact h.2.1 s n hs hn
theorem ML_put {μ : Mm} {T : TT} (h : ML μ T) {a k : Nat} {v : Int32} (ha : a ≠ 46 ∧ a ≠ 48 ∧ ¬ (a = 45 ∧ k = 4)) : ML (setI μ a k v) T := ⟨h.1, MF_same h.2.1 (setI_n _ _ _ (by omega)), laid_put h.2.2 ⟨ha.2.1, ha.2.2⟩⟩
theorem MI_put {μ : Mm} {T : TT} (h : MI μ T) {a k : Nat} {v : Int32} (ha : a ≠ 46 ∧ a ≠ 48 ∧ ¬ (a = 45 ∧ k = 4)) : MI (setI μ a k v) T := ⟨h.1, MF_same h.2.1 (setI_n _ _ _ (by omega)), h.2.2.elim (fun z => Or.inl (by rw [sg, if_neg (by omega)]; exact z)) (fun z => Or.inr (laid_put z ⟨ha.2.1, ha.2.2⟩))⟩
/-! a layer, and the layers of a scope and a name -/
theorem layer_eq {μ : Mm} {T : TT} (h : ML μ T) {s n j : Nat} (hs : s < tS T) (hn : n < 26) (hj : j < 3) : X4_layer (nI s) (nI n) (nI j) μ = some (nI (layM T (offOf T) s n j)) := by
  have hV := h.1
  have h16 := hV.1.2.1
  have hI := hV.2.2.1.1
  have hD := hV.2.1.1
  unfold X4_layer
  rw [show (0 : Int32) = nI 0 from rfl, ifEq (by omega) (by decide)]
  unfold layM
  by_cases q : j = 0
  · rw [if_pos q, if_pos q, declaredIn_eq h.2.1 hV (by omega) (by omega), bi_eq]
    unfold ownM
    cases hd : dOf T s n with
    | none => rfl
    | some d =>
      have := (dOf_some hd).1
      rw [show enc (some d) = nI d from rfl, if_neg (nI_ne_m1 (by omega)), one_pow (by omega)]
      rfl
  · have hj12 : j = 1 ∨ j = 2 := by omega
    rw [if_neg q, if_neg q]
    refine iq2 _ (fun m u4 u5 => ∃ i, i + m = tI T ∧ u4 = nI (orI (fun i => if iTo T i = s ∧ isSg T i = j then broM T (offOf T) i n else 0) i) ∧ u5 = nI i) ?_ big (tI T) _ _ (by unfold big; omega) ⟨0, by omega, rfl, rfl⟩
    rintro k33 m u4 u5 ⟨i, hm, rfl, rfl⟩ ih
    unfold X4_layer_l33 X4_layer_j78 X4_layer_j79
    rw [show (2 : Int32) = nI 2 from rfl, ck_nI (by decide) (by decide), nI_clamp (by decide), h.2.1.1.2.2.1, ifLe (by omega) (by omega)]
    by_cases q2 : tI T ≤ i
    · rw [if_pos q2, show i = tI T by omega]
    · have hi : i < tI T := by omega
      obtain ⟨hto, hfr, hne, hps, hkk⟩ := hV.2.2.1.2 i hi
      have es : orI (fun i => if iTo T i = s ∧ isSg T i = j then broM T (offOf T) i n else 0) (i + 1) = orI (fun i => if iTo T i = s ∧ isSg T i = j then broM T (offOf T) i n else 0) i ||| (if iTo T i = s ∧ isSg T i = j then broM T (offOf T) i n else 0) := rfl
      have zero : ¬ (iTo T i = s ∧ isSg T i = j) → k33 (nI (orI (fun i => if iTo T i = s ∧ isSg T i = j then broM T (offOf T) i n else 0) i) ||| 0) (nI (i + 1)) = some (nI (orI (fun i => if iTo T i = s ∧ isSg T i = j then broM T (offOf T) i n else 0) (tI T))) := fun z => by
        refine ih (m - 1) _ _ (by omega) ⟨i + 1, by omega, ?_, rfl⟩
        rw [es, if_neg z, show (0 : Int32) = nI 0 from rfl, or_nI]
      have hsg : (nI (if (iSr T i).isSome = true then 1 else 0) = (if nI j = (1 : Int32) then (1 : Int32) else 0)) ↔ isSg T i = j := by
        rw [show (1 : Int32) = nI 1 from rfl, ifEq (by omega) (by decide), show (0 : Int32) = nI 0 from rfl, ite_nI, nI_eq (by split <;> decide) (by split <;> decide)]
        unfold isSg
        rcases hj12 with rfl | rfl <;> cases (iSr T i).isSome <;> decide
      rw [if_neg q2, at0 h.2.1 hV hi, bi_eq, ifEq (by omega) (by omega), nI_1]
      by_cases q3 : iTo T i = s
      · rw [if_pos q3, isSingle_eq h.2.1 hV hi, bi_eq]
        by_cases q4 : isSg T i = j
        · rw [if_pos (hsg.mpr q4), bd_eq, if_neg (by decide), brought_eq h.2.1 hV h.2.2.2.1 hi hn, bi_eq, or_nI, bd_eq]
          refine ih (m - 1) _ _ (by omega) ⟨i + 1, by omega, ?_, rfl⟩
          rw [es, if_pos ⟨q3, q4⟩]
        · rw [if_neg (fun z => q4 (hsg.mp z)), bd_eq, if_pos rfl, bd_eq]
          exact zero (fun z => q4 z.2)
      · rw [if_neg q3, if_pos rfl, bd_eq]
        exact zero (fun z => q3 z.1)
