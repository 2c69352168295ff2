/-! ===== settling: clear, declarations, the fixpoint, the layers ===== -/
theorem alF {a : Nat} (h : isF a) : alen (a + 1) = 16 ∧ alen (a + 2) = 30 ∧ alen (a + 5) = 20 ∧ alen (a + 11) = 30 ∧ alen (a + 13) = 20 ∧ alen (a + 14 + 1) = 416 ∧ alen (a + 14 + 2) = 416 ∧ alen (a + 14 + 3) = 416 ∧ alen (a + 14 + 4) = 416 ∧ alen (a + 14 + 5) = 16 ∧ alen (a + 14 + 6) = 16 := by
  rcases h with rfl | rfl <;> decide
theorem fill_ok {P : Nat → Prop} {μ ν : Mm} {p : Nat} {v : Int32} {n : Nat} (hf : fr P μ ν) (hp : P p) (hn : alen p = n) (hl : n < 9000) : ∃ ξ, J7_fill_53178 p v ν = some ξ ∧ fr P μ ξ ∧ (∀ c, c < n → ξ.1 p c = v) ∧ ∀ q, q ≠ p → ξ.1 q = ν.1 q := by
  refine ⟨_, fill_eq ν p v (by omega), fr_setA hf hp, fun c hc => ?_, fun q hq => ?_⟩
  · rw [setA_at, if_pos rfl]
    unfold fll
    rw [if_pos (by omega)]
  · rw [setA_at, if_neg hq]
def isLy (b p : Nat) : Prop := b + 1 ≤ p ∧ p ≤ b + 6
theorem clear_eq {a : Nat} (ha : isF a) (μ : Mm) : ∃ ν, X1_clear (a + 14) μ = some ν ∧ fr (isLy (a + 14)) μ ν ∧ (∀ j, 1 ≤ j → j ≤ 4 → ∀ c, c < 416 → ν.1 (a + 14 + j) c = 0) ∧ ∀ j, 5 ≤ j → j ≤ 6 → ∀ c, c < 16 → ν.1 (a + 14 + j) c = 0 := by
  obtain ⟨-, -, -, -, -, l1, l2, l3, l4, l5, l6⟩ := alF ha
  obtain ⟨ν1, e1, r1, z1, k1⟩ := fill_ok (P := isLy (a + 14)) (v := 0) (fr_refl (μ := μ)) (show isLy (a + 14) (a + 14 + 1) by unfold isLy; omega) l1 (by decide)
  obtain ⟨ν2, e2, r2, z2, k2⟩ := fill_ok (v := 0) r1 (show isLy (a + 14) (a + 14 + 2) by unfold isLy; omega) l2 (by decide)
  obtain ⟨ν3, e3, r3, z3, k3⟩ := fill_ok (v := 0) r2 (show isLy (a + 14) (a + 14 + 3) by unfold isLy; omega) l3 (by decide)
  obtain ⟨ν4, e4, r4, z4, k4⟩ := fill_ok (v := 0) r3 (show isLy (a + 14) (a + 14 + 4) by unfold isLy; omega) l4 (by decide)
  obtain ⟨ν5, e5, r5, z5, k5⟩ := fill_ok (v := 0) r4 (show isLy (a + 14) (a + 14 + 5) by unfold isLy; omega) l5 (by decide)
  obtain ⟨ν6, e6, r6, z6, k6⟩ := fill_ok (v := 0) r5 (show isLy (a + 14) (a + 14 + 6) by unfold isLy; omega) l6 (by decide)
  refine ⟨ν6, ?_, r6, fun j h1 h2 c hc => ?_, fun j h1 h2 c hc => ?_⟩
  · unfold X1_clear
    rw [e1, bi_eq, e2, bi_eq, e3, bi_eq, e4, bi_eq, e5, bi_eq, e6, bi_eq]
  · rw [k6 _ (by omega), k5 _ (by omega)]
    have : j = 1 ∨ j = 2 ∨ j = 3 ∨ j = 4 := by omega
    rcases this with rfl | rfl | rfl | rfl
    · rw [k4 _ (by omega), k3 _ (by omega), k2 _ (by omega)]; exact z1 c hc
    · rw [k4 _ (by omega), k3 _ (by omega)]; exact z2 c hc
    · rw [k4 _ (by omega)]; exact z3 c hc
    · exact z4 c hc
  · have : j = 5 ∨ j = 6 := by omega
    rcases this with rfl | rfl
    · rw [k6 _ (by omega)]; exact z5 c hc
    · exact z6 c hc
/-! declarations -/
def bsI (T : TT) (k s n : Nat) : Nat := match dIn T s n k with
  | none => 0
  | some d => if dPb T d = 1 then 2 ^ d else 0
def ownC (μ : Mm) (b : Nat) (T : TT) (k : Nat) : Prop := ∀ s n, s < 16 → n < 26 → μ.1 (b + 2) (s * 26 + n) = nI (om (dIn T s n k))
def ownK (μ : Mm) (b : Nat) (T : TT) (k : Nat) : Prop := ∀ s, s < 16 → ∃ m, m < 2 ^ 26 ∧ μ.1 (b + 6) s = nI m ∧ ∀ n, n < 26 → m.testBit n = (dIn T s n k).isSome
theorem dIn_new {T : TT} {k s n : Nat} : dIn T s n (k + 1) = if dSc T k = s ∧ dNm T k = n then some k else dIn T s n k := rfl
theorem placeDeclarations_eq {μ : Mm} {a : Nat} {T : TT} (hV : VT T) (hC : CF μ a T) (z1 : ∀ j, 1 ≤ j → j ≤ 4 → ∀ c, c < 416 → μ.1 (a + 14 + j) c = 0) (z2 : ∀ j, 5 ≤ j → j ≤ 6 → ∀ c, c < 16 → μ.1 (a + 14 + j) c = 0) :
    ∃ ν, X1_placeDeclarations (a + 14) a μ = some ν ∧ (fr (fun p => p = a + 14 + 1 ∨ p = a + 14 + 2 ∨ p = a + 14 + 5 ∨ p = a + 14 + 6) μ ν ∧ offC ν (a + 14) (baseM T) ∧ offN ν (a + 14) (baseM T) ∧ ownC ν (a + 14) T (tD T) ∧ ownN ν (a + 14) T) := by
  have h16 := hV.1.2.1
  have hD := hV.2.1.1
  unfold X1_placeDeclarations
  refine it1m _ (fun m u2 ν => ∃ d, d + m = tD T ∧ u2 = nI d ∧ fr (fun p => p = a + 14 + 1 ∨ p = a + 14 + 2 ∨ p = a + 14 + 5 ∨ p = a + 14 + 6) μ ν ∧ offC ν (a + 14) (bsI T d) ∧ offN ν (a + 14) (bsI T d) ∧ ownC ν (a + 14) T d ∧ ownK ν (a + 14) T d) ?_ big (tD T) _ μ (by unfold big; omega) ⟨0, by omega, rfl, fr_refl, fun s n hs hn => z1 1 (by omega) (by omega) _ (by omega), fun s hs => ⟨0, by decide, z2 5 (by omega) (by omega) _ hs, fun n _ h => absurd rfl h⟩, fun s n hs hn => z1 2 (by omega) (by omega) _ (by omega), fun s hs => ⟨0, by decide, z2 6 (by omega) (by omega) _ hs, fun n _ => Nat.zero_testBit n⟩⟩
  rintro kk m u2 ν ⟨d, hm, rfl, hf, hO, hN, hWC, hWK⟩ ih
  have hCν : CF ν a T := CF_same hC (fun p h1 h2 => hf.2 p (by omega))
  unfold X1_placeDeclarations_l2
  rw [hCν.1.2.1, ifLe (by omega) (by omega)]
  by_cases q : tD T ≤ d
  · have e : d = tD T := by omega
    subst e
    rw [if_pos q]
    exact ⟨ν, rfl, hf, hO, hN, hWC, hWK⟩
  · have hd : d < tD T := by omega
    obtain ⟨c1, c2, c3⟩ := hCν.2.2.1 d hd
    obtain ⟨v1, v2, v3⟩ := hV.2.1.2.1 d hd
    have hnone : dIn T (dSc T d) (dNm T d) d = none := dIn_none.mpr (fun e he hh => by
      have := hV.2.1.2.2 e d (by omega) hd hh.1 hh.2
      omega)
    rw [if_neg q, ck_nI (by omega) (by decide), bd_eq, ck_nI (by omega) (by decide), bd_eq, nI_clamp (by omega), c1, c2, cell_nI, ck_nI (by omega) (by decide), nI_clamp (by omega), one_pow (by omega), bd_eq, ck_nI (by omega) (by decide), ck_nI (by omega) (by decide), nI_clamp (by omega), one_pow (by omega), bd_eq, ck_nI (by omega) (by decide), setI_n _ _ _ (show a + 4 ≠ a + 14 + 6 by omega), setI_n _ _ _ (show a + 4 ≠ a + 14 + 2 by omega), c3, lit_n 0, ifEq (by omega) (by decide), nI_1]
    generalize hν1 : setI ν (a + 14 + 2) (dSc T d * 26 + dNm T d) (nI (2 ^ d)) = ν1
    generalize hν2 : setI ν1 (a + 14 + 6) (dSc T d) (ν1.1 (a + 14 + 6) (dSc T d) ||| nI (2 ^ dNm T d)) = ν2
    have f2 : fr (fun p => p = a + 14 + 1 ∨ p = a + 14 + 2 ∨ p = a + 14 + 5 ∨ p = a + 14 + 6) μ ν2 := by
      rw [← hν2, ← hν1]
      exact fr_setI (fr_setI hf (Or.inr (Or.inl rfl))) (Or.inr (Or.inr (Or.inr rfl)))
    have same2 : ∀ p, p ≠ a + 14 + 2 → p ≠ a + 14 + 6 → ν2.1 p = ν.1 p := fun p h1 h2 => by
      rw [← hν2, setI_n _ _ _ h2, ← hν1, setI_n _ _ _ h1]
    have hO2 : offC ν2 (a + 14) (bsI T d) := fun s n hs hn => by rw [same2 _ (by omega) (by omega)]; exact hO s n hs hn
    have hN2 : offN ν2 (a + 14) (bsI T d) := fun s hs => by rw [same2 _ (by omega) (by omega)]; exact hN s hs
    have hWC2 : ownC ν2 (a + 14) T (d + 1) := fun s n hs hn => by
      rw [← hν2, setI_n _ _ _ (show a + 14 + 2 ≠ a + 14 + 6 by omega), ← hν1, setI_at, dIn_new]
      by_cases e : dSc T d = s ∧ dNm T d = n
      · rw [if_pos e, if_pos (by rw [e.1, e.2])]
        rfl
      · rw [if_neg e, if_neg (by omega)]
        exact hWC s n hs hn
    have hWK2 : ownK ν2 (a + 14) T (d + 1) := fun s hs => by
      obtain ⟨mm, h1, h2, h3⟩ := hWK s hs
      rw [← hν2, setI_at, ← hν1, setI_n _ _ _ (show a + 14 + 6 ≠ a + 14 + 2 by omega)]
      by_cases e : s = dSc T d
      · subst e
        rw [if_pos rfl, h2, or_nI]
        refine ⟨_, Nat.or_lt_two_pow h1 (pow_lt v2), rfl, fun n hn => ?_⟩
        rw [Nat.testBit_or, pw_bit, h3 n hn, dIn_new]
        by_cases e2 : dNm T d = n
        · rw [if_pos ⟨rfl, e2⟩, decide_eq_true e2, Bool.or_true]
          rfl
        · rw [if_neg (fun z => e2 z.2), decide_eq_false e2, Bool.or_false]
      · rw [if_neg e, h2]
        refine ⟨mm, h1, rfl, fun n hn => ?_⟩
        rw [h3 n hn, dIn_new, if_neg (fun z => e z.1.symm)]
    have helse : ∀ s n, s < 16 → n < 26 → ¬ (s = dSc T d ∧ n = dNm T d) → bsI T (d + 1) s n = bsI T d s n := fun s n _ _ hne => by
      unfold bsI
      rw [dIn_new, if_neg (fun z => hne ⟨z.1.symm, z.2.symm⟩)]
    have hnew : bsI T (d + 1) (dSc T d) (dNm T d) = if dPb T d = 1 then 2 ^ d else 0 := by
      unfold bsI
      rw [dIn_new, if_pos ⟨rfl, rfl⟩]
    by_cases hp : dPb T d = 0
    · rw [if_pos hp]
      have esame : ∀ s n, s < 16 → n < 26 → bsI T (d + 1) s n = bsI T d s n := fun s n hs hn => by
        by_cases e : s = dSc T d ∧ n = dNm T d
        · rw [e.1, e.2, hnew, if_neg (by omega)]
          unfold bsI
          rw [hnone]
        · exact helse s n hs hn e
      exact ih (m - 1) _ _ (by omega) ⟨d + 1, by omega, rfl, f2, offC_congr hO2 esame, offN_congr hN2 esame, hWC2, hWK2⟩
    · rw [if_neg hp, ck_nI (by omega) (by decide), bd_eq, ck_nI (by omega) (by decide), ck_nI (by omega) (by decide), bd_eq]
      have hput := off_put (z := 2 ^ d) hO2 hN2 (s0 := dSc T d) (t0 := dNm T d) (by omega) v2 (by rw [hnew, if_pos (by omega)]) helse
      have same3 : ∀ (w1 w2 : Int32) p, p ≠ a + 14 + 1 → p ≠ a + 14 + 5 → (setI (setI ν2 (a + 14 + 1) (dSc T d * 26 + dNm T d) w1) (a + 14 + 5) (dSc T d) w2).1 p = ν2.1 p := fun w1 w2 p h1 h2 => by rw [setI_n _ _ _ h2, setI_n _ _ _ h1]
      refine ih (m - 1) _ _ (by omega) ⟨d + 1, by omega, rfl, fr_setI (fr_setI f2 (Or.inl rfl)) (Or.inr (Or.inr (Or.inl rfl))), hput.1, hput.2, fun s n hs hn => ?_, fun s hs => ?_⟩
      · rw [same3 _ _ _ (by omega) (by omega)]; exact hWC2 s n hs hn
      · rw [same3 _ _ _ (by omega) (by omega)]; exact hWK2 s hs
/-! the fixpoint -/
def pend (T : TT) (X : OX) (w j : Nat) : Prop := closedI T X j ∨ w.testBit (iFr T j) = true
theorem pass_tot {T : TT} {X : OX} (hV : VT T) (hX : XB X) {i : Nat} (hi : i < tI T) : tot X ≤ tot (passX T X i) := tot_mono (fun _ _ _ _ => passX_sub)
def offd (a : Nat) (T : TT) (μ ν : Mm) : Prop := ∃ X, IsOff T X ∧ fr (fun p => p = a + 14 + 1 ∨ p = a + 14 + 5) μ ν ∧ offC ν (a + 14) X ∧ offN ν (a + 14) X
def going (a : Nat) (T : TT) (X : OX) (μ ν : Mm) : Prop := XB X ∧ based T X ∧ leastI T X ∧ fr (fun p => p = a + 14 + 1 ∨ p = a + 14 + 5) μ ν ∧ offC ν (a + 14) X ∧ offN ν (a + 14) X
theorem passOnAll_eq {μ : Mm} {a : Nat} {T : TT} (hV : VT T) (hC : CF μ a T) (hO : offC μ (a + 14) (baseM T)) (hN : offN μ (a + 14) (baseM T)) (hW : ownN μ (a + 14) T) : ∃ ν, X1_passOnAll (a + 14) a μ = some ν ∧ offd a T μ ν := by
  have h16 := hV.1.2.1
  have hI := hV.2.2.1.1
  unfold X1_passOnAll
  refine it2m _ (fun m u2 u3 ν => ∃ r w X, r + m = 12481 + 1 ∧ u2 = nI w ∧ u3 = nI r ∧ w < 2 ^ 16 ∧ going a T X μ ν ∧ (∀ j, j < tI T → pend T X w j) ∧ (w = 0 ∨ r ≤ tot X)) ?_ big 12482 _ _ μ (by decide) ⟨0, 65535, baseM T, by omega, rfl, rfl, by decide, ⟨?_, fun s n _ _ => msub_rfl, fun Y hb _ => hb, fr_refl, hO, hN⟩, fun j hj => Or.inr ?_, Or.inr (Nat.zero_le _)⟩
  · rintro k5 m u2 u3 ν ⟨r, w, X, hr, rfl, rfl, hw, hg, hp, ht⟩ ih
    have htl := tot_le X
    have fin : w = 0 → ∃ ξ, some ν = some ξ ∧ offd a T μ ξ := fun e => ⟨ν, rfl, X, ⟨hg.1, hg.2.1, fun j hj => (hp j hj).resolve_right (by rw [e, Nat.zero_testBit]; decide), hg.2.2.1⟩, hg.2.2.2.1, hg.2.2.2.2.1, hg.2.2.2.2.2⟩
    unfold X1_passOnAll_l5
    rw [lit_n 12480, ifLt (by decide) (by omega)]
    by_cases q : 12480 < r
    · rw [if_pos q]
      exact fin (by omega)
    · rw [if_neg q, lit_n 0, ifEq (by omega) (by decide)]
      by_cases q2 : w = 0
      · rw [if_pos q2]
        exact fin q2
      · rw [if_neg q2]
        have htr : r ≤ tot X := by omega
        refine it4m _ (fun m' u2 u3 u4 u5 ξ => ∃ i v Y, i + m' = tI T ∧ u2 = nI w ∧ u3 = nI r ∧ u4 = nI v ∧ u5 = nI i ∧ v < 2 ^ 16 ∧ going a T Y μ ξ ∧ (∀ j, j < tI T → pend T Y (if j < i then v else w ||| v) j) ∧ r ≤ tot Y ∧ (v = 0 ∨ r + 1 ≤ tot Y)) ?_ big (tI T) _ _ _ _ ν (by unfold big; omega) ⟨0, 0, X, by omega, rfl, rfl, rfl, rfl, by decide, hg, fun j hj => by rw [if_neg (by omega), Nat.or_zero]; exact hp j hj, htr, Or.inl rfl⟩
        rintro k22 m' u2 u3 u4 u5 ξ ⟨i, v, Y, hi, rfl, rfl, rfl, rfl, hv, hgY, hpY, htY, htv⟩ ih2
        have hCξ : CF ξ a T := CF_same hC (fun p h1 h2 => hgY.2.2.2.1.2 p (by omega))
        unfold X1_passOnAll_l22
        rw [hCξ.1.2.2.1, ifLe (by omega) (by omega)]
        by_cases q3 : tI T ≤ i
        · rw [if_pos q3, nI_1]
          refine ih (m - 1) _ _ _ (by omega) ⟨r + 1, v, Y, by omega, rfl, rfl, hv, hgY, fun j hj => ?_, htv⟩
          have := hpY j hj
          rw [if_pos (by omega)] at this
          exact this
        · have hiI : i < tI T := by omega
          obtain ⟨c1, c2, c3, c4, c5, c6⟩ := hCξ.2.2.2.1 i hiI
          obtain ⟨v1, v2, v3, v4, -⟩ := hV.2.2.1.2 i hiI
          have hwv : w ||| v < 2 ^ 16 := Nat.or_lt_two_pow hw hv
          rw [if_neg q3, ck_nI (by omega) (by decide), nI_clamp (by omega), c2, or_nI, bitZ (Nat.lt_trans hwv (by decide)) (by omega)]
          -- the import i needs no look
          have skip : closedI T Y i → ∃ x, k22 (nI w) (nI r) (nI v) (nI (i + 1)) ξ = some x ∧ offd a T μ x := fun hcl => ih2 (m' - 1) _ _ _ _ _ (by omega) ⟨i + 1, v, Y, by omega, rfl, rfl, rfl, rfl, hv, hgY, fun j hj => by
            by_cases e : j = i
            · subst e; exact Or.inl hcl
            · have := hpY j hj
              by_cases e2 : j < i
              · rw [if_pos e2] at this; rw [if_pos (by omega)]; exact this
              · rw [if_neg e2] at this; rw [if_neg (by omega)]; exact this, htY, htv⟩
          cases hb : (w ||| v).testBit (iFr T i) with
          | false =>
            rw [if_pos rfl, bd_eq, if_pos rfl, nI_1]
            have := hpY i hiI
            rw [if_neg (by omega)] at this
            exact skip (this.resolve_right (by rw [hb]; decide))
          | true =>
            rw [if_neg (by decide), bd_eq, if_neg (by decide), ck_nI (by omega) (by decide), c6, lit_n 0, ifEq (by omega) (by decide)]
            by_cases q4 : iPs T i = 0
            · rw [if_pos q4, nI_1]
              exact skip (fun h1 => by omega)
            · obtain ⟨res, hres, g, ξ', rfl, hg1, hfr', hO', hN', hz0, hz1⟩ := passOn_eq hV hCξ hgY.1 hgY.2.2.2.2.1 hgY.2.2.2.2.2 (fun s hs => by rw [hgY.2.2.2.1.2 (a + 14 + 6) (by omega)]; exact hW s hs) hiI
              rw [if_neg q4, hres, bn_eq, ifEq (by omega) (by decide)]
              have hCξ' : CF ξ' a T := CF_same hCξ (fun p h1 h2 => hfr'.2 p (by omega))
              have hgo : going a T (passX T Y i) μ ξ' := ⟨passX_B hV hgY.1 hiI, fun s n hs hn => msub_tr (hgY.2.1 s n hs hn) passX_sub, passX_least hV hgY.2.2.1 hiI (by omega), fr_tr hgY.2.2.2.1 hfr', hO', hN'⟩
              have htt := pass_tot hV hgY.1 hiI
              by_cases q5 : g = 0
              · rw [if_pos q5, nI_1]
                refine ih2 (m' - 1) _ _ _ _ _ (by omega) ⟨i + 1, v, passX T Y i, by omega, rfl, rfl, rfl, rfl, hv, hgo, fun j hj => ?_, by omega, by omega⟩
                by_cases e : j = i
                · subst e; exact Or.inl (passX_closed hV hiI)
                · have := hpY j hj
                  rcases this with hh | hh
                  · exact Or.inl (closedI_congr hV hj (fun s n hs hn => (hz0 q5 s n hs hn).symm) hh)
                  · refine Or.inr ?_
                    by_cases e2 : j < i
                    · rw [if_pos e2] at hh; rw [if_pos (by omega)]; exact hh
                    · rw [if_neg e2] at hh; rw [if_neg (by omega)]; exact hh
              · obtain ⟨n, hn, hne⟩ := hz1 q5
                have hlt := tot_lt hgY.1 (passX_B hV hgY.1 hiI) (fun _ _ _ _ => passX_sub) (s := iTo T i) (by omega) hn (fun e => hne e.symm)
                rw [if_neg q5, ck_nI (by omega) (by decide), (hCξ'.2.2.2.1 i hiI).1, one_pow (by omega), or_nI, bd_eq, nI_1]
                refine ih2 (m' - 1) _ _ _ _ _ (by omega) ⟨i + 1, v ||| 2 ^ iTo T i, passX T Y i, by omega, rfl, rfl, rfl, rfl, Nat.or_lt_two_pow hv (pow_lt (by omega)), hgo, fun j hj => ?_, by omega, Or.inr (by omega)⟩
                by_cases e : j = i
                · subst e; exact Or.inl (passX_closed hV hiI)
                · rcases hpY j hj with hh | hh
                  · by_cases e3 : iFr T j = iTo T i
                    · refine Or.inr ?_
                      have hbit : (v ||| 2 ^ iTo T i).testBit (iFr T j) = true := by rw [Nat.testBit_or, pw_bit, decide_eq_true e3.symm, Bool.or_true]
                      split
                      · exact hbit
                      · rw [Nat.testBit_or, hbit, Bool.or_true]
                    · exact Or.inl (passX_other hV hj hh e3)
                  · refine Or.inr ?_
                    by_cases e2 : j < i
                    · rw [if_pos e2] at hh; rw [if_pos (by omega), Nat.testBit_or, hh, Bool.true_or]
                    · rw [if_neg e2, Nat.testBit_or] at hh
                      rw [if_neg (by omega), Nat.testBit_or, Nat.testBit_or, ← Bool.or_assoc, hh, Bool.true_or]
  · intro s n hs hn
    unfold baseM
    cases hd : dOf T s n with
    | none => show 0 < 2 ^ 30; decide
    | some d =>
      show (if dPb T d = 1 then 2 ^ d else 0) < 2 ^ 30
      have := (dOf_some hd).1
      have := hV.2.1.1
      exact ite_lt30 (pow_lt (by omega))
  · have := (hV.2.2.1.2 j hj).2.1
    rw [show (65535 : Nat) = 2 ^ 16 - 1 by decide, Nat.testBit_two_pow_sub_one]
    exact decide_eq_true (by omega)
