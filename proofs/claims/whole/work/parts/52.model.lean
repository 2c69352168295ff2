/-! ===== the model: its row, its offered pairs ===== -/
def offM (μ : Mm) (X : OX) : Prop := ∀ s n, s < 16 → n < 26 → μ.1 48 (26 * s + n) = nI (X s n)
def laid (μ : Mm) (T : TT) : Prop := μ.1 45 4 = 1 ∧ offM μ (offOf T) ∧ IsOff T (offOf T)
section MB
variable {μ : Mm} {T : TT} {X : OX}
theorem of_eq {d j : Nat} (hd : d < 30) (hj : j < 3) : X4_of (nI d) (nI j) μ = some (μ.1 46 (20 + 3 * d + j)) := by
  unfold X4_of
  rw [lit_n 20, lit_n 3, pk_mul, nI_add, nI_add, ck_nI (by omega) (by decide), nI_clamp (by omega)]
theorem at_eq {i j : Nat} (hi : i < 20) (hj : j < 6) : X4_at (nI i) (nI j) μ = some (μ.1 46 (110 + 6 * i + j)) := by
  unfold X4_at
  rw [lit_n 110, lit_n 6, pk_mul, nI_add, nI_add, ck_nI (by omega) (by decide), nI_clamp (by omega)]
theorem at0 (hM : MF μ T) (hV : VT T) {i : Nat} (hi : i < tI T) : X4_at (nI i) 0 μ = some (nI (iTo T i)) := by
  have hI := hV.2.2.1.1
  rw [show (0 : Int32) = nI 0 from rfl, at_eq (by omega) (by decide), Nat.add_zero, (hM.2.2.2.1 i hi).1]
theorem at1 (hM : MF μ T) (hV : VT T) {i : Nat} (hi : i < tI T) : X4_at (nI i) 1 μ = some (nI (iFr T i)) := by
  have hI := hV.2.2.1.1
  rw [show (1 : Int32) = nI 1 from rfl, at_eq (by omega) (by decide), (hM.2.2.2.1 i hi).2.1]
theorem at2 (hM : MF μ T) (hV : VT T) {i : Nat} (hi : i < tI T) : X4_at (nI i) 2 μ = some (enc (iSr T i)) := by
  have hI := hV.2.2.1.1
  rw [show (2 : Int32) = nI 2 from rfl, at_eq (by omega) (by decide), (hM.2.2.2.1 i hi).2.2.1]
theorem at3 (hM : MF μ T) (hV : VT T) {i : Nat} (hi : i < tI T) : X4_at (nI i) 3 μ = some (enc (iLo T i)) := by
  have hI := hV.2.2.1.1
  rw [show (3 : Int32) = nI 3 from rfl, at_eq (by omega) (by decide), (hM.2.2.2.1 i hi).2.2.2.1]
theorem at4 (hM : MF μ T) (hV : VT T) {i : Nat} (hi : i < tI T) : X4_at (nI i) 4 μ = some (nI (iEx T i)) := by
  have hI := hV.2.2.1.1
  rw [show (4 : Int32) = nI 4 from rfl, at_eq (by omega) (by decide), (hM.2.2.2.1 i hi).2.2.2.2.1]
theorem at5 (hM : MF μ T) (hV : VT T) {i : Nat} (hi : i < tI T) : X4_at (nI i) 5 μ = some (nI (iPs T i)) := by
  have hI := hV.2.2.1.1
  rw [show (5 : Int32) = nI 5 from rfl, at_eq (by omega) (by decide), (hM.2.2.2.1 i hi).2.2.2.2.2]
theorem of0 (hM : MF μ T) (hV : VT T) {d : Nat} (hd : d < tD T) : X4_of (nI d) 0 μ = some (nI (dSc T d)) := by
  have hD := hV.2.1.1
  rw [show (0 : Int32) = nI 0 from rfl, of_eq (by omega) (by decide), Nat.add_zero, (hM.2.2.1 d hd).1]
theorem of1 (hM : MF μ T) (hV : VT T) {d : Nat} (hd : d < tD T) : X4_of (nI d) 1 μ = some (nI (dNm T d)) := by
  have hD := hV.2.1.1
  rw [show (1 : Int32) = nI 1 from rfl, of_eq (by omega) (by decide), (hM.2.2.1 d hd).2.1]
theorem of2 (hM : MF μ T) (hV : VT T) {d : Nat} (hd : d < tD T) : X4_of (nI d) 2 μ = some (nI (dPb T d)) := by
  have hD := hV.2.1.1
  rw [show (2 : Int32) = nI 2 from rfl, of_eq (by omega) (by decide), (hM.2.2.1 d hd).2.2]
theorem useScope_eq (hM : MF μ T) (hV : VT T) {u : Nat} (hu : u < tU T) : X4_useScope (nI u) μ = some (nI (uSc T u)) := by
  have hU := hV.2.2.2.1
  unfold X4_useScope
  rw [lit_n 230, lit_n 2, pk_mul, nI_add, ck_nI (by omega) (by decide), nI_clamp (by omega), (hM.2.2.2.2 u hu).1]
theorem useName_eq (hM : MF μ T) (hV : VT T) {u : Nat} (hu : u < tU T) : X4_useName (nI u) μ = some (nI (uNm T u)) := by
  have hU := hV.2.2.2.1
  unfold X4_useName
  rw [lit_n 230, lit_n 2, pk_mul, nI_add, nI_1, ck_nI (by omega) (by decide), nI_clamp (by omega), (hM.2.2.2.2 u hu).2]
theorem offer_eq (hO : offM μ X) {s n : Nat} (hs : s < 16) (hn : n < 26) : X4_offer (nI s) (nI n) μ = some (nI (X s n)) := by
  unfold X4_offer
  rw [lit_n 26, pk_mul, nI_add, ck_nI (by omega) (by decide), nI_clamp (by omega), hO s n hs hn]
theorem isSingle_eq (hM : MF μ T) (hV : VT T) {i : Nat} (hi : i < tI T) : X4_isSingle (nI i) μ = some (nI (if (iSr T i).isSome = true then 1 else 0)) := by
  unfold X4_isSingle
  rw [at2 hM hV hi, bi_eq]
  obtain ⟨-, -, -, -, hkk⟩ := hV.2.2.1.2 i hi
  rcases hkk with ⟨e1, -⟩ | ⟨a', b', ha', hb', e1, -⟩
  · rw [e1]; rfl
  · rw [e1, show enc (some a') = nI a' from rfl, if_neg (nI_ne_m1 (by omega))]; rfl
theorem bit1 {α : Type} {s t : α} {m d : Nat} (hm : m < 2 ^ 31) (hd : d < 32) : (if ((nI m >>> (nI d &&& 31)) &&& 1) = 1 then s else t) = if m.testBit d = true then s else t := by
  rw [shr1 hm hd, lit_n 1, ifEq (by cases m.testBit d <;> decide) (by decide)]
  cases m.testBit d
  · rw [if_neg (show ¬ false.toNat = 1 by decide), if_neg (by decide)]
  · rw [if_pos (show true.toNat = 1 from rfl), if_pos rfl]
theorem brought_eq (hM : MF μ T) (hV : VT T) (hO : offM μ X) {i n : Nat} (hi : i < tI T) (hn : n < 26) : X4_brought (nI i) (nI n) μ = some (nI (broM T X i n)) := by
  obtain ⟨hto, hfr, hne, -, hkk⟩ := hV.2.2.1.2 i hi
  have h16 := hV.1.2.1
  unfold X4_brought
  rw [isSingle_eq hM hV hi, bi_eq]
  rcases hkk with ⟨e1, e2, e3⟩ | ⟨a', b', ha', hb', e1, e2, e3⟩
  · rw [e1, if_neg (show ¬ (none : Option Nat).isSome = true by decide), if_pos zero0, at4 hM hV hi, bi_eq, bit1 (by omega) (by omega), bro_full e1]
    by_cases q : (iEx T i).testBit n = true
    · rw [if_pos q, if_pos q]; rfl
    · rw [if_neg q, if_neg q, at1 hM hV hi, bi_eq, offer_eq hO (by omega) hn, bi_eq]
  · rw [e1, if_pos (show (some a').isSome = true from rfl), if_neg one0, at3 hM hV hi, bi_eq, e2, show enc (some b') = nI b' from rfl, ifEq (by omega) (by omega), bro_single e1 e2]
    by_cases q : n = b'
    · rw [if_pos q, if_pos q, at1 hM hV hi, bi_eq, at2 hM hV hi, bi_eq, e1, show enc (some a') = nI a' from rfl, offer_eq hO (by omega) ha', bi_eq]
    · rw [if_neg q, if_neg q]; rfl
theorem declaredIn_eq (hM : MF μ T) (hV : VT T) {s n : Nat} (hs : s < 2 ^ 31) (hn : n < 2 ^ 31) : X4_declaredIn (nI s) (nI n) μ = some (enc (dOf T s n)) := by
  have hD := hV.2.1.1
  have h16 := hV.1.2.1
  unfold X4_declaredIn
  refine iq2 _ (fun m u3 u4 => ∃ d, d + m = tD T ∧ u3 = enc (dIn T s n d) ∧ u4 = nI d) ?_ big (tD T) _ _ (by unfold big; omega) ⟨0, by omega, rfl, rfl⟩
  rintro kk m u3 u4 ⟨d, hm, rfl, rfl⟩ ih
  unfold X4_declaredIn_l5 X4_declaredIn_j43
  rw [show (1 : Int32) = nI 1 from rfl, ck_nI (by decide) (by decide), nI_clamp (by decide), hM.1.2.1, ifLe (by omega) (by omega)]
  by_cases q : tD T ≤ d
  · rw [if_pos q, show d = tD T by omega]; rfl
  · have hd : d < tD T := by omega
    obtain ⟨v1, v2, v3⟩ := hV.2.1.2.1 d hd
    rw [if_neg q, of0 hM hV hd, bi_eq, ifEq (by omega) hs, show (nI 1 : Int32) = 1 from rfl, of1 hM hV hd, bi_eq, ifEq (by omega) hn, nI_1, bd_eq]
    have e : dIn T s n (d + 1) = if dSc T d = s ∧ dNm T d = n then some d else dIn T s n d := rfl
    by_cases e1 : dSc T d = s
    · rw [if_pos e1]
      refine ih (m - 1) _ _ (by omega) ⟨d + 1, by omega, ?_, rfl⟩
      rw [e]
      by_cases e2 : dNm T d = n
      · rw [if_pos e2, if_pos ⟨e1, e2⟩]; rfl
      · rw [if_neg e2, if_neg (fun z => e2 z.2)]
    · rw [if_neg e1]
      refine ih (m - 1) _ _ (by omega) ⟨d + 1, by omega, ?_, rfl⟩
      rw [e, if_neg (fun z => e1 z.1)]
end MB
theorem MF_same {μ ν : Mm} {T : TT} (h : MF μ T) (e : ν.1 46 = μ.1 46) : MF ν T := by
  unfold MF at h ⊢
  rw [e]
  exact h
/-! one round of passing on -/
def stepX (T : TT) (X : OX) (i n : Nat) : OX := fun s m => if m < n then passX T X i s m else X s m
theorem stepX_26 {T : TT} {X : OX} {i s m : Nat} (hm : m < 26) : stepX T X i 26 s m = passX T X i s m := if_pos hm
theorem stepX_0 {T : TT} {X : OX} {i s m : Nat} : stepX T X i 0 s m = X s m := if_neg (Nat.not_lt_zero m)
theorem offM_congr {μ : Mm} {X Y : OX} (h : offM μ X) (e : ∀ s n, s < 16 → n < 26 → Y s n = X s n) : offM μ Y := fun s n hs hn => by rw [h s n hs hn, e s n hs hn]
def fr48 (μ ν : Mm) : Prop := fr (fun p => p = 48) μ ν
/-- what stands within a round: X0 at its beginning, X now, g whether anything grew; imports below i are done -/
def rd (T : TT) (X0 X : OX) (g i : Nat) : Prop := XB X ∧ based T X ∧ leastI T X ∧ g ≤ 1 ∧ (g = 0 → (∀ s n, s < 16 → n < 26 → X s n = X0 s n) ∧ ∀ j, j < i → closedI T X j) ∧ (g ≠ 0 → tot X0 < tot X) ∧ tot X0 ≤ tot X
theorem passOnM_eq {μ : Mm} {T : TT} {X0 : OX} (hV : VT T) (hM : MF μ T) (h1 : XB X0) (h2 : based T X0) (h3 : leastI T X0) (hO : offM μ X0) : ∃ r, X4_passOn μ = some r ∧ (∃ g ν X, r = (nI g, ν) ∧ rd T X0 X g (tI T) ∧ offM ν X ∧ fr48 μ ν) := by
  have h16 := hV.1.2.1
  have hI := hV.2.2.1.1
  unfold X4_passOn
  refine it2m _ (fun m u1 u2 ν => ∃ i g X, i + m = tI T ∧ u1 = nI g ∧ u2 = nI i ∧ rd T X0 X g i ∧ offM ν X ∧ fr48 μ ν) ?_ big (tI T) _ _ μ (by unfold big; omega) ⟨0, 0, X0, by omega, rfl, rfl, ⟨h1, h2, h3, by decide, fun _ => ⟨fun _ _ _ _ => rfl, fun j hj => absurd hj (Nat.not_lt_zero j)⟩, fun z => absurd rfl z, Nat.le_refl _⟩, hO, fr_refl⟩
  rintro k4 m u1 u2 ν ⟨i, g, X, hm, rfl, rfl, hr, hOX, hf⟩ ih
  have hMν : MF ν T := MF_same hM (hf.2 46 (by decide))
  have hg01 : b01 (nI g) := by
    have := hr.2.2.2.1
    have : g = 0 ∨ g = 1 := by omega
    rcases this with rfl | rfl
    · exact Or.inl rfl
    · exact Or.inr rfl
  unfold X4_passOn_l4
  rw [show (2 : Int32) = nI 2 from rfl, ck_nI (by decide) (by decide), nI_clamp (by decide), hMν.1.2.2.1, ifLe (by omega) (by omega)]
  by_cases q : tI T ≤ i
  · have ei : i = tI T := by omega
    subst ei
    rw [if_pos q, rz_eq hg01]
    exact ⟨_, rfl, g, ν, X, rfl, hr, hOX, hf⟩
  rw [if_neg q]
  have hi : i < tI T := by omega
  obtain ⟨hto, hfr, hne, hps, -⟩ := hV.2.2.1.2 i hi
  obtain ⟨r1, r2, r3, r4, r5, r6, r7⟩ := hr
  by_cases hp : iPs T i = 1
  · -- the names one by one
    have hPB := passX_B hV r1 hi
    refine it3m _ (fun m' w1 w2 w3 ξ => ∃ n g', n + m' = 26 ∧ w1 = nI g' ∧ w2 = nI i ∧ w3 = nI n ∧ g' ≤ 1 ∧ (g ≠ 0 → g' ≠ 0) ∧ (g' = 0 → ∀ s k, s < 16 → k < 26 → stepX T X i n s k = X s k) ∧ (g = 0 → g' ≠ 0 → ∃ k, k < n ∧ passX T X i (iTo T i) k ≠ X (iTo T i) k) ∧ offM ξ (stepX T X i n) ∧ fr48 μ ξ) ?_ big 26 _ _ _ ν (by decide) ⟨0, g, rfl, rfl, rfl, rfl, r4, fun z => z, fun _ _ _ _ _ => stepX_0, fun a b => absurd a b, offM_congr hOX (fun _ _ _ _ => stepX_0), hf⟩
    rintro k16 m' w1 w2 w3 ξ ⟨n, g', hn, rfl, rfl, rfl, hg1, hgg, hg0, hgn, hOξ, hfξ⟩ ih2
    have hMξ : MF ξ T := MF_same hM (hfξ.2 46 (by decide))
    unfold X4_passOn_l16
    rw [show (26 : Int32) = nI 26 from rfl, ifLe (by decide) (by omega)]
    by_cases q2 : 26 ≤ n
    · have en : n = 26 := by omega
      subst en
      rw [if_pos q2, nI_1]
      have tm := tot_mono (X := X) (Y := passX T X i) (fun _ _ _ _ => passX_sub)
      refine ih (m - 1) _ _ _ (by omega) ⟨i + 1, g', passX T X i, by omega, rfl, rfl, ⟨hPB, fun s n hs hn => msub_tr (r2 s n hs hn) passX_sub, passX_least hV r3 hi hp, hg1, fun z => ?_, fun z => ?_, Nat.le_trans r7 tm⟩, offM_congr hOξ (fun s n _ hn => (stepX_26 hn).symm), hfξ⟩
      · have gz : g = 0 := by
          by_cases e : g = 0
          · exact e
          · exact absurd z (hgg e)
        have hsame : ∀ s n, s < 16 → n < 26 → passX T X i s n = X s n := fun s n hs hn => by rw [← stepX_26 hn]; exact hg0 z s n hs hn
        refine ⟨fun s n hs hn => (hsame s n hs hn).trans ((r5 gz).1 s n hs hn), fun j hj => ?_⟩
        by_cases e : j = i
        · subst e; exact passX_closed hV hi
        · exact closedI_congr hV (by omega) (fun s n hs hn => (hsame s n hs hn).symm) ((r5 gz).2 j (by omega))
      · by_cases gz : g = 0
        · obtain ⟨k, hk, hkk⟩ := hgn gz z
          exact Nat.lt_of_le_of_lt r7 (tot_lt r1 hPB (fun _ _ _ _ => passX_sub) (s := iTo T i) (n := k) (by omega) hk (fun e => hkk e.symm))
        · exact Nat.lt_of_lt_of_le (r6 gz) tm
    · have hn26 : n < 26 := by omega
      have hcell : ξ.1 48 (26 * iTo T i + n) = nI (X (iTo T i) n) := by
        rw [hOξ _ _ (by omega) hn26]
        unfold stepX
        rw [if_neg (Nat.lt_irrefl n)]
      have hbro : broM T (stepX T X i n) i n = broM T X i n := bro_same (fun k _ => by
        unfold stepX
        split
        · unfold passX; rw [if_neg (fun z => hne z.1.symm)]
        · rfl) hV hi hn26
      -- the cell's new value
      have fin : ∀ w : Nat, X (iTo T i) n ||| w = passX T X i (iTo T i) n → ∃ r, X4_passOn_j77 k4 k16 (nI g') (nI i) (nI n) (nI (26 * iTo T i + n)) (nI w) (nI (X (iTo T i) n)) ξ = some r ∧ (∃ g ν X, r = (nI g, ν) ∧ rd T X0 X g (tI T) ∧ offM ν X ∧ fr48 μ ν) := by
        intro w hw
        have hx1 := r1 (iTo T i) n (by omega) hn26
        have hx2 := hPB (iTo T i) n (by omega) hn26
        have hput : offM (setI ξ 48 (26 * iTo T i + n) (nI (passX T X i (iTo T i) n))) (stepX T X i (n + 1)) := fun s k hs hk => by
          rw [setI_at]
          by_cases e : s = iTo T i ∧ k = n
          · rw [if_pos (by omega), e.1, e.2]
            unfold stepX
            rw [if_pos (Nat.lt_succ_self n)]
          · rw [if_neg (by omega), hOξ s k hs hk]
            unfold stepX
            by_cases e2 : k < n
            · rw [if_pos e2, if_pos (by omega)]
            · rw [if_neg e2]
              by_cases e3 : k < n + 1
              · rw [if_pos e3]
                unfold passX
                rw [if_neg (fun z => e ⟨z.1, by omega⟩)]
              · rw [if_neg e3]
        have hother : passX T X i (iTo T i) n = X (iTo T i) n → ∀ s k, s < 16 → k < 26 → (∀ s k, s < 16 → k < 26 → stepX T X i n s k = X s k) → stepX T X i (n + 1) s k = X s k := fun e s k hs hk hall => by
          have := hall s k hs hk
          unfold stepX at this ⊢
          by_cases e2 : k < n
          · rw [if_pos e2] at this; rw [if_pos (by omega)]; exact this
          · by_cases e3 : k < n + 1
            · have : k = n := by omega
              subst this
              rw [if_pos e3]
              by_cases e4 : s = iTo T i
              · rw [e4]; exact e
              · unfold passX; rw [if_neg (fun z => e4 z.1)]
            · rw [if_neg e3]
        unfold X4_passOn_j77 X4_passOn_j96 X4_passOn_j101
        rw [or_nI, hw, bd_eq, nI_clamp (by omega), hcell, show (0 : Int32) = nI 0 from rfl, ifEq (by omega) (by decide), ck_nI (by omega) (by decide), ck_nI (by omega) (by decide), ifEq (lt31 hx2) (lt31 hx1), show (if passX T X i (iTo T i) n = X (iTo T i) n then nI 0 else (1 : Int32)) = nI (if passX T X i (iTo T i) n = X (iTo T i) n then 0 else 1) from ite01, bd_eq, bd_eq, nI_1]
        by_cases q3 : g' = 0
        · rw [if_pos q3, ck_nI (by omega) (by decide)]
          refine ih2 (m' - 1) _ _ _ _ (by omega) ⟨n + 1, (if passX T X i (iTo T i) n = X (iTo T i) n then 0 else 1), by omega, rfl, rfl, rfl, by split <;> decide, fun z => absurd q3 (hgg z), fun z s k hs hk => ?_, fun gz z => ⟨n, by omega, ?_⟩, hput, fr_setI hfξ rfl⟩
          · refine hother ?_ s k hs hk (hg0 q3)
            by_cases e : passX T X i (iTo T i) n = X (iTo T i) n
            · exact e
            · rw [if_neg e] at z; cases z
          · intro e
            rw [if_pos e] at z
            exact z rfl
        · rw [if_neg q3, show (1 : Int32) = nI 1 from rfl]
          refine ih2 (m' - 1) _ _ _ _ (by omega) ⟨n + 1, 1, by omega, rfl, rfl, rfl, by decide, (fun _ => by decide), (fun z => by cases z), fun gz _ => ?_, hput, fr_setI hfξ rfl⟩
          obtain ⟨k, hk, hkk⟩ := hgn gz q3
          exact ⟨k, by omega, hkk⟩
      rw [if_neg q2, at5 hMξ hV hi, bi_eq, hp, if_pos (show nI 1 = (1 : Int32) from rfl), at0 hMξ hV hi, bi_eq, pk_mul, nI_add, bd_eq, ck_nI (by omega) (by decide), bi_eq, declaredIn_eq hMξ hV (by omega) (by omega), bi_eq, nI_clamp (by omega), hcell]
      cases hd : dOf T (iTo T i) n with
      | none =>
        rw [if_pos (show enc none = -1 from rfl), brought_eq hMξ hV hOξ hi hn26, bi_eq, hbro]
        refine fin _ ?_
        unfold passX
        rw [if_pos ⟨rfl, hd⟩]
      | some d =>
        have := (dOf_some hd).1
        have := hV.2.1.1
        rw [show enc (some d) = nI d from rfl, if_neg (nI_ne_m1 (by omega))]
        refine fin 0 ?_
        unfold passX
        rw [Nat.or_zero, if_neg (fun z => by rw [hd] at z; cases z.2)]
  · refine it3m _ (fun m' w1 w2 w3 ξ => m' = 1 ∧ w1 = nI g ∧ w2 = nI i ∧ w3 = nI 0 ∧ ξ = ν) ?_ big 1 _ _ _ ν (by decide) ⟨rfl, rfl, rfl, rfl, rfl⟩
    rintro k16 m' w1 w2 w3 ξ ⟨-, rfl, rfl, rfl, rfl⟩ ih2
    unfold X4_passOn_l16
    rw [if_neg (by decide), at5 hMν hV hi, bi_eq, if_neg (fun z => hp (by rw [show (1 : Int32) = nI 1 from rfl, nI_eq (by omega) (by decide)] at z; exact z)), nI_1]
    exact ih (m - 1) _ _ _ (by omega) ⟨i + 1, g, X, by omega, rfl, rfl, ⟨r1, r2, r3, r4, fun z => ⟨(r5 z).1, fun j hj => by
      by_cases e : j = i
      · subst e; exact fun h1 => absurd h1 hp
      · exact (r5 z).2 j (by omega)⟩, r6, r7⟩, hOX, hf⟩
