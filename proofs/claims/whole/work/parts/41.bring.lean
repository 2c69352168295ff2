/-! ===== what imports bring; settle ===== -/
theorem ite_up {s t n k x : Nat} (h : s ≠ t ∨ n ≠ k ∨ x = 0) : (if s = t ∧ n < k + 1 then x else 0) = if s = t ∧ n < k then x else 0 := by
  by_cases e : s = t ∧ n < k
  · rw [if_pos e, if_pos ⟨e.1, by omega⟩]
  · rw [if_neg e]
    by_cases e2 : s = t ∧ n < k + 1
    · rw [if_pos e2]
      rcases h with h | h | h
      · exact absurd e2.1 h
      · omega
      · exact h
    · rw [if_neg e2]
def lyI (T : TT) (X : OX) (j k s n : Nat) : Nat := orI (fun i => if iTo T i = s ∧ isSg T i = j then broM T X i n else 0) k
theorem lyI_succ {T : TT} {X : OX} {j k s n : Nat} : lyI T X j (k + 1) s n = lyI T X j k s n ||| (if iTo T k = s ∧ isSg T k = j then broM T X k n else 0) := rfl
def lyC (μ : Mm) (p : Nat) (L : OX) : Prop := ∀ s n, s < 16 → n < 26 → μ.1 p (s * 26 + n) = nI (L s n)
theorem lyC_put {μ : Mm} {p : Nat} {X Y : OX} {s0 t0 z : Nat} (hO : lyC μ p X) (ht0 : t0 < 26) (hz : Y s0 t0 = z) (he : ∀ s n, s < 16 → n < 26 → ¬ (s = s0 ∧ n = t0) → Y s n = X s n) : lyC (setI μ p (s0 * 26 + t0) (nI z)) p Y := by
  intro s n hs hn
  rw [setI_at]
  by_cases q : s = s0 ∧ n = t0
  · rw [q.1, q.2, if_pos rfl, hz]
  · rw [if_neg (by omega), hO s n hs hn, he s n hs hn q]
theorem lyC_congr {μ : Mm} {p : Nat} {X Y : OX} (h : lyC μ p X) (e : ∀ s n, s < 16 → n < 26 → Y s n = X s n) : lyC μ p Y := fun s n hs hn => by rw [h s n hs hn, e s n hs hn]
theorem bringAll_eq {μ : Mm} {a : Nat} {T : TT} {X : OX} (hV : VT T) (hC : CF μ a T) (hX : XB X) (hO : offC μ (a + 14) X) (hN : offN μ (a + 14) X) (z1 : ∀ c, c < 416 → μ.1 (a + 14 + 3) c = 0) (z2 : ∀ c, c < 416 → μ.1 (a + 14 + 4) c = 0) :
    ∃ ν, X1_bringAll (a + 14) a μ = some ν ∧ (fr (fun p => p = a + 14 + 3 ∨ p = a + 14 + 4) μ ν ∧ lyC ν (a + 14 + 3) (lyI T X 1 (tI T)) ∧ lyC ν (a + 14 + 4) (lyI T X 2 (tI T))) := by
  have h16 := hV.1.2.1
  have hI := hV.2.2.1.1
  unfold X1_bringAll
  refine it1m _ (fun m u2 ν => ∃ i, i + m = tI T ∧ u2 = nI i ∧ fr (fun p => p = a + 14 + 3 ∨ p = a + 14 + 4) μ ν ∧ lyC ν (a + 14 + 3) (lyI T X 1 i) ∧ lyC ν (a + 14 + 4) (lyI T X 2 i)) ?_ big (tI T) _ μ (by unfold big; omega) ⟨0, by omega, rfl, fr_refl, fun s n hs hn => z1 _ (by omega), fun s n hs hn => z2 _ (by omega)⟩
  rintro k2 m u2 ν ⟨i, hm, rfl, hf, hA, hB⟩ ih
  have hCν : CF ν a T := CF_same hC (fun p h1 h2 => hf.2 p (by omega))
  unfold X1_bringAll_l2
  rw [hCν.1.2.2.1, ifLe (by omega) (by omega)]
  by_cases q : tI T ≤ i
  · have e : i = tI T := by omega
    subst e
    rw [if_pos q]
    exact ⟨ν, rfl, hf, hA, hB⟩
  · have hi : i < tI T := by omega
    obtain ⟨c1, c2, c3, c4, c5, c6⟩ := hCν.2.2.2.1 i hi
    obtain ⟨hto, hfr, hne, hps, hkk⟩ := hV.2.2.1.2 i hi
    obtain ⟨mN, n1, n2, n3⟩ := hN (iFr T i) (by omega)
    rw [if_neg q, ck_nI (by omega) (by decide), bd_eq, ck_nI (by omega) (by decide), bd_eq, ck_nI (by omega) (by decide), nI_clamp (by omega), c1, c2, c3, c4, c5, lit_n 26, pk_mul, pk_mul]
    rcases hkk with ⟨e1, e2, e3⟩ | ⟨a', b', ha', hb', e1, e2, e3⟩
    · have hsg : isSg T i = 2 := by unfold isSg; rw [e1]; rfl
      have hlt : nd mN (iEx T i) < 2 ^ 31 := Nat.lt_of_le_of_lt nd_le (Nat.lt_trans n1 (by decide))
      have hA' : lyC ν (a + 14 + 3) (lyI T X 1 (i + 1)) := lyC_congr hA (fun s n _ _ => by rw [lyI_succ, if_neg (fun z => by rw [hsg] at z; exact absurd z.2 (by decide)), Nat.or_zero])
      rw [e1, if_pos (show enc none = -1 from rfl), ck_nI (by omega) (by decide), ck_nI (by omega) (by decide), ck_nI (by omega) (by decide), nI_clamp (by omega), hf.2 (a + 14 + 5) (by omega), n2, and_not, bd_eq]
      refine it5m _ (fun m' w2 w3 w4 w5 w6 ξ => ∃ k, k + m' = 26 ∧ w2 = nI i ∧ w3 = nI (iTo T i * 26) ∧ w4 = nI (iFr T i * 26) ∧ w5 = nI (nd mN (iEx T i)) ∧ w6 = nI k ∧ fr (fun p => p = a + 14 + 3 ∨ p = a + 14 + 4) μ ξ ∧ lyC ξ (a + 14 + 3) (lyI T X 1 (i + 1)) ∧ lyC ξ (a + 14 + 4) (fun s n => lyI T X 2 i s n ||| (if s = iTo T i ∧ n < k then broM T X i n else 0))) ?_ big 26 _ _ _ _ _ ν (by decide) ⟨0, rfl, rfl, rfl, rfl, rfl, rfl, hf, hA', lyC_congr hB (fun s n _ _ => by show _ ||| _ = _; rw [if_neg (by omega), Nat.or_zero])⟩
      rintro k99 m' w2 w3 w4 w5 w6 ξ ⟨k, hk, rfl, rfl, rfl, rfl, rfl, hfξ, hAξ, hBξ⟩ ih2
      have hbz : ∀ n, n < 26 → (nd mN (iEx T i)).testBit n = false → broM T X i n = 0 := fun n hn hb => by
        rw [bro_full e1]
        rw [nd_bit (by omega)] at hb
        cases q9 : (iEx T i).testBit n with
        | true => exact if_pos rfl
        | false =>
          rw [if_neg (by decide)]
          rw [q9] at hb
          by_cases e : X (iFr T i) n = 0
          · exact e
          · rw [n3 n hn e] at hb; cases hb
      have fin : (∀ n, n < 26 → k ≤ n → broM T X i n = 0) → ∃ r, k2 (nI (i + 1)) ξ = some r ∧ (fr (fun p => p = a + 14 + 3 ∨ p = a + 14 + 4) μ r ∧ lyC r (a + 14 + 3) (lyI T X 1 (tI T)) ∧ lyC r (a + 14 + 4) (lyI T X 2 (tI T))) := fun hrest => ih (m - 1) _ _ (by omega) ⟨i + 1, by omega, rfl, hfξ, hAξ, lyC_congr hBξ (fun s n hs hn => by
        show _ = _ ||| _
        rw [lyI_succ, hsg]
        congr 1
        by_cases e : s = iTo T i
        · rw [if_pos ⟨e.symm, rfl⟩]
          by_cases e2 : n < k
          · rw [if_pos ⟨e, e2⟩]
          · rw [if_neg (fun z => e2 z.2)]
            exact hrest n hn (by omega)
        · rw [if_neg (fun z => e z.1.symm), if_neg (fun z => e z.1)])⟩
      unfold X1_bringAll_l99
      rw [lit_n 26, ifLe (by decide) (by omega), shrZ hlt (by omega), bitZ hlt (by omega), nI_1, nI_1]
      by_cases q2 : 26 ≤ k
      · rw [if_pos q2]
        exact fin (fun n hn hkn => by omega)
      · rw [if_neg q2]
        by_cases q3 : nd mN (iEx T i) / 2 ^ k = 0
        · rw [if_pos q3]
          exact fin (fun n hn hkn => hbz n hn (bit_hi q3 hkn))
        · rw [if_neg q3]
          cases hb : (nd mN (iEx T i)).testBit k with
          | false =>
            rw [if_pos rfl]
            refine ih2 (m' - 1) _ _ _ _ _ _ (by omega) ⟨k + 1, by omega, rfl, rfl, rfl, rfl, rfl, hfξ, hAξ, lyC_congr hBξ (fun s n hs hn => ?_)⟩
            show _ ||| _ = _ ||| _
            rw [ite_up (show s ≠ iTo T i ∨ n ≠ k ∨ broM T X i n = 0 from by
              by_cases e4 : n = k
              · exact Or.inr (Or.inr (e4 ▸ hbz k (by omega) hb))
              · exact Or.inr (Or.inl e4))]
          | true =>
            have hxb : broM T X i k = X (iFr T i) k := by
              rw [bro_full e1, if_neg]
              rw [nd_bit (by omega)] at hb
              intro z
              rw [z] at hb
              revert hb
              cases mN.testBit k <;> decide
            have hold : ξ.1 (a + 14 + 4) (iTo T i * 26 + k) = nI (lyI T X 2 i (iTo T i) k) := by
              rw [hBξ _ _ (by omega) (by omega)]
              show nI (_ ||| _) = _
              rw [if_neg (by omega), Nat.or_zero]
            have hoff : ξ.1 (a + 14 + 1) (iFr T i * 26 + k) = nI (X (iFr T i) k) := by
              rw [hfξ.2 _ (by omega)]; exact hO _ _ (by omega) (by omega)
            rw [if_neg (by decide), nI_add, nI_add, ck_nI (by omega) (by decide), ck_nI (by omega) (by decide), ck_nI (by omega) (by decide), nI_clamp (by omega), nI_clamp (by omega), hold, hoff, or_nI, bd_eq]
            refine ih2 (m' - 1) _ _ _ _ _ _ (by omega) ⟨k + 1, by omega, rfl, rfl, rfl, rfl, rfl, fr_setI hfξ (Or.inr rfl), fun s n hs hn => by rw [setI_n _ _ _ (by omega)]; exact hAξ s n hs hn, lyC_put hBξ (by omega) ?_ (fun s n hs hn hne2 => ?_)⟩
            · show _ ||| _ = _
              rw [if_pos ⟨rfl, by omega⟩, hxb]
            · show _ ||| _ = _ ||| _
              rw [ite_up (show s ≠ iTo T i ∨ n ≠ k ∨ broM T X i n = 0 from by
                by_cases e4 : n = k
                · exact Or.inl (fun e => hne2 ⟨e, e4⟩)
                · exact Or.inr (Or.inl e4))]
    · have hsg : isSg T i = 1 := by unfold isSg; rw [e1]; rfl
      have hoff : ν.1 (a + 14 + 1) (iFr T i * 26 + a') = nI (X (iFr T i) a') := by
        rw [hf.2 _ (by omega)]; exact hO _ _ (by omega) ha'
      rw [e1, e2, show enc (some a') = nI a' from rfl, show enc (some b') = nI b' from rfl, if_neg (nI_ne_m1 (by omega)), ck_nI (by omega) (by decide), nI_add, nI_add, ck_nI (by omega) (by decide), ck_nI (by omega) (by decide), ck_nI (by omega) (by decide), ck_nI (by omega) (by decide), nI_clamp (by omega), nI_clamp (by omega), hA _ _ (by omega) hb', hoff, or_nI, bd_eq, nI_1]
      refine ih (m - 1) _ _ (by omega) ⟨i + 1, by omega, rfl, fr_setI hf (Or.inl rfl), lyC_put hA hb' ?_ (fun s n hs hn hne2 => ?_), fun s n hs hn => ?_⟩
      · rw [lyI_succ, if_pos ⟨rfl, hsg⟩, bro_single e1 e2, if_pos rfl]
      · rw [lyI_succ]
        by_cases e : iTo T i = s
        · rw [if_pos ⟨e, hsg⟩, bro_single e1 e2, if_neg (by omega), Nat.or_zero]
        · rw [if_neg (fun z => e z.1), Nat.or_zero]
      · rw [setI_n _ _ _ (by omega), hB s n hs hn, lyI_succ, if_neg (fun z => by rw [hsg] at z; exact absurd z.2 (by decide)), Nat.or_zero]
def isSt (a p : Nat) : Prop := p = a + 13 ∨ (a + 15 ≤ p ∧ p ≤ a + 20)
/-- after settle: the layers are those of the facts -/
def Std (μ ν : Mm) (a : Nat) (T : TT) (X : OX) : Prop := FS ν a T X ∧ IsOff T X ∧ (∀ i, i < 20 → ν.1 (a + 13) i = -1) ∧ fr (isSt a) μ ν
theorem settle_eq {μ : Mm} {a : Nat} {T : TT} (ha : isF a) (hV : VT T) (hC : CF μ a T) : ∃ ν, X0_settle a μ = some ν ∧ ∃ X, Std μ ν a T X := by
  have l13 := (alF ha).2.2.2.2.1
  obtain ⟨ν1, e1, f1, z1, k1⟩ := fill_ok (P := isSt a) (v := -1) (fr_refl (μ := μ)) (show isSt a (a + 13) from Or.inl rfl) l13 (by decide)
  obtain ⟨ν2, e2, f2, y1, y2⟩ := clear_eq ha ν1
  have C2 : CF ν2 a T := CF_same hC (fun p h1 h2 => by rw [f2.2 p (by unfold isLy; omega), k1 p (by omega)])
  obtain ⟨ν3, e3, f3, o1, o2, o3, o4⟩ := placeDeclarations_eq hV C2 y1 y2
  have C3 : CF ν3 a T := CF_same C2 (fun p h1 h2 => f3.2 p (by omega))
  obtain ⟨ν4, e4, X, hX, f4, p1, p2⟩ := passOnAll_eq hV C3 o1 o2 o4
  have C4 : CF ν4 a T := CF_same C3 (fun p h1 h2 => f4.2 p (by omega))
  obtain ⟨ν5, e5, f5, g1, g2⟩ := bringAll_eq (X := X) hV C4 hX.1 p1 p2 (fun c hc => by rw [f4.2 _ (by omega), f3.2 _ (by omega)]; exact y1 3 (by omega) (by omega) c hc) (fun c hc => by rw [f4.2 _ (by omega), f3.2 _ (by omega)]; exact y1 4 (by omega) (by omega) c hc)
  have C5 : CF ν5 a T := CF_same C4 (fun p h1 h2 => f5.2 p (by omega))
  refine ⟨ν5, ?_, X, ⟨hV, C5, fun s n hs hn => ⟨?_, ?_, ?_, ?_⟩, hX.1⟩, hX, fun i hi => ?_, ?_⟩
  · unfold X0_settle
    rw [e1, bi_eq, e2, bi_eq, e3, bi_eq, e4, bi_eq, e5, bi_eq]
  · rw [f5.2 _ (by omega)]
    exact p1 s n hs hn
  · rw [f5.2 _ (by omega), f4.2 _ (by omega)]
    exact o3 s n hs hn
  · exact g1 s n hs hn
  · exact g2 s n hs hn
  · rw [f5.2 _ (by omega), f4.2 _ (by omega), f3.2 _ (by omega), f2.2 _ (by unfold isLy; omega)]
    exact z1 i hi
  · exact fr_tr f1 (fr_tr (fr_mono f2 (fun p h => Or.inr (by unfold isLy at h; omega))) (fr_tr (fr_mono f3 (fun p h => Or.inr (by omega))) (fr_tr (fr_mono f4 (fun p h => Or.inr (by omega))) (fr_mono f5 (fun p h => Or.inr (by omega))))))
