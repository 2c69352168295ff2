/-! ===== the model's importOne, importAll ===== -/
theorem importM_tail {μ : Mm} {T : TT} (h : MI μ T) {x y v1 v2 v3 p : Int32} {r0 : RwI} {k : Nat} (hk : k ≤ 3) (h0 : k = 0 → okI T r0 ∧ tI T < 20 ∧ x = nI r0.1 ∧ y = nI r0.2.1 ∧ v1 = enc r0.2.2.1 ∧ v2 = enc r0.2.2.2.1 ∧ v3 = nI r0.2.2.2.2.1 ∧ b1 p = r0.2.2.2.2.2) : ∃ r, (bd (setI μ 45 0 (nI k)) fun μ5 => (if (μ5.1 45 0) ≤ 0 then (bn (X4_addImport x y v1 v2 v3 p μ5) fun q7 μ8 => some (q7, μ8)) else some (0, μ5))) = some r ∧ MR μ k (if k = 0 then nI (tI T) else 0) (refu T k (tI T) (addI T r0)).2 r := by
  have le0 : (nI k : Int32) ≤ 0 ↔ k ≤ 0 := nI_leI (b := 0) (by omega) (by decide)
  rw [bd_eq, setI_same]
  by_cases q : k = 0
  · obtain ⟨g1, g2, e1, e2, e3, e4, e5, e6⟩ := h0 q
    obtain ⟨r, e, ν, rfl, i1, i2, i3⟩ := addImportM_eq (MI_wrong h (nI k)) g1 g2 e1 e2 e3 e4 e5 e6
    rw [if_pos (le0.mpr (by omega)), e, bn_eq]
    unfold refu
    rw [if_pos q, if_pos q]
    exact ⟨_, rfl, ν, rfl, i1, by rw [i2, setI_same], frN_tr (frN_put frN_refl (by omega)) i3⟩
  · rw [if_neg (fun z => q (by have := le0.mp z; omega))]
    unfold refu
    rw [if_neg q, if_neg q]
    exact MR_no h
theorem importAllM_eq {μ : Mm} {T : TT} (h : MI μ T) (x y v p : Int32) : ∃ r, X4_importAll x y v p μ = some r ∧ MR μ (rfI T x y (inb v (2 ^ 26) = true)) (if rfI T x y (inb v (2 ^ 26) = true) = 0 then nI (tI T) else 0) (sImpA T x y v p).2 r := by
  have h16 := h.1.1.2.1
  unfold X4_importAll sImpA
  have e26 : (67108863 : Int32) = nI (2 ^ 26) - 1 := by
    rw [show (1 : Int32) = nI 1 from rfl, nI_sb (by decide)]
    exact (lit_n 67108863).trans (congrArg nI (by decide))
  rw [e26, within0 v (by decide), bi_eq, wrongImport_eq (f := inb v (2 ^ 26) = true) h.1 h.2.1 x y rfl, bi_eq]
  refine importM_tail h (rfI_le T x y _) (fun q => ?_)
  obtain ⟨q1, q2, q3, q4, q5⟩ := rfI_0 q
  obtain ⟨a1, a2⟩ := inb_cl q1 (by omega)
  obtain ⟨b1', b2⟩ := inb_cl q2 (by omega)
  obtain ⟨c1, c2⟩ := inb_cl q4 (by decide)
  exact ⟨⟨a1, b1', fun e => q3 (by rw [a2, b2]; exact congrArg nI e), b1_le p, Or.inl ⟨rfl, rfl, c1⟩⟩, q5, a2, b2, rfl, rfl, c2, rfl⟩
theorem importOneM_eq {μ : Mm} {T : TT} (h : MI μ T) (x y s l p : Int32) : ∃ r, X4_importOne x y s l p μ = some r ∧ MR μ (rfI T x y (inb s 26 = true ∧ inb l 26 = true)) (if rfI T x y (inb s 26 = true ∧ inb l 26 = true) = 0 then nI (tI T) else 0) (sImp1 T x y s l p).2 r := by
  have h16 := h.1.1.2.1
  have tail : ∃ r, (bd (setI μ 45 0 (nI (rfI T x y (inb s 26 = true ∧ inb l 26 = true)))) fun μ5 => (if (μ5.1 45 0) ≤ 0 then (bn (X4_addImport x y s l 0 p μ5) fun q7 μ8 => some (q7, μ8)) else some (0, μ5))) = some r ∧ MR μ (rfI T x y (inb s 26 = true ∧ inb l 26 = true)) (if rfI T x y (inb s 26 = true ∧ inb l 26 = true) = 0 then nI (tI T) else 0) (sImp1 T x y s l p).2 r := by
    unfold sImp1
    refine importM_tail h (rfI_le T x y _) (fun q => ?_)
    obtain ⟨q1, q2, q3, q4, q5⟩ := rfI_0 q
    obtain ⟨a1, a2⟩ := inb_cl q1 (by omega)
    obtain ⟨b1', b2⟩ := inb_cl q2 (by omega)
    obtain ⟨c1, c2⟩ := inb_cl q4.1 (by decide)
    obtain ⟨d1, d2⟩ := inb_cl q4.2 (by decide)
    exact ⟨⟨a1, b1', fun e => q3 (by rw [a2, b2]; exact congrArg nI e), b1_le p, Or.inr ⟨_, _, c1, d1, rfl, rfl, rfl⟩⟩, q5, a2, b2, c2, d2, rfl, rfl⟩
  unfold X4_importOne
  rw [isNameM_eq, bi_eq]
  by_cases qs : inb s 26 = true
  · rw [if_pos qs, if_neg one0, isNameM_eq, bi_eq, wrongImport_eq (f := inb s 26 = true ∧ inb l 26 = true) h.1 h.2.1 x y, bi_eq]
    · exact tail
    · by_cases ql : inb l 26 = true
      · rw [if_pos ql, if_neg one0, if_pos ⟨qs, ql⟩]; rfl
      · rw [if_neg ql, if_pos zero0, if_neg (fun z => ql z.2)]; rfl
  · rw [if_neg qs, if_pos zero0]
    unfold X4_importOne_j23 X4_importOne_j24
    rw [wrongImport_eq (f := inb s 26 = true ∧ inb l 26 = true) h.1 h.2.1 x y, bi_eq]
    · exact tail
    · rw [if_neg (fun z => qs z.1)]; rfl
