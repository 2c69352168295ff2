/-! ===== the model ends an item; both sides alike ===== -/
def frG (μ ν : Mm) : Prop := ν.2 = μ.2 ∧ (∀ p, p < 45 ∨ p = 47 ∨ p = 49 → ν.1 p = μ.1 p) ∧ ν.1 45 5 = μ.1 45 5
theorem frG_refl {μ : Mm} : frG μ μ := ⟨rfl, fun _ _ => rfl, rfl⟩
theorem frG_tr {μ ν ξ : Mm} (h : frG μ ν) (k : frG ν ξ) : frG μ ξ := ⟨k.1.trans h.1, fun p hp => (k.2.1 p hp).trans (h.2.1 p hp), k.2.2.trans h.2.2⟩
theorem frR_G {μ ν : Mm} (h : frR μ ν) : frG μ ν := ⟨h.1, fun p hp => h.2.1 p (by omega), h.2.2 5 (by omega)⟩
def EI (μ ν : Mm) (T' : TT) (w : Nat) : Prop := MI ν T' ∧ ν.1 45 21 = nI (if w = 0 then 0 else 1) ∧ ν.1 45 22 = μ.1 45 22 + 1 ∧ ν.1 45 12 = 0 ∧ ν.1 45 20 = 1 ∧ frG μ ν
def mm2 (μ : Mm) : Mm := setI (setI μ 45 22 (μ.1 45 22 + 1)) 45 12 0
theorem mm2_MI {μ : Mm} {T : TT} (h : MI μ T) : MI (mm2 μ) T := MI_put (MI_put h (by omega)) (by omega)
theorem mm2_at (μ : Mm) {j : Nat} (h1 : j ≠ 22) (h2 : j ≠ 12) : (mm2 μ).1 45 j = μ.1 45 j := s2 μ h1 h2
section EIs
variable {μ : Mm}
theorem ei_fin (h20 : μ.1 45 20 = 1) {X : Option (Int32 × Mm)} {w : Nat} {v : Int32} {T' : TT} (hx : ∃ r, X = some r ∧ MR (mm2 μ) w v T' r) (hE : Al X (frE (mm2 μ))) (hw : w < 100) : ∃ ν, (bn X fun _ ν1 => X4_endItem_j196 ν1) = some ν ∧ EI μ ν T' w := by
  obtain ⟨r, e, ν, rfl, h1, h2, h3⟩ := hx
  have hf := hE v ν e
  have le0 : (nI w : Int32) ≤ 0 ↔ w ≤ 0 := nI_leI (b := 0) (by omega) (by decide)
  have ew : (if (nI w : Int32) ≤ 0 then (0 : Int32) else 1) = nI (if w = 0 then 0 else 1) := by
    by_cases q : w = 0
    · rw [if_pos (le0.mpr (by omega)), if_pos q]; rfl
    · rw [if_neg (fun z => q (by have := le0.mp z; omega)), if_neg q]; rfl
  unfold X4_endItem_j196
  rw [e, bn_eq, h2, bd_eq, ew]
  refine ⟨_, rfl, MI_put h1 (by omega), setI_same _ _ _ _, ?_, ?_, ?_, ?_, ?_, ?_⟩
  · rw [s1 _ (by decide), hf.2 22 (by decide) (by decide)]
    unfold mm2
    rw [s1 _ (by decide), setI_same]
  · rw [s1 _ (by decide), hf.2 12 (by decide) (by decide)]
    exact setI_same _ _ _ _
  · rw [s1 _ (by decide), hf.2 20 (by decide) (by decide), mm2_at μ (by decide) (by decide)]
    exact h20
  · exact h3.1
  · intro p hp
    rw [setI_n _ _ _ (by omega)]
    have e1 : (mm2 μ).1 p = μ.1 p := by unfold mm2; rw [setI_n _ _ _ (by omega), setI_n _ _ _ (by omega)]
    rcases hp with hp | hp | hp
    · rw [h3.2.1 p (Or.inl hp), e1]
    · rw [hf.1 p (by omega) (by omega), e1]
    · rw [h3.2.1 p (Or.inr hp), e1]
  · rw [s1 _ (by decide), h3.2.2, mm2_at μ (by decide) (by decide)]
/-- the ends of an item, by its sign -/
theorem ei_94 (h20 : μ.1 45 20 = 1) (h21 : μ.1 45 21 = 0) (h13 : μ.1 45 13 = 94) : X4_endItem μ = (bn (X4_addScope (μ.1 45 14) (mm2 μ)) fun _ ν1 => X4_endItem_j196 ν1) := by
  unfold X4_endItem
  rw [bd_eq, bd_eq]
  show (if (mm2 μ).1 45 20 = 0 then _ else _) = _
  rw [mm2_at μ (show 20 ≠ 22 by decide) (show 20 ≠ 12 by decide), h20, if_neg (by decide)]
  show (if (mm2 μ).1 45 21 = 0 then (if (mm2 μ).1 45 13 = 94 then (bn (X4_addScope ((mm2 μ).1 45 14) (mm2 μ)) fun q17 μ18 => X4_endItem_j196 μ18) else _) else _) = _
  rw [mm2_at μ (show 21 ≠ 22 by decide) (show 21 ≠ 12 by decide), h21, if_pos rfl, mm2_at μ (show 13 ≠ 22 by decide) (show 13 ≠ 12 by decide), h13, if_pos rfl, mm2_at μ (show 14 ≠ 22 by decide) (show 14 ≠ 12 by decide)]
theorem ei_decl (h20 : μ.1 45 20 = 1) (h21 : μ.1 45 21 = 0) (h13 : μ.1 45 13 = 46 ∨ μ.1 45 13 = 45) : X4_endItem μ = (bn (X4_declare (μ.1 45 14) (μ.1 45 16) (if (μ.1 45 13) = 46 then (1 : Int32) else 0) (mm2 μ)) fun _ ν1 => X4_endItem_j196 ν1) := by
  unfold X4_endItem X4_endItem_j69
  rw [bd_eq, bd_eq]
  show (if (mm2 μ).1 45 20 = 0 then _ else _) = _
  rw [mm2_at μ (show 20 ≠ 22 by decide) (show 20 ≠ 12 by decide), h20, if_neg (by decide)]
  show (if (mm2 μ).1 45 21 = 0 then (if (mm2 μ).1 45 13 = 94 then _ else (if (mm2 μ).1 45 13 = 46 then (bn (X4_declare ((mm2 μ).1 45 14) ((mm2 μ).1 45 16) (if ((mm2 μ).1 45 13) = 46 then (1 : Int32) else 0) (mm2 μ)) fun _ ν1 => X4_endItem_j196 ν1) else (if (mm2 μ).1 45 13 = 45 then (bn (X4_declare ((mm2 μ).1 45 14) ((mm2 μ).1 45 16) (if ((mm2 μ).1 45 13) = 46 then (1 : Int32) else 0) (mm2 μ)) fun _ ν1 => X4_endItem_j196 ν1) else _))) else _) = _
  rw [mm2_at μ (show 21 ≠ 22 by decide) (show 21 ≠ 12 by decide), h21, if_pos rfl, mm2_at μ (show 13 ≠ 22 by decide) (show 13 ≠ 12 by decide), mm2_at μ (show 14 ≠ 22 by decide) (show 14 ≠ 12 by decide), mm2_at μ (show 16 ≠ 22 by decide) (show 16 ≠ 12 by decide)]
  rcases h13 with h | h
  · rw [h, if_neg (show ¬ (46 : Int32) = 94 by decide), if_pos rfl]
  · rw [h, if_neg (show ¬ (45 : Int32) = 94 by decide), if_neg (show ¬ (45 : Int32) = 46 by decide), if_pos rfl]
theorem ei_use (h20 : μ.1 45 20 = 1) (h21 : μ.1 45 21 = 0) (h13 : μ.1 45 13 = 63) : X4_endItem μ = (bn (X4_use (μ.1 45 14) (μ.1 45 16) (mm2 μ)) fun _ ν1 => X4_endItem_j196 ν1) := by
  unfold X4_endItem
  rw [bd_eq, bd_eq]
  show (if (mm2 μ).1 45 20 = 0 then _ else _) = _
  rw [mm2_at μ (show 20 ≠ 22 by decide) (show 20 ≠ 12 by decide), h20, if_neg (by decide)]
  show (if (mm2 μ).1 45 21 = 0 then (if (mm2 μ).1 45 13 = 94 then _ else (if (mm2 μ).1 45 13 = 46 then _ else (if (mm2 μ).1 45 13 = 45 then _ else (if (mm2 μ).1 45 13 = 63 then (bn (X4_use ((mm2 μ).1 45 14) ((mm2 μ).1 45 16) (mm2 μ)) fun _ ν1 => X4_endItem_j196 ν1) else _)))) else _) = _
  rw [mm2_at μ (show 21 ≠ 22 by decide) (show 21 ≠ 12 by decide), h21, if_pos rfl, mm2_at μ (show 13 ≠ 22 by decide) (show 13 ≠ 12 by decide), h13, if_neg (by decide), if_neg (by decide), if_neg (by decide), if_pos rfl, mm2_at μ (show 14 ≠ 22 by decide) (show 14 ≠ 12 by decide), mm2_at μ (show 16 ≠ 22 by decide) (show 16 ≠ 12 by decide)]
theorem ei_all (h20 : μ.1 45 20 = 1) (h21 : μ.1 45 21 = 0) (h13 : μ.1 45 13 = 60) (h16 : μ.1 45 16 = -1) : X4_endItem μ = (bn (X4_importAll (μ.1 45 14) (μ.1 45 15) (μ.1 45 18) (μ.1 45 19) (mm2 μ)) fun _ ν1 => X4_endItem_j196 ν1) := by
  unfold X4_endItem
  rw [bd_eq, bd_eq]
  show (if (mm2 μ).1 45 20 = 0 then _ else _) = _
  rw [mm2_at μ (show 20 ≠ 22 by decide) (show 20 ≠ 12 by decide), h20, if_neg (by decide)]
  show (if (mm2 μ).1 45 21 = 0 then (if (mm2 μ).1 45 13 = 94 then _ else (if (mm2 μ).1 45 13 = 46 then _ else (if (mm2 μ).1 45 13 = 45 then _ else (if (mm2 μ).1 45 13 = 63 then _ else (if (mm2 μ).1 45 16 = (-1) then (bn (X4_importAll ((mm2 μ).1 45 14) ((mm2 μ).1 45 15) ((mm2 μ).1 45 18) ((mm2 μ).1 45 19) (mm2 μ)) fun _ ν1 => X4_endItem_j196 ν1) else _))))) else _) = _
  rw [mm2_at μ (show 21 ≠ 22 by decide) (show 21 ≠ 12 by decide), h21, if_pos rfl, mm2_at μ (show 13 ≠ 22 by decide) (show 13 ≠ 12 by decide), h13, if_neg (by decide), if_neg (by decide), if_neg (by decide), if_neg (by decide), mm2_at μ (show 16 ≠ 22 by decide) (show 16 ≠ 12 by decide), h16, if_pos rfl, mm2_at μ (show 14 ≠ 22 by decide) (show 14 ≠ 12 by decide), mm2_at μ (show 15 ≠ 22 by decide) (show 15 ≠ 12 by decide), mm2_at μ (show 18 ≠ 22 by decide) (show 18 ≠ 12 by decide), mm2_at μ (show 19 ≠ 22 by decide) (show 19 ≠ 12 by decide)]
theorem ei_one (h20 : μ.1 45 20 = 1) (h21 : μ.1 45 21 = 0) (h13 : μ.1 45 13 = 60) (h16 : ¬ μ.1 45 16 = -1) : X4_endItem μ = (bn (X4_importOne (μ.1 45 14) (μ.1 45 15) (μ.1 45 16) (if μ.1 45 17 = (-1) then μ.1 45 16 else μ.1 45 17) (μ.1 45 19) (mm2 μ)) fun _ ν1 => X4_endItem_j196 ν1) := by
  unfold X4_endItem X4_endItem_j164
  rw [bd_eq, bd_eq]
  show (if (mm2 μ).1 45 20 = 0 then _ else _) = _
  rw [mm2_at μ (show 20 ≠ 22 by decide) (show 20 ≠ 12 by decide), h20, if_neg (by decide)]
  show (if (mm2 μ).1 45 21 = 0 then (if (mm2 μ).1 45 13 = 94 then _ else (if (mm2 μ).1 45 13 = 46 then _ else (if (mm2 μ).1 45 13 = 45 then _ else (if (mm2 μ).1 45 13 = 63 then _ else (if (mm2 μ).1 45 16 = (-1) then _ else (if (mm2 μ).1 45 17 = (-1) then (bn (X4_importOne ((mm2 μ).1 45 14) ((mm2 μ).1 45 15) ((mm2 μ).1 45 16) ((mm2 μ).1 45 16) ((mm2 μ).1 45 19) (mm2 μ)) fun _ ν1 => X4_endItem_j196 ν1) else (bn (X4_importOne ((mm2 μ).1 45 14) ((mm2 μ).1 45 15) ((mm2 μ).1 45 16) ((mm2 μ).1 45 17) ((mm2 μ).1 45 19) (mm2 μ)) fun _ ν1 => X4_endItem_j196 ν1))))))) else _) = _
  rw [mm2_at μ (show 21 ≠ 22 by decide) (show 21 ≠ 12 by decide), h21, if_pos rfl, mm2_at μ (show 13 ≠ 22 by decide) (show 13 ≠ 12 by decide), h13, if_neg (by decide), if_neg (by decide), if_neg (by decide), if_neg (by decide), mm2_at μ (show 16 ≠ 22 by decide) (show 16 ≠ 12 by decide), if_neg h16, mm2_at μ (show 14 ≠ 22 by decide) (show 14 ≠ 12 by decide), mm2_at μ (show 15 ≠ 22 by decide) (show 15 ≠ 12 by decide), mm2_at μ (show 17 ≠ 22 by decide) (show 17 ≠ 12 by decide), mm2_at μ (show 19 ≠ 22 by decide) (show 19 ≠ 12 by decide)]
  by_cases q : μ.1 45 17 = -1
  · rw [if_pos q, if_pos q]
  · rw [if_neg q, if_neg q]
end EIs
theorem item_both {μ : Mm} {N : Nat} {f : Nat → Nat} {T : TT} {a e s : Nat} (hv : TXv N f) (hM : MI μ T) (hI : IT f a e (μ.1 45) s) (hs : s < 12) (hE : cE s = true) (hen : ends f N e) (heN : e ≤ N) (h20 : μ.1 45 20 = 1) (h21 : μ.1 45 21 = 0) :
    ∃ k w T', k < 100 ∧ (w = 0 ↔ k = 0) ∧ PI N f T a k T' ∧ ∃ ν, X4_endItem μ = some ν ∧ EI μ ν T' w := by
  have hN := hv.1
  have hV := hM.1
  have hM2 := mm2_MI hM
  have hb : ∀ j, j < N → f j < 127 := fun j hj => by have := (hv.2 j hj).2; omega
  have hce := cdA_end hen
  have hcase : s = 5 ∨ s = 7 ∨ s = 10 ∨ s = 11 := by
    unfold cE at hE
    rw [Bool.or_eq_true, Bool.or_eq_true, decide_eq_true_eq, decide_eq_true_eq, decide_eq_true_eq] at hE
    omega
  -- the two forms of an import of all names
  have all : ∀ p v, BB f a p (μ.1 45) → a + 2 + p < N → μ.1 45 16 = -1 → μ.1 45 18 = nI v → v < 2 ^ 26 → (∀ r0 : RwI, r0 = (f a - 65, f (a + 2 + p) - 65, none, none, v, p) → PI N f T a (rfI T (nI (f a - 65)) (nI (f (a + 2 + p) - 65)) True) (impT T (nI (f a - 65)) (nI (f (a + 2 + p) - 65)) r0)) → ∃ k w T', k < 100 ∧ (w = 0 ↔ k = 0) ∧ PI N f T a k T' ∧ ∃ ν, X4_endItem μ = some ν ∧ EI μ ν T' w := by
    intro p v hB hin h16 h18 hvv hPI
    obtain ⟨⟨⟨b1, b2⟩, b3⟩, b4, b5, b6, b7, b8⟩ := hB
    have hp : p ≤ 1 := by omega
    have hh := scl_of b1
    have hh2 := scl_of b7
    obtain ⟨z1, z2⟩ := sImpA_2 (T := T) (a := f a - 65) (b := f (a + 2 + p) - 65) (v := v) (p := p) (by omega) (by omega) hvv hp
    have hle := rfI_le T (nI (f a - 65)) (nI (f (a + 2 + p) - 65)) True
    obtain ⟨r, e1, e2⟩ := importAllM_eq hM2 (nI (f a - 65)) (nI (f (a + 2 + p) - 65)) (nI v) (nI p)
    rw [z1, z2] at e2
    obtain ⟨ν, e3, e4⟩ := ei_fin h20 ⟨r, e1, e2⟩ (alE_importAll frE_refl _ _ _ _) (by omega)
    refine ⟨_, _, _, by omega, Iff.rfl, hPI _ rfl, ν, ?_, e4⟩
    rw [ei_all h20 h21 (by rw [b3, b4]; rfl) h16, b2, b8, h18, b6]
    exact e3
  have one : ∀ p sr lo, BB f a p (μ.1 45) → a + 2 + p < N → sr < 26 → lo < 26 → μ.1 45 16 = nI sr → (if μ.1 45 17 = (-1) then μ.1 45 16 else μ.1 45 17) = nI lo → (∀ r0 : RwI, r0 = (f a - 65, f (a + 2 + p) - 65, some sr, some lo, 0, p) → PI N f T a (rfI T (nI (f a - 65)) (nI (f (a + 2 + p) - 65)) True) (impT T (nI (f a - 65)) (nI (f (a + 2 + p) - 65)) r0)) → ∃ k w T', k < 100 ∧ (w = 0 ↔ k = 0) ∧ PI N f T a k T' ∧ ∃ ν, X4_endItem μ = some ν ∧ EI μ ν T' w := by
    intro p sr lo hB hin hsr hlo h16 h17 hPI
    obtain ⟨⟨⟨b1, b2⟩, b3⟩, b4, b5, b6, b7, b8⟩ := hB
    have hp : p ≤ 1 := by omega
    have hh := scl_of b1
    have hh2 := scl_of b7
    obtain ⟨z1, z2⟩ := sImp1_2 (T := T) (a := f a - 65) (b := f (a + 2 + p) - 65) (s := sr) (l := lo) (p := p) (by omega) (by omega) hsr hlo hp
    have hle := rfI_le T (nI (f a - 65)) (nI (f (a + 2 + p) - 65)) True
    obtain ⟨r, e1, e2⟩ := importOneM_eq hM2 (nI (f a - 65)) (nI (f (a + 2 + p) - 65)) (nI sr) (nI lo) (nI p)
    rw [z1, z2] at e2
    obtain ⟨ν, e3, e4⟩ := ei_fin h20 ⟨r, e1, e2⟩ (alE_importOne frE_refl _ _ _ _ _) (by omega)
    refine ⟨_, _, _, by omega, Iff.rfl, hPI _ rfl, ν, ?_, e4⟩
    rw [ei_one h20 h21 (by rw [b3, b4]; rfl) (by rw [h16]; exact nI_ne_m1 (by omega)), h17, b2, b8, h16, b6]
    exact e3
  rcases hcase with rfl | rfl | rfl | rfl
  · obtain ⟨p, he, hB, hn⟩ : ∃ p, e = a + 3 + p ∧ BB f a p (μ.1 45) ∧ N0 (μ.1 45) := hI
    refine all p 0 hB (by omega) hn.1 hn.2.2 (by decide) (fun r0 hr => ?_)
    subst hr
    refine PI_imp hN hV hB.1.1.1 hB.2.1 hB.2.2.1 hB.2.2.2.2.1 (by omega) (hb _ (by omega)) rfl rfl rfl (Or.inl ⟨?_, ?_, ?_, rfl, rfl, rfl⟩)
    · rw [← he]; omega
    · rw [← he]; omega
    · rw [← he]; omega
  · obtain ⟨p, he, hg, h17⟩ : ∃ p, e = a + 5 + p ∧ SG f a p (μ.1 45) ∧ μ.1 45 17 = -1 := hI
    have hl := ltl_of hg.2.2.1
    refine one p (f (a + 4 + p) - 97) (f (a + 4 + p) - 97) hg.1 (by omega) (by omega) (by omega) hg.2.2.2 (by rw [if_pos h17]; exact hg.2.2.2) (fun r0 hr => ?_)
    subst hr
    refine PI_imp hN hV hg.1.1.1.1 hg.1.2.1 hg.1.2.2.1 hg.1.2.2.2.2.1 (by omega) (hb _ (by omega)) rfl rfl rfl (Or.inr (Or.inr ⟨?_, by omega, hg.2.2.1, rfl, rfl, Or.inl ⟨?_, ?_, rfl⟩⟩))
    · rw [cdA_in (by omega)]; exact hg.2.1
    · rw [← he]; omega
    · rw [← he]; omega
  · obtain ⟨p, he, hB, h16, h47, hall, h18⟩ : ∃ p, a + 5 + p ≤ e ∧ BB f a p (μ.1 45) ∧ μ.1 45 16 = -1 ∧ f (a + 3 + p) = 47 ∧ (∀ j, a + 4 + p ≤ j → j < e → ltl (f j) = true) ∧ μ.1 45 18 = nI (exM f (a + 4 + p) (e - (a + 4 + p))) := hI
    refine all p _ hB (by omega) h16 h18 (exM_lt (fun j h1 h2 => hall j h1 (by omega))) (fun r0 hr => ?_)
    subst hr
    refine PI_imp hN hV hB.1.1.1 hB.2.1 hB.2.2.1 hB.2.2.2.2.1 (by omega) (hb _ (by omega)) rfl rfl rfl (Or.inr (Or.inl ⟨?_, rfl, rfl, e, by omega, heN, hen, hall, rfl⟩))
    rw [cdA_in (by omega)]; exact h47
  · have hI' : (e = a + 2 ∧ H1 f a (μ.1 45) ∧ f (a + 1) = 94) ∨ (e = a + 3 ∧ H1 f a (μ.1 45) ∧ dSg (f (a + 1)) ∧ ltl (f (a + 2)) = true ∧ μ.1 45 16 = nI (f (a + 2) - 97)) ∨ (∃ p, e = a + 7 + p ∧ SG f a p (μ.1 45) ∧ f (a + 5 + p) = 61 ∧ ltl (f (a + 6 + p)) = true ∧ μ.1 45 17 = nI (f (a + 6 + p) - 97)) := hI
    rcases hI' with ⟨he, ⟨⟨b1, b2⟩, b3⟩, h94⟩ | ⟨he, ⟨⟨b1, b2⟩, b3⟩, hd, hl, h16⟩ | ⟨p, he, hg, h61, hl, h17⟩
    · have hle := rfS_le T (nI (f a - 65))
      have hws : ∀ k, wS k = 0 ↔ k = 0 := fun k => by unfold wS; split <;> omega
      have hw100 : wS (rfS T (nI (f a - 65))) < 100 := by unfold wS; split <;> omega
      obtain ⟨ν, e3, e4⟩ := ei_fin h20 (addScopeM_eq hM2 (nI (f a - 65))) (alE_addScope frE_refl _) hw100
      refine ⟨_, _, _, by omega, hws _, PI_scope hN hV b1 h94 (by omega), ν, ?_, e4⟩
      rw [ei_94 h20 h21 (by rw [b3, h94]; rfl), b2]
      exact e3
    · have hll := ltl_of hl
      rcases hd with hd | hd | hd
      · have hle := rfD_le T (nI (f a - 65)) (nI (f (a + 2) - 97))
        obtain ⟨ν, e3, e4⟩ := ei_fin h20 (declareM_eq hM2 (nI (f a - 65)) (nI (f (a + 2) - 97)) (if (nI (f (a + 1)) : Int32) = 46 then 1 else 0)) (alE_declare frE_refl _ _ _) (by omega)
        refine ⟨_, _, _, by omega, Iff.rfl, PI_decl hN hV b1 (Or.inl hd) hl (by omega), ν, ?_, e4⟩
        rw [ei_decl h20 h21 (Or.inl (by rw [b3, hd]; rfl)), b2, b3, h16]
        exact e3
      · have hle := rfD_le T (nI (f a - 65)) (nI (f (a + 2) - 97))
        obtain ⟨ν, e3, e4⟩ := ei_fin h20 (declareM_eq hM2 (nI (f a - 65)) (nI (f (a + 2) - 97)) (if (nI (f (a + 1)) : Int32) = 46 then 1 else 0)) (alE_declare frE_refl _ _ _) (by omega)
        refine ⟨_, _, _, by omega, Iff.rfl, PI_decl hN hV b1 (Or.inr hd) hl (by omega), ν, ?_, e4⟩
        rw [ei_decl h20 h21 (Or.inr (by rw [b3, hd]; rfl)), b2, b3, h16]
        exact e3
      · have hle := rfU_le T (nI (f a - 65)) (nI (f (a + 2) - 97))
        obtain ⟨ν, e3, e4⟩ := ei_fin h20 (useM_eq hM2 (nI (f a - 65)) (nI (f (a + 2) - 97))) (alE_use frE_refl _ _) (by omega)
        refine ⟨_, _, _, by omega, Iff.rfl, PI_use hN hV b1 hd hl (by omega), ν, ?_, e4⟩
        rw [ei_use h20 h21 (by rw [b3, hd]; rfl), b2, h16]
        exact e3
    · have hl4 := ltl_of hg.2.2.1
      have hl6 := ltl_of hl
      refine one p (f (a + 4 + p) - 97) (f (a + 6 + p) - 97) hg.1 (by omega) (by omega) (by omega) hg.2.2.2 (by rw [if_neg (by rw [h17]; exact nI_ne_m1 (by omega))]; exact h17) (fun r0 hr => ?_)
      subst hr
      refine PI_imp hN hV hg.1.1.1.1 hg.1.2.1 hg.1.2.2.1 hg.1.2.2.2.2.1 (by omega) (hb _ (by omega)) rfl rfl rfl (Or.inr (Or.inr ⟨?_, by omega, hg.2.2.1, rfl, rfl, Or.inr ⟨?_, by omega, hl, rfl⟩⟩))
      · rw [cdA_in (by omega)]; exact hg.2.1
      · rw [cdA_in (by omega)]; exact h61
