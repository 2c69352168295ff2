/-! ===== the model's adding methods ===== -/
/-- the model's answer: what is wrong (0: nothing), the value, the facts after -/
def frN (μ ν : Mm) : Prop := ν.2 = μ.2 ∧ (∀ p, p < 45 ∨ p = 49 → ν.1 p = μ.1 p) ∧ ν.1 45 5 = μ.1 45 5
theorem frN_refl {μ : Mm} : frN μ μ := ⟨rfl, fun _ _ => rfl, rfl⟩
theorem frN_tr {μ ν ξ : Mm} (h : frN μ ν) (k : frN ν ξ) : frN μ ξ := ⟨k.1.trans h.1, fun p hp => (k.2.1 p hp).trans (h.2.1 p hp), k.2.2.trans h.2.2⟩
theorem frW_N {μ ν : Mm} (h : frW μ ν) : frN μ ν := ⟨h.1, fun p hp => h.2.1 p (by omega), h.2.2 5 (by decide) (by decide)⟩
theorem frN_put {μ ν : Mm} (h : frN μ ν) {a k : Nat} {v : Int32} (ha : 45 ≤ a ∧ a ≠ 49 ∧ ¬ (a = 45 ∧ k = 5)) : frN μ (setI ν a k v) := ⟨h.1, fun p hp => by rw [setI_n _ _ _ (by omega)]; exact h.2.1 p hp, by rw [sg, if_neg (by omega)]; exact h.2.2⟩
def MR (μ : Mm) (w : Nat) (v : Int32) (T' : TT) (r : Int32 × Mm) : Prop := ∃ ν, r = (v, ν) ∧ MI ν T' ∧ ν.1 45 0 = nI w ∧ frN μ ν
section MAd
variable {μ : Mm} {T : TT}
theorem off_row {T' : TT} (h0 : tD T' = tD T) (h1 : T'.2.2.1 = T.2.2.1) (h2 : tI T' = tI T) (h3 : T'.2.2.2.1 = T.2.2.2.1) (X : OX) : IsOff T' X ↔ IsOff T X := by
  have hb : ∀ Y, based T' Y ↔ based T Y := fun Y => by
    have e : ∀ s n, baseM T' s n = baseM T s n := fun s n => by
      unfold baseM dPb
      rw [dOf_row h0 h1, h1]
    unfold based
    simp only [e]
  have hc : ∀ Y, closed T' Y ↔ closed T Y := fun Y => by
    unfold closed
    rw [h2]
    exact ⟨fun z i hi => (clI_row (T := T) (T' := T') (by rw [h3]) h0 h1).mp (z i hi), fun z i hi => (clI_row (T := T) (T' := T') (by rw [h3]) h0 h1).mpr (z i hi)⟩
  unfold IsOff
  simp only [hb, hc]
theorem MI_wrong (h : MI μ T) (w : Int32) : MI (setI μ 45 0 w) T := MI_put h (by omega)
/-- refused: nothing but the note of it -/
theorem MR_no (h : MI μ T) {w : Nat} : ∃ r, some ((0 : Int32), setI μ 45 0 (nI w)) = some r ∧ MR μ w 0 T r := ⟨_, rfl, _, rfl, MI_wrong h _, setI_same _ _ _ _, frN_put frN_refl (by omega)⟩
end MAd
