/-! ===== the model adds a use ===== -/
theorem laid_row {μ : Mm} {T T' : TT} (h : laid μ T) (h0 : tD T' = tD T) (h1 : T'.2.2.1 = T.2.2.1) (h2 : tI T' = tI T) (h3 : T'.2.2.2.1 = T.2.2.2.1) : laid μ T' := by
  have hX : IsOff T' (offOf T) := (off_row h0 h1 h2 h3 _).mpr h.2.2
  exact ⟨h.1, fun s n hs hn => by rw [h.2.1 s n hs hn, offOf_eq hX hs hn], offOf_off hX⟩
