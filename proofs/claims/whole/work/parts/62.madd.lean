/-! ===== the model's row grows ===== -/
section MA
variable {μ : Mm} {T : TT}
theorem MF_addS (hV : VT T) (hM : MF μ T) (hS : tS T < 16) (p : Nat) : MF (setI (setI μ 46 (4 + tS T) (nI p)) 46 0 (nI (tS T + 1))) (addS T p) := by
  have hD := hV.2.1.1
  have hI := hV.2.2.1.1
  have hU := hV.2.2.2.1
  obtain ⟨⟨c1, c2, c3, c4⟩, hs, hd, hi, hu⟩ := hM
  refine ⟨⟨?_, ?_, ?_, ?_⟩, fun s h1 => ?_, fun d h1 => ?_, fun i h1 => ?_, fun u h1 => ?_⟩
  · rw [sg, if_pos ⟨rfl, rfl⟩]; rfl
  · simp (disch := omega) only [sg, if_neg]; exact c2
  · simp (disch := omega) only [sg, if_neg]; exact c3
  · simp (disch := omega) only [sg, if_neg]; exact c4
  · have h2 : s < tS T + 1 := h1
    show _ = enc (if s = tS T then some p else tPar T s)
    by_cases q : s = tS T
    · rw [sg, if_neg (by omega), sg, if_pos (by omega), if_pos q]; rfl
    · rw [sg, if_neg (by omega), sg, if_neg (by omega), if_neg q]; exact hs s (by omega)
  · simp (disch := omega) only [sg, if_neg]
    exact hd d h1
  · have h1' : i < tI T := h1
    simp (disch := omega) only [sg, if_neg]
    exact hi i h1
  · have h1' : u < tU T := h1
    simp (disch := omega) only [sg, if_neg]
    exact hu u h1
theorem MF_addD (hV : VT T) (hM : MF μ T) (hD : tD T < 30) (s n p : Nat) : MF (setI (setI (setI (setI μ 46 (20 + 3 * tD T) (nI s)) 46 (20 + 3 * tD T + 1) (nI n)) 46 (20 + 3 * tD T + 2) (nI p)) 46 1 (nI (tD T + 1))) (addD T (s, n, p)) := by
  have h16 := hV.1.2.1
  have hI := hV.2.2.1.1
  have hU := hV.2.2.2.1
  obtain ⟨⟨c1, c2, c3, c4⟩, hs, hd, hi, hu⟩ := hM
  refine ⟨⟨?_, ?_, ?_, ?_⟩, fun s h1 => ?_, fun d h1 => ?_, fun i h1 => ?_, fun u h1 => ?_⟩
  · simp (disch := omega) only [sg, if_neg]; exact c1
  · rw [sg, if_pos ⟨rfl, rfl⟩]; rfl
  · simp (disch := omega) only [sg, if_neg]; exact c3
  · simp (disch := omega) only [sg, if_neg]; exact c4
  · have h1' : s < tS T := h1
    simp (disch := omega) only [sg, if_neg]
    exact hs s h1
  · have h2 : d < tD T + 1 := h1
    show _ = nI (if d = tD T then (_, _, _) else T.2.2.1 d).1 ∧ _ = nI (if d = tD T then (_, _, _) else T.2.2.1 d).2.1 ∧ _ = nI (if d = tD T then (_, _, _) else T.2.2.1 d).2.2
    by_cases q : d = tD T
    · subst q
      simp (disch := omega) only [sg, if_neg, if_pos]
      exact ⟨rfl, rfl, rfl⟩
    · simp (disch := omega) only [sg, if_neg]
      exact hd d (by omega)
  · simp (disch := omega) only [sg, if_neg]
    exact hi i h1
  · have h1' : u < tU T := h1
    simp (disch := omega) only [sg, if_neg]
    exact hu u h1
theorem MF_addU (hV : VT T) (hM : MF μ T) (hU : tU T < 30) (s n : Nat) : MF (setI (setI (setI μ 46 (230 + 2 * tU T) (nI s)) 46 (230 + 2 * tU T + 1) (nI n)) 46 3 (nI (tU T + 1))) (addU T (s, n)) := by
  have h16 := hV.1.2.1
  have hD := hV.2.1.1
  have hI := hV.2.2.1.1
  obtain ⟨⟨c1, c2, c3, c4⟩, hs, hd, hi, hu⟩ := hM
  refine ⟨⟨?_, ?_, ?_, ?_⟩, fun s h1 => ?_, fun d h1 => ?_, fun i h1 => ?_, fun u h1 => ?_⟩
  · simp (disch := omega) only [sg, if_neg]; exact c1
  · simp (disch := omega) only [sg, if_neg]; exact c2
  · simp (disch := omega) only [sg, if_neg]; exact c3
  · rw [sg, if_pos ⟨rfl, rfl⟩]; rfl
  · have h1' : s < tS T := h1
    simp (disch := omega) only [sg, if_neg]
    exact hs s h1
  · have h1' : d < tD T := h1
    simp (disch := omega) only [sg, if_neg]
    exact hd d h1
  · have h1' : i < tI T := h1
    simp (disch := omega) only [sg, if_neg]
    exact hi i h1
  · have h2 : u < tU T + 1 := h1
    show _ = nI (if u = tU T then (_, _) else T.2.2.2.2 u).1 ∧ _ = nI (if u = tU T then (_, _) else T.2.2.2.2 u).2
    by_cases q : u = tU T
    · subst q
      simp (disch := omega) only [sg, if_neg, if_pos]
      exact ⟨rfl, rfl⟩
    · simp (disch := omega) only [sg, if_neg]
      exact hu u (by omega)
theorem MF_addI (hV : VT T) (hM : MF μ T) (hI : tI T < 20) (r : RwI) : MF (setI (setI (setI (setI (setI (setI (setI μ 46 (110 + 6 * tI T) (nI r.1)) 46 (110 + 6 * tI T + 1) (nI r.2.1)) 46 (110 + 6 * tI T + 2) (enc r.2.2.1)) 46 (110 + 6 * tI T + 3) (enc r.2.2.2.1)) 46 (110 + 6 * tI T + 4) (nI r.2.2.2.2.1)) 46 (110 + 6 * tI T + 5) (nI r.2.2.2.2.2)) 46 2 (nI (tI T + 1))) (addI T r) := by
  have h16 := hV.1.2.1
  have hD := hV.2.1.1
  have hU := hV.2.2.2.1
  obtain ⟨⟨c1, c2, c3, c4⟩, hs, hd, hi, hu⟩ := hM
  refine ⟨⟨?_, ?_, ?_, ?_⟩, fun s h1 => ?_, fun d h1 => ?_, fun i h1 => ?_, fun u h1 => ?_⟩
  · simp (disch := omega) only [sg, if_neg]; exact c1
  · simp (disch := omega) only [sg, if_neg]; exact c2
  · rw [sg, if_pos ⟨rfl, rfl⟩]; rfl
  · simp (disch := omega) only [sg, if_neg]; exact c4
  · have h1' : s < tS T := h1
    simp (disch := omega) only [sg, if_neg]
    exact hs s h1
  · have h1' : d < tD T := h1
    simp (disch := omega) only [sg, if_neg]
    exact hd d h1
  · have h2 : i < tI T + 1 := h1
    have e : (addI T r).2.2.2.1 i = if i = tI T then r else T.2.2.2.1 i := rfl
    unfold iTo iFr iSr iLo iEx iPs
    rw [e]
    by_cases q : i = tI T
    · subst q
      simp (disch := omega) only [sg, if_neg, if_pos]
      exact ⟨rfl, rfl, rfl, rfl, rfl, rfl⟩
    · simp (disch := omega) only [sg, if_neg]
      exact hi i (by omega)
  · simp (disch := omega) only [sg, if_neg]
    exact hu u h1
end MA
