/-! ===== adding, removing, copying: the component's rows ===== -/
theorem nI_sb {a b : Nat} (h : b ≤ a) : nI a - nI b = nI (a - b) := by
  have h1 : nI a = nI (a - b) + nI b := by rw [nI_add, Nat.sub_add_cancel h]
  rw [h1, Int32.add_sub_cancel]
theorem bd_ev {α β : Type} {x : α} {k : α → Option β} {r : Option β} (h : k x = r) : bd x k = r := h
section PUT
variable {μ : Mm} {a : Nat} {T : TT}
theorem putDeclaration_eq (hC : CF μ a T) (hD : tD T < 30) (s n p : Nat) : ∃ ν, X0_putDeclaration a (nI s) (nI n) (nI p) μ = some (nI (tD T), ν) ∧ CF ν a (addD T (s, n, p)) ∧ fr (isRw a) μ ν := by
  obtain ⟨⟨c1, c2, c3, c4⟩, hs, hd, hi, hu⟩ := hC
  refine ⟨setI (setI (setI (setI μ (a + 2) (tD T) (nI s)) (a + 3) (tD T) (nI n)) (a + 4) (tD T) (nI p)) a 2 (nI (tD T + 1)), ?_, ⟨⟨?_, ?_, ?_, ?_⟩, fun s h1 => ?_, fun d h1 => ?_, fun i h1 => ?_, fun u h1 => ?_⟩, fr_setI (fr_setI (fr_setI (fr_setI fr_refl (by unfold isRw; omega)) (by unfold isRw; omega)) (by unfold isRw; omega)) (by unfold isRw; omega)⟩
  · unfold X0_putDeclaration
    simp (disch := omega) only [bd_eq, sg, if_neg, c2, ck_nI, nI_clamp, nI_1]
  · simp (disch := omega) only [sg, if_neg]; exact c1
  · rw [sg, if_pos ⟨rfl, rfl⟩]; rfl
  · simp (disch := omega) only [sg, if_neg]; exact c3
  · simp (disch := omega) only [sg, if_neg]; exact c4
  · simp (disch := omega) only [sg, if_neg]; exact hs s h1
  · have h2 : d < tD T + 1 := h1
    show _ = nI (if d = tD T then (_, _, _) else T.2.2.1 d).1 ∧ _ = nI (if d = tD T then (_, _, _) else T.2.2.1 d).2.1 ∧ _ = nI (if d = tD T then (_, _, _) else T.2.2.1 d).2.2
    by_cases q : d = tD T
    · subst q
      simp (disch := omega) only [sg, if_neg, if_pos]
      exact ⟨rfl, rfl, rfl⟩
    · simp (disch := omega) only [sg, if_neg]
      exact hd d (by omega)
  · simp (disch := omega) only [sg, if_neg]
    exact hi i h1
  · simp (disch := omega) only [sg, if_neg]
    exact hu u h1
theorem putUse_eq (hC : CF μ a T) (hU : tU T < 30) (s n : Nat) : ∃ ν, X0_putUse a (nI s) (nI n) μ = some (nI (tU T), ν) ∧ CF ν a (addU T (s, n)) ∧ fr (isRw a) μ ν := by
  obtain ⟨⟨c1, c2, c3, c4⟩, hs, hd, hi, hu⟩ := hC
  refine ⟨setI (setI (setI μ (a + 11) (tU T) (nI s)) (a + 12) (tU T) (nI n)) a 13 (nI (tU T + 1)), ?_, ⟨⟨?_, ?_, ?_, ?_⟩, fun s h1 => ?_, fun d h1 => ?_, fun i h1 => ?_, fun u h1 => ?_⟩, fr_setI (fr_setI (fr_setI fr_refl (by unfold isRw; omega)) (by unfold isRw; omega)) (by unfold isRw; omega)⟩
  · unfold X0_putUse
    simp (disch := omega) only [bd_eq, sg, if_neg, c4, ck_nI, nI_clamp, nI_1]
  · simp (disch := omega) only [sg, if_neg]; exact c1
  · simp (disch := omega) only [sg, if_neg]; exact c2
  · simp (disch := omega) only [sg, if_neg]; exact c3
  · rw [sg, if_pos ⟨rfl, rfl⟩]; rfl
  · simp (disch := omega) only [sg, if_neg]; exact hs s h1
  · simp (disch := omega) only [sg, if_neg]
    exact hd d h1
  · simp (disch := omega) only [sg, if_neg]
    exact hi i h1
  · have h2 : u < tU T + 1 := h1
    show _ = nI (if u = tU T then (_, _) else T.2.2.2.2 u).1 ∧ _ = nI (if u = tU T then (_, _) else T.2.2.2.2 u).2
    by_cases q : u = tU T
    · subst q
      simp (disch := omega) only [sg, if_neg, if_pos]
      exact ⟨rfl, rfl⟩
    · simp (disch := omega) only [sg, if_neg]
      exact hu u (by omega)
theorem putImport_eq (hC : CF μ a T) (hI : tI T < 20) (r : RwI) : ∃ ν, X0_putImport a (nI r.1) (nI r.2.1) (enc r.2.2.1) (enc r.2.2.2.1) (nI r.2.2.2.2.1) (nI r.2.2.2.2.2) μ = some (nI (tI T), ν) ∧ CF ν a (addI T r) ∧ fr (isRw a) μ ν := by
  obtain ⟨⟨c1, c2, c3, c4⟩, hs, hd, hi, hu⟩ := hC
  refine ⟨setI (setI (setI (setI (setI (setI (setI μ (a + 5) (tI T) (nI r.1)) (a + 6) (tI T) (nI r.2.1)) (a + 7) (tI T) (enc r.2.2.1)) (a + 8) (tI T) (enc r.2.2.2.1)) (a + 9) (tI T) (nI r.2.2.2.2.1)) (a + 10) (tI T) (nI r.2.2.2.2.2)) a 6 (nI (tI T + 1)), ?_, ⟨⟨?_, ?_, ?_, ?_⟩, fun s h1 => ?_, fun d h1 => ?_, fun i h1 => ?_, fun u h1 => ?_⟩, fr_setI (fr_setI (fr_setI (fr_setI (fr_setI (fr_setI (fr_setI fr_refl (by unfold isRw; omega)) (by unfold isRw; omega)) (by unfold isRw; omega)) (by unfold isRw; omega)) (by unfold isRw; omega)) (by unfold isRw; omega)) (by unfold isRw; omega)⟩
  · unfold X0_putImport
    simp (disch := omega) only [bd_eq, sg, if_neg, c3, ck_nI, nI_clamp, nI_1]
  · simp (disch := omega) only [sg, if_neg]; exact c1
  · simp (disch := omega) only [sg, if_neg]; exact c2
  · rw [sg, if_pos ⟨rfl, rfl⟩]; rfl
  · simp (disch := omega) only [sg, if_neg]; exact c4
  · simp (disch := omega) only [sg, if_neg]; exact hs s h1
  · simp (disch := omega) only [sg, if_neg]
    exact hd d h1
  · have h2 : i < tI T + 1 := h1
    have e : (addI T r).2.2.2.1 i = if i = tI T then r else T.2.2.2.1 i := rfl
    unfold iTo iFr iSr iLo iEx iPs
    rw [e]
    by_cases q : i = tI T
    · subst q
      simp (disch := omega) only [sg, if_neg, if_pos]
      exact ⟨rfl, rfl, rfl, rfl, rfl, rfl⟩
    · simp (disch := omega) only [sg, if_neg]
      exact hi i (by omega)
  · simp (disch := omega) only [sg, if_neg]
    exact hu u h1
theorem reset_eq (hV : VT T) (hC : CF μ a T) : ∃ ν, X0_reset a μ = some ν ∧ CF ν a (reT T) ∧ fr (isRw a) μ ν := by
  obtain ⟨⟨c1, c2, c3, c4⟩, hs, hd, hi, hu⟩ := hC
  refine ⟨setI (setI (setI (setI μ a 0 1) a 2 0) a 6 0) a 13 0, rfl, ⟨⟨?_, ?_, ?_, ?_⟩, fun s h1 => ?_, fun d h1 => ?_, fun i h1 => ?_, fun u h1 => ?_⟩, fr_setI (fr_setI (fr_setI (fr_setI fr_refl (by unfold isRw; omega)) (by unfold isRw; omega)) (by unfold isRw; omega)) (by unfold isRw; omega)⟩
  · simp (disch := omega) only [sg, if_neg, if_pos]; rfl
  · simp (disch := omega) only [sg, if_neg, if_pos]; rfl
  · simp (disch := omega) only [sg, if_neg, if_pos]; rfl
  · simp (disch := omega) only [sg, if_neg, if_pos]; rfl
  · have h2 : s < 1 := h1
    simp (disch := omega) only [sg, if_neg]
    exact hs s (Nat.lt_of_lt_of_le h2 hV.1.1)
  · exact absurd h1 (Nat.not_lt_zero _)
  · exact absurd h1 (Nat.not_lt_zero _)
  · exact absurd h1 (Nat.not_lt_zero _)
theorem closeGap_eq {p k N L : Nat} (hL : alen p = L) (hL2 : L < 9000) (hk : k < N) (hN : N ≤ L) (μ : Mm) : ∃ ν, X0_closeGap p (nI k) (nI N) μ = some ν ∧ (∀ j, j + 1 < N → ν.1 p j = shf (μ.1 p) k j) ∧ (∀ q, q ≠ p → ν.1 q = μ.1 q) ∧ ν.2 = μ.2 := by
  refine ⟨setA μ p (va_cpy (μ.1 p) (μ.1 p) (k + 1) k (N - k - 1)), ?_, fun j hj => ?_, fun q hq => ?_, rfl⟩
  · unfold X0_closeGap
    rw [nI_1, nI_sb (by omega), show (1 : Int32) = nI 1 from rfl, nI_sb (by omega), hL]
    unfold cg
    rw [nI_clamp (by omega), nI_clamp (by omega), nI_clamp (by omega), if_pos]
    · rfl
    · refine ⟨?_, ?_, ?_, by omega, by omega⟩
      · rw [lit_n 0, lt_n (by omega) (by decide)]; omega
      · rw [lit_n 0, lt_n (by omega) (by decide)]; omega
      · rw [lit_n 0, lt_n (by omega) (by decide)]; omega
  · rw [setA_at, if_pos rfl]
    unfold va_cpy shf
    by_cases q : j < k
    · rw [if_neg (by omega), if_pos q]
    · rw [if_pos (by omega), if_neg q, show k + 1 + (j - k) = j + 1 by omega]
  · rw [setA_at, if_neg hq]
theorem alR {a : Nat} (h : isF a) : alen (a + 2) = 30 ∧ alen (a + 3) = 30 ∧ alen (a + 4) = 30 ∧ alen (a + 5) = 20 ∧ alen (a + 6) = 20 ∧ alen (a + 7) = 20 ∧ alen (a + 8) = 20 ∧ alen (a + 9) = 20 ∧ alen (a + 10) = 20 ∧ alen (a + 11) = 30 ∧ alen (a + 12) = 30 := by
  rcases h with rfl | rfl <;> decide
theorem shf_nI {α : Type} (f : Nat → Int32) (g : Nat → α) (h : α → Int32) {N k j : Nat} (e : ∀ i, i < N → f i = h (g i)) (hj : j + 1 < N) : shf f k j = h (shf g k j) := by
  unfold shf
  by_cases q : j < k
  · rw [if_pos q, if_pos q]; exact e j (by omega)
  · rw [if_neg q, if_neg q]; exact e (j + 1) hj
theorem dropUse_eq (ha : isF a) (hV : VT T) (hC : CF μ a T) {u : Nat} (hu : u < tU T) : ∃ ν, X0_dropUse a (nI u) μ = some ν ∧ CF ν a (delU T u) ∧ fr (isRw a) μ ν := by
  have hU := hV.2.2.2.1
  obtain ⟨-, -, -, -, -, -, -, -, -, l11, l12⟩ := alR ha
  obtain ⟨⟨c1, c2, c3, c4⟩, hs, hd, hi, huu⟩ := hC
  obtain ⟨ν1, e1, r1, k1, m1⟩ := closeGap_eq l11 (by decide) hu hU μ
  obtain ⟨ν2, e2, r2, k2, m2⟩ := closeGap_eq l12 (by decide) hu hU ν1
  refine ⟨setI ν2 a 13 (nI (tU T - 1)), ?_, ⟨⟨?_, ?_, ?_, ?_⟩, fun s h1 => ?_, fun d h1 => ?_, fun i h1 => ?_, fun v h1 => ?_⟩, ?_⟩
  · unfold X0_dropUse
    rw [c4, e1, bi_eq, k1 _ (by omega), c4, e2, bi_eq, k2 _ (by omega), k1 _ (by omega), c4, show (1 : Int32) = nI 1 from rfl, nI_sb (by omega)]
    rfl
  · simp (disch := omega) only [sg, if_neg, k2, k1]; exact c1
  · simp (disch := omega) only [sg, if_neg, k2, k1]; exact c2
  · simp (disch := omega) only [sg, if_neg, k2, k1]; exact c3
  · rw [sg, if_pos ⟨rfl, rfl⟩]; rfl
  · simp (disch := omega) only [sg, if_neg, k2, k1]; exact hs s h1
  · simp (disch := omega) only [sg, if_neg, k2, k1]; exact hd d h1
  · simp (disch := omega) only [sg, if_neg, k2, k1]; exact hi i h1
  · have h2 : v < tU T - 1 := h1
    simp (disch := omega) only [sg, if_neg, k2]
    rw [r1 v (by omega), r2 v (by omega), k1 _ (by omega)]
    exact ⟨shf_nI _ T.2.2.2.2 (fun z => nI z.1) (fun i h => (huu i h).1) (by omega), shf_nI _ T.2.2.2.2 (fun z => nI z.2) (fun i h => (huu i h).2) (by omega)⟩
  · exact fr_setI ⟨by rw [m2, m1], fun p hp => by unfold isRw at hp; rw [k2 _ (by omega), k1 _ (by omega)]⟩ (by unfold isRw; omega)
theorem dropDeclaration_eq (ha : isF a) (hV : VT T) (hC : CF μ a T) {u : Nat} (hu : u < tD T) : ∃ ν, X0_dropDeclaration a (nI u) μ = some ν ∧ CF ν a (delD T u) ∧ fr (isRw a) μ ν := by
  have hU := hV.2.1.1
  obtain ⟨l1, l2, l3, -⟩ := alR ha
  obtain ⟨⟨c1, c2, c3, c4⟩, hs, hd, hi, huu⟩ := hC
  obtain ⟨ν1, e1, r1, k1, m1⟩ := closeGap_eq l1 (by decide) hu hU μ
  obtain ⟨ν2, e2, r2, k2, m2⟩ := closeGap_eq l2 (by decide) hu hU ν1
  obtain ⟨ν3, e3, r3, k3, m3⟩ := closeGap_eq l3 (by decide) hu hU ν2
  refine ⟨setI ν3 a 2 (nI (tD T - 1)), ?_, ⟨⟨?_, ?_, ?_, ?_⟩, fun s h1 => ?_, fun d h1 => ?_, fun i h1 => ?_, fun v h1 => ?_⟩, ?_⟩
  · unfold X0_dropDeclaration
    rw [c2, e1, bi_eq, k1 _ (by omega), c2, e2, bi_eq, k2 _ (by omega), k1 _ (by omega), c2, e3, bi_eq, k3 _ (by omega), k2 _ (by omega), k1 _ (by omega), c2, show (1 : Int32) = nI 1 from rfl, nI_sb (by omega)]
    rfl
  · simp (disch := omega) only [sg, if_neg, k3, k2, k1]; exact c1
  · rw [sg, if_pos ⟨rfl, rfl⟩]; rfl
  · simp (disch := omega) only [sg, if_neg, k3, k2, k1]; exact c3
  · simp (disch := omega) only [sg, if_neg, k3, k2, k1]; exact c4
  · simp (disch := omega) only [sg, if_neg, k3, k2, k1]; exact hs s h1
  · have h2 : d < tD T - 1 := h1
    simp (disch := omega) only [sg, if_neg, k3, k2]
    rw [r1 d (by omega), r2 d (by omega), r3 d (by omega), k2 _ (by omega), k1 _ (by omega), k1 _ (by omega)]
    exact ⟨shf_nI _ T.2.2.1 (fun z => nI z.1) (fun i h => (hd i h).1) (by omega), shf_nI _ T.2.2.1 (fun z => nI z.2.1) (fun i h => (hd i h).2.1) (by omega), shf_nI _ T.2.2.1 (fun z => nI z.2.2) (fun i h => (hd i h).2.2) (by omega)⟩
  · simp (disch := omega) only [sg, if_neg, k3, k2, k1]; exact hi i h1
  · simp (disch := omega) only [sg, if_neg, k3, k2, k1]; exact huu v h1
  · exact fr_setI ⟨by rw [m3, m2, m1], fun p hp => by unfold isRw at hp; rw [k3 _ (by omega), k2 _ (by omega), k1 _ (by omega)]⟩ (by unfold isRw; omega)
theorem dropImport_eq (ha : isF a) (hV : VT T) (hC : CF μ a T) {u : Nat} (hu : u < tI T) : ∃ ν, X0_dropImport a (nI u) μ = some ν ∧ CF ν a (delI T u) ∧ fr (isRw a) μ ν := by
  have hU := hV.2.2.1.1
  obtain ⟨-, -, -, l1, l2, l3, l4, l5, l6, -⟩ := alR ha
  obtain ⟨⟨c1, c2, c3, c4⟩, hs, hd, hi, huu⟩ := hC
  obtain ⟨ν1, e1, r1, k1, m1⟩ := closeGap_eq l1 (by decide) hu hU μ
  obtain ⟨ν2, e2, r2, k2, m2⟩ := closeGap_eq l2 (by decide) hu hU ν1
  obtain ⟨ν3, e3, r3, k3, m3⟩ := closeGap_eq l3 (by decide) hu hU ν2
  obtain ⟨ν4, e4, r4, k4, m4⟩ := closeGap_eq l4 (by decide) hu hU ν3
  obtain ⟨ν5, e5, r5, k5, m5⟩ := closeGap_eq l5 (by decide) hu hU ν4
  obtain ⟨ν6, e6, r6, k6, m6⟩ := closeGap_eq l6 (by decide) hu hU ν5
  have w1 : ν1.1 a 6 = nI (tI T) := by rw [k1 _ (by omega)]; exact c3
  have w2 : ν2.1 a 6 = nI (tI T) := by rw [k2 _ (by omega)]; exact w1
  have w3 : ν3.1 a 6 = nI (tI T) := by rw [k3 _ (by omega)]; exact w2
  have w4 : ν4.1 a 6 = nI (tI T) := by rw [k4 _ (by omega)]; exact w3
  have w5 : ν5.1 a 6 = nI (tI T) := by rw [k5 _ (by omega)]; exact w4
  have w6 : ν6.1 a 6 = nI (tI T) := by rw [k6 _ (by omega)]; exact w5
  refine ⟨setI ν6 a 6 (nI (tI T - 1)), ?_, ⟨⟨?_, ?_, ?_, ?_⟩, fun s h1 => ?_, fun d h1 => ?_, fun i h1 => ?_, fun v h1 => ?_⟩, ?_⟩
  · unfold X0_dropImport
    rw [c3, e1, bi_eq, w1, e2, bi_eq, w2, e3, bi_eq, w3, e4, bi_eq, w4, e5, bi_eq, w5, e6, bi_eq, w6, show (1 : Int32) = nI 1 from rfl, nI_sb (by omega)]
    rfl
  · simp (disch := omega) only [sg, if_neg, k6, k5, k4, k3, k2, k1]; exact c1
  · simp (disch := omega) only [sg, if_neg, k6, k5, k4, k3, k2, k1]; exact c2
  · rw [sg, if_pos ⟨rfl, rfl⟩]; rfl
  · simp (disch := omega) only [sg, if_neg, k6, k5, k4, k3, k2, k1]; exact c4
  · simp (disch := omega) only [sg, if_neg, k6, k5, k4, k3, k2, k1]; exact hs s h1
  · simp (disch := omega) only [sg, if_neg, k6, k5, k4, k3, k2, k1]; exact hd d h1
  · have h2 : i < tI T - 1 := h1
    simp (disch := omega) only [sg, if_neg, k6, k5, k4, k3, k2]
    rw [r1 i (by omega), r2 i (by omega), r3 i (by omega), r4 i (by omega), r5 i (by omega), r6 i (by omega)]
    simp (disch := omega) only [k5, k4, k3, k2, k1]
    exact ⟨shf_nI _ T.2.2.2.1 (fun z => nI z.1) (fun i h => (hi i h).1) (by omega), shf_nI _ T.2.2.2.1 (fun z => nI z.2.1) (fun i h => (hi i h).2.1) (by omega), shf_nI _ T.2.2.2.1 (fun z => enc z.2.2.1) (fun i h => (hi i h).2.2.1) (by omega), shf_nI _ T.2.2.2.1 (fun z => enc z.2.2.2.1) (fun i h => (hi i h).2.2.2.1) (by omega), shf_nI _ T.2.2.2.1 (fun z => nI z.2.2.2.2.1) (fun i h => (hi i h).2.2.2.2.1) (by omega), shf_nI _ T.2.2.2.1 (fun z => nI z.2.2.2.2.2) (fun i h => (hi i h).2.2.2.2.2) (by omega)⟩
  · simp (disch := omega) only [sg, if_neg, k6, k5, k4, k3, k2, k1]; exact huu v h1
  · exact fr_setI ⟨by rw [m6, m5, m4, m3, m2, m1], fun p hp => by unfold isRw at hp; rw [k6 _ (by omega), k5 _ (by omega), k4 _ (by omega), k3 _ (by omega), k2 _ (by omega), k1 _ (by omega)]⟩ (by unfold isRw; omega)
end PUT
