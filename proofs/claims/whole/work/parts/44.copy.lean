/-! ===== copying, refusals, renaming ===== -/
theorem cpI {β : Type} (ν : Mm) (a0 f : Nat) (v : Int32) : ∃ ν', (∀ k : Mm → Option β, bd (setI ν a0 f v) k = k ν') ∧ (ν'.1 a0 f = v ∧ (∀ j, j ≠ f → ν'.1 a0 j = ν.1 a0 j) ∧ (∀ q, q ≠ a0 → ν'.1 q = ν.1 q) ∧ ν'.2 = ν.2) :=
  ⟨setI ν a0 f v, fun _ => rfl, setI_same _ _ _ _, fun j h => setI_ne _ _ _ _ h, fun q h => setI_n _ _ _ h, rfl⟩
theorem cpA {β : Type} (ν : Mm) (p0 : Nat) (f : Nat → Int32) {w : Int32} {N L : Nat} (hw : w = nI N) (hN : N ≤ L) (hL : L < 9000) : ∃ ν', (∀ k : Mm → Option β, cg 0 0 w L L (bd (setA ν p0 (va_cpy f (ν.1 p0) (0 : Int32).toNatClampNeg (0 : Int32).toNatClampNeg w.toNatClampNeg)) k) = k ν') ∧ (∀ j, j < N → ν'.1 p0 j = f j) ∧ (∀ q, q ≠ p0 → ν'.1 q = ν.1 q) ∧ ν'.2 = ν.2 := by
  subst hw
  refine ⟨setA ν p0 (va_cpy f (ν.1 p0) 0 0 N), fun k => ?_, fun j hj => ?_, fun q hq => ?_, rfl⟩
  · unfold cg
    rw [nI_clamp (by omega), show (0 : Int32).toNatClampNeg = 0 from rfl, if_pos]
    · rfl
    · refine ⟨by decide, by decide, ?_, by omega, by omega⟩
      rw [lit_n 0, lt_n (by omega) (by decide)]
      omega
  · rw [setA_at, if_pos rfl]
    unfold va_cpy
    rw [if_pos (by omega), Nat.zero_add, Nat.sub_zero]
  · rw [setA_at, if_neg hq]
theorem copyFrom_eq {μ : Mm} {a0 a1 : Nat} {T : TT} (hd : a0 + 21 ≤ a1 ∨ a1 + 21 ≤ a0) (hV : VT T) (hC : CF μ a1 T) : ∃ ν, X0_copyFrom a0 a1 μ = some ν ∧ CF ν a0 T ∧ fr (isRw a0) μ ν := by
  obtain ⟨⟨c1, c2, c3, c4⟩, hs, hdd, hi, hu⟩ := hC
  have hS := hV.1.2.1
  have hD := hV.2.1.1
  have hI := hV.2.2.1.1
  have hU := hV.2.2.2.1
  obtain ⟨ν1, e1, n1, o1, k1, m1⟩ := cpI (β := Mm) μ a0 0 (μ.1 a1 0)
  have w1 : ν1.1 a0 0 = nI (tS T) := by rw [n1]; exact c1
  obtain ⟨ν2, e2, n2, k2, m2⟩ := cpA (β := Mm) ν1 (a0 + 1) (ν1.1 (a1 + 1)) w1 (L := 16) (by omega) (by decide)
  have w2 : ν2.1 a0 0 = nI (tS T) := by rw [k2 _ (by omega)]; exact w1
  obtain ⟨ν3, e3, n3, o3, k3, m3⟩ := cpI (β := Mm) ν2 a0 2 (ν2.1 a1 2)
  have w3 : ν3.1 a0 2 = nI (tD T) := by rw [n3]; simp (disch := omega) only [k2, k1]; exact c2
  obtain ⟨ν4, e4, n4, k4, m4⟩ := cpA (β := Mm) ν3 (a0 + 2) (ν3.1 (a1 + 2)) w3 (L := 30) (by omega) (by decide)
  have w4 : ν4.1 a0 2 = nI (tD T) := by rw [k4 _ (by omega)]; exact w3
  obtain ⟨ν5, e5, n5, k5, m5⟩ := cpA (β := Mm) ν4 (a0 + 3) (ν4.1 (a1 + 3)) w4 (L := 30) (by omega) (by decide)
  have w5 : ν5.1 a0 2 = nI (tD T) := by rw [k5 _ (by omega)]; exact w4
  obtain ⟨ν6, e6, n6, k6, m6⟩ := cpA (β := Mm) ν5 (a0 + 4) (ν5.1 (a1 + 4)) w5 (L := 30) (by omega) (by decide)
  have w6 : ν6.1 a0 2 = nI (tD T) := by rw [k6 _ (by omega)]; exact w5
  obtain ⟨ν7, e7, n7, o7, k7, m7⟩ := cpI (β := Mm) ν6 a0 6 (ν6.1 a1 6)
  have w7 : ν7.1 a0 6 = nI (tI T) := by rw [n7]; simp (disch := omega) only [k6, k5, k4, k3, k2, k1]; exact c3
  obtain ⟨ν8, e8, n8, k8, m8⟩ := cpA (β := Mm) ν7 (a0 + 5) (ν7.1 (a1 + 5)) w7 (L := 20) (by omega) (by decide)
  have w8 : ν8.1 a0 6 = nI (tI T) := by rw [k8 _ (by omega)]; exact w7
  obtain ⟨ν9, e9, n9, k9, m9⟩ := cpA (β := Mm) ν8 (a0 + 6) (ν8.1 (a1 + 6)) w8 (L := 20) (by omega) (by decide)
  have w9 : ν9.1 a0 6 = nI (tI T) := by rw [k9 _ (by omega)]; exact w8
  obtain ⟨ν10, e10, n10, k10, m10⟩ := cpA (β := Mm) ν9 (a0 + 7) (ν9.1 (a1 + 7)) w9 (L := 20) (by omega) (by decide)
  have w10 : ν10.1 a0 6 = nI (tI T) := by rw [k10 _ (by omega)]; exact w9
  obtain ⟨ν11, e11, n11, k11, m11⟩ := cpA (β := Mm) ν10 (a0 + 8) (ν10.1 (a1 + 8)) w10 (L := 20) (by omega) (by decide)
  have w11 : ν11.1 a0 6 = nI (tI T) := by rw [k11 _ (by omega)]; exact w10
  obtain ⟨ν12, e12, n12, k12, m12⟩ := cpA (β := Mm) ν11 (a0 + 9) (ν11.1 (a1 + 9)) w11 (L := 20) (by omega) (by decide)
  have w12 : ν12.1 a0 6 = nI (tI T) := by rw [k12 _ (by omega)]; exact w11
  obtain ⟨ν13, e13, n13, k13, m13⟩ := cpA (β := Mm) ν12 (a0 + 10) (ν12.1 (a1 + 10)) w12 (L := 20) (by omega) (by decide)
  have w13 : ν13.1 a0 6 = nI (tI T) := by rw [k13 _ (by omega)]; exact w12
  obtain ⟨ν14, e14, n14, o14, k14, m14⟩ := cpI (β := Mm) ν13 a0 13 (ν13.1 a1 13)
  have w14 : ν14.1 a0 13 = nI (tU T) := by rw [n14]; simp (disch := omega) only [k13, k12, k11, k10, k9, k8, k7, k6, k5, k4, k3, k2, k1]; exact c4
  obtain ⟨ν15, e15, n15, k15, m15⟩ := cpA (β := Mm) ν14 (a0 + 11) (ν14.1 (a1 + 11)) w14 (L := 30) (by omega) (by decide)
  have w15 : ν15.1 a0 13 = nI (tU T) := by rw [k15 _ (by omega)]; exact w14
  obtain ⟨ν16, e16, n16, k16, m16⟩ := cpA (β := Mm) ν15 (a0 + 12) (ν15.1 (a1 + 12)) w15 (L := 30) (by omega) (by decide)
  have w16 : ν16.1 a0 13 = nI (tU T) := by rw [k16 _ (by omega)]; exact w15
  refine ⟨ν16, ?_, ⟨⟨?_, ?_, ?_, ?_⟩, fun s h1 => ?_, fun d h1 => ?_, fun i h1 => ?_, fun u h1 => ?_⟩, ?_, fun p hp => ?_⟩
  · unfold X0_copyFrom
    rw [e1, e2, e3, e4, e5, e6, e7, e8, e9, e10, e11, e12, e13, e14, e15, e16]
  · have z := w1
    simp (disch := omega) only [k16, k15, k14, k13, k12, k11, k10, k9, k8, k7, k6, k5, k4, k3, k2, k1, o14, o7, o3, o1]
    exact z
  · have z := w3
    simp (disch := omega) only [k16, k15, k14, k13, k12, k11, k10, k9, k8, k7, k6, k5, k4, k3, k2, k1, o14, o7, o3, o1]
    exact z
  · have z := w7
    simp (disch := omega) only [k16, k15, k14, k13, k12, k11, k10, k9, k8, k7, k6, k5, k4, k3, k2, k1, o14, o7, o3, o1]
    exact z
  · have z := w14
    simp (disch := omega) only [k16, k15, k14, k13, k12, k11, k10, k9, k8, k7, k6, k5, k4, k3, k2, k1, o14, o7, o3, o1]
    exact z
  · have z := hs s h1
    have z1 := n2 s h1
    simp (disch := omega) only [k16, k15, k14, k13, k12, k11, k10, k9, k8, k7, k6, k5, k4, k3, k2, k1] at z1
    simp (disch := omega) only [k16, k15, k14, k13, k12, k11, k10, k9, k8, k7, k6, k5, k4, k3, k2, k1]
    rw [z1]
    exact z
  · have z := hdd d h1
    have z2 := n4 d h1
    have z3 := n5 d h1
    have z4 := n6 d h1
    simp (disch := omega) only [k16, k15, k14, k13, k12, k11, k10, k9, k8, k7, k6, k5, k4, k3, k2, k1] at z2 z3 z4
    simp (disch := omega) only [k16, k15, k14, k13, k12, k11, k10, k9, k8, k7, k6, k5, k4, k3, k2, k1]
    rw [z2, z3, z4]
    exact z
  · have z := hi i h1
    have z5 := n8 i h1
    have z6 := n9 i h1
    have z7 := n10 i h1
    have z8 := n11 i h1
    have z9 := n12 i h1
    have z10 := n13 i h1
    simp (disch := omega) only [k16, k15, k14, k13, k12, k11, k10, k9, k8, k7, k6, k5, k4, k3, k2, k1] at z5 z6 z7 z8 z9 z10
    simp (disch := omega) only [k16, k15, k14, k13, k12, k11, k10, k9, k8, k7, k6, k5, k4, k3, k2, k1]
    rw [z5, z6, z7, z8, z9, z10]
    exact z
  · have z := hu u h1
    have z11 := n15 u h1
    have z12 := n16 u h1
    simp (disch := omega) only [k16, k15, k14, k13, k12, k11, k10, k9, k8, k7, k6, k5, k4, k3, k2, k1] at z11 z12
    simp (disch := omega) only [k16, k15, k14, k13, k12, k11, k10, k9, k8, k7, k6, k5, k4, k3, k2, k1]
    rw [z11, z12]
    exact z
  · rw [m16, m15, m14, m13, m12, m11, m10, m9, m8, m7, m6, m5, m4, m3, m2, m1]
  · unfold isRw at hp
    simp (disch := omega) only [k16, k15, k14, k13, k12, k11, k10, k9, k8, k7, k6, k5, k4, k3, k2, k1]
