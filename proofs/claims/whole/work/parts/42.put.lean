/-! ===== adding, removing, copying: what becomes of the facts ===== -/
def pt {α : Type} (f : Nat → α) (k : Nat) (v : α) : Nat → α := fun j => if j = k then v else f j
def shf {α : Type} (f : Nat → α) (k : Nat) : Nat → α := fun j => if j < k then f j else f (j + 1)
theorem pt_at {α : Type} (f : Nat → α) (k : Nat) (v : α) : pt f k v k = v := if_pos rfl
theorem pt_ne {α : Type} (f : Nat → α) {k j : Nat} (v : α) (h : j ≠ k) : pt f k v j = f j := if_neg h
abbrev RwI : Type := Nat × Nat × Option Nat × Option Nat × Nat × Nat
def T0 : TT := ((1, 0, 0, 0), (fun _ => none), (fun _ => (0, 0, 0)), (fun _ => (0, 0, none, none, 0, 0)), fun _ => (0, 0))
def addS (T : TT) (p : Nat) : TT := ((tS T + 1, tD T, tI T, tU T), pt T.2.1 (tS T) (some p), T.2.2.1, T.2.2.2.1, T.2.2.2.2)
def addD (T : TT) (r : Nat × Nat × Nat) : TT := ((tS T, tD T + 1, tI T, tU T), T.2.1, pt T.2.2.1 (tD T) r, T.2.2.2.1, T.2.2.2.2)
def addI (T : TT) (r : RwI) : TT := ((tS T, tD T, tI T + 1, tU T), T.2.1, T.2.2.1, pt T.2.2.2.1 (tI T) r, T.2.2.2.2)
def addU (T : TT) (r : Nat × Nat) : TT := ((tS T, tD T, tI T, tU T + 1), T.2.1, T.2.2.1, T.2.2.2.1, pt T.2.2.2.2 (tU T) r)
def delD (T : TT) (d : Nat) : TT := ((tS T, tD T - 1, tI T, tU T), T.2.1, shf T.2.2.1 d, T.2.2.2.1, T.2.2.2.2)
def delI (T : TT) (i : Nat) : TT := ((tS T, tD T, tI T - 1, tU T), T.2.1, T.2.2.1, shf T.2.2.2.1 i, T.2.2.2.2)
def delU (T : TT) (u : Nat) : TT := ((tS T, tD T, tI T, tU T - 1), T.2.1, T.2.2.1, T.2.2.2.1, shf T.2.2.2.2 u)
def reT (T : TT) : TT := ((1, 0, 0, 0), T.2)
theorem VT_reT {T : TT} (h : VT T) : VT (reT T) := by
  refine ⟨⟨Nat.le_refl _, (by decide : 1 ≤ 16), h.1.2.2.1, fun s h1 h2 => ?_⟩, ⟨Nat.zero_le _, fun d hd => ?_, fun d e hd => ?_⟩, ⟨Nat.zero_le _, fun i hi => ?_⟩, ⟨Nat.zero_le _, fun u hu => ?_⟩⟩
  · have h3 : s < 1 := h2
    omega
  · exact absurd hd (Nat.not_lt_zero _)
  · exact absurd hd (Nat.not_lt_zero _)
  · exact absurd hi (Nat.not_lt_zero _)
  · exact absurd hu (Nat.not_lt_zero _)
theorem VT_addS {T : TT} (h : VT T) {p : Nat} (hp : p < tS T) (hS : tS T < 16) : VT (addS T p) := by
  obtain ⟨⟨s1, s2, s3, s4⟩, ⟨d1, d2, d3⟩, ⟨i1, i2⟩, u1, u2⟩ := h
  refine ⟨⟨Nat.le_add_left _ _, (by show tS T + 1 ≤ 16; omega), ?_, fun s h1 h2 => ?_⟩, ⟨d1, fun d hd => ⟨Nat.lt_succ_of_lt (d2 d hd).1, (d2 d hd).2⟩, d3⟩, ⟨i1, fun i hi => ?_⟩, ⟨u1, fun u hu => ⟨Nat.lt_succ_of_lt (u2 u hu).1, (u2 u hu).2⟩⟩⟩
  · show pt T.2.1 (tS T) (some p) 0 = none
    rw [pt_ne _ _ (by omega)]
    exact s3
  · have h2' : s < tS T + 1 := h2
    show ∃ q, q < s ∧ pt T.2.1 (tS T) (some p) s = some q
    by_cases e : s = tS T
    · subst e
      exact ⟨p, hp, pt_at _ _ _⟩
    · rw [pt_ne _ _ e]
      exact s4 s h1 (by omega)
  · obtain ⟨v1, v2, v3⟩ := i2 i hi
    exact ⟨Nat.lt_succ_of_lt v1, Nat.lt_succ_of_lt v2, v3⟩
theorem VT_addD {T : TT} (h : VT T) {s n p : Nat} (hs : s < tS T) (hn : n < 26) (hp : p ≤ 1) (hno : dOf T s n = none) (hD : tD T < 30) : VT (addD T (s, n, p)) := by
  obtain ⟨h1, ⟨d1, d2, d3⟩, h3, h4⟩ := h
  have hno' := dOf_none.mp hno
  have ac : ∀ d, (addD T (s, n, p)).2.2.1 d = if d = tD T then (s, n, p) else T.2.2.1 d := fun d => rfl
  refine ⟨h1, ⟨(by show tD T + 1 ≤ 30; omega), fun d hd => ?_, fun d e hd he => ?_⟩, h3, h4⟩
  · have hd' : d < tD T + 1 := hd
    show ((addD T (s, n, p)).2.2.1 d).1 < tS T ∧ ((addD T (s, n, p)).2.2.1 d).2.1 < 26 ∧ ((addD T (s, n, p)).2.2.1 d).2.2 ≤ 1
    rw [ac]
    by_cases q : d = tD T
    · rw [if_pos q]; exact ⟨hs, hn, hp⟩
    · rw [if_neg q]; exact d2 d (by omega)
  · have hd' : d < tD T + 1 := hd
    have he' : e < tD T + 1 := he
    show ((addD T (s, n, p)).2.2.1 d).1 = ((addD T (s, n, p)).2.2.1 e).1 → ((addD T (s, n, p)).2.2.1 d).2.1 = ((addD T (s, n, p)).2.2.1 e).2.1 → d = e
    rw [ac, ac]
    by_cases q : d = tD T
    · by_cases q2 : e = tD T
      · intro _ _; omega
      · rw [if_pos q, if_neg q2]
        intro z1 z2
        exact absurd ⟨z1.symm, z2.symm⟩ (hno' e (by omega))
    · by_cases q2 : e = tD T
      · rw [if_neg q, if_pos q2]
        intro z1 z2
        exact absurd ⟨z1, z2⟩ (hno' d (by omega))
      · rw [if_neg q, if_neg q2]
        exact d3 d e (by omega) (by omega)
/-- a row of an import that may stand -/
def okI (T : TT) (r : RwI) : Prop := r.1 < tS T ∧ r.2.1 < tS T ∧ r.1 ≠ r.2.1 ∧ r.2.2.2.2.2 ≤ 1 ∧ ((r.2.2.1 = none ∧ r.2.2.2.1 = none ∧ r.2.2.2.2.1 < 2 ^ 26) ∨ ∃ a b, a < 26 ∧ b < 26 ∧ r.2.2.1 = some a ∧ r.2.2.2.1 = some b ∧ r.2.2.2.2.1 = 0)
theorem VT_addI {T : TT} (h : VT T) {r : RwI} (hr : okI T r) (hI : tI T < 20) : VT (addI T r) := by
  obtain ⟨h1, h2, ⟨i1, i2⟩, h4⟩ := h
  refine ⟨h1, h2, ⟨(by show tI T + 1 ≤ 20; omega), fun i hi => ?_⟩, h4⟩
  have hi' : i < tI T + 1 := hi
  have ac : (addI T r).2.2.2.1 i = if i = tI T then r else T.2.2.2.1 i := rfl
  show okI T ((addI T r).2.2.2.1 i)
  rw [ac]
  by_cases q : i = tI T
  · rw [if_pos q]; exact hr
  · rw [if_neg q]; exact i2 i (by omega)
theorem VT_addU {T : TT} (h : VT T) {s n : Nat} (hs : s < tS T) (hn : n < 26) (hU : tU T < 30) : VT (addU T (s, n)) := by
  obtain ⟨h1, h2, h3, u1, u2⟩ := h
  refine ⟨h1, h2, h3, (by show tU T + 1 ≤ 30; omega), fun u hu => ?_⟩
  have hu' : u < tU T + 1 := hu
  have ac : (addU T (s, n)).2.2.2.2 u = if u = tU T then (s, n) else T.2.2.2.2 u := rfl
  show ((addU T (s, n)).2.2.2.2 u).1 < tS T ∧ ((addU T (s, n)).2.2.2.2 u).2 < 26
  rw [ac]
  by_cases q : u = tU T
  · rw [if_pos q]; exact ⟨hs, hn⟩
  · rw [if_neg q]; exact u2 u (by omega)
theorem shf_ex {α : Type} (f : Nat → α) (k j : Nat) : ∃ i, shf f k j = f i ∧ (i = j ∨ i = j + 1) ∧ (j < k → i = j) ∧ (k ≤ j → i = j + 1) := by
  unfold shf
  by_cases q : j < k
  · rw [if_pos q]; exact ⟨j, rfl, Or.inl rfl, fun _ => rfl, fun h => by omega⟩
  · rw [if_neg q]; exact ⟨j + 1, rfl, Or.inr rfl, fun h => by omega, fun _ => rfl⟩
theorem VT_delD {T : TT} (h : VT T) {d : Nat} (hd : d < tD T) : VT (delD T d) := by
  obtain ⟨h1, ⟨d1, d2, d3⟩, h3, h4⟩ := h
  refine ⟨h1, ⟨Nat.le_trans (Nat.sub_le _ _) d1, fun e he => ?_, fun e e' he he' => ?_⟩, h3, h4⟩
  · have he' : e < tD T - 1 := he
    show (shf T.2.2.1 d e).1 < tS T ∧ (shf T.2.2.1 d e).2.1 < 26 ∧ (shf T.2.2.1 d e).2.2 ≤ 1
    obtain ⟨i, hi, hi2, -⟩ := shf_ex T.2.2.1 d e
    rw [hi]
    exact d2 i (by omega)
  · have he1 : e < tD T - 1 := he
    have he2 : e' < tD T - 1 := he'
    show (shf T.2.2.1 d e).1 = (shf T.2.2.1 d e').1 → (shf T.2.2.1 d e).2.1 = (shf T.2.2.1 d e').2.1 → e = e'
    obtain ⟨i, hi, hi2, hi3, hi4⟩ := shf_ex T.2.2.1 d e
    obtain ⟨j, hj, hj2, hj3, hj4⟩ := shf_ex T.2.2.1 d e'
    rw [hi, hj]
    intro z1 z2
    have := d3 i j (by omega) (by omega) z1 z2
    omega
theorem VT_delI {T : TT} (h : VT T) {d : Nat} (hd : d < tI T) : VT (delI T d) := by
  obtain ⟨h1, h2, ⟨i1, i2⟩, h4⟩ := h
  refine ⟨h1, h2, ⟨Nat.le_trans (Nat.sub_le _ _) i1, fun e he => ?_⟩, h4⟩
  have he' : e < tI T - 1 := he
  show okI T (shf T.2.2.2.1 d e)
  obtain ⟨i, hi, hi2, -⟩ := shf_ex T.2.2.2.1 d e
  rw [hi]
  exact i2 i (by omega)
theorem VT_delU {T : TT} (h : VT T) {d : Nat} (hd : d < tU T) : VT (delU T d) := by
  obtain ⟨h1, h2, h3, u1, u2⟩ := h
  refine ⟨h1, h2, h3, Nat.le_trans (Nat.sub_le _ _) u1, fun e he => ?_⟩
  have he' : e < tU T - 1 := he
  show (shf T.2.2.2.2 d e).1 < tS T ∧ (shf T.2.2.2.2 d e).2 < 26
  obtain ⟨i, hi, hi2, -⟩ := shf_ex T.2.2.2.2 d e
  rw [hi]
  exact u2 i (by omega)
/-! the component's rows -/
theorem sg (μ : Mm) (a k : Nat) (v : Int32) (p j : Nat) : (setI μ a k v).1 p j = if p = a ∧ j = k then v else μ.1 p j := by
  by_cases h : p = a
  · subst h
    rw [setI_at]
    by_cases q : j = k
    · rw [if_pos q, if_pos ⟨rfl, q⟩]
    · rw [if_neg q, if_neg (fun z => q z.2)]
  · rw [setI_n _ _ _ h, if_neg (fun z => h z.1)]
def isRw (a p : Nat) : Prop := a ≤ p ∧ p ≤ a + 12
section PUT
variable {μ : Mm} {a : Nat} {T : TT}
theorem putScope_eq (hC : CF μ a T) (hS : tS T < 16) (p : Nat) : ∃ ν, X0_putScope a (nI p) μ = some (nI (tS T), ν) ∧ CF ν a (addS T p) ∧ fr (isRw a) μ ν := by
  obtain ⟨⟨c1, c2, c3, c4⟩, hs, hd, hi, hu⟩ := hC
  refine ⟨setI (setI μ (a + 1) (tS T) (nI p)) a 0 (nI (tS T + 1)), ?_, ⟨⟨?_, ?_, ?_, ?_⟩, fun s h1 => ?_, fun d h1 => ?_, fun i h1 => ?_, fun u h1 => ?_⟩, fr_setI (fr_setI fr_refl (by unfold isRw; omega)) (by unfold isRw; omega)⟩
  · unfold X0_putScope
    rw [c1, ck_nI (by omega) (by decide), nI_clamp (by omega), bd_eq, sg, if_neg (by omega), c1, bd_eq, nI_1]
  · rw [sg, if_pos ⟨rfl, rfl⟩]; rfl
  · rw [sg, if_neg (by omega), sg, if_neg (by omega)]; exact c2
  · rw [sg, if_neg (by omega), sg, if_neg (by omega)]; exact c3
  · rw [sg, if_neg (by omega), sg, if_neg (by omega)]; exact c4
  · have h2 : s < tS T + 1 := h1
    rw [sg, if_neg (by omega), sg]
    show _ = enc (if s = tS T then some p else tPar T s)
    by_cases q : s = tS T
    · rw [if_pos ⟨rfl, q⟩, if_pos q]; rfl
    · rw [if_neg (fun z => q z.2), if_neg q]; exact hs s (by omega)
  · simp (disch := omega) only [sg, if_neg]
    exact hd d h1
  · simp (disch := omega) only [sg, if_neg]
    exact hi i h1
  · simp (disch := omega) only [sg, if_neg]
    exact hu u h1
end PUT
