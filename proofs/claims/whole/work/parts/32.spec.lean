/-! ===== what both sides hold: scopes, declarations, imports, uses ===== -/
abbrev TT : Type := (Nat × Nat × Nat × Nat) × (Nat → Option Nat) × (Nat → Nat × Nat × Nat) × (Nat → Nat × Nat × Option Nat × Option Nat × Nat × Nat) × (Nat → Nat × Nat)
def tS (T : TT) : Nat := T.1.1
def tD (T : TT) : Nat := T.1.2.1
def tI (T : TT) : Nat := T.1.2.2.1
def tU (T : TT) : Nat := T.1.2.2.2
def tPar (T : TT) (s : Nat) : Option Nat := T.2.1 s
def dSc (T : TT) (d : Nat) : Nat := (T.2.2.1 d).1
def dNm (T : TT) (d : Nat) : Nat := (T.2.2.1 d).2.1
def dPb (T : TT) (d : Nat) : Nat := (T.2.2.1 d).2.2
def iTo (T : TT) (i : Nat) : Nat := (T.2.2.2.1 i).1
def iFr (T : TT) (i : Nat) : Nat := (T.2.2.2.1 i).2.1
def iSr (T : TT) (i : Nat) : Option Nat := (T.2.2.2.1 i).2.2.1
def iLo (T : TT) (i : Nat) : Option Nat := (T.2.2.2.1 i).2.2.2.1
def iEx (T : TT) (i : Nat) : Nat := (T.2.2.2.1 i).2.2.2.2.1
def iPs (T : TT) (i : Nat) : Nat := (T.2.2.2.1 i).2.2.2.2.2
def uSc (T : TT) (u : Nat) : Nat := (T.2.2.2.2 u).1
def uNm (T : TT) (u : Nat) : Nat := (T.2.2.2.2 u).2
def VS (T : TT) : Prop := 1 ≤ tS T ∧ tS T ≤ 16 ∧ tPar T 0 = none ∧ ∀ s, 0 < s → s < tS T → ∃ p, p < s ∧ tPar T s = some p
def VD (T : TT) : Prop := tD T ≤ 30 ∧ (∀ d, d < tD T → dSc T d < tS T ∧ dNm T d < 26 ∧ dPb T d ≤ 1) ∧ ∀ d e, d < tD T → e < tD T → dSc T d = dSc T e → dNm T d = dNm T e → d = e
def VI (T : TT) : Prop := tI T ≤ 20 ∧ ∀ i, i < tI T → iTo T i < tS T ∧ iFr T i < tS T ∧ iTo T i ≠ iFr T i ∧ iPs T i ≤ 1 ∧ ((iSr T i = none ∧ iLo T i = none ∧ iEx T i < 2 ^ 26) ∨ ∃ a b, a < 26 ∧ b < 26 ∧ iSr T i = some a ∧ iLo T i = some b ∧ iEx T i = 0)
def VU (T : TT) : Prop := tU T ≤ 30 ∧ ∀ u, u < tU T → uSc T u < tS T ∧ uNm T u < 26
def VT (T : TT) : Prop := VS T ∧ VD T ∧ VI T ∧ VU T
/-- the component's rows at the place a -/
def CF (μ : Mm) (a : Nat) (T : TT) : Prop := (μ.1 a 0 = nI (tS T) ∧ μ.1 a 2 = nI (tD T) ∧ μ.1 a 6 = nI (tI T) ∧ μ.1 a 13 = nI (tU T)) ∧ (∀ s, s < tS T → μ.1 (a + 1) s = enc (tPar T s)) ∧ (∀ d, d < tD T → μ.1 (a + 2) d = nI (dSc T d) ∧ μ.1 (a + 3) d = nI (dNm T d) ∧ μ.1 (a + 4) d = nI (dPb T d)) ∧
  (∀ i, i < tI T → μ.1 (a + 5) i = nI (iTo T i) ∧ μ.1 (a + 6) i = nI (iFr T i) ∧ μ.1 (a + 7) i = enc (iSr T i) ∧ μ.1 (a + 8) i = enc (iLo T i) ∧ μ.1 (a + 9) i = nI (iEx T i) ∧ μ.1 (a + 10) i = nI (iPs T i)) ∧ (∀ u, u < tU T → μ.1 (a + 11) u = nI (uSc T u) ∧ μ.1 (a + 12) u = nI (uNm T u))
/-- the model's row -/
def MF (μ : Mm) (T : TT) : Prop := (μ.1 46 0 = nI (tS T) ∧ μ.1 46 1 = nI (tD T) ∧ μ.1 46 2 = nI (tI T) ∧ μ.1 46 3 = nI (tU T)) ∧ (∀ s, s < tS T → μ.1 46 (4 + s) = enc (tPar T s)) ∧ (∀ d, d < tD T → μ.1 46 (20 + 3 * d) = nI (dSc T d) ∧ μ.1 46 (20 + 3 * d + 1) = nI (dNm T d) ∧ μ.1 46 (20 + 3 * d + 2) = nI (dPb T d)) ∧
  (∀ i, i < tI T → μ.1 46 (110 + 6 * i) = nI (iTo T i) ∧ μ.1 46 (110 + 6 * i + 1) = nI (iFr T i) ∧ μ.1 46 (110 + 6 * i + 2) = enc (iSr T i) ∧ μ.1 46 (110 + 6 * i + 3) = enc (iLo T i) ∧ μ.1 46 (110 + 6 * i + 4) = nI (iEx T i) ∧ μ.1 46 (110 + 6 * i + 5) = nI (iPs T i)) ∧ (∀ u, u < tU T → μ.1 46 (230 + 2 * u) = nI (uSc T u) ∧ μ.1 46 (230 + 2 * u + 1) = nI (uNm T u))
/-- sets of declarations are numbers, bit by bit -/
def msub (a b : Nat) : Prop := ∀ d, a.testBit d = true → b.testBit d = true
theorem msub_rfl {a : Nat} : msub a a := fun _ h => h
theorem msub_tr {a b c : Nat} (h : msub a b) (k : msub b c) : msub a c := fun d q => k d (h d q)
theorem msub_anti {a b : Nat} (h : msub a b) (k : msub b a) : a = b := Nat.eq_of_testBit_eq fun i => by
  cases ha : a.testBit i
  · cases hb : b.testBit i
    · rfl
    · exact absurd (k i hb) (by rw [ha]; decide)
  · exact (h i ha).symm
theorem msub_0 {b : Nat} : msub 0 b := fun d h => absurd h (by rw [Nat.zero_testBit]; decide)
theorem msub_or {a b c : Nat} : msub (a ||| b) c ↔ msub a c ∧ msub b c := by
  constructor
  · intro h
    exact ⟨fun d q => h d (by rw [Nat.testBit_or, q]; rfl), fun d q => h d (by rw [Nat.testBit_or, q, Bool.or_true])⟩
  · intro h d q
    rw [Nat.testBit_or, Bool.or_eq_true] at q
    exact q.elim (h.1 d) (h.2 d)
theorem msub_orl {a b : Nat} : msub a (a ||| b) := fun d q => by rw [Nat.testBit_or, q]; rfl
theorem msub_orr {a b : Nat} : msub b (a ||| b) := fun d q => by rw [Nat.testBit_or, q, Bool.or_true]
theorem msub_or_eq {a b : Nat} (h : msub a b) : b ||| a = b := msub_anti (msub_or.mpr ⟨msub_rfl, h⟩) msub_orl
theorem or_lt30 {a b : Nat} (ha : a < 2 ^ 30) (hb : b < 2 ^ 30) : a ||| b < 2 ^ 30 := Nat.or_lt_two_pow ha hb
theorem or_nI (a b : Nat) : nI a ||| nI b = nI (a ||| b) := fa_or a b
def dIn (T : TT) (s n : Nat) : Nat → Option Nat
  | 0 => none
  | k + 1 => if dSc T k = s ∧ dNm T k = n then some k else dIn T s n k
def dOf (T : TT) (s n : Nat) : Option Nat := dIn T s n (tD T)
theorem dIn_some {T : TT} {s n d : Nat} : ∀ {k : Nat}, dIn T s n k = some d → d < k ∧ dSc T d = s ∧ dNm T d = n
  | 0, h => by cases h
  | k + 1, h => by
    unfold dIn at h
    by_cases q : dSc T k = s ∧ dNm T k = n
    · rw [if_pos q] at h
      cases h
      exact ⟨Nat.lt_succ_self _, q⟩
    · rw [if_neg q] at h
      have := dIn_some h
      exact ⟨by omega, this.2⟩
theorem dIn_none {T : TT} {s n : Nat} : ∀ {k : Nat}, dIn T s n k = none ↔ ∀ d, d < k → ¬ (dSc T d = s ∧ dNm T d = n)
  | 0 => ⟨fun _ d h => by omega, fun _ => rfl⟩
  | k + 1 => by
    unfold dIn
    by_cases q : dSc T k = s ∧ dNm T k = n
    · rw [if_pos q]
      exact ⟨fun h => (by cases h), fun h => absurd q (h k (Nat.lt_succ_self _))⟩
    · rw [if_neg q, dIn_none]
      exact ⟨fun h d hd => by
        by_cases e : d = k
        · subst e; exact q
        · exact h d (by omega), fun h d hd => h d (by omega)⟩
theorem dOf_some {T : TT} {s n d : Nat} (h : dOf T s n = some d) : d < tD T ∧ dSc T d = s ∧ dNm T d = n := dIn_some h
def om (x : Option Nat) : Nat := match x with
  | none => 0
  | some d => 2 ^ d
def ownM (T : TT) (s n : Nat) : Nat := om (dOf T s n)
def baseM (T : TT) (s n : Nat) : Nat := match dOf T s n with
  | none => 0
  | some d => if dPb T d = 1 then 2 ^ d else 0
abbrev OX : Type := Nat → Nat → Nat
def broM (T : TT) (X : OX) (i n : Nat) : Nat := match iSr T i with
  | some a => if some n = iLo T i then X (iFr T i) a else 0
  | none => if (iEx T i).testBit n = true then 0 else X (iFr T i) n
def based (T : TT) (X : OX) : Prop := ∀ s n, s < 16 → n < 26 → msub (baseM T s n) (X s n)
def closedI (T : TT) (X : OX) (i : Nat) : Prop := iPs T i = 1 → ∀ n, n < 26 → dOf T (iTo T i) n = none → msub (broM T X i n) (X (iTo T i) n)
def closed (T : TT) (X : OX) : Prop := ∀ i, i < tI T → closedI T X i
def XB (X : OX) : Prop := ∀ s n, s < 16 → n < 26 → X s n < 2 ^ 30
def IsOff (T : TT) (X : OX) : Prop := XB X ∧ based T X ∧ closed T X ∧ ∀ Y : OX, based T Y → closed T Y → ∀ s n, s < 16 → n < 26 → msub (X s n) (Y s n)
theorem IsOff_one {T : TT} {X Y : OX} (h : IsOff T X) (k : IsOff T Y) {s n : Nat} (hs : s < 16) (hn : n < 26) : X s n = Y s n :=
  msub_anti (h.2.2.2 Y k.2.1 k.2.2.1 s n hs hn) (k.2.2.2 X h.2.1 h.2.2.1 s n hs hn)
def orI (f : Nat → Nat) : Nat → Nat
  | 0 => 0
  | k + 1 => orI f k ||| f k
theorem orI_lt {f : Nat → Nat} : ∀ {k : Nat}, (∀ i, i < k → f i < 2 ^ 30) → orI f k < 2 ^ 30
  | 0, _ => by show 0 < 2 ^ 30; decide
  | k + 1, h => or_lt30 (orI_lt (fun i hi => h i (by omega))) (h k (by omega))
theorem orI_cong {f g : Nat → Nat} : ∀ {k : Nat}, (∀ i, i < k → f i = g i) → orI f k = orI g k
  | 0, _ => rfl
  | k + 1, h => by
    show orI f k ||| f k = orI g k ||| g k
    rw [orI_cong (fun i hi => h i (by omega)), h k (by omega)]
def isSg (T : TT) (i : Nat) : Nat := if (iSr T i).isSome = true then 1 else 2
def layM (T : TT) (X : OX) (s n j : Nat) : Nat := if j = 0 then ownM T s n else orI (fun i => if iTo T i = s ∧ isSg T i = j then broM T X i n else 0) (tI T)
def lay3 (T : TT) (X : OX) (s n st : Nat) : List (Nat × Nat × Nat) := (if layM T X s n 0 = 0 then [] else [(layM T X s n 0, 0, st)]) ++ ((if layM T X s n 1 = 0 then [] else [(layM T X s n 1, 1, st)]) ++ (if layM T X s n 2 = 0 then [] else [(layM T X s n 2, 2, st)]))
def chn (T : TT) (X : OX) (n : Nat) : Nat → Nat → Nat → List (Nat × Nat × Nat)
  | 0, _, _ => []
  | k + 1, s, st => lay3 T X s n st ++ (match tPar T s with
    | none => []
    | some p => chn T X n k p (st + 1))
def lays (T : TT) (X : OX) (s n : Nat) : List (Nat × Nat × Nat) := chn T X n 16 s 0
def hd1 (l : List (Nat × Nat × Nat)) : Nat := match l with
  | [] => 0
  | x :: _ => x.1
def outc (T : TT) (X : OX) (s n : Nat) : Nat := hd1 (lays T X s n)
def outU (T : TT) (X : OX) (u : Nat) : Nat := outc T X (uSc T u) (uNm T u)
theorem par_lt {T : TT} (h : VS T) {s p : Nat} (hs : s < tS T) (hp : tPar T s = some p) : p < s := by
  rcases Nat.eq_zero_or_pos s with rfl | q
  · rw [h.2.2.1] at hp; cases hp
  · obtain ⟨p', h1, h2⟩ := h.2.2.2 s q hs
    rw [h2] at hp
    cases hp
    exact h1
theorem chn_sat {T : TT} (h : VS T) {X : OX} {n : Nat} : ∀ {k k' s st : Nat}, s < tS T → s < k → s < k' → chn T X n k s st = chn T X n k' s st
  | 0, _, _, _, _, h1, _ => by omega
  | _ + 1, 0, _, _, _, _, h2 => by omega
  | k + 1, k' + 1, s, st, hs, h1, h2 => by
    show lay3 T X s n st ++ _ = lay3 T X s n st ++ _
    congr 1
    cases hp : tPar T s with
    | none => rfl
    | some p =>
      have := par_lt h hs hp
      exact chn_sat h (by omega) (by omega) (by omega)
theorem om_lt {x : Option Nat} (h : ∀ d, x = some d → d < 30) : om x < 2 ^ 30 := by
  cases x with
  | none => decide
  | some d => exact pow_lt (h d rfl)
theorem ownM_lt {T : TT} (h : VD T) (s n : Nat) : ownM T s n < 2 ^ 30 := om_lt (fun d hd => Nat.lt_of_lt_of_le (dOf_some hd).1 h.1)
theorem broM_lt {T : TT} (h : VT T) {X : OX} (hX : XB X) {i n : Nat} (hi : i < tI T) (hn : n < 26) : broM T X i n < 2 ^ 30 := by
  obtain ⟨-, hf, -, -, hk⟩ := h.2.2.1.2 i hi
  have hf16 : iFr T i < 16 := Nat.lt_of_lt_of_le hf h.1.2.1
  unfold broM
  rcases hk with ⟨h1, h2, h3⟩ | ⟨a, b, ha, hb, h1, h2, h3⟩
  · rw [h1]
    by_cases q : (iEx T i).testBit n = true
    · simp only [q, if_true]; decide
    · simp only [q]; exact hX _ _ hf16 hn
  · rw [h1]
    by_cases q : some n = iLo T i
    · simp only [q, if_true]; exact hX _ _ hf16 ha
    · simp only [q, if_false]; decide
theorem layM_lt {T : TT} (h : VT T) {X : OX} (hX : XB X) (s : Nat) {n : Nat} (hn : n < 26) (j : Nat) : layM T X s n j < 2 ^ 30 := by
  unfold layM
  by_cases q : j = 0
  · rw [if_pos q]; exact ownM_lt h.2.1 s n
  · rw [if_neg q]
    refine orI_lt (fun i hi => ?_)
    by_cases q2 : iTo T i = s ∧ isSg T i = j
    · rw [if_pos q2]; exact broM_lt h hX hi hn
    · rw [if_neg q2]; decide
/-- the component's layers at the place a -/
def CL (μ : Mm) (a : Nat) (T : TT) (X : OX) : Prop := ∀ s n, s < 16 → n < 26 → μ.1 (a + 14 + 1) (s * 26 + n) = nI (X s n) ∧ μ.1 (a + 14 + 2) (s * 26 + n) = nI (layM T X s n 0) ∧ μ.1 (a + 14 + 3) (s * 26 + n) = nI (layM T X s n 1) ∧ μ.1 (a + 14 + 4) (s * 26 + n) = nI (layM T X s n 2)
def FS (μ : Mm) (a : Nat) (T : TT) (X : OX) : Prop := VT T ∧ CF μ a T ∧ CL μ a T X ∧ XB X
