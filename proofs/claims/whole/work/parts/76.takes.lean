/-! ===== the model takes a code: what it has noted of the item ===== -/
def H0 (f : Nat → Nat) (a : Nat) (g : Nat → Int32) : Prop := scl (f a) = true ∧ g 14 = nI (f a - 65)
def H1 (f : Nat → Nat) (a : Nat) (g : Nat → Int32) : Prop := H0 f a g ∧ g 13 = nI (f (a + 1))
def N0 (g : Nat → Int32) : Prop := g 16 = -1 ∧ g 17 = -1 ∧ g 18 = 0
def BB (f : Nat → Nat) (a p : Nat) (g : Nat → Int32) : Prop := H1 f a g ∧ f (a + 1) = 60 ∧ ((p = 0 ∧ f (a + 2) ≠ 60) ∨ (p = 1 ∧ f (a + 2) = 60)) ∧ g 19 = nI p ∧ scl (f (a + 2 + p)) = true ∧ g 15 = nI (f (a + 2 + p) - 65)
def SG (f : Nat → Nat) (a p : Nat) (g : Nat → Int32) : Prop := BB f a p g ∧ f (a + 3 + p) = 46 ∧ ltl (f (a + 4 + p)) = true ∧ g 16 = nI (f (a + 4 + p) - 97)
def dSg (c : Nat) : Prop := c = 46 ∨ c = 45 ∨ c = 63
def exM (f : Nat → Nat) (b m : Nat) : Nat := orI (fun j => 2 ^ (f (b + j) - 97)) m
/-- an item that begins at a, read up to k: what is noted of it at the step s -/
def IT (f : Nat → Nat) (a k : Nat) (g : Nat → Int32) : Nat → Prop
  | 0 => k = a
  | 1 => k = a + 1 ∧ H0 f a g
  | 2 => k = a + 2 ∧ H1 f a g ∧ dSg (f (a + 1))
  | 3 => k = a + 2 ∧ H1 f a g ∧ f (a + 1) = 60 ∧ N0 g ∧ g 19 = 0
  | 4 => k = a + 3 ∧ H1 f a g ∧ f (a + 1) = 60 ∧ f (a + 2) = 60 ∧ N0 g ∧ g 19 = 1
  | 5 => ∃ p, k = a + 3 + p ∧ BB f a p g ∧ N0 g
  | 6 => ∃ p, k = a + 4 + p ∧ BB f a p g ∧ N0 g ∧ f (a + 3 + p) = 46
  | 7 => ∃ p, k = a + 5 + p ∧ SG f a p g ∧ g 17 = -1
  | 8 => ∃ p, k = a + 6 + p ∧ SG f a p g ∧ f (a + 5 + p) = 61
  | 9 => ∃ p, k = a + 4 + p ∧ BB f a p g ∧ N0 g ∧ f (a + 3 + p) = 47
  | 10 => ∃ p, a + 5 + p ≤ k ∧ BB f a p g ∧ g 16 = -1 ∧ f (a + 3 + p) = 47 ∧ (∀ j, a + 4 + p ≤ j → j < k → ltl (f j) = true) ∧ g 18 = nI (exM f (a + 4 + p) (k - (a + 4 + p)))
  | 11 => (k = a + 2 ∧ H1 f a g ∧ f (a + 1) = 94) ∨ (k = a + 3 ∧ H1 f a g ∧ dSg (f (a + 1)) ∧ ltl (f (a + 2)) = true ∧ g 16 = nI (f (a + 2) - 97)) ∨ (∃ p, k = a + 7 + p ∧ SG f a p g ∧ f (a + 5 + p) = 61 ∧ ltl (f (a + 6 + p)) = true ∧ g 17 = nI (f (a + 6 + p) - 97))
  | _ => False
section ITc
variable {f : Nat → Nat} {a p : Nat} {g g' : Nat → Int32}
theorem H0_c (h : H0 f a g) (e : g' 14 = g 14) : H0 f a g' := ⟨h.1, e.trans h.2⟩
theorem H1_c (h : H1 f a g) (e : g' 13 = g 13) (e2 : g' 14 = g 14) : H1 f a g' := ⟨H0_c h.1 e2, e.trans h.2⟩
theorem N0_c (h : N0 g) (e : g' 16 = g 16) (e2 : g' 17 = g 17) (e3 : g' 18 = g 18) : N0 g' := ⟨e.trans h.1, e2.trans h.2.1, e3.trans h.2.2⟩
theorem BB_c (h : BB f a p g) (e : g' 13 = g 13) (e2 : g' 14 = g 14) (e3 : g' 15 = g 15) (e4 : g' 19 = g 19) : BB f a p g' := ⟨H1_c h.1 e e2, h.2.1, h.2.2.1, e4.trans h.2.2.2.1, h.2.2.2.2.1, e3.trans h.2.2.2.2.2⟩
theorem SG_c (h : SG f a p g) (e : g' 13 = g 13) (e2 : g' 14 = g 14) (e3 : g' 15 = g 15) (e4 : g' 19 = g 19) (e5 : g' 16 = g 16) : SG f a p g' := ⟨BB_c h.1 e e2 e3 e4, h.2.1, h.2.2.1, e5.trans h.2.2.2⟩
end ITc
def frT (μ ν : Mm) : Prop := ν.2 = μ.2 ∧ (∀ p, p ≠ 45 → ν.1 p = μ.1 p) ∧ ∀ j, j < 12 ∨ 20 ≤ j → ν.1 45 j = μ.1 45 j
theorem frT_refl {μ : Mm} : frT μ μ := ⟨rfl, fun _ _ => rfl, fun _ _ => rfl⟩
theorem frT_tr {μ ν ξ : Mm} (h : frT μ ν) (k : frT ν ξ) : frT μ ξ := ⟨k.1.trans h.1, fun p hp => (k.2.1 p hp).trans (h.2.1 p hp), fun j hj => (k.2.2 j hj).trans (h.2.2 j hj)⟩
theorem frT_put {μ ν : Mm} (h : frT μ ν) {k : Nat} {v : Int32} (hk : 12 ≤ k ∧ k < 20) : frT μ (setI ν 45 k v) := ⟨h.1, fun p hp => by rw [setI_n _ _ _ hp]; exact h.2.1 p hp, fun j hj => by rw [setI_ne _ _ _ _ (by omega)]; exact h.2.2 j hj⟩
theorem s1 (μ : Mm) {k j : Nat} {v : Int32} (h : j ≠ k) : (setI μ 45 k v).1 45 j = μ.1 45 j := setI_ne _ _ _ _ h
theorem s2 (μ : Mm) {k k2 j : Nat} {v v2 : Int32} (h : j ≠ k) (h2 : j ≠ k2) : (setI (setI μ 45 k v) 45 k2 v2).1 45 j = μ.1 45 j := (s1 _ h2).trans (s1 _ h)
theorem s21 (μ : Mm) {k k2 : Nat} {v v2 : Int32} (h2 : k ≠ k2) : (setI (setI μ 45 k v) 45 k2 v2).1 45 k = v := (s1 _ h2).trans (setI_same _ _ _ _)
section TK
variable {μ : Mm}
theorem goes_0 {v : Int32} : X4_goes 0 v μ = some (0, setI μ 45 12 (μ.1 45 12)) := by
  unfold X4_goes X4_goes_j13
  rw [if_pos rfl, bd_eq, rz_eq b01_0]
theorem goes_1 {v : Int32} : X4_goes 1 v μ = some (1, setI μ 45 12 v) := by
  unfold X4_goes X4_goes_j13
  rw [if_neg (by decide), bd_eq, rz_eq b01_1]
theorem goes_if {c : Prop} [Decidable c] {v : Int32} : X4_goes (if c then (1 : Int32) else 0) v μ = some (if c then (1 : Int32) else 0, setI μ 45 12 (if c then v else μ.1 45 12)) := by
  by_cases h : c
  · rw [if_pos h, if_pos h, goes_1]
  · rw [if_neg h, if_neg h, goes_0]
set_option maxRecDepth 100000 in
theorem scLet : ∀ c, c < 127 → X4_isScopeLetter (nI c) = some (if scl c = true then 1 else 0) := by decide +kernel
set_option maxRecDepth 100000 in
theorem nmLet : ∀ c, c < 127 → X4_isNameLetter (nI c) = some (if ltl c = true then 1 else 0) := by decide +kernel
theorem ltl_of {c : Nat} (h : ltl c = true) : 97 ≤ c ∧ c ≤ 122 := by
  unfold ltl at h
  rw [Bool.and_eq_true, decide_eq_true_eq, decide_eq_true_eq] at h
  exact h
theorem scl_of {c : Nat} (h : scl c = true) : 65 ≤ c ∧ c ≤ 80 := by
  unfold scl at h
  rw [Bool.and_eq_true, decide_eq_true_eq, decide_eq_true_eq] at h
  exact h
theorem rz0 {β : Type} {k : Option β} : rz 0 k = k := rz_eq b01_0
theorem rz1 {β : Type} {k : Option β} : rz 1 k = k := rz_eq b01_1
theorem name_no {c : Nat} (hc : c < 127) (h : ¬ ltl c = true) : X4_takesName (nI c) μ = some (0, setI μ 45 12 (μ.1 45 12)) := by
  unfold X4_takesName X4_takesName_j29 X4_takesName_j60 X4_takesName_j72 X4_takesName_j104
  rw [nmLet c hc, bi_eq, if_neg h, if_pos rfl, if_pos rfl, if_pos rfl]
  by_cases q : μ.1 45 12 = 6
  · rw [if_pos q, goes_0, bn_eq, rz0]
  · rw [if_neg q, goes_0, bn_eq, rz0]
theorem sub97 {c : Nat} (h : ltl c = true) : nI c - 97 = nI (c - 97) := by
  rw [show (97 : Int32) = nI 97 from rfl, nI_sb (ltl_of h).1]
theorem sub65 {c : Nat} (h : scl c = true) : nI c - 65 = nI (c - 65) := by
  rw [show (65 : Int32) = nI 65 from rfl, nI_sb (scl_of h).1]
theorem name_8 {c : Nat} (hc : c < 127) (h : ltl c = true) (h12 : μ.1 45 12 = 8) : X4_takesName (nI c) μ = some (1, setI (setI μ 45 17 (nI (c - 97))) 45 12 11) := by
  unfold X4_takesName X4_takesName_j72
  rw [nmLet c hc, bi_eq, if_pos h, if_neg (by decide), h12, if_pos rfl, sub97 h, bd_eq, s1 μ (show 12 ≠ 17 by decide), h12, if_neg (by decide), if_pos (by decide), goes_1, bn_eq, rz1]
theorem name_9 {c : Nat} (hc : c < 127) (h : ltl c = true) {s : Nat} (hs : s = 9 ∨ s = 10) (h12 : μ.1 45 12 = nI s) : X4_takesName (nI c) μ = some (1, setI (setI μ 45 18 (μ.1 45 18 ||| nI (2 ^ (c - 97)))) 45 12 10) := by
  have hh := ltl_of h
  unfold X4_takesName X4_takesName_j29 X4_takesName_j72
  rw [nmLet c hc, bi_eq, if_pos h, if_neg (by decide), h12, if_neg (by rcases hs with rfl | rfl <;> decide), if_neg (by decide), if_neg (by rcases hs with rfl | rfl <;> decide), sub97 h, one_pow (by omega), bd_eq, s1 μ (show 12 ≠ 18 by decide), h12, if_neg (by rcases hs with rfl | rfl <;> decide), if_neg (by rcases hs with rfl | rfl <;> decide), goes_1, bn_eq, rz1]
theorem name_2 {c : Nat} (hc : c < 127) (h : ltl c = true) (h12 : μ.1 45 12 = 2) : X4_takesName (nI c) μ = some (1, setI (setI μ 45 16 (nI (c - 97))) 45 12 11) := by
  unfold X4_takesName X4_takesName_j29 X4_takesName_j60 X4_takesName_j72
  rw [nmLet c hc, bi_eq, if_pos h, if_neg (by decide), h12, if_neg (by decide), if_neg (by decide), if_pos (by decide), if_neg (by decide), sub97 h, bd_eq, s1 μ (show 12 ≠ 16 by decide), h12, if_neg (by decide), if_pos (by decide), goes_1, bn_eq, rz1]
theorem name_6 {c : Nat} (hc : c < 127) (h : ltl c = true) (h12 : μ.1 45 12 = 6) : X4_takesName (nI c) μ = some (1, setI (setI μ 45 16 (nI (c - 97))) 45 12 7) := by
  unfold X4_takesName X4_takesName_j29 X4_takesName_j60 X4_takesName_j72 X4_takesName_j104
  rw [nmLet c hc, bi_eq, if_pos h, if_neg (by decide), h12, if_neg (by decide), if_neg (by decide), if_pos (by decide), if_neg (by decide), sub97 h, bd_eq, s1 μ (show 12 ≠ 16 by decide), h12, if_pos rfl, goes_1, bn_eq, rz1]
theorem from_j26 {c : Nat} (hc : c < 127) : ∃ ν, X4_takesFrom_j26 (nI c) μ = some (if scl c = true then (1 : Int32) else 0, ν) ∧ frT μ ν ∧ (scl c = true → ν = setI (setI μ 45 15 (nI (c - 65))) 45 12 5) := by
  unfold X4_takesFrom_j26 X4_takesFrom_j45
  rw [scLet c hc, bi_eq]
  by_cases h : scl c = true
  · rw [if_pos h, if_neg (by decide), sub65 h, bd_eq, bi_eq, goes_1, bn_eq, rz1]
    exact ⟨_, rfl, frT_put (frT_put frT_refl (by decide)) (by decide), fun _ => rfl⟩
  · rw [if_neg h, if_pos rfl, bd_eq, bi_eq, goes_0, bn_eq, rz0]
    exact ⟨_, rfl, frT_put (frT_put frT_refl (by decide)) (by decide), fun z => absurd z h⟩
set_option maxRecDepth 100000 in
theorem ce_tab : ∀ s, s < 12 → (if nI s = 5 then some (1 : Int32) else (if nI s = 7 then some (1 : Int32) else some ((if nI s < 10 then (0 : Int32) else 1)))) = some (nI (if cE s = true then 1 else 0)) := by decide +kernel
theorem canEnd_eq {s : Nat} (hs : s < 12) (h12 : μ.1 45 12 = nI s) : X4_canEnd μ = some (nI (if cE s = true then 1 else 0)) := by
  unfold X4_canEnd X4_canEnd_j26
  rw [h12]
  exact ce_tab s hs
end TK
/-- what taking a code does -/
def TKO (μ : Mm) (f : Nat → Nat) (a k s : Nat) (r : Option (Int32 × Mm)) : Prop := ∃ ν q, r = some (q, ν) ∧ frT μ ν ∧ match tk s (f k) with
  | none => q = 0
  | some s' => q = 1 ∧ ν.1 45 12 = nI s' ∧ IT f a (k + 1) (ν.1 45) s' ∧ f k ≠ 44
section TKE
variable {μ : Mm} {f : Nat → Nat} {a k : Nat}
theorem TKO_no {s : Nat} {r : Option (Int32 × Mm)} {ν : Mm} (h : tk s (f k) = none) (e : r = some (0, ν)) (hf : frT μ ν) : TKO μ f a k s r := ⟨ν, 0, e, hf, by rw [h]⟩
theorem TKO_yes {s s' : Nat} {r : Option (Int32 × Mm)} {ν : Mm} (h : tk s (f k) = some s') (e : r = some (1, ν)) (hf : frT μ ν) (h12 : ν.1 45 12 = nI s') (hI : IT f a (k + 1) (ν.1 45) s') (h4 : f k ≠ 44) : TKO μ f a k s r := ⟨ν, 1, e, hf, by rw [h]; exact ⟨rfl, h12, hI, h4⟩⟩
theorem okt_name_no {s : Nat} (hc : f k < 127) (h : tk s (f k) = none) (hl : ¬ ltl (f k) = true) : TKO μ f a k s (bn (X4_takesName (nI (f k)) μ) fun q μ1 => rz q <| some (q, μ1)) := by
  refine TKO_no h ?_ (frT_put frT_refl (k := 12) (v := μ.1 45 12) (by decide))
  rw [name_no hc hl, bn_eq, rz0]
theorem fr2 {j1 : Nat} {v1 v2 : Int32} (h1 : 12 ≤ j1 ∧ j1 < 20) : frT μ (setI (setI μ 45 j1 v1) 45 12 v2) := frT_put (frT_put frT_refl h1) (by decide)
theorem ne_e {n c : Nat} (h : ¬ n = c) (hn : n < 127) (hc : c < 127) : ¬ (nI n : Int32) = nI c := fun z => h ((nI_eq (by omega) (by omega)).mp z)
theorem takes19_eq {s : Nat} (hc : f k < 127) (h12 : μ.1 45 12 = nI s) (hs : s < 12) (hI : IT f a k (μ.1 45) s) : TKO μ f a k s (X4_takes_j19 (nI (f k)) μ) := by
  have hcase : s = 0 ∨ s = 1 ∨ s = 2 ∨ s = 3 ∨ s = 4 ∨ s = 5 ∨ s = 6 ∨ s = 7 ∨ s = 8 ∨ s = 9 ∨ s = 10 ∨ s = 11 := by omega
  unfold X4_takes_j19
  rw [h12]
  rcases hcase with rfl | rfl | rfl | rfl | rfl | rfl | rfl | rfl | rfl | rfl | rfl | rfl
  · -- 0: a scope's letter
    have hk : k = a := hI
    have ht : tk 0 (f k) = if scl (f k) = true then some 1 else none := rfl
    rw [if_pos (by decide), scLet _ hc, bi_eq]
    unfold X4_takes_j103
    rw [scLet _ hc]
    by_cases h : scl (f k) = true
    · rw [if_pos h] at ht
      rw [if_pos h, if_neg (by decide), sub65 h, bd_eq, bi_eq, goes_1, bn_eq, rz1]
      refine TKO_yes ht rfl (fr2 (by decide)) (setI_same _ _ _ _) ⟨by omega, ?_, ?_⟩ (by have := scl_of h; omega)
      · rw [← hk]; exact h
      · rw [s21 μ (by decide), hk]
    · rw [if_neg h] at ht
      rw [if_neg h, if_pos rfl, bd_eq, bi_eq, goes_0, bn_eq, rz0]
      exact TKO_no ht rfl (fr2 (by decide))
  · -- 1: the sign
    obtain ⟨hk, h0⟩ : k = a + 1 ∧ H0 f a (μ.1 45) := hI
    have ht : tk 1 (f k) = if f k = 94 then some 11 else if f k = 60 then some 3 else if f k = 46 then some 2 else if f k = 45 then some 2 else if f k = 63 then some 2 else none := rfl
    rw [if_neg (by decide), if_pos (by decide)]
    unfold X4_takesSign
    have yes : ∀ s', tk 1 (f k) = some s' → f k ≠ 44 → (s' = 11 ∧ f k = 94 ∨ s' = 3 ∧ f k = 60 ∨ s' = 2 ∧ dSg (f k)) → ∀ w : Int32, w = nI s' → TKO μ f a k 1 (bn (if (1 : Int32) = 0 then some ((1 : Int32), μ) else (bd (setI μ 45 13 (nI (f k))) fun μ2 => bd (setI μ2 45 19 0) fun μ3 => bd (setI μ3 45 16 (-1)) fun μ4 => bd (setI μ4 45 17 (-1)) fun μ5 => bd (setI μ5 45 18 0) fun μ6 => bd (setI μ6 45 12 w) fun μ7 => some ((1 : Int32), μ7))) fun q μ1 => rz q <| some (q, μ1)) := by
      rintro s' ht' h44 hs' w rfl
      rw [if_neg (by decide), bd_eq, bd_eq, bd_eq, bd_eq, bd_eq, bd_eq, bn_eq, rz1]
      refine TKO_yes ht' rfl (frT_put (frT_put (frT_put (frT_put (frT_put (frT_put frT_refl (by decide)) (by decide)) (by decide)) (by decide)) (by decide)) (by decide)) (setI_same _ _ _ _) ?_ h44
      have g13 : (setI (setI (setI (setI (setI (setI μ 45 13 (nI (f k))) 45 19 0) 45 16 (-1)) 45 17 (-1)) 45 18 0) 45 12 (nI s')).1 45 13 = nI (f (a + 1)) := by
        rw [s1 _ (by decide), s1 _ (by decide), s1 _ (by decide), s1 _ (by decide), s1 _ (by decide), setI_same, hk]
      have g14 : (setI (setI (setI (setI (setI (setI μ 45 13 (nI (f k))) 45 19 0) 45 16 (-1)) 45 17 (-1)) 45 18 0) 45 12 (nI s')).1 45 14 = μ.1 45 14 := by
        rw [s1 _ (by decide), s1 _ (by decide), s1 _ (by decide), s1 _ (by decide), s1 _ (by decide), s1 _ (by decide)]
      have g16 : (setI (setI (setI (setI (setI (setI μ 45 13 (nI (f k))) 45 19 0) 45 16 (-1)) 45 17 (-1)) 45 18 0) 45 12 (nI s')).1 45 16 = -1 := by
        rw [s1 _ (by decide), s1 _ (by decide), s1 _ (by decide), setI_same]
      have g17 : (setI (setI (setI (setI (setI (setI μ 45 13 (nI (f k))) 45 19 0) 45 16 (-1)) 45 17 (-1)) 45 18 0) 45 12 (nI s')).1 45 17 = -1 := by
        rw [s1 _ (by decide), s1 _ (by decide), setI_same]
      have g18 : (setI (setI (setI (setI (setI (setI μ 45 13 (nI (f k))) 45 19 0) 45 16 (-1)) 45 17 (-1)) 45 18 0) 45 12 (nI s')).1 45 18 = 0 := by
        rw [s1 _ (by decide), setI_same]
      have g19 : (setI (setI (setI (setI (setI (setI μ 45 13 (nI (f k))) 45 19 0) 45 16 (-1)) 45 17 (-1)) 45 18 0) 45 12 (nI s')).1 45 19 = 0 := by
        rw [s1 _ (by decide), s1 _ (by decide), s1 _ (by decide), s1 _ (by decide), setI_same]
      have hh1 : H1 f a ((setI (setI (setI (setI (setI (setI μ 45 13 (nI (f k))) 45 19 0) 45 16 (-1)) 45 17 (-1)) 45 18 0) 45 12 (nI s')).1 45) := ⟨H0_c h0 g14, g13⟩
      rw [hk] at hs'
      rcases hs' with ⟨rfl, z⟩ | ⟨rfl, z⟩ | ⟨rfl, z⟩
      · exact Or.inl ⟨by omega, hh1, z⟩
      · exact ⟨by omega, hh1, z, ⟨g16, g17, g18⟩, g19⟩
      · exact ⟨by omega, hh1, z⟩
    by_cases c1 : f k = 94
    · have e := yes 11 (by rw [ht, if_pos c1]) (by omega) (Or.inl ⟨rfl, c1⟩) 11 rfl
      rw [bd_eq, show (nI (f k) : Int32) = 94 by rw [c1]; rfl, show (if (94 : Int32) = 94 then (1 : Int32) else (if (94 : Int32) = 46 then (1 : Int32) else (if (94 : Int32) = 45 then (1 : Int32) else (if (94 : Int32) = 63 then (1 : Int32) else (if (94 : Int32) = 60 then (1 : Int32) else 0))))) = 1 by decide, show (if (94 : Int32) = 94 then (11 : Int32) else (if (94 : Int32) = 60 then (3 : Int32) else 2)) = 11 by decide]
      rw [show (nI (f k) : Int32) = 94 by rw [c1]; rfl] at e
      exact e
    · have n1 : ¬ (nI (f k) : Int32) = 94 := ne_e (c := 94) c1 hc (by decide)
      by_cases c2 : f k = 60
      · have e := yes 3 (by rw [ht, if_neg c1, if_pos c2]) (by omega) (Or.inr (Or.inl ⟨rfl, c2⟩)) 3 rfl
        rw [bd_eq, show (nI (f k) : Int32) = 60 by rw [c2]; rfl, show (if (60 : Int32) = 94 then (1 : Int32) else (if (60 : Int32) = 46 then (1 : Int32) else (if (60 : Int32) = 45 then (1 : Int32) else (if (60 : Int32) = 63 then (1 : Int32) else (if (60 : Int32) = 60 then (1 : Int32) else 0))))) = 1 by decide, show (if (60 : Int32) = 94 then (11 : Int32) else (if (60 : Int32) = 60 then (3 : Int32) else 2)) = 3 by decide]
        rw [show (nI (f k) : Int32) = 60 by rw [c2]; rfl] at e
        exact e
      · have n2 : ¬ (nI (f k) : Int32) = 60 := ne_e (c := 60) c2 hc (by decide)
        by_cases c3 : f k = 46
        · have e := yes 2 (by rw [ht, if_neg c1, if_neg c2, if_pos c3]) (by omega) (Or.inr (Or.inr ⟨rfl, Or.inl c3⟩)) 2 rfl
          rw [bd_eq, show (nI (f k) : Int32) = 46 by rw [c3]; rfl, show (if (46 : Int32) = 94 then (1 : Int32) else (if (46 : Int32) = 46 then (1 : Int32) else (if (46 : Int32) = 45 then (1 : Int32) else (if (46 : Int32) = 63 then (1 : Int32) else (if (46 : Int32) = 60 then (1 : Int32) else 0))))) = 1 by decide, show (if (46 : Int32) = 94 then (11 : Int32) else (if (46 : Int32) = 60 then (3 : Int32) else 2)) = 2 by decide]
          rw [show (nI (f k) : Int32) = 46 by rw [c3]; rfl] at e
          exact e
        · have n3 : ¬ (nI (f k) : Int32) = 46 := ne_e (c := 46) c3 hc (by decide)
          by_cases c4 : f k = 45
          · have e := yes 2 (by rw [ht, if_neg c1, if_neg c2, if_neg c3, if_pos c4]) (by omega) (Or.inr (Or.inr ⟨rfl, Or.inr (Or.inl c4)⟩)) 2 rfl
            rw [bd_eq, show (nI (f k) : Int32) = 45 by rw [c4]; rfl, show (if (45 : Int32) = 94 then (1 : Int32) else (if (45 : Int32) = 46 then (1 : Int32) else (if (45 : Int32) = 45 then (1 : Int32) else (if (45 : Int32) = 63 then (1 : Int32) else (if (45 : Int32) = 60 then (1 : Int32) else 0))))) = 1 by decide, show (if (45 : Int32) = 94 then (11 : Int32) else (if (45 : Int32) = 60 then (3 : Int32) else 2)) = 2 by decide]
            rw [show (nI (f k) : Int32) = 45 by rw [c4]; rfl] at e
            exact e
          · have n4 : ¬ (nI (f k) : Int32) = 45 := ne_e (c := 45) c4 hc (by decide)
            by_cases c5 : f k = 63
            · have e := yes 2 (by rw [ht, if_neg c1, if_neg c2, if_neg c3, if_neg c4, if_pos c5]) (by omega) (Or.inr (Or.inr ⟨rfl, Or.inr (Or.inr c5)⟩)) 2 rfl
              rw [bd_eq, show (nI (f k) : Int32) = 63 by rw [c5]; rfl, show (if (63 : Int32) = 94 then (1 : Int32) else (if (63 : Int32) = 46 then (1 : Int32) else (if (63 : Int32) = 45 then (1 : Int32) else (if (63 : Int32) = 63 then (1 : Int32) else (if (63 : Int32) = 60 then (1 : Int32) else 0))))) = 1 by decide, show (if (63 : Int32) = 94 then (11 : Int32) else (if (63 : Int32) = 60 then (3 : Int32) else 2)) = 2 by decide]
              rw [show (nI (f k) : Int32) = 63 by rw [c5]; rfl] at e
              exact e
            · have n5 : ¬ (nI (f k) : Int32) = 63 := ne_e (c := 63) c5 hc (by decide)
              rw [bd_eq, if_neg n1, if_neg n3, if_neg n4, if_neg n5, if_neg n2, if_pos rfl, bn_eq, rz0]
              exact TKO_no (by rw [ht, if_neg c1, if_neg c2, if_neg c3, if_neg c4, if_neg c5]) rfl frT_refl
  · -- 2: the name behind . - ?
    obtain ⟨hk, h1, hd⟩ : k = a + 2 ∧ H1 f a (μ.1 45) ∧ dSg (f (a + 1)) := hI
    have ht : tk 2 (f k) = if ltl (f k) = true then some 11 else none := rfl
    rw [if_neg (by decide), if_neg (by decide), if_pos (by decide)]
    by_cases h : ltl (f k) = true
    · rw [if_pos h] at ht
      rw [name_2 hc h h12, bn_eq, rz1]
      refine TKO_yes ht rfl (fr2 (by decide)) (setI_same _ _ _ _) (Or.inr (Or.inl ⟨by omega, H1_c h1 (s2 μ (by decide) (by decide)) (s2 μ (by decide) (by decide)), hd, ?_, ?_⟩)) (by have := ltl_of h; omega)
      · rw [← hk]; exact h
      · rw [s21 μ (by decide), hk]
    · rw [if_neg h] at ht
      exact okt_name_no hc ht h
  · -- 3: a second < or the scope
    obtain ⟨hk, h1, hd, hn, h19⟩ : k = a + 2 ∧ H1 f a (μ.1 45) ∧ f (a + 1) = 60 ∧ N0 (μ.1 45) ∧ μ.1 45 19 = 0 := hI
    have ht : tk 3 (f k) = if f k = 60 then some 4 else if scl (f k) = true then some 5 else none := rfl
    rw [if_neg (by decide), if_neg (by decide), if_neg (by decide), if_pos (by decide)]
    unfold X4_takesFrom
    rw [h12, if_pos (by decide)]
    by_cases c1 : f k = 60
    · rw [if_pos c1] at ht
      rw [if_pos (show (nI (f k) : Int32) = 60 by rw [c1]; rfl), bd_eq, goes_1, bn_eq, rz1, bn_eq, rz1]
      refine TKO_yes ht rfl (fr2 (by decide)) (setI_same _ _ _ _) ⟨by omega, H1_c h1 (s2 μ (by decide) (by decide)) (s2 μ (by decide) (by decide)), hd, by rw [← hk]; exact c1, N0_c hn (s2 μ (by decide) (by decide)) (s2 μ (by decide) (by decide)) (s2 μ (by decide) (by decide)), s21 μ (by decide)⟩ (by omega)
    · rw [if_neg c1] at ht
      rw [if_neg (show ¬ (nI (f k) : Int32) = 60 from ne_e (c := 60) c1 hc (by decide))]
      obtain ⟨ν, e, hf, hy⟩ := from_j26 (μ := μ) hc
      rw [e, bn_eq]
      by_cases h : scl (f k) = true
      · rw [if_pos h] at ht
        rw [if_pos h, rz1]
        have hν := hy h
        subst hν
        refine TKO_yes ht rfl hf (setI_same _ _ _ _) ⟨0, by omega, ⟨H1_c h1 (s2 μ (by decide) (by decide)) (s2 μ (by decide) (by decide)), hd, Or.inl ⟨rfl, by rw [← hk]; exact c1⟩, ?_, ?_, ?_⟩, N0_c hn (s2 μ (by decide) (by decide)) (s2 μ (by decide) (by decide)) (s2 μ (by decide) (by decide))⟩ (by have := scl_of h; omega)
        · rw [s2 μ (by decide) (by decide), h19]; rfl
        · rw [Nat.add_zero, ← hk]; exact h
        · rw [s21 μ (by decide), hk]
      · rw [if_neg h] at ht
        rw [if_neg h, rz0]
        exact TKO_no ht rfl hf
  · -- 4: the scope behind <<
    obtain ⟨hk, h1, hd, hd2, hn, h19⟩ : k = a + 3 ∧ H1 f a (μ.1 45) ∧ f (a + 1) = 60 ∧ f (a + 2) = 60 ∧ N0 (μ.1 45) ∧ μ.1 45 19 = 1 := hI
    have ht : tk 4 (f k) = if scl (f k) = true then some 5 else none := rfl
    rw [if_neg (by decide), if_neg (by decide), if_neg (by decide), if_neg (by decide), if_pos (by decide)]
    unfold X4_takesFrom
    rw [h12, if_neg (by decide)]
    obtain ⟨ν, e, hf, hy⟩ := from_j26 (μ := μ) hc
    rw [e, bn_eq]
    by_cases h : scl (f k) = true
    · rw [if_pos h] at ht
      rw [if_pos h, rz1]
      have hν := hy h
      subst hν
      refine TKO_yes ht rfl hf (setI_same _ _ _ _) ⟨1, by omega, ⟨H1_c h1 (s2 μ (by decide) (by decide)) (s2 μ (by decide) (by decide)), hd, Or.inr ⟨rfl, hd2⟩, ?_, ?_, ?_⟩, N0_c hn (s2 μ (by decide) (by decide)) (s2 μ (by decide) (by decide)) (s2 μ (by decide) (by decide))⟩ (by have := scl_of h; omega)
      · rw [s2 μ (by decide) (by decide), h19]; rfl
      · rw [show a + 2 + 1 = k by omega]; exact h
      · rw [s21 μ (by decide), show a + 2 + 1 = k by omega]
    · rw [if_neg h] at ht
      rw [if_neg h, rz0]
      exact TKO_no ht rfl hf
  · -- 5: . or /
    obtain ⟨p, hk, hb, hn⟩ : ∃ p, k = a + 3 + p ∧ BB f a p (μ.1 45) ∧ N0 (μ.1 45) := hI
    have ht : tk 5 (f k) = if f k = 46 then some 6 else if f k = 47 then some 9 else none := rfl
    rw [if_neg (by decide), if_neg (by decide), if_neg (by decide), if_neg (by decide), if_neg (by decide), if_pos (by decide)]
    unfold X4_takes_j168
    by_cases c1 : f k = 46
    · rw [if_pos c1] at ht
      rw [if_pos (show (nI (f k) : Int32) = 46 by rw [c1]; rfl), goes_1, bn_eq, if_neg (by decide)]
      exact TKO_yes ht rfl (frT_put frT_refl (by decide)) (setI_same _ _ _ _) ⟨p, by omega, BB_c hb (s1 μ (by decide)) (s1 μ (by decide)) (s1 μ (by decide)) (s1 μ (by decide)), N0_c hn (s1 μ (by decide)) (s1 μ (by decide)) (s1 μ (by decide)), by rw [← hk]; exact c1⟩ (by omega)
    · rw [if_neg c1] at ht
      rw [if_neg (show ¬ (nI (f k) : Int32) = 46 from ne_e (c := 46) c1 hc (by decide)), goes_0, bn_eq, if_pos rfl]
      by_cases c2 : f k = 47
      · rw [if_pos c2] at ht
        rw [if_pos (show (nI (f k) : Int32) = 47 by rw [c2]; rfl), goes_1, bn_eq, if_neg (by decide)]
        exact TKO_yes ht rfl (fr2 (by decide)) (setI_same _ _ _ _) ⟨p, by omega, BB_c hb (s2 μ (by decide) (by decide)) (s2 μ (by decide) (by decide)) (s2 μ (by decide) (by decide)) (s2 μ (by decide) (by decide)), N0_c hn (s2 μ (by decide) (by decide)) (s2 μ (by decide) (by decide)) (s2 μ (by decide) (by decide)), by rw [← hk]; exact c2⟩ (by omega)
      · rw [if_neg c2] at ht
        rw [if_neg (show ¬ (nI (f k) : Int32) = 47 from ne_e (c := 47) c2 hc (by decide)), goes_0, bn_eq, if_pos rfl]
        exact TKO_no ht rfl (fr2 (by decide))
  · -- 6: the source
    obtain ⟨p, hk, hb, hn, h46⟩ : ∃ p, k = a + 4 + p ∧ BB f a p (μ.1 45) ∧ N0 (μ.1 45) ∧ f (a + 3 + p) = 46 := hI
    have ht : tk 6 (f k) = if ltl (f k) = true then some 7 else none := rfl
    rw [if_neg (by decide), if_neg (by decide), if_neg (by decide), if_neg (by decide), if_neg (by decide), if_neg (by decide), if_pos (by decide)]
    by_cases h : ltl (f k) = true
    · rw [if_pos h] at ht
      rw [name_6 hc h h12, bn_eq, rz1]
      refine TKO_yes ht rfl (fr2 (by decide)) (setI_same _ _ _ _) ⟨p, by omega, ⟨BB_c hb (s2 μ (by decide) (by decide)) (s2 μ (by decide) (by decide)) (s2 μ (by decide) (by decide)) (s2 μ (by decide) (by decide)), h46, ?_, ?_⟩, ?_⟩ (by have := ltl_of h; omega)
      · rw [← hk]; exact h
      · rw [s21 μ (by decide), hk]
      · rw [s2 μ (by decide) (by decide)]; exact hn.2.1
    · rw [if_neg h] at ht
      exact okt_name_no hc ht h
  · -- 7: =
    obtain ⟨p, hk, hg, h17⟩ : ∃ p, k = a + 5 + p ∧ SG f a p (μ.1 45) ∧ μ.1 45 17 = -1 := hI
    have ht : tk 7 (f k) = if f k = 61 then some 8 else none := rfl
    rw [if_neg (by decide), if_neg (by decide), if_neg (by decide), if_neg (by decide), if_neg (by decide), if_neg (by decide), if_neg (by decide), if_pos (by decide)]
    by_cases c1 : f k = 61
    · rw [if_pos c1] at ht
      rw [if_pos (show (nI (f k) : Int32) = 61 by rw [c1]; rfl), goes_1, bn_eq, rz1]
      exact TKO_yes ht rfl (frT_put frT_refl (by decide)) (setI_same _ _ _ _) ⟨p, by omega, SG_c hg (s1 μ (by decide)) (s1 μ (by decide)) (s1 μ (by decide)) (s1 μ (by decide)) (s1 μ (by decide)), by rw [← hk]; exact c1⟩ (by omega)
    · rw [if_neg c1] at ht
      rw [if_neg (show ¬ (nI (f k) : Int32) = 61 from ne_e (c := 61) c1 hc (by decide)), goes_0, bn_eq, rz0]
      exact TKO_no ht rfl (frT_put frT_refl (by decide))
  · -- 8: the local name
    obtain ⟨p, hk, hg, h61⟩ : ∃ p, k = a + 6 + p ∧ SG f a p (μ.1 45) ∧ f (a + 5 + p) = 61 := hI
    have ht : tk 8 (f k) = if ltl (f k) = true then some 11 else none := rfl
    rw [if_neg (by decide), if_neg (by decide), if_neg (by decide), if_neg (by decide), if_neg (by decide), if_neg (by decide), if_neg (by decide), if_neg (by decide), if_pos (by decide)]
    by_cases h : ltl (f k) = true
    · rw [if_pos h] at ht
      rw [name_8 hc h h12, bn_eq, rz1]
      refine TKO_yes ht rfl (fr2 (by decide)) (setI_same _ _ _ _) (Or.inr (Or.inr ⟨p, by omega, SG_c hg (s2 μ (by decide) (by decide)) (s2 μ (by decide) (by decide)) (s2 μ (by decide) (by decide)) (s2 μ (by decide) (by decide)) (s2 μ (by decide) (by decide)), h61, ?_, ?_⟩)) (by have := ltl_of h; omega)
      · rw [← hk]; exact h
      · rw [s21 μ (by decide), hk]
    · rw [if_neg h] at ht
      exact okt_name_no hc ht h
  · -- 9: the first excepted name
    obtain ⟨p, hk, hb, hn, h47⟩ : ∃ p, k = a + 4 + p ∧ BB f a p (μ.1 45) ∧ N0 (μ.1 45) ∧ f (a + 3 + p) = 47 := hI
    have ht : tk 9 (f k) = if ltl (f k) = true then some 10 else none := rfl
    rw [if_neg (by decide), if_neg (by decide), if_neg (by decide), if_neg (by decide), if_neg (by decide), if_neg (by decide), if_neg (by decide), if_neg (by decide), if_neg (by decide), if_pos (by decide)]
    by_cases h : ltl (f k) = true
    · rw [if_pos h] at ht
      rw [name_9 hc h (Or.inl rfl) h12, bn_eq, rz1]
      refine TKO_yes ht rfl (fr2 (by decide)) (setI_same _ _ _ _) ⟨p, by omega, BB_c hb (s2 μ (by decide) (by decide)) (s2 μ (by decide) (by decide)) (s2 μ (by decide) (by decide)) (s2 μ (by decide) (by decide)), ?_, h47, fun j h1 h2 => ?_, ?_⟩ (by have := ltl_of h; omega)
      · rw [s2 μ (by decide) (by decide)]; exact hn.1
      · rw [show j = k by omega]; exact h
      · rw [s21 μ (by decide), hn.2.2, show (0 : Int32) = nI 0 from rfl, or_nI, show k + 1 - (a + 4 + p) = 1 by omega]
        show _ = nI (0 ||| 2 ^ (f (a + 4 + p + 0) - 97))
        rw [Nat.add_zero, hk]
    · rw [if_neg h] at ht
      exact okt_name_no hc ht h
  · -- 10: one more excepted name
    obtain ⟨p, hk, hb, h16, h47, hall, h18⟩ : ∃ p, a + 5 + p ≤ k ∧ BB f a p (μ.1 45) ∧ μ.1 45 16 = -1 ∧ f (a + 3 + p) = 47 ∧ (∀ j, a + 4 + p ≤ j → j < k → ltl (f j) = true) ∧ μ.1 45 18 = nI (exM f (a + 4 + p) (k - (a + 4 + p))) := hI
    have ht : tk 10 (f k) = if ltl (f k) = true then some 10 else none := rfl
    rw [if_neg (by decide), if_neg (by decide), if_neg (by decide), if_neg (by decide), if_neg (by decide), if_neg (by decide), if_neg (by decide), if_neg (by decide), if_neg (by decide), if_neg (by decide), if_pos (by decide)]
    by_cases h : ltl (f k) = true
    · rw [if_pos h] at ht
      rw [name_9 hc h (Or.inr rfl) h12, bn_eq, rz1]
      refine TKO_yes ht rfl (fr2 (by decide)) (setI_same _ _ _ _) ⟨p, by omega, BB_c hb (s2 μ (by decide) (by decide)) (s2 μ (by decide) (by decide)) (s2 μ (by decide) (by decide)) (s2 μ (by decide) (by decide)), ?_, h47, fun j h1 h2 => ?_, ?_⟩ (by have := ltl_of h; omega)
      · rw [s2 μ (by decide) (by decide)]; exact h16
      · by_cases e : j = k
        · rw [e]; exact h
        · exact hall j h1 (by omega)
      · rw [s21 μ (by decide), h18, or_nI, show k + 1 - (a + 4 + p) = k - (a + 4 + p) + 1 by omega]
        show _ = nI (orI (fun j => 2 ^ (f (a + 4 + p + j) - 97)) (k - (a + 4 + p)) ||| 2 ^ (f (a + 4 + p + (k - (a + 4 + p))) - 97))
        rw [show a + 4 + p + (k - (a + 4 + p)) = k by omega]
        rfl
    · rw [if_neg h] at ht
      exact okt_name_no hc ht h
  · -- 11: no more
    have ht : tk 11 (f k) = none := rfl
    rw [if_neg (by decide), if_neg (by decide), if_neg (by decide), if_neg (by decide), if_neg (by decide), if_neg (by decide), if_neg (by decide), if_neg (by decide), if_neg (by decide), if_neg (by decide), if_neg (by decide), if_pos (by decide)]
    exact TKO_no ht rfl frT_refl
theorem takes_eq {s : Nat} (hc : f k < 127) (h12 : μ.1 45 12 = nI s) (hs : s < 12) (hI : IT f a k (μ.1 45) s) (hno : ¬ (f k = 44 ∧ cE s = true)) : TKO μ f a k s (X4_takes (nI (f k)) μ) := by
  have e := takes19_eq hc h12 hs hI
  unfold X4_takes
  by_cases c1 : f k = 44
  · rw [if_pos (show (nI (f k) : Int32) = 44 by rw [c1]; rfl), canEnd_eq hs h12, bi_eq, if_neg (show ¬ cE s = true from fun z => hno ⟨c1, z⟩), if_pos zero0]
    exact e
  · rw [if_neg (show ¬ (nI (f k) : Int32) = 44 from ne_e (c := 44) c1 hc (by decide))]
    exact e
end TKE
